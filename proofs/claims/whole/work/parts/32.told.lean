/-- nothing but p .. p + n - 1 has changed -/
def AgN (p n : Nat) (h h' : am_H) : Prop := h'.1 = h.1 ∧ ∀ q, (q < p ∨ p + n ≤ q) → h'.2 q = h.2 q
theorem AgN.rf {p n : Nat} {h : am_H} : AgN p n h h := ⟨rfl, fun _ _ => rfl⟩
theorem AgN.trans {p n : Nat} {h h1 h2 : am_H} (a : AgN p n h h1) (b : AgN p n h1 h2) : AgN p n h h2 := ⟨b.1.trans a.1, fun q hq => (b.2 q hq).trans (a.2 q hq)⟩
theorem AgN.set {p n k : Nat} {h : am_H} {c : am_C} (hk : p ≤ k ∧ k < p + n) : AgN p n h (am_set h k c) := ⟨rfl, fun q hq => as_n (by omega)⟩
/-- THE ROW at p: m numbers w -/
def RD (h : am_H) (p m : Nat) (w : Nat → Int32) : Prop := h.2 p = .inr (6, [.ref (p + 1), .int (nI m)]) ∧ ∃ g, h.2 (p + 1) = aI 16 g ∧ ∀ i, i < m → g i = w i
section
variable {d : Nat} {h : am_H} {Q : Option Value → am_H → Prop} {p m : Nat} {w : Nat → Int32}
theorem D_begin (hR : RD h p m w) (hQ : ∀ h', AgN p 2 h h' → RD h' p 0 w → Q none h') : am_call (d + 1) 111 [.ref p] h Q := by
  obtain ⟨e0, g, e1, e2⟩ := hR
  refine en_X9_begin (Nat.le_of_ble_eq_true rfl) (am_run (am_cK _) 3 (am_obj_in e0 ?_))
  exact am_run (am_cK _) 1 (hQ _ (AgN.set (by omega)) ⟨as_s, g, (as_n (by omega)).trans e1, fun i hi => by omega⟩)
theorem D_add (hR : RD h p m w) (hm : m < 16) (v : Int32) (hQ : ∀ h', AgN p 2 h h' → RD h' p (m + 1) (upd w m v) → Q none h') : am_call (d + 1) 112 [.ref p, .int v] h Q := by
  obtain ⟨e0, g, e1, e2⟩ := hR
  refine en_X9_add (Nat.le_of_ble_eq_true rfl) (am_run (am_cK _) 2 (am_obj_in e0 (am_run (am_cK _) 2 ⟨fun c => absurd c (nI_ge (b := 16) hm (by omega)), fun _ => ?_⟩)))
  refine am_run (am_cK _) 2 (am_obj_in e0 (am_run (am_cK _) 2 (am_obj_in e0 (am_run (am_cK _) 2 (am_ari_in e1 ⟨vp_in_nI hm (by omega), ?_⟩)))))
  rw [nI_clamp (by omega)]
  have f0 : (am_set h (p + 1) (aI 16 (upd g m v))).2 p = .inr (6, [.ref (p + 1), .int (nI m)]) := (as_n (by omega)).trans e0
  refine am_run (am_cK _) 3 (am_obj_in f0 (am_run (am_cK _) 3 (am_obj_in f0 ?_)))
  refine am_run (am_cK _) 1 (hQ _ ((AgN.set (by omega)).trans (AgN.set (by omega))) ⟨?_, upd g m v, (as_n (by omega)).trans as_s, fun i hi => ?_⟩)
  · rw [as_s, nI_succ]; rfl
  · by_cases e : i = m
    · rw [e, upd_s, upd_s]
    · rw [upd_n e, upd_n e]; exact e2 i (by omega)
/-- beads told behind what is told -/
def wApp (w : Nat → Int32) (m : Nat) (f : Nat → Nat) : Nat → Int32 := fun i => if i < m then w i else nI (f (i - m))
theorem RD_congr {w' : Nat → Int32} (hw : ∀ i, i < m → w i = w' i) (hR : RD h p m w) : RD h p m w' := by
  obtain ⟨e0, g, e1, e2⟩ := hR
  exact ⟨e0, g, e1, fun i hi => (e2 i hi).trans (hw i hi)⟩
theorem D_addRow (hR : RD h p m w) {f : Nat → Nat} {n : Nat} (hm : m + n ≤ 16) (hn : n ≤ 10) (hf : ∀ i, i < n → f i < 4) (hQ : ∀ h', AgN p 2 h h' → RD h' p (m + n) (wApp w m f) → Q none h') : am_call (d + 2) 113 [.ref p, .int (nI (rk f n)), .int (nI n)] h Q := by
  refine en_X9_addRow (Nat.le_of_ble_eq_true rfl) (am_run (am_cK _) 2 ?_)
  suffices H : ∀ k i h', i + k = n → AgN p 2 h h' → RD h' p (m + i) (wApp w m f) → am_wp (am_call (d + 1)) (0, 0) cm_X9_addRow Q (fun _ => False) (2, [some (.ref p), some (.int (nI (rk f n))), some (.int (nI n)), some (.int (nI i))], [], 0, 0) h' from
    H n 0 h (by omega) AgN.rf (RD_congr (fun i hi => by unfold wApp; rw [if_pos (by omega)]) hR)
  intro k
  induction k with
  | zero =>
    intro i h' hi ha hR'
    have e : i = n := by omega
    subst e
    exact am_run (am_cK _) 3 ⟨fun _ => am_run (am_cK _) 1 (hQ h' ha hR'), fun c => absurd (nI_le (Nat.le_refl _) (by omega)) c⟩
  | succ k ih =>
    intro i h' hi ha hR'
    refine am_run (am_cK _) 3 ⟨fun c => absurd c (nI_ge (by omega) (by omega)), fun _ => ?_⟩
    refine am_run (am_cK _) 5 (B_colourAt hn hf (by omega) ?_)
    refine am_run (am_cK _) 1 (am_obj_in hR'.1 (D_add hR' (by omega) _ (fun h2 ha2 hR2 => ?_)))
    have zz := ih (i + 1) h2 (by omega) (ha.trans ha2) (RD_congr (fun j hj => by
      by_cases e : j = m + i
      · rw [e, upd_s]; unfold wApp; rw [if_neg (by omega), Nat.add_sub_cancel_left]
      · rw [upd_n e]) hR2)
    rw [nI_succ] at zz
    exact am_run (am_cK _) 2 zz
end
/-! THE TEXT at p: n signs -/
def RT (h : am_H) (p n : Nat) (tx : Nat → Nat) (wd wz : Int32) : Prop := h.2 p = .inr (5, [.ref (p + 1), .int (nI n), .int wd, .int wz]) ∧ n ≤ 80 ∧ ∃ g, h.2 (p + 1) = .inl (.char, 80, .inl g) ∧ ∀ i, i < n → g i = nI (tx i) ∧ tx i < 256
def byt (v : Int32) (s : Nat) : Nat := v.toBitVec.toNat / 2 ^ s % 256
theorem byt_lt (v : Int32) (s : Nat) : byt v s < 256 := Nat.mod_lt _ (by decide)
theorem byt_eq (v : Int32) {s : Nat} (hs : s < 32) : (v.toUInt32 >>> ((nI s).toUInt32 &&& Int32.toUInt32 31)).toInt32 &&& 255 = nI (byt v s) := by
  have hsu : (((nI s).toUInt32 &&& Int32.toUInt32 31).toBitVec % 32).toNat = s := (by decide +kernel : ∀ n, n < 32 → (((nI n).toUInt32 &&& Int32.toUInt32 31).toBitVec % 32).toNat = n) s hs
  rw [pk_and _ 8 (by decide), pk_ushr v (nI s) s hsu]
  rfl
/-- four signs behind the text -/
def tApp (tx : Nat → Nat) (n : Nat) (v : Int32) : Nat → Nat := fun i => if i < n then tx i else byt v (24 - 8 * (i - n))
section
variable {d : Nat} {h : am_H} {Q : Option Value → am_H → Prop} {p n : Nat} {tx : Nat → Nat} {wd wz : Int32}
theorem T_size (hR : RT h p n tx wd wz) (hQ : Q (some (.int (nI n))) h) : am_call (d + 1) 104 [.ref p] h Q :=
  en_X8_size (Nat.le_of_ble_eq_true rfl) (am_run (am_cK _) 2 (am_obj_in hR.1 (am_run (am_cK _) 1 hQ)))
theorem T_empty (hR : RT h p n tx wd wz) (hQ : ∀ h', AgN p 2 h h' → RT h' p 0 tx wd wz → Q none h') : am_call (d + 1) 108 [.ref p] h Q := by
  obtain ⟨e0, hn, g, e1, e2⟩ := hR
  refine en_X8_empty (Nat.le_of_ble_eq_true rfl) (am_run (am_cK _) 3 (am_obj_in e0 ?_))
  exact am_run (am_cK _) 1 (hQ _ (AgN.set (by omega)) ⟨as_s, by omega, g, (as_n (by omega)).trans e1, fun i hi => by omega⟩)
theorem T_signAt (hR : RT h p n tx wd wz) (i : Int32) (h1 : (i < 0 ∨ nI n ≤ i) → Q (some (.int 0)) h) (h2 : ∀ j, j < n → i = nI j → Q (some (.int (nI (tx j)))) h) : am_call (d + 1) 105 [.ref p, .int i] h Q := by
  obtain ⟨e0, hn, g, e1, e2⟩ := hR
  refine en_X8_signAt (Nat.le_of_ble_eq_true rfl) (am_run (am_cK _) 2 ⟨fun c => ?_, fun c => ?_⟩)
  · exact am_run (am_cK _) 2 ⟨⟨0, by decide, rfl⟩, h1 (Or.inl c)⟩
  · refine am_run (am_cK _) 3 (am_obj_in e0 (am_run (am_cK _) 1 ⟨fun c2 => ?_, fun c2 => ?_⟩))
    · exact am_run (am_cK _) 2 ⟨⟨0, by decide, rfl⟩, h1 (Or.inr c2)⟩
    · obtain ⟨j, hj31, hj⟩ := nI_of c
      subst hj
      have hjn : j < n := Nat.lt_of_not_le (fun z => c2 ((nI_leI (by omega) hj31).mpr z))
      refine am_run (am_cK _) 2 (am_obj_in e0 (am_run (am_cK _) 2 (am_ari_in e1 ⟨vp_in_nI (by omega) (by omega), ?_⟩)))
      rw [nI_clamp hj31, (e2 j hjn).1]
      exact am_run (am_cK _) 2 ⟨⟨tx j, by have := (e2 j hjn).2; omega, rfl⟩, h2 j hjn rfl⟩
theorem T_shorten (hR : RT h p n tx wd wz) (i : Int32) (h1 : (i < 0 ∨ nI n < i) → Q (some (.int 0)) h) (h2 : ∀ j, j ≤ n → i = nI j → ∀ h', AgN p 2 h h' → RT h' p j tx wd wz → Q (some (.int 1)) h') : am_call (d + 1) 107 [.ref p, .int i] h Q := by
  obtain ⟨e0, hn, g, e1, e2⟩ := hR
  refine en_X8_shorten (Nat.le_of_ble_eq_true rfl) (am_run (am_cK _) 2 ⟨fun c => ?_, fun c => ?_⟩)
  · exact am_run (am_cK _) 2 ⟨Or.inl rfl, h1 (Or.inl c)⟩
  · refine am_run (am_cK _) 3 (am_obj_in e0 (am_run (am_cK _) 1 ⟨fun c2 => ?_, fun c2 => ?_⟩))
    · obtain ⟨j, hj31, hj⟩ := nI_of c
      subst hj
      have hjn : j ≤ n := (nI_leI hj31 (by omega)).mp c2
      refine am_run (am_cK _) 3 (am_obj_in e0 (am_run (am_cK _) 2 ⟨Or.inr rfl, h2 j hjn rfl _ (AgN.set (by omega)) ⟨as_s, by omega, g, (as_n (by omega)).trans e1, fun i hi => e2 i (by omega)⟩⟩))
    · exact am_run (am_cK _) 2 ⟨Or.inl rfl, h1 (Or.inr (Int32.not_le.mp c2))⟩
theorem RT_congr {tx' : Nat → Nat} (hw : ∀ i, i < n → tx i = tx' i) (hR : RT h p n tx wd wz) : RT h p n tx' wd wz := by
  obtain ⟨e0, hn, g, e1, e2⟩ := hR
  exact ⟨e0, hn, g, e1, fun i hi => by rw [← hw i hi]; exact e2 i hi⟩
theorem T_append (hR : RT h p n tx wd wz) (v : Int32) (h1 : 80 < n + 4 → Q (some (.int (-1))) h) (h2 : n + 4 ≤ 80 → ∀ h', AgN p 2 h h' → RT h' p (n + 4) (tApp tx n v) wd wz → Q (some (.int (nI (n + 4)))) h') : am_call (d + 1) 106 [.ref p, .int v] h Q := by
  have hR0 := hR
  obtain ⟨e0, hn, g, e1, e2⟩ := hR
  refine en_X8_append (Nat.le_of_ble_eq_true rfl) (am_run (am_cK _) 2 (am_obj_in e0 (am_run (am_cK _) 4 ⟨fun c => ?_, fun c => ?_⟩)))
  · have hc : n + 4 ≤ 80 := (nI_leI (b := 80) (by omega) (by omega)).mp (show nI (n + 4) ≤ 80 by rw [← nI_add]; exact c)
    have step : ∀ k s h', k < 4 → s = 24 - 8 * k → AgN p 2 h h' → RT h' p (n + k) (tApp tx n v) wd wz → (∀ h', AgN p 2 h h' → RT h' p (n + (k + 1)) (tApp tx n v) wd wz → am_wp (am_call d) (0, 0) cm_X8_append Q (fun _ => False) (16, [some (.ref p), some (.int v), some (.int (nI s + (-8)))], [], 0, 0) h') → am_wp (am_call d) (0, 0) cm_X8_append Q (fun _ => False) (16, [some (.ref p), some (.int v), some (.int (nI s))], [], 0, 0) h' := by
      intro k s h' hk hs ha hR' K
      obtain ⟨f0, hn', g', f1, f2⟩ := hR'
      refine am_run (am_cK _) 2 ⟨fun c => absurd c (nI_pos (by omega)), fun _ => ?_⟩
      refine am_run (am_cK _) 2 (am_obj_in f0 (am_run (am_cK _) 2 (am_obj_in f0 (am_run (am_cK _) 7 (am_ari_in f1 ⟨vp_in_nI (by omega) (by omega), ?_⟩)))))
      have e9 : vp_nar .char ((((v.toUInt32 >>> ((nI s).toUInt32 &&& Int32.toUInt32 31)).toInt32 &&& 255).toUInt32 % 65536).toInt32) = nI (byt v s) := by
        rw [byt_eq v (by omega), pk_vc, pk_char, pk_tn (by have := byt_lt v s; omega), Nat.mod_eq_of_lt (by have := byt_lt v s; omega)]
      rw [nI_clamp (by omega), e9]
      have j0 : (am_set h' (p + 1) (.inl (.char, 80, .inl (upd g' (n + k) (nI (byt v s)))))).2 p = .inr (5, [.ref (p + 1), .int (nI (n + k)), .int wd, .int wz]) := (as_n (by omega)).trans f0
      refine am_run (am_cK _) 3 (am_obj_in j0 (am_run (am_cK _) 3 (am_obj_in j0 ?_)))
      refine am_run (am_cK _) 2 (K _ (ha.trans ((AgN.set (by omega)).trans (AgN.set (by omega)))) ⟨?_, by omega, _, (as_n (by omega)).trans as_s, fun i hi => ?_⟩)
      · rw [as_s, ← Nat.add_assoc, nI_succ]; rfl
      · by_cases e : i = n + k
        · rw [e, upd_s]
          have e2 : tApp tx n v (n + k) = byt v s := by unfold tApp; rw [if_neg (by omega), Nat.add_sub_cancel_left, hs]
          rw [e2]
          exact ⟨rfl, byt_lt v s⟩
        · rw [upd_n e]; exact f2 i (by omega)
    refine am_run (am_cK _) 2 (step 0 24 h (by omega) rfl AgN.rf (RT_congr (fun i hi => by unfold tApp; rw [if_pos (by omega)]) hR0) (fun h1 a1 r1 => ?_))
    refine step 1 16 h1 (by omega) rfl a1 r1 (fun h2' a2 r2 => ?_)
    refine step 2 8 h2' (by omega) rfl a2 r2 (fun h3 a3 r3 => ?_)
    refine step 3 0 h3 (by omega) rfl a3 r3 (fun h4 a4 r4 => ?_)
    refine am_run (am_cK _) 2 ⟨fun _ => ?_, fun c => absurd (show nI 0 + (-8) < 0 by decide) c⟩
    exact am_run (am_cK _) 2 (am_obj_in r4.1 (am_run (am_cK _) 1 (h2 hc h4 a4 r4)))
  · have hc : 80 < n + 4 := Nat.lt_of_not_le (fun z => c (show nI n + 4 ≤ 80 from by have e : nI n + 4 = nI (n + 4) := nI_add n 4; rw [e]; exact (nI_leI (b := 80) (by omega) (by omega)).mpr z))
    exact am_run (am_cK _) 2 (h1 hc)
end
