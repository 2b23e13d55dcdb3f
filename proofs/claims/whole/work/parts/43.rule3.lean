def ru0 : Ru := ([], [], 0, 0, 0, true)
def rdL (tx : Nat → Nat) : Nat → Nat → Ru → Nat × Option Ru
  | 0, i, s => (i, some s)
  | k + 1, i, s => match tk s (tx i) with
    | none => (i, none)
    | some s' => rdL tx k (i + 1) s'
def rdE (tx : Nat → Nat) (n : Nat) : Nat × Option Ru := rdL tx (Nat.min n 40) 0 ru0
/-- the fault of a rule -/
def rdF (tx : Nat → Nat) (n : Nat) : Option Nat := match rdE tx n with
  | (i, none) => some i
  | (_, some s) => if 40 < n then some 40 else if 0 < n ∧ (s.2.2.2.2.2 = true ∨ 0 < s.2.2.1) then some n else none
/-- its code, the last step first -/
def rdC (tx : Nat → Nat) (n : Nat) : List Nat := match (rdE tx n).2 with
  | some s => (stl 1 s.1 s.2.1).1
  | none => []
section
variable {d : Nat} {h : am_H} {Q : Option Value → am_H → Prop} {p : Nat}
theorem RT_fr {t n : Nat} {tx : Nat → Nat} {wd wz : Int32} {h' : am_H} (hR : RT h t n tx wd wz) (hf : ∀ x, t ≤ x → x < t + 2 → h'.2 x = h.2 x) : RT h' t n tx wd wz := by
  obtain ⟨e0, hn, g, e1, e2⟩ := hR
  exact ⟨(hf _ (by omega) (by omega)).trans e0, hn, g, (hf _ (by omega) (by omega)).trans e1, e2⟩
theorem RD_fr {t m : Nat} {w : Nat → Int32} {h' : am_H} (hR : RD h t m w) (hf : ∀ x, t ≤ x → x < t + 2 → h'.2 x = h.2 x) : RD h' t m w := by
  obtain ⟨e0, g, e1, e2⟩ := hR
  exact ⟨(hf _ (by omega) (by omega)).trans e0, g, (hf _ (by omega) (by omega)).trans e1, e2⟩
theorem U_takesOperator {L W : List Nat} {dep cmp k x : Nat} {wt : Bool} (hR : RU h p (L, W, dep, 0, cmp, wt)) (hk : Uok (L, W, dep, 0, cmp, wt) k) (hk40 : k < 40) (hx : x < 256) (hwt : wt = false) (h1 : tkO (L, W, dep, 0, cmp, wt) x = none → Q (some (.int 0)) h) (h2 : ∀ s', tkO (L, W, dep, 0, cmp, wt) x = some s' → ∀ h', AgN p 4 h h' → RU h' p s' → Q (some (.int 1)) h') : am_call (d + 3) 68 [.ref p, .int (nI x)] h Q := by
  subst hwt
  obtain ⟨a1, a2, a3, a4, a5, a6, a7, a8⟩ := hk
  simp only at a1 a2 a3 a4 a5 a6 a7 a8
  obtain ⟨g1, g2, g3, e0, e1, e2, e3, e4, e5⟩ := id hR
  have hW : ∀ w ∈ W, w < 256 := fun w hw => (a5 w hw).1
  unfold tkO at h1 h2
  simp only at h1 h2
  refine en_X6_takesOperator (Nat.le_of_ble_eq_true rfl) (am_run (am_cK _) 3 ⟨fun c => ?_, fun c => ?_⟩)
  · have c41 : ¬ x = 41 := fun z => c (by rw [z]; rfl)
    rw [if_neg c41] at h1 h2
    have hbl := bnd_le x hx
    refine am_run (am_cK _) 2 (U_binding hx ?_)
    have push : ∀ h0 cmp', 1 ≤ bnd x → AgN p 4 h h0 → RU h0 p (L, W, dep, 0, cmp', false) → (∀ h', AgN p 4 h h' → RU h' p ((stl (bnd x) L W).1, x :: (stl (bnd x) L W).2, dep, 0, cmp', true) → Q (some (.int 1)) h') → am_wp (am_call (d + 2)) (0, 0) cm_X6_takesOperator Q (fun _ => False) (95, [some (.ref p), some (.int (nI x)), some (.int (nI (bnd x)))], [], 0, 0) h0 := by
      intro h0 cmp' hb1 ha hR0 hq
      obtain ⟨k1, k2, k3, f0, f1, f2, f3, f4, f5⟩ := id hR0
      have hl := stl_len (bnd x) W L
      refine am_run (am_cK _) 3 (am_obj_in f0 (U_settleDownTo hb1 hbl hR0 (by omega) hW (fun h' ha' hR' => ?_)))
      obtain ⟨k1', k2', k3', f0', _⟩ := id hR'
      refine am_run (am_cK _) 3 (am_obj_in f0' (U_addWaiting hR' (by omega) hx (fun h2' ha2 hR2 => ?_)))
      obtain ⟨j1, j2, j3, j0, m1, m2, m3, m4, m5⟩ := hR2
      exact am_run (am_cK _) 3 (am_obj_in j0 ⟨Or.inr rfl, am_run (am_cK _) 2 ⟨Or.inr rfl, hq _ (ha.trans (ha'.trans (ha2.trans (AgN.set (by omega))))) ⟨j1, j2, j3, as_s, (as_n (by omega)).trans m1, (as_n (by omega)).trans m2, (as_n (by omega)).trans m3, m4, m5⟩⟩⟩)
    refine am_run (am_cK _) 3 ⟨fun c => ?_, fun c => ?_⟩
    · have hb0 : bnd x = 0 := (nI_eq (b := 0) (by omega) (by omega)).mp c
      rw [if_pos (Or.inl hb0)] at h1
      exact am_run (am_cK _) 2 ⟨Or.inl rfl, h1 rfl⟩
    · have hb0 : ¬ bnd x = 0 := fun z => c (show nI (bnd x) = 0 by rw [z]; rfl)
      refine am_run (am_cK _) 3 ⟨fun c => ?_, fun c => ?_⟩
      · have hb4 : ¬ bnd x = 4 := fun z => c (by rw [z]; rfl)
        rw [if_neg (fun z => z.elim hb0 hb4)] at h1 h2
        refine am_run (am_cK _) 3 ⟨fun c => ?_, fun c => ?_⟩
        · have hb1 : ¬ bnd x = 1 := fun z => c (by rw [z]; rfl)
          rw [if_neg hb1] at h2
          exact push h cmp (by omega) AgN.rf hR (fun h' ha hR' => h2 _ rfl h' ha hR')
        · have hb1 : bnd x = 1 := (nI_eq (b := 1) (by omega) (by omega)).mp (Classical.not_not.mp c)
          rw [if_pos hb1] at h1 h2
          refine am_run (am_cK _) 2 (am_obj_in e0 (am_run (am_cK _) 2 (am_obj_in e0 (am_run (am_cK _) 4 (show am_wp (am_call (d + 2)) (0, 0) cm_X6_takesOperator Q (fun _ => False) (75, [some (.ref p), some (.int (nI x)), some (.int (nI (bnd x)))], [.int 1, .int ((nI cmp >>> (nI dep &&& 31)) &&& 1)], 0, 0) h from ?_)))))
          rw [q_tb (by omega) (by omega)]
          cases htb : cmp.testBit dep with
          | true =>
            rw [htb] at h1
            exact am_run (am_cK _) 1 ⟨fun z => absurd rfl z, fun _ => am_run (am_cK _) 2 ⟨Or.inl rfl, h1 rfl⟩⟩
          | false =>
            rw [htb] at h2
            have hst := stB_eq cmp a3 dep (by omega)
            refine am_run (am_cK _) 1 ⟨fun _ => ?_, fun z => absurd (show ¬ (0 : Int32) = 1 by decide) z⟩
            refine am_run (am_cK _) 3 (am_obj_in e0 (am_run (am_cK _) 3 (am_obj_in e0 (am_run (am_cK _) 3 (am_obj_in e0 ?_)))))
            refine push _ (stB cmp dep) (by omega) (AgN.set (by omega)) ⟨g1, g2, g3, ?_, (as_n (by omega)).trans e1, (as_n (by omega)).trans e2, (as_n (by omega)).trans e3, e4, e5⟩ (fun h' ha hR' => h2 _ rfl h' ha (by rw [hb1] at hR'; exact hR'))
            rw [as_s]
            show _ = cU p _ _ _ _ (nI (stB cmp dep)) _ _
            rw [← hst.1]
            rfl
      · have hb4 : bnd x = 4 := (nI_eq (b := 4) (by omega) (by omega)).mp (Classical.not_not.mp c)
        rw [if_pos (Or.inr hb4)] at h1
        exact am_run (am_cK _) 2 ⟨Or.inl rfl, h1 rfl⟩
  · have c41 : x = 41 := (nI_eq (b := 41) (by omega) (by omega)).mp (Classical.not_not.mp c)
    rw [if_pos c41] at h1 h2
    refine am_run (am_cK _) 2 (am_obj_in e0 (am_run (am_cK _) 1 ⟨fun c => ?_, fun c => ?_⟩))
    · have hd : ¬ dep = 0 := fun z => c (show nI dep = 0 by rw [z]; rfl)
      rw [if_neg hd] at h2
      obtain ⟨W', eW⟩ := stl_par (L := L) a5 (by omega)
      have hl := stl_len 1 W L
      rw [eW, List.length_cons] at hl
      refine am_run (am_cK _) 3 (am_obj_in e0 (U_settleDownTo (b := 1) (by omega) (by omega) hR (by omega) hW (fun h' ha hR' => ?_)))
      rw [eW] at hR' h2
      obtain ⟨k1, k2, k3, f0, f1, f2, f3, f4, f5⟩ := id hR'
      refine am_run (am_cK _) 3 (am_obj_in f0 (am_run (am_cK _) 3 (am_obj_in f0 (am_run (am_cK _) 3 (am_obj_in as_s (am_run (am_cK _) 3 (am_obj_in as_s (am_run (am_cK _) 2 ⟨Or.inr rfl, h2 _ rfl _ (ha.trans ((AgN.set (by omega)).trans (AgN.set (by omega)))) ⟨k1, k2, k3, ?_, (as_n (by omega)).trans ((as_n (by omega)).trans f1), (as_n (by omega)).trans ((as_n (by omega)).trans f2), (as_n (by omega)).trans ((as_n (by omega)).trans f3), f4, Ar_pop f5⟩⟩))))))))
      rw [as_s]
      have q1 : nI (40 :: W').length - 1 = nI W'.length := pk_sub (a := W'.length + 1) (b := 1) (by omega)
      have q2 : nI dep - 1 = nI (dep - 1) := pk_sub (a := dep) (b := 1) (by omega)
      show Sum.inr (3, [Value.ref (p + 1), .ref (p + 2), .ref (p + 3), .int _, .int (nI (40 :: W').length - 1), .int (nI dep - 1), .int _, .int _, .int _, .int _]) = _
      rw [q1, q2]
      rfl
    · have hd : dep = 0 := (nI_eq (b := 0) (show dep < 2 ^ 31 by omega) (by omega)).mp (Classical.not_not.mp c)
      rw [if_pos hd] at h1
      exact am_run (am_cK _) 2 ⟨Or.inl rfl, h1 rfl⟩
theorem U_takes {s : Ru} {k x : Nat} (hR : RU h p s) (hk : Uok s k) (hk40 : k < 40) (hx : x < 256) (h1 : tk s x = none → ∀ h', AgN p 4 h h' → RU0 h' p → Q (some (.int 0)) h') (h2 : ∀ s', tk s x = some s' → ∀ h', AgN p 4 h h' → RU h' p s' → Q (some (.int 1)) h') : am_call (d + 4) 65 [.ref p, .int (nI x)] h Q := by
  obtain ⟨L, W, dep, dig, cmp, wt⟩ := s
  obtain ⟨g1, g2, g3, e0, e1, e2, e3, e4, e5⟩ := id hR
  have hk0 : Uok (L, W, dep, 0, cmp, wt) k := by
    obtain ⟨a1, a2, a3, a4, a5, a6, a7, a8⟩ := hk
    exact ⟨a1, a2, a3, a4, a5, Nat.zero_le _, fun z => absurd z (show ¬ 1 ≤ 0 by decide), fun _ => rfl⟩
  unfold tk at h1 h2
  have other : ¬ (48 ≤ x ∧ x ≤ 57) → am_wp (am_call (d + 3)) (0, 0) cm_X6_takes Q (fun _ => False) (21, [some (.ref p), some (.int (nI x))], [], 0, 0) h := by
    intro hno
    rw [if_neg hno] at h1 h2
    refine am_run (am_cK _) 3 (am_obj_in e0 ?_)
    have ha : AgN p 4 h (am_set h p (cU p (nI L.length) (nI W.length) (nI dep) 0 (nI cmp) g2.2 (bI wt))) := AgN.set (by omega)
    have hR0 : RU (am_set h p (cU p (nI L.length) (nI W.length) (nI dep) 0 (nI cmp) g2.2 (bI wt))) p (L, W, dep, 0, cmp, wt) := ⟨g1, g2, g3, as_s, (as_n (by omega)).trans e1, (as_n (by omega)).trans e2, (as_n (by omega)).trans e3, e4, e5⟩
    refine (show am_wp (am_call (d + 3)) (0, 0) cm_X6_takes Q (fun _ => False) (26, [some (.ref p), some (.int (nI x))], [], 0, 0) (am_set h p (cU p (nI L.length) (nI W.length) (nI dep) 0 (nI cmp) g2.2 (bI wt))) from ?_)
    generalize am_set h p (cU p (nI L.length) (nI W.length) (nI dep) 0 (nI cmp) g2.2 (bI wt)) = h0 at ha hR0 ⊢
    obtain ⟨k1, k2, k3, f0, _⟩ := id hR0
    cases wt with
    | true =>
      refine am_run (am_cK _) 2 (am_obj_in f0 (am_run (am_cK _) 1 ⟨fun z => absurd z n10, fun _ => ?_⟩))
      refine am_run (am_cK _) 3 (am_obj_in f0 (U_takesThing hR0 hk0 hk40 hx rfl (fun z => am_run (am_cK _) 2 ⟨Or.inl rfl, h1 z h0 ha hR0.f.z⟩) (fun s' z h' ha' hR' => am_run (am_cK _) 2 ⟨Or.inr rfl, h2 s' z h' (ha.trans ha') hR'⟩)))
    | false =>
      refine am_run (am_cK _) 2 (am_obj_in f0 (am_run (am_cK _) 1 ⟨fun _ => ?_, fun z => absurd rfl z⟩))
      refine am_run (am_cK _) 3 (am_obj_in f0 (U_takesOperator hR0 hk0 hk40 hx rfl (fun z => am_run (am_cK _) 1 ⟨Or.inl rfl, h1 z h0 ha hR0.f.z⟩) (fun s' z h' ha' hR' => am_run (am_cK _) 1 ⟨Or.inr rfl, h2 s' z h' (ha.trans ha') hR'⟩)))
  refine en_X6_takes (Nat.le_of_ble_eq_true rfl) (am_run (am_cK _) 3 ⟨fun c => ?_, fun c => ?_⟩)
  · have hc : x < 48 := (nI_ltI (b := 48) (by omega) (by omega)).mp c
    exact other (by omega)
  · have hc : 48 ≤ x := Nat.le_of_not_lt (fun z => c ((nI_ltI (b := 48) (by omega) (by omega)).mpr z))
    refine am_run (am_cK _) 3 ⟨fun c2 => ?_, fun c2 => ?_⟩
    · have hc2 : 57 < x := (nI_ltI (a := 57) (by omega) (by omega)).mp c2
      exact other (by omega)
    · have hc2 : x ≤ 57 := Nat.le_of_not_lt (fun z => c2 ((nI_ltI (a := 57) (by omega) (by omega)).mpr z))
      rw [if_pos ⟨hc, hc2⟩] at h1 h2
      have e9 : nI x - 48 = nI (x - 48) := pk_sub (a := x) (b := 48) hc
      refine am_run (am_cK _) 5 (am_obj_in e0 (show am_call (d + 3) 66 [.ref p, .int (nI x - 48)] h _ from ?_))
      rw [e9]
      exact U_takesDigit hR hk hk40 (by omega) (fun z => am_run (am_cK _) 1 ⟨Or.inl rfl, h1 z h AgN.rf hR.f.z⟩) (fun s' z h' ha' hR' => am_run (am_cK _) 1 ⟨Or.inr rfl, h2 s' z h' ha' hR'⟩)
theorem U_read {t n : Nat} {tx : Nat → Nat} {wd wz : Int32} (hR : RU0 h p) (hT : RT h t n tx wd wz) (hpt : t + 2 ≤ p ∨ p + 4 ≤ t) (h1 : ∀ f, rdF tx n = some f → f ≤ 40 → ∀ h', AgN p 4 h h' → RU0 h' p → Q (some (.int (nI f))) h') (h2 : rdF tx n = none → (rdC tx n).length ≤ 40 → ∀ h', AgN p 4 h h' → RF h' p (rdC tx n) → Q (some (.int (-1))) h') : am_call (d + 5) 64 [.ref p, .ref t] h Q := by
  obtain ⟨g1, g2, g3, a, b, c, dd, e, f, e0, e1, e2, e3⟩ := hR
  have htx : ∀ i, i < n → tx i < 256 := by
    obtain ⟨_, _, g, _, z⟩ := hT
    exact fun i hi => (z i hi).2
  have hn80 : n ≤ 80 := hT.2.1
  refine en_X6_read (Nat.le_of_ble_eq_true rfl) (am_run (am_cK _) 3 (am_obj_in e0 (am_run (am_cK _) 3 (am_obj_in as_s (am_run (am_cK _) 3 (am_obj_in as_s (am_run (am_cK _) 3 (am_obj_in as_s (am_run (am_cK _) 3 (am_obj_in as_s (am_run (am_cK _) 3 (am_obj_in as_s ⟨Or.inr rfl, ?_⟩)))))))))))) 
  rw [as_as, as_as, as_as, as_as, as_as]
  have hR0 : RU (am_set h p (cU p 0 0 0 0 0 g2.2 1)) p ru0 := ⟨g1, g2, g3, as_s, (as_n (by omega)).trans e1, (as_n (by omega)).trans e2, (as_n (by omega)).trans e3, Ar_nil, Ar_nil⟩
  have ha0 : AgN p 4 h (am_set h p (cU p 0 0 0 0 0 g2.2 1)) := AgN.set (by omega)
  refine (show am_wp (am_call (d + 4)) (0, 0) cm_X6_read Q (fun _ => False) (30, [some (.ref p), some (.ref t), none, none], [], 0, 0) (am_set h p (cU p 0 0 0 0 0 g2.2 1)) from ?_)
  generalize am_set h p (cU p 0 0 0 0 0 g2.2 1) = h0 at hR0 ha0 ⊢
  have hTa : ∀ h', AgN p 4 h h' → RT h' t n tx wd wz := fun h' ha => RT_fr hT (fun x _ _ => ha.2 x (by omega))
  have hT0 := hTa h0 ha0
  refine am_run (am_cK _) 2 (am_obj_in hT0.1 (T_size hT0 (am_run (am_cK _) 2 (J_min (b := 40) (by omega) (by omega) (am_run (am_cK _) 3 ?_)))))
  have hmin : Nat.min n 40 ≤ n ∧ Nat.min n 40 ≤ 40 := ⟨Nat.min_le_left _ _, Nat.min_le_right _ _⟩
  suffices H : ∀ k i s h', i + k = Nat.min n 40 → AgN p 4 h h' → RU h' p s → Uok s i → rdE tx n = rdL tx k i s → am_wp (am_call (d + 4)) (0, 0) cm_X6_read Q (fun _ => False) (42, [some (.ref p), some (.ref t), some (.int (nI (Nat.min n 40))), some (.int (nI i))], [], 0, 0) h' from
    H (Nat.min n 40) 0 ru0 h0 (by omega) ha0 hR0 ⟨Nat.le_refl _, Nat.zero_le _, by decide, rfl, (fun w hw => by cases hw), Nat.zero_le _, fun z => absurd z (show ¬ 1 ≤ 0 by decide), fun _ => rfl⟩ rfl
  intro k
  induction k with
  | zero =>
    intro i s h' hi ha hR' hk hE
    have ei : i = Nat.min n 40 := by omega
    have hE' : rdE tx n = (i, some s) := hE
    have hT' := hTa h' ha
    have hFv : rdF tx n = if 40 < n then some 40 else if 0 < n ∧ (s.2.2.2.2.2 = true ∨ 0 < s.2.2.1) then some n else none := by unfold rdF; rw [hE']
    have hCv : rdC tx n = (stl 1 s.1 s.2.1).1 := by unfold rdC; rw [hE']
    obtain ⟨k1, k2, k3, f0, _⟩ := id hR'
    refine am_run (am_cK _) 3 ⟨fun _ => ?_, fun c => absurd (nI_le (by omega) (by omega)) c⟩
    refine am_run (am_cK _) 2 (am_obj_in hT'.1 (T_size hT' (am_run (am_cK _) 2 ⟨fun c => ?_, fun c => ?_⟩)))
    · have hn40 : n ≤ 40 := (nI_leI (b := 40) (by omega) (by omega)).mp c
      rw [if_neg (by omega)] at hFv
      have em : Nat.min n 40 = n := Nat.min_eq_left hn40
      have fin : ¬ (0 < n ∧ (s.2.2.2.2.2 = true ∨ 0 < s.2.2.1)) → am_wp (am_call (d + 4)) (0, 0) cm_X6_read Q (fun _ => False) (99, [some (.ref p), some (.ref t), some (.int (nI (Nat.min n 40))), some (.int (nI i))], [], 0, 0) h' := by
        intro hno
        rw [if_neg hno] at hFv
        obtain ⟨L, W, dep, dig, cmp, wt⟩ := s
        have hl := stl_len 1 W L
        have hk1 : L.length + W.length ≤ i := hk.1
        refine am_run (am_cK _) 3 (am_obj_in f0 (U_settleDownTo (b := 1) (by omega) (by omega) hR' (by omega) (fun w hw => (hk.2.2.2.2.1 w hw).1) (fun h2' ha2 hR2 => ?_)))
        refine am_run (am_cK _) 2 (h2 hFv (by rw [hCv]; show (stl 1 L W).1.length ≤ 40; omega) h2' (ha.trans ha2) (by rw [hCv]; exact hR2.f))
      have flt : 0 < n → (s.2.2.2.2.2 = true ∨ 0 < s.2.2.1) → am_wp (am_call (d + 4)) (0, 0) cm_X6_read Q (fun _ => False) (97, [some (.ref p), some (.ref t), some (.int (nI (Nat.min n 40))), some (.int (nI i))], [], 0, 0) h' := by
        intro hn0 hy
        rw [if_pos ⟨hn0, hy⟩] at hFv
        have q := h1 n hFv hn40 h' ha hR'.f.z
        rw [← em] at q
        exact am_run (am_cK _) 2 q
      rw [em] at fin flt ⊢
      refine am_run (am_cK _) 2 ⟨fun c => ?_, fun c => ?_⟩
      · have hn0 : n = 0 := by
          have := (nI_leI (b := 0) (by omega) (by omega)).mp c
          omega
        exact fin (fun z => by omega)
      · have hn0 : 0 < n := Nat.pos_of_ne_zero (fun z => c (show nI n ≤ 0 by rw [z]; decide))
        refine am_run (am_cK _) 2 (am_obj_in f0 (am_run (am_cK _) 1 ⟨fun c => ?_, fun c => ?_⟩))
        · cases hw : s.2.2.2.2.2 with
          | true => exact flt hn0 (Or.inl hw)
          | false => exact absurd (show bI s.2.2.2.2.2 = 0 by rw [hw]; rfl) c
        · have hw : s.2.2.2.2.2 = false := by
            cases hw : s.2.2.2.2.2 with
            | true => exact absurd (show ¬ bI s.2.2.2.2.2 = 0 by rw [hw]; decide) c
            | false => rfl
          refine am_run (am_cK _) 2 (am_obj_in f0 (am_run (am_cK _) 1 ⟨fun c => ?_, fun c => ?_⟩))
          · have hd : s.2.2.1 = 0 := by
              have := (nI_leI (b := 0) (show s.2.2.1 < 2 ^ 31 by have := hk.2.1; omega) (by omega)).mp c
              omega
            exact fin (fun z => z.2.elim (fun z => by rw [hw] at z; cases z) (fun z => by omega))
          · have hd : 0 < s.2.2.1 := Nat.pos_of_ne_zero (fun z => c (show nI s.2.2.1 ≤ 0 by rw [z]; decide))
            exact flt hn0 (Or.inr hd)
    · have hn40 : 40 < n := Nat.lt_of_not_le (fun z => c ((nI_leI (b := 40) (by omega) (by omega)).mpr z))
      rw [if_pos hn40] at hFv
      exact am_run (am_cK _) 2 (h1 40 hFv (Nat.le_refl _) h' ha hR'.f.z)
  | succ k ih =>
    intro i s h' hi ha hR' hk hE
    have hT' := hTa h' ha
    have hti := htx i (by omega)
    obtain ⟨k1, k2, k3, f0, _⟩ := id hR'
    refine am_run (am_cK _) 3 ⟨fun c => absurd c (nI_ge (by omega) (by omega)), fun _ => ?_⟩
    refine am_run (am_cK _) 4 (am_obj_in hT'.1 (T_signAt hT' (nI i) (fun c => ?_) (fun j hj ej => ?_)))
    · rcases c with c | c
      · exact absurd c (nI_pos (by omega))
      · exact absurd c (nI_ge (by omega) (by omega))
    · have ej' : i = j := (nI_eq (by omega) (by omega)).mp ej
      subst ej'
      rw [rdL] at hE
      refine am_run (am_cK _) 1 (am_obj_in f0 (U_takes hR' hk (by omega) hti (fun z h2' ha2 hz => ?_) (fun s' z h2' ha2 hR2 => ?_)))
      · rw [z] at hE
        have hE' : rdE tx n = (i, none) := hE
        have hFv : rdF tx n = some i := by unfold rdF; rw [hE']
        exact am_run (am_cK _) 1 ⟨fun w => absurd rfl w, fun _ => am_run (am_cK _) 2 (h1 i hFv (by omega) h2' (ha.trans ha2) hz)⟩
      · rw [z] at hE
        have zz := ih (i + 1) s' h2' (by omega) (ha.trans ha2) hR2 (tk_ok hti hk z) hE
        rw [nI_succ] at zz
        exact am_run (am_cK _) 1 ⟨fun _ => am_run (am_cK _) 2 zz, fun w => absurd n10 w⟩
end
