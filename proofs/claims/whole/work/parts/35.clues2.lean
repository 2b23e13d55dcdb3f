/-- all below n -/
def allB (q : Nat → Bool) : Nat → Bool
  | 0 => true
  | n + 1 => allB q n && q n
theorem allB_iff (q : Nat → Bool) : ∀ n, allB q n = true ↔ ∀ i, i < n → q i = true
  | 0 => by simp [allB]
  | n + 1 => by
    rw [allB, Bool.and_eq_true, allB_iff q n]
    exact ⟨fun z i hi => by
      by_cases e : i = n
      · rw [e]; exact z.2
      · exact z.1 i (by omega), fun z => ⟨fun i hi => z i (by omega), z n (by omega)⟩⟩
theorem allB_no {q : Nat → Bool} {n i : Nat} (hi : i < n) (hq : q i = false) : allB q n = false := by
  cases h : allB q n with
  | false => rfl
  | true => have := (allB_iff q n).mp h i hi; rw [hq] at this; exact absurd this (by decide)
theorem allB_congr {q r : Nat → Bool} : ∀ {n : Nat}, (∀ i, i < n → q i = r i) → allB q n = allB r n
  | 0, _ => rfl
  | n + 1, h => by rw [allB, allB, allB_congr (fun i hi => h i (by omega)), h n (by omega)]
theorem bts_congr {q r : Nat → Bool} : ∀ {n : Nat}, (∀ i, i < n → q i = r i) → bts q n = bts r n
  | 0, _ => rfl
  | n + 1, h => by rw [bts, bts, bts_congr (fun i hi => h i (by omega)), h n (by omega)]
def mxF (g : Nat → Nat) : Nat → Nat
  | 0 => 0
  | c + 1 => Nat.max (mxF g c) (g c)
theorem mxF_le {g : Nat → Nat} {m : Nat} : ∀ {n : Nat}, (∀ c, c < n → g c ≤ m) → mxF g n ≤ m
  | 0, _ => Nat.zero_le _
  | c + 1, h => Nat.max_le.mpr ⟨mxF_le (fun i hi => h i (by omega)), h c (by omega)⟩
theorem q_tb {L k : Nat} (hL : L < 2 ^ 31) (hk : k < 32) : (nI L >>> (nI k &&& 31)) &&& 1 = if L.testBit k then 1 else 0 := by
  have e : (1 : Int32) = nI (2 ^ 1 - 1) := rfl
  rw [q_shr hL hk]
  conv => lhs; rw [e, q_andM]
  rw [Nat.testBit_eq_decide_div_mod_eq]
  rcases Nat.mod_two_eq_zero_or_one (L / 2 ^ k) with z | z
  · rw [z]; rfl
  · rw [z]; rfl
/-- CLUES at p: room for cap, n are told -/
def RC (h : am_H) (p cap n : Nat) (F G : Nat → Nat) : Prop := h.2 p = .inr (0, [.ref (p + 1), .ref (p + 2), .int (nI n)]) ∧ n ≤ cap ∧ cap ≤ 12 ∧ ∃ g1 g2, h.2 (p + 1) = aI cap g1 ∧ h.2 (p + 2) = aI cap g2 ∧ ∀ i, i < n → g1 i = nI (F i) ∧ g2 i = nI (G i)
def hOK (w v : Int32) : Prop := (w = 1 ∧ ¬ (v < 0 ∨ 4 ≤ v)) ∨ (¬ w = 1 ∧ ¬ w < 0 ∧ ¬ 3 < w ∧ ¬ v < 1 ∧ ¬ 9 < v)
def iSo (q v : Nat) (f : Nat → Nat) (n : Nat) : Bool := match q with
  | 0 => decide (v ≤ n)
  | 1 => decide (0 < num f n v)
  | 2 => per f n == v
  | _ => decide (v ≤ mst f n)
section
variable {d : Nat} {h : am_H} {Q : Option Value → am_H → Prop} {p cap m : Nat} {F G : Nat → Nat} {f : Nat → Nat} {n : Nat}
theorem RC_fr {h' : am_H} (hR : RC h p cap m F G) (hf : ∀ x, p ≤ x → x < p + 3 → h'.2 x = h.2 x) : RC h' p cap m F G := by
  obtain ⟨e0, a, b, g1, g2, e1, e2, e3⟩ := hR
  exact ⟨(hf _ (by omega) (by omega)).trans e0, a, b, g1, g2, (hf _ (by omega) (by omega)).trans e1, (hf _ (by omega) (by omega)).trans e2, e3⟩
theorem C_add (hR : RC h p cap m F G) (a b : Nat) (h1 : m = cap → Q (some (.int (-1))) h) (h2 : m < cap → ∀ h', AgN p 3 h h' → RC h' p cap (m + 1) (va_up F m a) (va_up G m b) → Q (some (.int (nI (m + 1)))) h') : am_call (d + 1) 23 [.ref p, .int (nI a), .int (nI b)] h Q := by
  obtain ⟨e0, hm, hc, g1, g2, e1, e2, e3⟩ := hR
  refine en_X1_add (Nat.le_of_ble_eq_true rfl) (am_run (am_cK _) 2 (am_obj_in e0 (am_run (am_cK _) 2 (am_obj_in e0 (am_run (am_cK _) 1 (am_len_in e1 (am_run (am_cK _) 1 ⟨fun c => ?_, fun c => ?_⟩)))))))
  · have hlt : m < cap := (nI_ltI (by omega) (by omega)).mp c
    refine am_run (am_cK _) 2 (am_obj_in e0 (am_run (am_cK _) 2 (am_obj_in e0 (am_run (am_cK _) 2 (am_ari_in e1 ⟨vp_in_nI hlt (by omega), ?_⟩)))))
    rw [nI_clamp (by omega)]
    generalize hH : am_set h (p + 1) _ = ha
    have f0 : ha.2 p = .inr (0, [.ref (p + 1), .ref (p + 2), .int (nI m)]) := by rw [← hH]; exact (as_n (by omega)).trans e0
    have f2 : ha.2 (p + 2) = aI cap g2 := by rw [← hH]; exact (as_n (by omega)).trans e2
    refine am_run (am_cK _) 2 (am_obj_in f0 (am_run (am_cK _) 2 (am_obj_in f0 (am_run (am_cK _) 2 (am_ari_in f2 ⟨vp_in_nI hlt (by omega), ?_⟩)))))
    rw [nI_clamp (by omega)]
    generalize hH2 : am_set ha (p + 2) _ = hb
    have k0 : hb.2 p = .inr (0, [.ref (p + 1), .ref (p + 2), .int (nI m)]) := by rw [← hH2]; exact (as_n (by omega)).trans f0
    refine am_run (am_cK _) 3 (am_obj_in k0 (am_run (am_cK _) 3 (am_obj_in k0 (am_run (am_cK _) 2 (am_obj_in as_s (am_run (am_cK _) 1 ?_))))))
    have q := h2 hlt (am_set hb p (.inr (0, [.ref (p + 1), .ref (p + 2), .int (nI (m + 1))]))) (by rw [← hH2, ← hH]; exact (AgN.set (by omega)).trans ((AgN.set (by omega)).trans (AgN.set (by omega)))) ⟨as_s, hlt, hc, upd g1 m (nI a), upd g2 m (nI b), by rw [← hH2, ← hH]; exact (as_n (by omega)).trans ((as_n (by omega)).trans as_s), by rw [← hH2]; exact (as_n (by omega)).trans as_s, fun i hi => by
      by_cases e : i = m
      · rw [e, upd_s, upd_s, am_up_s, am_up_s]; exact ⟨rfl, rfl⟩
      · rw [upd_n e, upd_n e, am_up_n e, am_up_n e]; exact e3 i (by omega)⟩
    rw [nI_succ] at q
    exact q
  · have hle : m = cap := by
      have := Nat.le_of_not_lt (fun z => c ((nI_ltI (by omega) (by omega)).mpr z))
      omega
    exact am_run (am_cK _) 2 (h1 hle)
theorem C_empty (hR : RC h p cap m F G) (hQ : ∀ h', AgN p 3 h h' → RC h' p cap 0 F G → Q (some (.int (nI m))) h') : am_call (d + 1) 24 [.ref p] h Q := by
  obtain ⟨e0, hm, hc, g1, g2, e1, e2, e3⟩ := hR
  refine en_X1_empty (Nat.le_of_ble_eq_true rfl) (am_run (am_cK _) 2 (am_obj_in e0 (am_run (am_cK _) 4 (am_obj_in e0 (am_run (am_cK _) 2 ?_)))))
  exact hQ _ (AgN.set (by omega)) ⟨as_s, by omega, hc, g1, g2, (as_n (by omega)).trans e1, (as_n (by omega)).trans e2, fun i hi => by omega⟩
theorem C_canBeFelt (a c : Int32) (h1 : (a < 0 ∨ 9 < a ∨ c < 0 ∨ 4 ≤ c) → Q (some (.int 0)) h) (h2 : ¬ (a < 0 ∨ 9 < a ∨ c < 0 ∨ 4 ≤ c) → Q (some (.int 1)) h) : am_call (d + 2) 25 [.int a, .int c] h Q := by
  refine en_X1_canBeFelt (Nat.le_of_ble_eq_true rfl) (am_run (am_cK _) 2 ⟨fun z => am_run (am_cK _) 2 ⟨Or.inl rfl, h1 (Or.inl z)⟩, fun z1 => am_run (am_cK _) 3 ⟨fun z => am_run (am_cK _) 2 ⟨Or.inl rfl, h1 (Or.inr (Or.inl z))⟩, fun z2 => ?_⟩⟩)
  refine am_run (am_cK _) 2 (B_isNoColour c (fun z => ?_) (fun z => ?_))
  · exact am_run (am_cK _) 1 ⟨fun _ => am_run (am_cK _) 2 ⟨Or.inl rfl, h1 (Or.inr (Or.inr z))⟩, fun w => absurd n10 w⟩
  · exact am_run (am_cK _) 1 ⟨fun w => absurd rfl w, fun _ => am_run (am_cK _) 3 ⟨Or.inr rfl, h2 (fun w => w.elim z1 (fun w => w.elim z2 z))⟩⟩
theorem C_isAllFelt (hR : RC h p cap m F G) (hn0 : 0 < n) (hn : n ≤ 10) (hf : ∀ i, i < n → f i < 4) (hF : ∀ i, i < m → F i < 10 ∧ G i < 4) (hQ : Q (some (.int (if allB (fun i => f (F i % n) == G i) m then 1 else 0))) h) : am_call (d + 2) 27 [.ref p, .int (nI (rk f n)), .int (nI n)] h Q := by
  obtain ⟨e0, hm, hc, g1, g2, e1, e2, e3⟩ := hR
  refine en_X1_isAllFelt (Nat.le_of_ble_eq_true rfl) (am_run (am_cK _) 2 ?_)
  suffices H : ∀ k i, i + k = m → allB (fun i => f (F i % n) == G i) i = true → am_wp (am_call (d + 1)) (0, 0) cm_X1_isAllFelt Q (fun _ => False) (2, [some (.ref p), some (.int (nI (rk f n))), some (.int (nI n)), some (.int (nI i))], [], 0, 0) h from H m 0 (by omega) rfl
  intro k
  induction k with
  | zero =>
    intro i hi ha
    have e : i = m := by omega
    subst e
    rw [ha, if_pos rfl] at hQ
    exact am_run (am_cK _) 3 (am_obj_in e0 (am_run (am_cK _) 1 ⟨fun _ => am_run (am_cK _) 2 ⟨Or.inr rfl, hQ⟩, fun c => absurd (nI_le (Nat.le_refl _) (by omega)) c⟩))
  | succ k ih =>
    intro i hi ha
    have hb := hF i (by omega)
    have hmod : F i % n < n := Nat.mod_lt _ hn0
    refine am_run (am_cK _) 3 (am_obj_in e0 (am_run (am_cK _) 1 ⟨fun c => absurd c (nI_ge (by omega) (by omega)), fun _ => ?_⟩))
    refine am_run (am_cK _) 4 (am_obj_in e0 (am_run (am_cK _) 2 (am_rdi_in e1 ⟨vp_in_nI (by omega) (by omega), ?_⟩)))
    rw [nI_clamp (by omega), (e3 i (by omega)).1]
    refine am_run (am_cK _) 3 (J_max (a := 1) (by omega) (by omega) ?_)
    rw [show Nat.max 1 n = n from Nat.max_eq_right hn0]
    refine am_run (am_cK _) 1 ⟨nI_ne0 hn0 (by omega), ?_⟩
    rw [show nI (F i) - nI (F i) / nI n * nI n = nI (F i % n) from pk_rem (by omega) hn0 (by omega)]
    refine am_run (am_cK _) 1 (B_colourAt hn hf hmod ?_)
    refine am_run (am_cK _) 2 (am_obj_in e0 (am_run (am_cK _) 2 (am_rdi_in e2 ⟨vp_in_nI (by omega) (by omega), ?_⟩)))
    rw [nI_clamp (by omega), (e3 i (by omega)).2]
    have hfl := hf _ hmod
    refine am_run (am_cK _) 1 ⟨fun c => ?_, fun c => ?_⟩
    · have hc : f (F i % n) = G i := (nI_eq (by omega) (by omega)).mp c
      have zz := ih (i + 1) (by omega) (by rw [allB, ha, hc]; simp)
      rw [nI_succ] at zz
      exact am_run (am_cK _) 2 zz
    · have hc : ¬ f (F i % n) = G i := fun z => c (show nI _ = nI _ by rw [z])
      have hno : allB (fun i => f (F i % n) == G i) m = false := allB_no (q := fun i => f (F i % n) == G i) (i := i) (by omega) (beq_eq_false_iff_ne.mpr hc)
      rw [hno] at hQ
      exact am_run (am_cK _) 2 ⟨Or.inl rfl, hQ⟩
/-- by which rolls all that was felt is so -/
def rLf (F G : Nat → Nat) (m : Nat) (f : Nat → Nat) (n : Nat) : Nat := bts (fun k => allB (fun i => rol f n k (F i % n) == G i) m) n
theorem C_rollsLeft (hR : RC h p cap m F G) (hn0 : 0 < n) (hn : n ≤ 10) (hf : ∀ i, i < n → f i < 4) (hF : ∀ i, i < m → F i < 10 ∧ G i < 4) (hQ : Q (some (.int (nI (rLf F G m f n)))) h) : am_call (d + 3) 26 [.ref p, .int (nI (rk f n)), .int (nI n)] h Q := by
  have e0 := hR.1
  refine en_X1_rollsLeft (Nat.le_of_ble_eq_true rfl) (am_run (am_cK _) 4 ?_)
  suffices H : ∀ k i, i + k = n → am_wp (am_call (d + 2)) (0, 0) cm_X1_rollsLeft Q (fun _ => False) (5, [some (.ref p), some (.int (nI (rk f n))), some (.int (nI n)), some (.int (nI (bts (fun k => allB (fun i => rol f n k (F i % n) == G i) m) i))), some (.int (nI i))], [], 0, 0) h from H n 0 (by omega)
  intro k
  induction k with
  | zero =>
    intro i hi
    have e : i = n := by omega
    subst e
    exact am_run (am_cK _) 3 ⟨fun _ => am_run (am_cK _) 2 hQ, fun c => absurd (nI_le (Nat.le_refl _) (by omega)) c⟩
  | succ k ih =>
    intro i hi
    refine am_run (am_cK _) 3 ⟨fun c => absurd c (nI_ge (by omega) (by omega)), fun _ => ?_⟩
    refine am_run (am_cK _) 5 (B_rolled hn0 hn (by omega) hf ?_)
    refine am_run (am_cK _) 2 (am_obj_in e0 (C_isAllFelt hR hn0 hn (rol_lt hf) hF ?_))
    have zz := ih (i + 1) (by omega)
    rw [nI_succ, bts] at zz
    cases hb : allB (fun j => rol f n i (F j % n) == G j) m with
    | false =>
      rw [hb] at zz
      exact am_run (am_cK _) 1 ⟨fun _ => am_run (am_cK _) 2 zz, fun c => absurd rfl c⟩
    | true =>
      rw [hb, if_pos rfl, ← q_orBit (bts_lt _ _) (by omega)] at zz
      exact am_run (am_cK _) 1 ⟨fun c => absurd c n10, fun _ => am_run (am_cK _) 8 zz⟩
/-- how many rolls are left at most -/
def mLf (f : Nat → Nat) (n L x : Nat) : Nat := mxF (fun c => cnt (fun k => L.testBit k && rol f n k x == c) n) 4
theorem C_mostLeft {L x : Nat} (hn0 : 0 < n) (hn : n ≤ 10) (hf : ∀ i, i < n → f i < 4) (hL : L < 2 ^ 31) (hx : x < n) (hQ : Q (some (.int (nI (mLf f n L x)))) h) : am_call (d + 3) 28 [.int (nI (rk f n)), .int (nI n), .int (nI L), .int (nI x)] h Q := by
  refine en_X1_mostLeft (Nat.le_of_ble_eq_true rfl) (am_run (am_cK _) 4 ?_)
  suffices H : ∀ k i y z, i + k = 4 → am_wp (am_call (d + 2)) (0, 0) cm_X1_mostLeft Q (fun _ => False) (6, [some (.int (nI (rk f n))), some (.int (nI n)), some (.int (nI L)), some (.int (nI x)), some (.int (nI (mxF (fun c => cnt (fun k => L.testBit k && rol f n k x == c) n) i))), some (.int (nI i)), y, z], [], 0, 0) h ∧ ∀ y z, am_wp (am_call (d + 2)) (0, 0) cm_X1_mostLeft Q (fun _ => False) (6, [some (.int (nI (rk f n))), some (.int (nI n)), some (.int (nI L)), some (.int (nI x)), some (.int (nI (mxF (fun c => cnt (fun k => L.testBit k && rol f n k x == c) n) i))), some (.int (nI i)), some (.int y), some (.int z)], [], 0, 0) h from (H 4 0 none none (by omega)).1
  intro k
  induction k with
  | zero =>
    intro i y z hi
    have e : i = 4 := by omega
    subst e
    exact ⟨am_run (am_cK _) 3 ⟨fun _ => am_run (am_cK _) 2 hQ, fun c => absurd (nI_le (a := 4) (b := 4) (Nat.le_refl _) (by omega)) c⟩, fun y z => am_run (am_cK _) 3 ⟨fun _ => am_run (am_cK _) 2 hQ, fun c => absurd (nI_le (a := 4) (b := 4) (Nat.le_refl _) (by omega)) c⟩⟩
  | succ k ih =>
    intro i y z hi
    have hmx : mxF (fun c => cnt (fun k => L.testBit k && rol f n k x == c) n) i ≤ n := mxF_le (fun c _ => cnt_le _ _)
    have main : ∀ k2 j, j + k2 = n → am_wp (am_call (d + 2)) (0, 0) cm_X1_mostLeft Q (fun _ => False) (18, [some (.int (nI (rk f n))), some (.int (nI n)), some (.int (nI L)), some (.int (nI x)), some (.int (nI (mxF (fun c => cnt (fun k => L.testBit k && rol f n k x == c) n) i))), some (.int (nI i)), some (.int (nI (cnt (fun k => L.testBit k && rol f n k x == i) j))), some (.int (nI j))], [], 0, 0) h := by
      intro k2
      induction k2 with
      | zero =>
        intro j hj
        have e : j = n := by omega
        subst e
        have hcl := cnt_le (fun k => L.testBit k && rol f j k x == i) j
        refine am_run (am_cK _) 3 ⟨fun _ => ?_, fun c => absurd (nI_le (Nat.le_refl _) (by omega)) c⟩
        refine am_run (am_cK _) 3 (J_max (by omega) (by omega) ?_)
        have zz := (ih (i + 1) none none (by omega)).2 (nI (cnt (fun k => L.testBit k && rol f j k x == i) j)) (nI j)
        rw [nI_succ, mxF] at zz
        exact am_run (am_cK _) 3 zz
      | succ k2 ih2 =>
        intro j hj
        have zz := ih2 (j + 1) (by omega)
        rw [nI_succ j, cnt] at zz
        refine am_run (am_cK _) 3 ⟨fun c => absurd c (nI_ge (by omega) (by omega)), fun _ => ?_⟩
        refine am_run (am_cK _) 6 (show am_wp (am_call (d + 2)) (0, 0) cm_X1_mostLeft Q (fun _ => False) (31, [some (.int (nI (rk f n))), some (.int (nI n)), some (.int (nI L)), some (.int (nI x)), some (.int (nI (mxF (fun c => cnt (fun k => L.testBit k && rol f n k x == c) n) i))), some (.int (nI i)), some (.int (nI (cnt (fun k => L.testBit k && rol f n k x == i) j))), some (.int (nI j))], [.int 1, .int ((nI L >>> (nI j &&& 31)) &&& 1)], 0, 0) h from ?_)
        rw [q_tb hL (by omega)]
        cases hb : L.testBit j with
        | false =>
          rw [hb, Bool.false_and, if_neg (by decide), Nat.add_zero] at zz
          exact am_run (am_cK _) 1 ⟨fun _ => am_run (am_cK _) 2 zz, fun c => absurd (show ¬ (0 : Int32) = 1 by decide) c⟩
        | true =>
          rw [hb, Bool.true_and] at zz
          refine am_run (am_cK _) 1 ⟨fun c => absurd rfl c, fun _ => ?_⟩
          refine am_run (am_cK _) 4 (B_rolled hn0 hn (by omega) hf ?_)
          refine am_run (am_cK _) 3 (B_colourAt hn (rol_lt hf) hx ?_)
          have hr := rol_lt (k := j) hf x hx
          refine am_run (am_cK _) 2 ⟨fun c => ?_, fun c => ?_⟩
          · have hc : ¬ rol f n j x = i := fun z => c (by rw [z])
            rw [beq_eq_false_iff_ne.mpr hc, if_neg (by decide), Nat.add_zero] at zz
            exact am_run (am_cK _) 2 zz
          · have hc : rol f n j x = i := (nI_eq (by omega) (by omega)).mp (Classical.not_not.mp c)
            rw [beq_iff_eq.mpr hc, if_pos rfl, nI_succ] at zz
            exact am_run (am_cK _) 3 zz
    have go : ∀ y z, am_wp (am_call (d + 2)) (0, 0) cm_X1_mostLeft Q (fun _ => False) (6, [some (.int (nI (rk f n))), some (.int (nI n)), some (.int (nI L)), some (.int (nI x)), some (.int (nI (mxF (fun c => cnt (fun k => L.testBit k && rol f n k x == c) n) i))), some (.int (nI i)), some (.int y), some (.int z)], [], 0, 0) h := fun y z => am_run (am_cK _) 3 ⟨fun c => absurd c (nI_ge (b := 4) (by omega) (by omega)), fun _ => am_run (am_cK _) 4 (main n 0 (by omega))⟩
    refine ⟨?_, go⟩
    refine am_run (am_cK _) 3 ⟨fun c => absurd c (nI_ge (b := 4) (by omega) (by omega)), fun _ => ?_⟩
    cases y with
    | none => cases z with
      | none => exact am_run (am_cK _) 4 (main n 0 (by omega))
      | some z => exact am_run (am_cK _) 4 (main n 0 (by omega))
    | some y => cases y with
      | int y => cases z with
        | none => exact am_run (am_cK _) 4 (main n 0 (by omega))
        | some z => exact am_run (am_cK _) 4 (main n 0 (by omega))
      | _ => exact am_run (am_cK _) 4 (main n 0 (by omega))
theorem C_canBeHeard (w v : Int32) (h1 : ¬ hOK w v → Q (some (.int 0)) h) (h2 : hOK w v → Q (some (.int 1)) h) : am_call (d + 2) 29 [.int w, .int v] h Q := by
  refine en_X1_canBeHeard (Nat.le_of_ble_eq_true rfl) (am_run (am_cK _) 3 ⟨fun c => ?_, fun c => ?_⟩)
  · have c0 : ¬ w = 1 := c
    have no : (w < 0 ∨ 3 < w ∨ v < 1 ∨ 9 < v) → Q (some (.int 0)) h := fun z => h1 (fun y => y.elim (fun y => c0 y.1) (fun y => z.elim y.2.1 (fun z => z.elim y.2.2.1 (fun z => z.elim y.2.2.2.1 y.2.2.2.2))))
    refine am_run (am_cK _) 2 ⟨fun z => am_run (am_cK _) 2 ⟨Or.inl rfl, no (Or.inl z)⟩, fun z1 => ?_⟩
    refine am_run (am_cK _) 3 ⟨fun z => am_run (am_cK _) 2 ⟨Or.inl rfl, no (Or.inr (Or.inl z))⟩, fun z2 => ?_⟩
    refine am_run (am_cK _) 3 ⟨fun z => am_run (am_cK _) 2 ⟨Or.inl rfl, no (Or.inr (Or.inr (Or.inl z)))⟩, fun z3 => ?_⟩
    refine am_run (am_cK _) 3 ⟨fun z => am_run (am_cK _) 2 ⟨Or.inl rfl, no (Or.inr (Or.inr (Or.inr z)))⟩, fun z4 => ?_⟩
    exact am_run (am_cK _) 3 ⟨Or.inr rfl, h2 (Or.inr ⟨c0, z1, z2, z3, z4⟩)⟩
  · have c0 : w = 1 := Classical.not_not.mp c
    refine am_run (am_cK _) 2 (B_isNoColour v (fun z => ?_) (fun z => ?_))
    · exact am_run (am_cK _) 1 ⟨fun _ => am_run (am_cK _) 2 ⟨Or.inl rfl, h1 (fun y => y.elim (fun y => y.2 z) (fun y => y.1 c0))⟩, fun w => absurd n10 w⟩
    · exact am_run (am_cK _) 1 ⟨fun w => absurd rfl w, fun _ => am_run (am_cK _) 3 ⟨Or.inr rfl, h2 (Or.inl ⟨c0, z⟩)⟩⟩
theorem hOK_nat {w v : Int32} (hk : hOK w v) : ∃ q x, q ≤ 3 ∧ x ≤ 9 ∧ (q = 1 → x < 4) ∧ w = nI q ∧ v = nI x := by
  rcases hk with ⟨a, b⟩ | ⟨a, b, c, e, g⟩
  · obtain ⟨x, hx, rfl⟩ := nI_of (fun z => b (Or.inl z))
    have hx4 : x < 4 := Nat.lt_of_not_le (fun z => b (Or.inr ((nI_leI (a := 4) (by omega) hx).mpr z)))
    exact ⟨1, x, by omega, by omega, fun _ => hx4, a, rfl⟩
  · obtain ⟨q, hq, rfl⟩ := nI_of b
    obtain ⟨x, hx, rfl⟩ := nI_of (fun z : v < 0 => e (Int32.lt_trans z (by decide)))
    have h3 : q ≤ 3 := Nat.le_of_not_lt (fun z => c ((nI_ltI (a := 3) (by omega) hq).mpr z))
    have h9 : x ≤ 9 := Nat.le_of_not_lt (fun z => g ((nI_ltI (a := 9) (by omega) hx).mpr z))
    exact ⟨q, x, h3, h9, fun z => absurd (by rw [z]; rfl) a, rfl, rfl⟩
theorem C_isSo {q v : Nat} (hq : q ≤ 3) (hv : v ≤ 9) (hqv : q = 1 → v < 4) (hn0 : 0 < n) (hn : n ≤ 10) (hf : ∀ i, i < n → f i < 4) (hQ : Q (some (.int (if iSo q v f n then 1 else 0))) h) : am_call (d + 5) 32 [.int (nI q), .int (nI v), .int (nI (rk f n)), .int (nI n)] h Q := by
  refine en_X1_isSo (Nat.le_of_ble_eq_true rfl) (am_run (am_cK _) 2 ?_)
  rcases (by omega : q = 0 ∨ q = 1 ∨ q = 2 ∨ q = 3) with e | e | e | e
  · subst e
    refine (show am_wp _ _ cm_X1_isSo _ _ (28, _, _, _, _) h from am_run (am_cK _) 3 ⟨fun c => ?_, fun c => ?_⟩)
    · have hc : ¬ v ≤ n := fun z => Nat.lt_irrefl v (Nat.lt_of_le_of_lt z ((nI_ltI (by omega) (by omega)).mp c))
      rw [show iSo 0 v f n = false from decide_eq_false hc] at hQ
      exact am_run (am_cK _) 2 ⟨Or.inl rfl, hQ⟩
    · have hc : v ≤ n := Nat.le_of_not_lt (fun z => c ((nI_ltI (by omega) (by omega)).mpr z))
      rw [show iSo 0 v f n = true from decide_eq_true hc] at hQ
      exact am_run (am_cK _) 3 ⟨Or.inr rfl, hQ⟩
  · subst e
    have hl := num_le f n v
    refine (show am_wp _ _ cm_X1_isSo _ _ (39, _, _, _, _) h from am_run (am_cK _) 4 (B_numberOf hn (hqv rfl) hf (am_run (am_cK _) 1 ⟨fun c => ?_, fun c => ?_⟩)))
    · have hc : ¬ 0 < num f n v := fun z => nI_nle z (by omega) c
      rw [show iSo 1 v f n = false from decide_eq_false hc] at hQ
      exact am_run (am_cK _) 2 ⟨Or.inl rfl, hQ⟩
    · have hc : 0 < num f n v := Nat.pos_of_ne_zero (fun z => c (show nI (num f n v) ≤ 0 by rw [z]; decide))
      rw [show iSo 1 v f n = true from decide_eq_true hc] at hQ
      exact am_run (am_cK _) 3 ⟨Or.inr rfl, hQ⟩
  · subst e
    have hp := per_in (f := f) hn0
    refine (show am_wp _ _ cm_X1_isSo _ _ (54, _, _, _, _) h from am_run (am_cK _) 3 (B_period hn0 hn hf (am_run (am_cK _) 2 ⟨fun c => ?_, fun c => ?_⟩)))
    · have hc : ¬ per f n = v := fun z => c (by rw [z])
      rw [show iSo 2 v f n = false from beq_eq_false_iff_ne.mpr hc] at hQ
      exact am_run (am_cK _) 2 ⟨Or.inl rfl, hQ⟩
    · have hc : per f n = v := (nI_eq (by omega) (by omega)).mp (Classical.not_not.mp c)
      rw [show iSo 2 v f n = true from beq_iff_eq.mpr hc] at hQ
      exact am_run (am_cK _) 3 ⟨Or.inr rfl, hQ⟩
  · subst e
    have hl : mst f n ≤ n := mxA_le f n 4
    refine (show am_wp _ _ cm_X1_isSo _ _ (69, _, _, _, _) h from am_run (am_cK _) 3 (B_mostOfOne hn hf (am_run (am_cK _) 2 ⟨fun c => ?_, fun c => ?_⟩)))
    · have hc : ¬ v ≤ mst f n := fun z => Nat.lt_irrefl v (Nat.lt_of_le_of_lt z ((nI_ltI (by omega) (by omega)).mp c))
      rw [show iSo 3 v f n = false from decide_eq_false hc] at hQ
      exact am_run (am_cK _) 2 ⟨Or.inl rfl, hQ⟩
    · have hc : v ≤ mst f n := Nat.le_of_not_lt (fun z => c ((nI_ltI (by omega) (by omega)).mpr z))
      rw [show iSo 3 v f n = true from decide_eq_true hc] at hQ
      exact am_run (am_cK _) 3 ⟨Or.inr rfl, hQ⟩
theorem C_suiting {s : Nat} {σ : Sg} (hR : RS h s σ) (hs : Sok σ) {q v : Nat} (hq : q ≤ 3) (hv : v ≤ 9) (hqv : q = 1 → v < 4) (hQ : Q (some (.int (nI (bts (fun b => iSo q v (sB σ b) (sZ σ b)) (sN σ))))) h) : am_call (d + 6) 31 [.ref s, .int (nI q), .int (nI v)] h Q := by
  obtain ⟨r, z, kk, e0, e1, e2, e3, e4, e5⟩ := hR
  have hN := hs.1
  refine en_X1_suiting (Nat.le_of_ble_eq_true rfl) (am_run (am_cK _) 4 ?_)
  suffices H : ∀ k i, i + k = sN σ → am_wp (am_call (d + 5)) (0, 0) cm_X1_suiting Q (fun _ => False) (5, [some (.ref s), some (.int (nI q)), some (.int (nI v)), some (.int (nI (bts (fun b => iSo q v (sB σ b) (sZ σ b)) i))), some (.int (nI i))], [], 0, 0) h from H (sN σ) 0 (by omega)
  intro k
  induction k with
  | zero =>
    intro i hi
    have e : i = sN σ := by omega
    subst e
    exact am_run (am_cK _) 3 (am_obj_in e0 (am_run (am_cK _) 1 ⟨fun _ => am_run (am_cK _) 2 hQ, fun c => absurd (nI_le (Nat.le_refl _) (by omega)) c⟩))
  | succ k ih =>
    intro i hi
    have hz := hs.2.1 i (by omega)
    refine am_run (am_cK _) 3 (am_obj_in e0 (am_run (am_cK _) 1 ⟨fun c => absurd c (nI_ge (by omega) (by omega)), fun _ => ?_⟩))
    refine am_run (am_cK _) 4 (am_obj_in e0 (am_run (am_cK _) 2 (am_rdi_in e1 ⟨vp_in_nI (by omega) (by omega), ?_⟩)))
    rw [nI_clamp (by omega), (e4 i (by omega)).1]
    refine am_run (am_cK _) 2 (am_obj_in e0 (am_run (am_cK _) 2 (am_rdi_in e2 ⟨vp_in_nI (by omega) (by omega), ?_⟩)))
    rw [nI_clamp (by omega), (e4 i (by omega)).2]
    refine am_run (am_cK _) 1 (C_isSo hq hv hqv (by omega) hz.2.1 hz.2.2 ?_)
    have zz := ih (i + 1) (by omega)
    rw [nI_succ, bts] at zz
    cases hb : iSo q v (sB σ i) (sZ σ i) with
    | false =>
      rw [hb] at zz
      exact am_run (am_cK _) 1 ⟨fun _ => am_run (am_cK _) 2 zz, fun c => absurd rfl c⟩
    | true =>
      rw [hb, if_pos rfl, ← q_orBit (bts_lt _ _) (by omega)] at zz
      exact am_run (am_cK _) 1 ⟨fun c => absurd c n10, fun _ => am_run (am_cK _) 8 zz⟩
/-- the bracelets that fit all that was heard -/
def fTg (σ : Sg) (F G : Nat → Nat) (m : Nat) : Nat := bts (fun b => allB (fun i => iSo (F i) (G i) (sB σ b) (sZ σ b)) m) (sN σ)
theorem bts_and (P R : Nat → Bool) (N : Nat) : bts P N &&& bts R N = bts (fun i => P i && R i) N := by
  apply Nat.eq_of_testBit_eq
  intro j
  rw [Nat.testBit_and, bts_bit, bts_bit, bts_bit]
  cases decide (j < N) <;> cases P j <;> cases R j <;> rfl
theorem bts_all : ∀ N, N ≤ 5 → ((1 : Int32) <<< (nI N &&& 31)) - 1 = nI (bts (fun _ => true) N) := by decide
theorem C_fitting {s : Nat} {σ : Sg} (hR : RS h s σ) (hs : Sok σ) (hC : RC h p cap m F G) (hF : ∀ i, i < m → F i ≤ 3 ∧ G i ≤ 9 ∧ (F i = 1 → G i < 4)) (hQ : Q (some (.int (nI (fTg σ F G m)))) h) : am_call (d + 7) 30 [.ref p, .ref s] h Q := by
  have hR0 := hR
  obtain ⟨r, z, kk, e0, e1, e2, e3, e4, e5⟩ := hR
  obtain ⟨c0, hm, hc, g1, g2, c1, c2, c3⟩ := hC
  have hN := hs.1
  refine en_X1_fitting (Nat.le_of_ble_eq_true rfl) (am_run (am_cK _) 3 (am_obj_in e0 ?_))
  suffices H : ∀ k i, i + k = m → am_wp (am_call (d + 6)) (0, 0) cm_X1_fitting Q (fun _ => False) (11, [some (.ref p), some (.ref s), some (.int (nI (bts (fun b => allB (fun i => iSo (F i) (G i) (sB σ b) (sZ σ b)) i) (sN σ)))), some (.int (nI i))], [], 0, 0) h by
    have zz := H m 0 (by omega)
    rw [show bts (fun b => allB (fun i => iSo (F i) (G i) (sB σ b) (sZ σ b)) 0) (sN σ) = bts (fun _ => true) (sN σ) from rfl, ← bts_all _ hN] at zz
    exact am_run (am_cK _) 6 zz
  intro k
  induction k with
  | zero =>
    intro i hi
    have e : i = m := by omega
    subst e
    exact am_run (am_cK _) 3 (am_obj_in c0 (am_run (am_cK _) 1 ⟨fun _ => am_run (am_cK _) 2 hQ, fun c => absurd (nI_le (Nat.le_refl _) (by omega)) c⟩))
  | succ k ih =>
    intro i hi
    have hb := hF i (by omega)
    refine am_run (am_cK _) 3 (am_obj_in c0 (am_run (am_cK _) 1 ⟨fun c => absurd c (nI_ge (by omega) (by omega)), fun _ => ?_⟩))
    refine am_run (am_cK _) 4 (am_obj_in c0 (am_run (am_cK _) 2 (am_rdi_in c1 ⟨vp_in_nI (by omega) (by omega), ?_⟩)))
    rw [nI_clamp (by omega), (c3 i (by omega)).1]
    refine am_run (am_cK _) 2 (am_obj_in c0 (am_run (am_cK _) 2 (am_rdi_in c2 ⟨vp_in_nI (by omega) (by omega), ?_⟩)))
    rw [nI_clamp (by omega), (c3 i (by omega)).2]
    refine am_run (am_cK _) 1 (C_suiting hR0 hs hb.1 hb.2.1 hb.2.2 ?_)
    have zz := ih (i + 1) (by omega)
    rw [nI_succ, show bts (fun b => allB (fun i => iSo (F i) (G i) (sB σ b) (sZ σ b)) (i + 1)) (sN σ) = bts (fun b => allB (fun i => iSo (F i) (G i) (sB σ b) (sZ σ b)) i && iSo (F i) (G i) (sB σ b) (sZ σ b)) (sN σ) from rfl, ← bts_and, ← q_and] at zz
    exact am_run (am_cK _) 4 zz
end
