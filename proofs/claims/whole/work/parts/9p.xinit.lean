/-! the constructor of the class -/
theorem am_invO {call : am_K} {mno n c p : Nat} {fs : List Value} {k : am_F → am_H → Prop} {lim : Nat × Nat} {pc : Nat} {ls : List (Option Value)} {st : List Value} {u : Nat × Nat} {h : am_H} (h0 : am_cats (st.drop n) ≤ 8 ∧ n ≤ st.length) (h1 : u.1 + (am_lim mno).1 ≤ lim.1) (h2 : u.2 + (am_lim mno).2 ≤ lim.2) (hl : (st.take n).getLast? = some (.ref p)) (ho : h.2 p = .inr (c, fs)) (H : call mno (st.take n).reverse h (fun v h' => k (pc + 3, ls, v.toList ++ st.drop n, u.1 + (am_lim mno).1, u.2 + (am_lim mno).2) h')) : am_inv call mno n (c + 1) k lim pc ls st u h := by
  unfold am_inv
  rw [if_pos ⟨h0.1, h0.2, h1, h2⟩]
  simp only [hl]
  exact am_obj_in ho H
theorem am_invS {call : am_K} {mno n : Nat} {k : am_F → am_H → Prop} {lim : Nat × Nat} {pc : Nat} {ls : List (Option Value)} {st : List Value} {u : Nat × Nat} {h : am_H} (h0 : am_cats (st.drop n) ≤ 8 ∧ n ≤ st.length) (h1 : u.1 + (am_lim mno).1 ≤ lim.1) (h2 : u.2 + (am_lim mno).2 ≤ lim.2) (H : call mno (st.take n).reverse h (fun v h' => k (pc + 3, ls, v.toList ++ st.drop n, u.1 + (am_lim mno).1, u.2 + (am_lim mno).2) h')) : am_inv call mno n 0 k lim pc ls st u h := by
  unfold am_inv
  rw [if_pos ⟨h0.1, h0.2, h1, h2⟩]
  exact H
theorem ad_s {h : am_H} {P : Nat} {c : am_C} (e : h.1 = P) : (am_add h c).2 P = c := by subst e; exact am_up_s
theorem ad_n {h : am_H} {P q : Nat} {c : am_C} (e : h.1 = P) (hq : q < P) : (am_add h c).2 q = h.2 q := am_up_n (by omega)
theorem ad_1 {h : am_H} {P : Nat} {c : am_C} (e : h.1 = P) : (am_add h c).1 = P + 1 := by subst e; rfl
section
variable {d p : Nat} {h : am_H} {Q : Option Value → am_H → Prop}
theorem I_past (hp : h.2 p = .inr (2, am_newf 2)) (h1 : h.1 = p + 1) (hQ : ∀ h', h'.1 = p + 80 → RP h' p (fun _ => Sg0) (fun _ => Sg0) (fun _ => false) 0 0 → (∀ q, q < p → h'.2 q = h.2 q) → Q none h') : am_call (d + 3) 57 [.ref p] h Q := by
  refine en_X5_init (Nat.le_of_ble_eq_true rfl) ?_
  refine am_run (am_cK _) 2 (show am_wp (am_call (d + 2)) (79, 383) cm_X5_init Q (fun _ => False) (4, [some (.ref p), none], [], 0, 0) h from ?_)
  refine am_run (am_cK _) 3 ⟨by decide, by decide, by decide, by decide, am_run (am_cK _) 1 (am_na hp (by omega) (lt_len rfl) (fun g1 a1 b1 c1 f1 => ?_))⟩
  refine am_run (am_cK _) 3 ⟨by decide, by decide, by decide, by decide, am_run (am_cK _) 1 (am_na b1 (by omega) (lt_len rfl) (fun g2 a2 b2 c2 f2 => ?_))⟩
  refine am_run (am_cK _) 3 ⟨by decide, by decide, by decide, by decide, am_run (am_cK _) 1 (am_na b2 (by omega) (lt_len rfl) (fun g3 a3 b3 c3 f3 => ?_))⟩
  rw [h1] at a1 b1 c1 b2 b3
  rw [a1] at a2 b2 c2 b3
  rw [a2] at a3 b3 c3
  have c1' := (f3 _ (by omega) (by omega)).trans ((f2 _ (by omega) (by omega)).trans c1)
  have c2' := (f3 _ (by omega) (by omega)).trans c2
  refine am_run (am_cK _) 2 (show am_wp (am_call (d + 2)) (79, 383) cm_X5_init Q (fun _ => False) (30, [some (.ref p), some (.int (nI 0))], [], 3 + 4 * 0, 22 + 19 * 0) g3 from ?_)
  refine am_lp (α := Nat → Option Nat) (fun i _ => (30, [some (.ref p), some (.int (nI i))], [], 3 + 4 * i, 22 + 19 * i)) (fun i g h' => h'.1 = p + 4 + 4 * i ∧ h'.2 p = cP p 0 0 ∧ h'.2 (p + 1) = aR 16 g ∧ h'.2 (p + 2) = aR 3 (fun _ => none) ∧ h'.2 (p + 3) = aB 3 (fun _ => 0) ∧ (∀ j, j < i → g j = some (p + 4 + 4 * j) ∧ RS h' (p + 4 + 4 * j) Sg0) ∧ ∀ q, q < p → h'.2 q = h.2 q) 16 (fun i g k hi P K => ?_) (fun g k P => ?_) 0 (fun _ => none) g3 (Nat.zero_le _) ⟨a3, b3, c1', c2', c3, fun j hj => absurd hj (Nat.not_lt_zero j), fun q hq => (f3 q (by omega) (by omega)).trans ((f2 q (by omega) (by omega)).trans (f1 q (by omega) (by omega)))⟩
  · obtain ⟨e1, e2, e3, e4, e5, e6, e7⟩ := P
    refine am_run (am_cK _) 3 (pk_lt 15 i (fun c => by omega) (fun _ => ?_))
    refine am_run (am_cK _) 2 (am_obj_in e2 (am_run (am_cK _) 2 ⟨show 3 + 4 * i + 1 ≤ 79 by omega, show 22 + 19 * i + 5 ≤ 383 by omega, ?_⟩))
    rw [e1]
    refine am_run (am_cK _) 2 (am_invO (p := p + 4 + 4 * i) (fs := am_newf 4) ⟨Nat.le_of_ble_eq_true rfl, Nat.le_of_ble_eq_true rfl⟩ (show 3 + 4 * i + 1 + 3 ≤ 79 by omega) (show 22 + 19 * i + 5 + 14 ≤ 383 by omega) rfl (ad_s e1) (I_stall (p := p + 4 + 4 * i) (ad_s e1) (ad_1 e1) (fun k2 m1 r1 t1 => ?_)))
    have fr : ∀ q, q < p + 4 + 4 * i → k2.2 q = k.2 q := fun q hq => (t1 q hq).trans (ad_n e1 hq)
    obtain ⟨_, _, _, s0, _⟩ := id r1
    refine am_run (am_cK _) 1 (am_arr_in ((fr (p + 1) (by omega)).trans e3) (am_obj_in s0 ⟨rfl, vp_in_nI (n := i) (N := 16) hi (by omega), ?_⟩))
    rw [nI_clamp (by omega)]
    generalize hk3 : am_set k2 (p + 1) _ = k3
    have w1 : k3.1 = p + 4 + 4 * (i + 1) := by rw [← hk3]; show k2.1 = _; omega
    have w2 : ∀ q, q ≠ p + 1 → k3.2 q = k2.2 q := fun q hq => by rw [← hk3]; exact as_n hq
    have w3 : k3.2 (p + 1) = aR 16 (va_up g i (some (p + 4 + 4 * i))) := by rw [← hk3]; exact as_s
    have K2 := K (va_up g i (some (p + 4 + 4 * i))) k3 ⟨w1, (w2 p (by omega)).trans ((fr p (by omega)).trans e2), w3, (w2 _ (by omega)).trans ((fr _ (by omega)).trans e4), (w2 _ (by omega)).trans ((fr _ (by omega)).trans e5), fun j hj => (by
      by_cases ej : j = i
      · subst ej
        exact ⟨am_up_s, RS_fr r1 (fun x x1 x2 => w2 x (by omega))⟩
      · have z := e6 j (by omega)
        exact ⟨(am_up_n ej).trans z.1, RS_fr z.2 (fun x x1 x2 => (w2 x (by omega)).trans (fr x (by omega)))⟩), fun q hq => (w2 q (by omega)).trans ((fr q (by omega)).trans (e7 q hq))⟩
    rw [nI_succ i, show 3 + 4 * (i + 1) = 3 + 4 * i + 1 + 3 by omega, show 22 + 19 * (i + 1) = 22 + 19 * i + 5 + 14 by omega] at K2
    exact am_run (am_cK _) 2 K2
  obtain ⟨e1, e2, e3, e4, e5, e6, e7⟩ := P
  refine am_run (am_cK _) 3 (pk_lt 15 16 (fun _ => ?_) (fun c => by omega))
  refine am_run (am_cK _) 2 (show am_wp (am_call (d + 2)) (79, 383) cm_X5_init Q (fun _ => False) (57, [some (.ref p), some (.int (nI 0))], [], 67 + 4 * 0, 326 + 19 * 0) k from ?_)
  refine am_lp (α := Nat → Option Nat) (fun i _ => (57, [some (.ref p), some (.int (nI i))], [], 67 + 4 * i, 326 + 19 * i)) (fun i g' h' => h'.1 = p + 68 + 4 * i ∧ h'.2 p = cP p 0 0 ∧ h'.2 (p + 1) = aR 16 g ∧ h'.2 (p + 2) = aR 3 g' ∧ h'.2 (p + 3) = aB 3 (fun _ => 0) ∧ (∀ j, j < i → g' j = some (p + 68 + 4 * j) ∧ RS h' (p + 68 + 4 * j) Sg0) ∧ (∀ j, j < 16 → RS h' (p + 4 + 4 * j) Sg0) ∧ ∀ q, q < p → h'.2 q = h.2 q) 3 (fun i g' k hi P K => ?_) (fun g' k P => ?_) 0 (fun _ => none) k (Nat.zero_le _) ⟨by omega, e2, e3, e4, e5, fun j hj => absurd hj (Nat.not_lt_zero j), fun j hj => (e6 j hj).2, e7⟩
  · obtain ⟨e1', e2', e3', e4', e5', e6', e8', e7'⟩ := P
    refine am_run (am_cK _) 3 (pk_le 3 i (fun c => by omega) (fun _ => ?_))
    refine am_run (am_cK _) 2 (am_obj_in e2' (am_run (am_cK _) 2 ⟨show 67 + 4 * i + 1 ≤ 79 by omega, show 326 + 19 * i + 5 ≤ 383 by omega, ?_⟩))
    rw [e1']
    refine am_run (am_cK _) 2 (am_invO (p := p + 68 + 4 * i) (fs := am_newf 4) ⟨Nat.le_of_ble_eq_true rfl, Nat.le_of_ble_eq_true rfl⟩ (show 67 + 4 * i + 1 + 3 ≤ 79 by omega) (show 326 + 19 * i + 5 + 14 ≤ 383 by omega) rfl (ad_s e1') (I_stall (p := p + 68 + 4 * i) (ad_s e1') (ad_1 e1') (fun k2 m1 r1 t1 => ?_)))
    have fr : ∀ q, q < p + 68 + 4 * i → k2.2 q = k.2 q := fun q hq => (t1 q hq).trans (ad_n e1' hq)
    obtain ⟨_, _, _, s0, _⟩ := id r1
    refine am_run (am_cK _) 1 (am_arr_in ((fr (p + 2) (by omega)).trans e4') (am_obj_in s0 ⟨rfl, vp_in_nI (n := i) (N := 3) hi (by omega), ?_⟩))
    rw [nI_clamp (by omega)]
    generalize hk3 : am_set k2 (p + 2) _ = k3
    have w1 : k3.1 = p + 68 + 4 * (i + 1) := by rw [← hk3]; show k2.1 = _; omega
    have w2 : ∀ q, q ≠ p + 2 → k3.2 q = k2.2 q := fun q hq => by rw [← hk3]; exact as_n hq
    have w3 : k3.2 (p + 2) = aR 3 (va_up g' i (some (p + 68 + 4 * i))) := by rw [← hk3]; exact as_s
    have K2 := K (va_up g' i (some (p + 68 + 4 * i))) k3 ⟨w1, (w2 p (by omega)).trans ((fr p (by omega)).trans e2'), (w2 _ (by omega)).trans ((fr _ (by omega)).trans e3'), w3, (w2 _ (by omega)).trans ((fr _ (by omega)).trans e5'), fun j hj => (by
      by_cases ej : j = i
      · subst ej
        exact ⟨am_up_s, RS_fr r1 (fun x x1 x2 => w2 x (by omega))⟩
      · have z := e6' j (by omega)
        exact ⟨(am_up_n ej).trans z.1, RS_fr z.2 (fun x x1 x2 => (w2 x (by omega)).trans (fr x (by omega)))⟩), fun j hj => RS_fr (e8' j hj) (fun x x1 x2 => (w2 x (by omega)).trans (fr x (by omega))), fun q hq => (w2 q (by omega)).trans ((fr q (by omega)).trans (e7' q hq))⟩
    rw [nI_succ i, show 67 + 4 * (i + 1) = 67 + 4 * i + 1 + 3 by omega, show 326 + 19 * (i + 1) = 326 + 19 * i + 5 + 14 by omega] at K2
    exact am_run (am_cK _) 2 K2
  · obtain ⟨e1', e2', e3', e4', e5', e6', e8', e7'⟩ := P
    refine am_run (am_cK _) 3 (pk_le 3 3 (fun _ => ?_) (fun c => by omega))
    exact am_run (am_cK _) 1 (hQ k e1' ⟨g, g', fun _ => 0, e2', e3', e4', e5', fun i hi => ⟨(e6 i hi).1, e8' i hi, Sok0⟩, fun i hi => ⟨(e6' i hi).1, (e6' i hi).2, Sok0, rfl⟩, by decide, by decide⟩ e7')
def Sg1 : Sg := (0, fun _ => 0, fun _ _ => 0, fun _ => 12, 0)
def M0 : Ms := (Sg1, [], fun _ => none, (0, fun _ => 0), (0, fun _ => 0), (0, fun _ => 0, fun _ => 0), (0, fun _ => 0, fun _ => 0), [])
theorem X_init (h1 : h.1 = 41) (h40 : h.2 40 = .inr (7, am_newf 7)) (hO : RO h) (hQ : ∀ h', h'.1 = 152 → RX h' M0 → (∀ q, q < 40 → h'.2 q = h.2 q) → Q none h') : am_call (d + 5) 114 [.ref 40] h Q := by
  refine en_X10_init (Nat.le_of_ble_eq_true rfl) ?_
  refine am_run (am_cK _) 2 (show am_wp (am_call (d + 4)) (111, 2817) cm_X10_init Q (fun _ => False) (4, [some (.ref 40), none], [], 0, 0) h from ?_)
  have T0 : ∀ q, q < 41 → q ≠ 40 → h.2 q = h.2 q := fun _ _ _ => rfl
  -- stall
  refine am_run (am_cK _) 2 ⟨Nat.le_of_ble_eq_true rfl, Nat.le_of_ble_eq_true rfl, ?_⟩
  rw [h1]
  refine am_run (am_cK _) 2 (am_obj_in (p := 41) (ad_s h1) (I_stall (p := 41) (ad_s h1) (ad_1 h1) (fun g1 m1 r1 f1 => ?_)))
  refine am_run (am_cK _) 1 (am_pf (p := 40) (v := 41) (fs := [.null, .null, .null, .null, .null, .null, .null, .null, .null, .null, .null, .null, .int 0]) ((f1 40 (by decide)).trans ((ad_n h1 (by decide)).trans h40)) (lt_len rfl) (fun k1 x1 y1 z1 => ?_))
  have N1 : k1.1 = 45 := x1.trans m1
  have G1 : ∀ q, q < 41 → q ≠ 40 → k1.2 q = h.2 q := fun q q1 q2 => (z1 q q2).trans ((f1 q q1).trans (ad_n h1 q1))
  have C1 := RS_fr r1 (h' := k1) (fun x x1 x2 => z1 x (by omega))
  have O1 : k1.2 40 = .inr (7, [.ref 41, .null, .null, .null, .null, .null, .null, .null, .null, .null, .null, .null, .int 0]) := y1
  have T1 : ∀ q, q < 41 → q ≠ 40 → k1.2 q = h.2 q := fun q q1 q2 => (G1 q (by omega) q2).trans (T0 q q1 q2)
  refine (show am_wp (am_call (d + 4)) (111, 2817) cm_X10_init Q (fun _ => False) (15, [some (.ref 40), none], [], 4, 19) k1 from ?_)
  -- drawn
  refine am_run (am_cK _) 2 ⟨Nat.le_of_ble_eq_true rfl, Nat.le_of_ble_eq_true rfl, ?_⟩
  rw [N1]
  refine am_run (am_cK _) 2 (am_obj_in (p := 45) (ad_s N1) (I_stall (p := 45) (ad_s N1) (ad_1 N1) (fun g2 m2 r2 f2 => ?_)))
  refine am_run (am_cK _) 1 (am_pf (p := 40) (v := 45) (fs := [.ref 41, .null, .null, .null, .null, .null, .null, .null, .null, .null, .null, .null, .int 0]) ((f2 40 (by decide)).trans ((ad_n N1 (by decide)).trans O1)) (lt_len rfl) (fun k2 x2 y2 z2 => ?_))
  have N2 : k2.1 = 49 := x2.trans m2
  have G2 : ∀ q, q < 45 → q ≠ 40 → k2.2 q = k1.2 q := fun q q1 q2 => (z2 q q2).trans ((f2 q q1).trans (ad_n N1 q1))
  have C2 := RS_fr r2 (h' := k2) (fun x x1 x2 => z2 x (by omega))
  have O2 : k2.2 40 = .inr (7, [.ref 41, .ref 45, .null, .null, .null, .null, .null, .null, .null, .null, .null, .null, .int 0]) := y2
  have T2 : ∀ q, q < 41 → q ≠ 40 → k2.2 q = h.2 q := fun q q1 q2 => (G2 q (by omega) q2).trans (T1 q q1 q2)
  refine (show am_wp (am_call (d + 4)) (111, 2817) cm_X10_init Q (fun _ => False) (26, [some (.ref 40), none], [], 8, 38) k2 from ?_)
  -- past
  refine am_run (am_cK _) 2 ⟨Nat.le_of_ble_eq_true rfl, Nat.le_of_ble_eq_true rfl, ?_⟩
  rw [N2]
  refine am_run (am_cK _) 2 (am_obj_in (p := 49) (ad_s N2) (I_past (p := 49) (ad_s N2) (ad_1 N2) (fun g3 m3 r3 f3 => ?_)))
  refine am_run (am_cK _) 1 (am_pf (p := 40) (v := 49) (fs := [.ref 41, .ref 45, .null, .null, .null, .null, .null, .null, .null, .null, .null, .null, .int 0]) ((f3 40 (by decide)).trans ((ad_n N2 (by decide)).trans O2)) (lt_len rfl) (fun k3 x3 y3 z3 => ?_))
  have N3 : k3.1 = 129 := x3.trans m3
  have G3 : ∀ q, q < 49 → q ≠ 40 → k3.2 q = k2.2 q := fun q q1 q2 => (z3 q q2).trans ((f3 q q1).trans (ad_n N2 q1))
  have C3 := RP_fr r3 (h' := k3) (fun x x1 x2 => z3 x (by omega))
  have O3 : k3.2 40 = .inr (7, [.ref 41, .ref 45, .ref 49, .null, .null, .null, .null, .null, .null, .null, .null, .null, .int 0]) := y3
  have T3 : ∀ q, q < 41 → q ≠ 40 → k3.2 q = h.2 q := fun q q1 q2 => (G3 q (by omega) q2).trans (T2 q q1 q2)
  refine (show am_wp (am_call (d + 4)) (111, 2817) cm_X10_init Q (fun _ => False) (37, [some (.ref 40), none], [], 88, 426) k3 from ?_)
  -- text
  refine am_run (am_cK _) 2 ⟨Nat.le_of_ble_eq_true rfl, Nat.le_of_ble_eq_true rfl, ?_⟩
  rw [N3]
  refine am_run (am_cK _) 2 (am_obj_in (p := 129) (ad_s N3) (I_text (p := 129) (ad_s N3) (ad_1 N3) (fun g4 m4 r4 f4 => ?_)))
  refine am_run (am_cK _) 1 (am_pf (p := 40) (v := 129) (fs := [.ref 41, .ref 45, .ref 49, .null, .null, .null, .null, .null, .null, .null, .null, .null, .int 0]) ((f4 40 (by decide)).trans ((ad_n N3 (by decide)).trans O3)) (lt_len rfl) (fun k4 x4 y4 z4 => ?_))
  have N4 : k4.1 = 131 := x4.trans m4
  have G4 : ∀ q, q < 129 → q ≠ 40 → k4.2 q = k3.2 q := fun q q1 q2 => (z4 q q2).trans ((f4 q q1).trans (ad_n N3 q1))
  have C4 := RT_fr r4 (h' := k4) (fun x x1 x2 => z4 x (by omega))
  have O4 : k4.2 40 = .inr (7, [.ref 41, .ref 45, .ref 49, .ref 129, .null, .null, .null, .null, .null, .null, .null, .null, .int 0]) := y4
  have T4 : ∀ q, q < 41 → q ≠ 40 → k4.2 q = h.2 q := fun q q1 q2 => (G4 q (by omega) q2).trans (T3 q q1 q2)
  refine (show am_wp (am_call (d + 4)) (111, 2817) cm_X10_init Q (fun _ => False) (48, [some (.ref 40), none], [], 90, 510) k4 from ?_)
  -- told
  refine am_run (am_cK _) 2 ⟨Nat.le_of_ble_eq_true rfl, Nat.le_of_ble_eq_true rfl, ?_⟩
  rw [N4]
  refine am_run (am_cK _) 2 (am_obj_in (p := 131) (ad_s N4) (I_told (p := 131) (ad_s N4) (ad_1 N4) (fun g5 m5 r5 f5 => ?_)))
  refine am_run (am_cK _) 1 (am_pf (p := 40) (v := 131) (fs := [.ref 41, .ref 45, .ref 49, .ref 129, .null, .null, .null, .null, .null, .null, .null, .null, .int 0]) ((f5 40 (by decide)).trans ((ad_n N4 (by decide)).trans O4)) (lt_len rfl) (fun k5 x5 y5 z5 => ?_))
  have N5 : k5.1 = 133 := x5.trans m5
  have G5 : ∀ q, q < 131 → q ≠ 40 → k5.2 q = k4.2 q := fun q q1 q2 => (z5 q q2).trans ((f5 q q1).trans (ad_n N4 q1))
  have C5 := RD_fr r5 (h' := k5) (fun x x1 x2 => z5 x (by omega))
  have O5 : k5.2 40 = .inr (7, [.ref 41, .ref 45, .ref 49, .ref 129, .ref 131, .null, .null, .null, .null, .null, .null, .null, .int 0]) := y5
  have T5 : ∀ q, q < 41 → q ≠ 40 → k5.2 q = h.2 q := fun q q1 q2 => (G5 q (by omega) q2).trans (T4 q q1 q2)
  refine (show am_wp (am_call (d + 4)) (111, 2817) cm_X10_init Q (fun _ => False) (59, [some (.ref 40), none], [], 92, 528) k5 from ?_)
  -- lists
  refine am_run (am_cK _) 2 ⟨Nat.le_of_ble_eq_true rfl, Nat.le_of_ble_eq_true rfl, ?_⟩
  rw [N5]
  refine am_run (am_cK _) 2 (am_obj_in (p := 133) (ad_s N5) (I_lists (p := 133) (RO_fr hO (fun x hx => (ad_n N5 (by omega)).trans (T5 x (by omega) (by omega)))) (by omega) (ad_s N5) (ad_1 N5) (fun g6 m6 r6 f6 => ?_)))
  refine am_run (am_cK _) 1 (am_pf (p := 40) (v := 133) (fs := [.ref 41, .ref 45, .ref 49, .ref 129, .ref 131, .null, .null, .null, .null, .null, .null, .null, .int 0]) ((f6 40 (by decide)).trans ((ad_n N5 (by decide)).trans O5)) (lt_len rfl) (fun k6 x6 y6 z6 => ?_))
  have N6 : k6.1 = 136 := x6.trans m6
  have G6 : ∀ q, q < 133 → q ≠ 40 → k6.2 q = k5.2 q := fun q q1 q2 => (z6 q q2).trans ((f6 q q1).trans (ad_n N5 q1))
  have C6 := RK_fr r6 (h' := k6) (fun x x1 x2 => z6 x (by omega))
  have O6 : k6.2 40 = .inr (7, [.ref 41, .ref 45, .ref 49, .ref 129, .ref 131, .ref 133, .null, .null, .null, .null, .null, .null, .int 0]) := y6
  have T6 : ∀ q, q < 41 → q ≠ 40 → k6.2 q = h.2 q := fun q q1 q2 => (G6 q (by omega) q2).trans (T5 q q1 q2)
  refine (show am_wp (am_call (d + 4)) (111, 2817) cm_X10_init Q (fun _ => False) (70, [some (.ref 40), none], [], 95, 2494) k6 from ?_)
  -- felt
  refine am_run (am_cK _) 2 ⟨Nat.le_of_ble_eq_true rfl, Nat.le_of_ble_eq_true rfl, ?_⟩
  rw [N6]
  refine am_run (am_cK _) 3 (am_obj_in (p := 136) (ad_s N6) (I_clues10 (p := 136) (ad_s N6) (ad_1 N6) (fun g7 m7 r7 f7 => ?_)))
  refine am_run (am_cK _) 1 (am_pf (p := 40) (v := 136) (fs := [.ref 41, .ref 45, .ref 49, .ref 129, .ref 131, .ref 133, .null, .null, .null, .null, .null, .null, .int 0]) ((f7 40 (by decide)).trans ((ad_n N6 (by decide)).trans O6)) (lt_len rfl) (fun k7 x7 y7 z7 => ?_))
  have N7 : k7.1 = 139 := x7.trans m7
  have G7 : ∀ q, q < 136 → q ≠ 40 → k7.2 q = k6.2 q := fun q q1 q2 => (z7 q q2).trans ((f7 q q1).trans (ad_n N6 q1))
  have C7 := RC_fr r7 (h' := k7) (fun x x1 x2 => z7 x (by omega))
  have O7 : k7.2 40 = .inr (7, [.ref 41, .ref 45, .ref 49, .ref 129, .ref 131, .ref 133, .ref 136, .null, .null, .null, .null, .null, .int 0]) := y7
  have T7 : ∀ q, q < 41 → q ≠ 40 → k7.2 q = h.2 q := fun q q1 q2 => (G7 q (by omega) q2).trans (T6 q q1 q2)
  refine (show am_wp (am_call (d + 4)) (111, 2817) cm_X10_init Q (fun _ => False) (83, [some (.ref 40), none], [], 98, 2521) k7 from ?_)
  -- hear
  refine am_run (am_cK _) 2 ⟨Nat.le_of_ble_eq_true rfl, Nat.le_of_ble_eq_true rfl, ?_⟩
  rw [N7]
  refine am_run (am_cK _) 3 (am_obj_in (p := 139) (ad_s N7) (I_clues12 (p := 139) (ad_s N7) (ad_1 N7) (fun g8 m8 r8 f8 => ?_)))
  refine am_run (am_cK _) 1 (am_pf (p := 40) (v := 139) (fs := [.ref 41, .ref 45, .ref 49, .ref 129, .ref 131, .ref 133, .ref 136, .null, .null, .null, .null, .null, .int 0]) ((f8 40 (by decide)).trans ((ad_n N7 (by decide)).trans O7)) (lt_len rfl) (fun k8 x8 y8 z8 => ?_))
  have N8 : k8.1 = 142 := x8.trans m8
  have G8 : ∀ q, q < 139 → q ≠ 40 → k8.2 q = k7.2 q := fun q q1 q2 => (z8 q q2).trans ((f8 q q1).trans (ad_n N7 q1))
  have C8 := RC_fr r8 (h' := k8) (fun x x1 x2 => z8 x (by omega))
  have O8 : k8.2 40 = .inr (7, [.ref 41, .ref 45, .ref 49, .ref 129, .ref 131, .ref 133, .ref 136, .ref 139, .null, .null, .null, .null, .int 0]) := y8
  have T8 : ∀ q, q < 41 → q ≠ 40 → k8.2 q = h.2 q := fun q q1 q2 => (G8 q (by omega) q2).trans (T7 q q1 q2)
  refine (show am_wp (am_call (d + 4)) (111, 2817) cm_X10_init Q (fun _ => False) (96, [some (.ref 40), none], [], 101, 2548) k8 from ?_)
  -- tally
  refine am_run (am_cK _) 3 ⟨by decide, by decide, Nat.le_of_ble_eq_true rfl, Nat.le_of_ble_eq_true rfl, am_run (am_cK _) 1 (am_na (p := 40) (fs := [.ref 41, .ref 45, .ref 49, .ref 129, .ref 131, .ref 133, .ref 136, .ref 139, .null, .null, .null, .null, .int 0]) O8 (by omega) (lt_len rfl) (fun k9 x9 y9 c9 f9 => ?_))⟩
  rw [N8] at x9 y9 c9 f9
  have N9 : k9.1 = 143 := x9
  have G9 : ∀ q, q < 142 → q ≠ 40 → k9.2 q = k8.2 q := fun q q1 q2 => f9 q q1 q2
  have C9 := c9
  have O9 : k9.2 40 = .inr (7, [.ref 41, .ref 45, .ref 49, .ref 129, .ref 131, .ref 133, .ref 136, .ref 139, .ref 142, .null, .null, .null, .int 0]) := y9
  have T9 : ∀ q, q < 41 → q ≠ 40 → k9.2 q = h.2 q := fun q q1 q2 => (G9 q (by omega) q2).trans (T8 q q1 q2)
  refine (show am_wp (am_call (d + 4)) (111, 2817) cm_X10_init Q (fun _ => False) (103, [some (.ref 40), none], [], 102, 2552) k9 from ?_)
  -- least
  refine am_run (am_cK _) 3 ⟨by decide, by decide, Nat.le_of_ble_eq_true rfl, Nat.le_of_ble_eq_true rfl, am_run (am_cK _) 1 (am_na (p := 40) (fs := [.ref 41, .ref 45, .ref 49, .ref 129, .ref 131, .ref 133, .ref 136, .ref 139, .ref 142, .null, .null, .null, .int 0]) O9 (by omega) (lt_len rfl) (fun k10 x10 y10 c10 f10 => ?_))⟩
  rw [N9] at x10 y10 c10 f10
  have N10 : k10.1 = 144 := x10
  have G10 : ∀ q, q < 143 → q ≠ 40 → k10.2 q = k9.2 q := fun q q1 q2 => f10 q q1 q2
  have C10 := c10
  have O10 : k10.2 40 = .inr (7, [.ref 41, .ref 45, .ref 49, .ref 129, .ref 131, .ref 133, .ref 136, .ref 139, .ref 142, .ref 143, .null, .null, .int 0]) := y10
  have T10 : ∀ q, q < 41 → q ≠ 40 → k10.2 q = h.2 q := fun q q1 q2 => (G10 q (by omega) q2).trans (T9 q q1 q2)
  refine (show am_wp (am_call (d + 4)) (111, 2817) cm_X10_init Q (fun _ => False) (110, [some (.ref 40), none], [], 103, 2557) k10 from ?_)
  -- rule
  refine am_run (am_cK _) 2 ⟨Nat.le_of_ble_eq_true rfl, Nat.le_of_ble_eq_true rfl, ?_⟩
  rw [N10]
  refine am_run (am_cK _) 2 (am_obj_in (p := 144) (ad_s N10) (I_rule (p := 144) (ad_s N10) (ad_1 N10) (fun g11 m11 r11 f11 => ?_)))
  refine am_run (am_cK _) 1 (am_pf (p := 40) (v := 144) (fs := [.ref 41, .ref 45, .ref 49, .ref 129, .ref 131, .ref 133, .ref 136, .ref 139, .ref 142, .ref 143, .null, .null, .int 0]) ((f11 40 (by decide)).trans ((ad_n N10 (by decide)).trans O10)) (lt_len rfl) (fun k11 x11 y11 z11 => ?_))
  have N11 : k11.1 = 148 := x11.trans m11
  have G11 : ∀ q, q < 144 → q ≠ 40 → k11.2 q = k10.2 q := fun q q1 q2 => (z11 q q2).trans ((f11 q q1).trans (ad_n N10 q1))
  have C11 := RF_fr r11 (h' := k11) (fun x x1 x2 => z11 x (by omega))
  have O11 : k11.2 40 = .inr (7, [.ref 41, .ref 45, .ref 49, .ref 129, .ref 131, .ref 133, .ref 136, .ref 139, .ref 142, .ref 143, .ref 144, .null, .int 0]) := y11
  have T11 : ∀ q, q < 41 → q ≠ 40 → k11.2 q = h.2 q := fun q q1 q2 => (G11 q (by omega) q2).trans (T10 q q1 q2)
  refine (show am_wp (am_call (d + 4)) (111, 2817) cm_X10_init Q (fun _ => False) (121, [some (.ref 40), none], [], 107, 2687) k11 from ?_)
  -- draft
  refine am_run (am_cK _) 2 ⟨Nat.le_of_ble_eq_true rfl, Nat.le_of_ble_eq_true rfl, ?_⟩
  rw [N11]
  refine am_run (am_cK _) 2 (am_obj_in (p := 148) (ad_s N11) (I_rule (p := 148) (ad_s N11) (ad_1 N11) (fun g12 m12 r12 f12 => ?_)))
  refine am_run (am_cK _) 1 (am_pf (p := 40) (v := 148) (fs := [.ref 41, .ref 45, .ref 49, .ref 129, .ref 131, .ref 133, .ref 136, .ref 139, .ref 142, .ref 143, .ref 144, .null, .int 0]) ((f12 40 (by decide)).trans ((ad_n N11 (by decide)).trans O11)) (lt_len rfl) (fun k12 x12 y12 z12 => ?_))
  have N12 : k12.1 = 152 := x12.trans m12
  have G12 : ∀ q, q < 148 → q ≠ 40 → k12.2 q = k11.2 q := fun q q1 q2 => (z12 q q2).trans ((f12 q q1).trans (ad_n N11 q1))
  have C12 := RF_fr r12 (h' := k12) (fun x x1 x2 => z12 x (by omega))
  have O12 : k12.2 40 = .inr (7, [.ref 41, .ref 45, .ref 49, .ref 129, .ref 131, .ref 133, .ref 136, .ref 139, .ref 142, .ref 143, .ref 144, .ref 148, .int 0]) := y12
  have T12 : ∀ q, q < 41 → q ≠ 40 → k12.2 q = h.2 q := fun q q1 q2 => (G12 q (by omega) q2).trans (T11 q q1 q2)
  refine (show am_wp (am_call (d + 4)) (111, 2817) cm_X10_init Q (fun _ => False) (132, [some (.ref 40), none], [], 111, 2817) k12 from ?_)
  have S12 : ∀ q, q < 152 → q ≠ 40 → k12.2 q = k12.2 q := fun _ _ _ => rfl
  have S11 : ∀ q, q < 148 → q ≠ 40 → k12.2 q = k11.2 q := fun q q1 q2 => (S12 q (by omega) q2).trans (G12 q q1 q2)
  have S10 : ∀ q, q < 144 → q ≠ 40 → k12.2 q = k10.2 q := fun q q1 q2 => (S11 q (by omega) q2).trans (G11 q q1 q2)
  have S9 : ∀ q, q < 143 → q ≠ 40 → k12.2 q = k9.2 q := fun q q1 q2 => (S10 q (by omega) q2).trans (G10 q q1 q2)
  have S8 : ∀ q, q < 142 → q ≠ 40 → k12.2 q = k8.2 q := fun q q1 q2 => (S9 q (by omega) q2).trans (G9 q q1 q2)
  have S7 : ∀ q, q < 139 → q ≠ 40 → k12.2 q = k7.2 q := fun q q1 q2 => (S8 q (by omega) q2).trans (G8 q q1 q2)
  have S6 : ∀ q, q < 136 → q ≠ 40 → k12.2 q = k6.2 q := fun q q1 q2 => (S7 q (by omega) q2).trans (G7 q q1 q2)
  have S5 : ∀ q, q < 133 → q ≠ 40 → k12.2 q = k5.2 q := fun q q1 q2 => (S6 q (by omega) q2).trans (G6 q q1 q2)
  have S4 : ∀ q, q < 131 → q ≠ 40 → k12.2 q = k4.2 q := fun q q1 q2 => (S5 q (by omega) q2).trans (G5 q q1 q2)
  have S3 : ∀ q, q < 129 → q ≠ 40 → k12.2 q = k3.2 q := fun q q1 q2 => (S4 q (by omega) q2).trans (G4 q q1 q2)
  have S2 : ∀ q, q < 49 → q ≠ 40 → k12.2 q = k2.2 q := fun q q1 q2 => (S3 q (by omega) q2).trans (G3 q q1 q2)
  have S1 : ∀ q, q < 45 → q ≠ 40 → k12.2 q = k1.2 q := fun q q1 q2 => (S2 q (by omega) q2).trans (G2 q q1 q2)
  have D1 := RS_fr C1 (h' := k12) (fun x x1 x2 => S1 x (by omega) (by omega))
  have D2 := RS_fr C2 (h' := k12) (fun x x1 x2 => S2 x (by omega) (by omega))
  have D3 := RP_fr C3 (h' := k12) (fun x x1 x2 => S3 x (by omega) (by omega))
  have D4 := RT_fr C4 (h' := k12) (fun x x1 x2 => S4 x (by omega) (by omega))
  have D5 := RD_fr C5 (h' := k12) (fun x x1 x2 => S5 x (by omega) (by omega))
  have D6 := RK_fr C6 (h' := k12) (fun x x1 x2 => S6 x (by omega) (by omega))
  have D7 := RC_fr C7 (h' := k12) (fun x x1 x2 => S7 x (by omega) (by omega))
  have D8 := RC_fr C8 (h' := k12) (fun x x1 x2 => S8 x (by omega) (by omega))
  have D11 := RF_fr C11 (h' := k12) (fun x x1 x2 => S11 x (by omega) (by omega))
  have D9 : k12.2 142 = aI 4 (fun _ => 0) := (S9 142 (by omega) (by omega)).trans C9
  have D10 : k12.2 143 = aI 5 (fun _ => 0) := (S10 143 (by omega) (by omega)).trans C10
  obtain ⟨r, z, kk, e0, e1, e2, e3, e4, e5⟩ := id D1
  refine am_run (am_cK _) 2 (show am_wp (am_call (d + 4)) (111, 2817) cm_X10_init Q (fun _ => False) (134, [some (.ref 40), some (.int (nI 0))], [], 111, 2817) k12 from ?_)
  refine am_lp (α := Nat → Int32) (fun c _ => (134, [some (.ref 40), some (.int (nI c))], [], 111, 2817)) (fun c g h' => h'.1 = 152 ∧ h'.2 44 = aI 4 g ∧ (∀ j, j < c → g j = nI 12) ∧ ∀ q, q ≠ 44 → h'.2 q = k12.2 q) 4 (fun c g k hc P K => ?_) (fun g k P => ?_) 0 kk k12 (Nat.zero_le _) ⟨N12, e3, fun j hj => absurd hj (Nat.not_lt_zero j), fun _ _ => rfl⟩
  · obtain ⟨w1, w2, w3, w4⟩ := P
    refine am_run (am_cK _) 3 (pk_le 4 c (fun q => by omega) (fun _ => ?_))
    refine am_run (am_cK _) 2 (am_obj_in ((w4 40 (by decide)).trans O12) (am_run (am_cK _) 1 (am_obj_in ((w4 41 (by decide)).trans e0) (am_run (am_cK _) 3 (am_ari_in w2 ⟨vp_in_nI (n := c) (N := 4) hc (by omega), ?_⟩)))))
    rw [nI_clamp (by omega)]
    generalize hk3 : am_set k 44 _ = k3
    have K2 := K (upd g c 12) k3 ⟨by rw [← hk3]; exact w1, by rw [← hk3]; exact as_s, fun j hj => (by
      by_cases e : j = c
      · rw [e, upd_s]; rfl
      · exact (upd_n e).trans (w3 j (by omega))), fun q hq => by rw [← hk3]; exact (as_n hq).trans (w4 q hq)⟩
    rw [nI_succ c] at K2
    exact am_run (am_cK _) 2 K2
  · obtain ⟨w1, w2, w3, w4⟩ := P
    refine am_run (am_cK _) 3 (pk_le 4 4 (fun _ => ?_) (fun c => by omega))
    refine am_run (am_cK _) 1 (hQ k w1 ⟨144, 148, 0, ⟨(w4 40 (by decide)).trans O12, Or.inl ⟨rfl, rfl⟩⟩, ⟨⟨r, z, g, (w4 _ (by decide)).trans e0, (w4 _ (by decide)).trans e1, (w4 _ (by decide)).trans e2, w2, fun b hb => absurd hb (Nat.not_lt_zero b), fun c hc => w3 c hc⟩, ⟨by decide, fun b hb => absurd hb (Nat.not_lt_zero b), fun _ _ => (show 12 ≤ 99 by decide), Nat.zero_le _⟩⟩, ⟨Sg0, RS_fr D2 (fun x x1 x2 => w4 x (by omega))⟩, ⟨fun _ => Sg0, fun _ => Sg0, fun _ => false, 0, RP_fr D3 (fun x x1 x2 => w4 x (by omega)), fun j x hx => (by cases j <;> cases hx), fun _ _ => rfl⟩, ⟨0, 0, RT_fr D4 (fun x x1 x2 => w4 x (by omega))⟩, ⟨RD_fr D5 (fun x x1 x2 => w4 x (by omega)), by decide⟩, RK_fr D6 (fun x x1 x2 => w4 x (by omega)), ⟨RC_fr D7 (fun x x1 x2 => w4 x (by omega)), fun i hi => absurd hi (Nat.not_lt_zero i)⟩, ⟨RC_fr D8 (fun x x1 x2 => w4 x (by omega)), fun i hi => absurd hi (Nat.not_lt_zero i)⟩, ⟨_, (w4 142 (by decide)).trans D9⟩, ⟨_, (w4 143 (by decide)).trans D10⟩, ⟨RF_fr D11 (fun x x1 x2 => w4 x (by omega)), ⟨by decide, Or.inl rfl⟩⟩, (RF_fr C12 (fun x x1 x2 => w4 x (by omega))).z, RO_fr hO (fun x hx => (w4 x (by omega)).trans (T12 x (by omega) (by omega)))⟩ (fun q hq => (w4 q (by omega)).trans (T12 q (by omega) (by omega))))
end
