theorem sh_all : ∀ v, v < 19 → ∀ a, a < 10 → ∀ b, b < 10 → ((nI v - nI a - nI b < 0) ↔ v < a + b) ∧ (a + b ≤ v → nI a + (nI v - nI a - nI b) / 2 = nI (a + (v - a - b) / 2)) := by decide +kernel
theorem k10 {x y : Nat} (hy : y < 10) : (10 * x + y) / 10 = x ∧ (10 * x + y) % 10 = y := by omega
section
variable {d : Nat} {h0 h : am_H} {Q : Option Value → am_H → Prop} {F : Nat → Int32} {A : Nat → Nat → Int32} {R : Nat → Int64} {M : Ms} {v a b : Nat}
theorem X_share (hv : v < 19) (ha : a < 10) (hb : b < 10) (hQ : Q (some (.int (gtv v a b))) h) : am_call (d + 1) 171 [.int (nI v), .int (nI a), .int (nI b)] h Q := by
  have sa := sh_all v hv a ha b hb
  unfold gtv at hQ
  refine en_X10_share (Nat.le_of_ble_eq_true rfl) ?_
  refine am_run (am_cK _) 8 (⟨fun c => ?_, fun c => ?_⟩)
  · have c' := sa.1.mp c
    rw [if_neg (by omega)] at hQ
    refine am_run (am_cK _) 3 (pk_le a b (fun c2 => ?_) (fun c2 => ?_))
    · rw [if_neg (by omega)] at hQ
      exact am_run (am_cK _) 2 (hQ)
    · rw [if_pos c2] at hQ
      exact am_run (am_cK _) 3 (hQ)
  · have c' : a + b ≤ v := Nat.le_of_not_lt (fun z => c (sa.1.mpr z))
    rw [if_pos c', ← sa.2 c'] at hQ
    exact am_run (am_cK _) 4 (⟨show ¬ (2 : Int32) = 0 by decide, am_run (am_cK _) 2 (hQ)⟩)
theorem X_hasNoBetter (hv : v < 19) (ha : a < 10) (hb : b < 10) (hQ : Q (some (.int (bI (hNB v a b)))) h) : am_call (d + 2) 170 [.int (nI v), .int (nI a), .int (nI b)] h Q := by
  refine en_X10_hasNoBetter (Nat.le_of_ble_eq_true rfl) ?_
  refine am_run (am_cK _) 4 (X_share hv ha hb ?_)
  refine am_run (am_cK _) 3 ?_
  refine am_loopP (α := Unit) (fun z _ => (10, [some (.int (nI v)), some (.int (nI a)), some (.int (nI b)), some (.int (gtv v a b)), some (.int (nI z))], [], 0, 0)) (fun z _ => ∀ c, c < z → gtv v c b ≤ gtv v a b) 10 (fun z _ hz P K => ?_) (fun _ P => ?_) 0 () (Nat.zero_le _) (fun c hc => by omega)
  · refine am_run (am_cK _) 3 (pk_le 10 z (fun c => by omega) (fun _ => ?_))
    refine am_run (am_cK _) 4 (X_share hv hz hb ?_)
    refine am_run (am_cK _) 2 (⟨fun c => ?_, fun c => ?_⟩)
    · have K2 := K () (fun c' hc => (if q : c' = z then q ▸ c else P c' (by omega)))
      rw [nI_succ z] at K2
      exact am_run (am_cK _) 2 (K2)
    · rw [show hNB v a b = false from allB_no hz (decide_eq_false c)] at hQ
      exact am_run (am_cK _) 2 (⟨Or.inl rfl, hQ⟩)
  · rw [show hNB v a b = true from (allB_iff _ _).mpr (fun z hz => decide_eq_true (P z hz))] at hQ
    exact am_run (am_cK _) 3 (pk_le 10 10 (fun _ => am_run (am_cK _) 2 (⟨Or.inr rfl, hQ⟩)) (fun c => by omega))
theorem X_bargains (hX : RX h M) (v : Int32) (hQ : ∀ h', Fx h h' → RX h' (oBar M v).2 → Q (some (.int (oBar M v).1)) h') : am_call (d + 20) 161 [.ref 40, .int v] h Q := by
  obtain ⟨a, b', dr, hX⟩ := hX
  unfold oBar at hQ
  have no : (v < 0 ∨ 18 < v) → Q (some (.int (-1))) h := fun c => by
    rw [if_pos c] at hQ
    exact hQ h Fx.rf ⟨a, b', dr, hX⟩
  refine en_X10_bargains (Nat.le_of_ble_eq_true rfl) ?_
  refine am_run (am_cK _) 2 (⟨fun c => am_run (am_cK _) 2 (no (Or.inl c)), fun c => am_run (am_cK _) 3 (⟨fun c2 => ?_, fun c2 => am_run (am_cK _) 2 (no (Or.inr (Int32.not_le.mp c2)))⟩)⟩)
  rw [if_neg (fun z => z.elim c (fun w => Int32.not_lt.mpr c2 w))] at hQ
  obtain ⟨u, hu, rfl⟩ := nI_of c
  have hu18 : u ≤ 18 := (nI_leI (b := 18) hu (by omega)).mp c2
  rw [nI_clamp (by omega)] at hQ
  unfold oBarN at hQ
  refine am_run (am_cK _) 4 (am_obj_in hX.o.1 (am_run (am_cK _) 1 (am_obj_in hX.d.1.1 ((X_begin hX (fun h1 a1 hX1 => ?_))))))
  refine am_run (am_cK _) 2 (show am_wp (am_call (d + 19)) (0, 0) cm_X10_bargains Q (fun _ => False) (23, [some (.ref 40), some (.int (nI u)), some (.int (nI 0)), some (.int (nI 0)), none], [], 0, 0) h1 from ?_)
  refine am_lp (α := (Nat × (Nat → Int32)) × Option Value) (fun x j => (23, [some (.ref 40), some (.int (nI u)), some (.int (nI (cnt (bpv u) (10 * x)))), some (.int (nI x)), j.2], [], 0, 0)) (fun x j h' => Fx h h' ∧ RXc h' (pD M j.1) a b' dr ∧ ((cnt (bpv u) (10 * x) = 0 ∧ j.1.1 = 0) ∨ (0 < cnt (bpv u) (10 * x) ∧ j.1.1 = 2 ∧ j.1.2 0 = nI (fnd (bpv u) 0 100 / 10) ∧ j.1.2 1 = nI (fnd (bpv u) 0 100 % 10)))) 10 (fun x j h2 hx P K => ?_) (fun j h2 P => ?_) 0 ((0, (mD M).2), none) h1 (Nat.zero_le _) ⟨a1.fx (by omega) (by omega), hX1, Or.inl ⟨rfl, rfl⟩⟩
  · obtain ⟨D, jv⟩ := j
    obtain ⟨F2, hX2, p2⟩ := P
    replace hX2 : RXc h2 (pD M D) a b' dr := hX2
    refine am_run (am_cK _) 3 (pk_le 10 x (fun c => by omega) (fun _ => ?_))
    have lp := am_lp (call := am_call (d + 19)) (lim := (0, 0)) (M := cm_X10_bargains) (Q := Q) (X := fun _ => False) (α := Nat × (Nat → Int32)) (fun y _ => (32, [some (.ref 40), some (.int (nI u)), some (.int (nI (cnt (bpv u) (10 * x + y)))), some (.int (nI x)), some (.int (nI y))], [], 0, 0)) (fun y D h' => Fx h h' ∧ RXc h' (pD M D) a b' dr ∧ ((cnt (bpv u) (10 * x + y) = 0 ∧ D.1 = 0) ∨ (0 < cnt (bpv u) (10 * x + y) ∧ D.1 = 2 ∧ D.2 0 = nI (fnd (bpv u) 0 100 / 10) ∧ D.2 1 = nI (fnd (bpv u) 0 100 % 10)))) 10 (fun y D h3 hy P3 K3 => ?_) (fun D h3 P3 => ?_) 0 D h2 (Nat.zero_le _) ⟨F2, hX2, p2⟩
    · exact am_run (am_cK _) 2 (lp)
    · obtain ⟨F3, hX3, p3⟩ := P3
      have ek := k10 (x := x) hy
      have hcl := cnt_le (bpv u) (10 * x + y)
      have eb : bpv u (10 * x + y) = (hNB u x y && hNB u y x) := by unfold bpv; rw [ek.1, ek.2]
      have fl : bpv u (10 * x + y) = false → am_wp (am_call (d + 19)) (0, 0) cm_X10_bargains Q (fun _ => False) (83, [some (.ref 40), some (.int (nI u)), some (.int (nI (cnt (bpv u) (10 * x + y)))), some (.int (nI x)), some (.int (nI y))], [], 0, 0) h3 := fun e => by
        have ec : cnt (bpv u) (10 * x + (y + 1)) = cnt (bpv u) (10 * x + y) := by rw [← Nat.add_assoc, cnt, e]; rfl
        have K4 := K3 D h3 ⟨F3, hX3, by rw [ec]; exact p3⟩
        rw [ec, nI_succ y] at K4
        exact am_run (am_cK _) 2 (K4)
      refine am_run (am_cK _) 3 (pk_le 10 y (fun c => by omega) (fun _ => ?_))
      refine am_run (am_cK _) 4 (X_hasNoBetter (by omega) hx hy ?_)
      cases e1 : hNB u x y with
      | false => exact am_run (am_cK _) 1 (⟨fun _ => fl (by rw [eb, e1]; rfl), fun z => absurd rfl z⟩)
      | true =>
        refine am_run (am_cK _) 1 (⟨fun z => absurd z n10, fun _ => ?_⟩)
        refine am_run (am_cK _) 4 (X_hasNoBetter (by omega) hy hx ?_)
        cases e2 : hNB u y x with
        | false => exact am_run (am_cK _) 1 (⟨fun _ => fl (by rw [eb, e1, e2]; rfl), fun z => absurd rfl z⟩)
        | true =>
          have et : bpv u (10 * x + y) = true := by rw [eb, e1, e2]; rfl
          have ec : cnt (bpv u) (10 * x + (y + 1)) = cnt (bpv u) (10 * x + y) + 1 := by rw [← Nat.add_assoc, cnt, et]; rfl
          refine am_run (am_cK _) 1 (⟨fun z => absurd z n10, fun _ => ?_⟩)
          refine am_run (am_cK _) 2 (⟨fun z => ?_, fun z => ?_⟩)
          · have p4 := p3.resolve_left (fun w => z (by rw [w.1]; rfl))
            have K4 := K3 D h3 ⟨F3, hX3, Or.inr ⟨by omega, p4.2⟩⟩
            rw [ec, nI_succ (cnt (bpv u) (10 * x + y)), nI_succ y] at K4
            exact am_run (am_cK _) 3 (K4)
          · have c0 : cnt (bpv u) (10 * x + y) = 0 := (nI_eq (b := 0) (by omega) (by omega)).mp (Classical.not_not.mp z)
            have p4 := p3.resolve_right (fun w => by omega)
            have ef := cnt_fnd (m := 100) c0 et (by omega)
            refine am_run (am_cK _) 2 (am_obj_in hX3.o.1 (am_run (am_cK _) 2 (am_obj_in hX3.d.1.1 ((X_add hX3 (by show D.1 < 16; rw [p4.2]; omega) _ (fun h4 a4 hX4 => ?_))))))
            refine am_run (am_cK _) 2 (am_obj_in hX4.o.1 (am_run (am_cK _) 2 (am_obj_in hX4.d.1.1 ((X_add hX4 (by show D.1 + 1 < 16; rw [p4.2]; omega) _ (fun h5 a5 hX5 => ?_))))))
            have d0 : D.1 = 0 := p4.2
            have K4 := K3 (D.1 + 1 + 1, upd (upd D.2 D.1 (nI x)) (D.1 + 1) (nI y)) h5 ⟨F3.tr (Fx2 a4 a5), hX5, Or.inr ⟨by omega, by show D.1 + 1 + 1 = 2; omega, by
              show upd (upd D.2 D.1 (nI x)) (D.1 + 1) (nI y) 0 = _
              rw [ef, ek.1, d0]; rfl, by
              show upd (upd D.2 D.1 (nI x)) (D.1 + 1) (nI y) 1 = _
              rw [ef, ek.2, d0]; rfl⟩⟩
            rw [ec, nI_succ (cnt (bpv u) (10 * x + y)), nI_succ y] at K4
            exact am_run (am_cK _) 3 (K4)
    · obtain ⟨F3, hX3, p3⟩ := P3
      refine am_run (am_cK _) 3 (pk_le 10 10 (fun _ => ?_) (fun c => by omega))
      have K4 := K (D, some (.int (nI 10))) h3 ⟨F3, hX3, by rw [show 10 * (x + 1) = 10 * x + 10 by omega]; exact p3⟩
      simp only at K4
      rw [show 10 * (x + 1) = 10 * x + 10 by omega, nI_succ x] at K4
      exact am_run (am_cK _) 2 (K4)
  · obtain ⟨D, jv⟩ := j
    obtain ⟨F2, hX2, p2⟩ := P
    replace hX2 : RXc h2 (pD M D) a b' dr := hX2
    replace p2 : ((cnt (bpv u) 100 = 0 ∧ D.1 = 0) ∨ (0 < cnt (bpv u) 100 ∧ D.1 = 2 ∧ D.2 0 = nI (fnd (bpv u) 0 100 / 10) ∧ D.2 1 = nI (fnd (bpv u) 0 100 % 10))) := p2
    refine am_run (am_cK _) 3 (pk_le 10 10 (fun _ => ?_) (fun c => by omega))
    refine am_run (am_cK _) 2 (hQ h2 F2 ⟨a, b', dr, ?_⟩)
    obtain ⟨m, w⟩ := D
    rcases p2 with ⟨c0, d0⟩ | ⟨c0, d0, d1, d2⟩
    · rw [if_pos c0]
      have d0' : m = 0 := d0
      subst d0'
      exact RX_dc hX2 (fun i hi => absurd hi (Nat.not_lt_zero i))
    · rw [if_neg (by omega)]
      have d0' : m = 2 := d0
      subst d0'
      exact RX_dc hX2 (fun i hi => i_lt2 (P := fun i => w i = w2 (nI (fnd (bpv u) 0 100 / 10)) (nI (fnd (bpv u) 0 100 % 10)) i) hi d1 d2)
theorem M_gets (hv : v < 19) (ha : a < 10) (hb : b < 10) (hQ : Q (some (.int (gtv v a b))) h) : am_call (d + 1) 311 [.int (nI a), .int (nI b), .int (nI v)] h Q := by
  have sa := sh_all v hv a ha b hb
  unfold gtv at hQ
  refine en_X11_gets (Nat.le_of_ble_eq_true rfl) ?_
  refine am_run (am_cK _) 5 (pk_lt v (a + b) (fun c => ?_) (fun c => ?_) (hy := nI_add _ _))
  · rw [if_neg (by omega)] at hQ
    refine am_run (am_cK _) 3 (pk_le a b (fun c2 => ?_) (fun c2 => ?_))
    · rw [if_neg (by omega)] at hQ
      exact am_run (am_cK _) 2 (hQ)
    · rw [if_pos c2] at hQ
      exact am_run (am_cK _) 3 (hQ)
  · rw [if_pos c, ← sa.2 c] at hQ
    exact am_run (am_cK _) 8 (⟨show ¬ (2 : Int32) = 0 by decide, am_run (am_cK _) 3 (hQ)⟩)
theorem M_isRest (hv : v < 19) (ha : a < 10) (hb : b < 10) (hQ : Q (some (.int (bI (hNB v a b)))) h) : am_call (d + 2) 312 [.int (nI a), .int (nI b), .int (nI v)] h Q := by
  refine en_X11_isRest (Nat.le_of_ble_eq_true rfl) (am_run (am_cK _) 4 ?_)
  refine am_loopC (fun z => (5, [some (.int (nI a)), some (.int (nI b)), some (.int (nI v)), some (.int (bI (allB (fun z => decide (gtv v z b ≤ gtv v a b)) z))), some (.int (nI z))], [], 0, 0)) 10 (fun z hz K => ?_) ?_ 0 (Nat.zero_le _)
  · refine am_run (am_cK _) 3 (pk_lt 9 z (fun c => by omega) (fun _ => ?_))
    rw [allB, nI_succ z] at K
    cases hb2 : allB (fun z => decide (gtv v z b ≤ gtv v a b)) z with
    | false =>
      rw [hb2, Bool.false_and] at K
      exact am_run (am_cK _) 2 (⟨fun _ => am_run (am_cK _) 4 (K), fun c => absurd rfl c⟩)
    | true =>
      rw [hb2, Bool.true_and] at K
      refine am_run (am_cK _) 2 (⟨fun c => absurd c n10, fun _ => ?_⟩)
      refine am_run (am_cK _) 4 (M_gets hv hz hb ?_)
      refine am_run (am_cK _) 4 (M_gets hv ha hb ?_)
      refine am_run (am_cK _) 1 (⟨fun c => ?_, fun c => ?_⟩)
      · rw [show decide (gtv v z b ≤ gtv v a b) = false from decide_eq_false (Int32.not_le.mpr c)] at K
        exact am_run (am_cK _) 4 (K)
      · rw [show decide (gtv v z b ≤ gtv v a b) = true from decide_eq_true (Int32.not_lt.mp c)] at K
        exact am_run (am_cK _) 5 (K)
  · exact am_run (am_cK _) 3 (pk_lt 9 10 (fun _ => am_run (am_cK _) 2 (⟨bI_fit _, hQ⟩)) (fun c => by omega))
theorem Z_bargains (hY : RY h M) (v : Int32) (hQ : ∀ h', Fy h h' → RY h' (oBar M v).2 → Q (some (.int (oBar M v).1)) h') : am_call (d + 20) 313 [.ref 152, .int v] h Q := by
  obtain ⟨F, A, R, W, iv⟩ := hY
  unfold oBar at hQ
  refine en_X11_bargains (Nat.le_of_ble_eq_true rfl) ?_
  refine am_run (am_cK _) 3 (am_putI W rfl (by decide) (fun h1 W1 => ?_))
  refine am_run (am_cK _) 5 (M_inN v 0 18 (by omega) (by omega) (fun u _ hu e => ?_) (fun c => ?_))
  · subst e
    rw [if_neg (by
      rintro (z | z)
      · exact nI_pos (by omega) z
      · exact nI_nlt (a := 18) (b := u) hu (by omega) z), nI_clamp (by omega)] at hQ
    unfold oBarN at hQ
    refine am_run (am_cK _) 1 (⟨fun _ => ?_, fun z => absurd n10 z⟩)
    refine am_run (am_cK _) 5 (am_putI W1 rfl (by decide) (fun h2 W2 => ?_))
    refine am_run (am_cK _) 2 (show am_wp (am_call (d + 19)) (0, 0) cm_X11_bargains Q (fun _ => False) (28, [some (.ref 152), some (.int (nI u)), some (.int (nI 0)), some (.int (nI 0)), none], [], 0, 0) h2 from ?_)
    refine am_lp (α := (Nat × (Nat → Int64)) × Option Value) (fun x j => (28, [some (.ref 152), some (.int (nI u)), some (.int (nI (cnt (bpv u) (10 * x)))), some (.int (nI x)), j.2], [], 0, 0)) (fun x j h' => RM h h' (upd (upd F 0 0) 1 (nI j.1.1)) A j.1.2 ∧ ((cnt (bpv u) (10 * x) = 0 ∧ j.1.1 = 0) ∨ (0 < cnt (bpv u) (10 * x) ∧ j.1.1 = 2 ∧ j.1.2 0 = (nI (fnd (bpv u) 0 100 / 10)).toInt64 ∧ j.1.2 1 = (nI (fnd (bpv u) 0 100 % 10)).toInt64))) 10 (fun x j h3 hx P K => ?_) (fun j h3 P => ?_) 0 ((0, R), none) h2 (Nat.zero_le _) ⟨W2, Or.inl ⟨rfl, rfl⟩⟩
    · obtain ⟨⟨m, R3⟩, jv⟩ := j
      obtain ⟨W3, p3⟩ := P
      replace W3 : RM h h3 (upd (upd F 0 0) 1 (nI m)) A R3 := W3
      refine am_run (am_cK _) 3 (pk_lt 9 x (fun c => by omega) (fun _ => ?_))
      have lp := am_lp (call := am_call (d + 19)) (lim := (0, 0)) (M := cm_X11_bargains) (Q := Q) (X := fun _ => False) (α := Nat × (Nat → Int64)) (fun y _ => (37, [some (.ref 152), some (.int (nI u)), some (.int (nI (cnt (bpv u) (10 * x + y)))), some (.int (nI x)), some (.int (nI y))], [], 0, 0)) (fun y D h' => RM h h' (upd (upd F 0 0) 1 (nI D.1)) A D.2 ∧ ((cnt (bpv u) (10 * x + y) = 0 ∧ D.1 = 0) ∨ (0 < cnt (bpv u) (10 * x + y) ∧ D.1 = 2 ∧ D.2 0 = (nI (fnd (bpv u) 0 100 / 10)).toInt64 ∧ D.2 1 = (nI (fnd (bpv u) 0 100 % 10)).toInt64))) 10 (fun y D h4 hy P4 K4 => ?_) (fun D h4 P4 => ?_) 0 (m, R3) h3 (Nat.zero_le _) ⟨W3, p3⟩
      · exact am_run (am_cK _) 2 (lp)
      · obtain ⟨m4, R4⟩ := D
        obtain ⟨W4, p4⟩ := P4
        replace W4 : RM h h4 (upd (upd F 0 0) 1 (nI m4)) A R4 := W4
        replace p4 : ((cnt (bpv u) (10 * x + y) = 0 ∧ m4 = 0) ∨ (0 < cnt (bpv u) (10 * x + y) ∧ m4 = 2 ∧ R4 0 = (nI (fnd (bpv u) 0 100 / 10)).toInt64 ∧ R4 1 = (nI (fnd (bpv u) 0 100 % 10)).toInt64)) := p4
        have ek := k10 (x := x) hy
        have hcl := cnt_le (bpv u) (10 * x + y)
        have eb : bpv u (10 * x + y) = (hNB u x y && hNB u y x) := by unfold bpv; rw [ek.1, ek.2]
        have fl : bpv u (10 * x + y) = false → am_wp (am_call (d + 19)) (0, 0) cm_X11_bargains Q (fun _ => False) (84, [some (.ref 152), some (.int (nI u)), some (.int (nI (cnt (bpv u) (10 * x + y)))), some (.int (nI x)), some (.int (nI y))], [], 0, 0) h4 := fun e => by
          have ec : cnt (bpv u) (10 * x + (y + 1)) = cnt (bpv u) (10 * x + y) := by rw [← Nat.add_assoc, cnt, e]; rfl
          have K5 := K4 (m4, R4) h4 ⟨W4, by rw [ec]; exact p4⟩
          rw [ec, nI_succ y] at K5
          exact am_run (am_cK _) 2 (K5)
        refine am_run (am_cK _) 3 (pk_lt 9 y (fun c => by omega) (fun _ => ?_))
        refine am_run (am_cK _) 4 (M_isRest (by omega) hx hy ?_)
        cases e1 : hNB u x y with
        | false => exact am_run (am_cK _) 1 (⟨fun _ => fl (by rw [eb, e1]; rfl), fun z => absurd rfl z⟩)
        | true =>
          refine am_run (am_cK _) 1 (⟨fun z => absurd z n10, fun _ => ?_⟩)
          refine am_run (am_cK _) 4 (M_isRest (by omega) hy hx ?_)
          cases e2 : hNB u y x with
          | false => exact am_run (am_cK _) 1 (⟨fun _ => fl (by rw [eb, e1, e2]; rfl), fun z => absurd rfl z⟩)
          | true =>
            have et : bpv u (10 * x + y) = true := by rw [eb, e1, e2]; rfl
            have ec : cnt (bpv u) (10 * x + (y + 1)) = cnt (bpv u) (10 * x + y) + 1 := by rw [← Nat.add_assoc, cnt, et]; rfl
            refine am_run (am_cK _) 1 (⟨fun z => absurd z n10, fun _ => ?_⟩)
            refine am_run (am_cK _) 2 (⟨fun z => ?_, fun z => ?_⟩)
            · have p5 := p4.resolve_left (fun w => z (by rw [w.1]; rfl))
              have K5 := K4 (m4, R4) h4 ⟨W4, Or.inr ⟨by omega, p5.2⟩⟩
              rw [ec, nI_succ (cnt (bpv u) (10 * x + y)), nI_succ y] at K5
              exact am_run (am_cK _) 3 (K5)
            · have c0 : cnt (bpv u) (10 * x + y) = 0 := (nI_eq (b := 0) (by omega) (by omega)).mp (Classical.not_not.mp z)
              have p5 := p4.resolve_right (fun w => by omega)
              have ef := cnt_fnd (m := 100) c0 et (by omega)
              have d0 : m4 = 0 := p5.2
              subst d0
              refine am_run (am_cK _) 4 (am_obj_in W4.o ((M_enters W4 (m := 0) rfl (by omega) _ (fun h5 W5 => ?_))))
              rw [upd_upd] at W5
              refine am_run (am_cK _) 4 (am_obj_in W5.o ((M_enters W5 (m := 1) rfl (by omega) _ (fun h6 W6 => ?_))))
              rw [upd_upd] at W6
              have K5 := K4 (2, vp_updL (vp_updL R4 0 (nI x).toInt64) 1 (nI y).toInt64) h6 ⟨W6, Or.inr ⟨by omega, rfl, by
                show (nI x).toInt64 = _
                rw [ef, ek.1], by
                show (nI y).toInt64 = _
                rw [ef, ek.2]⟩⟩
              rw [ec, nI_succ (cnt (bpv u) (10 * x + y)), nI_succ y] at K5
              exact am_run (am_cK _) 3 (K5)
      · obtain ⟨m4, R4⟩ := D
        obtain ⟨W4, p4⟩ := P4
        refine am_run (am_cK _) 3 (pk_lt 9 10 (fun _ => ?_) (fun c => by omega))
        have K5 := K ((m4, R4), some (.int (nI 10))) h4 ⟨W4, by rw [show 10 * (x + 1) = 10 * x + 10 by omega]; exact p4⟩
        simp only at K5
        rw [show 10 * (x + 1) = 10 * x + 10 by omega, nI_succ x] at K5
        exact am_run (am_cK _) 2 (K5)
    · obtain ⟨⟨m, R3⟩, jv⟩ := j
      obtain ⟨W3, p3⟩ := P
      replace W3 : RM h h3 (upd (upd F 0 0) 1 (nI m)) A R3 := W3
      replace p3 : ((cnt (bpv u) 100 = 0 ∧ m = 0) ∨ (0 < cnt (bpv u) 100 ∧ m = 2 ∧ R3 0 = (nI (fnd (bpv u) 0 100 / 10)).toInt64 ∧ R3 1 = (nI (fnd (bpv u) 0 100 % 10)).toInt64)) := p3
      refine am_run (am_cK _) 3 (pk_lt 9 10 (fun _ => ?_) (fun c => by omega))
      refine am_run (am_cK _) 2 (hQ h3 W3.y ⟨_, _, _, W3.re, iv.s, iv.u, iv.k, iv.t, ?_, iv.f, iv.hr, iv.l⟩)
      show ID (nI m) R3 (if cnt (bpv u) 100 = 0 then (0, fun _ => 0) else (2, w2 (nI (fnd (bpv u) 0 100 / 10)) (nI (fnd (bpv u) 0 100 % 10))))
      rcases p3 with ⟨c0, d0⟩ | ⟨c0, d0, d1, d2⟩
      · rw [if_pos c0, d0]
        exact ⟨rfl, Nat.zero_le _, fun i hi => absurd hi (Nat.not_lt_zero i)⟩
      · rw [if_neg (by omega), d0]
        exact ⟨rfl, by show 2 ≤ 16; omega, fun i hi => i_lt2 (P := fun i => R3 i = (w2 (nI (fnd (bpv u) 0 100 / 10)) (nI (fnd (bpv u) 0 100 % 10)) i).toInt64) hi d1 d2⟩
  · rw [if_pos (show v < 0 ∨ 18 < v from c)] at hQ
    exact am_run (am_cK _) 1 (⟨fun z => absurd rfl z, fun _ => am_run (am_cK _) 2 (hQ h1 W1.y ⟨_, _, _, W1.re, iv⟩)⟩)
end
