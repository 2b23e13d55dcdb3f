theorem sar_byt (v : Int32) {k : Nat} (hk : k < 4) : v >>> ((24 - 8 * nI k) &&& 31) &&& 255 = nI (byt v (24 - 8 * k)) := by
  have key : ∀ s : Nat, s = 0 ∨ s = 8 ∨ s = 16 ∨ s = 24 → v >>> (nI s &&& 31) &&& 255 = nI (byt v s) := fun s hs => by
    have h1 := pk_shr v (nI s &&& 31) s (q_sl s (by omega))
    have h2 := pk_and (v >>> (nI s &&& 31)) (m := 255) 8 (by decide)
    rw [h2]
    congr 1
    unfold byt
    have hv := BitVec.toInt_eq_toNat_cond v.toBitVec
    have hw := BitVec.toInt_eq_toNat_cond (v >>> (nI s &&& 31)).toBitVec
    have b1 := v.toBitVec.isLt
    have b2 := (v >>> (nI s &&& 31)).toBitVec.isLt
    have e1 : (v >>> (nI s &&& 31)).toBitVec.toInt = v.toBitVec.toInt >>> s := h1
    rw [Int.shiftRight_eq_div_pow] at e1
    generalize (v >>> (nI s &&& 31)).toBitVec.toNat = w at *
    generalize (v >>> (nI s &&& 31)).toBitVec.toInt = wi at *
    generalize v.toBitVec.toNat = m at *
    generalize v.toBitVec.toInt = mi at *
    rcases hs with rfl | rfl | rfl | rfl <;> (split at hv <;> split at hw <;> omega)
  have e : (24 : Int32) - 8 * nI k = nI (24 - 8 * k) := by
    rw [show (8 : Int32) * nI k = nI (8 * k) from pk_mul 8 k]
    exact pk_sub (a := 24) (by omega)
  rw [e]
  exact key _ (by omega)
section
variable {d : Nat} {h : am_H} {Q : Option Value → am_H → Prop} {M : Ms}
theorem Z_sign (hY : RY h M) (v : Int32) (hQ : ∀ h', Fy h h' → RY h' (oSign M v).2 → Q (some (.int (oSign M v).1)) h') : am_call (d + 10) 187 [.ref 152, .int v] h Q := by
  obtain ⟨F, A, R, W, iv⟩ := hY
  obtain ⟨t1, t2, t3⟩ := id iv.t
  unfold oSign at hQ
  refine en_X11_sign (Nat.le_of_ble_eq_true rfl) ?_
  refine am_run (am_cK _) 3 (am_putI W rfl (by decide) (fun h1 W1 => ?_))
  refine am_run (am_cK _) 2 (am_obj_in W1.o (am_run (am_cK _) 2 (pk_le (mT M).1 76 (fun c => ?_) (fun c => ?_) (hx := t1))))
  · rw [if_neg (by omega)] at hQ
    refine am_run (am_cK _) 2 ?_
    refine am_lp (α := Nat → Int32) (fun q _ => (18, [some (.ref 152), some (.int v), some (.int (nI q))], [], 0, 0)) (fun q a h' => RM h h' (upd F 0 0) (va_up A 156 a) R ∧ ∀ x, x < (mT M).1 + q → a x = nI (tApp (mT M).2 (mT M).1 v x) ∧ tApp (mT M).2 (mT M).1 v x < 256) 4 (fun q a h2 hq P K => ?_) (fun a h2 P => ?_) 0 (A 156) h1 (Nat.zero_le _) ⟨by rw [va_same rfl]; exact W1, fun x hx => (by
      unfold tApp
      rw [if_pos (by omega)]
      exact t3 x (by omega))⟩
    · obtain ⟨W2, p1⟩ := P
      refine am_run (am_cK _) 3 (pk_le 4 q (fun c => by omega) (fun _ => ?_))
      refine am_run (am_cK _) 2 (am_obj_in W2.o (am_run (am_cK _) 2 (am_obj_in W2.o (am_run (am_cK _) 12 ?_))))
      rw [show upd F 0 0 6 = nI (mT M).1 from t1]
      refine am_stI (p := 156) W2 (nI_add _ _) (show (mT M).1 + q < 80 by omega) rfl (fun h3 W3 => ?_)
      rw [am_up_s, va_up2, sar_byt v hq] at W3
      have K2 := K _ h3 ⟨W3, fun x hx => (by
        by_cases e : x = (mT M).1 + q
        · subst e
          rw [upd_s]
          unfold tApp
          rw [if_neg (by omega), Nat.add_sub_cancel_left]
          exact ⟨rfl, byt_lt _ _⟩
        · rw [upd_n e]; exact p1 x (by omega))⟩
      rw [nI_succ] at K2
      exact am_run (am_cK _) 2 (K2)
    · obtain ⟨W2, p1⟩ := P
      refine am_run (am_cK _) 3 (pk_le 4 4 (fun _ => ?_) (fun c => by omega))
      refine am_run (am_cK _) 3 (am_obj_in W2.o (am_run (am_cK _) 3 (am_putI W2 rfl (by decide) (fun h3 W3 => ?_))))
      rw [show upd F 0 0 6 + 4 = nI ((mT M).1 + 4) by rw [show upd F 0 0 6 = nI (mT M).1 from t1]; exact nI_add _ 4] at W3
      refine am_run (am_cK _) 2 (am_obj_in W3.o (am_run (am_cK _) 1 (hQ h3 W3.y ⟨_, _, _, W3.re, iv.s, iv.u, iv.k, ⟨rfl, by show (mT M).1 + 4 ≤ 80; omega, p1⟩, iv.d, iv.f, iv.hr, iv.l⟩)))
  · rw [if_pos (by omega)] at hQ
    exact am_run (am_cK _) 2 (hQ h1 W1.y ⟨_, _, _, W1.re, iv⟩)
theorem Z_end (hY : RY h M) (i : Int32) (hQ : ∀ h', Fy h h' → RY h' (oEnd M i).2 → Q (some (.int (oEnd M i).1)) h') : am_call (d + 10) 188 [.ref 152, .int i] h Q := by
  obtain ⟨F, A, R, W, iv⟩ := hY
  obtain ⟨t1, t2, t3⟩ := id iv.t
  unfold oEnd at hQ
  refine en_X11_end (Nat.le_of_ble_eq_true rfl) ?_
  refine am_run (am_cK _) 3 (am_putI W rfl (by decide) (fun h1 W1 => ?_))
  refine am_run (am_cK _) 5 (am_obj_in W1.o (am_run (am_cK _) 2 ?_))
  rw [show upd F 0 0 6 = nI (mT M).1 from t1]
  refine M_inN i 0 (mT M).1 (by omega) (by omega) (fun j _ hj e => ?_) (fun c => ?_)
  · subst e
    rw [if_neg (by
      rintro (c | c)
      · exact nI_pos (by omega) c
      · exact nI_nlt (a := (mT M).1) (b := j) hj (by omega) c), nI_clamp (by omega)] at hQ
    refine am_run (am_cK _) 1 (⟨fun _ => ?_, fun z => absurd n10 z⟩)
    refine am_run (am_cK _) 3 (am_putI W1 rfl (by decide) (fun h2 W2 => ?_))
    exact am_run (am_cK _) 2 (⟨Or.inr rfl, hQ h2 W2.y ⟨_, _, _, W2.re, iv.s, iv.u, iv.k, ⟨rfl, by show j ≤ 80; omega, fun x hx => t3 x (by have hx2 : x < j := hx; omega)⟩, iv.d, iv.f, iv.hr, iv.l⟩⟩)
  · rw [if_pos (show i < 0 ∨ nI (mT M).1 < i from c)] at hQ
    exact am_run (am_cK _) 1 (⟨fun z => absurd rfl z, fun _ => am_run (am_cK _) 2 (⟨Or.inl rfl, hQ h1 W1.y ⟨_, _, _, W1.re, iv⟩⟩)⟩)
theorem Z_undo (hY : RY h M) (hQ : ∀ h', Fy h h' → RY h' (oUndo M).2 → Q (some (.int (oUndo M).1)) h') : am_call (d + 10) 231 [.ref 152] h Q := by
  obtain ⟨F, A, R, W, iv⟩ := hY
  obtain ⟨u1, u2, u3⟩ := id iv.u
  unfold oUndo at hQ
  refine en_X11_undo (Nat.le_of_ble_eq_true rfl) ?_
  refine am_run (am_cK _) 3 (am_putI W rfl (by decide) (fun h1 W1 => ?_))
  cases hU : mU M with
  | nil =>
    rw [hU] at hQ u1
    exact am_run (am_cK _) 2 (am_obj_in W1.o (am_run (am_cK _) 1 (⟨fun c => absurd u1 c, fun _ => am_run (am_cK _) 2 (hQ h1 W1.y ⟨_, _, _, W1.re, iv⟩)⟩)))
  | cons σ U =>
    rw [hU] at hQ u1 u2 u3
    have ul : U.length + 1 ≤ 15 := u2
    have us := u3 0 σ rfl
    refine am_run (am_cK _) 2 (am_obj_in W1.o (am_run (am_cK _) 1 (⟨fun _ => ?_, fun c => ?_⟩)))
    · refine am_run (am_cK _) 3 (am_obj_in W1.o (am_run (am_cK _) 3 (am_putI W1 rfl (by decide) (fun h2 W2 => ?_))))
      rw [show upd F 0 0 20 = nI (U.length + 1) from u1, nI_pred] at W2
      refine am_run (am_cK _) 2 ?_
      refine am_lp (α := Nat → Int32) (fun q _ => (26, [some (.ref 152), some (.int (nI q))], [], 0, 0)) (fun q g h' => RM h h' (upd (upd F 0 0) 20 (nI U.length)) (va_up A 154 g) R ∧ ∀ k, k < q → g k = A 163 (61 * U.length + k)) 61 (fun q g h3 hq P K => ?_) (fun g h3 P => ?_) 0 (A 154) h2 (Nat.zero_le _) ⟨by rw [va_same rfl]; exact W2, fun k hk => by omega⟩
      · obtain ⟨W3, p1⟩ := P
        refine am_run (am_cK _) 3 (pk_le 61 q (fun c => by omega) (fun _ => ?_))
        refine am_run (am_cK _) 2 (am_obj_in W3.o (am_run (am_cK _) 3 (am_obj_in W3.o (am_run (am_cK _) 3 (am_obj_in W3.o (am_run (am_cK _) 4 (am_ld W3.a163 (61 * U.length + q) (by omega) ?_ (ix61 _ _))))))))
        rw [show (61 : Int32) * upd (upd F 0 0) 20 (nI U.length) 20 + nI q = nI (61 * U.length + q) from ix61 _ _, nI_clamp (by omega)]
        refine am_run (am_cK _) 1 (am_stI (p := 154) W3 (j := q) rfl (show q < 61 by omega) rfl (fun h4 W4 => ?_))
        rw [am_up_s, va_up2] at W4
        have K2 := K _ h4 ⟨W4, fun k hk => (by
          by_cases e : k = q
          · subst e; exact upd_s
          · exact (upd_n e).trans (p1 k (by omega)))⟩
        rw [nI_succ] at K2
        exact am_run (am_cK _) 2 (K2)
      · obtain ⟨W3, p1⟩ := P
        refine am_run (am_cK _) 3 (pk_le 61 61 (fun _ => ?_) (fun c => by omega))
        have hS : RSm g σ := RSm_congr us.2 (fun x hx => p1 x hx) us.1
        refine am_run (am_cK _) 2 (am_obj_in W3.o (am_run (am_cK _) 1 (hQ h3 W3.y ⟨_, _, _, W3.re, ⟨hS, us.2⟩, ⟨rfl, by show U.length ≤ 15; omega, fun j x hx => ?_⟩, iv.k, iv.t, iv.d, iv.f, iv.hr, iv.l⟩)))
        have hj : j < U.length := (List.getElem?_eq_some_iff.mp hx).1
        have z := u3 (j + 1) x hx
        rw [List.length_cons, show U.length + 1 - 1 - (j + 1) = U.length - 1 - j by omega] at z
        exact z
    · have z : F 20 = 0 := Classical.not_not.mp c
      rw [u1] at z
      have := (nI_eq (a := U.length + 1) (b := 0) (by omega) (by omega)).mp z
      omega
theorem Z_keep (hY : RY h M) (i : Int32) (hQ : ∀ h', Fy h h' → RY h' (oKeep M i).2 → Q (some (.int (oKeep M i).1)) h') : am_call (d + 10) 317 [.ref 152, .int i] h Q := by
  obtain ⟨F, A, R, W, iv⟩ := hY
  unfold oKeep at hQ
  refine en_X11_keep (Nat.le_of_ble_eq_true rfl) ?_
  refine am_run (am_cK _) 3 (am_putI W rfl (by decide) (fun h1 W1 => ?_))
  refine am_run (am_cK _) 5 (M_inZ i 3 (by omega) (fun j hj e => ?_) (fun c => ?_))
  · subst e
    rw [if_neg (show ¬ (nI j < 0 ∨ 3 ≤ nI j) from in_no (n := 3) hj (by omega)), nI_clamp (by omega)] at hQ
    refine am_run (am_cK _) 1 (⟨fun _ => ?_, fun z => absurd n10 z⟩)
    refine am_run (am_cK _) 2 (am_obj_in W1.o (am_run (am_cK _) 3 (am_stB (p := 179) W1 (j := j) rfl (show j < 3 by omega) rfl (Or.inr rfl) (fun h2 W2 => ?_))))
    refine am_run (am_cK _) 2 ?_
    refine am_lp (α := Nat → Int32) (fun q _ => (28, [some (.ref 152), some (.int (nI j)), some (.int (nI q))], [], 0, 0)) (fun q a h' => RM h h' (upd F 0 0) (va_up (va_up A 179 (upd (A 179) j 1)) 180 a) R ∧ (∀ x, (x < 61 * j ∨ 61 * j + 61 ≤ x) → a x = A 180 x) ∧ ∀ k, k < q → a (61 * j + k) = A 154 k) 61 (fun q a h3 hq P K => ?_) (fun a h3 P => ?_) 0 (A 180) h2 (Nat.zero_le _) ⟨by rw [va_same (A := va_up A 179 (upd (A 179) j 1)) (p := 180) (x := A 180) rfl]; exact W2, fun _ _ => rfl, fun k hk => by omega⟩
    · obtain ⟨W3, p1, p2⟩ := P
      refine am_run (am_cK _) 3 (pk_le 61 q (fun c => by omega) (fun _ => ?_))
      refine am_run (am_cK _) 2 (am_obj_in W3.o (am_run (am_cK _) 7 (am_obj_in W3.o (am_run (am_cK _) 2 (am_ld W3.a154 q (by omega) ?_)))))
      rw [nI_clamp (by omega)]
      refine am_run (am_cK _) 1 (am_stI (p := 180) W3 (ix61 _ _) (show 61 * j + q < 183 by omega) rfl (fun h4 W4 => ?_))
      rw [am_up_s, va_up2] at W4
      have K2 := K _ h4 ⟨W4, fun x hx => (upd_n (by omega)).trans (p1 x hx), fun k hk => (by
        by_cases e : k = q
        · subst e; exact upd_s
        · exact (upd_n (by omega)).trans (p2 k (by omega)))⟩
      rw [nI_succ] at K2
      exact am_run (am_cK _) 2 (K2)
    · obtain ⟨W3, p1, p2⟩ := P
      refine am_run (am_cK _) 3 (pk_le 61 61 (fun _ => ?_) (fun c => by omega))
      refine am_run (am_cK _) 2 (⟨Or.inr rfl, hQ h3 W3.y ⟨_, _, _, W3.re, iv.s, iv.u, fun x hx => ?_, iv.t, iv.d, iv.f, iv.hr, iv.l⟩⟩)
      show (va_up (mK M) j (some (mS M)) x = none ∧ upd (A 179) j 1 x = 0) ∨ (∃ σ, va_up (mK M) j (some (mS M)) x = some σ ∧ upd (A 179) j 1 x = 1 ∧ RSm (fun k => a (61 * x + k)) σ ∧ Sok σ)
      by_cases e : x = j
      · subst e
        right
        refine ⟨mS M, am_up_s, upd_s, RSm_congr iv.s.2 (fun y hy => p2 y hy) iv.s.1, iv.s.2⟩
      · rw [am_up_n e, upd_n e]
        rcases iv.k x hx with z | ⟨σ, z1, z2, z3, z4⟩
        · exact Or.inl z
        · exact Or.inr ⟨σ, z1, z2, RSm_congr z4 (fun y hy => p1 _ (by omega)) z3, z4⟩
  · rw [if_pos (show i < 0 ∨ 3 ≤ i from c)] at hQ
    exact am_run (am_cK _) 1 (⟨fun z => absurd rfl z, fun _ => am_run (am_cK _) 2 (⟨Or.inl rfl, hQ h1 W1.y ⟨_, _, _, W1.re, iv⟩⟩)⟩)
theorem Z_again (hY : RY h M) (i : Int32) (hQ : ∀ h', Fy h h' → RY h' (oAgain M i).2 → Q (some (.int (oAgain M i).1)) h') : am_call (d + 10) 318 [.ref 152, .int i] h Q := by
  obtain ⟨F, A, R, W, iv⟩ := hY
  unfold oAgain at hQ
  refine en_X11_again (Nat.le_of_ble_eq_true rfl) ?_
  refine am_run (am_cK _) 3 (am_putI W rfl (by decide) (fun h1 W1 => ?_))
  refine am_run (am_cK _) 5 (M_inZ i 3 (by omega) (fun j hj e => ?_) (fun c => ?_))
  · subst e
    rw [if_neg (show ¬ (nI j < 0 ∨ 3 ≤ nI j) from in_no (n := 3) hj (by omega)), nI_clamp (by omega)] at hQ
    refine am_run (am_cK _) 1 (⟨fun z => absurd z n10, fun _ => ?_⟩)
    refine am_run (am_cK _) 2 (am_obj_in W1.o (am_run (am_cK _) 2 (am_ldB W1.a179 j (by omega) ?_)))
    rw [nI_clamp (by omega)]
    rcases iv.k j hj with ⟨z1, z2⟩ | ⟨σ, z1, z2, z3, z4⟩
    · rw [z1] at hQ
      rw [z2]
      exact am_run (am_cK _) 1 (⟨fun z => absurd rfl z, fun _ => am_run (am_cK _) 2 (⟨Or.inl rfl, hQ h1 W1.y ⟨_, _, _, W1.re, iv⟩⟩)⟩)
    · rw [z1] at hQ
      rw [z2]
      refine am_run (am_cK _) 1 (⟨fun _ => ?_, fun z => absurd n10 z⟩)
      refine am_run (am_cK _) 2 ?_
      refine am_lp (α := Nat → Int32) (fun q _ => (30, [some (.ref 152), some (.int (nI j)), some (.int (nI q))], [], 0, 0)) (fun q g h' => RM h h' (upd F 0 0) (va_up A 154 g) R ∧ ∀ k, k < q → g k = A 180 (61 * j + k)) 61 (fun q g h3 hq P K => ?_) (fun g h3 P => ?_) 0 (A 154) h1 (Nat.zero_le _) ⟨by rw [va_same rfl]; exact W1, fun k hk => by omega⟩
      · obtain ⟨W3, p1⟩ := P
        refine am_run (am_cK _) 3 (pk_le 61 q (fun c => by omega) (fun _ => ?_))
        refine am_run (am_cK _) 2 (am_obj_in W3.o (am_run (am_cK _) 3 (am_obj_in W3.o (am_run (am_cK _) 6 (am_ld W3.a180 (61 * j + q) (by omega) ?_ (ix61 _ _))))))
        rw [ix61, nI_clamp (by omega)]
        refine am_run (am_cK _) 1 (am_stI (p := 154) W3 (j := q) rfl (show q < 61 by omega) rfl (fun h4 W4 => ?_))
        rw [am_up_s, va_up2] at W4
        have K2 := K _ h4 ⟨W4, fun k hk => (by
          by_cases e : k = q
          · subst e; exact upd_s
          · exact (upd_n e).trans (p1 k (by omega)))⟩
        rw [nI_succ] at K2
        exact am_run (am_cK _) 2 (K2)
      · obtain ⟨W3, p1⟩ := P
        refine am_run (am_cK _) 3 (pk_le 61 61 (fun _ => ?_) (fun c => by omega))
        refine am_run (am_cK _) 3 (am_putI W3 rfl (by decide) (fun h4 W4 => ?_))
        exact am_run (am_cK _) 2 (⟨Or.inr rfl, hQ h4 W4.y ⟨_, _, _, W4.re, ⟨RSm_congr z4 (fun x hx => p1 x hx) z3, z4⟩, ⟨rfl, Nat.zero_le _, fun j x hx => by cases hx⟩, iv.k, iv.t, iv.d, iv.f, iv.hr, iv.l⟩⟩)
  · rw [if_pos (show i < 0 ∨ 3 ≤ i from c)] at hQ
    exact am_run (am_cK _) 1 (⟨fun _ => am_run (am_cK _) 2 (⟨Or.inl rfl, hQ h1 W1.y ⟨_, _, _, W1.re, iv⟩⟩), fun z => absurd rfl z⟩)
theorem Z_felt (hY : RY h M) (x y : Int32) (hQ : ∀ h', Fy h h' → RY h' (oFelt M x y).2 → Q (some (.int (oFelt M x y).1)) h') : am_call (d + 10) 295 [.ref 152, .int x, .int y] h Q := by
  obtain ⟨F, A, R, W, iv⟩ := hY
  obtain ⟨f1, f2, f3⟩ := id iv.f
  unfold oFelt at hQ
  refine en_X11_felt (Nat.le_of_ble_eq_true rfl) ?_
  refine am_run (am_cK _) 3 (am_putI W rfl (by decide) (fun h1 W1 => ?_))
  have no : ((x < 0 ∨ 9 < x ∨ y < 0 ∨ 4 ≤ y) ∨ (mF M).1 = 10) → Q (some (.int (-1))) h1 := fun c => by
    rw [if_pos c] at hQ
    exact hQ h1 W1.y ⟨_, _, _, W1.re, iv⟩
  refine am_run (am_cK _) 5 (M_inN x 0 9 (by omega) (by omega) (fun a _ ha e => ?_) (fun c => ?_))
  · subst e
    refine am_run (am_cK _) 1 (⟨fun z => absurd z n10, fun _ => ?_⟩)
    refine am_run (am_cK _) 5 (M_inZ y 4 (by omega) (fun b hb e => ?_) (fun c => ?_))
    · subst e
      refine am_run (am_cK _) 1 (⟨fun z => absurd z n10, fun _ => ?_⟩)
      refine am_run (am_cK _) 2 (am_obj_in W1.o (am_run (am_cK _) 2 (⟨fun z => ?_, fun z => ?_⟩)))
      · have hne : ¬ (mF M).1 = 10 := fun w => z (by rw [show upd F 0 0 33 = nI (mF M).1 from f1, w]; rfl)
        rw [if_neg (by
          rintro ((c | c | c | c) | c)
          · exact nI_pos (by omega) c
          · exact nI_nlt (a := 9) (b := a) ha (by omega) c
          · exact nI_pos (by omega) c
          · exact nI_ge (b := 4) hb (by omega) c
          · exact hne c), nI_clamp (by omega), nI_clamp (by omega)] at hQ
        refine am_run (am_cK _) 2 (am_obj_in W1.o (am_run (am_cK _) 2 (am_obj_in W1.o (am_run (am_cK _) 2 (am_stI (p := 172) W1 f1 (show (mF M).1 < 10 by omega) rfl (fun h2 W2 => ?_))))))
        refine am_run (am_cK _) 2 (am_obj_in W2.o (am_run (am_cK _) 2 (am_obj_in W2.o (am_run (am_cK _) 2 (am_stI (p := 173) W2 f1 (show (mF M).1 < 10 by omega) rfl (fun h3 W3 => ?_))))))
        refine am_run (am_cK _) 3 (am_obj_in W3.o (am_run (am_cK _) 3 (am_putI W3 rfl (by decide) (fun h4 W4 => ?_))))
        rw [show upd F 0 0 33 + 1 = nI ((mF M).1 + 1) by rw [show upd F 0 0 33 = nI (mF M).1 from f1, nI_1]] at W4
        refine am_run (am_cK _) 2 (am_obj_in W4.o (am_run (am_cK _) 1 (hQ h4 W4.y ⟨_, _, _, W4.re, iv.s, iv.u, iv.k, iv.t, iv.d, ⟨rfl, by show (mF M).1 + 1 ≤ 10; omega, fun i hi => ?_⟩, iv.hr, iv.l⟩)))
        show upd (A 172) (mF M).1 (nI a) i = nI (va_up (mF M).2.1 (mF M).1 a i) ∧ upd (A 173) (mF M).1 (nI b) i = nI (va_up (mF M).2.2 (mF M).1 b i) ∧ va_up (mF M).2.1 (mF M).1 a i < 10 ∧ va_up (mF M).2.2 (mF M).1 b i < 4
        have hi2 : i < (mF M).1 + 1 := hi
        by_cases e : i = (mF M).1
        · subst e; rw [upd_s, upd_s, am_up_s, am_up_s]; exact ⟨rfl, rfl, by omega, by omega⟩
        · rw [upd_n e, upd_n e, am_up_n e, am_up_n e]; exact f3 i (by omega)
      · have z2 : F 33 = 10 := Classical.not_not.mp z
        rw [f1] at z2
        exact am_run (am_cK _) 2 (no (Or.inr ((nI_eq (b := 10) (by omega) (by omega)).mp z2)))
    · exact am_run (am_cK _) 1 (⟨fun _ => am_run (am_cK _) 2 (no (Or.inl (Or.inr (Or.inr c)))), fun z => absurd rfl z⟩)
  · exact am_run (am_cK _) 1 (⟨fun _ => am_run (am_cK _) 2 (no (Or.inl (c.elim Or.inl (fun z => Or.inr (Or.inl z))))), fun z => absurd rfl z⟩)
theorem Z_forget (hY : RY h M) (hQ : ∀ h', Fy h h' → RY h' (oForget M).2 → Q (some (.int (oForget M).1)) h') : am_call (d + 10) 296 [.ref 152] h Q := by
  obtain ⟨F, A, R, W, iv⟩ := hY
  refine en_X11_forget (Nat.le_of_ble_eq_true rfl) ?_
  refine am_run (am_cK _) 3 (am_putI W rfl (by decide) (fun h1 W1 => ?_))
  refine am_run (am_cK _) 2 (am_obj_in W1.o (am_run (am_cK _) 4 (am_putI W1 rfl (by decide) (fun h2 W2 => ?_))))
  have q := hQ h2 W2.y ⟨_, _, _, W2.re, iv.s, iv.u, iv.k, iv.t, iv.d, ⟨rfl, Nat.zero_le _, fun i hi => absurd hi (Nat.not_lt_zero i)⟩, iv.hr, iv.l⟩
  unfold oForget at q
  rw [← iv.f.1] at q
  exact am_run (am_cK _) 2 (q)
theorem Z_denies (hY : RY h M) (hQ : ∀ h', Fy h h' → RY h' (oDenies M).2 → Q (some (.int (oDenies M).1)) h') : am_call (d + 10) 303 [.ref 152] h Q := by
  obtain ⟨F, A, R, W, iv⟩ := hY
  refine en_X11_denies (Nat.le_of_ble_eq_true rfl) ?_
  refine am_run (am_cK _) 3 (am_putI W rfl (by decide) (fun h1 W1 => ?_))
  refine am_run (am_cK _) 2 (am_obj_in W1.o (am_run (am_cK _) 4 (am_putI W1 rfl (by decide) (fun h2 W2 => ?_))))
  have q := hQ h2 W2.y ⟨_, _, _, W2.re, iv.s, iv.u, iv.k, iv.t, iv.d, iv.f, ⟨rfl, Nat.zero_le _, fun i hi => absurd hi (Nat.not_lt_zero i)⟩, iv.l⟩
  unfold oDenies at q
  rw [← iv.hr.1] at q
  exact am_run (am_cK _) 2 (q)
theorem M_lowest {w : Nat} (hw : w < 2 ^ 31) (hQ : Q (some (.int (nI (if w = 1 then 0 else 1)))) h) : am_call (d + 2) 300 [.int (nI w)] h Q := by
  refine en_X11_lowest (Nat.le_of_ble_eq_true rfl) ?_
  refine am_run (am_cK _) 3 (⟨fun c => ?_, fun c => ?_⟩)
  · rw [if_pos ((nI_eq (b := 1) hw (by omega)).mp c)] at hQ
    exact am_run (am_cK _) 2 (M_flag0 (am_run (am_cK _) 1 (hQ)))
  · rw [if_neg (fun z => c (congrArg nI z))] at hQ
    exact am_run (am_cK _) 3 (M_flag1 (am_run (am_cK _) 1 (hQ)))
theorem M_highest {w : Nat} (hw : w < 2 ^ 31) (hQ : Q (some (.int (nI (if w = 1 then 3 else 9)))) h) : am_call (d + 1) 301 [.int (nI w)] h Q := by
  refine en_X11_highest (Nat.le_of_ble_eq_true rfl) ?_
  refine am_run (am_cK _) 3 (⟨fun c => ?_, fun c => ?_⟩)
  · rw [if_neg (fun z => c (congrArg nI z))] at hQ
    exact am_run (am_cK _) 2 (hQ)
  · rw [if_pos ((nI_eq (b := 1) hw (by omega)).mp (Classical.not_not.mp c))] at hQ
    exact am_run (am_cK _) 3 (hQ)
theorem Z_heard (hY : RY h M) (x y : Int32) (hQ : ∀ h', Fy h h' → RY h' (oHeard M x y).2 → Q (some (.int (oHeard M x y).1)) h') : am_call (d + 10) 302 [.ref 152, .int x, .int y] h Q := by
  obtain ⟨F, A, R, W, iv⟩ := hY
  obtain ⟨f1, f2, f3⟩ := id iv.hr
  unfold oHeard at hQ
  refine en_X11_heard (Nat.le_of_ble_eq_true rfl) ?_
  refine am_run (am_cK _) 3 (am_putI W rfl (by decide) (fun h1 W1 => ?_))
  have no : (hOKb x y = false ∨ (mH M).1 = 12) → Q (some (.int (-1))) h1 := fun c => by
    rw [if_pos c] at hQ
    exact hQ h1 W1.y ⟨_, _, _, W1.re, iv⟩
  refine am_run (am_cK _) 5 (M_inN x 0 3 (by omega) (by omega) (fun a _ ha e => ?_) (fun c => ?_))
  · subst e
    refine am_run (am_cK _) 1 (⟨fun z => absurd z n10, fun _ => ?_⟩)
    refine am_run (am_cK _) 4 (M_lowest (by omega) ?_)
    refine am_run (am_cK _) 3 (M_highest (by omega) ?_)
    have hlo : (if a = 1 then 0 else 1) < 2 ^ 31 := by split <;> omega
    have hhi : (if a = 1 then 3 else 9) < 2 ^ 31 := by split <;> omega
    refine am_run (am_cK _) 2 (M_inN y (if a = 1 then 0 else 1) (if a = 1 then 3 else 9) hlo hhi (fun b b1 b2 e => ?_) (fun c => ?_))
    · subst e
      have hb9 : b ≤ 9 := by split at b2 <;> omega
      have hb3 : a = 1 → b < 4 := fun z => by rw [if_pos z] at b2; omega
      have hb1 : ¬ a = 1 → 1 ≤ b := fun z => by rw [if_neg z] at b1; exact b1
      have hok : hOKb (nI a) (nI b) = true := by
        refine decide_eq_true ?_
        by_cases e1 : a = 1
        · subst e1
          have := hb3 rfl
          exact Or.inl ⟨rfl, in_no (n := 4) this (by omega)⟩
        · refine Or.inr ⟨fun z => e1 ((nI_eq (b := 1) (by omega) (by omega)).mp z), nI_pos (by omega), nI_nlt (a := 3) (b := a) ha (by omega), nI_nlt (a := b) (b := 1) (hb1 e1) (by omega), nI_nlt (a := 9) (b := b) hb9 (by omega)⟩
      refine am_run (am_cK _) 1 (⟨fun z => absurd z n10, fun _ => ?_⟩)
      refine am_run (am_cK _) 2 (am_obj_in W1.o (am_run (am_cK _) 2 (⟨fun z => ?_, fun z => ?_⟩)))
      · have hne : ¬ (mH M).1 = 12 := fun w => z (by rw [show upd F 0 0 36 = nI (mH M).1 from f1, w]; rfl)
        rw [if_neg (by
          rintro (c | c)
          · rw [hok] at c; cases c
          · exact hne c), nI_clamp (by omega), nI_clamp (by omega)] at hQ
        refine am_run (am_cK _) 2 (am_obj_in W1.o (am_run (am_cK _) 2 (am_obj_in W1.o (am_run (am_cK _) 2 (am_stI (p := 174) W1 f1 (show (mH M).1 < 12 by omega) rfl (fun h2 W2 => ?_))))))
        refine am_run (am_cK _) 2 (am_obj_in W2.o (am_run (am_cK _) 2 (am_obj_in W2.o (am_run (am_cK _) 2 (am_stI (p := 175) W2 f1 (show (mH M).1 < 12 by omega) rfl (fun h3 W3 => ?_))))))
        refine am_run (am_cK _) 3 (am_obj_in W3.o (am_run (am_cK _) 3 (am_putI W3 rfl (by decide) (fun h4 W4 => ?_))))
        rw [show upd F 0 0 36 + 1 = nI ((mH M).1 + 1) by rw [show upd F 0 0 36 = nI (mH M).1 from f1, nI_1]] at W4
        refine am_run (am_cK _) 2 (am_obj_in W4.o (am_run (am_cK _) 1 (hQ h4 W4.y ⟨_, _, _, W4.re, iv.s, iv.u, iv.k, iv.t, iv.d, iv.f, ⟨rfl, by show (mH M).1 + 1 ≤ 12; omega, fun i hi => ?_⟩, iv.l⟩)))
        show upd (A 174) (mH M).1 (nI a) i = nI (va_up (mH M).2.1 (mH M).1 a i) ∧ upd (A 175) (mH M).1 (nI b) i = nI (va_up (mH M).2.2 (mH M).1 b i) ∧ va_up (mH M).2.1 (mH M).1 a i ≤ 3 ∧ va_up (mH M).2.2 (mH M).1 b i ≤ 9 ∧ (va_up (mH M).2.1 (mH M).1 a i = 1 → va_up (mH M).2.2 (mH M).1 b i < 4)
        have hi2 : i < (mH M).1 + 1 := hi
        by_cases e : i = (mH M).1
        · subst e; rw [upd_s, upd_s, am_up_s, am_up_s]; exact ⟨rfl, rfl, ha, hb9, hb3⟩
        · rw [upd_n e, upd_n e, am_up_n e, am_up_n e]; exact f3 i (by omega)
      · have z2 : F 36 = 12 := Classical.not_not.mp z
        rw [f1] at z2
        exact am_run (am_cK _) 2 (no (Or.inr ((nI_eq (b := 12) (by omega) (by omega)).mp z2)))
    · refine am_run (am_cK _) 1 (⟨fun _ => am_run (am_cK _) 2 (no (Or.inl (decide_eq_false ?_))), fun z => absurd rfl z⟩)
      rintro (⟨e1, e2⟩ | ⟨e1, e2, e3, e4, e5⟩)
      · have ea : a = 1 := (nI_eq (b := 1) (by omega) (by omega)).mp e1
        rw [if_pos ea, if_pos ea] at c
        obtain ⟨b, hb, rfl⟩ := S_num2 (n := 4) (by omega) e2
        rcases c with c | c
        · exact nI_pos (by omega) c
        · exact nI_nlt (a := 3) (b := b) (by omega) (by omega) c
      · have ea : ¬ a = 1 := fun z => e1 (congrArg nI z)
        rw [if_neg ea, if_neg ea] at c
        rcases c with c | c
        · exact e4 c
        · exact e5 c
  · refine am_run (am_cK _) 1 (⟨fun _ => am_run (am_cK _) 2 (no (Or.inl (decide_eq_false ?_))), fun z => absurd rfl z⟩)
    rintro (⟨e1, e2⟩ | ⟨e1, e2, e3, e4, e5⟩)
    · subst e1
      exact c.elim (fun z => absurd z (by decide)) (fun z => absurd z (by decide))
    · exact c.elim e2 e3
end
