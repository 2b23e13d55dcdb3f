section
variable {d : Nat} {h0 h h4 : am_H} {Q : Option Value → am_H → Prop} {F F4 : Nat → Int32} {A A4 : Nat → Nat → Int32} {R : Nat → Int64} {M : Ms} {u g : Nat → Int32}
theorem Z_fin (v : Iv F A R M) {r : Int32 × Sg} (hok : Sok r.2) (W4 : RM h0 h4 F4 (va_up A4 154 g) R) (hF : AgF (upd F 0 0) F4) (hA : AgA (va_up A 163 u) A4) (iu : IU (upd F 0 0 20) u (mU M)) (hm : RSm (fun k => u (61 * (mU M).length + k)) (mS M)) (hS4 : RSm g r.2) (hQ : ∀ h', Fy h0 h' → RY h' (oAct M r).2 → Q (some (.int (oAct M r).1)) h') : am_call (d + 2) 230 [.ref 152, .int r.1] h4 Q := by
  have e163 : A4 163 = u := (hA 163 (by decide) (by decide) (by decide) (by decide)).trans am_up_s
  have e20 : F4 20 = upd F 0 0 20 := hF 20 (by decide)
  have eA : ∀ k, k ≠ 158 → k ≠ 161 → k ≠ 162 → k ≠ 164 → k ≠ 163 → A4 k = A k := fun k k1 k2 k3 k4 k5 => (hA k k1 k2 k3 k4).trans (am_up_n k5)
  have iu4 : IU (F4 20) (va_up A4 154 g 163) (mU M) := by rw [am_up_n (by decide), e163, e20]; exact iu
  have ka : ∀ u5, KA A (va_up (va_up A4 154 g) 163 u5) := fun u5 => ⟨eA 156 (by decide) (by decide) (by decide) (by decide) (by decide), eA 159 (by decide) (by decide) (by decide) (by decide) (by decide), eA 172 (by decide) (by decide) (by decide) (by decide) (by decide), eA 173 (by decide) (by decide) (by decide) (by decide) (by decide), eA 174 (by decide) (by decide) (by decide) (by decide) (by decide), eA 175 (by decide) (by decide) (by decide) (by decide) (by decide), eA 179 (by decide) (by decide) (by decide) (by decide) (by decide), eA 180 (by decide) (by decide) (by decide) (by decide) (by decide)⟩
  have ka0 : KA A (va_up A4 154 g) := ka (A4 163)
  have kf : KF F F4 := ⟨hF 1 (by decide), hF 6 (by decide), hF 16 (by decide), hF 33 (by decide), hF 36 (by decide)⟩
  refine M_counted W4 iu4 (by rw [am_up_n (by decide), e163]; exact hm) v.s.2 r.1 (fun c => ?_) (fun c h5 x5 u5 W5 iu5 => ?_)
  · have e : oAct M r = (r.1, pS M r.2) := if_pos c
    rw [e] at hQ
    exact hQ h4 W4.y ⟨_, _, _, W4.re, Iv_su v kf ka0 (σ := r.2) (U := mU M) hS4 hok iu4⟩
  · have e : oAct M r = (r.1, pU (pS M r.2) ((mS M :: mU M).take 15)) := if_neg c
    rw [e] at hQ
    exact hQ h5 W5.y ⟨_, _, _, W5.re, Iv_su (F' := upd F4 20 x5) (A' := va_up (va_up A4 154 g) 163 u5) v kf (ka u5) (σ := r.2) hS4 hok iu5⟩
theorem Z_rolls (hY : RY h M) (x y : Int32) (hQ : ∀ h', Fy h h' → RY h' (oAct M (sRoll (mS M) x y)).2 → Q (some (.int (oAct M (sRoll (mS M) x y)).1)) h') : am_call (d + 10) 247 [.ref 152, .int x, .int y] h Q := by
  obtain ⟨F, A, R, W, v⟩ := hY
  refine en_X11_rolls (Nat.le_of_ble_eq_true rfl) ?_
  refine am_run (am_cK _) 3 (am_putI W rfl (by decide) (fun h1 W1 => ?_))
  refine am_run (am_cK _) 2 (am_obj_in W1.o ((M_putsBy W1 v.s.1 v.s.2 v.u (fun h2 u W2 iu hm => ?_))))
  have W3 : RM h h2 (upd F 0 0) (va_up (va_up A 163 u) 154 (A 154)) R := by
    rw [va_same (A := va_up A 163 u) (p := 154) (x := A 154) rfl]
    exact W2
  refine am_run (am_cK _) 4 (am_obj_in W3.o (am_run (am_cK _) 3 (am_obj_in W3.o ((M_rollsOne W3 (Or.inl rfl) v.s.1 v.s.2 x y (fun h4 s g W4 hS4 => ?_))))))
  exact am_run (am_cK _) 1 (am_obj_in W4.o ((Z_fin v (sRoll_ok v.s.2 x y) W4 AgF.rf (fun k _ _ _ k4 => am_up_n k4) iu hm hS4 (fun h' y m => am_run (am_cK _) 1 (hQ h' y m)))))
theorem Z_flips (hY : RY h M) (x : Int32) (hQ : ∀ h', Fy h h' → RY h' (oAct M (sFlip (mS M) x)).2 → Q (some (.int (oAct M (sFlip (mS M) x)).1)) h') : am_call (d + 10) 248 [.ref 152, .int x] h Q := by
  obtain ⟨F, A, R, W, v⟩ := hY
  refine en_X11_flips (Nat.le_of_ble_eq_true rfl) ?_
  refine am_run (am_cK _) 3 (am_putI W rfl (by decide) (fun h1 W1 => ?_))
  refine am_run (am_cK _) 2 (am_obj_in W1.o ((M_putsBy W1 v.s.1 v.s.2 v.u (fun h2 u W2 iu hm => ?_))))
  have W3 : RM h h2 (upd F 0 0) (va_up (va_up A 163 u) 154 (A 154)) R := by
    rw [va_same (A := va_up A 163 u) (p := 154) (x := A 154) rfl]
    exact W2
  refine am_run (am_cK _) 4 (am_obj_in W3.o (am_run (am_cK _) 2 (am_obj_in W3.o ((M_flipsOne W3 (Or.inl rfl) v.s.1 v.s.2 x (fun h4 s g W4 hS4 => ?_))))))
  exact am_run (am_cK _) 1 (am_obj_in W4.o ((Z_fin v (sFlip_ok v.s.2 x) W4 AgF.rf (fun k _ _ _ k4 => am_up_n k4) iu hm hS4 (fun h' y m => am_run (am_cK _) 1 (hQ h' y m)))))
theorem Z_swaps (hY : RY h M) (x y : Int32) (hQ : ∀ h', Fy h h' → RY h' (oAct M (sSwap (mS M) x y)).2 → Q (some (.int (oAct M (sSwap (mS M) x y)).1)) h') : am_call (d + 10) 249 [.ref 152, .int x, .int y] h Q := by
  obtain ⟨F, A, R, W, v⟩ := hY
  refine en_X11_swaps (Nat.le_of_ble_eq_true rfl) ?_
  refine am_run (am_cK _) 3 (am_putI W rfl (by decide) (fun h1 W1 => ?_))
  refine am_run (am_cK _) 2 (am_obj_in W1.o ((M_putsBy W1 v.s.1 v.s.2 v.u (fun h2 u W2 iu hm => ?_))))
  have W3 : RM h h2 (upd F 0 0) (va_up (va_up A 163 u) 154 (A 154)) R := by
    rw [va_same (A := va_up A 163 u) (p := 154) (x := A 154) rfl]
    exact W2
  refine am_run (am_cK _) 4 (am_obj_in W3.o (am_run (am_cK _) 3 (am_obj_in W3.o ((M_swapsOne W3 (Or.inl rfl) v.s.1 v.s.2 x y (fun h4 g W4 hS4 => ?_))))))
  exact am_run (am_cK _) 1 (am_obj_in W4.o ((Z_fin v (sSwap_ok v.s.2 x y) W4 AgF.rf (AgA.rf) iu hm hS4 (fun h' y m => am_run (am_cK _) 1 (hQ h' y m)))))
theorem Z_threads (hY : RY h M) (x y z : Int32) (hQ : ∀ h', Fy h h' → RY h' (oAct M (sThread (mS M) x y z)).2 → Q (some (.int (oAct M (sThread (mS M) x y z)).1)) h') : am_call (d + 10) 250 [.ref 152, .int x, .int y, .int z] h Q := by
  obtain ⟨F, A, R, W, v⟩ := hY
  refine en_X11_threads (Nat.le_of_ble_eq_true rfl) ?_
  refine am_run (am_cK _) 3 (am_putI W rfl (by decide) (fun h1 W1 => ?_))
  refine am_run (am_cK _) 2 (am_obj_in W1.o ((M_putsBy W1 v.s.1 v.s.2 v.u (fun h2 u W2 iu hm => ?_))))
  have W3 : RM h h2 (upd F 0 0) (va_up (va_up A 163 u) 154 (A 154)) R := by
    rw [va_same (A := va_up A 163 u) (p := 154) (x := A 154) rfl]
    exact W2
  refine am_run (am_cK _) 4 (am_obj_in W3.o (am_run (am_cK _) 4 (am_obj_in W3.o ((M_threadsOne W3 (Or.inl rfl) v.s.1 v.s.2 x y z (fun h4 g W4 hS4 => ?_))))))
  exact am_run (am_cK _) 1 (am_obj_in W4.o ((Z_fin v (sThread_ok v.s.2 x y z) W4 AgF.rf (AgA.rf) iu hm hS4 (fun h' y m => am_run (am_cK _) 1 (hQ h' y m)))))
theorem Z_cuts (hY : RY h M) (x y : Int32) (hQ : ∀ h', Fy h h' → RY h' (oAct M (sCut (mS M) x y)).2 → Q (some (.int (oAct M (sCut (mS M) x y)).1)) h') : am_call (d + 10) 251 [.ref 152, .int x, .int y] h Q := by
  obtain ⟨F, A, R, W, v⟩ := hY
  refine en_X11_cuts (Nat.le_of_ble_eq_true rfl) ?_
  refine am_run (am_cK _) 3 (am_putI W rfl (by decide) (fun h1 W1 => ?_))
  refine am_run (am_cK _) 2 (am_obj_in W1.o ((M_putsBy W1 v.s.1 v.s.2 v.u (fun h2 u W2 iu hm => ?_))))
  have W3 : RM h h2 (upd F 0 0) (va_up (va_up A 163 u) 154 (A 154)) R := by
    rw [va_same (A := va_up A 163 u) (p := 154) (x := A 154) rfl]
    exact W2
  refine am_run (am_cK _) 4 (am_obj_in W3.o (am_run (am_cK _) 3 (am_obj_in W3.o ((M_cutsOne W3 (Or.inl rfl) v.s.1 v.s.2 x y (fun h4 g W4 hS4 => ?_))))))
  exact am_run (am_cK _) 1 (am_obj_in W4.o ((Z_fin v (sCut_ok v.s.2 x y) W4 AgF.rf (AgA.rf) iu hm hS4 (fun h' y m => am_run (am_cK _) 1 (hQ h' y m)))))
theorem Z_joins (hY : RY h M) (x y : Int32) (hQ : ∀ h', Fy h h' → RY h' (oAct M (sJoin (mS M) x y)).2 → Q (some (.int (oAct M (sJoin (mS M) x y)).1)) h') : am_call (d + 10) 252 [.ref 152, .int x, .int y] h Q := by
  obtain ⟨F, A, R, W, v⟩ := hY
  refine en_X11_joins (Nat.le_of_ble_eq_true rfl) ?_
  refine am_run (am_cK _) 3 (am_putI W rfl (by decide) (fun h1 W1 => ?_))
  refine am_run (am_cK _) 2 (am_obj_in W1.o ((M_putsBy W1 v.s.1 v.s.2 v.u (fun h2 u W2 iu hm => ?_))))
  have W3 : RM h h2 (upd F 0 0) (va_up (va_up A 163 u) 154 (A 154)) R := by
    rw [va_same (A := va_up A 163 u) (p := 154) (x := A 154) rfl]
    exact W2
  refine am_run (am_cK _) 4 (am_obj_in W3.o (am_run (am_cK _) 3 (am_obj_in W3.o ((M_joinsOne W3 (Or.inl rfl) v.s.1 v.s.2 x y (fun h4 g W4 hS4 => ?_))))))
  exact am_run (am_cK _) 1 (am_obj_in W4.o ((Z_fin v (sJoin_ok v.s.2 x y) W4 AgF.rf (AgA.rf) iu hm hS4 (fun h' y m => am_run (am_cK _) 1 (hQ h' y m)))))
theorem Z_parts (hY : RY h M) (x : Int32) (hQ : ∀ h', Fy h h' → RY h' (oAct M (sPart (mS M) x)).2 → Q (some (.int (oAct M (sPart (mS M) x)).1)) h') : am_call (d + 10) 253 [.ref 152, .int x] h Q := by
  obtain ⟨F, A, R, W, v⟩ := hY
  refine en_X11_parts (Nat.le_of_ble_eq_true rfl) ?_
  refine am_run (am_cK _) 3 (am_putI W rfl (by decide) (fun h1 W1 => ?_))
  refine am_run (am_cK _) 2 (am_obj_in W1.o ((M_putsBy W1 v.s.1 v.s.2 v.u (fun h2 u W2 iu hm => ?_))))
  have W3 : RM h h2 (upd F 0 0) (va_up (va_up A 163 u) 154 (A 154)) R := by
    rw [va_same (A := va_up A 163 u) (p := 154) (x := A 154) rfl]
    exact W2
  refine am_run (am_cK _) 4 (am_obj_in W3.o (am_run (am_cK _) 2 (am_obj_in W3.o ((M_partsOne W3 (Or.inl rfl) v.s.1 v.s.2 x (fun h4 g W4 hS4 => ?_))))))
  exact am_run (am_cK _) 1 (am_obj_in W4.o ((Z_fin v (sPart_ok v.s.2 x) W4 AgF.rf (AgA.rf) iu hm hS4 (fun h' y m => am_run (am_cK _) 1 (hQ h' y m)))))
theorem Z_sells (hY : RY h M) (x : Int32) (hQ : ∀ h', Fy h h' → RY h' (oAct M (sSell (mL M) (mS M) x)).2 → Q (some (.int (oAct M (sSell (mL M) (mS M) x)).1)) h') : am_call (d + 10) 254 [.ref 152, .int x] h Q := by
  obtain ⟨F, A, R, W, v⟩ := hY
  refine en_X11_sells (Nat.le_of_ble_eq_true rfl) ?_
  refine am_run (am_cK _) 3 (am_putI W rfl (by decide) (fun h1 W1 => ?_))
  refine am_run (am_cK _) 2 (am_obj_in W1.o ((M_putsBy W1 v.s.1 v.s.2 v.u (fun h2 u W2 iu hm => ?_))))
  have W3 : RM h h2 (upd F 0 0) (va_up (va_up A 163 u) 154 (A 154)) R := by
    rw [va_same (A := va_up A 163 u) (p := 154) (x := A 154) rfl]
    exact W2
  refine am_run (am_cK _) 4 (am_obj_in W3.o (am_run (am_cK _) 2 (am_obj_in W3.o ((M_sellsOne W3 (Or.inl rfl) v.s.1 v.s.2 v.l x (fun h4 F4 A4 g W4 aF aA hS4 => ?_))))))
  exact am_run (am_cK _) 1 (am_obj_in W4.o ((Z_fin v (sSell_ok v.s.2 (mL M) x) W4 aF aA iu hm hS4 (fun h' y m => am_run (am_cK _) 1 (hQ h' y m)))))
theorem Z_buys (hY : RY h M) (x y : Int32) (hQ : ∀ h', Fy h h' → RY h' (oAct M (sBuy (mS M) x y)).2 → Q (some (.int (oAct M (sBuy (mS M) x y)).1)) h') : am_call (d + 10) 255 [.ref 152, .int x, .int y] h Q := by
  obtain ⟨F, A, R, W, v⟩ := hY
  refine en_X11_buys (Nat.le_of_ble_eq_true rfl) ?_
  refine am_run (am_cK _) 3 (am_putI W rfl (by decide) (fun h1 W1 => ?_))
  refine am_run (am_cK _) 2 (am_obj_in W1.o ((M_putsBy W1 v.s.1 v.s.2 v.u (fun h2 u W2 iu hm => ?_))))
  have W3 : RM h h2 (upd F 0 0) (va_up (va_up A 163 u) 154 (A 154)) R := by
    rw [va_same (A := va_up A 163 u) (p := 154) (x := A 154) rfl]
    exact W2
  refine am_run (am_cK _) 4 (am_obj_in W3.o (am_run (am_cK _) 3 (am_obj_in W3.o ((M_buysOne W3 (Or.inl rfl) v.s.1 v.s.2 x y (fun h4 g W4 hS4 => ?_))))))
  exact am_run (am_cK _) 1 (am_obj_in W4.o ((Z_fin v (sBuy_ok v.s.2 x y) W4 AgF.rf (AgA.rf) iu hm hS4 (fun h' y m => am_run (am_cK _) 1 (hQ h' y m)))))
end
