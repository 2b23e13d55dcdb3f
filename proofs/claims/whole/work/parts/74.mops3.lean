theorem cnt_sw : ∀ i, i < 10 → am_tsw 6 116 0 9 #[54, 62, 70, 78, 86, 91, 96, 101, 106, 111] (nI i) = [60, 68, 76, 84, 92, 97, 102, 107, 112, 117].getD i 0 := by decide +kernel
theorem br_sw : ∀ i, i < 6 → am_tsw 40 68 0 4 #[36, 43, 48, 53, 58] (nI i) = [76, 83, 88, 93, 98, 108].getD i 0 := by decide +kernel
theorem nI_mulS (c : Nat) (f step : Int32) : f + nI c * step + step = f + nI (c + 1) * step := by
  rw [nI_succ, Int32.add_mul, Int32.one_mul, Int32.add_assoc]
theorem oBr_at {M : Ms} {j : Nat} (hs : Sok (mS M)) (hj : j < sN (mS M)) (w : Int32) : oBr M (nI j) w = if w = 0 then some (nI (sZ (mS M) j)) else if w = 1 then some (nI (cbt (sB (mS M) j) (sZ (mS M) j))) else if w = 2 then some (nI (per (sB (mS M) j) (sZ (mS M) j))) else if w = 3 then some (nI (mir (sB (mS M) j) (sZ (mS M) j))) else if w = 4 then some (nI (sPrc (mL M) (mS M) j)) else if w = 5 then some (nI (oAl (mS M) j)) else none := by
  have hN := hs.1
  unfold oBr
  rw [if_neg (S_no hs hj), nI_clamp (by omega)]
section
variable {d : Nat} {h : am_H} {Q : Option Value → am_H → Prop} {M : Ms}
theorem Z_bracelet (hY : RY h M) (b w : Int32) (h1 : oBr M b w = none → ∀ h', Fy h h' → RYt h' M 1 → Q (some (.int 0)) h') (h2 : ∀ x, oBr M b w = some x → ∀ h', Fy h h' → RYt h' M 0 → Q (some (.int x)) h') : am_call (d + 10) 224 [.ref 152, .int b, .int w] h Q := by
  obtain ⟨F, A, R, W, iv⟩ := hY
  have hs := iv.s.2
  have hN := hs.1
  refine en_X11_bracelet (Nat.le_of_ble_eq_true rfl) ?_
  refine am_run (am_cK _) 3 (am_putI W rfl (by decide) (fun h3 W1 => ?_))
  have no : oBr M b w = none → am_wp (am_call (d + 9)) (0, 0) cm_X11_bracelet Q (fun _ => False) (25, [some (.ref 152), some (.int b), some (.int w)], [], 0, 0) h3 := fun e =>
    am_run (am_cK _) 2 (am_obj_in W1.o ((M_refuse W1 (fun h4 W4 => am_run (am_cK _) 1 (h1 e h4 W4.y ⟨_, _, _, W4.re, iv, rfl⟩)))))
  refine am_run (am_cK _) 3 (am_obj_in W1.o ((M_isRing W1 iv.s.1.1 hN b (fun j hj e => ?_) (fun c => am_run (am_cK _) 1 (⟨fun _ => no (by unfold oBr; rw [if_pos c]), fun z => absurd rfl z⟩)))))
  subst e
  have hz := hs.2.1 j hj
  have hr := iv.s.1.2.2.2 j hj
  have eb := oBr_at (M := M) hs hj w
  refine am_run (am_cK _) 1 (⟨fun z => absurd z n10, fun _ => ?_⟩)
  refine am_run (am_cK _) 5 (M_inN w 0 5 (by omega) (by omega) (fun i _ hi e => ?_) (fun c => am_run (am_cK _) 1 (⟨fun z => absurd rfl z, fun _ => no ?_⟩)))
  · subst e
    refine am_run (am_cK _) 1 (⟨fun _ => ?_, fun z => absurd n10 z⟩)
    refine am_run (am_cK _) 3 (am_obj_in W1.o (am_run (am_cK _) 2 (am_obj_in W1.o ((M_looksAt W1 (Or.inl rfl) (by omega) (by omega) hz.2.1 hr.1 hr.2 hz.2.2 (fun h4 g W4 hL => ?_))))))
    refine am_run (am_cK _) 2 (show am_wp (am_call (d + 9)) (0, 0) cm_X11_bracelet Q (fun _ => False) (am_tsw 40 68 0 4 #[36, 43, 48, 53, 58] (nI i), [some (.ref 152), some (.int (nI j)), some (.int (nI i))], [], 0, 0) h4 from ?_)
    rw [br_sw i (by omega)]
    match i, hi, eb with
    | 0, _, eb =>
      refine am_run (am_cK _) 2 (am_obj_in W4.o (am_run (am_cK _) 2 (am_ld W4.a154 j (by omega) ?_)))
      rw [nI_clamp (by omega), show va_up A 158 g 154 j = nI (sZ (mS M) j) from hr.1]
      exact am_run (am_cK _) 1 (h2 _ eb h4 W4.y ⟨_, _, _, W4.re, iv, rfl⟩)
    | 1, _, eb => exact am_run (am_cK _) 2 (am_obj_in W4.o ((M_coloursOf W4 hL (am_run (am_cK _) 1 (h2 _ eb h4 W4.y ⟨_, _, _, W4.re, iv, rfl⟩)))))
    | 2, _, eb => exact am_run (am_cK _) 2 (am_obj_in W4.o ((M_period W4 hL (am_run (am_cK _) 1 (h2 _ eb h4 W4.y ⟨_, _, _, W4.re, iv, rfl⟩)))))
    | 3, _, eb => exact am_run (am_cK _) 2 (am_obj_in W4.o ((M_mirrors W4 hL (am_run (am_cK _) 1 (h2 _ eb h4 W4.y ⟨_, _, _, W4.re, iv, rfl⟩)))))
    | 4, _, eb => exact am_run (am_cK _) 3 (am_obj_in W4.o (am_run (am_cK _) 2 (am_obj_in W4.o ((M_price W4 (Or.inl rfl) iv.s.1 hs iv.l hj (fun h5 g5 a5 s5 W5 => am_run (am_cK _) 1 (h2 _ eb h5 W5.y ⟨_, _, _, W5.re, iv, rfl⟩)))))))
    | 5, _, eb =>
      refine am_run (am_cK _) 3 (am_obj_in W4.o (am_run (am_cK _) 2 (am_obj_in W4.o ((M_alikeMany W4 hL W4.a154 iv.s.1 hs (nI j) ?_)))))
      rw [alN_oAl hs hj]
      exact am_run (am_cK _) 1 (h2 _ eb h4 W4.y ⟨_, _, _, W4.re, iv, rfl⟩)
  · rw [eb]
    have ne : ∀ k, k ≤ 5 → ¬ w = nI k := fun k hk e => by
      subst e
      rcases c with c | c
      · exact nI_pos (by omega) c
      · exact nI_nlt (a := 5) (b := k) hk (by omega) c
    rw [if_neg (show ¬ w = 0 from ne 0 (by omega)), if_neg (show ¬ w = 1 from ne 1 (by omega)), if_neg (show ¬ w = 2 from ne 2 (by omega)), if_neg (show ¬ w = 3 from ne 3 (by omega)), if_neg (show ¬ w = 4 from ne 4 (by omega)), if_neg (show ¬ w = 5 from ne 5 (by omega))]
theorem Z_bead (hY : RY h M) (b i : Int32) (h1 : oBd M b i = none → ∀ h', Fy h h' → RYt h' M 1 → Q (some (.int 0)) h') (h2 : ∀ x, oBd M b i = some x → ∀ h', Fy h h' → RYt h' M 0 → Q (some (.int x)) h') : am_call (d + 10) 225 [.ref 152, .int b, .int i] h Q := by
  obtain ⟨F, A, R, W, iv⟩ := hY
  have hs := iv.s.2
  have hN := hs.1
  refine en_X11_bead (Nat.le_of_ble_eq_true rfl) ?_
  refine am_run (am_cK _) 3 (am_putI W rfl (by decide) (fun h3 W1 => ?_))
  have no : oBd M b i = none → am_wp (am_call (d + 9)) (0, 0) cm_X11_bead Q (fun _ => False) (43, [some (.ref 152), some (.int b), some (.int i)], [], 0, 0) h3 := fun e =>
    am_run (am_cK _) 2 (am_obj_in W1.o ((M_refuse W1 (fun h4 W4 => am_run (am_cK _) 1 (h1 e h4 W4.y ⟨_, _, _, W4.re, iv, rfl⟩)))))
  refine am_run (am_cK _) 3 (am_obj_in W1.o ((M_isRing W1 iv.s.1.1 hN b (fun j hj e => ?_) (fun c => am_run (am_cK _) 1 (⟨fun _ => no (by unfold oBd; rw [if_pos c]), fun z => absurd rfl z⟩)))))
  subst e
  have hz := hs.2.1 j hj
  have hr := iv.s.1.2.2.2 j hj
  refine am_run (am_cK _) 1 (⟨fun z => absurd z n10, fun _ => ?_⟩)
  refine am_run (am_cK _) 5 (am_obj_in W1.o (am_run (am_cK _) 2 (am_ld W1.a154 j (by omega) ?_)))
  rw [nI_clamp (by omega), hr.1]
  refine am_run (am_cK _) 4 (M_inZ i (sZ (mS M) j) (by omega) (fun x hx e => ?_) (fun c => am_run (am_cK _) 1 (⟨fun _ => no ?_, fun z => absurd rfl z⟩)))
  · subst e
    have eo : oBd M (nI j) (nI x) = some (nI (sB (mS M) j x)) := by
      unfold oBd
      rw [if_neg (S_no hs hj), nI_clamp (by omega), if_neg (in_no hx (by omega)), nI_clamp (by omega)]
    refine am_run (am_cK _) 1 (⟨fun z => absurd z n10, fun _ => ?_⟩)
    refine am_run (am_cK _) 2 (am_obj_in W1.o (am_run (am_cK _) 3 (M_beadAt W1.a154 (by omega) (by omega) (hr.2 x hx) ?_)))
    exact am_run (am_cK _) 2 (h2 _ eo h3 W1.y ⟨_, _, _, W1.re, iv, rfl⟩)
  · unfold oBd
    rw [if_neg (S_no hs hj), nI_clamp (by omega), if_pos c]
theorem Z_stock (hY : RY h M) (c : Int32) (h1 : oSt M c = none → ∀ h', Fy h h' → RYt h' M 1 → Q (some (.int 0)) h') (h2 : ∀ x, oSt M c = some x → ∀ h', Fy h h' → RYt h' M 0 → Q (some (.int x)) h') : am_call (d + 10) 226 [.ref 152, .int c] h Q := by
  obtain ⟨F, A, R, W, iv⟩ := hY
  refine en_X11_stock (Nat.le_of_ble_eq_true rfl) ?_
  refine am_run (am_cK _) 3 (am_putI W rfl (by decide) (fun h3 W1 => ?_))
  refine am_run (am_cK _) 5 (M_inZ c 4 (by omega) (fun y hy e => ?_) (fun z => ?_))
  · subst e
    have eo : oSt M (nI y) = some (nI (sK (mS M) y)) := by
      unfold oSt
      rw [if_neg (show ¬ (nI y < 0 ∨ 4 ≤ nI y) from in_no (n := 4) hy (by omega)), nI_clamp (by omega)]
    refine am_run (am_cK _) 1 (⟨fun z => absurd z n10, fun _ => ?_⟩)
    refine am_run (am_cK _) 2 (am_obj_in W1.o (am_run (am_cK _) 4 (am_ld W1.a154 (55 + y) (by omega) ?_ (st_ix y))))
    rw [st_ix, nI_clamp (by omega), iv.s.1.2.2.1 y hy]
    exact am_run (am_cK _) 2 (h2 _ eo h3 W1.y ⟨_, _, _, W1.re, iv, rfl⟩)
  · have eo : oSt M c = none := by
      unfold oSt
      rw [if_pos (show c < 0 ∨ 4 ≤ c from z)]
    exact am_run (am_cK _) 1 (⟨fun _ => am_run (am_cK _) 2 (am_obj_in W1.o ((M_refuse W1 (fun h4 W4 => am_run (am_cK _) 1 (h1 eo h4 W4.y ⟨_, _, _, W4.re, iv, rfl⟩))))), fun w => absurd rfl w⟩)
theorem Z_row (hY : RY h M) (i : Int32) (h1 : oRw M i = none → ∀ h', Fy h h' → RYt h' M 1 → Q (some (.long 0)) h') (h2 : ∀ x, oRw M i = some x → ∀ h', Fy h h' → RYt h' M 0 → Q (some (.long x.toInt64)) h') : am_call (d + 10) 320 [.ref 152, .int i] h Q := by
  obtain ⟨F, A, R, W, iv⟩ := hY
  obtain ⟨d1, d2, d3⟩ := id iv.d
  refine en_X11_row (Nat.le_of_ble_eq_true rfl) ?_
  refine am_run (am_cK _) 3 (am_putI W rfl (by decide) (fun h3 W1 => ?_))
  refine am_run (am_cK _) 5 (am_obj_in W1.o (am_run (am_cK _) 4 ?_))
  rw [show upd F 0 0 1 = nI (mD M).1 from d1]
  refine M_inZ i (mD M).1 (by omega) (fun y hy e => ?_) (fun z => ?_)
  · subst e
    have eo : oRw M (nI y) = some ((mD M).2 y) := by
      unfold oRw
      rw [if_neg (in_no hy (by omega)), nI_clamp (by omega)]
    refine am_run (am_cK _) 1 (⟨fun _ => ?_, fun z => absurd n10 z⟩)
    refine am_run (am_cK _) 2 (am_obj_in W1.o (am_run (am_cK _) 2 (am_ldL W1.r y (by omega) ?_)))
    rw [nI_clamp (by omega), d3 y hy]
    exact am_run (am_cK _) 1 (h2 _ eo h3 W1.y ⟨_, _, _, W1.re, iv, rfl⟩)
  · have eo : oRw M i = none := by unfold oRw; rw [if_pos z]
    refine am_run (am_cK _) 1 (⟨fun w => absurd rfl w, fun _ => ?_⟩)
    refine am_run (am_cK _) 3 (am_putI W1 rfl (by decide) (fun h4 W4 => ?_))
    rw [upd_upd] at W4
    exact am_run (am_cK _) 2 (h1 eo h4 W4.y ⟨_, _, _, W4.re, iv, rfl⟩)
theorem Z_count (hY : RY h M) (x : Int32) (hQ : ∀ h', Fy h h' → RY h' M → Q (some (.int (oCount M x))) h') : am_call (d + 10) 319 [.ref 152, .int x] h Q := by
  obtain ⟨F, A, R, W, iv⟩ := hY
  have hs := iv.s.2
  refine en_X11_count (Nat.le_of_ble_eq_true rfl) ?_
  refine am_run (am_cK _) 3 (am_putI W rfl (by decide) (fun h3 W1 => ?_))
  have q := hQ h3 W1.y ⟨_, _, _, W1.re, iv⟩
  refine am_run (am_cK _) 2 (show am_wp (am_call (d + 9)) (0, 0) cm_X11_count Q (fun _ => False) (am_tsw 6 116 0 9 #[54, 62, 70, 78, 86, 91, 96, 101, 106, 111] x, [some (.ref 152), some (.int x)], [], 0, 0) h3 from ?_)
  by_cases c : x < 0 ∨ 9 < x
  · rw [show am_tsw 6 116 0 9 #[54, 62, 70, 78, 86, 91, 96, 101, 106, 111] x = 122 from tsw_out (c.elim (fun z => Or.inl (toInt_neg z)) (fun z => Or.inr (toInt_lt (k := 9) (by omega) z))) rfl]
    have ne : ∀ k, k ≤ 9 → ¬ x = nI k := fun k hk e => by
      subst e
      rcases c with c | c
      · exact nI_pos (by omega) c
      · exact nI_nlt (a := 9) (b := k) hk (by omega) c
    have e : oCount M x = -100 := by
      unfold oCount
      rw [if_neg (show ¬ x = 0 from ne 0 (by omega)), if_neg (show ¬ x = 1 from ne 1 (by omega)), if_neg (show ¬ x = 2 from ne 2 (by omega)), if_neg (show ¬ x = 3 from ne 3 (by omega)), if_neg (show ¬ x = 4 from ne 4 (by omega)), if_neg (show ¬ x = 5 from ne 5 (by omega)), if_neg (show ¬ x = 6 from ne 6 (by omega)), if_neg (show ¬ x = 7 from ne 7 (by omega)), if_neg (show ¬ x = 8 from ne 8 (by omega)), if_neg (show ¬ x = 9 from ne 9 (by omega))]
    rw [e] at q
    exact am_run (am_cK _) 2 (q)
  · obtain ⟨i, hi, rfl⟩ : ∃ i, i < 10 ∧ x = nI i := by
      obtain ⟨i, hi, rfl⟩ := nI_of (fun z => c (Or.inl z))
      exact ⟨i, Nat.lt_of_not_le (fun z => c (Or.inr (nI_lt (a := 9) (by omega) hi))), rfl⟩
    rw [cnt_sw i hi]
    match i, hi, q, hQ with
    | 0, _, q, _ =>
      refine am_run (am_cK _) 2 (am_obj_in W1.o (am_run (am_cK _) 2 (am_ld W1.a154 60 (by omega) ?_)))
      rw [pk_cl (x := 60) 60, iv.s.1.1]
      exact am_run (am_cK _) 1 (q)
    | 1, _, q, _ => exact am_run (am_cK _) 2 (am_obj_in W1.o (am_run (am_cK _) 1 (M_beadsOf W1.a154 iv.s.1 hs (am_run (am_cK _) 1 (q)))))
    | 2, _, q, _ => exact am_run (am_cK _) 2 (am_obj_in W1.o (am_run (am_cK _) 1 (M_stockOf W1.a154 iv.s.1.2.2.1 (am_run (am_cK _) 1 (q)))))
    | 3, _, q, _ =>
      refine am_run (am_cK _) 2 (am_obj_in W1.o (am_run (am_cK _) 2 (am_ld W1.a154 59 (by omega) ?_)))
      rw [pk_cl (x := 59) 59, iv.s.1.2.1]
      exact am_run (am_cK _) 1 (q)
    | 4, _, _, hQ =>
      refine am_run (am_cK _) 2 (am_obj_in W1.o ((M_prices W1 iv.s.1 hs iv.l (fun h4 F4 A4 W4 aF aA => ?_))))
      refine am_run (am_cK _) 1 (hQ h4 W4.y ⟨_, _, _, W4.re, ?_⟩)
      have eA : ∀ k, k ≠ 158 → k ≠ 161 → k ≠ 162 → k ≠ 164 → A4 k = A k := aA
      exact Iv_su (F' := F4) (A' := A4) (σ := mS M) (U := mU M) iv ⟨aF 1 (by decide), aF 6 (by decide), aF 16 (by decide), aF 33 (by decide), aF 36 (by decide)⟩ ⟨eA 156 (by decide) (by decide) (by decide) (by decide), eA 159 (by decide) (by decide) (by decide) (by decide), eA 172 (by decide) (by decide) (by decide) (by decide), eA 173 (by decide) (by decide) (by decide) (by decide), eA 174 (by decide) (by decide) (by decide) (by decide), eA 175 (by decide) (by decide) (by decide) (by decide), eA 179 (by decide) (by decide) (by decide) (by decide), eA 180 (by decide) (by decide) (by decide) (by decide)⟩ (by rw [eA 154 (by decide) (by decide) (by decide) (by decide)]; exact iv.s.1) hs (by rw [aF 20 (by decide), eA 163 (by decide) (by decide) (by decide) (by decide)]; exact iv.u)
    | 5, _, q, _ =>
      refine am_run (am_cK _) 2 (am_obj_in W1.o (am_run (am_cK _) 1 ?_))
      rw [show upd F 0 0 33 = nI (mF M).1 from iv.f.1]
      exact q
    | 6, _, q, _ =>
      refine am_run (am_cK _) 2 (am_obj_in W1.o (am_run (am_cK _) 1 ?_))
      rw [show upd F 0 0 36 = nI (mH M).1 from iv.hr.1]
      exact q
    | 7, _, q, _ =>
      refine am_run (am_cK _) 2 (am_obj_in W1.o (am_run (am_cK _) 1 ?_))
      rw [show upd F 0 0 20 = nI (mU M).length from iv.u.1]
      exact q
    | 8, _, q, _ =>
      refine am_run (am_cK _) 2 (am_obj_in W1.o (am_run (am_cK _) 1 ?_))
      rw [show upd F 0 0 1 = nI (mD M).1 from iv.d.1]
      exact q
    | 9, _, q, _ =>
      refine am_run (am_cK _) 2 (am_obj_in W1.o (am_run (am_cK _) 1 ?_))
      rw [show upd F 0 0 6 = nI (mT M).1 from iv.t.1]
      exact q
theorem Z_sheet (hY : RY h M) (kind n f step : Int32) (hQ : ∀ h', Fy h h' → RY h' (oSheet M kind n f step).2 → Q (some (.int (oSheet M kind n f step).1)) h') : am_call (d + 10) 227 [.ref 152, .int kind, .int n, .int f, .int step] h Q := by
  obtain ⟨F, A, R, W, iv⟩ := hY
  have hs := iv.s.2
  unfold oSheet at hQ
  refine en_X11_sheet (Nat.le_of_ble_eq_true rfl) ?_
  refine am_run (am_cK _) 3 (am_putI W rfl (by decide) (fun h1 W1 => ?_))
  have no : (kind < 0 ∨ 3 < kind ∨ 4 < n) → Q (some (.int (-1))) h1 := fun c => by
    rw [if_pos c] at hQ
    exact hQ h1 W1.y ⟨_, _, _, W1.re, iv⟩
  refine am_run (am_cK _) 5 (M_inN kind 0 3 (by omega) (by omega) (fun k _ hk e => ?_) (fun c => am_run (am_cK _) 1 (⟨fun _ => am_run (am_cK _) 2 (no (c.elim Or.inl (fun z => Or.inr (Or.inl z)))), fun z => absurd rfl z⟩)))
  subst e
  refine am_run (am_cK _) 1 (⟨fun z => absurd z n10, fun _ => ?_⟩)
  refine am_run (am_cK _) 3 (⟨fun c4 => ?_, fun c4 => am_run (am_cK _) 2 (no (Or.inr (Or.inr (Int32.not_le.mp c4))))⟩)
  rw [if_neg (by
    rintro (c | c | c)
    · exact nI_pos (by omega) c
    · exact nI_nlt (a := 3) (b := k) hk (by omega) c
    · exact Int32.not_lt.mpr c4 c)] at hQ
  have go : (k = 3 ∨ ¬ n < 0) → am_wp (am_call (d + 9)) (0, 0) cm_X11_sheet Q (fun _ => False) (36, [some (.ref 152), some (.int (nI k)), some (.int n), some (.int f), some (.int step), none, none, none], [], 0, 0) h1 := fun hg => by
    refine am_run (am_cK _) 4 ?_
    have lp := am_lp (call := am_call (d + 9)) (lim := (0, 0)) (M := cm_X11_sheet) (Q := Q) (X := fun _ => False) (α := (Nat → Int32) × Option Value) (fun q j => (42, [some (.ref 152), some (.int (nI k)), some (.int n), some (.int f), some (.int step), some (.int (f + nI q * step)), some (.int (nI q)), j.2], [], 0, 0)) (fun q j h' => RM h h' (upd F 0 0) (va_up A 154 j.1) R ∧ (∀ x, (x < 55 ∨ 59 ≤ x) → j.1 x = A 154 x) ∧ ∀ c, c < q → j.1 (55 + c) = nI (if k = 3 ∨ n ≤ nI c then 0 else clp 99 (shE (nI k) f step c))) 4 (fun q j h2 hq P K => ?_) (fun j h2 P => ?_) 0 (A 154, none) h1 (Nat.zero_le _) ⟨by rw [va_same rfl]; exact W1, fun _ _ => rfl, fun c hc => by omega⟩
    · have e0 : f + nI 0 * step = f := by rw [show nI 0 = 0 from rfl, Int32.zero_mul, Int32.add_zero]
      simp only at lp
      rw [e0] at lp
      exact lp
    · obtain ⟨g, jv⟩ := j
      obtain ⟨W2, p1, p2⟩ := P
      replace W2 : RM h h2 (upd F 0 0) (va_up A 154 g) R := W2
      replace p1 : ∀ x, (x < 55 ∨ 59 ≤ x) → g x = A 154 x := p1
      replace p2 : ∀ c, c < q → g (55 + c) = nI (if k = 3 ∨ n ≤ nI c then 0 else clp 99 (shE (nI k) f step c)) := p2
      have e3 : nI k = 3 ↔ k = 3 := nI_eq (b := 3) (by omega) (by omega)
      have e1 : nI k = 1 ↔ k = 1 := nI_eq (b := 1) (by omega) (by omega)
      have e0 : nI k = 0 ↔ k = 0 := nI_eq (b := 0) (by omega) (by omega)
      have nx : ∀ (x : Nat) (jv : Option Value) (h3 : am_H), RM h h3 (upd F 0 0) (va_up A 154 (upd g (55 + q) (nI x))) R → x = (if k = 3 ∨ n ≤ nI q then 0 else clp 99 (shE (nI k) f step q)) → am_wp (am_call (d + 9)) (0, 0) cm_X11_sheet Q (fun _ => False) (109, [some (.ref 152), some (.int (nI k)), some (.int n), some (.int f), some (.int step), some (.int (f + nI q * step)), some (.int (nI q)), jv], [], 0, 0) h3 := fun x jv h3 W3 ex => by
        have K2 := K (upd g (55 + q) (nI x), jv) h3 ⟨W3, fun y hy => (upd_n (by omega)).trans (p1 y hy), fun c hc => (by
          by_cases e : c = q
          · subst e; rw [ex]; exact upd_s
          · exact (upd_n (by omega)).trans (p2 c (by omega)))⟩
        rw [← nI_mulS, nI_succ] at K2
        exact am_run (am_cK _) 6 (K2)
      have mid : ∀ its : Int32, its = shE (nI k) f step q → am_wp (am_call (d + 9)) (0, 0) cm_X11_sheet Q (fun _ => False) (77, [some (.ref 152), some (.int (nI k)), some (.int n), some (.int f), some (.int step), some (.int (f + nI q * step)), some (.int (nI q)), some (.int its)], [.ref 154], 0, 0) h2 := fun its hi => by
        refine am_run (am_cK _) 6 (⟨fun c => ?_, fun c => ?_⟩)
        · refine am_run (am_cK _) 3 (am_stI (p := 154) W2 (st_ix q) (show 55 + q < 61 by omega) rfl (fun h3 W3 => ?_))
          rw [am_up_s, va_up2] at W3
          exact nx 0 _ h3 W3 (by rw [if_pos (Or.inl (e3.mp c))])
        · have k3 : ¬ k = 3 := fun z => c (e3.mpr z)
          refine am_run (am_cK _) 3 (⟨fun c2 => ?_, fun c2 => ?_⟩)
          · refine am_run (am_cK _) 4 (J_minI 99 its (am_run (am_cK _) 1 (J_maxI 0 _ ?_)))
            refine am_run (am_cK _) 1 (am_stI (p := 154) W2 (st_ix q) (show 55 + q < 61 by omega) rfl (fun h3 W3 => ?_))
            rw [am_up_s, va_up2, show (if (0 : Int32) < (if its < 99 then its else 99) then (if its < 99 then its else 99) else 0) = nI (clp 99 its) from clp_eq (m := 99) (by omega) its] at W3
            exact nx _ _ h3 W3 (by rw [if_neg (fun z => z.elim k3 (fun w => Int32.not_le.mpr c2 w)), hi])
          · refine am_run (am_cK _) 3 (am_stI (p := 154) W2 (st_ix q) (show 55 + q < 61 by omega) rfl (fun h3 W3 => ?_))
            rw [am_up_s, va_up2] at W3
            exact nx 0 _ h3 W3 (by rw [if_pos (Or.inr (Int32.not_lt.mp c2))])
      refine am_run (am_cK _) 3 (pk_le 4 q (fun c => by omega) (fun _ => ?_))
      refine am_run (am_cK _) 2 (⟨fun c => ?_, fun c => ?_⟩)
      · refine am_run (am_cK _) 3 (⟨fun c1 => ?_, fun c1 => ?_⟩)
        · exact am_run (am_cK _) 4 (am_obj_in W2.o (mid _ (by unfold shE; rw [if_neg c, if_neg c1])))
        · exact am_run (am_cK _) 6 (am_obj_in W2.o (mid _ (by unfold shE; rw [if_neg c, if_pos (Classical.not_not.mp c1)])))
      · exact am_run (am_cK _) 6 (am_obj_in W2.o (mid _ (by unfold shE; rw [if_pos (Classical.not_not.mp c)])))
    · obtain ⟨g, jv⟩ := j
      obtain ⟨W2, p1, p2⟩ := P
      replace W2 : RM h h2 (upd F 0 0) (va_up A 154 g) R := W2
      replace p1 : ∀ x, (x < 55 ∨ 59 ≤ x) → g x = A 154 x := p1
      replace p2 : ∀ c, c < 4 → g (55 + c) = nI (if k = 3 ∨ n ≤ nI c then 0 else clp 99 (shE (nI k) f step c)) := p2
      have e3 : nI k = 3 ↔ k = 3 := nI_eq (b := 3) (by omega) (by omega)
      refine am_run (am_cK _) 3 (pk_le 4 4 (fun _ => ?_) (fun c => by omega))
      have hS : ∀ kk : Nat → Nat, (∀ c, c < 4 → kk c = if k = 3 ∨ n ≤ nI c then 0 else clp 99 (shE (nI k) f step c)) → RSm g (setK (mS M) kk) := fun kk hk => RSm_k iv.s.1 hs (fun c hc => by rw [hk c hc]; exact p2 c hc) p1
      have iv2 : ∀ σ, RSm g σ → Sok σ → RY h2 (pS M σ) := fun σ a b => ⟨_, _, _, W2.re, ⟨a, b⟩, iv.u, iv.k, iv.t, iv.d, iv.f, iv.hr, iv.l⟩
      refine am_run (am_cK _) 3 (⟨fun c => ?_, fun c => ?_⟩)
      · have k3 : ¬ k = 3 := fun z => c (e3.mpr z)
        rw [if_neg (fun z => k3 (e3.mp z)), if_neg (hg.resolve_left k3)] at hQ
        have hkk : ∀ c, c < 4 → (if nI c < n then clp 99 (shE (nI k) f step c) else 0) = (if k = 3 ∨ n ≤ nI c then 0 else clp 99 (shE (nI k) f step c)) := fun c _ => by
          by_cases z : nI c < n
          · rw [if_pos z, if_neg (fun w => w.elim k3 (fun y => Int32.not_le.mpr z y))]
          · rw [if_neg z, if_pos (Or.inr (Int32.not_lt.mp z))]
        refine am_run (am_cK _) 2 (am_obj_in W2.o (am_run (am_cK _) 1 (M_stockOf W2.a154 (k := sK (sSheet (mS M) (nI k) n f step)) (fun c hc => ?_) ?_)))
        · rw [am_up_s]; exact (hS _ hkk).2.2.1 c hc
        · exact am_run (am_cK _) 1 (hQ h2 W2.y (iv2 _ (hS _ hkk) (sSheet_ok hs _ _ _ _)))
      · have k3 : k = 3 := e3.mp (Classical.not_not.mp c)
        rw [if_pos (e3.mpr k3)] at hQ
        refine am_run (am_cK _) 3 (hQ h2 W2.y (iv2 _ (hS _ (fun c hc => ?_)) (sSheet_ok hs _ _ _ _)))
        rw [if_neg (nI_pos (by omega)), if_pos (Or.inl k3)]
  refine am_run (am_cK _) 3 (⟨fun c => go (Or.inl ((nI_eq (b := 3) (by omega) (by omega)).mp c)), fun c => am_run (am_cK _) 2 (⟨fun c2 => go (Or.inr (Int32.not_lt.mpr c2)), fun c2 => ?_⟩)⟩)
  rw [if_neg (show ¬ nI k = 3 from c), if_pos (Int32.not_le.mp c2)] at hQ
  exact am_run (am_cK _) 2 (hQ h1 W1.y ⟨_, _, _, W1.re, iv⟩)
end
