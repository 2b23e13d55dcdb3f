section
variable {d : Nat} {h0 h : am_H} {Q : Option Value → am_H → Prop} {F : Nat → Int32} {A : Nat → Nat → Int32} {R : Nat → Int64} {p : Nat} {g : Nat → Int32} {σ : Sg}
theorem M_threadsOne (W : RM h0 h F (va_up A p g) R) (hp : p = 154 ∨ p = 155) (hS : RSm g σ) (hs : Sok σ) (b i c : Int32) (hQ : ∀ h' g', RM h0 h' F (va_up A p g') R → RSm g' (sThread σ b i c).2 → Q (some (.int (sThread σ b i c).1)) h') : am_call (d + 3) 238 [.ref 152, .ref p, .int b, .int i, .int c] h Q := by
  have hN := hs.1
  have fin : ∀ a, sThread σ b i c = (a, σ) → Q (some (.int a)) h := fun a e => by
    have q := hQ h g W (by rw [e]; exact hS)
    rw [e] at q
    exact q
  refine en_X11_threadsOne (Nat.le_of_ble_eq_true rfl) ?_
  refine am_run (am_cK _) 3 (M_isOf (W.pp hp) hS.1 hN b (fun j hj e => ?_) (fun z => ?_))
  · subst e
    have hz := hs.2.1 j hj
    have hr := hS.2.2.2 j hj
    have bad : (i < 0 ∨ nI (sZ σ j) < i ∨ c < 0 ∨ 4 ≤ c) → sThread σ (nI j) i c = (-1, σ) := fun z => by
      unfold sThread
      rw [if_neg (S_no hs hj), nI_clamp (by omega)]
      simp only
      rw [if_pos z]
    refine am_run (am_cK _) 1 (⟨fun z => absurd z n10, fun _ => ?_⟩)
    refine am_run (am_cK _) 6 (am_ld (W.pp hp) j (by omega) ?_)
    rw [nI_clamp (by omega), hr.1]
    refine am_run (am_cK _) 2 (M_inN i 0 (sZ σ j) (by omega) (by omega) (fun x _ hx e => ?_) (fun z => ?_))
    · subst e
      refine am_run (am_cK _) 1 (⟨fun z => absurd z n10, fun _ => ?_⟩)
      refine am_run (am_cK _) 5 (M_inN c 0 3 (by omega) (by omega) (fun y _ hy e => ?_) (fun z => ?_))
      · subst e
        have hk := hs.2.2.1 y (by omega)
        have hky := hS.2.2.1 y (by omega)
        have esp := sThread_at hs hj hx (show y < 4 by omega)
        refine am_run (am_cK _) 1 (⟨fun _ => ?_, fun z => absurd n10 z⟩)
        refine am_run (am_cK _) 3 (am_ld (W.pp hp) j (by omega) ?_)
        rw [nI_clamp (by omega), hr.1]
        refine am_run (am_cK _) 2 (⟨fun z => ?_, fun z => ?_⟩)
        · have h10 : ¬ 10 ≤ sZ σ j := fun w => z (congrArg nI (show sZ σ j = 10 by omega))
          rw [if_neg h10] at esp
          refine am_run (am_cK _) 5 (am_ld (W.pp hp) (55 + y) (by omega) ?_ (st_ix y))
          rw [st_ix, nI_clamp (by omega), hky]
          refine am_run (am_cK _) 1 (⟨fun z => ?_, fun z => ?_⟩)
          · have hk0 : ¬ sK σ y = 0 := fun w => z (by rw [w]; rfl)
            rw [if_neg hk0] at esp
            rw [esp] at hQ
            refine am_run (am_cK _) 3 (am_ld (W.pp hp) j (by omega) ?_)
            rw [nI_clamp (by omega), hr.1]
            refine am_run (am_cK _) 1 ?_
            have lp := am_lp (call := am_call (d + 2)) (lim := (0, 0)) (M := cm_X11_threadsOne) (Q := Q) (X := fun _ => False) (α := Nat → Int32) (fun q _ => (65, [some (.ref 152), some (.ref p), some (.int (nI j)), some (.int (nI x)), some (.int (nI y)), some (.int (nI (sZ σ j - q)))], [], 0, 0)) (fun q g1 h' => RM h0 h' F (va_up A p g1) R ∧ (∀ z, (z < 5 + 10 * j ∨ 15 + 10 * j ≤ z) → g1 z = g z) ∧ ∀ z, z ≤ sZ σ j → g1 (5 + 10 * j + z) = if sZ σ j - q < z then g (5 + 10 * j + (z - 1)) else g (5 + 10 * j + z)) (sZ σ j - x) (fun q g1 h1 hq P K => ?_) (fun g1 h1 P => ?_) 0 g h (Nat.zero_le _) ⟨W, fun _ _ => rfl, fun z hz => by rw [if_neg (by omega)]⟩
            · exact lp
            · obtain ⟨W1, p1, p2⟩ := P
              refine am_run (am_cK _) 3 (pk_le (sZ σ j - q) x (fun z => by omega) (fun _ => ?_))
              have e1 : nI (sZ σ j - q) - 1 = nI (sZ σ j - q - 1) := pk_sub (a := sZ σ j - q) (b := 1) (by omega)
              refine am_run (am_cK _) 9 ?_
              refine show am_call (d + 2) 184 [.ref p, .int (nI j), .int (nI (sZ σ j - q) - 1)] h1 _ from ?_
              rw [e1]
              have e2 := p2 (sZ σ j - q - 1) (by omega)
              rw [if_neg (by omega)] at e2
              refine M_beadAt (W1.pp hp) (by omega) (by omega) e2 ?_
              refine am_run (am_cK _) 1 (M_laysBead W1 hp (by omega) (by omega) _ (fun h2 W2 => ?_))
              have K2 := K _ h2 ⟨W2, fun z hz => (upd_n (by omega)).trans (p1 z hz), fun z hz => (by
                by_cases ez : z = sZ σ j - q
                · subst ez; rw [upd_s, if_pos (by omega)]
                · rw [upd_n (by omega), p2 z hz]
                  by_cases c2 : sZ σ j - q < z
                  · rw [if_pos c2, if_pos (by omega)]
                  · rw [if_neg c2, if_neg (by omega)])⟩
              have e3 : nI (sZ σ j - q) + (-1) = nI (sZ σ j - (q + 1)) := by
                have := pk_m1 (sZ σ j - (q + 1))
                rw [show sZ σ j - (q + 1) + 1 = sZ σ j - q by omega] at this
                exact this
              rw [← e3] at K2
              exact am_run (am_cK _) 2 (K2)
            · obtain ⟨W1, p1, p2⟩ := P
              rw [show sZ σ j - (sZ σ j - x) = x by omega] at p2
              rw [show sZ σ j - (sZ σ j - x) = x by omega]
              refine am_run (am_cK _) 3 (pk_le x x (fun _ => ?_) (fun z => by omega))
              refine am_run (am_cK _) 5 (M_laysBead W1 hp (by omega) (by omega) _ (fun h2 W2 => ?_))
              have e4 : upd g1 (5 + 10 * j + x) (nI y) (55 + y) = nI (sK σ y) := (upd_n (by omega)).trans ((p1 _ (by omega)).trans hky)
              refine am_run (am_cK _) 6 (am_ld (W2.pp hp) (55 + y) (by omega) ?_ (st_ix y))
              rw [st_ix, nI_clamp (by omega), e4]
              refine am_run (am_cK _) 3 (am_stG W2 hp rfl (by omega) (fun h3 W3 => ?_))
              rw [show nI (sK σ y) - 1 = nI (sK σ y - 1) from pk_sub (a := sK σ y) (b := 1) (by omega)] at W3
              have e5 : upd (upd g1 (5 + 10 * j + x) (nI y)) (55 + y) (nI (sK σ y - 1)) j = nI (sZ σ j) := (upd_n (by omega)).trans ((upd_n (by omega)).trans ((p1 _ (by omega)).trans hr.1))
              refine am_run (am_cK _) 4 (am_ld (W3.pp hp) j (by omega) ?_)
              rw [nI_clamp (by omega), e5]
              refine am_run (am_cK _) 3 (am_stG W3 hp (j := j) rfl (by omega) (fun h4 W4 => ?_))
              rw [nI_1] at W4
              refine am_run (am_cK _) 3 (am_ld (W4.pp hp) j (by omega) ?_)
              rw [nI_clamp (by omega), upd_s]
              refine am_run (am_cK _) 1 (hQ h4 _ W4 ?_)
              refine RSm_k (g := upd (upd g1 (5 + 10 * j + x) (nI y)) j (nI (sZ σ j + 1))) (RSm_row hS hs hj upd_s (fun z hz => ?_) (fun z hz1 hz2 => ?_)) (setB_ok hs (by omega) (by omega) (ins_lt hx (by omega) hz.2.2)) (fun c hc => ?_) (fun z hz => ?_)
              · rw [upd_n (by omega)]
                unfold ins
                by_cases c1 : z < x
                · rw [if_pos c1, upd_n (by omega), p2 z (by omega), if_neg (by omega)]; exact hr.2 z (by omega)
                · rw [if_neg c1]
                  by_cases c2 : z = x
                  · subst c2; rw [if_pos rfl, upd_s]
                  · rw [if_neg c2, upd_n (by omega), p2 z (by omega), if_pos (by omega)]; exact hr.2 (z - 1) (by omega)
              · rw [upd_n hz1, upd_n (by omega)]; exact p1 z (by omega)
              · by_cases ec : c = y
                · subst ec; rw [am_up_s, upd_n (by omega), upd_s]
                · rw [am_up_n ec, upd_n (by omega), upd_n (by omega), upd_n (by omega), p1 _ (by omega)]; exact hS.2.2.1 c hc
              · by_cases ez : z = j
                · subst ez; rw [upd_s, upd_s]
                · rw [upd_n ez, upd_n (by omega), upd_n ez]
          · have hk0 : sK σ y = 0 := (nI_eq (b := 0) (by omega) (by omega)).mp (Classical.not_not.mp z)
            rw [if_pos hk0] at esp
            exact am_run (am_cK _) 2 (fin _ esp)
        · have h10 : sZ σ j = 10 := (nI_eq (b := 10) (by omega) (by omega)).mp (Classical.not_not.mp z)
          rw [if_pos (by omega)] at esp
          exact am_run (am_cK _) 2 (fin _ esp)
      · refine am_run (am_cK _) 1 (⟨fun w => absurd rfl w, fun _ => am_run (am_cK _) 2 (fin _ (bad ?_))⟩)
        rcases z with z | z
        · exact Or.inr (Or.inr (Or.inl z))
        · refine Or.inr (Or.inr (Or.inr (Int32.not_lt.mp (fun w => ?_))))
          have hc0 : ¬ c < 0 := fun q => absurd (Int32.lt_trans z q) (by decide)
          obtain ⟨y, hy, rfl⟩ := nI_of hc0
          have y1 := (nI_ltI (a := 3) (by omega) hy).mp z
          have y2 := (nI_ltI (b := 4) hy (by omega)).mp w
          omega
    · refine am_run (am_cK _) 1 (⟨fun _ => am_run (am_cK _) 2 (fin _ (bad ?_)), fun w => absurd rfl w⟩)
      rcases z with z | z
      · exact Or.inl z
      · exact Or.inr (Or.inl z)
  · refine am_run (am_cK _) 1 (⟨fun _ => am_run (am_cK _) 2 (fin _ ?_), fun w => absurd rfl w⟩)
    unfold sThread
    rw [if_pos z]
theorem M_cutsOne (W : RM h0 h F (va_up A p g) R) (hp : p = 154 ∨ p = 155) (hS : RSm g σ) (hs : Sok σ) (b i : Int32) (hQ : ∀ h' g', RM h0 h' F (va_up A p g') R → RSm g' (sCut σ b i).2 → Q (some (.int (sCut σ b i).1)) h') : am_call (d + 3) 240 [.ref 152, .ref p, .int b, .int i] h Q := by
  have hN := hs.1
  have fin : ∀ a, sCut σ b i = (a, σ) → Q (some (.int a)) h := fun a e => by
    have q := hQ h g W (by rw [e]; exact hS)
    rw [e] at q
    exact q
  refine en_X11_cutsOne (Nat.le_of_ble_eq_true rfl) ?_
  refine am_run (am_cK _) 3 (M_isOf (W.pp hp) hS.1 hN b (fun j hj e => ?_) (fun z => ?_))
  · subst e
    have hz := hs.2.1 j hj
    have hr := hS.2.2.2 j hj
    refine am_run (am_cK _) 1 (⟨fun z => absurd z n10, fun _ => ?_⟩)
    refine am_run (am_cK _) 6 (am_ld (W.pp hp) j (by omega) ?_)
    rw [nI_clamp (by omega), hr.1]
    refine am_run (am_cK _) 4 (M_inZ i (sZ σ j) (by omega) (fun x hx e => ?_) (fun z => ?_))
    · subst e
      have hc4 := hz.2.2 x hx
      have esp := sCut_at hs hj hx
      refine am_run (am_cK _) 1 (⟨fun _ => ?_, fun z => absurd n10 z⟩)
      refine am_run (am_cK _) 3 (am_ld (W.pp hp) j (by omega) ?_)
      rw [nI_clamp (by omega), hr.1]
      refine am_run (am_cK _) 2 (⟨fun z => ?_, fun z => ?_⟩)
      · have h1 : ¬ sZ σ j = 1 := fun w => z (congrArg nI w)
        rw [if_neg h1] at esp
        rw [esp] at hQ
        refine am_run (am_cK _) 4 (M_beadAt (W.pp hp) (by omega) (by omega) (hr.2 x hx) ?_)
        refine am_run (am_cK _) 5 ?_
        have lp := am_lp (call := am_call (d + 2)) (lim := (0, 0)) (M := cm_X11_cutsOne) (Q := Q) (X := fun _ => False) (α := Nat → Int32) (fun q _ => (48, [some (.ref 152), some (.ref p), some (.int (nI j)), some (.int (nI x)), some (.int (nI (sB σ j x))), some (.int (nI (x + 1 + q)))], [], 0, 0)) (fun q g1 h' => RM h0 h' F (va_up A p g1) R ∧ (∀ z, (z < 5 + 10 * j ∨ 15 + 10 * j ≤ z) → g1 z = g z) ∧ ∀ z, z < sZ σ j → g1 (5 + 10 * j + z) = if x ≤ z ∧ z < x + q then g (5 + 10 * j + (z + 1)) else g (5 + 10 * j + z)) (sZ σ j - 1 - x) (fun q g1 h1 hq P K => ?_) (fun g1 h1 P => ?_) 0 g h (Nat.zero_le _) ⟨W, fun _ _ => rfl, fun z hz => by rw [if_neg (by omega)]⟩
        · rw [Nat.add_zero, nI_succ] at lp
          exact lp
        · obtain ⟨W1, p1, p2⟩ := P
          refine am_run (am_cK _) 4 (am_ld (W1.pp hp) j (by omega) ?_)
          rw [nI_clamp (by omega), p1 j (by omega), hr.1]
          refine am_run (am_cK _) 1 (pk_le (sZ σ j) (x + 1 + q) (fun z => by omega) (fun _ => ?_))
          have e1 : nI (x + 1 + q) - 1 = nI (x + q) := by
            have := nI_pred (x + q)
            rw [show x + q + 1 = x + 1 + q by omega] at this
            exact this
          have e2 := p2 (x + 1 + q) (by omega)
          rw [if_neg (by omega)] at e2
          refine am_run (am_cK _) 9 (M_beadAt (W1.pp hp) (by omega) (by omega) e2 ?_)
          refine am_run (am_cK _) 1 ?_
          rw [e1]
          refine M_laysBead W1 hp (by omega) (by omega) _ (fun h2 W2 => ?_)
          have K2 := K _ h2 ⟨W2, fun z hz => (upd_n (by omega)).trans (p1 z hz), fun z hz => (by
            by_cases ez : z = x + q
            · subst ez; rw [upd_s, if_pos (by omega), show x + 1 + q = x + q + 1 by omega]
            · rw [upd_n (by omega), p2 z hz]
              by_cases c2 : x ≤ z ∧ z < x + q
              · rw [if_pos c2, if_pos (by omega)]
              · rw [if_neg c2, if_neg (by omega)])⟩
          rw [← Nat.add_assoc, nI_succ] at K2
          exact am_run (am_cK _) 2 (K2)
        · obtain ⟨W1, p1, p2⟩ := P
          refine am_run (am_cK _) 4 (am_ld (W1.pp hp) j (by omega) ?_)
          rw [nI_clamp (by omega), p1 j (by omega), hr.1]
          refine am_run (am_cK _) 1 (pk_le (sZ σ j) (x + 1 + (sZ σ j - 1 - x)) (fun _ => ?_) (fun z => by omega))
          refine am_run (am_cK _) 4 (am_ld (W1.pp hp) j (by omega) ?_)
          rw [nI_clamp (by omega), p1 j (by omega), hr.1]
          refine am_run (am_cK _) 3 (am_stG W1 hp (j := j) rfl (by omega) (fun h2 W2 => ?_))
          rw [show nI (sZ σ j) - 1 = nI (sZ σ j - 1) from pk_sub (a := sZ σ j) (b := 1) (by omega)] at W2
          have hk := hs.2.2.1 _ hc4
          refine am_run (am_cK _) 3 (M_stores W2 hp hc4 ((upd_n (by omega)).trans ((p1 _ (by omega)).trans (hS.2.2.1 _ hc4))) hk (fun h3 W3 => ?_))
          refine am_run (am_cK _) 2 (hQ h3 _ W3 ?_)
          refine RSm_k (RSm_row (g' := upd g1 j (nI (sZ σ j - 1))) hS hs hj upd_s (fun z hz => ?_) (fun z hz1 hz2 => ?_)) (setB_ok hs (by omega) (by omega) (del_lt hx hz.2.2)) (fun c hc => ?_) (fun z hz => upd_n (by omega))
          · rw [upd_n (by omega), p2 z (by omega)]
            unfold del
            by_cases c1 : z < x
            · rw [if_pos c1, if_neg (by omega)]; exact hr.2 z (by omega)
            · rw [if_neg c1, if_pos (by omega)]; exact hr.2 (z + 1) (by omega)
          · rw [upd_n hz1]; exact p1 z (by omega)
          · by_cases ec : c = sB σ j x
            · rw [ec, am_up_s, upd_s]
            · rw [am_up_n ec, upd_n (by omega), upd_n (by omega), p1 _ (by omega)]; exact hS.2.2.1 c hc
      · have h1 : sZ σ j = 1 := (nI_eq (b := 1) (by omega) (by omega)).mp (Classical.not_not.mp z)
        rw [if_pos h1] at esp
        exact am_run (am_cK _) 2 (fin _ esp)
    · refine am_run (am_cK _) 1 (⟨fun w => absurd rfl w, fun _ => am_run (am_cK _) 2 (fin _ ?_)⟩)
      unfold sCut
      rw [if_neg (S_no hs hj), nI_clamp (by omega)]
      simp only
      rw [if_pos z]
  · refine am_run (am_cK _) 1 (⟨fun _ => am_run (am_cK _) 2 (fin _ ?_), fun w => absurd rfl w⟩)
    unfold sCut
    rw [if_pos z]
end
