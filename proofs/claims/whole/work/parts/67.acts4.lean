section
variable {d : Nat} {h0 h : am_H} {Q : Option Value → am_H → Prop} {F : Nat → Int32} {A : Nat → Nat → Int32} {R : Nat → Int64} {p : Nat} {g : Nat → Int32} {σ : Sg}
theorem M_joinsOne (W : RM h0 h F (va_up A p g) R) (hp : p = 154 ∨ p = 155) (hS : RSm g σ) (hs : Sok σ) (b o : Int32) (hQ : ∀ h' g', RM h0 h' F (va_up A p g') R → RSm g' (sJoin σ b o).2 → Q (some (.int (sJoin σ b o).1)) h') : am_call (d + 3) 242 [.ref 152, .ref p, .int b, .int o] h Q := by
  have hN := hs.1
  have fin : ∀ a, sJoin σ b o = (a, σ) → Q (some (.int a)) h := fun a e => by
    have q := hQ h g W (by rw [e]; exact hS)
    rw [e] at q
    exact q
  have bad : (b < 0 ∨ nI (sN σ) ≤ b ∨ o < 0 ∨ nI (sN σ) ≤ o ∨ b = o) → sJoin σ b o = (-1, σ) := fun w => by unfold sJoin; rw [if_pos w]
  refine en_X11_joinsOne (Nat.le_of_ble_eq_true rfl) ?_
  refine am_run (am_cK _) 3 (M_isOf (W.pp hp) hS.1 hN b (fun j hj e => ?_) (fun z => ?_))
  · subst e
    have hz := hs.2.1 j hj
    have hr := hS.2.2.2 j hj
    refine am_run (am_cK _) 1 (⟨fun z => absurd z n10, fun _ => ?_⟩)
    refine am_run (am_cK _) 3 (M_isOf (W.pp hp) hS.1 hN o (fun k hk e => ?_) (fun z => ?_))
    · subst e
      have hz2 := hs.2.1 k hk
      have hr2 := hS.2.2.2 k hk
      refine am_run (am_cK _) 1 (⟨fun z => absurd z n10, fun _ => ?_⟩)
      refine am_run (am_cK _) 3 (⟨fun z => ?_, fun z => ?_⟩)
      · have hne : j ≠ k := fun w => z (congrArg nI w)
        have esp := sJoin_at hs hj hk hne
        refine am_run (am_cK _) 3 (am_ld (W.pp hp) j (by omega) ?_)
        rw [nI_clamp (by omega), hr.1]
        refine am_run (am_cK _) 3 (am_ld (W.pp hp) k (by omega) ?_)
        rw [nI_clamp (by omega), hr2.1]
        refine am_run (am_cK _) 5 (pk_le (sZ σ j + sZ σ k) 10 (fun c => ?_) (fun c => ?_) (hx := nI_add _ _))
        · rw [if_neg (by omega)] at esp
          rw [esp] at hQ
          refine am_run (am_cK _) 3 (am_ld (W.pp hp) j (by omega) ?_)
          rw [nI_clamp (by omega), hr.1, nI_add]
          refine am_run (am_cK _) 1 ?_
          have lp := am_lp (call := am_call (d + 2)) (lim := (0, 0)) (M := cm_X11_joinsOne) (Q := Q) (X := fun _ => False) (α := Nat → Int32) (fun q _ => (47, [some (.ref 152), some (.ref p), some (.int (nI j)), some (.int (nI k)), some (.int (nI (sZ σ j + sZ σ k))), some (.int (nI (sZ σ j + q)))], [], 0, 0)) (fun q g1 h' => RM h0 h' F (va_up A p g1) R ∧ (∀ z, (z < 5 + 10 * j + sZ σ j ∨ 15 + 10 * j ≤ z) → g1 z = g z) ∧ ∀ z, z < q → g1 (5 + 10 * j + (sZ σ j + z)) = nI (sB σ k z)) (sZ σ k) (fun q g1 h1 hq P K => ?_) (fun g1 h1 P => ?_) 0 g h (Nat.zero_le _) ⟨W, fun _ _ => rfl, fun z hz => by omega⟩
          · exact lp
          · obtain ⟨W1, p1, p2⟩ := P
            refine am_run (am_cK _) 3 (pk_le (sZ σ j + sZ σ k) (sZ σ j + q) (fun z => by omega) (fun _ => ?_))
            refine am_run (am_cK _) 9 (am_ld (W1.pp hp) j (by omega) ?_)
            rw [nI_clamp (by omega), p1 j (by omega), hr.1]
            refine am_run (am_cK _) 2 ?_
            refine show am_call (d + 2) 184 [.ref p, .int (nI k), .int (nI (sZ σ j + q) - nI (sZ σ j))] h1 _ from ?_
            rw [show nI (sZ σ j + q) - nI (sZ σ j) = nI q by rw [pk_sub (by omega), show sZ σ j + q - sZ σ j = q by omega]]
            have e2 : g1 (5 + 10 * k + q) = nI (sB σ k q) := (p1 _ (by omega)).trans (hr2.2 q hq)
            refine M_beadAt (W1.pp hp) (by omega) (by omega) e2 ?_
            refine am_run (am_cK _) 1 (M_laysBead W1 hp (by omega) (by omega) _ (fun h2 W2 => ?_))
            have K2 := K _ h2 ⟨W2, fun z hz => (upd_n (by omega)).trans (p1 z hz), fun z hz => (by
              by_cases ez : z = q
              · subst ez; exact upd_s
              · exact (upd_n (by omega)).trans (p2 z (by omega)))⟩
            rw [← Nat.add_assoc, nI_succ] at K2
            exact am_run (am_cK _) 2 (K2)
          · obtain ⟨W1, p1, p2⟩ := P
            refine am_run (am_cK _) 3 (pk_le (sZ σ j + sZ σ k) (sZ σ j + sZ σ k) (fun _ => ?_) (fun z => by omega))
            refine am_run (am_cK _) 4 (am_stG W1 hp (j := j) rfl (by omega) (fun h2 W2 => ?_))
            have hS2 : RSm (upd g1 j (nI (sZ σ j + sZ σ k))) (setB σ j (sZ σ j + sZ σ k) (app (sB σ j) (sZ σ j) (sB σ k))) := by
              refine RSm_row hS hs hj upd_s (fun z hz => ?_) (fun z hz1 hz2 => ?_)
              · rw [upd_n (by omega)]
                unfold app
                by_cases c1 : z < sZ σ j
                · rw [if_pos c1, p1 _ (by omega)]; exact hr.2 z c1
                · rw [if_neg c1]
                  have e3 := p2 (z - sZ σ j) (by omega)
                  rw [show sZ σ j + (z - sZ σ j) = z by omega] at e3
                  exact e3
              · rw [upd_n hz1]; exact p1 z (by omega)
            refine am_run (am_cK _) 3 (M_goes W2 hp hS2 (setB_ok hs (by omega) c (app_lt hz.2.2 hz2.2.2)) hk (fun h3 g3 W3 hS3 => ?_))
            exact am_run (am_cK _) 2 (hQ h3 g3 W3 hS3)
        · rw [if_pos c] at esp
          exact am_run (am_cK _) 2 (fin _ esp)
      · exact am_run (am_cK _) 2 (fin _ (bad (Or.inr (Or.inr (Or.inr (Or.inr (Classical.not_not.mp z)))))))
    · exact am_run (am_cK _) 1 (⟨fun _ => am_run (am_cK _) 2 (fin _ (bad (z.elim (fun w => Or.inr (Or.inr (Or.inl w))) (fun w => Or.inr (Or.inr (Or.inr (Or.inl w))))))), fun w => absurd rfl w⟩)
  · exact am_run (am_cK _) 1 (⟨fun _ => am_run (am_cK _) 2 (fin _ (bad (z.elim Or.inl (fun w => Or.inr (Or.inl w))))), fun w => absurd rfl w⟩)
theorem M_partsOne (W : RM h0 h F (va_up A p g) R) (hp : p = 154 ∨ p = 155) (hS : RSm g σ) (hs : Sok σ) (b : Int32) (hQ : ∀ h' g', RM h0 h' F (va_up A p g') R → RSm g' (sPart σ b).2 → Q (some (.int (sPart σ b).1)) h') : am_call (d + 3) 243 [.ref 152, .ref p, .int b] h Q := by
  have hN := hs.1
  refine en_X11_partsOne (Nat.le_of_ble_eq_true rfl) ?_
  refine am_run (am_cK _) 3 (M_isOf (W.pp hp) hS.1 hN b (fun j hj e => ?_) (fun z => ?_))
  · subst e
    have hz := hs.2.1 j hj
    have hr := hS.2.2.2 j hj
    have esp := sPart_at hs hj
    rw [esp] at hQ
    refine am_run (am_cK _) 1 (⟨fun _ => ?_, fun z => absurd n10 z⟩)
    refine am_run (am_cK _) 3 (am_ld (W.pp hp) j (by omega) ?_)
    rw [nI_clamp (by omega), hr.1]
    refine am_run (am_cK _) 3 ?_
    refine am_lp (α := Nat → Int32) (fun q _ => (17, [some (.ref 152), some (.ref p), some (.int (nI j)), some (.int (nI (sZ σ j))), some (.int (nI q))], [], 0, 0)) (fun q g1 h' => RM h0 h' F (va_up A p g1) R ∧ (∀ z, (z < 55 ∨ 59 ≤ z) → g1 z = g z) ∧ ∀ c, c < 4 → g1 (55 + c) = nI (Nat.min 99 (sK σ c + cnt (fun i => sB σ j i == c) q))) (sZ σ j) (fun q g1 h1 hq P K => ?_) (fun g1 h1 P => ?_) 0 g h (Nat.zero_le _) ⟨W, fun _ _ => rfl, fun c hc => ?_⟩
    · obtain ⟨W1, p1, p2⟩ := P
      have hc4 := hz.2.2 q hq
      refine am_run (am_cK _) 3 (pk_le (sZ σ j) q (fun z => by omega) (fun _ => ?_))
      refine am_run (am_cK _) 5 (M_beadAt (W1.pp hp) (by omega) (by omega) ((p1 _ (by omega)).trans (hr.2 q hq)) ?_)
      refine am_run (am_cK _) 1 (M_stores W1 hp hc4 (p2 _ hc4) (Nat.min_le_left _ _) (fun h2 W2 => ?_))
      have K2 := K _ h2 ⟨W2, fun z hz => (upd_n (by omega)).trans (p1 z hz), fun c hc => (by
        rw [cnt]
        by_cases ec : c = sB σ j q
        · subst ec
          rw [upd_s, if_pos (by simp)]
          congr 1
          generalize cnt (fun i => sB σ j i == sB σ j q) q = z
          show min 99 (min 99 (sK σ (sB σ j q) + z) + 1) = min 99 (sK σ (sB σ j q) + (z + 1))
          omega
        · rw [upd_n (by omega), if_neg (by rw [beq_iff_eq]; exact fun w => ec w.symm), Nat.add_zero]
          exact p2 c hc)⟩
      rw [nI_succ] at K2
      exact am_run (am_cK _) 2 (K2)
    · obtain ⟨W1, p1, p2⟩ := P
      refine am_run (am_cK _) 3 (pk_le (sZ σ j) (sZ σ j) (fun _ => ?_) (fun z => by omega))
      have hS2 : RSm g1 (setK σ (fun c => if c < 4 then Nat.min 99 (sK σ c + num (sB σ j) (sZ σ j) c) else sK σ c)) := RSm_k hS hs (fun c hc => by rw [if_pos hc]; exact p2 c hc) p1
      refine am_run (am_cK _) 3 (M_goes W1 hp hS2 (setK_ok hs (fun c hc => by rw [if_pos hc]; exact Nat.min_le_left _ _)) hj (fun h3 g3 W3 hS3 => ?_))
      exact am_run (am_cK _) 2 (hQ h3 g3 W3 hS3)
    · show g (55 + c) = nI (Nat.min 99 (sK σ c + 0))
      rw [Nat.add_zero, show Nat.min 99 (sK σ c) = sK σ c from Nat.min_eq_right (hs.2.2.1 c hc)]
      exact hS.2.2.1 c hc
  · have e : sPart σ b = (-1, σ) := by unfold sPart; rw [if_pos z]
    rw [e] at hQ
    exact am_run (am_cK _) 1 (⟨fun w => absurd rfl w, fun _ => am_run (am_cK _) 2 (hQ h g W hS)⟩)
theorem M_buysOne (W : RM h0 h F (va_up A p g) R) (hp : p = 154 ∨ p = 155) (hS : RSm g σ) (hs : Sok σ) (c n : Int32) (hQ : ∀ h' g', RM h0 h' F (va_up A p g') R → RSm g' (sBuy σ c n).2 → Q (some (.int (sBuy σ c n).1)) h') : am_call (d + 2) 245 [.ref 152, .ref p, .int c, .int n] h Q := by
  have hN := hs.1
  have fin : ∀ a, sBuy σ c n = (a, σ) → Q (some (.int a)) h := fun a e => by
    have q := hQ h g W (by rw [e]; exact hS)
    rw [e] at q
    exact q
  have bad : (c < 0 ∨ 4 ≤ c ∨ n < 1 ∨ 9 < n) → sBuy σ c n = (-1, σ) := fun w => by unfold sBuy; rw [if_pos w]
  refine en_X11_buysOne (Nat.le_of_ble_eq_true rfl) ?_
  refine am_run (am_cK _) 5 (M_inN c 0 3 (by omega) (by omega) (fun y _ hy e => ?_) (fun z => ?_))
  · subst e
    refine am_run (am_cK _) 1 (⟨fun z => absurd z n10, fun _ => ?_⟩)
    refine am_run (am_cK _) 5 (M_inN n 1 9 (by omega) (by omega) (fun m m1 m9 e => ?_) (fun z => ?_))
    · subst e
      have hk := hs.2.2.1 y (by omega)
      have hP := hs.2.2.2
      have hky := hS.2.2.1 y (by omega)
      have esp := sBuy_at (σ := σ) (show y < 4 by omega) m1 m9
      refine am_run (am_cK _) 1 (⟨fun _ => ?_, fun z => absurd n10 z⟩)
      refine am_run (am_cK _) 3 (am_ld (W.pp hp) 59 (by omega) ?_)
      rw [pk_cl (x := 59) 59, hS.2.1]
      refine am_run (am_cK _) 2 (pk_le m (sP σ) (fun c1 => ?_) (fun c1 => ?_))
      · rw [if_neg (by omega)] at esp
        refine am_run (am_cK _) 5 (am_ld (W.pp hp) (55 + y) (by omega) ?_ (st_ix y))
        rw [st_ix, nI_clamp (by omega), hky]
        refine am_run (am_cK _) 4 (pk_le (sK σ y + m) 99 (fun c2 => ?_) (fun c2 => ?_) (hx := nI_add _ _))
        · rw [if_neg (by omega)] at esp
          rw [esp] at hQ
          refine am_run (am_cK _) 4 (am_ld (W.pp hp) 59 (by omega) ?_)
          rw [pk_cl (x := 59) 59, hS.2.1]
          refine am_run (am_cK _) 3 (am_stG W hp (j := 59) rfl (by omega) (fun h1 W1 => ?_))
          rw [pk_sub c1] at W1
          refine am_run (am_cK _) 6 (am_ld (W1.pp hp) (55 + y) (by omega) ?_ (st_ix y))
          rw [st_ix, nI_clamp (by omega), upd_n (by omega), hky]
          refine am_run (am_cK _) 3 (am_stG W1 hp rfl (by omega) (fun h2 W2 => ?_))
          rw [nI_add] at W2
          refine am_run (am_cK _) 5 (am_ld (W2.pp hp) (55 + y) (by omega) ?_ (st_ix y))
          rw [st_ix, nI_clamp (by omega), upd_s]
          refine am_run (am_cK _) 1 (hQ h2 _ W2 ⟨?_, ?_, fun c hc => ?_, fun b hb => ?_⟩)
          · exact (upd_n (by omega)).trans ((upd_n (by omega)).trans hS.1)
          · exact (upd_n (by omega)).trans upd_s
          · show _ = nI (va_up (sK σ) y (sK σ y + m) c)
            by_cases ec : c = y
            · subst ec; rw [am_up_s, upd_s]
            · rw [am_up_n ec, upd_n (by omega), upd_n (by omega)]; exact hS.2.2.1 c hc
          · have hb5 : b < sN σ := hb
            have hz := hs.2.1 b hb
            have hr := hS.2.2.2 b hb
            exact ⟨(upd_n (by omega)).trans ((upd_n (by omega)).trans hr.1), fun i hi => (upd_n (by have h9 : i < sZ σ b := hi; omega)).trans ((upd_n (by have h9 : i < sZ σ b := hi; omega)).trans (hr.2 i hi))⟩
        · rw [if_pos c2] at esp
          exact am_run (am_cK _) 2 (fin _ esp)
      · rw [if_pos c1] at esp
        exact am_run (am_cK _) 2 (fin _ esp)
    · exact am_run (am_cK _) 1 (⟨fun w => absurd rfl w, fun _ => am_run (am_cK _) 2 (fin _ (bad (z.elim (fun w => Or.inr (Or.inr (Or.inl w))) (fun w => Or.inr (Or.inr (Or.inr w))))))⟩)
  · refine am_run (am_cK _) 1 (⟨fun _ => am_run (am_cK _) 2 (fin _ (bad ?_)), fun w => absurd rfl w⟩)
    rcases z with z | z
    · exact Or.inl z
    · refine Or.inr (Or.inl (Int32.not_lt.mp (fun w => ?_)))
      have hc0 : ¬ c < 0 := fun q => absurd (Int32.lt_trans z q) (by decide)
      obtain ⟨y, hy, rfl⟩ := nI_of hc0
      have y1 := (nI_ltI (a := 3) (by omega) hy).mp z
      have y2 := (nI_ltI (b := 4) hy (by omega)).mp w
      omega
end
