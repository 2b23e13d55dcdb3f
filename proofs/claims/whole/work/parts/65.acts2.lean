section
variable {d : Nat} {h0 h : am_H} {Q : Option Value → am_H → Prop} {F : Nat → Int32} {A : Nat → Nat → Int32} {R : Nat → Int64} {p : Nat} {g : Nat → Int32} {σ : Sg}
theorem M_turnsOne (W : RM h0 h F (va_up A p g) R) (hp : p = 154 ∨ p = 155) {b n t : Nat} {f : Nat → Nat} (hb : b < 5) (hn0 : 0 < n) (hn : n ≤ 10) (hz : g b = nI n) (hf : ∀ i, i < n → g (5 + 10 * b + i) = nI (f i)) (ht : t < 2 * n) (hQ : ∀ h' s g', RM h0 h' F (va_up (va_up A 164 s) p g') R → (∀ x, (x < 5 + 10 * b ∨ 5 + 10 * b + n ≤ x) → g' x = g x) → (∀ i, i < n → g' (5 + 10 * b + i) = nI (trn f n t i)) → Q none h') : am_call (d + 2) 234 [.ref 152, .ref p, .int (nI b), .int (nI t)] h Q := by
  have hp4 : (164 : Nat) ≠ p := by omega
  refine en_X11_turnsOne (Nat.le_of_ble_eq_true rfl) ?_
  refine am_run (am_cK _) 3 (am_ld (W.pp hp) b (by omega) ?_)
  rw [nI_clamp (by omega), hz]
  refine am_run (am_cK _) 3 ?_
  refine am_lp (α := Nat → Int32) (fun q _ => (8, [some (.ref 152), some (.ref p), some (.int (nI b)), some (.int (nI t)), some (.int (nI n)), some (.int (nI q))], [], 0, 0)) (fun q s h' => RM h0 h' F (va_up (va_up A 164 s) p g) R ∧ ∀ i, i < q → s i = nI (f i)) n (fun q s h1 hq P K => ?_) (fun s h1 P => ?_) 0 (A 164) h (Nat.zero_le _) ⟨by rw [va_same rfl]; exact W, fun i hi => by omega⟩
  · obtain ⟨W1, P1⟩ := P
    refine am_run (am_cK _) 3 (pk_le n q (fun c => by omega) (fun _ => ?_))
    refine am_run (am_cK _) 2 (am_obj_in W1.o (am_run (am_cK _) 5 (M_beadAt (W1.pp hp) hb (by omega) (hf q hq) ?_)))
    refine am_run (am_cK _) 1 (am_stI (p := 164) W1 rfl (show q < 10 by omega) rfl (fun h2 W2 => ?_))
    rw [am_up_n hp4, am_up_s, va_sw hp4.symm, va_up2] at W2
    have K2 := K _ h2 ⟨W2, fun i hi => (by
      by_cases e : i = q
      · subst e; exact upd_s
      · exact (upd_n e).trans (P1 i (by omega)))⟩
    rw [nI_succ] at K2
    exact am_run (am_cK _) 2 (K2)
  · obtain ⟨W1, P1⟩ := P
    refine am_run (am_cK _) 3 (pk_le n n (fun _ => ?_) (fun c => by omega))
    refine am_run (am_cK _) 2 ?_
    refine am_lp (α := Nat → Int32) (fun q _ => (38, [some (.ref 152), some (.ref p), some (.int (nI b)), some (.int (nI t)), some (.int (nI n)), some (.int (nI q))], [], 0, 0)) (fun q g' h' => RM h0 h' F (va_up (va_up A 164 s) p g') R ∧ (∀ x, (x < 5 + 10 * b ∨ 5 + 10 * b + n ≤ x) → g' x = g x) ∧ ∀ i, i < q → g' (5 + 10 * b + i) = nI (trn f n t i)) n (fun q g1 h2 hq P2 K => ?_) (fun g1 h2 P2 => ?_) 0 g h1 (Nat.zero_le _) ⟨W1, fun _ _ => rfl, fun i hi => by omega⟩
    · obtain ⟨W2, q1, q2⟩ := P2
      refine am_run (am_cK _) 3 (pk_le n q (fun c => by omega) (fun _ => ?_))
      have e164 : h2.2 164 = aI 10 s := by
        have w := W2.a164
        rw [am_up_n hp4, am_up_s] at w
        exact w
      refine am_run (am_cK _) 5 (am_obj_in W2.o (am_run (am_cK _) 4 (M_turnedOf e164 (by omega) hn hn P1 ht hq ?_)))
      refine am_run (am_cK _) 1 (M_laysBead W2 hp hb (by omega) _ (fun h3 W3 => ?_))
      have K2 := K _ h3 ⟨W3, fun x hx => (upd_n (by omega)).trans (q1 x hx), fun i hi => (by
        by_cases e : i = q
        · subst e; exact upd_s
        · exact (upd_n (by omega)).trans (q2 i (by omega)))⟩
      rw [nI_succ] at K2
      exact am_run (am_cK _) 2 (K2)
    · obtain ⟨W2, q1, q2⟩ := P2
      exact am_run (am_cK _) 3 (pk_le n n (fun _ => am_run (am_cK _) 1 (hQ h2 s g1 W2 q1 q2)) (fun c => by omega))
theorem M_rollsOne (W : RM h0 h F (va_up A p g) R) (hp : p = 154 ∨ p = 155) (hS : RSm g σ) (hs : Sok σ) (b k : Int32) (hQ : ∀ h' s g', RM h0 h' F (va_up (va_up A 164 s) p g') R → RSm g' (sRoll σ b k).2 → Q (some (.int (sRoll σ b k).1)) h') : am_call (d + 3) 235 [.ref 152, .ref p, .int b, .int k] h Q := by
  have hN := hs.1
  have fin : sRoll σ b k = (-1, σ) → Q (some (.int (-1))) h := fun e => by
    have q := hQ h (A 164) g (by rw [va_same rfl]; exact W) (by rw [e]; exact hS)
    rw [e] at q
    exact q
  refine en_X11_rollsOne (Nat.le_of_ble_eq_true rfl) ?_
  refine am_run (am_cK _) 3 (M_isOf (W.pp hp) hS.1 hN b (fun j hj e => ?_) (fun c => ?_))
  · subst e
    have hz := hs.2.1 j hj
    have hr := hS.2.2.2 j hj
    refine am_run (am_cK _) 1 (⟨fun z => absurd z n10, fun _ => ?_⟩)
    refine am_run (am_cK _) 5 (M_inN k 0 99 (by omega) (by omega) (fun x _ hx e => ?_) (fun c => ?_))
    · subst e
      have esp := sRoll_at hs hj hx
      rw [esp] at hQ
      refine am_run (am_cK _) 1 (⟨fun _ => ?_, fun z => absurd n10 z⟩)
      refine am_run (am_cK _) 7 (am_ld (W.pp hp) j (by omega) ?_)
      rw [nI_clamp (by omega), hr.1]
      refine am_run (am_cK _) 1 (⟨nI_ne0 (by omega) (by omega), ?_⟩)
      rw [show nI x - nI x / nI (sZ σ j) * nI (sZ σ j) = nI (x % sZ σ j) from pk_rem (by omega) (by omega) (by omega)]
      have hm : x % sZ σ j < sZ σ j := Nat.mod_lt _ (by omega)
      refine am_run (am_cK _) 1 (am_obj_in W.o ((M_turnsOne W hp (by omega) (by omega) hz.2.1 hr.1 hr.2 (by omega) (fun h1 s g1 W1 q1 q2 => ?_))))
      have et : ∀ i, trn (sB σ j) (sZ σ j) (x % sZ σ j) i = rol (sB σ j) (sZ σ j) x i := fun i => by
        unfold trn
        rw [if_pos hm, rol_mod]
      refine am_run (am_cK _) 4 (M_beadAt (b := j) (i := 0) (W1.pp hp) (by omega) (by omega) ((q2 0 (by omega)).trans (by rw [et])) ?_)
      refine am_run (am_cK _) 1 (hQ h1 s g1 W1 (RSm_row hS hs hj ((q1 j (by omega)).trans hr.1) (fun i hi => (q2 i hi).trans (by rw [et])) (fun y _ hy => q1 y (by omega))))
    · refine am_run (am_cK _) 1 (⟨fun z => absurd rfl z, fun _ => am_run (am_cK _) 2 (fin ?_)⟩)
      unfold sRoll
      rw [if_pos (by rcases c with c | c; exact Or.inr (Or.inr (Or.inl c)); exact Or.inr (Or.inr (Or.inr c)))]
  · refine am_run (am_cK _) 1 (⟨fun _ => am_run (am_cK _) 2 (fin ?_), fun z => absurd rfl z⟩)
    unfold sRoll
    rw [if_pos (by rcases c with c | c; exact Or.inl c; exact Or.inr (Or.inl c))]
theorem M_flipsOne (W : RM h0 h F (va_up A p g) R) (hp : p = 154 ∨ p = 155) (hS : RSm g σ) (hs : Sok σ) (b : Int32) (hQ : ∀ h' s g', RM h0 h' F (va_up (va_up A 164 s) p g') R → RSm g' (sFlip σ b).2 → Q (some (.int (sFlip σ b).1)) h') : am_call (d + 3) 236 [.ref 152, .ref p, .int b] h Q := by
  have hN := hs.1
  refine en_X11_flipsOne (Nat.le_of_ble_eq_true rfl) ?_
  refine am_run (am_cK _) 3 (M_isOf (W.pp hp) hS.1 hN b (fun j hj e => ?_) (fun c => ?_))
  · subst e
    have hz := hs.2.1 j hj
    have hr := hS.2.2.2 j hj
    have esp := sFlip_at hs hj
    rw [esp] at hQ
    refine am_run (am_cK _) 1 (⟨fun _ => ?_, fun z => absurd n10 z⟩)
    refine am_run (am_cK _) 6 (am_ld (W.pp hp) j (by omega) ?_)
    rw [nI_clamp (by omega), hr.1]
    refine am_run (am_cK _) 1 (am_obj_in W.o ((M_turnsOne W hp (by omega) (by omega) hz.2.1 hr.1 hr.2 (by omega) (fun h1 s g1 W1 q1 q2 => ?_))))
    have et : ∀ i, i < sZ σ j → trn (sB σ j) (sZ σ j) (sZ σ j) i = flp (sB σ j) (sZ σ j) i := fun i hi => by
      unfold trn
      rw [if_neg (by omega), Nat.sub_self]
      show flp (sB σ j) (sZ σ j) ((i + 0) % sZ σ j) = _
      rw [Nat.add_zero, Nat.mod_eq_of_lt hi]
    refine am_run (am_cK _) 4 (M_beadAt (b := j) (i := 0) (W1.pp hp) (by omega) (by omega) ((q2 0 (by omega)).trans (by rw [et 0 (by omega)])) ?_)
    refine am_run (am_cK _) 1 (hQ h1 s g1 W1 (RSm_row hS hs hj ((q1 j (by omega)).trans hr.1) (fun i hi => (q2 i hi).trans (by rw [et i hi])) (fun y _ hy => q1 y (by omega))))
  · have e : sFlip σ b = (-1, σ) := by unfold sFlip; rw [if_pos c]
    rw [e] at hQ
    exact am_run (am_cK _) 1 (⟨fun z => absurd rfl z, fun _ => am_run (am_cK _) 2 (hQ h (A 164) g (by rw [va_same rfl]; exact W) hS)⟩)
theorem M_swapsOne (W : RM h0 h F (va_up A p g) R) (hp : p = 154 ∨ p = 155) (hS : RSm g σ) (hs : Sok σ) (b i : Int32) (hQ : ∀ h' g', RM h0 h' F (va_up A p g') R → RSm g' (sSwap σ b i).2 → Q (some (.int (sSwap σ b i).1)) h') : am_call (d + 3) 237 [.ref 152, .ref p, .int b, .int i] h Q := by
  have hN := hs.1
  have fin : sSwap σ b i = (-1, σ) → Q (some (.int (-1))) h := fun e => by
    have q := hQ h g W (by rw [e]; exact hS)
    rw [e] at q
    exact q
  refine en_X11_swapsOne (Nat.le_of_ble_eq_true rfl) ?_
  refine am_run (am_cK _) 3 (M_isOf (W.pp hp) hS.1 hN b (fun j hj e => ?_) (fun c => ?_))
  · subst e
    have hz := hs.2.1 j hj
    have hr := hS.2.2.2 j hj
    refine am_run (am_cK _) 1 (⟨fun z => absurd z n10, fun _ => ?_⟩)
    refine am_run (am_cK _) 6 (am_ld (W.pp hp) j (by omega) ?_)
    rw [nI_clamp (by omega), hr.1]
    refine am_run (am_cK _) 4 (M_inZ i (sZ σ j) (by omega) (fun x hx e => ?_) (fun c => ?_))
    · subst e
      have esp := sSwap_at hs hj hx
      have hm : (x + 1) % sZ σ j < sZ σ j := Nat.mod_lt _ (by omega)
      refine am_run (am_cK _) 1 (⟨fun _ => ?_, fun z => absurd n10 z⟩)
      refine am_run (am_cK _) 6 (am_ld (W.pp hp) j (by omega) ?_)
      rw [nI_clamp (by omega), hr.1]
      refine am_run (am_cK _) 1 (⟨nI_ne0 (by omega) (by omega), ?_⟩)
      rw [nI_1, show nI (x + 1) - nI (x + 1) / nI (sZ σ j) * nI (sZ σ j) = nI ((x + 1) % sZ σ j) from pk_rem (by omega) (by omega) (by omega)]
      refine am_run (am_cK _) 5 (M_beadAt (W.pp hp) (by omega) (by omega) (hr.2 x hx) ?_)
      refine am_run (am_cK _) 5 (M_beadAt (W.pp hp) (by omega) (by omega) (hr.2 _ hm) ?_)
      refine am_run (am_cK _) 6 (M_laysBead W hp (by omega) (by omega) _ (fun h1 W1 => ?_))
      refine am_run (am_cK _) 5 (M_laysBead W1 hp (by omega) (by omega) _ (fun h2 W2 => ?_))
      have hc1 := hz.2.2 x hx
      have hc2 := hz.2.2 _ hm
      refine am_run (am_cK _) 3 (⟨fun c => ?_, fun c => ?_⟩)
      · rw [if_neg (fun z => c (congrArg nI z))] at esp
        rw [esp] at hQ
        refine am_run (am_cK _) 6 ?_
        have e1 : (10 : Int32) * nI (sB σ j ((x + 1) % sZ σ j)) + nI (sB σ j x) = nI (10 * sB σ j ((x + 1) % sZ σ j) + sB σ j x) := by
          rw [← nI_add]; congr 1; exact pk_mul 10 _
        rw [← e1] at hQ
        refine hQ h2 _ W2 (RSm_row hS hs hj ?_ (fun q hq => ?_) (fun y _ hy => ?_))
        · exact (upd_n (by omega)).trans ((upd_n (by omega)).trans hr.1)
        · unfold swp up1
          by_cases e2 : q = (x + 1) % sZ σ j
          · subst e2; rw [upd_s, if_pos rfl]
          · rw [upd_n (by omega), if_neg e2]
            by_cases e3 : q = x
            · subst e3; rw [upd_s, if_pos rfl]
            · rw [upd_n (by omega), if_neg e3]; exact hr.2 q hq
        · exact (upd_n (by omega)).trans (upd_n (by omega))
      · have ec : sB σ j x = sB σ j ((x + 1) % sZ σ j) := (nI_eq (by omega) (by omega)).mp (Classical.not_not.mp c)
        rw [if_pos ec] at esp
        rw [esp] at hQ
        rw [← ec] at W2
        have eg : upd (upd g (5 + 10 * j + x) (nI (sB σ j x))) (5 + 10 * j + (x + 1) % sZ σ j) (nI (sB σ j x)) = g := by
          rw [upd_same (F := g) (hr.2 x hx).symm, upd_same]
          rw [hr.2 _ hm, ec]
        rw [eg] at W2
        exact am_run (am_cK _) 3 (hQ h2 g W2 hS)
    · refine am_run (am_cK _) 1 (⟨fun z => absurd rfl z, fun _ => am_run (am_cK _) 2 (fin ?_)⟩)
      unfold sSwap
      rw [if_neg (S_no hs hj), nI_clamp (by omega)]
      simp only
      rw [if_pos c]
  · refine am_run (am_cK _) 1 (⟨fun _ => am_run (am_cK _) 2 (fin ?_), fun z => absurd rfl z⟩)
    unfold sSwap
    rw [if_pos c]
end
