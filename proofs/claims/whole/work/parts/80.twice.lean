section
variable {d : Nat} {h : am_H} {Q : Option Value → am_H → Prop} {M : Ms} {a b : Nat} {dr : Int32}
theorem X_finds (hX : RX h M) (b : Int32) (hQ : ∀ h', Fx h h' → RX h' (oFinds M b).2 → Q (some (.int (oFinds M b).1)) h') : am_call (d + 20) 138 [.ref 40, .int b] h Q := by
  obtain ⟨a, b', dr, hX⟩ := hX
  obtain ⟨wd, wz, hT⟩ := hX.t
  unfold oFinds at hQ
  refine en_X10_finds (Nat.le_of_ble_eq_true rfl) ?_
  refine am_run (am_cK _) 2 (am_obj_in hX.o.1 (am_run (am_cK _) 1 (am_obj_in hT.1 (T_takeWord hT (fun h1 wd' a1 t1 hw => ?_) (fun h1 a1 t1 hw hn0 hn10 hf4 => ?_)))))
  · rw [if_neg hw] at hQ
    have hX1 := hX.pT t1 (fun x hx => a1.2 x (by omega))
    exact am_run (am_cK _) 3 (⟨fun z => absurd (wFl_neg hw) (Int32.not_lt.mpr z), fun _ => am_run (am_cK _) 2 (hQ h1 (a1.fx (by omega) (by omega)) ⟨a, b', dr, hX1⟩)⟩)
  · rw [if_pos hw] at hQ
    have hX1 := hX.pT t1 (fun x hx => a1.2 x (by omega))
    have hs := hX.s.2
    have hN := hs.1
    have hs1 : RS h1 41 (mS M) := hX1.s.1
    obtain ⟨r, z, kk, e0, e1, e2, e3, e4, e5⟩ := hs1
    have F1 : Fx h h1 := a1.fx (by omega) (by omega)
    refine am_run (am_cK _) 3 (⟨fun _ => ?_, fun w => absurd (show (0 : Int32) ≤ 0 by decide) w⟩)
    refine am_run (am_cK _) 2 (am_obj_in hX1.o.1 (am_run (am_cK _) 2 (am_obj_in hX1.so ((S_lacks (σ := mS M) hX1.s.1 hs b (fun c => ?_) (fun j hj e => ?_))))))
    · rw [if_pos c] at hQ
      exact am_run (am_cK _) 1 (⟨fun w => absurd w n10, fun _ => am_run (am_cK _) 2 (hQ h1 F1 ⟨a, b', dr, hX1⟩)⟩)
    · subst e
      rw [if_neg (S_no hs hj), nI_clamp (by omega)] at hQ
      have hz := hs.2.1 j hj
      unfold oFindsN at hQ
      refine am_run (am_cK _) 1 (⟨fun _ => ?_, fun w => absurd rfl w⟩)
      refine am_run (am_cK _) 2 (am_obj_in hX1.o.1 (am_run (am_cK _) 1 (am_obj_in hX1.so (am_run (am_cK _) 2 (am_ld e2 j (by omega) ?_)))))
      rw [nI_clamp (by omega), (e4 j hj).2]
      refine am_run (am_cK _) 3 (am_obj_in hX1.o.1 (am_run (am_cK _) 1 (am_obj_in t1.1 (am_run (am_cK _) 2 (pk_le (mT M).1 (sZ (mS M) j) (fun c => ?_) (fun c => ?_))))))
      · rw [if_neg (by omega)] at hQ
        have hsm : rk (wBd (mT M).2) (mT M).1 < 2 ^ 20 := rk_small hn10 hf4
        refine am_run (am_cK _) 2 (am_obj_in hX1.o.1 (am_run (am_cK _) 1 (am_obj_in hX1.so (am_run (am_cK _) 2 (am_ld e1 j (by omega) ?_)))))
        rw [nI_clamp (by omega), (e4 j hj).1]
        refine am_run (am_cK _) 3 (am_obj_in hX1.o.1 (am_run (am_cK _) 1 (am_obj_in t1.1 (am_run (am_cK _) 2 (am_obj_in hX1.o.1 (am_run (am_cK _) 1 (am_obj_in t1.1 (am_run (am_cK _) 1 (B_placesOf (by omega) hz.2.1 c hsm hz.2.2 ?_)))))))))
        refine am_run (am_cK _) 3 (am_obj_in hX1.o.1 (am_run (am_cK _) 1 (am_obj_in hX1.d.1.1 ((X_begin hX1 (fun h2 a2 hX2 => ?_))))))
        refine am_run (am_cK _) 2 (am_obj_in hX2.o.1 (am_run (am_cK _) 2 (J_bitCount _ ?_)))
        rw [bc_bts _ hz.2.1]
        refine am_run (am_cK _) 1 (am_obj_in hX2.d.1.1 ((X_add hX2 (show 0 < 16 by omega) _ (fun h3 a3 hX3 => ?_))))
        exact am_run (am_cK _) 2 (hQ h3 (F1.tr (Fx2 a2 a3)) ⟨a, b', dr, RX_dc hX3 (fun i hi => i_lt1 (P := fun i => upd (mD M).2 0 _ i = w1 _ i) hi rfl)⟩)
      · rw [if_pos c] at hQ
        exact am_run (am_cK _) 2 (hQ h1 F1 ⟨a, b', dr, hX1⟩)
theorem qn_le (f : Nat → Nat) {n w i : Nat} (hi : i < n) : qn f n w i ≤ n ∧ i < qn f n w i := by
  have := fnd_le (plc f n (rk (rol f n i) w) w) (n - 1 - i) (i + 1)
  unfold qn
  omega
theorem beh_eq {p : Nat → Bool} {n i : Nat} (hn : n ≤ 10) (hi : i < n) : nI (bts p n) >>> (nI (i + 1) &&& 31) = nI (bts (fun j => p (i + 1 + j)) (n - (i + 1))) := by
  have := bts_lt p n
  have h2 : 2 ^ n ≤ 2 ^ 10 := Nat.pow_le_pow_right (by decide) hn
  rw [q_shr (by omega) (by omega), bts_div p (by omega)]
theorem X_twice (hX : RX h M) (b : Int32) (hQ : ∀ h', Fx h h' → RX h' (oTwice M b).2 → Q (some (.int (oTwice M b).1)) h') : am_call (d + 20) 140 [.ref 40, .int b] h Q := by
  obtain ⟨a, b', dr, hX⟩ := hX
  have hs := hX.s.2
  have hN := hs.1
  obtain ⟨r, z, kk, e0, e1, e2, e3, e4, e5⟩ := hX.s.1
  unfold oTwice at hQ
  refine en_X10_twice (Nat.le_of_ble_eq_true rfl) ?_
  refine am_run (am_cK _) 2 (am_obj_in hX.o.1 (am_run (am_cK _) 2 (am_obj_in hX.so ((S_lacks hX.s.1 hs b (fun c => ?_) (fun j hj e => ?_))))))
  · rw [if_pos c] at hQ
    exact am_run (am_cK _) 1 (⟨fun w => absurd w n10, fun _ => am_run (am_cK _) 2 (hQ h Fx.rf ⟨a, b', dr, hX⟩)⟩)
  subst e
  rw [if_neg (S_no hs hj), nI_clamp (by omega)] at hQ
  have hz := hs.2.1 j hj
  unfold oTwiceN at hQ
  simp only at hQ
  refine am_run (am_cK _) 1 (⟨fun _ => ?_, fun w => absurd rfl w⟩)
  refine am_run (am_cK _) 2 (am_obj_in hX.o.1 (am_run (am_cK _) 1 (am_obj_in hX.so (am_run (am_cK _) 2 (am_ld e1 j (by omega) ?_)))))
  rw [nI_clamp (by omega), (e4 j hj).1]
  refine am_run (am_cK _) 3 (am_obj_in hX.o.1 (am_run (am_cK _) 1 (am_obj_in hX.so (am_run (am_cK _) 2 (am_ld e2 j (by omega) ?_)))))
  rw [nI_clamp (by omega), (e4 j hj).2]
  refine am_run (am_cK _) 3 (am_obj_in hX.o.1 (am_run (am_cK _) 1 (am_obj_in hX.d.1.1 ((X_begin hX (fun h1 a1 hX1 => ?_))))))
  have F1 : Fx h h1 := a1.fx (by omega) (by omega)
  generalize hf : sB (mS M) j = f at *
  generalize hn : sZ (mS M) j = n at *
  have main : ∀ w (x y z : Option Value), w ≤ n - 1 → wD f n (n - 1) = wD f n w → am_wp (am_call (d + 19)) (0, 0) cm_X10_twice Q (fun _ => False) (45, [some (.ref 40), some (.int (nI j)), some (.int (nI (rk f n))), some (.int (nI n)), some (.int (nI w)), x, y, z], [], 0, 0) h1 := by
    intro w
    induction w with
    | zero =>
      intro x y z _ e
      rw [show wD f n 0 = 0 from rfl] at e
      rw [e, if_pos rfl] at hQ
      refine am_run (am_cK _) 2 (⟨fun _ => ?_, fun q => absurd (show (0 : Int32) ≤ 0 by decide) q⟩)
      exact am_run (am_cK _) 2 (hQ h1 F1 ⟨a, b', dr, RX_dc hX1 (fun i hi => absurd hi (Nat.not_lt_zero i))⟩)
    | succ w ih =>
      intro x y z hw e
      rw [wD] at e
      refine am_run (am_cK _) 2 (⟨fun q => absurd q (nI_nle (by omega) (by omega)), fun _ => ?_⟩)
      refine am_run (am_cK _) 2 (show am_wp (am_call (d + 19)) (0, 0) cm_X10_twice Q (fun _ => False) (53, [some (.ref 40), some (.int (nI j)), some (.int (nI (rk f n))), some (.int (nI n)), some (.int (nI (w + 1))), some (.int (nI 0)), y, z], [], 0, 0) h1 from ?_)
      refine am_loopP (α := Option Value × Option Value) (fun i x => (53, [some (.ref 40), some (.int (nI j)), some (.int (nI (rk f n))), some (.int (nI n)), some (.int (nI (w + 1))), some (.int (nI i)), x.1, x.2], [], 0, 0)) (fun i _ => ∀ c, c < i → qn f n (w + 1) c = n) n (fun i x hi P K => ?_) (fun x P => ?_) 0 (y, z) (Nat.zero_le _) (fun c hc => by omega)
      · refine am_run (am_cK _) 3 (pk_le n i (fun c => by omega) (fun _ => ?_))
        refine am_run (am_cK _) 7 (B_wordAt (by omega) hz.2.1 (by omega) (by omega) hz.2.2 ?_)
        have hsm : rk (rol f n i) (w + 1) < 2 ^ 20 := rk_small (by omega) (fun q hq => rol_lt hz.2.2 q (by omega))
        refine am_run (am_cK _) 2 (B_placesOf (by omega) hz.2.1 (by omega) hsm hz.2.2 ?_)
        have eb := beh_eq (p := plc f n (rk (rol f n i) (w + 1)) (w + 1)) hz.2.1 hi
        refine am_run (am_cK _) 7 (show am_wp (am_call (d + 19)) (0, 0) cm_X10_twice Q (fun _ => False) (86, [some (.ref 40), some (.int (nI j)), some (.int (nI (rk f n))), some (.int (nI n)), some (.int (nI (w + 1))), some (.int (nI i)), some (.int (nI (bts (plc f n (rk (rol f n i) (w + 1)) (w + 1)) n))), some (.int (nI (bts (plc f n (rk (rol f n i) (w + 1)) (w + 1)) n) >>> ((nI i + 1) &&& 31)))], [], 0, 0) h1 from ?_)
        rw [nI_1, eb]
        have hsh := fnd_shift (p := plc f n (rk (rol f n i) (w + 1)) (w + 1)) (a := i + 1) (k := n - (i + 1)) (s := 0)
        have hql := qn_le f (n := n) (w := w + 1) hi
        have hq : qn f n (w + 1) i = fnd (fun j => plc f n (rk (rol f n i) (w + 1)) (w + 1) (i + 1 + j)) 0 (n - (i + 1)) + (i + 1) := by
          rw [hsh, Nat.add_zero, show n - (i + 1) = n - 1 - i by omega]; rfl
        have hbl : bts (fun j => plc f n (rk (rol f n i) (w + 1)) (w + 1) (i + 1 + j)) (n - (i + 1)) < 2 ^ 10 := Nat.lt_of_lt_of_le (bts_lt _ _) (Nat.pow_le_pow_right (by decide) (by omega))
        refine am_run (am_cK _) 2 ⟨fun c => ?_, fun c => ?_⟩
        · have c0 : bts (fun j => plc f n (rk (rol f n i) (w + 1)) (w + 1) (i + 1 + j)) (n - (i + 1)) = 0 := (nI_eq (b := 0) (by omega) (by omega)).mp c
          have ce := (bts_0 _ _).mp c0
          have eq : qn f n (w + 1) i = n := by
            rw [hq]
            have := fnd_eq (q := fun j => plc f n (rk (rol f n i) (w + 1)) (w + 1) (i + 1 + j)) (k := n - (i + 1)) (s := 0) (i := n - (i + 1)) (Nat.zero_le _) (by omega) (fun c _ c2 => ce c c2) (Or.inl (by omega))
            rw [this]; omega
          have K2 := K (some (.int (nI (bts (plc f n (rk (rol f n i) (w + 1)) (w + 1)) n))), some (.int (nI (bts (fun j => plc f n (rk (rol f n i) (w + 1)) (w + 1) (i + 1 + j)) (n - (i + 1)))))) (fun c hc => (if q : c = i then q ▸ eq else P c (by omega)))
          simp only at K2
          rw [nI_succ i] at K2
          exact am_run (am_cK _) 2 (K2)
        · have c0 : ¬ bts (fun j => plc f n (rk (rol f n i) (w + 1)) (w + 1) (i + 1 + j)) (n - (i + 1)) = 0 := fun z => c (by rw [z]; rfl)
          have hx : fnd (fun j => plc f n (rk (rol f n i) (w + 1)) (w + 1) (i + 1 + j)) 0 (n - (i + 1)) < n - (i + 1) := by
            refine Nat.lt_of_not_le (fun q => c0 ((bts_0 _ _).mpr (fun j hj => ?_)))
            exact fnd_no (q := fun j => plc f n (rk (rol f n i) (w + 1)) (w + 1) (i + 1 + j)) (k := n - (i + 1)) (Nat.zero_le _) (by omega)
          have epn : pn f n (w + 1) = i := fnd_eq (Nat.zero_le _) (by omega) (fun c _ c2 => decide_eq_false (by rw [P c c2]; omega)) (Or.inr (decide_eq_true (by omega)))
          rw [if_pos (by omega)] at e
          rw [e, if_neg (by omega), epn, hq] at hQ
          refine am_run (am_cK _) 2 (am_obj_in hX1.o.1 (am_run (am_cK _) 2 (am_obj_in hX1.d.1.1 ((X_add hX1 (show 0 < 16 by omega) _ (fun h2 a2 hX2 => ?_))))))
          refine am_run (am_cK _) 2 (am_obj_in hX2.o.1 (am_run (am_cK _) 5 (J_ctz (by omega) hx ?_)))
          refine am_run (am_cK _) 2 (am_obj_in hX2.d.1.1 (X_add hX2 (show 0 + 1 < 16 by omega) _ (fun h3 a3 hX3 => ?_)))
          refine am_run (am_cK _) 2 (hQ h3 (F1.tr (Fx2 a2 a3)) ⟨a, b', dr, RX_dc hX3 (fun i' hi' => i_lt2 (P := fun q => upd (upd (mD M).2 0 (nI i)) (0 + 1) (nI i + 1 + nI (fnd (fun j => plc f n (rk (rol f n i) (w + 1)) (w + 1) (i + 1 + j)) 0 (n - (i + 1)))) q = w2 (nI i) (nI (fnd (fun j => plc f n (rk (rol f n i) (w + 1)) (w + 1) (i + 1 + j)) 0 (n - (i + 1)) + (i + 1))) q) hi' rfl ?_)⟩)
          show nI i + 1 + nI _ = nI (_ + (i + 1))
          rw [nI_1, nI_add, Nat.add_comm]
      · have epn : pn f n (w + 1) = n := fnd_eq (Nat.zero_le _) (by omega) (fun c _ c2 => decide_eq_false (by rw [P c c2]; omega)) (Or.inl (by omega))
        rw [if_neg (by omega)] at e
        refine am_run (am_cK _) 3 (pk_le n n (fun _ => ?_) (fun c => by omega))
        have z2 := ih (some (.int (nI n))) x.1 x.2 (by omega) e
        rw [← pk_m1 w] at z2
        exact am_run (am_cK _) 2 (z2)
  have m1 := main (n - 1) none none none (Nat.le_refl _) rfl
  rw [← show nI n - 1 = nI (n - 1) from pk_sub (a := n) (b := 1) (by omega)] at m1
  exact am_run (am_cK _) 4 (m1)
theorem X_arc (hX : RX h M) (b : Int32) (hQ : ∀ h', Fx h h' → RX h' (oArc M b).2 → Q (some (.int (oArc M b).1)) h') : am_call (d + 20) 141 [.ref 40, .int b] h Q := by
  obtain ⟨a, b', dr, hX⟩ := hX
  have hs := hX.s.2
  have hN := hs.1
  obtain ⟨r, z, kk, e0, e1, e2, e3, e4, e5⟩ := hX.s.1
  unfold oArc at hQ
  refine en_X10_arc (Nat.le_of_ble_eq_true rfl) ?_
  refine am_run (am_cK _) 2 (am_obj_in hX.o.1 (am_run (am_cK _) 2 (am_obj_in hX.so ((S_lacks hX.s.1 hs b (fun c => ?_) (fun j hj e => ?_))))))
  · rw [if_pos c] at hQ
    exact am_run (am_cK _) 1 (⟨fun w => absurd w n10, fun _ => am_run (am_cK _) 2 (hQ h Fx.rf ⟨a, b', dr, hX⟩)⟩)
  subst e
  rw [if_neg (S_no hs hj), nI_clamp (by omega)] at hQ
  have hz := hs.2.1 j hj
  unfold oArcN at hQ
  refine am_run (am_cK _) 1 (⟨fun _ => ?_, fun w => absurd rfl w⟩)
  refine am_run (am_cK _) 2 (am_obj_in hX.o.1 (am_run (am_cK _) 1 (am_obj_in hX.so (am_run (am_cK _) 2 (am_ld e1 j (by omega) ?_)))))
  rw [nI_clamp (by omega), (e4 j hj).1]
  refine am_run (am_cK _) 3 (am_obj_in hX.o.1 (am_run (am_cK _) 1 (am_obj_in hX.so (am_run (am_cK _) 2 (am_ld e2 j (by omega) ?_)))))
  rw [nI_clamp (by omega), (e4 j hj).2]
  refine am_run (am_cK _) 3 (am_obj_in hX.o.1 (am_run (am_cK _) 1 (am_obj_in hX.d.1.1 ((X_begin hX (fun h1 a1 hX1 => ?_))))))
  have F1 : Fx h h1 := a1.fx (by omega) (by omega)
  generalize hf : sB (mS M) j = f at *
  generalize hn : sZ (mS M) j = n at *
  have main : ∀ w (x y : Option Value), 0 < w → w ≤ n → aD f n n = aD f n w → am_wp (am_call (d + 19)) (0, 0) cm_X10_arc Q (fun _ => False) (43, [some (.ref 40), some (.int (nI j)), some (.int (nI (rk f n))), some (.int (nI n)), some (.int (nI w)), x, y], [], 0, 0) h1 := by
    intro w
    induction w with
    | zero => intro x y h0; exact absurd h0 (Nat.lt_irrefl 0)
    | succ w ih =>
      intro x y _ hw e
      rw [aD] at e
      refine am_run (am_cK _) 3 (pk_le (w + 1) 1 (fun c => ?_) (fun c => ?_))
      · rw [if_pos (by omega)] at e
        rw [e] at hQ
        refine am_run (am_cK _) 2 (am_obj_in hX1.o.1 (am_run (am_cK _) 2 (am_obj_in hX1.d.1.1 ((X_add hX1 (show 0 < 16 by omega) _ (fun h2 a2 hX2 => ?_))))))
        exact am_run (am_cK _) 2 (hQ h2 (F1.tr (a2.fx (by omega) (by omega))) ⟨a, b', dr, RX_dc hX2 (fun q hq => i_lt1 (P := fun q => upd (mD M).2 0 0 q = w1 (nI 0) q) hq rfl)⟩)
      · rw [if_neg (by omega)] at e
        refine am_run (am_cK _) 2 (show am_wp (am_call (d + 19)) (0, 0) cm_X10_arc Q (fun _ => False) (52, [some (.ref 40), some (.int (nI j)), some (.int (nI (rk f n))), some (.int (nI n)), some (.int (nI (w + 1))), some (.int (nI 0)), y], [], 0, 0) h1 from ?_)
        refine am_loopP (α := Option Value) (fun i x => (52, [some (.ref 40), some (.int (nI j)), some (.int (nI (rk f n))), some (.int (nI n)), some (.int (nI (w + 1))), some (.int (nI i)), x], [], 0, 0)) (fun i _ => ∀ c, c < i → pal f n (w + 1) c = false) n (fun i x hi P K => ?_) (fun x P => ?_) 0 y (Nat.zero_le _) (fun c hc => by omega)
        · refine am_run (am_cK _) 3 (pk_le n i (fun c => by omega) (fun _ => ?_))
          refine am_run (am_cK _) 5 (B_wordAt (by omega) hz.2.1 (by omega) hw hz.2.2 ?_)
          have hr4 : ∀ q, q < w + 1 → rol f n i q < 4 := fun q hq => rol_lt hz.2.2 q (by omega)
          have s1 := rk_small (n := w + 1) (by omega) hr4
          have s2 := rk_small (n := w + 1) (by omega) (flp_lt hr4)
          refine am_run (am_cK _) 4 (B_flipped (by omega) hr4 ?_)
          refine am_run (am_cK _) 2 (⟨fun c => ?_, fun c => ?_⟩)
          · have K2 := K (some (.int (nI (rk (rol f n i) (w + 1))))) (fun c' hc => (if q : c' = i then (by subst q; exact beq_eq_false_iff_ne.mpr (fun z => c (congrArg nI z))) else P c' (by omega)))
            rw [nI_succ i] at K2
            exact am_run (am_cK _) 2 (K2)
          · have ep : pal f n (w + 1) i = true := by
              unfold pal
              rw [beq_iff_eq]
              exact (nI_eq (by omega) (by omega)).mp (Classical.not_not.mp c)
            have ef : fnd (pal f n (w + 1)) 0 n = i := fnd_eq (Nat.zero_le _) (by omega) (fun c _ c2 => P c c2) (Or.inr ep)
            rw [ef, if_pos hi] at e
            rw [e] at hQ
            refine am_run (am_cK _) 2 (am_obj_in hX1.o.1 (am_run (am_cK _) 2 (am_obj_in hX1.d.1.1 ((X_add hX1 (show 0 < 16 by omega) _ (fun h2 a2 hX2 => ?_))))))
            exact am_run (am_cK _) 2 (hQ h2 (F1.tr (a2.fx (by omega) (by omega))) ⟨a, b', dr, RX_dc hX2 (fun q hq => i_lt1 (P := fun q => upd (mD M).2 0 (nI i) q = w1 (nI i) q) hq rfl)⟩)
        · have ef : fnd (pal f n (w + 1)) 0 n = n := fnd_eq (Nat.zero_le _) (by omega) (fun c _ c2 => P c c2) (Or.inl (by omega))
          rw [ef, if_neg (by omega)] at e
          refine am_run (am_cK _) 3 (pk_le n n (fun _ => ?_) (fun c => by omega))
          have z2 := ih (some (.int (nI n))) x (by omega) (by omega) e
          rw [← pk_m1 w] at z2
          exact am_run (am_cK _) 2 (z2)
  exact am_run (am_cK _) 2 (main n none none (by omega) (Nat.le_refl _) rfl)
end
