/-! the dearest kind: the class -/
def ntR (σ : Sg) (n b : Nat) : Int32 := if b < sN σ ∧ sZ σ b = n then nI (lst (sB σ b) (sZ σ b)) else -1
def nmK (σ : Sg) (n s : Nat) : Nat := cnt (fun b => decide (ntR σ n b = nI s)) 5
def prK (L : List Nat) (σ : Sg) (n s : Nat) : Int32 := nI (prc L (dg s n) n (nmK σ n s))
def drS (L : List Nat) (σ : Sg) (n : Nat) : Nat → Int32 × Nat
  | 0 => (-1, 0)
  | i + 1 => if hasK σ n i = true ∧ (drS L σ n i).1 < prK L σ n (kR n i) then (prK L σ n (kR n i), kR n i) else drS L σ n i
theorem drS_lt {L : List Nat} {σ : Sg} {n : Nat} (hn : 1 ≤ n) : ∀ i, (drS L σ n i).2 < 4 ^ n
  | 0 => Nat.pow_pos (by decide)
  | i + 1 => by
    rw [drS]
    split
    · exact kR_lt hn
    · exact drS_lt hn i
def oDearN (M : Ms) (n : Nat) : Int32 × Ms := if (drS (mL M) (mS M) n (kN n)).1 < 0 then (-2, M) else ((drS (mL M) (mS M) n (kN n)).1, pD M (n, fun i => nI (dg (drS (mL M) (mS M) n (kN n)).2 n i)))
def oDear (M : Ms) (n : Int32) : Int32 × Ms := if n < 1 ∨ 6 < n then (-1, M) else oDearN M n.toNatClampNeg
section
variable {d p : Nat} {h : am_H} {Q : Option Value → am_H → Prop} {M : Ms} {a b' : Nat} {dr : Int32} {σ : Sg} {t : Nat → Int32}
theorem S_hasK (hR : RS h p σ) (hs : Sok σ) {n s : Nat} (hn : n ≤ 10) (h4 : s < 4 ^ n) (h1 : hsB σ (dg s n) n < 4 → Q (some (.int 0)) h) (h2 : hsB σ (dg s n) n = 4 → Q (some (.int 1)) h) : am_call (d + 4) 81 [.ref p, .int (nI s), .int (nI n)] h Q := by
  have q := S_hasBeadsFor (d := d) (Q := Q) hR hs hn (fun i _ => dg_lt s n i) h1 h2
  rw [rk_dg h4] at q
  exact q
theorem U_priceK {L : List Nat} {c : Nat} (hR : RF h p L) (hC : Cok L) {n s : Nat} (hn0 : 0 < n) (hn : n ≤ 10) (h4 : s < 4 ^ n) (hQ : ∀ h', AgN p 4 h h' → RF h' p L → Q (some (.int (nI (prc L (dg s n) n c)))) h') : am_call (d + 6) 74 [.ref p, .int (nI s), .int (nI n), .int (nI c)] h Q := by
  have q := U_price (d := d) (Q := Q) (a := c) hR hC hn0 hn (fun i _ => dg_lt s n i) hQ
  rw [rk_dg h4] at q
  exact q
theorem X_noteLR (hX : RXc h M a b' dr) {n : Nat} (hn : n ≤ 10) (hQ : ∀ h' t, Fx h h' → RXc h' M a b' dr → h'.2 143 = aI 5 t → (∀ b, b < 5 → t b = ntR (mS M) n b) → Q none h') : am_call (d + 6) 168 [.ref 40, .int (nI n)] h Q := by
  have hs := hX.s.2
  have hN := hs.1
  obtain ⟨t0, et0⟩ := hX.l
  refine en_X10_noteLeastRows (Nat.le_of_ble_eq_true rfl) ?_
  refine am_run (am_cK _) 2 ?_
  refine am_lp (α := Nat → Int32) (fun i _ => (2, [some (.ref 40), some (.int (nI n)), some (.int (nI i))], [], 0, 0)) (fun i t h' => Fx h h' ∧ RXc h' M a b' dr ∧ h'.2 143 = aI 5 t ∧ ∀ b, b < i → t b = ntR (mS M) n b) 5 (fun i t h3 hi P K => ?_) (fun t h3 P => ?_) 0 t0 h (Nat.zero_le _) ⟨Fx.rf, hX, et0, fun b hb => absurd hb (Nat.not_lt_zero b)⟩
  · obtain ⟨F3, hX3, et, p3⟩ := P
    obtain ⟨r, z, kk, e0, e1, e2, e3, e4, e5⟩ := id hX3.s.1
    have st : ∀ v, v = ntR (mS M) n i → am_wp (am_call (d + 5)) (0, 0) cm_X10_noteLeastRows Q (fun _ => False) (48, [some (.ref 40), some (.int (nI n)), some (.int (nI i))], [.int v, .int (nI i), .ref 143], 0, 0) h3 := by
      intro v ev
      refine am_run (am_cK _) 1 (am_ari_in et ⟨vp_in_nI (by omega) (by omega), ?_⟩)
      rw [nI_clamp (by omega)]
      have hX4 : RXc (am_set h3 143 (aI 5 (upd t i v))) M a b' dr := hX3.pLR as_s (fun x hx => as_n hx)
      have K2 := K (upd t i v) (am_set h3 143 (aI 5 (upd t i v))) ⟨F3.tr ⟨rfl, fun x hx => as_n (by omega)⟩, hX4, as_s, fun b hb => (by
        by_cases e : b = i
        · subst e; exact upd_s.trans ev
        · exact (upd_n e).trans (p3 b (by omega)))⟩
      rw [nI_succ i] at K2
      exact am_run (am_cK _) 2 (K2)
    refine am_run (am_cK _) 3 (pk_le 5 i (fun c => by omega) (fun _ => ?_))
    refine am_run (am_cK _) 2 (am_obj_in hX3.o.1 (am_run (am_cK _) 4 (am_obj_in hX3.o.1 (am_run (am_cK _) 1 (am_obj_in hX3.so (am_run (am_cK _) 1 (pk_le (sN (mS M)) i (fun c => ?_) (fun c => ?_))))))))
    · exact am_run (am_cK _) 1 (st (-1) (by unfold ntR; rw [if_neg (fun q => by omega)]))
    · refine am_run (am_cK _) 2 (am_obj_in hX3.o.1 (am_run (am_cK _) 1 (am_obj_in hX3.so (am_run (am_cK _) 2 (am_ld e2 i (by omega) ?_)))))
      rw [nI_clamp (by omega), (e4 i c).2]
      have hz := hs.2.1 i c
      refine am_run (am_cK _) 2 (⟨fun q => ?_, fun q => ?_⟩)
      · have q2 : ¬ sZ (mS M) i = n := fun w => q (congrArg nI w)
        exact am_run (am_cK _) 1 (st (-1) (by unfold ntR; rw [if_neg (fun w => q2 w.2)]))
      · have q2 : sZ (mS M) i = n := (nI_eq (by omega) (by omega)).mp (Classical.not_not.mp q)
        refine am_run (am_cK _) 2 (am_obj_in hX3.o.1 (am_run (am_cK _) 2 (am_obj_in hX3.so ((S_leastRow hX3.s.1 hs c ?_)))))
        exact am_run (am_cK _) 1 (st _ (by unfold ntR; rw [if_pos ⟨c, q2⟩]))
  · obtain ⟨F3, hX3, et, p3⟩ := P
    exact am_run (am_cK _) 3 (pk_le 5 5 (fun _ => am_run (am_cK _) 1 (hQ h3 t F3 hX3 et p3)) (fun c => by omega))
theorem X_numN (hX : RXc h M a b' dr) (et : h.2 143 = aI 5 t) (x : Int32) (hQ : Q (some (.int (nI (cnt (fun b => decide (t b = x)) 5)))) h) : am_call (d + 1) 169 [.ref 40, .int x] h Q := by
  refine en_X10_numberNoted (Nat.le_of_ble_eq_true rfl) ?_
  refine am_run (am_cK _) 4 ?_
  refine am_loopP (α := Unit) (fun i _ => (4, [some (.ref 40), some (.int x), some (.int (nI (cnt (fun b => decide (t b = x)) i))), some (.int (nI i))], [], 0, 0)) (fun _ _ => True) 5 (fun i _ hi P K => ?_) (fun _ P => ?_) 0 () (Nat.zero_le _) trivial
  · refine am_run (am_cK _) 3 (pk_le 5 i (fun c => by omega) (fun _ => ?_))
    refine am_run (am_cK _) 2 (am_obj_in hX.o.1 (am_run (am_cK _) 2 (am_ld et i (by omega) ?_)))
    rw [nI_clamp (by omega)]
    have K2 := K () trivial
    refine am_run (am_cK _) 2 (⟨fun q => ?_, fun q => ?_⟩)
    · rw [cnt_f (p := fun b => decide (t b = x)) (i := i) (decide_eq_false q), nI_succ i] at K2
      exact am_run (am_cK _) 2 (K2)
    · rw [cnt_t (p := fun b => decide (t b = x)) (i := i) (decide_eq_true (Classical.not_not.mp q)), nI_succ i, nI_succ (cnt (fun b => decide (t b = x)) i)] at K2
      exact am_run (am_cK _) 3 (K2)
  · exact am_run (am_cK _) 3 (pk_le 5 5 (fun _ => am_run (am_cK _) 2 (hQ)) (fun c => by omega))
theorem X_dear (hX : RX h M) (n : Int32) (hQ : ∀ h', Fx h h' → RX h' (oDear M n).2 → Q (some (.int (oDear M n).1)) h') : am_call (d + 20) 149 [.ref 40, .int n] h Q := by
  obtain ⟨a, b', dr, hX⟩ := hX
  have hs := hX.s.2
  have hab := hX.o.2
  unfold oDear at hQ
  have no : (n < 1 ∨ 6 < n) → Q (some (.int (-1))) h := fun c => by
    rw [if_pos c] at hQ
    exact hQ h Fx.rf ⟨a, b', dr, hX⟩
  refine en_X10_dear (Nat.le_of_ble_eq_true rfl) ?_
  refine am_run (am_cK _) 2 (K_lacks n (fun c => ?_) (fun c => ?_))
  · exact am_run (am_cK _) 1 (⟨fun _ => am_run (am_cK _) 2 (no (c.elim Or.inl (fun w => Or.inr (Int32.lt_trans (show (6 : Int32) < 7 by decide) w)))), fun w => absurd n10 w⟩)
  obtain ⟨N, N1, N7, rfl⟩ := num_in (a := 1) (b := 7) (by omega) (by omega) (fun w => c (Or.inl w)) (fun w => c (Or.inr w))
  refine am_run (am_cK _) 1 (⟨fun w => absurd rfl w, fun _ => am_run (am_cK _) 3 (⟨fun c7 => ?_, fun c7 => ?_⟩)⟩)
  rotate_left
  · have e7 : N = 7 := (nI_eq (b := 7) (by omega) (by omega)).mp (Classical.not_not.mp c7)
    subst e7
    exact am_run (am_cK _) 2 (no (Or.inr (by decide)))
  have N6 : N ≤ 6 := by
    have : ¬ N = 7 := fun w => c7 (congrArg nI w)
    omega
  rw [if_neg (by
    rintro (z | z)
    · exact nI_nlt (a := N) (b := 1) N1 (by omega) z
    · exact nI_nlt (a := 6) (b := N) N6 (by omega) z), nI_clamp (by omega)] at hQ
  unfold oDearN at hQ
  have hkn := kN_le N1 N7
  refine am_run (am_cK _) 3 (am_obj_in hX.o.1 ((X_noteLR hX (show N ≤ 10 by omega) (fun h1 t f1 hX1 et1 ht => ?_))))
  have ec : ∀ s, cnt (fun b => decide (t b = nI s)) 5 = nmK (mS M) N s := fun s => cnt_congr (fun i hi => by rw [ht i hi])
  refine am_run (am_cK _) 8 (am_obj_in hX1.o.1 (am_run (am_cK _) 2 (am_obj_in hX1.k.choose_spec.choose_spec.choose_spec.1 ((K_number hX1.c hX1.k (by omega) N1 N7 (fun h2 a2 k2 _ => ?_))))))
  have hX2 := hX1.pKL k2 (fun x hx => a2.2 x (by omega))
  have et2 : h2.2 143 = aI 5 t := (a2.2 143 (by omega)).trans et1
  have F2 : Fx h h2 := f1.tr (a2.fx (by omega) (by omega))
  refine am_run (am_cK _) 1 (show am_wp (am_call (d + 19)) (0, 0) cm_X10_dear Q (fun _ => False) (37, [some (.ref 40), some (.int (nI N)), some (.int (-1)), some (.int (nI 0)), some (.int (nI 0)), some (.int (nI (kN N))), none, none], [], 0, 0) h2 from ?_)
  refine am_lp (α := Option Value × Option Value) (fun i v => (37, [some (.ref 40), some (.int (nI N)), some (.int (drS (mL M) (mS M) N i).1), some (.int (nI (drS (mL M) (mS M) N i).2)), some (.int (nI i)), some (.int (nI (kN N))), v.1, v.2], [], 0, 0)) (fun i _ h' => Fx h h' ∧ RXc h' M a b' dr ∧ h'.2 143 = aI 5 t) (kN N) (fun i v h3 hi P K => ?_) (fun v h3 P => ?_) 0 (none, none) h2 (Nat.zero_le _) ⟨F2, hX2, et2⟩
  · obtain ⟨F3, hX3, et3⟩ := P
    have hk := kR_lt (n := N) (i := i) N1
    refine am_run (am_cK _) 3 (pk_le (kN N) i (fun c => by omega) (fun _ => ?_))
    refine am_run (am_cK _) 2 (am_obj_in hX3.o.1 (am_run (am_cK _) 3 (am_obj_in hX3.k.choose_spec.choose_spec.choose_spec.1 ((K_kind hX3.c hX3.k (by omega) N1 N7 hi (fun h4 a4 k4 => ?_))))))
    have hX4 := hX3.pKL k4 (fun x hx => a4.2 x (by omega))
    have F4 : Fx h h4 := F3.tr (a4.fx (by omega) (by omega))
    have et4 : h4.2 143 = aI 5 t := (a4.2 143 (by omega)).trans et3
    refine am_run (am_cK _) 1 (show am_wp (am_call (d + 19)) (0, 0) cm_X10_dear Q (fun _ => False) (56, [some (.ref 40), some (.int (nI N)), some (.int (drS (mL M) (mS M) N i).1), some (.int (nI (drS (mL M) (mS M) N i).2)), some (.int (nI i)), some (.int (nI (kN N))), some (.int (nI (kR N i))), v.2], [], 0, 0) h4 from ?_)
    refine am_run (am_cK _) 2 (am_obj_in hX4.o.1 (am_run (am_cK _) 3 (am_obj_in hX4.so ((S_hasK hX4.s.1 hs (by omega) hk (fun c => ?_) (fun c => ?_))))))
    · have hh : hasK (mS M) N i = false := by
        unfold hasK
        rw [beq_eq_false_iff_ne]
        exact Nat.ne_of_lt c
      have ed : drS (mL M) (mS M) N (i + 1) = drS (mL M) (mS M) N i := by
        rw [drS, if_neg (fun w => by rw [hh] at w; exact absurd w.1 Bool.false_ne_true)]
      have K2 := K (some (.int (nI (kR N i))), v.2) h4 ⟨F4, hX4, et4⟩
      rw [ed, nI_succ i] at K2
      exact am_run (am_cK _) 1 (⟨fun _ => am_run (am_cK _) 2 (K2), fun w => absurd rfl w⟩)
    · have hh : hasK (mS M) N i = true := by
        unfold hasK
        rw [c]
        rfl
      refine am_run (am_cK _) 1 (⟨fun w => absurd w n10, fun _ => ?_⟩)
      refine am_run (am_cK _) 2 (am_obj_in hX4.o.1 (am_run (am_cK _) 5 (am_obj_in hX4.o.1 ((X_numN hX4 et4 _ ?_)))))
      rw [ec]
      obtain ⟨_, _, _, _, _, _, _, _, eo4, _⟩ := id hX4.r.1
      refine am_run (am_cK _) 1 (am_obj_in eo4 (U_priceK hX4.r.1 hX4.r.2 N1 (by omega) hk (fun h5 a5 r5 => ?_)))
      have hX5 := hX4.pR r5 (fun x hx => a5.2 x (by omega))
      have F5 : Fx h h5 := F4.tr (a5.fx (by omega) (by omega))
      have et5 : h5.2 143 = aI 5 t := (a5.2 143 (by omega)).trans et4
      refine am_run (am_cK _) 1 (show am_wp (am_call (d + 19)) (0, 0) cm_X10_dear Q (fun _ => False) (87, [some (.ref 40), some (.int (nI N)), some (.int (drS (mL M) (mS M) N i).1), some (.int (nI (drS (mL M) (mS M) N i).2)), some (.int (nI i)), some (.int (nI (kN N))), some (.int (nI (kR N i))), some (.int (prK (mL M) (mS M) N (kR N i)))], [], 0, 0) h5 from ?_)
      have K2 := K (some (.int (nI (kR N i))), some (.int (prK (mL M) (mS M) N (kR N i)))) h5 ⟨F5, hX5, et5⟩
      rw [nI_succ i] at K2
      refine am_run (am_cK _) 3 (⟨fun c => ?_, fun c => ?_⟩)
      · have ed : drS (mL M) (mS M) N (i + 1) = drS (mL M) (mS M) N i := by
          rw [drS, if_neg (fun w => Int32.not_lt.mpr c w.2)]
        rw [ed] at K2
        exact am_run (am_cK _) 2 (K2)
      · have ed : drS (mL M) (mS M) N (i + 1) = (prK (mL M) (mS M) N (kR N i), kR N i) := by
          rw [drS, if_pos ⟨hh, Int32.not_le.mp c⟩]
        rw [ed] at K2
        exact am_run (am_cK _) 6 (K2)
  · obtain ⟨F3, hX3, et3⟩ := P
    have hk := drS_lt (L := mL M) (σ := mS M) N1 (kN N)
    generalize drS (mL M) (mS M) N (kN N) = D at hk hQ ⊢
    obtain ⟨D1, s⟩ := D
    simp only at hk hQ ⊢
    refine am_run (am_cK _) 3 (pk_le (kN N) (kN N) (fun _ => ?_) (fun c => by omega))
    refine am_run (am_cK _) 2 (⟨fun c => ?_, fun c => ?_⟩)
    · rw [if_neg (Int32.not_lt.mpr c)] at hQ
      refine am_run (am_cK _) 2 (am_obj_in hX3.o.1 (am_run (am_cK _) 1 (am_obj_in hX3.d.1.1 ((X_begin hX3 (fun h4 a4 hX4 => ?_))))))
      have ed := rk_dg hk
      have hl : ∀ i, i < N → dg s N i < 4 := fun i _ => dg_lt s _ i
      generalize dg s N = f at ed hl hQ
      subst ed
      refine am_run (am_cK _) 2 (am_obj_in hX4.o.1 (am_run (am_cK _) 3 (am_obj_in hX4.d.1.1 ((X_addRow hX4 rfl (by omega) hl (fun h5 a5 hX5 => ?_))))))
      exact am_run (am_cK _) 2 (hQ h5 (F3.tr (Fx2 a4 a5)) ⟨a, b', dr, hX5⟩)
    · rw [if_pos (Int32.not_le.mp c)] at hQ
      exact am_run (am_cK _) 2 (hQ h3 F3 ⟨a, b', dr, hX3⟩)
end
