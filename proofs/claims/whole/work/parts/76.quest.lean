/-! questions: what they answer -/
def noB (M : Ms) (b : Int32) : Prop := b < 0 ∨ nI (sN (mS M)) ≤ b
def oLeastN (M : Ms) (j : Nat) : Int32 × Ms := (nI (tnm (sZ (mS M) j) (bT (sB (mS M) j) (sZ (mS M) j) (2 * sZ (mS M) j))), pD M (sZ (mS M) j, fun i => nI (trn (sB (mS M) j) (sZ (mS M) j) (bT (sB (mS M) j) (sZ (mS M) j) (2 * sZ (mS M) j)) i)))
def oLeast (M : Ms) (b : Int32) : Int32 × Ms := if b < 0 ∨ nI (sN (mS M)) ≤ b then (-1, M) else oLeastN M b.toNatClampNeg
def oAlikeN (M : Ms) (j k : Nat) : Int32 × Ms := if sZ (mS M) j = sZ (mS M) k then (let t := fT (sB (mS M) j) (sZ (mS M) j) (rk (sB (mS M) k) (sZ (mS M) j)); if t < 2 * sZ (mS M) j then (nI (tnm (sZ (mS M) j) t), pD M (1, w1 (nI (sty (sB (mS M) j) (sZ (mS M) j))))) else (-2, M)) else (-2, M)
def oAlike (M : Ms) (b o : Int32) : Int32 × Ms := if b < 0 ∨ nI (sN (mS M)) ≤ b ∨ o < 0 ∨ nI (sN (mS M)) ≤ o then (-1, M) else oAlikeN M b.toNatClampNeg o.toNatClampNeg
def oKinds (M : Ms) : Int32 × Ms := (nI (kNo (mS M)), pD M (sN (mS M), fun i => nI (fAl (mS M) i)))
/-- the first turning that is nearest -/
def bF (f : Nat → Nat) (n : Nat) (g : Nat → Nat) : Nat → Nat
  | 0 => 0
  | i + 1 => if ofb f n g i < ofb f n g (bF f n g i) then i else bF f n g i
theorem bF_lt {f g : Nat → Nat} {n : Nat} : ∀ i, 0 < i → bF f n g i < i
  | 0, h => absurd h (Nat.lt_irrefl 0)
  | i + 1, _ => by
    rw [bF]
    split
    · omega
    · cases i with
      | zero => exact Nat.lt_succ_self 0
      | succ i => have := bF_lt (f := f) (g := g) (n := n) (i + 1) (by omega); omega
def oFarN (M : Ms) (j k : Nat) : Int32 × Ms := if sZ (mS M) j = sZ (mS M) k then (nI (ofb (sB (mS M) j) (sZ (mS M) j) (sB (mS M) k) (bF (sB (mS M) j) (sZ (mS M) j) (sB (mS M) k) (2 * sZ (mS M) j))), pD M (1, w1 (nI (tnm (sZ (mS M) j) (bF (sB (mS M) j) (sZ (mS M) j) (sB (mS M) k) (2 * sZ (mS M) j)))))) else (-2, M)
def oFar (M : Ms) (b o : Int32) : Int32 × Ms := if b < 0 ∨ nI (sN (mS M)) ≤ b ∨ o < 0 ∨ nI (sN (mS M)) ≤ o then (-1, M) else oFarN M b.toNatClampNeg o.toNatClampNeg
/-- where a word comes -/
def plc (f : Nat → Nat) (n : Nat) (v w : Nat) : Nat → Bool := fun i => rk (rol f n i) w == v
def oFindsN (M : Ms) (j : Nat) : Int32 × Ms := if sZ (mS M) j < (mT M).1 then (-101, pT M (0, (mT M).2)) else (nI (bts (plc (sB (mS M) j) (sZ (mS M) j) (rk (wBd (mT M).2) (mT M).1) (mT M).1) (sZ (mS M) j)), pD (pT M (0, (mT M).2)) (1, w1 (nI (cnt (plc (sB (mS M) j) (sZ (mS M) j) (rk (wBd (mT M).2) (mT M).1) (mT M).1) (sZ (mS M) j)))))
def oFinds (M : Ms) (b : Int32) : Int32 × Ms := if wFl (mT M).2 (mT M).1 = 0 then (if b < 0 ∨ nI (sN (mS M)) ≤ b then (-100, pT M (0, (mT M).2)) else oFindsN M b.toNatClampNeg) else (wFl (mT M).2 (mT M).1, pT M (0, (mT M).2))
section
variable {d : Nat} {h : am_H} {Q : Option Value → am_H → Prop} {M : Ms} {a b : Nat} {dr : Int32}
theorem X_least (hX : RX h M) (b : Int32) (hQ : ∀ h', Fx h h' → RX h' (oLeast M b).2 → Q (some (.int (oLeast M b).1)) h') : am_call (d + 20) 134 [.ref 40, .int b] h Q := by
  obtain ⟨a, b', dr, hX⟩ := hX
  have hs := hX.s.2
  have hN := hs.1
  obtain ⟨r, z, kk, e0, e1, e2, e3, e4, e5⟩ := hX.s.1
  unfold oLeast at hQ
  refine en_X10_least (Nat.le_of_ble_eq_true rfl) ?_
  refine am_run (am_cK _) 2 (am_obj_in hX.o.1 (am_run (am_cK _) 2 (am_obj_in hX.so ((S_lacks hX.s.1 hs b (fun c => ?_) (fun j hj e => ?_))))))
  · rw [if_pos c] at hQ
    exact am_run (am_cK _) 1 (⟨fun w => absurd w n10, fun _ => am_run (am_cK _) 2 (hQ h Fx.rf ⟨a, b', dr, hX⟩)⟩)
  · subst e
    rw [if_neg (S_no hs hj), nI_clamp (by omega)] at hQ
    have hz := hs.2.1 j hj
    refine am_run (am_cK _) 1 (⟨fun _ => ?_, fun w => absurd rfl w⟩)
    refine am_run (am_cK _) 2 (am_obj_in hX.o.1 (am_run (am_cK _) 1 (am_obj_in hX.so (am_run (am_cK _) 2 (am_ld e1 j (by omega) ?_)))))
    rw [nI_clamp (by omega), (e4 j hj).1]
    refine am_run (am_cK _) 3 (am_obj_in hX.o.1 (am_run (am_cK _) 1 (am_obj_in hX.so (am_run (am_cK _) 2 (am_ld e2 j (by omega) ?_)))))
    rw [nI_clamp (by omega), (e4 j hj).2]
    refine am_run (am_cK _) 4 (B_leastRow (by omega) hz.2.1 hz.2.2 ?_)
    have hsm : lst (sB (mS M) j) (sZ (mS M) j) < 2 ^ 20 := lst_small hz.2.1 hz.2.2
    refine am_run (am_cK _) 3 (am_obj_in hX.o.1 (am_run (am_cK _) 1 (am_obj_in hX.d.1.1 ((X_begin hX (fun h1 a1 hX1 => ?_))))))
    have hb := bT_lt (f := sB (mS M) j) (n := sZ (mS M) j) (2 * sZ (mS M) j) (by omega)
    refine am_run (am_cK _) 2 (am_obj_in hX1.o.1 (am_run (am_cK _) 3 (am_obj_in hX1.d.1.1 ((show am_call (d + 19) 113 [.ref 131, .int (nI (lst (sB (mS M) j) (sZ (mS M) j))), .int (nI (sZ (mS M) j))] h1 _ from ?_)))))
    rw [← bT_lst (by omega)]
    refine X_addRow hX1 rfl hz.2.1 (trn_lt hz.2.2) (fun h2 a2 hX2 => ?_)
    refine am_run (am_cK _) 4 (show am_call (d + 19) 10 [.int (nI (rk (sB (mS M) j) (sZ (mS M) j))), .int (nI (kT (sB (mS M) j) (sZ (mS M) j) (bT (sB (mS M) j) (sZ (mS M) j) (2 * sZ (mS M) j)))), .int (nI (sZ (mS M) j))] h2 _ from ?_)
    rw [bT_lst (by omega)]
    have ef := bT_fT (f := sB (mS M) j) (n := sZ (mS M) j) (by omega)
    refine B_firstTurning (by omega) hz.2.1 hz.2.2 hsm (fun c => ?_) (fun c => by omega)
    rw [ef]
    exact am_run (am_cK _) 1 (hQ h2 ((a1.fx (by omega) (by omega)).tr (a2.fx (by omega) (by omega))) ⟨a, b', dr, hX2⟩)
theorem X_alike (hX : RX h M) (b o : Int32) (hQ : ∀ h', Fx h h' → RX h' (oAlike M b o).2 → Q (some (.int (oAlike M b o).1)) h') : am_call (d + 20) 135 [.ref 40, .int b, .int o] h Q := by
  obtain ⟨a, b', dr, hX⟩ := hX
  have hs := hX.s.2
  have hN := hs.1
  obtain ⟨r, z, kk, e0, e1, e2, e3, e4, e5⟩ := hX.s.1
  unfold oAlike at hQ
  have no : (b < 0 ∨ nI (sN (mS M)) ≤ b ∨ o < 0 ∨ nI (sN (mS M)) ≤ o) → Q (some (.int (-1))) h := fun c => by
    rw [if_pos c] at hQ
    exact hQ h Fx.rf ⟨a, b', dr, hX⟩
  refine en_X10_alike (Nat.le_of_ble_eq_true rfl) ?_
  refine am_run (am_cK _) 2 (am_obj_in hX.o.1 (am_run (am_cK _) 2 (am_obj_in hX.so ((S_lacks hX.s.1 hs b (fun c => ?_) (fun j hj e => ?_))))))
  · exact am_run (am_cK _) 1 (⟨fun _ => am_run (am_cK _) 2 (no (c.elim Or.inl (fun z => Or.inr (Or.inl z)))), fun w => absurd n10 w⟩)
  subst e
  refine am_run (am_cK _) 1 (⟨fun w => absurd rfl w, fun _ => ?_⟩)
  refine am_run (am_cK _) 2 (am_obj_in hX.o.1 (am_run (am_cK _) 2 (am_obj_in hX.so ((S_lacks hX.s.1 hs o (fun c => ?_) (fun k hk e => ?_))))))
  · exact am_run (am_cK _) 1 (⟨fun w => absurd w n10, fun _ => am_run (am_cK _) 2 (no (c.elim (fun z => Or.inr (Or.inr (Or.inl z))) (fun z => Or.inr (Or.inr (Or.inr z)))))⟩)
  subst e
  rw [if_neg (by
    rintro (w | w | w | w)
    · exact S_no hs hj (Or.inl w)
    · exact S_no hs hj (Or.inr w)
    · exact S_no hs hk (Or.inl w)
    · exact S_no hs hk (Or.inr w)), nI_clamp (by omega), nI_clamp (by omega)] at hQ
  have hz := hs.2.1 j hj
  have hz2 := hs.2.1 k hk
  unfold oAlikeN at hQ
  refine am_run (am_cK _) 1 (⟨fun _ => ?_, fun w => absurd rfl w⟩)
  refine am_run (am_cK _) 2 (am_obj_in hX.o.1 (am_run (am_cK _) 1 (am_obj_in hX.so (am_run (am_cK _) 2 (am_ld e2 j (by omega) ?_)))))
  rw [nI_clamp (by omega), (e4 j hj).2]
  refine am_run (am_cK _) 4 (am_obj_in hX.o.1 (am_run (am_cK _) 1 (am_obj_in hX.so (am_run (am_cK _) 2 (am_ld e2 k (by omega) ?_)))))
  rw [nI_clamp (by omega), (e4 k hk).2]
  refine am_run (am_cK _) 1 (⟨fun c => ?_, fun c => ?_⟩)
  · have ez : sZ (mS M) j = sZ (mS M) k := (nI_eq (by omega) (by omega)).mp c
    rw [if_pos ez] at hQ
    simp only at hQ
    have hsm : rk (sB (mS M) k) (sZ (mS M) j) < 2 ^ 20 := by rw [ez]; exact rk_small hz2.2.1 hz2.2.2
    refine am_run (am_cK _) 2 (am_obj_in hX.o.1 (am_run (am_cK _) 1 (am_obj_in hX.so (am_run (am_cK _) 2 (am_ld e1 j (by omega) ?_)))))
    rw [nI_clamp (by omega), (e4 j hj).1]
    refine am_run (am_cK _) 4 (am_obj_in hX.o.1 (am_run (am_cK _) 1 (am_obj_in hX.so (am_run (am_cK _) 2 (am_ld e1 k (by omega) ?_)))))
    rw [nI_clamp (by omega), (e4 k hk).1, ← ez]
    refine am_run (am_cK _) 2 (B_firstTurning (by omega) hz.2.1 hz.2.2 hsm (fun c => ?_) (fun c => ?_))
    · rw [if_pos c] at hQ
      have htn : tnm (sZ (mS M) j) (fT (sB (mS M) j) (sZ (mS M) j) (rk (sB (mS M) k) (sZ (mS M) j))) < 2 ^ 31 := by unfold tnm; split <;> omega
      refine am_run (am_cK _) 3 (⟨fun _ => ?_, fun w => absurd (nI_pos' htn) w⟩)
      refine am_run (am_cK _) 2 (am_obj_in hX.o.1 (am_run (am_cK _) 1 (am_obj_in hX.d.1.1 ((X_begin hX (fun h1 a1 hX1 => ?_))))))
      refine am_run (am_cK _) 2 (am_obj_in hX1.o.1 (am_run (am_cK _) 3 (B_stays (by omega) hz.2.1 hz.2.2 ?_)))
      refine am_run (am_cK _) 1 (am_obj_in hX1.d.1.1 ((X_add hX1 (show 0 < 16 by omega) _ (fun h2 a2 hX2 => ?_))))
      exact am_run (am_cK _) 2 (hQ h2 ((a1.fx (by omega) (by omega)).tr (a2.fx (by omega) (by omega))) ⟨a, b', dr, RX_dc hX2 (fun i hi => by
        have hi0 : i = 0 := by have : i < 1 := hi; omega
        subst hi0
        rfl)⟩)
    · rw [if_neg (by omega)] at hQ
      exact am_run (am_cK _) 3 (⟨fun w => absurd (show (0 : Int32) ≤ -1 from w) (by decide), fun _ => am_run (am_cK _) 2 (hQ h Fx.rf ⟨a, b', dr, hX⟩)⟩)
  · rw [if_neg (fun w => c (congrArg nI w))] at hQ
    exact am_run (am_cK _) 2 (hQ h Fx.rf ⟨a, b', dr, hX⟩)
theorem X_kinds (hX : RX h M) (hQ : ∀ h', Fx h h' → RX h' (oKinds M).2 → Q (some (.int (oKinds M).1)) h') : am_call (d + 20) 136 [.ref 40] h Q := by
  obtain ⟨a, b', dr, hX⟩ := hX
  have hs := hX.s.2
  have hN := hs.1
  refine en_X10_kinds (Nat.le_of_ble_eq_true rfl) ?_
  refine am_run (am_cK _) 2 (am_obj_in hX.o.1 (am_run (am_cK _) 1 (am_obj_in hX.d.1.1 ((X_begin hX (fun h1 a1 hX1 => ?_))))))
  refine am_run (am_cK _) 2 ?_
  refine am_lp (α := Nat → Int32) (fun q _ => (9, [some (.ref 40), some (.int (nI q))], [], 0, 0)) (fun q w h' => Fx h h' ∧ RXc h' (pD M (q, w)) a b' dr ∧ ∀ i, i < q → w i = nI (fAl (mS M) i)) (sN (mS M)) (fun q w h2 hq P K => ?_) (fun w h2 P => ?_) 0 (mD M).2 h1 (Nat.zero_le _) ⟨a1.fx (by omega) (by omega), hX1, fun i hi => by omega⟩
  · obtain ⟨F2, hX2, p1⟩ := P
    refine am_run (am_cK _) 3 (am_obj_in hX2.o.1 (am_run (am_cK _) 1 (am_obj_in hX2.so (am_run (am_cK _) 1 (pk_le (sN (mS M)) q (fun c => by omega) (fun _ => ?_))))))
    refine am_run (am_cK _) 2 (am_obj_in hX2.o.1 (am_run (am_cK _) 2 (am_obj_in hX2.o.1 (am_run (am_cK _) 2 (am_obj_in hX2.so (S_firstAlike hX2.s.1 hs hq ?_))))))
    refine am_run (am_cK _) 1 (am_obj_in hX2.d.1.1 ((X_add hX2 (show q < 16 by omega) _ (fun h3 a3 hX3 => ?_))))
    have K2 := K _ h3 ⟨F2.tr (a3.fx (by omega) (by omega)), hX3, fun i hi => (by
      by_cases e : i = q
      · subst e; exact upd_s
      · exact (upd_n e).trans (p1 i (by omega)))⟩
    rw [nI_succ] at K2
    exact am_run (am_cK _) 2 (K2)
  · obtain ⟨F2, hX2, p1⟩ := P
    refine am_run (am_cK _) 3 (am_obj_in hX2.o.1 (am_run (am_cK _) 1 (am_obj_in hX2.so (am_run (am_cK _) 1 (pk_le (sN (mS M)) (sN (mS M)) (fun _ => ?_) (fun c => by omega))))))
    refine am_run (am_cK _) 2 (am_obj_in hX2.o.1 (am_run (am_cK _) 1 (am_obj_in hX2.so ((S_kindNumber hX2.s.1 hs ?_)))))
    exact am_run (am_cK _) 1 (hQ h2 F2 ⟨a, b', dr, RX_dc hX2 p1⟩)
theorem X_far (hX : RX h M) (b o : Int32) (hQ : ∀ h', Fx h h' → RX h' (oFar M b o).2 → Q (some (.int (oFar M b o).1)) h') : am_call (d + 20) 137 [.ref 40, .int b, .int o] h Q := by
  obtain ⟨a, b', dr, hX⟩ := hX
  have hs := hX.s.2
  have hN := hs.1
  obtain ⟨r, z, kk, e0, e1, e2, e3, e4, e5⟩ := hX.s.1
  unfold oFar at hQ
  have no : (b < 0 ∨ nI (sN (mS M)) ≤ b ∨ o < 0 ∨ nI (sN (mS M)) ≤ o) → Q (some (.int (-1))) h := fun c => by
    rw [if_pos c] at hQ
    exact hQ h Fx.rf ⟨a, b', dr, hX⟩
  refine en_X10_far (Nat.le_of_ble_eq_true rfl) ?_
  refine am_run (am_cK _) 2 (am_obj_in hX.o.1 (am_run (am_cK _) 2 (am_obj_in hX.so ((S_lacks hX.s.1 hs b (fun c => ?_) (fun j hj e => ?_))))))
  · exact am_run (am_cK _) 1 (⟨fun _ => am_run (am_cK _) 2 (no (c.elim Or.inl (fun z => Or.inr (Or.inl z)))), fun w => absurd n10 w⟩)
  subst e
  refine am_run (am_cK _) 1 (⟨fun w => absurd rfl w, fun _ => ?_⟩)
  refine am_run (am_cK _) 2 (am_obj_in hX.o.1 (am_run (am_cK _) 2 (am_obj_in hX.so ((S_lacks hX.s.1 hs o (fun c => ?_) (fun k hk e => ?_))))))
  · exact am_run (am_cK _) 1 (⟨fun w => absurd w n10, fun _ => am_run (am_cK _) 2 (no (c.elim (fun z => Or.inr (Or.inr (Or.inl z))) (fun z => Or.inr (Or.inr (Or.inr z)))))⟩)
  subst e
  rw [if_neg (by
    rintro (w | w | w | w)
    · exact S_no hs hj (Or.inl w)
    · exact S_no hs hj (Or.inr w)
    · exact S_no hs hk (Or.inl w)
    · exact S_no hs hk (Or.inr w)), nI_clamp (by omega), nI_clamp (by omega)] at hQ
  have hz := hs.2.1 j hj
  have hz2 := hs.2.1 k hk
  unfold oFarN at hQ
  refine am_run (am_cK _) 1 (⟨fun _ => ?_, fun w => absurd rfl w⟩)
  refine am_run (am_cK _) 2 (am_obj_in hX.o.1 (am_run (am_cK _) 1 (am_obj_in hX.so (am_run (am_cK _) 2 (am_ld e2 j (by omega) ?_)))))
  rw [nI_clamp (by omega), (e4 j hj).2]
  refine am_run (am_cK _) 4 (am_obj_in hX.o.1 (am_run (am_cK _) 1 (am_obj_in hX.so (am_run (am_cK _) 2 (am_ld e2 k (by omega) ?_)))))
  rw [nI_clamp (by omega), (e4 k hk).2]
  refine am_run (am_cK _) 1 (⟨fun c => ?_, fun c => ?_⟩)
  · have ez : sZ (mS M) j = sZ (mS M) k := (nI_eq (by omega) (by omega)).mp c
    rw [if_pos ez] at hQ
    have hg : ∀ i, i < sZ (mS M) j → sB (mS M) k i < 4 := fun i hi => hz2.2.2 i (by omega)
    generalize hf : sB (mS M) j = f at *
    generalize hgg : sB (mS M) k = g at *
    generalize hn : sZ (mS M) j = n at *
    have lp := am_loopP (call := am_call (d + 19)) (lim := (0, 0)) (M := cm_X10_far) (Q := Q) (X := fun _ => False) (h := h) (α := Nat × Nat × Option Value) (fun i j' => (61, [some (.ref 40), some (.int (nI j)), some (.int (nI k)), some (.int (nI n)), some (.int (nI j'.1)), some (.int (nI j'.2.1)), some (.int (nI i)), j'.2.2], [], 0, 0)) (fun i j' => (i = 0 ∧ j'.1 = n + 1 ∧ j'.2.1 = 0) ∨ (0 < i ∧ j'.2.1 = bF f n g i ∧ j'.1 = ofb f n g (bF f n g i))) (2 * n) (fun i j' hi P K => ?_) (fun j' P => ?_) 0 (n + 1, 0, none) (Nat.zero_le _) (Or.inl ⟨rfl, rfl, rfl⟩)
    · simp only at lp
      rw [nI_succ] at lp
      exact am_run (am_cK _) 8 (lp)
    · obtain ⟨fw, bs, jv⟩ := j'
      replace P : (i = 0 ∧ fw = n + 1 ∧ bs = 0) ∨ (0 < i ∧ bs = bF f n g i ∧ fw = ofb f n g (bF f n g i)) := P
      refine am_run (am_cK _) 5 (pk_le (2 * n) i (fun c => by omega) (fun _ => ?_) (hx := two_n n))
      refine am_run (am_cK _) 2 (am_obj_in hX.o.1 (am_run (am_cK _) 1 (am_obj_in hX.so (am_run (am_cK _) 2 (am_ld e1 j (by omega) ?_)))))
      rw [nI_clamp (by omega), (e4 j hj).1, hf, hn]
      refine am_run (am_cK _) 3 (B_turned (by omega) hz.2.1 hi hz.2.2 ?_)
      refine am_run (am_cK _) 2 (am_obj_in hX.o.1 (am_run (am_cK _) 1 (am_obj_in hX.so (am_run (am_cK _) 2 (am_ld e1 k (by omega) ?_)))))
      rw [nI_clamp (by omega), (e4 k hk).1, hgg, ← ez]
      refine am_run (am_cK _) 1 (B_apart hz.2.1 (trn_lt hz.2.2) hg ?_)
      have hle : dif (trn f n i) g n ≤ n := cnt_le _ _
      have hfw : fw ≤ n + 1 := by
        rcases P with P | P
        · omega
        · have : ofb f n g (bF f n g i) ≤ n := cnt_le _ _
          omega
      refine am_run (am_cK _) 4 (pk_le fw (dif (trn f n i) g n) (fun c => ?_) (fun c => ?_))
      · rcases P with P | P
        · omega
        · have K2 := K (fw, bs, some (.int (nI (dif (trn f n i) g n)))) (Or.inr ⟨by omega, by
            show bs = bF f n g (i + 1)
            rw [bF, if_neg (by unfold ofb at *; omega)]; exact P.2.1, by
            show fw = ofb f n g (bF f n g (i + 1))
            rw [bF, if_neg (by unfold ofb at *; omega)]; exact P.2.2⟩)
          simp only at K2
          rw [nI_succ] at K2
          exact am_run (am_cK _) 2 (K2)
      · have ei : bF f n g (i + 1) = i := by
          rcases P with P | P
          · obtain ⟨rfl, _, _⟩ := P
            rw [bF]; split <;> rfl
          · rw [bF, if_pos (by unfold ofb at *; omega)]
        have K2 := K (dif (trn f n i) g n, i, some (.int (nI (dif (trn f n i) g n)))) (Or.inr ⟨by omega, ei.symm, by rw [ei]; rfl⟩)
        simp only at K2
        rw [nI_succ] at K2
        exact am_run (am_cK _) 6 (K2)
    · obtain ⟨fw, bs, jv⟩ := j'
      replace P : (2 * n = 0 ∧ fw = n + 1 ∧ bs = 0) ∨ (0 < 2 * n ∧ bs = bF f n g (2 * n) ∧ fw = ofb f n g (bF f n g (2 * n))) := P
      have P := P.resolve_left (by omega)
      have hb := bF_lt (f := f) (n := n) (g := g) (2 * n) (by omega)
      refine am_run (am_cK _) 5 (pk_le (2 * n) (2 * n) (fun _ => ?_) (fun c => by omega) (hx := two_n n))
      refine am_run (am_cK _) 2 (am_obj_in hX.o.1 (am_run (am_cK _) 1 (am_obj_in hX.d.1.1 ((X_begin hX (fun h1 a1 hX1 => ?_))))))
      refine am_run (am_cK _) 2 (am_obj_in hX1.o.1 (am_run (am_cK _) 3 (B_turningName (t := bs) hz.2.1 (by omega) ?_)))
      refine am_run (am_cK _) 1 (am_obj_in hX1.d.1.1 ((X_add hX1 (show 0 < 16 by omega) _ (fun h2 a2 hX2 => ?_))))
      rw [← P.2.2, ← P.2.1] at hQ
      exact am_run (am_cK _) 2 (hQ h2 ((a1.fx (by omega) (by omega)).tr (a2.fx (by omega) (by omega))) ⟨a, b', dr, RX_dc hX2 (fun i hi => by
        have hi0 : i = 0 := by have : i < 1 := hi; omega
        subst hi0
        rfl)⟩)
  · rw [if_neg (fun w => c (congrArg nI w))] at hQ
    exact am_run (am_cK _) 2 (hQ h Fx.rf ⟨a, b', dr, hX⟩)
end
