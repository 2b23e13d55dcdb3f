/-! the kinds in their order: the class -/
theorem lst_lt {f : Nat → Nat} {n : Nat} (hn0 : 0 < n) (hf : ∀ i, i < n → f i < 4) : lst f n < 4 ^ n := by
  obtain ⟨t, ht, e⟩ := lst_ex (f := f) hn0
  rw [e]
  exact rk_lt (trn_lt hf)
def oRank (M : Ms) (b : Int32) : Int32 := if b < 0 ∨ nI (sN (mS M)) ≤ b then -1 else if 7 < sZ (mS M) b.toNatClampNeg then -2 else nI (kAhd (sZ (mS M) b.toNatClampNeg) (lst (sB (mS M) b.toNatClampNeg) (sZ (mS M) b.toNatClampNeg)) (gcN (lst (sB (mS M) b.toNatClampNeg) (sZ (mS M) b.toNatClampNeg)) (sZ (mS M) b.toNatClampNeg)))
/-- a kind is told -/
def tK (M : Ms) (n s : Nat) : Int32 × Ms := (0, pD M (n, fun i => nI (dg s n i)))
def nxN (M : Ms) (n lr : Nat) : Int32 × Ms := if kBeh n lr (gcN lr n) < kN n then tK M n (kR n (kBeh n lr (gcN lr n))) else (-2, M)
def oNext (M : Ms) (b : Int32) : Int32 × Ms := if b < 0 ∨ nI (sN (mS M)) ≤ b then (-1, M) else if 7 < sZ (mS M) b.toNatClampNeg then (-3, M) else nxN M (sZ (mS M) b.toNatClampNeg) (lst (sB (mS M) b.toNatClampNeg) (sZ (mS M) b.toNatClampNeg))
def ntN (M : Ms) (n k m : Nat) : Int32 × Ms := if kAtI n k m < kN n then tK M n (kR n (kAtI n k m)) else (-2, M)
def oNth (M : Ms) (n k m : Int32) : Int32 × Ms := if n < 1 ∨ 7 < n ∨ k < 1 ∨ 4 < k ∨ m < 0 ∨ 999 < m then (-1, M) else ntN M n.toNatClampNeg k.toNatClampNeg m.toNatClampNeg
section
variable {d : Nat} {h : am_H} {Q : Option Value → am_H → Prop} {M : Ms} {a b' : Nat} {dr : Int32}
theorem lk7 {n : Nat} (h1 : 1 ≤ n) (hn : n ≤ 10) : (nI n < 1 ∨ 7 < nI n) ↔ 7 < n := by
  have a1 : nI n < 1 ↔ n < 1 := nI_ltI (b := 1) (by omega) (by omega)
  have a2 : 7 < nI n ↔ 7 < n := nI_ltI (a := 7) (by omega) (by omega)
  rw [a1, a2]
  omega
theorem X_rank (hX : RX h M) (b : Int32) (hQ : ∀ h', Fx h h' → RX h' M → Q (some (.int (oRank M b))) h') : am_call (d + 20) 145 [.ref 40, .int b] h Q := by
  obtain ⟨a, b', dr, hX⟩ := hX
  have hs := hX.s.2
  have hN := hs.1
  obtain ⟨r, z, kk, e0, e1, e2, e3, e4, e5⟩ := id hX.s.1
  unfold oRank at hQ
  refine en_X10_rank (Nat.le_of_ble_eq_true rfl) ?_
  refine am_run (am_cK _) 2 (am_obj_in hX.o.1 (am_run (am_cK _) 2 (am_obj_in hX.so ((S_lacks hX.s.1 hs b (fun c => ?_) (fun j hj e => ?_))))))
  · rw [if_pos c] at hQ
    exact am_run (am_cK _) 1 (⟨fun w => absurd w n10, fun _ => am_run (am_cK _) 2 (hQ h Fx.rf ⟨a, b', dr, hX⟩)⟩)
  · subst e
    rw [if_neg (S_no hs hj), nI_clamp (by omega)] at hQ
    have hz := hs.2.1 j hj
    refine am_run (am_cK _) 1 (⟨fun _ => ?_, fun w => absurd rfl w⟩)
    refine am_run (am_cK _) 2 (am_obj_in hX.o.1 (am_run (am_cK _) 1 (am_obj_in hX.so (am_run (am_cK _) 2 (am_ld e2 j (by omega) ?_)))))
    rw [nI_clamp (by omega), (e4 j hj).2]
    refine am_run (am_cK _) 3 (K_lacks _ (fun c => ?_) (fun c => ?_))
    · rw [if_pos ((lk7 hz.1 hz.2.1).mp c)] at hQ
      exact am_run (am_cK _) 1 (⟨fun w => absurd w n10, fun _ => am_run (am_cK _) 2 (hQ h Fx.rf ⟨a, b', dr, hX⟩)⟩)
    · have c7 : ¬ 7 < sZ (mS M) j := fun w => c ((lk7 hz.1 hz.2.1).mpr w)
      rw [if_neg c7] at hQ
      refine am_run (am_cK _) 1 (⟨fun _ => ?_, fun w => absurd rfl w⟩)
      refine am_run (am_cK _) 2 (am_obj_in hX.o.1 (am_run (am_cK _) 3 (am_obj_in hX.o.1 (am_run (am_cK _) 2 (am_obj_in hX.so ((S_leastRow hX.s.1 hs hj ?_)))))))
      refine am_run (am_cK _) 1 (am_obj_in hX.k.choose_spec.choose_spec.choose_spec.1 ((K_kindsAhead hX.c hX.k (by omega) hz.1 (by omega) (lst_lt hz.1 hz.2.2) (fun h1 a1 k1 => ?_))))
      have hX1 := hX.pKL k1 (fun x hx => a1.2 x (by omega))
      exact am_run (am_cK _) 1 (hQ h1 (a1.fx (by omega) (by omega)) ⟨a, b', dr, hX1⟩)
theorem X_next (hX : RX h M) (b : Int32) (hQ : ∀ h', Fx h h' → RX h' (oNext M b).2 → Q (some (.int (oNext M b).1)) h') : am_call (d + 20) 146 [.ref 40, .int b] h Q := by
  obtain ⟨a, b', dr, hX⟩ := hX
  have hs := hX.s.2
  have hN := hs.1
  obtain ⟨r, z, kk, e0, e1, e2, e3, e4, e5⟩ := id hX.s.1
  unfold oNext at hQ
  refine en_X10_next (Nat.le_of_ble_eq_true rfl) ?_
  refine am_run (am_cK _) 2 (am_obj_in hX.o.1 (am_run (am_cK _) 2 (am_obj_in hX.so ((S_lacks hX.s.1 hs b (fun c => ?_) (fun j hj e => ?_))))))
  · rw [if_pos c] at hQ
    exact am_run (am_cK _) 1 (⟨fun w => absurd w n10, fun _ => am_run (am_cK _) 2 (hQ h Fx.rf ⟨a, b', dr, hX⟩)⟩)
  · subst e
    rw [if_neg (S_no hs hj), nI_clamp (by omega)] at hQ
    have hz := hs.2.1 j hj
    refine am_run (am_cK _) 1 (⟨fun _ => ?_, fun w => absurd rfl w⟩)
    refine am_run (am_cK _) 2 (am_obj_in hX.o.1 (am_run (am_cK _) 1 (am_obj_in hX.so (am_run (am_cK _) 2 (am_ld e2 j (by omega) ?_)))))
    rw [nI_clamp (by omega), (e4 j hj).2]
    refine am_run (am_cK _) 3 (K_lacks _ (fun c => ?_) (fun c => ?_))
    · rw [if_pos ((lk7 hz.1 hz.2.1).mp c)] at hQ
      exact am_run (am_cK _) 1 (⟨fun w => absurd w n10, fun _ => am_run (am_cK _) 2 (hQ h Fx.rf ⟨a, b', dr, hX⟩)⟩)
    · have c7 : ¬ 7 < sZ (mS M) j := fun w => c ((lk7 hz.1 hz.2.1).mpr w)
      rw [if_neg c7] at hQ
      unfold nxN at hQ
      refine am_run (am_cK _) 1 (⟨fun _ => ?_, fun w => absurd rfl w⟩)
      refine am_run (am_cK _) 2 (am_obj_in hX.o.1 (am_run (am_cK _) 3 (am_obj_in hX.o.1 (am_run (am_cK _) 2 (am_obj_in hX.so ((S_leastRow hX.s.1 hs hj ?_)))))))
      refine am_run (am_cK _) 1 (am_obj_in hX.k.choose_spec.choose_spec.choose_spec.1 ((K_kindBehind hX.c hX.k (by omega) hz.1 (by omega) (lst_lt hz.1 hz.2.2) (fun c h1 a1 k1 => ?_) (fun c h1 a1 k1 => ?_))))
      · rw [if_pos c] at hQ
        have hX1 := hX.pKL k1 (fun x hx => a1.2 x (by omega))
        have hk := kR_lt (n := sZ (mS M) j) (i := kBeh (sZ (mS M) j) (lst (sB (mS M) j) (sZ (mS M) j)) (gcN (lst (sB (mS M) j) (sZ (mS M) j)) (sZ (mS M) j))) hz.1
        generalize kR (sZ (mS M) j) (kBeh (sZ (mS M) j) (lst (sB (mS M) j) (sZ (mS M) j)) (gcN (lst (sB (mS M) j) (sZ (mS M) j)) (sZ (mS M) j))) = s at hk hQ ⊢
        have hk2 : s < 2 ^ 20 := Nat.lt_of_lt_of_le hk (Nat.le_trans (Nat.pow_le_pow_right (by decide) (show sZ (mS M) j ≤ 10 from hz.2.1)) (by decide))
        refine am_run (am_cK _) 3 (⟨fun _ => ?_, fun w => absurd (Int32.not_lt.mp (nI_pos (by omega))) w⟩)
        refine am_run (am_cK _) 2 (am_obj_in hX1.o.1 (am_run (am_cK _) 1 (am_obj_in hX1.d.1.1 ((X_begin hX1 (fun h2 a2 hX2 => ?_))))))
        unfold tK at hQ
        have ed := rk_dg hk
        have hl : ∀ i, i < sZ (mS M) j → dg s (sZ (mS M) j) i < 4 := fun i _ => dg_lt s _ i
        generalize dg s (sZ (mS M) j) = f at ed hl hQ
        subst ed
        refine am_run (am_cK _) 2 (am_obj_in hX2.o.1 (am_run (am_cK _) 3 (am_obj_in hX2.d.1.1 ((X_addRow hX2 rfl hz.2.1 hl (fun h3 a3 hX3 => ?_))))))
        exact am_run (am_cK _) 2 (hQ h3 ((a1.fx (by omega) (by omega)).tr (Fx2 a2 a3)) ⟨a, b', dr, hX3⟩)
      · rw [if_neg (by omega)] at hQ
        have hX1 := hX.pKL k1 (fun x hx => a1.2 x (by omega))
        exact am_run (am_cK _) 3 (⟨fun w => absurd (show (0 : Int32) ≤ -1 from w) (by decide), fun _ => am_run (am_cK _) 2 (hQ h1 (a1.fx (by omega) (by omega)) ⟨a, b', dr, hX1⟩)⟩)
theorem X_nth (hX : RX h M) (n k m : Int32) (hQ : ∀ h', Fx h h' → RX h' (oNth M n k m).2 → Q (some (.int (oNth M n k m).1)) h') : am_call (d + 20) 144 [.ref 40, .int n, .int k, .int m] h Q := by
  obtain ⟨a, b', dr, hX⟩ := hX
  unfold oNth at hQ
  have no : (n < 1 ∨ 7 < n ∨ k < 1 ∨ 4 < k ∨ m < 0 ∨ 999 < m) → Q (some (.int (-1))) h := fun c => by
    rw [if_pos c] at hQ
    exact hQ h Fx.rf ⟨a, b', dr, hX⟩
  refine en_X10_nth (Nat.le_of_ble_eq_true rfl) ?_
  refine am_run (am_cK _) 2 (K_lacks n (fun c => ?_) (fun c0 => ?_))
  · refine am_run (am_cK _) 1 (⟨fun _ => am_run (am_cK _) 2 (no (c.elim Or.inl (fun w => Or.inr (Or.inl w)))), fun w => absurd n10 w⟩)
  refine am_run (am_cK _) 1 (⟨fun w => absurd rfl w, fun _ => ?_⟩)
  refine am_run (am_cK _) 4 (B_isNoColour (k - 1) (fun c => ?_) (fun c => ?_))
  · refine am_run (am_cK _) 1 (⟨fun _ => am_run (am_cK _) 2 (no (Or.inr (Or.inr ?_))), fun w => absurd n10 w⟩)
    by_cases z1 : k < 1
    · exact Or.inl z1
    · refine Or.inr (Or.inl (Int32.not_le.mp (fun z => ?_)))
      obtain ⟨q, q1, q4, rfl⟩ := num_in (a := 1) (b := 4) (by omega) (by omega) z1 (Int32.not_lt.mpr z)
      rw [show nI q - 1 = nI (q - 1) from pk_sub (a := q) (b := 1) (by omega)] at c
      exact in_no (i := q - 1) (n := 4) (by omega) (by omega) c
  refine am_run (am_cK _) 1 (⟨fun w => absurd rfl w, fun _ => ?_⟩)
  refine am_run (am_cK _) 2 (⟨fun c => am_run (am_cK _) 2 (no (Or.inr (Or.inr (Or.inr (Or.inr (Or.inl c)))))), fun c3 => am_run (am_cK _) 3 (⟨fun c4 => ?_, fun c4 => am_run (am_cK _) 2 (no (Or.inr (Or.inr (Or.inr (Or.inr (Or.inr (Int32.not_le.mp c4)))))))⟩)⟩)
  obtain ⟨q, hq, eq⟩ := S_num2 (n := 4) (by omega) c
  have ek : k = nI (q + 1) := by
    rw [← nI_1, ← eq]
    exact (Int32.sub_add_cancel _ _).symm
  subst ek
  obtain ⟨N, N1, N7, rfl⟩ := num_in (a := 1) (b := 7) (by omega) (by omega) (fun w => c0 (Or.inl w)) (fun w => c0 (Or.inr w))
  obtain ⟨p, p0, p9, rfl⟩ := num_in (a := 0) (b := 999) (by omega) (by omega) c3 (Int32.not_lt.mpr c4)
  rw [if_neg (by
    rintro (z | z | z | z | z | z)
    · exact c0 (Or.inl z)
    · exact c0 (Or.inr z)
    · exact nI_nlt (a := q + 1) (b := 1) (by omega) (by omega) z
    · exact nI_nlt (a := 4) (b := q + 1) (by omega) (by omega) z
    · exact c3 z
    · exact Int32.not_lt.mpr c4 z), nI_clamp (by omega), nI_clamp (by omega), nI_clamp (by omega)] at hQ
  unfold ntN at hQ
  refine am_run (am_cK _) 2 (am_obj_in hX.o.1 (am_run (am_cK _) 4 (am_obj_in hX.k.choose_spec.choose_spec.choose_spec.1 ((K_kindAt hX.c hX.k (by omega) N1 N7 (show q + 1 ≤ 4 by omega) p9 (fun c h1 a1 k1 => ?_) (fun c h1 a1 k1 => ?_))))))
  · rw [if_pos c] at hQ
    have hX1 := hX.pKL k1 (fun x hx => a1.2 x (by omega))
    have hk := kR_lt (n := N) (i := kAtI N (q + 1) p) N1
    generalize kR N (kAtI N (q + 1) p) = s at hk hQ ⊢
    have hk2 : s < 2 ^ 20 := Nat.lt_of_lt_of_le hk (Nat.le_trans (Nat.pow_le_pow_right (by decide) (show N ≤ 10 by omega)) (by decide))
    refine am_run (am_cK _) 3 (⟨fun _ => ?_, fun w => absurd (Int32.not_lt.mp (nI_pos (by omega))) w⟩)
    refine am_run (am_cK _) 2 (am_obj_in hX1.o.1 (am_run (am_cK _) 1 (am_obj_in hX1.d.1.1 ((X_begin hX1 (fun h2 a2 hX2 => ?_))))))
    unfold tK at hQ
    have ed := rk_dg hk
    have hl : ∀ i, i < N → dg s N i < 4 := fun i _ => dg_lt s _ i
    generalize dg s N = f at ed hl hQ
    subst ed
    refine am_run (am_cK _) 2 (am_obj_in hX2.o.1 (am_run (am_cK _) 3 (am_obj_in hX2.d.1.1 ((X_addRow hX2 rfl (by omega) hl (fun h3 a3 hX3 => ?_))))))
    exact am_run (am_cK _) 2 (hQ h3 ((a1.fx (by omega) (by omega)).tr (Fx2 a2 a3)) ⟨a, b', dr, hX3⟩)
  · rw [if_neg (by omega)] at hQ
    have hX1 := hX.pKL k1 (fun x hx => a1.2 x (by omega))
    exact am_run (am_cK _) 3 (⟨fun w => absurd (show (0 : Int32) ≤ -1 from w) (by decide), fun _ => am_run (am_cK _) 2 (hQ h1 (a1.fx (by omega) (by omega)) ⟨a, b', dr, hX1⟩)⟩)
end
