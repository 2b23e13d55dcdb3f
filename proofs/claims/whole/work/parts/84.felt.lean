/-! what was felt, what was heard: the class -/
def rLp (F G : Nat → Nat) (m : Nat) (f : Nat → Nat) (n : Nat) : Nat → Bool := fun k => allB (fun i => rol f n k (F i % n) == G i) m
def mRL (M : Ms) (j : Nat) : Nat → Bool := rLp (mF M).2.1 (mF M).2.2 (mF M).1 (sB (mS M) j) (sZ (mS M) j)
def mRb (M : Ms) (j : Nat) : Nat := bts (mRL M j) (sZ (mS M) j)
def oGuessN (M : Ms) (j : Nat) : Int32 × Ms := (nI (mRb M j), pD M (2, w2 (nI (cnt (mRL M j) (sZ (mS M) j))) (nI (mRb M j % 2))))
def oGuess (M : Ms) (b : Int32) : Int32 × Ms := if b < 0 ∨ nI (sN (mS M)) ≤ b then (-1, M) else oGuessN M b.toNatClampNeg
def bM (f : Nat → Nat) (n L : Nat) : Nat → Nat
  | 0 => 0
  | i + 1 => if mLf f n L i < mLf f n L (bM f n L i) then i else bM f n L i
theorem bM_lt {f : Nat → Nat} {n L : Nat} : ∀ i, 0 < i → bM f n L i < i
  | 0, h => absurd h (Nat.lt_irrefl 0)
  | i + 1, _ => by
    rw [bM]
    split
    · omega
    · cases i with
      | zero => exact Nat.lt_succ_self 0
      | succ i => have := bM_lt (f := f) (n := n) (L := L) (i + 1) (by omega); omega
theorem mLf_le (f : Nat → Nat) (n L x : Nat) : mLf f n L x ≤ n := mxF_le (fun c _ => cnt_le _ _)
def oFeelsN (M : Ms) (j : Nat) : Int32 × Ms := if mRb M j = 0 then (-2, M) else (nI (bM (sB (mS M) j) (sZ (mS M) j) (mRb M j) (sZ (mS M) j)), pD M (1, w1 (nI (mLf (sB (mS M) j) (sZ (mS M) j) (mRb M j) (bM (sB (mS M) j) (sZ (mS M) j) (mRb M j) (sZ (mS M) j))))))
def oFeels (M : Ms) (b : Int32) : Int32 × Ms := if b < 0 ∨ nI (sN (mS M)) ≤ b then (-1, M) else oFeelsN M b.toNatClampNeg
def fTp (M : Ms) : Nat → Bool := fun b => allB (fun i => iSo ((mH M).2.1 i) ((mH M).2.2 i) (sB (mS M) b) (sZ (mS M) b)) (mH M).1
def fTb (M : Ms) : Nat := bts (fTp M) (sN (mS M))
def oFits (M : Ms) : Int32 × Ms := (nI (fTb M), pD M (1, w1 (nI (cnt (fTp M) (sN (mS M))))))
def vq (q : Nat) : Bool := if q / 10 = 1 then decide (q % 10 < 4) else decide (1 ≤ q % 10)
def sq (M : Ms) (q : Nat) : Nat := cnt (fun b => fTp M b && iSo (q / 10) (q % 10) (sB (mS M) b) (sZ (mS M) b)) (sN (mS M))
def av (M : Ms) (q : Nat) : Nat := Nat.max (sq M q) (cnt (fTp M) (sN (mS M)) - sq M q)
def aS (M : Ms) : Nat → Nat × Nat
  | 0 => (6, 0)
  | q + 1 => if vq q = true ∧ av M q < (aS M q).1 then (av M q, q) else aS M q
def oAsks (M : Ms) : Int32 × Ms := if fTb M = 0 then (-2, M) else (nI (aS M 40).2, pD M (1, w1 (nI (aS M 40).1)))
theorem cnt_mono {p q : Nat → Bool} (h : ∀ i, p i = true → q i = true) : ∀ n, cnt p n ≤ cnt q n
  | 0 => Nat.le_refl _
  | n + 1 => by
    have ih := cnt_mono h n
    rw [cnt, cnt]
    by_cases e : p n = true
    · rw [if_pos e, if_pos (h n e)]; omega
    · rw [if_neg e]; split <;> omega
theorem sq_le (M : Ms) (q : Nat) : sq M q ≤ cnt (fTp M) (sN (mS M)) := cnt_mono (fun i hi => by rw [Bool.and_eq_true] at hi; exact hi.1) _
theorem av_le {M : Ms} (hs : Sok (mS M)) (q : Nat) : av M q ≤ 5 := by
  have h1 := sq_le M q
  have h2 := cnt_le (fTp M) (sN (mS M))
  have h3 := hs.1
  exact Nat.max_le.mpr ⟨by omega, by omega⟩
theorem aS_le {M : Ms} (hs : Sok (mS M)) : ∀ q, (aS M q).1 ≤ 6 ∧ (aS M q).2 ≤ q
  | 0 => ⟨Nat.le_refl _, Nat.zero_le _⟩
  | q + 1 => by
    have ih := aS_le hs q
    have := av_le hs q
    rw [aS]
    split
    · exact ⟨by show av M q ≤ 6; omega, by show q ≤ q + 1; omega⟩
    · exact ⟨ih.1, by omega⟩
theorem vq_hOK : ∀ q, q < 40 → (hOKb (nI (q / 10)) (nI (q % 10)) = vq q) := by decide +kernel
theorem vq_ok : ∀ q, q < 40 → vq q = true → q / 10 ≤ 3 ∧ q % 10 ≤ 9 ∧ (q / 10 = 1 → q % 10 < 4) := by decide +kernel
theorem i5 (n : Nat) (h : n ≤ 5) : n ≤ 10 := by omega
section
variable {d : Nat} {h : am_H} {Q : Option Value → am_H → Prop} {M : Ms} {a b : Nat} {dr : Int32}
theorem X_guess (hX : RX h M) (b : Int32) (hQ : ∀ h', Fx h h' → RX h' (oGuess M b).2 → Q (some (.int (oGuess M b).1)) h') : am_call (d + 20) 153 [.ref 40, .int b] h Q := by
  obtain ⟨a, b', dr, hX⟩ := hX
  have hs := hX.s.2
  have hN := hs.1
  obtain ⟨r, z, kk, e0, e1, e2, e3, e4, e5⟩ := hX.s.1
  unfold oGuess at hQ
  refine en_X10_guess (Nat.le_of_ble_eq_true rfl) ?_
  refine am_run (am_cK _) 2 (am_obj_in hX.o.1 (am_run (am_cK _) 2 (am_obj_in hX.so ((S_lacks hX.s.1 hs b (fun c => ?_) (fun j hj e => ?_))))))
  · rw [if_pos c] at hQ
    exact am_run (am_cK _) 1 (⟨fun w => absurd w n10, fun _ => am_run (am_cK _) 2 (hQ h Fx.rf ⟨a, b', dr, hX⟩)⟩)
  subst e
  rw [if_neg (S_no hs hj), nI_clamp (by omega)] at hQ
  have hz := hs.2.1 j hj
  unfold oGuessN at hQ
  have hb : mRb M j < 2 ^ 10 := Nat.lt_of_lt_of_le (bts_lt _ _) (Nat.pow_le_pow_right (by decide) hz.2.1)
  refine am_run (am_cK _) 1 (⟨fun _ => ?_, fun w => absurd rfl w⟩)
  refine am_run (am_cK _) 2 (am_obj_in hX.o.1 (am_run (am_cK _) 2 (am_obj_in hX.o.1 (am_run (am_cK _) 1 (am_obj_in hX.so (am_run (am_cK _) 2 (am_ld e1 j (by omega) ?_)))))))
  rw [nI_clamp (by omega), (e4 j hj).1]
  refine am_run (am_cK _) 2 (am_obj_in hX.o.1 (am_run (am_cK _) 1 (am_obj_in hX.so (am_run (am_cK _) 2 (am_ld e2 j (by omega) ?_)))))
  rw [nI_clamp (by omega), (e4 j hj).2]
  refine am_run (am_cK _) 1 (am_obj_in hX.f.1.1 ((C_rollsLeft hX.f.1 (by omega) hz.2.1 hz.2.2 hX.f.2 ?_)))
  refine am_run (am_cK _) 3 (am_obj_in hX.o.1 (am_run (am_cK _) 1 (am_obj_in hX.d.1.1 ((X_begin hX (fun h1 a1 hX1 => ?_))))))
  refine am_run (am_cK _) 2 (am_obj_in hX1.o.1 (am_run (am_cK _) 2 (J_bitCount _ ?_)))
  rw [show bcI (nI (rLf (mF M).2.1 (mF M).2.2 (mF M).1 (sB (mS M) j) (sZ (mS M) j))) = nI (cnt (mRL M j) (sZ (mS M) j)) from bc_bts (mRL M j) hz.2.1]
  refine am_run (am_cK _) 1 (am_obj_in hX1.d.1.1 ((X_add hX1 (show 0 < 16 by omega) _ (fun h2 a2 hX2 => ?_))))
  refine am_run (am_cK _) 2 (am_obj_in hX2.o.1 (am_run (am_cK _) 4 (am_obj_in hX2.d.1.1 ((X_add hX2 (show 0 + 1 < 16 by omega) _ (fun h3 a3 hX3 => ?_))))))
  refine am_run (am_cK _) 2 (hQ h3 ((Fx2 a1 a2).tr (a3.fx (by omega) (by omega))) ⟨a, b', dr, RX_dc hX3 (fun i hi => i_lt2 (P := fun i => upd (upd (mD M).2 0 (nI (cnt (mRL M j) (sZ (mS M) j)))) (0 + 1) (nI (mRb M j) &&& 1) i = w2 (nI (cnt (mRL M j) (sZ (mS M) j))) (nI (mRb M j % 2)) i) hi rfl ?_)⟩)
  exact q_andM (mRb M j) 1
theorem X_feels (hX : RX h M) (b : Int32) (hQ : ∀ h', Fx h h' → RX h' (oFeels M b).2 → Q (some (.int (oFeels M b).1)) h') : am_call (d + 20) 154 [.ref 40, .int b] h Q := by
  obtain ⟨a, b', dr, hX⟩ := hX
  have hs := hX.s.2
  have hN := hs.1
  obtain ⟨r, z, kk, e0, e1, e2, e3, e4, e5⟩ := hX.s.1
  unfold oFeels at hQ
  refine en_X10_feels (Nat.le_of_ble_eq_true rfl) ?_
  refine am_run (am_cK _) 2 (am_obj_in hX.o.1 (am_run (am_cK _) 2 (am_obj_in hX.so ((S_lacks hX.s.1 hs b (fun c => ?_) (fun j hj e => ?_))))))
  · rw [if_pos c] at hQ
    exact am_run (am_cK _) 1 (⟨fun w => absurd w n10, fun _ => am_run (am_cK _) 2 (hQ h Fx.rf ⟨a, b', dr, hX⟩)⟩)
  subst e
  rw [if_neg (S_no hs hj), nI_clamp (by omega)] at hQ
  have hz := hs.2.1 j hj
  unfold oFeelsN at hQ
  have hb : mRb M j < 2 ^ 10 := Nat.lt_of_lt_of_le (bts_lt _ _) (Nat.pow_le_pow_right (by decide) hz.2.1)
  refine am_run (am_cK _) 1 (⟨fun _ => ?_, fun w => absurd rfl w⟩)
  refine am_run (am_cK _) 2 (am_obj_in hX.o.1 (am_run (am_cK _) 1 (am_obj_in hX.so (am_run (am_cK _) 2 (am_ld e1 j (by omega) ?_)))))
  rw [nI_clamp (by omega), (e4 j hj).1]
  refine am_run (am_cK _) 3 (am_obj_in hX.o.1 (am_run (am_cK _) 1 (am_obj_in hX.so (am_run (am_cK _) 2 (am_ld e2 j (by omega) ?_)))))
  rw [nI_clamp (by omega), (e4 j hj).2]
  refine am_run (am_cK _) 3 (am_obj_in hX.o.1 (am_run (am_cK _) 3 (am_obj_in hX.f.1.1 ((C_rollsLeft hX.f.1 (by omega) hz.2.1 hz.2.2 hX.f.2 ?_)))))
  have eL : rLf (mF M).2.1 (mF M).2.2 (mF M).1 (sB (mS M) j) (sZ (mS M) j) = mRb M j := rfl
  rw [eL]
  generalize hLL : mRb M j = L at *
  generalize hff : sB (mS M) j = f at *
  generalize hnn : sZ (mS M) j = n at *
  refine am_run (am_cK _) 3 (⟨fun c => ?_, fun c => ?_⟩)
  · have hL0 : ¬ L = 0 := fun z => c (by rw [z]; rfl)
    rw [if_neg hL0] at hQ
    have lp := am_loopP (call := am_call (d + 19)) (lim := (0, 0)) (M := cm_X10_feels) (Q := Q) (X := fun _ => False) (h := h) (α := Nat × Nat × Option Value) (fun i x => (63, [some (.ref 40), some (.int (nI j)), some (.int (nI (rk f n))), some (.int (nI n)), some (.int (nI L)), some (.int (nI x.2.1)), some (.int (nI x.1)), some (.int (nI i)), x.2.2], [], 0, 0)) (fun i x => (i = 0 ∧ x.1 = n + 1 ∧ x.2.1 = 0) ∨ (0 < i ∧ x.2.1 = bM f n L i ∧ x.1 = mLf f n L (bM f n L i))) n (fun i x hi P K => ?_) (fun x P => ?_) 0 (n + 1, 0, none) (Nat.zero_le _) (Or.inl ⟨rfl, rfl, rfl⟩)
    · simp only at lp
      rw [nI_succ n] at lp
      refine am_run (am_cK _) 2 (show am_wp (am_call (d + 19)) (0, 0) cm_X10_feels Q (fun _ => False) (55, [some (.ref 40), some (.int (nI j)), some (.int (nI (rk f n))), some (.int (nI n)), some (.int (nI L)), some (.int 0), none, none, none], [], 0, 0) h from ?_)
      exact am_run (am_cK _) 6 lp
    · obtain ⟨fw, bs, jv⟩ := x
      replace P : (i = 0 ∧ fw = n + 1 ∧ bs = 0) ∨ (0 < i ∧ bs = bM f n L i ∧ fw = mLf f n L (bM f n L i)) := P
      refine am_run (am_cK _) 3 (pk_le n i (fun c => by omega) (fun _ => ?_))
      refine am_run (am_cK _) 5 (C_mostLeft (by omega) hz.2.1 hz.2.2 (by omega) hi ?_)
      have hle := mLf_le f n L i
      have hfw : fw ≤ n + 1 := by
        rcases P with P | P
        · omega
        · have := mLf_le f n L (bM f n L i)
          omega
      refine am_run (am_cK _) 4 (pk_le fw (mLf f n L i) (fun c => ?_) (fun c => ?_))
      · rcases P with P | P
        · omega
        · have K2 := K (fw, bs, some (.int (nI (mLf f n L i)))) (Or.inr ⟨by omega, by
            show bs = bM f n L (i + 1)
            rw [bM, if_neg (by omega)]; exact P.2.1, by
            show fw = mLf f n L (bM f n L (i + 1))
            rw [bM, if_neg (by omega)]; exact P.2.2⟩)
          simp only at K2
          rw [nI_succ i] at K2
          exact am_run (am_cK _) 2 (K2)
      · have ei : bM f n L (i + 1) = i := by
          rcases P with P | P
          · obtain ⟨rfl, _, _⟩ := P
            rw [bM]; split <;> rfl
          · rw [bM, if_pos (by omega)]
        have K2 := K (mLf f n L i, i, some (.int (nI (mLf f n L i)))) (Or.inr ⟨by omega, ei.symm, by rw [ei]⟩)
        simp only at K2
        rw [nI_succ i] at K2
        exact am_run (am_cK _) 6 (K2)
    · obtain ⟨fw, bs, jv⟩ := x
      replace P : (n = 0 ∧ fw = n + 1 ∧ bs = 0) ∨ (0 < n ∧ bs = bM f n L n ∧ fw = mLf f n L (bM f n L n)) := P
      have P := P.resolve_left (by omega)
      refine am_run (am_cK _) 3 (pk_le n n (fun _ => ?_) (fun c => by omega))
      refine am_run (am_cK _) 2 (am_obj_in hX.o.1 (am_run (am_cK _) 1 (am_obj_in hX.d.1.1 ((X_begin hX (fun h1 a1 hX1 => ?_))))))
      refine am_run (am_cK _) 2 (am_obj_in hX1.o.1 (am_run (am_cK _) 2 (am_obj_in hX1.d.1.1 ((X_add hX1 (show 0 < 16 by omega) _ (fun h2 a2 hX2 => ?_))))))
      rw [← P.2.2, ← P.2.1] at hQ
      exact am_run (am_cK _) 2 (hQ h2 (Fx2 a1 a2) ⟨a, b', dr, RX_dc hX2 (fun i hi => i_lt1 (P := fun i => upd (mD M).2 0 (nI fw) i = w1 (nI fw) i) hi rfl)⟩)
  · have hL0 : L = 0 := (nI_eq (b := 0) (by omega) (by omega)).mp (Classical.not_not.mp c)
    rw [if_pos hL0] at hQ
    exact am_run (am_cK _) 2 (hQ h Fx.rf ⟨a, b', dr, hX⟩)
theorem X_fits (hX : RX h M) (hQ : ∀ h', Fx h h' → RX h' (oFits M).2 → Q (some (.int (oFits M).1)) h') : am_call (d + 20) 157 [.ref 40] h Q := by
  obtain ⟨a, b', dr, hX⟩ := hX
  have hs := hX.s.2
  have hN := hs.1
  refine en_X10_fits (Nat.le_of_ble_eq_true rfl) ?_
  refine am_run (am_cK _) 2 (am_obj_in hX.o.1 (am_run (am_cK _) 2 (am_obj_in hX.o.1 (am_run (am_cK _) 1 (am_obj_in hX.hr.1.1 (C_fitting hX.s.1 hs hX.hr.1 hX.hr.2 ?_))))))
  refine am_run (am_cK _) 3 (am_obj_in hX.o.1 (am_run (am_cK _) 1 (am_obj_in hX.d.1.1 ((X_begin hX (fun h1 a1 hX1 => ?_))))))
  refine am_run (am_cK _) 2 (am_obj_in hX1.o.1 (am_run (am_cK _) 2 (J_bitCount _ ?_)))
  rw [show bcI (nI (fTg (mS M) (mH M).2.1 (mH M).2.2 (mH M).1)) = nI (cnt (fTp M) (sN (mS M))) from bc_bts (fTp M) (by omega)]
  refine am_run (am_cK _) 1 (am_obj_in hX1.d.1.1 ((X_add hX1 (show 0 < 16 by omega) _ (fun h2 a2 hX2 => ?_))))
  exact am_run (am_cK _) 2 (hQ h2 (Fx2 a1 a2) ⟨a, b', dr, RX_dc hX2 (fun i hi => i_lt1 (P := fun i => upd (mD M).2 0 (nI (cnt (fTp M) (sN (mS M)))) i = w1 (nI (cnt (fTp M) (sN (mS M)))) i) hi rfl)⟩)
theorem X_asks (hX : RX h M) (hQ : ∀ h', Fx h h' → RX h' (oAsks M).2 → Q (some (.int (oAsks M).1)) h') : am_call (d + 20) 158 [.ref 40] h Q := by
  obtain ⟨a, b', dr, hX⟩ := hX
  have hs := hX.s.2
  have hN := hs.1
  unfold oAsks at hQ
  have hb : fTb M < 2 ^ 10 := Nat.lt_of_lt_of_le (bts_lt _ _) (Nat.pow_le_pow_right (by decide) (by omega))
  have hcl := cnt_le (fTp M) (sN (mS M))
  refine en_X10_asks (Nat.le_of_ble_eq_true rfl) ?_
  refine am_run (am_cK _) 2 (am_obj_in hX.o.1 (am_run (am_cK _) 2 (am_obj_in hX.o.1 (am_run (am_cK _) 1 (am_obj_in hX.hr.1.1 (C_fitting hX.s.1 hs hX.hr.1 hX.hr.2 ?_))))))
  rw [show fTg (mS M) (mH M).2.1 (mH M).2.2 (mH M).1 = fTb M from rfl]
  refine am_run (am_cK _) 3 (⟨fun c => ?_, fun c => ?_⟩)
  · rw [if_neg (fun z => c (by rw [z]; rfl))] at hQ
    refine am_run (am_cK _) 6 (show am_wp (am_call (d + 19)) (0, 0) cm_X10_asks Q (fun _ => False) (27, [some (.ref 40), some (.int (nI (fTb M))), some (.int (nI 0)), some (.int (nI 6)), some (.int (nI 0)), none, none], [], 0, 0) h from ?_)
    refine am_loopP (α := Option Value × Option Value) (fun q x => (27, [some (.ref 40), some (.int (nI (fTb M))), some (.int (nI (aS M q).2)), some (.int (nI (aS M q).1)), some (.int (nI q)), x.1, x.2], [], 0, 0)) (fun _ _ => True) 40 (fun q x hq _ K => ?_) (fun x _ => ?_) 0 (none, none) (Nat.zero_le _) trivial
    · obtain ⟨x1, x2⟩ := x
      have hal := aS_le hs q
      have eq1 : nI q / 10 = nI (q / 10) := pk_div (a := q) (d := 10) (by omega) (by omega) (by omega)
      have eq2 : nI q - nI q / 10 * 10 = nI (q % 10) := pk_rem (a := q) (d := 10) (by omega) (by omega) (by omega)
      refine am_run (am_cK _) 3 (pk_le 40 q (fun c => by omega) (fun _ => ?_))
      refine am_run (am_cK _) 3 (⟨by decide, ?_⟩)
      rw [eq1]
      refine am_run (am_cK _) 3 (⟨by decide, ?_⟩)
      rw [eq2]
      have vo := vq_hOK q hq
      have K2 := fun x => K x trivial
      have fl : vq q = false → am_wp (am_call (d + 19)) (0, 0) cm_X10_asks Q (fun _ => False) (100, [some (.ref 40), some (.int (nI (fTb M))), some (.int (nI (aS M q).2)), some (.int (nI (aS M q).1)), some (.int (nI q)), x1, x2], [], 0, 0) h := fun hv => by
        have K3 := K2 (x1, x2)
        simp only at K3
        rw [aS, if_neg (by rw [hv]; exact fun z => absurd z.1 (by decide)), nI_succ q] at K3
        exact am_run (am_cK _) 2 (K3)
      refine am_run (am_cK _) 1 (C_canBeHeard _ _ (fun c => ?_) (fun c => ?_))
      · have hv : vq q = false := by rw [← vo]; exact decide_eq_false c
        exact am_run (am_cK _) 1 (⟨fun _ => fl hv, fun w => absurd rfl w⟩)
      · have hv : vq q = true := by rw [← vo]; exact decide_eq_true c
        have ok := vq_ok q hq hv
        refine am_run (am_cK _) 1 (⟨fun w => absurd w n10, fun _ => ?_⟩)
        refine am_run (am_cK _) 3 (am_obj_in hX.o.1 (am_run (am_cK _) 3 (⟨by decide, ?_⟩)))
        rw [eq1]
        refine am_run (am_cK _) 3 (⟨by decide, ?_⟩)
        rw [eq2]
        refine am_run (am_cK _) 1 (C_suiting hX.s.1 hs ok.1 ok.2.1 ok.2.2 ?_)
        refine am_run (am_cK _) 1 (show am_wp (am_call (d + 19)) (0, 0) cm_X10_asks Q (fun _ => False) (69, [some (.ref 40), some (.int (nI (fTb M))), some (.int (nI (aS M q).2)), some (.int (nI (aS M q).1)), some (.int (nI q)), x1, x2], [.int (nI (fTb M) &&& nI (bts (fun b => iSo (q / 10) (q % 10) (sB (mS M) b) (sZ (mS M) b)) (sN (mS M))))], 0, 0) h from ?_)
        rw [q_and, show fTb M &&& bts (fun b => iSo (q / 10) (q % 10) (sB (mS M) b) (sZ (mS M) b)) (sN (mS M)) = bts (fun b => fTp M b && iSo (q / 10) (q % 10) (sB (mS M) b) (sZ (mS M) b)) (sN (mS M)) from bts_and _ _ _]
        refine am_run (am_cK _) 1 (J_bitCount _ ?_)
        rw [bc_bts _ (by omega), show cnt (fun b => fTp M b && iSo (q / 10) (q % 10) (sB (mS M) b) (sZ (mS M) b)) (sN (mS M)) = sq M q from rfl]
        refine am_run (am_cK _) 4 (J_bitCount _ ?_)
        rw [show bcI (nI (fTb M)) = nI (cnt (fTp M) (sN (mS M))) from bc_bts (fTp M) (by omega)]
        have hsq := sq_le M q
        have hav := av_le hs q
        refine am_run (am_cK _) 3 (J_maxE (sq M q) (cnt (fTp M) (sN (mS M)) - sq M q) rfl (pk_sub hsq) (by omega) (by omega) ?_)
        have K3 := K2 (some (.int (nI (sq M q))), some (.int (nI (av M q))))
        simp only at K3
        rw [aS, nI_succ q] at K3
        refine am_run (am_cK _) 4 (pk_le (aS M q).1 (av M q) (fun c => ?_) (fun c => ?_))
        · rw [if_neg (fun z => by omega)] at K3
          exact am_run (am_cK _) 2 (K3)
        · rw [if_pos ⟨hv, c⟩] at K3
          exact am_run (am_cK _) 6 (K3)
    · have hal := aS_le hs 40
      refine am_run (am_cK _) 3 (pk_le 40 40 (fun _ => ?_) (fun c => by omega))
      refine am_run (am_cK _) 2 (am_obj_in hX.o.1 (am_run (am_cK _) 1 (am_obj_in hX.d.1.1 ((X_begin hX (fun h1 a1 hX1 => ?_))))))
      refine am_run (am_cK _) 2 (am_obj_in hX1.o.1 (am_run (am_cK _) 2 (am_obj_in hX1.d.1.1 ((X_add hX1 (show 0 < 16 by omega) _ (fun h2 a2 hX2 => ?_))))))
      exact am_run (am_cK _) 2 (hQ h2 (Fx2 a1 a2) ⟨a, b', dr, RX_dc hX2 (fun i hi => i_lt1 (P := fun i => upd (mD M).2 0 (nI (aS M 40).1) i = w1 (nI (aS M 40).1) i) hi rfl)⟩)
  · rw [if_pos ((nI_eq (b := 0) (by omega) (by omega)).mp (Classical.not_not.mp c))] at hQ
    exact am_run (am_cK _) 2 (hQ h Fx.rf ⟨a, b', dr, hX⟩)
theorem xcnt_sw : ∀ i, i < 10 → am_tsw 1 139 0 9 #[55, 63, 71, 79, 87, 99, 107, 115, 123, 131] (nI i) = [56, 64, 72, 80, 88, 100, 108, 116, 124, 132].getD i 0 := by decide +kernel
theorem X_count (hX : RX h M) (x : Int32) (hQ : ∀ h', Fx h h' → RX h' M → Q (some (.int (oCount M x))) h') : am_call (d + 20) 165 [.ref 40, .int x] h Q := by
  obtain ⟨a, b', dr, hX⟩ := hX
  have hs := hX.s.2
  refine en_X10_count (Nat.le_of_ble_eq_true rfl) ?_
  have q := hQ h Fx.rf ⟨a, b', dr, hX⟩
  refine am_run (am_cK _) 2 (show am_wp (am_call (d + 19)) (0, 0) cm_X10_count Q (fun _ => False) (am_tsw 1 139 0 9 #[55, 63, 71, 79, 87, 99, 107, 115, 123, 131] x, [some (.ref 40), some (.int x)], [], 0, 0) h from ?_)
  by_cases c : x < 0 ∨ 9 < x
  · rw [show am_tsw 1 139 0 9 #[55, 63, 71, 79, 87, 99, 107, 115, 123, 131] x = 140 from tsw_out (c.elim (fun z => Or.inl (toInt_neg z)) (fun z => Or.inr (toInt_lt (k := 9) (by omega) z))) rfl]
    have ne : ∀ k, k ≤ 9 → ¬ x = nI k := fun k hk e => by
      subst e
      rcases c with c | c
      · exact nI_pos (by omega) c
      · exact nI_nlt (a := 9) (b := k) hk (by omega) c
    have e : oCount M x = -100 := by
      unfold oCount
      rw [if_neg (show ¬ x = 0 from ne 0 (by omega)), if_neg (show ¬ x = 1 from ne 1 (by omega)), if_neg (show ¬ x = 2 from ne 2 (by omega)), if_neg (show ¬ x = 3 from ne 3 (by omega)), if_neg (show ¬ x = 4 from ne 4 (by omega)), if_neg (show ¬ x = 5 from ne 5 (by omega)), if_neg (show ¬ x = 6 from ne 6 (by omega)), if_neg (show ¬ x = 7 from ne 7 (by omega)), if_neg (show ¬ x = 8 from ne 8 (by omega)), if_neg (show ¬ x = 9 from ne 9 (by omega))]
    rw [e] at q
    exact am_run (am_cK _) 2 (q)
  · obtain ⟨i, hi, rfl⟩ : ∃ i, i < 10 ∧ x = nI i := by
      obtain ⟨i, hi, rfl⟩ := nI_of (fun z => c (Or.inl z))
      exact ⟨i, Nat.lt_of_not_le (fun z => c (Or.inr (nI_lt (a := 9) (by omega) hi))), rfl⟩
    rw [xcnt_sw i hi]
    match i, hi, q, hQ with
    | 0, _, q, _ => exact am_run (am_cK _) 2 (am_obj_in hX.o.1 (am_run (am_cK _) 1 (am_obj_in hX.so (am_run (am_cK _) 1 (q)))))
    | 1, _, q, _ => exact am_run (am_cK _) 2 (am_obj_in hX.o.1 (am_run (am_cK _) 1 (am_obj_in hX.so ((S_beadsOfAll hX.s.1 hs (am_run (am_cK _) 1 (q)))))))
    | 2, _, q, _ => exact am_run (am_cK _) 2 (am_obj_in hX.o.1 (am_run (am_cK _) 1 (am_obj_in hX.so ((S_stockOfAll hX.s.1 (am_run (am_cK _) 1 (q)))))))
    | 3, _, q, _ => exact am_run (am_cK _) 2 (am_obj_in hX.o.1 (am_run (am_cK _) 1 (am_obj_in hX.so (am_run (am_cK _) 1 (q)))))
    | 4, _, _, hQ =>
      have hab := hX.o.2
      refine am_run (am_cK _) 2 (am_obj_in hX.o.1 (am_run (am_cK _) 2 (am_obj_in hX.o.1 (am_run (am_cK _) 1 (am_obj_in hX.so (S_pricesOfAll hX.s.1 hs hX.r.1 hX.r.2 (by omega) (fun h1 a1 r1 => ?_)))))))
      exact am_run (am_cK _) 1 (hQ h1 (a1.fx (by omega) (by omega)) ⟨a, b', dr, hX.pR r1 (fun y hy => a1.2 y (by omega))⟩)
    | 5, _, q, _ => exact am_run (am_cK _) 2 (am_obj_in hX.o.1 (am_run (am_cK _) 1 (am_obj_in hX.f.1.1 (am_run (am_cK _) 1 (q)))))
    | 6, _, q, _ => exact am_run (am_cK _) 2 (am_obj_in hX.o.1 (am_run (am_cK _) 1 (am_obj_in hX.hr.1.1 (am_run (am_cK _) 1 q))))
    | 7, _, q, _ => exact am_run (am_cK _) 2 (am_obj_in hX.o.1 (am_run (am_cK _) 1 (am_obj_in hX.p.obj.choose_spec (am_run (am_cK _) 1 (q)))))
    | 8, _, q, _ => exact am_run (am_cK _) 2 (am_obj_in hX.o.1 (am_run (am_cK _) 1 (am_obj_in hX.d.1.1 (am_run (am_cK _) 1 (q)))))
    | 9, _, q, _ =>
      obtain ⟨wd, wz, hT⟩ := hX.t
      exact am_run (am_cK _) 2 (am_obj_in hX.o.1 (am_run (am_cK _) 1 (am_obj_in hX.t.choose_spec.choose_spec.1 ((T_size hT (am_run (am_cK _) 1 (q)))))))
end
