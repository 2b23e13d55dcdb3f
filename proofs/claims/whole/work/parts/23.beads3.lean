def lsA (f : Nat → Nat) (n : Nat) : Nat → Nat
  | 0 => rk f n
  | i + 1 => Nat.min (lsA f n i) (Nat.min (rk (rol f n i) n) (rk (rol (flp f n) n i) n))
/-- the least row's number -/
def lst (f : Nat → Nat) (n : Nat) : Nat := lsA f n n
theorem lsA_small {f : Nat → Nat} {n : Nat} (hn : n ≤ 10) (hf : ∀ i, i < n → f i < 4) : ∀ i, lsA f n i < 2 ^ 20
  | 0 => rk_small hn hf
  | i + 1 => Nat.lt_of_le_of_lt (Nat.min_le_left _ _) (lsA_small hn hf i)
theorem B_leastRow {d : Nat} {h : am_H} {Q : Option Value → am_H → Prop} {f : Nat → Nat} {n : Nat} (hn0 : 0 < n) (hn : n ≤ 10) (hf : ∀ i, i < n → f i < 4) (hQ : Q (some (.int (nI (lst f n)))) h) : am_call (d + 3) 8 [.int (nI (rk f n)), .int (nI n)] h Q := by
  refine en_X0_leastRow (Nat.le_of_ble_eq_true rfl) (am_run (am_cK _) 3 (B_flipped hn hf ?_))
  refine am_run (am_cK _) 5 ?_
  suffices H : ∀ k i, i + k = n → am_wp (am_call (d + 2)) (0, 0) cm_X0_leastRow Q (fun _ => False) (11, [some (.int (nI (rk f n))), some (.int (nI n)), some (.int (nI (rk (flp f n) n))), some (.int (nI (lsA f n i))), some (.int (nI i))], [], 0, 0) h from H n 0 (by omega)
  intro k
  induction k with
  | zero =>
    intro i hi
    have e : i = n := by omega
    subst e
    exact am_run (am_cK _) 3 ⟨fun _ => am_run (am_cK _) 2 hQ, fun c => absurd (nI_le (Nat.le_refl _) (by omega)) c⟩
  | succ k ih =>
    intro i hi
    refine am_run (am_cK _) 3 ⟨fun c => absurd c (nI_ge (by omega) (by omega)), fun _ => ?_⟩
    have s1 := rk_small hn (rol_lt (k := i) hf)
    have s2 := rk_small hn (rol_lt (k := i) (flp_lt hf))
    have s3 := lsA_small hn hf i
    have z := ih (i + 1) (by omega)
    rw [lsA, nI_succ] at z
    refine am_run (am_cK _) 5 (B_rolled hn0 hn (by omega) hf ?_)
    refine am_run (am_cK _) 4 (B_rolled hn0 hn (by omega) (flp_lt hf) ?_)
    refine am_run (am_cK _) 1 (J_min (by omega) (by omega) ?_)
    have s4 : Nat.min (rk (rol f n i) n) (rk (rol (flp f n) n i) n) < 2 ^ 31 := Nat.lt_of_le_of_lt (Nat.min_le_left _ _) (by omega)
    refine am_run (am_cK _) 1 (J_min (by omega) s4 ?_)
    exact am_run (am_cK _) 3 z
def ilf (f : Nat → Nat) (n : Nat) : Nat := fnd (fun k => decide (rk (rol (flp f n) n k) n < rk f n)) 0 n
theorem B_isLessFlipped {d : Nat} {h : am_H} {Q : Option Value → am_H → Prop} {f : Nat → Nat} {n : Nat} (hn0 : 0 < n) (hn : n ≤ 10) (hf : ∀ i, i < n → f i < 4) (h1 : ilf f n < n → Q (some (.int 1)) h) (h2 : ilf f n = n → Q (some (.int 0)) h) : am_call (d + 3) 9 [.int (nI (rk f n)), .int (nI n)] h Q := by
  refine en_X0_isLessFlipped (Nat.le_of_ble_eq_true rfl) (am_run (am_cK _) 3 (B_flipped hn hf ?_))
  refine am_run (am_cK _) 3 ?_
  suffices H : ∀ k i, i + k = n → (fnd (fun k => decide (rk (rol (flp f n) n k) n < rk f n)) i k < n → Q (some (.int 1)) h) → (fnd (fun k => decide (rk (rol (flp f n) n k) n < rk f n)) i k = n → Q (some (.int 0)) h) → am_wp (am_call (d + 2)) (0, 0) cm_X0_isLessFlipped Q (fun _ => False) (8, [some (.int (nI (rk f n))), some (.int (nI n)), some (.int (nI (rk (flp f n) n))), some (.int (nI i))], [], 0, 0) h from H n 0 (by omega) h1 h2
  intro k
  induction k with
  | zero =>
    intro i hi q1 q2
    have e : i = n := by omega
    subst e
    exact am_run (am_cK _) 3 ⟨fun _ => am_run (am_cK _) 2 ⟨Or.inl rfl, q2 rfl⟩, fun c => absurd (nI_le (Nat.le_refl _) (by omega)) c⟩
  | succ k ih =>
    intro i hi q1 q2
    refine am_run (am_cK _) 3 ⟨fun c => absurd c (nI_ge (by omega) (by omega)), fun _ => ?_⟩
    refine am_run (am_cK _) 6 (B_rolled hn0 hn (by omega) (flp_lt hf) ?_)
    have s1 := rk_small hn (rol_lt (k := i) (flp_lt hf))
    have s2 := rk_small hn hf
    rw [fnd] at q1 q2
    refine ⟨fun c => ?_, fun c => ?_⟩
    · have hc : rk f n ≤ rk (rol (flp f n) n i) n := (nI_leI (by omega) (by omega)).mp c
      rw [if_neg (by simpa using hc)] at q1 q2
      have z := ih (i + 1) (by omega) q1 q2
      rw [nI_succ] at z
      exact am_run (am_cK _) 2 z
    · have hc : rk (rol (flp f n) n i) n < rk f n := Nat.lt_of_not_le (fun z => c ((nI_leI (by omega) (by omega)).mpr z))
      rw [if_pos (by simpa using hc)] at q1
      exact am_run (am_cK _) 2 ⟨Or.inr rfl, q1 (by omega)⟩
theorem rk_top {f : Nat → Nat} {n w : Nat} (hw : w ≤ n) (hf : ∀ i, i < n → f i < 4) : rk f n / 4 ^ (n - w) = rk f w := by
  have hs := rk_split f w (n - w)
  rw [show w + (n - w) = n by omega] at hs
  have hl : rk (fun j => f (w + j)) (n - w) < 4 ^ (n - w) := rk_lt (fun j hj => hf _ (by omega))
  rw [hs, Nat.mul_comm, Nat.mul_add_div (Nat.pow_pos (by decide)), Nat.div_eq_of_lt hl, Nat.add_zero]
theorem B_wordAt {d : Nat} {h : am_H} {Q : Option Value → am_H → Prop} {f : Nat → Nat} {n k w : Nat} (hn0 : 0 < n) (hn : n ≤ 10) (hk : k < 2 ^ 31) (hw : w ≤ n) (hf : ∀ i, i < n → f i < 4) (hQ : Q (some (.int (nI (rk (rol f n k) w)))) h) : am_call (d + 3) 20 [.int (nI (rk f n)), .int (nI n), .int (nI k), .int (nI w)] h Q := by
  refine en_X0_wordAt (Nat.le_of_ble_eq_true rfl) (am_run (am_cK _) 4 (B_rolled hn0 hn hk hf ?_))
  have e : nI (rk (rol f n k) n) >>> ((2 * (nI n - nI w)) &&& 31) = nI (rk (rol f n k) w) := by
    have e1 : (2 : Int32) * nI (n - w) = nI (2 * (n - w)) := pk_mul 2 _
    rw [pk_sub hw, e1, q_shr (by have := rk_small hn (rol_lt (k := k) hf); omega) (by omega), ← p4, rk_top hw (rol_lt hf)]
  rw [← e] at hQ
  exact am_run (am_cK _) 7 hQ
/-- bits -/
def bts (p : Nat → Bool) : Nat → Nat
  | 0 => 0
  | i + 1 => bts p i + (if p i then 2 ^ i else 0)
theorem bts_lt (p : Nat → Bool) : ∀ n, bts p n < 2 ^ n
  | 0 => by simp [bts]
  | n + 1 => by
    have := bts_lt p n
    rw [bts, Nat.pow_succ]
    split <;> omega
theorem q_orBit {a i : Nat} (ha : a < 2 ^ i) (hi : i < 32) : nI a ||| ((1 : Int32) <<< (nI i &&& 31)) = nI (a + 2 ^ i) := by
  have e1 : (1 : Int32) <<< (nI i &&& 31) = nI (1 * 2 ^ i) := q_shl 1 hi
  rw [e1, q_or, Nat.or_comm, q_orAdd ha, Nat.one_mul, Nat.add_comm]
theorem B_placesOf {d : Nat} {h : am_H} {Q : Option Value → am_H → Prop} {f : Nat → Nat} {n w v : Nat} (hn0 : 0 < n) (hn : n ≤ 10) (hw : w ≤ n) (hv : v < 2 ^ 20) (hf : ∀ i, i < n → f i < 4) (hQ : Q (some (.int (nI (bts (fun i => rk (rol f n i) w == v) n)))) h) : am_call (d + 4) 21 [.int (nI (rk f n)), .int (nI n), .int (nI v), .int (nI w)] h Q := by
  refine en_X0_placesOf (Nat.le_of_ble_eq_true rfl) (am_run (am_cK _) 4 ?_)
  suffices H : ∀ k i, i + k = n → am_wp (am_call (d + 3)) (0, 0) cm_X0_placesOf Q (fun _ => False) (6, [some (.int (nI (rk f n))), some (.int (nI n)), some (.int (nI v)), some (.int (nI w)), some (.int (nI (bts (fun i => rk (rol f n i) w == v) i))), some (.int (nI i))], [], 0, 0) h from H n 0 (by omega)
  intro k
  induction k with
  | zero =>
    intro i hi
    have e : i = n := by omega
    subst e
    exact am_run (am_cK _) 3 ⟨fun _ => am_run (am_cK _) 2 hQ, fun c => absurd (nI_le (Nat.le_refl _) (by omega)) c⟩
  | succ k ih =>
    intro i hi
    refine am_run (am_cK _) 3 ⟨fun c => absurd c (nI_ge (by omega) (by omega)), fun _ => ?_⟩
    have s1 : rk (rol f n i) w < 2 ^ 20 := rk_small (by omega) (fun j hj => rol_lt hf j (by omega))
    refine am_run (am_cK _) 7 (B_wordAt hn0 hn (by omega) hw hf ?_)
    have z := ih (i + 1) (by omega)
    rw [bts, nI_succ] at z
    refine ⟨fun c => ?_, fun c => ?_⟩
    · have hne : ¬ rk (rol f n i) w = v := fun z => c (by rw [z])
      rw [if_neg (by simpa using hne)] at z
      exact am_run (am_cK _) 2 z
    · have he : rk (rol f n i) w = v := (nI_eq (by omega) (by omega)).mp (Classical.not_not.mp c)
      rw [if_pos (by simpa using he), ← q_orBit (bts_lt _ _) (by omega)] at z
      exact am_run (am_cK _) 8 z
/-! bits of rows -/
theorem t4 (a : Nat) {b : Nat} (hb : b < 4) (j : Nat) : (4 * a + b).testBit j = if j < 2 then b.testBit j else a.testBit (j - 2) := Nat.testBit_two_pow_mul_add a (i := 2) (by omega) j
theorem rk_bit {f : Nat → Nat} : ∀ {n : Nat}, (∀ i, i < n → f i < 4) → ∀ j, (rk f n).testBit j = if j < 2 * n then (f (n - 1 - j / 2)).testBit (j % 2) else false
  | 0, _, j => by simp [rk]
  | n + 1, hf, j => by
    rw [rk, t4 _ (hf n (by omega))]
    by_cases hj : j < 2
    · rw [if_pos hj, if_pos (by omega), show n + 1 - 1 - j / 2 = n by omega, show j % 2 = j by omega]
    · rw [if_neg hj, rk_bit (fun i hi => hf i (by omega))]
      by_cases h2 : j - 2 < 2 * n
      · rw [if_pos h2, if_pos (by omega), show n - 1 - (j - 2) / 2 = n + 1 - 1 - j / 2 by omega, show (j - 2) % 2 = j % 2 by omega]
      · rw [if_neg h2, if_neg (by omega)]
theorem low_bit (j : Nat) : (349525 : Nat).testBit j = (decide (j < 20) && decide (j % 2 = 0)) := by
  by_cases h : j < 20
  · rw [decide_eq_true h, Bool.true_and]
    exact (by decide : ∀ j, j < 20 → (349525 : Nat).testBit j = decide (j % 2 = 0)) j h
  · rw [decide_eq_false h, Bool.false_and]
    exact Nat.testBit_lt_two_pow (Nat.lt_of_lt_of_le (by decide : 349525 < 2 ^ 20) (Nat.pow_le_pow_right (by decide) (by omega)))
def dgt (f g : Nat → Nat) : Nat → Nat := fun i => if f i = g i then 0 else 1
theorem dgt_bit : ∀ a, a < 4 → ∀ b, b < 4 → ((a.testBit 0 ^^ b.testBit 0) || (a.testBit 1 ^^ b.testBit 1)) = decide (¬ a = b) := by decide
theorem apart_num {f g : Nat → Nat} {n : Nat} (hn : n ≤ 10) (hf : ∀ i, i < n → f i < 4) (hg : ∀ i, i < n → g i < 4) : ((rk f n ^^^ rk g n) ||| (rk f n ^^^ rk g n) / 2 ^ 1) &&& 349525 = rk (dgt f g) n := by
  have hd : ∀ i, i < n → dgt f g i < 4 := fun i _ => by unfold dgt; split <;> omega
  apply Nat.eq_of_testBit_eq
  intro j
  rw [Nat.testBit_and, Nat.testBit_or, ← Nat.shiftRight_eq_div_pow, Nat.testBit_shiftRight, Nat.testBit_xor, Nat.testBit_xor, low_bit, rk_bit hf, rk_bit hg, rk_bit hf, rk_bit hg, rk_bit hd]
  by_cases hj : j < 2 * n
  · rcases Nat.mod_two_eq_zero_or_one j with he | he
    · have hi : n - 1 - j / 2 < n := by omega
      rw [if_pos hj, if_pos hj, if_pos (by omega), if_pos (by omega), if_pos hj, show (1 + j) / 2 = j / 2 by omega, show (1 + j) % 2 = 1 by omega, he, dgt_bit _ (hf _ hi) _ (hg _ hi), decide_eq_true (show j < 20 by omega)]
      unfold dgt
      split <;> simp [*]
    · rw [he, if_pos hj (t := (dgt f g (n - 1 - j / 2)).testBit 1)]
      have : (dgt f g (n - 1 - j / 2)).testBit 1 = false := by unfold dgt; split <;> decide
      rw [this]
      simp
  · rw [if_neg hj, if_neg hj, if_neg (by omega), if_neg (by omega), if_neg hj]
    simp
/-! counting bits -/
def bcI (x0 : Int32) : Int32 :=
  let us := fun (x y : Int32) => (x.toUInt32 >>> (y.toUInt32 &&& Int32.toUInt32 31)).toInt32
  let x1 := x0 - (us x0 1 &&& 1431655765)
  let x2 := (x1 &&& 858993459) + (us x1 2 &&& 858993459)
  let x3 := (x2 + us x2 4) &&& 252645135
  let x4 := x3 + us x3 8
  let x5 := x4 + us x4 16
  x5 &&& 63
theorem J_bitCount {d : Nat} {h : am_H} {Q : Option Value → am_H → Prop} (x : Int32) (hQ : Q (some (.int (bcI x))) h) : am_call (d + 1) 323 [.int x] h Q := by
  refine en_J6_bitCount_0f7a4 (Nat.le_of_ble_eq_true rfl) (am_run (am_cK _) 8 ?_)
  exact am_run (am_cK _) 10 (am_run (am_cK _) 8 (am_run (am_cK _) 6 (am_run (am_cK _) 6 (am_run (am_cK _) 4 hQ))))
def sp : Nat → Nat → Nat
  | _, 0 => 0
  | m, k + 1 => 4 * sp (m / 2) k + m % 2
def pop : Nat → Nat → Nat
  | _, 0 => 0
  | m, k + 1 => pop (m / 2) k + m % 2
def bk (e : Nat → Nat) : Nat → Nat
  | 0 => 0
  | n + 1 => 2 * bk e n + e n
set_option maxRecDepth 100000 in
theorem bc_sp : ∀ m, m < 1024 → bcI (nI (sp m 10)) = nI (pop m 10) := by decide +kernel
set_option maxRecDepth 100000 in
theorem bc_pop : ∀ m, m < 1024 → bcI (nI m) = nI (pop m 10) := by decide +kernel
