/-! numbers: Int32 as nI, rows of beads as numbers to the base 4 -/
theorem q_sl : ∀ n, n < 32 → ((nI n &&& 31).toBitVec.smod 32).toNat = n := by decide +kernel
theorem q_nIb (n : Nat) : (nI n).toBitVec = BitVec.ofNat 32 n := rfl
theorem q_inj {a b : Int32} (h : a.toBitVec = b.toBitVec) : a = b := Int32.toBitVec_inj.mp h
theorem q_tn (n : Nat) : (nI n).toBitVec.toNat = n % 2 ^ 32 := by rw [q_nIb, BitVec.toNat_ofNat]
theorem q_ext {x : Int32} {n : Nat} (h : x.toBitVec.toNat = n % 2 ^ 32) : x = nI n := q_inj (BitVec.eq_of_toNat_eq (by rw [q_tn]; exact h))
theorem q_mod (n : Nat) : nI n = nI (n % 2 ^ 32) := q_ext (by rw [q_tn, Nat.mod_mod])
theorem q_shl (a : Nat) {k : Nat} (hk : k < 32) : nI a <<< (nI k &&& 31) = nI (a * 2 ^ k) := q_ext (by rw [pk_shl _ _ k (q_sl k hk), q_tn, Nat.mod_mul_mod])
theorem q_shr {a k : Nat} (ha : a < 2 ^ 31) (hk : k < 32) : nI a >>> (nI k &&& 31) = nI (a / 2 ^ k) := pk_shrN ha _ k (q_sl k hk)
theorem q_and (a b : Nat) : nI a &&& nI b = nI (a &&& b) := q_inj (by
  show (nI a).toBitVec &&& (nI b).toBitVec = (nI (a &&& b)).toBitVec
  rw [q_nIb, q_nIb, q_nIb]
  apply BitVec.eq_of_toNat_eq
  rw [BitVec.toNat_and, BitVec.toNat_ofNat, BitVec.toNat_ofNat, BitVec.toNat_ofNat, Nat.and_mod_two_pow])
theorem q_or (a b : Nat) : nI a ||| nI b = nI (a ||| b) := q_inj (by
  show (nI a).toBitVec ||| (nI b).toBitVec = (nI (a ||| b)).toBitVec
  rw [q_nIb, q_nIb, q_nIb]
  apply BitVec.eq_of_toNat_eq
  rw [BitVec.toNat_or, BitVec.toNat_ofNat, BitVec.toNat_ofNat, BitVec.toNat_ofNat, Nat.or_mod_two_pow])
theorem q_xor (a b : Nat) : nI a ^^^ nI b = nI (a ^^^ b) := q_inj (by
  show (nI a).toBitVec ^^^ (nI b).toBitVec = (nI (a ^^^ b)).toBitVec
  rw [q_nIb, q_nIb, q_nIb]
  apply BitVec.eq_of_toNat_eq
  rw [BitVec.toNat_xor, BitVec.toNat_ofNat, BitVec.toNat_ofNat, BitVec.toNat_ofNat, Nat.xor_mod_two_pow])
theorem q_and3 (a : Nat) : nI a &&& 3 = nI (a % 4) := by
  have e : (3 : Int32) = nI 3 := rfl
  rw [e, q_and, Nat.and_two_pow_sub_one_eq_mod a 2]
theorem q_andM (a k : Nat) : nI a &&& nI (2 ^ k - 1) = nI (a % 2 ^ k) := by rw [q_and, Nat.and_two_pow_sub_one_eq_mod a k]
/-- disjoint bits: or is a sum -/
theorem q_orAdd {a b k : Nat} (hb : b < 2 ^ k) : (a * 2 ^ k) ||| b = a * 2 ^ k + b := by
  rw [Nat.mul_comm, Nat.two_pow_add_eq_or_of_lt hb]
/-! rows -/
def rk (f : Nat → Nat) : Nat → Nat
  | 0 => 0
  | n + 1 => 4 * rk f n + f n
theorem rk_lt {f : Nat → Nat} : ∀ {n : Nat}, (∀ i, i < n → f i < 4) → rk f n < 4 ^ n
  | 0, _ => by simp [rk]
  | n + 1, h => by
    have ih := rk_lt (f := f) (n := n) (fun i hi => h i (by omega))
    have := h n (by omega)
    rw [rk, Nat.pow_succ]
    omega
theorem rk_congr {f g : Nat → Nat} : ∀ {n : Nat}, (∀ i, i < n → f i = g i) → rk f n = rk g n
  | 0, _ => rfl
  | n + 1, h => by rw [rk, rk, rk_congr (fun i hi => h i (by omega)), h n (by omega)]
theorem rk_split (f : Nat → Nat) (m : Nat) : ∀ k, rk f (m + k) = rk f m * 4 ^ k + rk (fun i => f (m + i)) k
  | 0 => by simp [rk]
  | k + 1 => by
    rw [← Nat.add_assoc, rk, rk_split f m k, rk, Nat.pow_succ]
    rw [Nat.mul_add, Nat.add_assoc]
    congr 1
    rw [← Nat.mul_assoc, Nat.mul_comm 4, Nat.mul_assoc, Nat.mul_comm 4]
theorem rk_div {f : Nat → Nat} {n i : Nat} (hi : i < n) (h : ∀ i, i < n → f i < 4) : rk f n / 4 ^ (n - 1 - i) = rk f (i + 1) := by
  have e : n = (i + 1) + (n - 1 - i) := by omega
  have hs := rk_split f (i + 1) (n - 1 - i)
  rw [← e] at hs
  rw [hs]
  have hl : rk (fun j => f (i + 1 + j)) (n - 1 - i) < 4 ^ (n - 1 - i) := rk_lt (fun j hj => h _ (by omega))
  rw [Nat.mul_comm, Nat.mul_add_div (Nat.pow_pos (by decide)), Nat.div_eq_of_lt hl, Nat.add_zero]
theorem rk_at {f : Nat → Nat} {n i : Nat} (hi : i < n) (h : ∀ i, i < n → f i < 4) : rk f n / 4 ^ (n - 1 - i) % 4 = f i := by
  rw [rk_div hi h, rk]
  have := h i hi
  omega
theorem rk_inj {f g : Nat → Nat} {n : Nat} (hf : ∀ i, i < n → f i < 4) (hg : ∀ i, i < n → g i < 4) (e : rk f n = rk g n) : ∀ i, i < n → f i = g i := fun i hi => by
  rw [← rk_at hi hf, ← rk_at hi hg, e]
theorem rk_small {f : Nat → Nat} {n : Nat} (hn : n ≤ 10) (h : ∀ i, i < n → f i < 4) : rk f n < 2 ^ 20 := by
  have h1 := rk_lt h
  have h2 : 4 ^ n ≤ 4 ^ 10 := Nat.pow_le_pow_right (by decide) hn
  have h3 : (4 : Nat) ^ 10 = 2 ^ 20 := by decide
  omega
theorem p4 (k : Nat) : (4 : Nat) ^ k = 2 ^ (2 * k) := by rw [Nat.pow_mul]
