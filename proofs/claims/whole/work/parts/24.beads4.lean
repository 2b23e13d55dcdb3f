theorem sp_0 : ∀ k, sp 0 k = 0
  | 0 => rfl
  | k + 1 => by rw [sp, Nat.zero_div, sp_0 k]
theorem pop_0 : ∀ k, pop 0 k = 0
  | 0 => rfl
  | k + 1 => by rw [pop, Nat.zero_div, pop_0 k]
theorem bk_lt {e : Nat → Nat} : ∀ {n : Nat}, (∀ i, i < n → e i < 2) → bk e n < 2 ^ n
  | 0, _ => by simp [bk]
  | n + 1, h => by
    have := bk_lt (e := e) (n := n) (fun i hi => h i (by omega))
    have := h n (by omega)
    rw [bk, Nat.pow_succ]
    omega
theorem sp_bk {e : Nat → Nat} : ∀ {n k : Nat}, n ≤ k → (∀ i, i < n → e i < 2) → sp (bk e n) k = rk e n
  | 0, k, _, _ => sp_0 k
  | n + 1, 0, h, _ => by omega
  | n + 1, k + 1, hk, h => by
    have he := h n (by omega)
    rw [bk, sp, rk, show (2 * bk e n + e n) / 2 = bk e n by omega, show (2 * bk e n + e n) % 2 = e n by omega, sp_bk (by omega) (fun i hi => h i (by omega))]
theorem pop_bk {e : Nat → Nat} {p : Nat → Bool} : ∀ {n k : Nat}, n ≤ k → (∀ i, i < n → e i = if p i then 1 else 0) → pop (bk e n) k = cnt p n
  | 0, k, _, _ => pop_0 k
  | n + 1, 0, h, _ => by omega
  | n + 1, k + 1, hk, h => by
    have he := h n (by omega)
    have h2 : e n < 2 := by rw [he]; split <;> omega
    rw [bk, pop, cnt, show (2 * bk e n + e n) / 2 = bk e n by omega, show (2 * bk e n + e n) % 2 = e n by omega, pop_bk (by omega) (fun i hi => h i (by omega)), he]
theorem cnt_congr {p q : Nat → Bool} : ∀ {n : Nat}, (∀ i, i < n → p i = q i) → cnt p n = cnt q n
  | 0, _ => rfl
  | n + 1, h => by rw [cnt, cnt, cnt_congr (fun i hi => h i (by omega)), h n (by omega)]
theorem cnt_not (p : Nat → Bool) : ∀ n, cnt p n + cnt (fun i => !p i) n = n
  | 0 => rfl
  | n + 1 => by
    have := cnt_not p n
    rw [cnt, cnt]
    cases p n <;> simp <;> omega
theorem cnt_shift (p : Nat → Bool) : ∀ k, cnt p (k + 1) = (if p 0 then 1 else 0) + cnt (fun i => p (i + 1)) k
  | 0 => by simp [cnt]
  | k + 1 => by rw [cnt, cnt_shift p k, cnt, Nat.add_assoc]
theorem pop_cnt : ∀ k m, pop m k = cnt (fun i => m.testBit i) k
  | 0, m => rfl
  | k + 1, m => by
    rw [pop, pop_cnt k, cnt_shift]
    have e0 : (if m.testBit 0 then 1 else 0) = m % 2 := by
      rw [Nat.testBit_zero]
      rcases Nat.mod_two_eq_zero_or_one m with h | h <;> simp [h]
    rw [e0, Nat.add_comm]
    congr 1
    exact cnt_congr (fun i _ => by rw [Nat.testBit_succ])
theorem bts_bit (p : Nat → Bool) : ∀ n i, (bts p n).testBit i = (decide (i < n) && p i)
  | 0, i => by simp [bts]
  | n + 1, i => by
    have e : bts p (n + 1) = 2 ^ n * (if p n then 1 else 0) + bts p n := by
      rw [bts]; split <;> simp [Nat.add_comm]
    rw [e, Nat.testBit_two_pow_mul_add _ (bts_lt p n)]
    by_cases h : i < n
    · rw [if_pos h, bts_bit p n i, decide_eq_true h, decide_eq_true (show i < n + 1 by omega)]
    · rw [if_neg h]
      by_cases h2 : i = n
      · subst h2
        rw [Nat.sub_self, decide_eq_true (show i < i + 1 by omega)]
        cases p i <;> rfl
      · rw [decide_eq_false (show ¬ i < n + 1 by omega), Bool.false_and]
        obtain ⟨j, hj⟩ : ∃ j, i - n = j + 1 := ⟨i - n - 1, by omega⟩
        rw [hj, Nat.testBit_succ]
        split <;> simp
theorem cnt_ext {p : Nat → Bool} {n : Nat} : ∀ k, n ≤ k → cnt (fun i => decide (i < n) && p i) k = cnt p n
  | 0, h => by
    have : n = 0 := by omega
    subst this; rfl
  | k + 1, h => by
    by_cases e : n = k + 1
    · subst e
      exact cnt_congr (fun i hi => by rw [decide_eq_true hi, Bool.true_and])
    · rw [cnt, cnt_ext k (by omega), decide_eq_false (by omega)]
      simp
/-- Integer.bitCount of bits -/
theorem bc_bts (p : Nat → Bool) {n : Nat} (hn : n ≤ 10) : bcI (nI (bts p n)) = nI (cnt p n) := by
  have hl : bts p n < 1024 := Nat.lt_of_lt_of_le (bts_lt p n) (Nat.pow_le_pow_right (n := 2) (by decide) hn)
  rw [bc_pop _ hl, pop_cnt]
  congr 1
  rw [← cnt_ext (p := p) 10 hn]
  exact cnt_congr (fun i _ => bts_bit p n i)
/-- at how many places two rows differ -/
def dif (f g : Nat → Nat) (n : Nat) : Nat := cnt (fun i => f i != g i) n
theorem B_apart {d : Nat} {h : am_H} {Q : Option Value → am_H → Prop} {f g : Nat → Nat} {n : Nat} (hn : n ≤ 10) (hf : ∀ i, i < n → f i < 4) (hg : ∀ i, i < n → g i < 4) (hQ : Q (some (.int (nI (dif f g n)))) h) : am_call (d + 2) 19 [.int (nI (rk f n)), .int (nI (rk g n))] h Q := by
  refine en_X0_apart (Nat.le_of_ble_eq_true rfl) (am_run (am_cK _) 4 ?_)
  have e0 : nI (rk f n) ^^^ nI (rk g n) = nI (rk f n ^^^ rk g n) := q_xor _ _
  have hs1 := rk_small hn hf
  have hs2 := rk_small hn hg
  have hx : rk f n ^^^ rk g n < 2 ^ 20 := Nat.xor_lt_two_pow hs1 hs2
  have e : (nI (rk f n ^^^ rk g n) ||| nI (rk f n ^^^ rk g n) >>> ((1 : Int32) &&& 31)) &&& 349525 = nI (rk (dgt f g) n) := by
    have e1 : nI (rk f n ^^^ rk g n) >>> ((1 : Int32) &&& 31) = nI ((rk f n ^^^ rk g n) / 2 ^ 1) := q_shr (k := 1) (by omega) (by omega)
    have e2 : (349525 : Int32) = nI 349525 := rfl
    rw [e1, q_or, e2, q_and, apart_num hn hf hg]
  have hd2 : ∀ i, i < n → dgt f g i < 2 := fun i _ => by unfold dgt; split <;> omega
  have hbk : bk (dgt f g) n < 1024 := Nat.lt_of_lt_of_le (bk_lt hd2) (Nat.pow_le_pow_right (n := 2) (by decide) hn)
  have e3 : bcI (nI (rk (dgt f g) n)) = nI (dif f g n) := by
    rw [← sp_bk hn hd2, bc_sp _ hbk]
    congr 1
    exact pop_bk hn (fun i _ => by
      show dgt f g i = if (f i != g i) = true then 1 else 0
      unfold dgt
      by_cases z : f i = g i <;> simp [z])
  refine am_run (am_cK _) 8 (show am_call (d + 1) 323 [.int ((nI (rk f n) ^^^ nI (rk g n) ||| (nI (rk f n) ^^^ nI (rk g n)) >>> ((1 : Int32) &&& 31)) &&& 349525)] h _ from ?_)
  rw [e0, e]
  refine J_bitCount _ ?_
  rw [e3]
  exact am_run (am_cK _) 1 hQ
theorem low_mul : ∀ c, c < 4 → ∀ n, n ≤ 10 → (c * 349525) % 4 ^ n = rk (fun _ => c) n := by decide
/-- how many beads are of a colour -/
def num (f : Nat → Nat) (n c : Nat) : Nat := cnt (fun i => f i == c) n
theorem num_le (f : Nat → Nat) (n c : Nat) : num f n c ≤ n := cnt_le _ _
theorem cnt_rev (p : Nat → Bool) : ∀ n, cnt (fun i => p (n - 1 - i)) n = cnt p n
  | 0 => rfl
  | n + 1 => by
    rw [cnt_shift, cnt, ← cnt_rev p n, Nat.add_comm]
    congr 1
    exact cnt_congr (fun i hi => by rw [show n + 1 - 1 - (i + 1) = n - 1 - i by omega])
theorem B_numberOf {d : Nat} {h : am_H} {Q : Option Value → am_H → Prop} {f : Nat → Nat} {n c : Nat} (hn : n ≤ 10) (hc : c < 4) (hf : ∀ i, i < n → f i < 4) (hQ : Q (some (.int (nI (num f n c)))) h) : am_call (d + 3) 14 [.int (nI c), .int (nI (rk f n)), .int (nI n)] h Q := by
  refine en_X0_numberOf (Nat.le_of_ble_eq_true rfl) (am_run (am_cK _) 4 ?_)
  suffices H : ∀ k i, i + k = n → am_wp (am_call (d + 2)) (0, 0) cm_X0_numberOf Q (fun _ => False) (5, [some (.int (nI c)), some (.int (nI (rk f n))), some (.int (nI n)), some (.int (nI (cnt (fun j => f (n - 1 - j) == c) i))), some (.int (nI i))], [], 0, 0) h from H n 0 (by omega)
  intro k
  induction k with
  | zero =>
    intro i hi
    have e : i = n := by omega
    subst e
    have e2 : cnt (fun j => f (i - 1 - j) == c) i = num f i c := cnt_rev (fun j => f j == c) i
    rw [e2]
    exact am_run (am_cK _) 3 ⟨fun _ => am_run (am_cK _) 2 hQ, fun w => absurd (nI_le (Nat.le_refl _) (by omega)) w⟩
  | succ k ih =>
    intro i hi
    refine am_run (am_cK _) 3 ⟨fun w => absurd w (nI_ge (by omega) (by omega)), fun _ => ?_⟩
    have e1 : nI (rk f n) >>> ((2 * nI i) &&& 31) &&& 3 = nI (f (n - 1 - i)) := by
      have a1 : (2 : Int32) * nI i = nI (2 * i) := pk_mul 2 i
      have a2 := rk_at (f := f) (n := n) (i := n - 1 - i) (by omega) hf
      rw [show n - 1 - (n - 1 - i) = i by omega] at a2
      rw [a1, q_shr (by have := rk_small hn hf; omega) (by omega), ← p4, q_and3, a2]
    have hfi := hf (n - 1 - i) (by omega)
    have z := ih (i + 1) (by omega)
    rw [cnt, nI_succ i] at z
    refine am_run (am_cK _) 9 ⟨fun w => ?_, fun w => ?_⟩
    · have w' : ¬ nI (rk f n) >>> ((2 * nI i) &&& 31) &&& 3 = nI c := w
      rw [e1] at w'
      have hne : ¬ f (n - 1 - i) = c := fun y => w' (by rw [y])
      rw [if_neg (by simpa using hne), Nat.add_zero] at z
      exact am_run (am_cK _) 2 z
    · have w' : nI (rk f n) >>> ((2 * nI i) &&& 31) &&& 3 = nI c := Classical.not_not.mp w
      rw [e1] at w'
      have heq : f (n - 1 - i) = c := (nI_eq (by omega) (by omega)).mp w'
      rw [if_pos (by simpa using heq), nI_succ] at z
      exact am_run (am_cK _) 3 z
def cbt (f : Nat → Nat) (n : Nat) : Nat := bts (fun c => decide (0 < num f n c)) 4
theorem B_colourBits {d : Nat} {h : am_H} {Q : Option Value → am_H → Prop} {f : Nat → Nat} {n : Nat} (hn : n ≤ 10) (hf : ∀ i, i < n → f i < 4) (hQ : Q (some (.int (nI (cbt f n)))) h) : am_call (d + 4) 15 [.int (nI (rk f n)), .int (nI n)] h Q := by
  refine en_X0_colourBits (Nat.le_of_ble_eq_true rfl) (am_run (am_cK _) 4 ?_)
  suffices H : ∀ k i, i + k = 4 → am_wp (am_call (d + 3)) (0, 0) cm_X0_colourBits Q (fun _ => False) (4, [some (.int (nI (rk f n))), some (.int (nI n)), some (.int (nI (bts (fun c => decide (0 < num f n c)) i))), some (.int (nI i))], [], 0, 0) h from H 4 0 (by omega)
  intro k
  induction k with
  | zero =>
    intro i hi
    have e : i = 4 := by omega
    subst e
    exact am_run (am_cK _) 3 ⟨fun _ => am_run (am_cK _) 2 hQ, fun c => absurd (nI_le (a := 4) (b := 4) (Nat.le_refl _) (by omega)) c⟩
  | succ k ih =>
    intro i hi
    refine am_run (am_cK _) 3 ⟨fun c => absurd c (nI_ge (b := 4) (by omega) (by omega)), fun _ => ?_⟩
    have hl := num_le f n i
    refine am_run (am_cK _) 5 (B_numberOf hn (by omega) hf ?_)
    have z := ih (i + 1) (by omega)
    rw [bts, nI_succ] at z
    refine ⟨fun c => ?_, fun c => ?_⟩
    · have h0 : ¬ 0 < num f n i := fun z => nI_nle z (by omega) c
      rw [if_neg (by simpa using h0)] at z
      exact am_run (am_cK _) 2 z
    · have h0 : 0 < num f n i := Nat.pos_of_ne_zero (fun z => c (by rw [z]; exact nI_le (a := 0) (b := 0) (Nat.le_refl _) (by omega)))
      rw [if_pos (by simpa using h0), ← q_orBit (bts_lt _ _) (by omega)] at z
      exact am_run (am_cK _) 8 z
def mxA (f : Nat → Nat) (n : Nat) : Nat → Nat
  | 0 => 0
  | c + 1 => Nat.max (mxA f n c) (num f n c)
def mst (f : Nat → Nat) (n : Nat) : Nat := mxA f n 4
theorem mxA_le (f : Nat → Nat) (n : Nat) : ∀ c, mxA f n c ≤ n
  | 0 => Nat.zero_le _
  | c + 1 => Nat.max_le.mpr ⟨mxA_le f n c, num_le f n c⟩
theorem B_mostOfOne {d : Nat} {h : am_H} {Q : Option Value → am_H → Prop} {f : Nat → Nat} {n : Nat} (hn : n ≤ 10) (hf : ∀ i, i < n → f i < 4) (hQ : Q (some (.int (nI (mst f n)))) h) : am_call (d + 4) 18 [.int (nI (rk f n)), .int (nI n)] h Q := by
  refine en_X0_mostOfOne (Nat.le_of_ble_eq_true rfl) (am_run (am_cK _) 4 ?_)
  suffices H : ∀ k i, i + k = 4 → am_wp (am_call (d + 3)) (0, 0) cm_X0_mostOfOne Q (fun _ => False) (4, [some (.int (nI (rk f n))), some (.int (nI n)), some (.int (nI (mxA f n i))), some (.int (nI i))], [], 0, 0) h from H 4 0 (by omega)
  intro k
  induction k with
  | zero =>
    intro i hi
    have e : i = 4 := by omega
    subst e
    exact am_run (am_cK _) 3 ⟨fun _ => am_run (am_cK _) 2 hQ, fun c => absurd (nI_le (a := 4) (b := 4) (Nat.le_refl _) (by omega)) c⟩
  | succ k ih =>
    intro i hi
    refine am_run (am_cK _) 3 ⟨fun c => absurd c (nI_ge (b := 4) (by omega) (by omega)), fun _ => ?_⟩
    have hl := num_le f n i
    have hm := mxA_le f n i
    refine am_run (am_cK _) 5 (B_numberOf hn (by omega) hf ?_)
    refine am_run (am_cK _) 1 (J_max (by omega) (by omega) ?_)
    have z := ih (i + 1) (by omega)
    rw [mxA, nI_succ] at z
    exact am_run (am_cK _) 3 z
theorem per_in {f : Nat → Nat} {n : Nat} (hn0 : 0 < n) : 1 ≤ per f n ∧ per f n ≤ n := by
  have := fnd_le (fun k => rk (rol f n k) n == rk f n) (n - 1) 1
  unfold per
  omega
def sty (f : Nat → Nat) (n : Nat) : Nat := n / per f n + mir f n
theorem B_stays {d : Nat} {h : am_H} {Q : Option Value → am_H → Prop} {f : Nat → Nat} {n : Nat} (hn0 : 0 < n) (hn : n ≤ 10) (hf : ∀ i, i < n → f i < 4) (hQ : Q (some (.int (nI (sty f n)))) h) : am_call (d + 4) 13 [.int (nI (rk f n)), .int (nI n)] h Q := by
  have hp := per_in (f := f) hn0
  refine en_X0_stays (Nat.le_of_ble_eq_true rfl) (am_run (am_cK _) 5 (B_period hn0 hn hf ?_))
  refine am_run (am_cK _) 1 (J_max (a := 1) (by omega) (by omega) ?_)
  rw [show Nat.max 1 (per f n) = per f n from Nat.max_eq_right hp.1]
  refine am_run (am_cK _) 1 ⟨nI_ne0 (by omega) (by omega), ?_⟩
  refine am_run (am_cK _) 3 (B_mirrors hn0 hn hf ?_)
  have e : nI n / nI (per f n) + nI (mir f n) = nI (sty f n) := by
    rw [pk_div (by omega) (by omega) (by omega), nI_add]
    rfl
  rw [← e] at hQ
  exact am_run (am_cK _) 2 hQ
