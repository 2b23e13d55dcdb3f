/-! heap access -/
theorem am_obj_in {h : am_H} {p ci : Nat} {fs : List Value} {g : List Value → Prop} (hp : h.2 p = .inr (ci, fs)) (H : g fs) : am_obj h p ci g := by
  unfold am_obj; rw [hp]; simp only [if_true]; exact H
theorem am_ari_in {h : am_H} {p n : Nat} {ty : FieldType} {f : Nat → Int32} {g : Nat → (Nat → Int32) → Prop} (hp : h.2 p = .inl (ty, n, .inl f)) (H : g n f) : am_ari h p ty g := by
  unfold am_ari; rw [hp]; simp only [if_true]; exact H
theorem am_rdi_in {h : am_H} {p n : Nat} {f : Nat → Int32} {g : Nat → (Nat → Int32) → Prop} (hp : h.2 p = .inl (.int, n, .inl f)) (H : g n f) : am_rdi h p g := by
  unfold am_rdi; rw [hp]; exact H
theorem am_rdi_ro {h : am_H} {p n : Nat} {f : Nat → Int32} {g : Nat → (Nat → Int32) → Prop} (hp : h.2 p = .inl (.float, n, .inl f)) (H : g n f) : am_rdi h p g := by
  unfold am_rdi; rw [hp]; exact H
theorem am_arl_in {h : am_H} {p n : Nat} {f : Nat → Int64} {g : Nat → (Nat → Int64) → Prop} (hp : h.2 p = .inl (.long, n, .inr (.inl f))) (H : g n f) : am_arl h p g := by
  unfold am_arl; rw [hp]; exact H
theorem am_arr_in {h : am_H} {p n : Nat} {C : String} {f : Nat → Option Nat} {g : String → Nat → (Nat → Option Nat) → Prop} (hp : h.2 p = .inl (.object C, n, .inr (.inr (.inr (.inr f))))) (H : g C n f) : am_arr h p g := by
  unfold am_arr; rw [hp]; exact H
theorem am_len_in {h : am_H} {p n : Nat} {ty : FieldType} {x : (Nat → Int32) ⊕ (Nat → Int64) ⊕ (Nat → UInt32) ⊕ (Nat → UInt64) ⊕ (Nat → Option Nat)} {g : Nat → Prop} (hp : h.2 p = .inl (ty, n, x)) (H : g n) : am_len h p g := by
  unfold am_len; rw [hp]; exact H
theorem as_s {h : am_H} {p : Nat} {c : am_C} : (am_set h p c).2 p = c := am_up_s
theorem as_n {h : am_H} {p q : Nat} {c : am_C} (hq : ¬ q = p) : (am_set h p c).2 q = h.2 q := am_up_n hq
theorem as_1 {h : am_H} {p : Nat} {c : am_C} : (am_set h p c).1 = h.1 := rfl
theorem as_as {h : am_H} {p : Nat} {c c' : am_C} : am_set (am_set h p c) p c' = am_set h p c' := by
  unfold am_set
  congr 1
  funext q
  by_cases e : q = p
  · rw [e, am_up_s, am_up_s]
  · rw [am_up_n e, am_up_n e]; exact am_up_n e
theorem as_id {h : am_H} {p : Nat} {c : am_C} (hp : h.2 p = c) : am_set h p c = h := by
  unfold am_set
  have e : va_up h.2 p c = h.2 := by
    funext q
    by_cases z : q = p
    · rw [z, am_up_s, hp]
    · rw [am_up_n z]
  rw [e]
/-- an array of ints -/
abbrev aI (n : Nat) (f : Nat → Int32) : am_C := .inl (.int, n, .inl f)
theorem upd_s {f : Nat → Int32} {k : Nat} {x : Int32} : upd f k x k = x := pk_us
theorem upd_n {f : Nat → Int32} {k j : Nat} {x : Int32} (h : ¬ j = k) : upd f k x j = f j := pk_un h
def gcl (f : Nat → Nat) (n : Nat) : Nat := if 0 < num f n 3 then 3 else if 0 < num f n 2 then 2 else if 0 < num f n 1 then 1 else 0
theorem B_greatestColour {d : Nat} {h : am_H} {Q : Option Value → am_H → Prop} {f : Nat → Nat} {n : Nat} (hn : n ≤ 10) (hf : ∀ i, i < n → f i < 4) (hQ : Q (some (.int (nI (gcl f n)))) h) : am_call (d + 4) 16 [.int (nI (rk f n)), .int (nI n)] h Q := by
  refine en_X0_greatestColour (Nat.le_of_ble_eq_true rfl) (am_run (am_cK _) 2 ?_)
  have step : ∀ c : Nat, 0 < c → c < 4 → (0 < num f n c → Q (some (.int (nI c))) h) → (¬ 0 < num f n c → am_wp (am_call (d + 3)) (0, 0) cm_X0_greatestColour Q (fun _ => False) (2, [some (.int (nI (rk f n))), some (.int (nI n)), some (.int (nI (c - 1)))], [], 0, 0) h) → am_wp (am_call (d + 3)) (0, 0) cm_X0_greatestColour Q (fun _ => False) (2, [some (.int (nI (rk f n))), some (.int (nI n)), some (.int (nI c))], [], 0, 0) h := by
    intro c h0 h4 k1 k2
    have hl := num_le f n c
    refine am_run (am_cK _) 2 ⟨fun z => absurd z (nI_nle h0 (by omega)), fun _ => ?_⟩
    refine am_run (am_cK _) 5 (B_numberOf hn h4 hf ⟨fun z => ?_, fun z => ?_⟩)
    · have hz : ¬ 0 < num f n c := fun w => nI_nle w (by omega) z
      have k := k2 hz
      rw [← sb_m1 h0] at k
      exact am_run (am_cK _) 2 k
    · have hz : 0 < num f n c := Nat.pos_of_ne_zero (fun w => z (by rw [w]; exact nI_le (a := 0) (b := 0) (Nat.le_refl _) (by omega)))
      exact am_run (am_cK _) 2 (k1 hz)
  unfold gcl at hQ
  refine step 3 (by decide) (by decide) (fun z => by rw [if_pos z] at hQ; exact hQ) (fun z3 => ?_)
  refine step 2 (by decide) (by decide) (fun z => by rw [if_neg z3, if_pos z] at hQ; exact hQ) (fun z2 => ?_)
  refine step 1 (by decide) (by decide) (fun z => by rw [if_neg z3, if_neg z2, if_pos z] at hQ; exact hQ) (fun z1 => ?_)
  rw [if_neg z3, if_neg z2, if_neg z1] at hQ
  exact am_run (am_cK _) 2 ⟨fun _ => am_run (am_cK _) 2 hQ, fun c => absurd (nI_le (a := 0) (b := 0) (Nat.le_refl _) (by omega)) c⟩
theorem B_tallyInto {d : Nat} {h : am_H} {Q : Option Value → am_H → Prop} {f : Nat → Nat} {n p : Nat} {t : Nat → Int32} (hp : h.2 p = aI 4 t) (hn : n ≤ 10) (hf : ∀ i, i < n → f i < 4) (hQ : ∀ t', (∀ c, c < 4 → t' c = nI (num f n c)) → Q none (am_set h p (aI 4 t'))) : am_call (d + 4) 17 [.ref p, .int (nI (rk f n)), .int (nI n)] h Q := by
  refine en_X0_tallyInto (Nat.le_of_ble_eq_true rfl) (am_run (am_cK _) 2 ?_)
  suffices H : ∀ k i t', i + k = 4 → (∀ c, c < i → t' c = nI (num f n c)) → am_wp (am_call (d + 3)) (0, 0) cm_X0_tallyInto Q (fun _ => False) (2, [some (.ref p), some (.int (nI (rk f n))), some (.int (nI n)), some (.int (nI i))], [], 0, 0) (am_set h p (aI 4 t')) by
    have z := H 4 0 t (by omega) (fun c hc => by omega)
    rw [as_id hp] at z
    exact z
  intro k
  induction k with
  | zero =>
    intro i t' hi ht
    have e : i = 4 := by omega
    subst e
    exact am_run (am_cK _) 3 ⟨fun _ => am_run (am_cK _) 1 (hQ t' ht), fun c => absurd (nI_le (a := 4) (b := 4) (Nat.le_refl _) (by omega)) c⟩
  | succ k ih =>
    intro i t' hi ht
    refine am_run (am_cK _) 3 ⟨fun c => absurd c (nI_ge (b := 4) (by omega) (by omega)), fun _ => ?_⟩
    refine am_run (am_cK _) 6 (B_numberOf hn (by omega) hf ?_)
    refine am_run (am_cK _) 1 (am_ari_in as_s ⟨vp_in_nI (by omega) (by omega), ?_⟩)
    rw [as_as, nI_clamp (by omega)]
    have z := ih (i + 1) (upd t' i (nI (num f n i))) (by omega) (fun c hc => by
      by_cases e : c = i
      · rw [e, upd_s]
      · rw [upd_n e]; exact ht c (by omega))
    rw [nI_succ] at z
    exact am_run (am_cK _) 2 z
def up1 (f : Nat → Nat) (k c : Nat) : Nat → Nat := fun i => if i = k then c else f i
theorem up1_lt {f : Nat → Nat} {n k c : Nat} (hf : ∀ i, i < n → f i < 4) (hc : c < 4) : ∀ i, i < n → up1 f k c i < 4 := fun i hi => by
  unfold up1; split
  · exact hc
  · exact hf i hi
theorem with_num {f : Nat → Nat} {n b c : Nat} (hn : n ≤ 10) (hb : b < n) (hc : c < 4) (hf : ∀ i, i < n → f i < 4) : (rk f n &&& (3 * 2 ^ (2 * (n - 1 - b)) ^^^ (2 ^ 32 - 1))) ||| c * 2 ^ (2 * (n - 1 - b)) = rk (up1 f b c) n := by
  apply Nat.eq_of_testBit_eq
  intro j
  have hm : ∀ (a s j : Nat), (a * 2 ^ s).testBit j = (decide (s ≤ j) && a.testBit (j - s)) := fun a s j => by rw [Nat.testBit_mul_two_pow]
  rw [Nat.testBit_or, Nat.testBit_and, Nat.testBit_xor, hm, hm, Nat.testBit_two_pow_sub_one, rk_bit hf, rk_bit (up1_lt hf hc)]
  have h3 : ∀ k, (3 : Nat).testBit k = decide (k < 2) := fun k => by
    by_cases hk : k < 2
    · rw [decide_eq_true hk]; exact (by decide : ∀ k, k < 2 → (3 : Nat).testBit k = true) k hk
    · rw [decide_eq_false hk]; exact Nat.testBit_lt_two_pow (Nat.lt_of_lt_of_le (by decide : 3 < 2 ^ 2) (Nat.pow_le_pow_right (by decide) (by omega)))
  rw [h3]
  by_cases hj : j < 2 * n
  · rw [if_pos hj, if_pos hj, decide_eq_true (show j < 32 by omega)]
    unfold up1
    by_cases e : n - 1 - j / 2 = b
    · rw [if_pos e, decide_eq_true (show 2 * (n - 1 - b) ≤ j by omega), decide_eq_true (show j - 2 * (n - 1 - b) < 2 by omega), show j - 2 * (n - 1 - b) = j % 2 by omega]
      simp
    · rw [if_neg e]
      by_cases h1 : 2 * (n - 1 - b) ≤ j
      · rw [decide_eq_true h1, decide_eq_false (show ¬ j - 2 * (n - 1 - b) < 2 by omega)]
        have : c.testBit (j - 2 * (n - 1 - b)) = false := Nat.testBit_lt_two_pow (Nat.lt_of_lt_of_le (show c < 2 ^ 2 by omega) (Nat.pow_le_pow_right (by decide) (by omega)))
        rw [this]
        simp
      · rw [decide_eq_false h1]
        simp
  · rw [if_neg hj, if_neg hj]
    have : c.testBit (j - 2 * (n - 1 - b)) = false := Nat.testBit_lt_two_pow (Nat.lt_of_lt_of_le (show c < 2 ^ 2 by omega) (Nat.pow_le_pow_right (by decide) (by omega)))
    rw [this]
    simp
theorem B_withColour {d : Nat} {h : am_H} {Q : Option Value → am_H → Prop} {f : Nat → Nat} {n b c : Nat} (hn : n ≤ 10) (hb : b < n) (hc : c < 4) (hf : ∀ i, i < n → f i < 4) (hQ : Q (some (.int (nI (rk (up1 f b c) n)))) h) : am_call (d + 1) 3 [.int (nI (rk f n)), .int (nI n), .int (nI b), .int (nI c)] h Q := by
  refine en_X0_withColour (Nat.le_of_ble_eq_true rfl) (am_run (am_cK _) 8 ?_)
  have e0 : (2 : Int32) * (nI n - 1 - nI b) = nI (2 * (n - 1 - b)) := by
    have e1 : nI n - 1 = nI (n - 1) := pk_sub (a := n) (b := 1) (by omega)
    rw [e1, pk_sub (by omega)]
    exact pk_mul 2 _
  have e : (nI (rk f n) &&& ((3 : Int32) <<< ((2 * (nI n - 1 - nI b)) &&& 31) ^^^ (-1))) ||| nI c <<< ((2 * (nI n - 1 - nI b)) &&& 31) = nI (rk (up1 f b c) n) := by
    have e1 : (3 : Int32) <<< (nI (2 * (n - 1 - b)) &&& 31) = nI (3 * 2 ^ (2 * (n - 1 - b))) := q_shl 3 (by omega)
    have e2 : (-1 : Int32) = nI (2 ^ 32 - 1) := by decide
    rw [e0, e1, e2, q_xor, q_and, q_shl _ (by omega), q_or, with_num hn hb hc hf]
  rw [← e] at hQ
  exact am_run (am_cK _) 12 hQ
