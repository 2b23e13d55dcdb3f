theorem B_isNoColour {d : Nat} {h : am_H} {Q : Option Value → am_H → Prop} (c : Int32) (h1 : (c < 0 ∨ 4 ≤ c) → Q (some (.int 1)) h) (h2 : ¬ (c < 0 ∨ 4 ≤ c) → Q (some (.int 0)) h) : am_call (d + 1) 0 [.int c] h Q := by
  refine en_X0_isNoColour (Nat.le_of_ble_eq_true rfl) ?_
  refine am_run (am_cK d) 2 ⟨fun a => ?_, fun a => ?_⟩
  · exact am_run (am_cK d) 3 ⟨Or.inr rfl, h1 (Or.inl a)⟩
  · refine am_run (am_cK d) 3 ⟨fun b => ?_, fun b => ?_⟩
    · exact am_run (am_cK d) 2 ⟨Or.inl rfl, h2 (fun z => z.elim a (fun z => Int32.not_le.mpr b z))⟩
    · exact am_run (am_cK d) 3 ⟨Or.inr rfl, h1 (Or.inr (Int32.not_lt.mp b))⟩
theorem B_mask {d : Nat} {h : am_H} {Q : Option Value → am_H → Prop} {n : Nat} (hn : n ≤ 10) (hQ : Q (some (.int (nI (4 ^ n - 1)))) h) : am_call (d + 1) 1 [.int (nI n)] h Q := by
  refine en_X0_mask (Nat.le_of_ble_eq_true rfl) (am_run (am_cK d) 8 ?_)
  have e : (1 : Int32) <<< ((2 * nI n) &&& 31) - 1 = nI (4 ^ n - 1) := by
    have e1 : (2 : Int32) * nI n = nI (2 * n) := pk_mul 2 n
    have e2 : (1 : Int32) <<< (nI (2 * n) &&& 31) = nI (1 * 2 ^ (2 * n)) := q_shl 1 (by omega)
    rw [e1, e2, Nat.one_mul, ← p4]
    exact pk_sub (a := 4 ^ n) (b := 1) (Nat.pow_pos (by decide))
  show Q (some (.int ((1 : Int32) <<< ((2 * nI n) &&& 31) - 1))) h
  rw [e]
  exact hQ
theorem B_colourAt {d : Nat} {h : am_H} {Q : Option Value → am_H → Prop} {f : Nat → Nat} {n i : Nat} (hn : n ≤ 10) (hf : ∀ i, i < n → f i < 4) (hi : i < n) (hQ : Q (some (.int (nI (f i)))) h) : am_call (d + 1) 2 [.int (nI (rk f n)), .int (nI n), .int (nI i)] h Q := by
  refine en_X0_colourAt (Nat.le_of_ble_eq_true rfl) (am_run (am_cK d) 12 ?_)
  have e : nI (rk f n) >>> ((2 * (nI n - 1 - nI i)) &&& 31) &&& 3 = nI (f i) := by
    have e0 : nI n - 1 = nI (n - 1) := pk_sub (a := n) (b := 1) (by omega)
    have e1 : (2 : Int32) * nI (n - 1 - i) = nI (2 * (n - 1 - i)) := pk_mul 2 _
    rw [e0, pk_sub (by omega), e1, q_shr (by have := rk_small hn hf; omega) (by omega), ← p4, q_and3, rk_at hi hf]
  show Q (some (.int (nI (rk f n) >>> ((2 * (nI n - 1 - nI i)) &&& 31) &&& 3))) h
  rw [e]
  exact hQ
/-- rolled, flipped, turned -/
def rol (f : Nat → Nat) (n k : Nat) : Nat → Nat := fun i => f ((i + k) % n)
def flp (f : Nat → Nat) (n : Nat) : Nat → Nat := fun i => f (n - 1 - i)
def trn (f : Nat → Nat) (n i : Nat) : Nat → Nat := if i < n then rol f n i else rol (flp f n) n (i - n)
theorem rol_lt {f : Nat → Nat} {n k : Nat} (hf : ∀ i, i < n → f i < 4) : ∀ i, i < n → rol f n k i < 4 := fun i hi => hf _ (Nat.mod_lt _ (by omega))
theorem flp_lt {f : Nat → Nat} {n : Nat} (hf : ∀ i, i < n → f i < 4) : ∀ i, i < n → flp f n i < 4 := fun i hi => hf _ (by omega)
theorem trn_lt {f : Nat → Nat} {n k : Nat} (hf : ∀ i, i < n → f i < 4) : ∀ i, i < n → trn f n k i < 4 := fun i hi => by
  unfold trn
  split
  · exact rol_lt hf i hi
  · exact rol_lt (flp_lt hf) i hi
theorem rk_rol {f : Nat → Nat} {n r : Nat} (hf : ∀ i, i < n → f i < 4) (hr : r < n) : rk (rol f n r) n = (rk f n * 4 ^ r + rk f n / 4 ^ (n - r)) % 4 ^ n := by
  -- the first r beads come behind the others
  have hs := rk_split f r (n - r)
  rw [show r + (n - r) = n by omega] at hs
  have hl : rk (fun i => f (r + i)) (n - r) < 4 ^ (n - r) := rk_lt (fun j hj => hf _ (by omega))
  have hr1 : rk f r < 4 ^ r := rk_lt (fun j hj => hf _ (by omega))
  have hd : rk f n / 4 ^ (n - r) = rk f r := by
    rw [hs, Nat.mul_comm, Nat.mul_add_div (Nat.pow_pos (by decide)), Nat.div_eq_of_lt hl, Nat.add_zero]
  have hp : (4 : Nat) ^ n = 4 ^ (n - r) * 4 ^ r := by rw [← Nat.pow_add]; congr 1; omega
  have h2 := rk_split (rol f n r) (n - r) r
  rw [show n - r + r = n by omega] at h2
  have ea : rk (rol f n r) (n - r) = rk (fun i => f (r + i)) (n - r) := rk_congr (fun i hi => by
    show f ((i + r) % n) = f (r + i)
    rw [Nat.mod_eq_of_lt (by omega), Nat.add_comm])
  have eb : rk (fun i => rol f n r (n - r + i)) r = rk f r := rk_congr (fun i hi => by
    show f ((n - r + i + r) % n) = f i
    rw [show n - r + i + r = i + n by omega, Nat.add_mod_right, Nat.mod_eq_of_lt (by omega)])
  rw [h2, ea, eb, hd, hs]
  generalize rk (fun i => f (r + i)) (n - r) = x at hl ⊢
  generalize rk f r = y at hr1 ⊢
  rw [hp, Nat.add_mul, Nat.mul_assoc, Nat.add_assoc, Nat.mul_comm y, Nat.mul_add_mod]
  have hx : x * 4 ^ r + y < 4 ^ (n - r) * 4 ^ r := by
    have : (x + 1) * 4 ^ r ≤ 4 ^ (n - r) * 4 ^ r := Nat.mul_le_mul_right _ (by omega)
    rw [Nat.add_mul, Nat.one_mul] at this
    omega
  rw [Nat.mod_eq_of_lt hx]
theorem rol_mod (f : Nat → Nat) (n k : Nat) : rol f n (k % n) = rol f n k := by
  funext i
  show f ((i + k % n) % n) = f ((i + k) % n)
  rw [Nat.add_mod_mod]
theorem rk_rol2 {f : Nat → Nat} {n r : Nat} (hf : ∀ i, i < n → f i < 4) (hr : r < n) : rk (rol f n r) n = rk f n % 4 ^ (n - r) * 4 ^ r + rk f n / 4 ^ (n - r) := by
  have hs := rk_split f r (n - r)
  rw [show r + (n - r) = n by omega] at hs
  have hl : rk (fun i => f (r + i)) (n - r) < 4 ^ (n - r) := rk_lt (fun j hj => hf _ (by omega))
  have hd : rk f n / 4 ^ (n - r) = rk f r := by
    rw [hs, Nat.mul_comm, Nat.mul_add_div (Nat.pow_pos (by decide)), Nat.div_eq_of_lt hl, Nat.add_zero]
  have hm : rk f n % 4 ^ (n - r) = rk (fun i => f (r + i)) (n - r) := by
    rw [hs, Nat.mul_comm, Nat.mul_add_mod, Nat.mod_eq_of_lt hl]
  have h2 := rk_split (rol f n r) (n - r) r
  rw [show n - r + r = n by omega] at h2
  have ea : rk (rol f n r) (n - r) = rk (fun i => f (r + i)) (n - r) := rk_congr (fun i hi => by
    show f ((i + r) % n) = f (r + i)
    rw [Nat.mod_eq_of_lt (by omega), Nat.add_comm])
  have eb : rk (fun i => rol f n r (n - r + i)) r = rk f r := rk_congr (fun i hi => by
    show f ((n - r + i + r) % n) = f i
    rw [show n - r + i + r = i + n by omega, Nat.add_mod_right, Nat.mod_eq_of_lt (by omega)])
  rw [h2, ea, eb, hd, hm]
theorem B_rolled {d : Nat} {h : am_H} {Q : Option Value → am_H → Prop} {f : Nat → Nat} {n k : Nat} (hn0 : 0 < n) (hn : n ≤ 10) (hk : k < 2 ^ 31) (hf : ∀ i, i < n → f i < 4) (hQ : Q (some (.int (nI (rk (rol f n k) n)))) h) : am_call (d + 2) 4 [.int (nI (rk f n)), .int (nI n), .int (nI k)] h Q := by
  refine en_X0_rolled (Nat.le_of_ble_eq_true rfl) ?_
  refine am_run (am_cK _) 2 ⟨fun a => ?_, fun a => ?_⟩
  · exact absurd a (nI_nle hn0 (by omega))
  · refine am_run (am_cK _) 3 ⟨nI_ne0 hn0 (by omega), ?_⟩
    rw [show nI k - nI k / nI n * nI n = nI (k % n) from pk_rem hk hn0 (by omega)]
    have hr : k % n < n := Nat.mod_lt _ hn0
    refine am_run (am_cK _) 24 ?_
    have hsm := rk_small hn hf
    have e : (nI (rk f n) &&& ((1 : Int32) <<< ((2 * (nI n - nI (k % n))) &&& 31) - 1)) <<< ((2 * nI (k % n)) &&& 31) ||| nI (rk f n) >>> ((2 * (nI n - nI (k % n))) &&& 31) = nI (rk (rol f n k) n) := by
      have e1 : (2 : Int32) * nI (k % n) = nI (2 * (k % n)) := pk_mul 2 _
      have e2 : (2 : Int32) * nI (n - k % n) = nI (2 * (n - k % n)) := pk_mul 2 _
      have e3 : (1 : Int32) <<< (nI (2 * (n - k % n)) &&& 31) = nI (1 * 2 ^ (2 * (n - k % n))) := q_shl 1 (by omega)
      have e4 : nI (2 ^ (2 * (n - k % n))) - 1 = nI (2 ^ (2 * (n - k % n)) - 1) := pk_sub (a := 2 ^ (2 * (n - k % n))) (b := 1) (Nat.pow_pos (by decide))
      rw [e1, pk_sub (by omega), e2, e3, Nat.one_mul, e4, q_andM, q_shl _ (by omega), q_shr (by omega) (by omega), q_or]
      have hd : rk f n / 2 ^ (2 * (n - k % n)) < 2 ^ (2 * (k % n)) := by
        rw [← p4, ← p4]
        refine Nat.div_lt_of_lt_mul ?_
        rw [← Nat.pow_add, show n - k % n + k % n = n by omega]
        exact rk_lt hf
      rw [q_orAdd hd, ← p4, ← p4, ← rk_rol2 hf hr, rol_mod]
    show Q (some (.int ((nI (rk f n) &&& ((1 : Int32) <<< ((2 * (nI n - nI (k % n))) &&& 31) - 1)) <<< ((2 * nI (k % n)) &&& 31) ||| nI (rk f n) >>> ((2 * (nI n - nI (k % n))) &&& 31)))) h
    rw [e]
    exact hQ
