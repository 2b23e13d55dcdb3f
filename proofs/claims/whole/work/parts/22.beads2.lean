def cnt (p : Nat → Bool) : Nat → Nat
  | 0 => 0
  | n + 1 => cnt p n + (if p n then 1 else 0)
/-- the first from s on, of k places, or s + k -/
def fnd (p : Nat → Bool) : Nat → Nat → Nat
  | s, 0 => s
  | s, k + 1 => if p s then s else fnd p (s + 1) k
theorem cnt_le (p : Nat → Bool) : ∀ n, cnt p n ≤ n
  | 0 => Nat.le_refl _
  | n + 1 => by
    have := cnt_le p n
    rw [cnt]
    split <;> omega
theorem fnd_le (p : Nat → Bool) : ∀ k s, s ≤ fnd p s k ∧ fnd p s k ≤ s + k
  | 0, s => by simp [fnd]
  | k + 1, s => by
    have := fnd_le p k (s + 1)
    rw [fnd]
    split <;> omega
theorem q_eq {a b : Nat} (ha : a < 2 ^ 31) (hb : b < 2 ^ 31) : (nI a = nI b) = (a = b) := propext (nI_eq ha hb)
theorem J_max {d : Nat} {h : am_H} {Q : Option Value → am_H → Prop} {a b : Nat} (ha : a < 2 ^ 31) (hb : b < 2 ^ 31) (hQ : Q (some (.int (nI (Nat.max a b)))) h) : am_call (d + 1) 324 [.int (nI a), .int (nI b)] h Q := by
  refine en_J9_max_7cf53 (Nat.le_of_ble_eq_true rfl) ?_
  refine am_run (am_cK _) 3 ⟨fun c => ?_, fun c => ?_⟩
  · have e : Nat.max a b = b := Nat.max_eq_right (Nat.le_of_lt ((nI_ltI ha hb).mp c))
    rw [e] at hQ
    exact am_run (am_cK _) 2 hQ
  · have e : Nat.max a b = a := Nat.max_eq_left (Nat.le_of_not_lt (fun z => c ((nI_ltI ha hb).mpr z)))
    rw [e] at hQ
    exact am_run (am_cK _) 3 hQ
theorem J_min {d : Nat} {h : am_H} {Q : Option Value → am_H → Prop} {a b : Nat} (ha : a < 2 ^ 31) (hb : b < 2 ^ 31) (hQ : Q (some (.int (nI (Nat.min a b)))) h) : am_call (d + 1) 325 [.int (nI a), .int (nI b)] h Q := by
  refine en_J9_min_7cf53 (Nat.le_of_ble_eq_true rfl) ?_
  refine am_run (am_cK _) 3 ⟨fun c => ?_, fun c => ?_⟩
  · have e : Nat.min a b = b := Nat.min_eq_right (Nat.le_of_lt ((nI_ltI hb ha).mp c))
    rw [e] at hQ
    exact am_run (am_cK _) 2 hQ
  · have e : Nat.min a b = a := Nat.min_eq_left (Nat.le_of_not_lt (fun z => c ((nI_ltI hb ha).mpr z)))
    rw [e] at hQ
    exact am_run (am_cK _) 3 hQ
theorem B_flipped {d : Nat} {h : am_H} {Q : Option Value → am_H → Prop} {f : Nat → Nat} {n : Nat} (hn : n ≤ 10) (hf : ∀ i, i < n → f i < 4) (hQ : Q (some (.int (nI (rk (flp f n) n)))) h) : am_call (d + 1) 5 [.int (nI (rk f n)), .int (nI n)] h Q := by
  refine en_X0_flipped (Nat.le_of_ble_eq_true rfl) (am_run (am_cK _) 4 ?_)
  suffices H : ∀ k i, i + k = n → am_wp (am_call d) (0, 0) cm_X0_flipped Q (fun _ => False) (4, [some (.int (nI (rk f n))), some (.int (nI n)), some (.int (nI (rk (flp f n) i))), some (.int (nI i))], [], 0, 0) h from H n 0 (by omega)
  intro k
  induction k with
  | zero =>
    intro i hi
    have e : i = n := by omega
    subst e
    exact am_run (am_cK _) 3 ⟨fun _ => am_run (am_cK _) 2 hQ, fun c => absurd (nI_le (Nat.le_refl _) (by omega)) c⟩
  | succ k ih =>
    intro i hi
    refine am_run (am_cK _) 3 ⟨fun c => absurd c (nI_ge (by omega) (by omega)), fun _ => ?_⟩
    have e : nI (rk (flp f n) i) <<< ((2 : Int32) &&& 31) ||| nI (rk f n) >>> ((2 * nI i) &&& 31) &&& 3 = nI (rk (flp f n) (i + 1)) := by
      have e1 : (2 : Int32) * nI i = nI (2 * i) := pk_mul 2 i
      have e2 : nI (rk (flp f n) i) <<< ((2 : Int32) &&& 31) = nI (rk (flp f n) i * 2 ^ 2) := q_shl _ (k := 2) (by omega)
      have e3 : rk f n / 4 ^ i % 4 = f (n - 1 - i) := by
        have z := rk_at (f := f) (n := n) (i := n - 1 - i) (by omega) hf
        rw [show n - 1 - (n - 1 - i) = i by omega] at z
        exact z
      rw [e1, e2, q_shr (by have := rk_small hn hf; omega) (by omega), ← p4, q_and3, e3, q_or, q_orAdd (by have := hf (n - 1 - i) (by omega); omega)]
      congr 1
      show _ = 4 * rk (flp f n) i + f (n - 1 - i)
      omega
    have z := ih (i + 1) (by omega)
    rw [← e, nI_succ] at z
    exact am_run (am_cK _) 14 z
theorem B_turned {d : Nat} {h : am_H} {Q : Option Value → am_H → Prop} {f : Nat → Nat} {n t : Nat} (hn0 : 0 < n) (hn : n ≤ 10) (ht : t < 2 * n) (hf : ∀ i, i < n → f i < 4) (hQ : Q (some (.int (nI (rk (trn f n t) n)))) h) : am_call (d + 3) 6 [.int (nI (rk f n)), .int (nI n), .int (nI t)] h Q := by
  refine en_X0_turned (Nat.le_of_ble_eq_true rfl) ?_
  refine am_run (am_cK _) 3 ⟨fun c => ?_, fun c => ?_⟩
  · have hc : n ≤ t := (nI_leI (by omega) (by omega)).mp c
    refine am_run (am_cK _) 3 (B_flipped hn hf ?_)
    refine am_run (am_cK _) 5 (show am_call (d + 2) 4 [.int (nI (rk (flp f n) n)), .int (nI n), .int (nI t - nI n)] h _ from ?_)
    rw [pk_sub hc]
    refine B_rolled hn0 hn (by omega) (flp_lt hf) ?_
    have e : rk (trn f n t) n = rk (rol (flp f n) n (t - n)) n := by unfold trn; rw [if_neg (by omega)]
    rw [e] at hQ
    exact am_run (am_cK _) 1 hQ
  · have hc : t < n := Nat.lt_of_not_le (fun z => c ((nI_leI (by omega) (by omega)).mpr z))
    refine am_run (am_cK _) 4 (B_rolled hn0 hn (by omega) hf ?_)
    have e : rk (trn f n t) n = rk (rol f n t) n := by unfold trn; rw [if_pos hc]
    rw [e] at hQ
    exact am_run (am_cK _) 2 hQ
/-- a turning's name -/
def tnm (n t : Nat) : Nat := if t < n then t else 100 + t - n
theorem B_turningName {d : Nat} {h : am_H} {Q : Option Value → am_H → Prop} {n t : Nat} (hn : n ≤ 10) (ht : t < 2 * n) (hQ : Q (some (.int (nI (tnm n t)))) h) : am_call (d + 1) 7 [.int (nI t), .int (nI n)] h Q := by
  refine en_X0_turningName (Nat.le_of_ble_eq_true rfl) ?_
  refine am_run (am_cK _) 3 ⟨fun c => ?_, fun c => ?_⟩
  · have hc : n ≤ t := (nI_leI (by omega) (by omega)).mp c
    have e : (100 : Int32) + nI t - nI n = nI (tnm n t) := by
      have e1 : (100 : Int32) + nI t = nI (100 + t) := nI_add 100 t
      rw [e1, pk_sub (by omega)]
      unfold tnm
      rw [if_neg (by omega)]
    rw [← e] at hQ
    exact am_run (am_cK _) 6 hQ
  · have hc : t < n := Nat.lt_of_not_le (fun z => c ((nI_leI (by omega) (by omega)).mpr z))
    have e : nI t = nI (tnm n t) := by unfold tnm; rw [if_pos hc]
    rw [← e] at hQ
    exact am_run (am_cK _) 3 hQ
/-- the number of a turning -/
def kT (f : Nat → Nat) (n t : Nat) : Nat := rk (trn f n t) n
theorem kT_small {f : Nat → Nat} {n t : Nat} (hn : n ≤ 10) (hf : ∀ i, i < n → f i < 4) : kT f n t < 2 ^ 20 := rk_small hn (trn_lt hf)
def per (f : Nat → Nat) (n : Nat) : Nat := fnd (fun k => rk (rol f n k) n == rk f n) 1 (n - 1)
def mir (f : Nat → Nat) (n : Nat) : Nat := cnt (fun k => rk (rol (flp f n) n k) n == rk f n) n
def fT (f : Nat → Nat) (n w : Nat) : Nat := fnd (fun t => kT f n t == w) 0 (2 * n)
theorem B_period {d : Nat} {h : am_H} {Q : Option Value → am_H → Prop} {f : Nat → Nat} {n : Nat} (hn0 : 0 < n) (hn : n ≤ 10) (hf : ∀ i, i < n → f i < 4) (hQ : Q (some (.int (nI (per f n)))) h) : am_call (d + 3) 11 [.int (nI (rk f n)), .int (nI n)] h Q := by
  refine en_X0_period (Nat.le_of_ble_eq_true rfl) (am_run (am_cK _) 2 ?_)
  suffices H : ∀ k i, i + k = n → Q (some (.int (nI (fnd (fun k => rk (rol f n k) n == rk f n) i k)))) h → am_wp (am_call (d + 2)) (0, 0) cm_X0_period Q (fun _ => False) (2, [some (.int (nI (rk f n))), some (.int (nI n)), some (.int (nI i))], [], 0, 0) h from H (n - 1) 1 (by omega) hQ
  intro k
  induction k with
  | zero =>
    intro i hi hq
    have e : i = n := by omega
    subst e
    exact am_run (am_cK _) 3 ⟨fun _ => am_run (am_cK _) 2 hq, fun c => absurd (nI_le (Nat.le_refl _) (by omega)) c⟩
  | succ k ih =>
    intro i hi hq
    refine am_run (am_cK _) 3 ⟨fun c => absurd c (nI_ge (by omega) (by omega)), fun _ => ?_⟩
    refine am_run (am_cK _) 6 (B_rolled hn0 hn (by omega) hf ?_)
    have hs1 := rk_small hn (rol_lt (k := i) hf)
    have hs2 := rk_small hn hf
    rw [fnd] at hq
    refine ⟨fun c => ?_, fun c => ?_⟩
    · have hne : ¬ rk (rol f n i) n = rk f n := fun z => c (by rw [z])
      rw [if_neg (by simpa using hne)] at hq
      have z := ih (i + 1) (by omega) hq
      rw [nI_succ] at z
      exact am_run (am_cK _) 2 z
    · have he : rk (rol f n i) n = rk f n := (nI_eq (by omega) (by omega)).mp (Classical.not_not.mp c)
      rw [if_pos (by simpa using he)] at hq
      exact am_run (am_cK _) 2 hq
theorem B_mirrors {d : Nat} {h : am_H} {Q : Option Value → am_H → Prop} {f : Nat → Nat} {n : Nat} (hn0 : 0 < n) (hn : n ≤ 10) (hf : ∀ i, i < n → f i < 4) (hQ : Q (some (.int (nI (mir f n)))) h) : am_call (d + 3) 12 [.int (nI (rk f n)), .int (nI n)] h Q := by
  refine en_X0_mirrors (Nat.le_of_ble_eq_true rfl) (am_run (am_cK _) 3 (B_flipped hn hf ?_))
  refine am_run (am_cK _) 5 ?_
  suffices H : ∀ k i, i + k = n → am_wp (am_call (d + 2)) (0, 0) cm_X0_mirrors Q (fun _ => False) (11, [some (.int (nI (rk f n))), some (.int (nI n)), some (.int (nI (rk (flp f n) n))), some (.int (nI (cnt (fun k => rk (rol (flp f n) n k) n == rk f n) i))), some (.int (nI i))], [], 0, 0) h from H n 0 (by omega)
  intro k
  induction k with
  | zero =>
    intro i hi
    have e : i = n := by omega
    subst e
    exact am_run (am_cK _) 3 ⟨fun _ => am_run (am_cK _) 2 hQ, fun c => absurd (nI_le (Nat.le_refl _) (by omega)) c⟩
  | succ k ih =>
    intro i hi
    refine am_run (am_cK _) 3 ⟨fun c => absurd c (nI_ge (by omega) (by omega)), fun _ => ?_⟩
    refine am_run (am_cK _) 6 (B_rolled hn0 hn (by omega) (flp_lt hf) ?_)
    have hs1 := rk_small hn (rol_lt (k := i) (flp_lt hf))
    have hs2 := rk_small hn hf
    have z := ih (i + 1) (by omega)
    rw [cnt, nI_succ] at z
    refine ⟨fun c => ?_, fun c => ?_⟩
    · have hne : ¬ rk (rol (flp f n) n i) n = rk f n := fun z => c (by rw [z])
      rw [if_neg (by simpa using hne)] at z
      exact am_run (am_cK _) 2 z
    · have he : rk (rol (flp f n) n i) n = rk f n := (nI_eq (by omega) (by omega)).mp (Classical.not_not.mp c)
      rw [if_pos (by simpa using he), nI_succ] at z
      exact am_run (am_cK _) 3 z
theorem B_firstTurning {d : Nat} {h : am_H} {Q : Option Value → am_H → Prop} {f : Nat → Nat} {n w : Nat} (hn0 : 0 < n) (hn : n ≤ 10) (hf : ∀ i, i < n → f i < 4) (hw : w < 2 ^ 20) (h1 : fT f n w < 2 * n → Q (some (.int (nI (tnm n (fT f n w))))) h) (h2 : fT f n w = 2 * n → Q (some (.int (-1))) h) : am_call (d + 4) 10 [.int (nI (rk f n)), .int (nI w), .int (nI n)] h Q := by
  refine en_X0_firstTurning (Nat.le_of_ble_eq_true rfl) (am_run (am_cK _) 2 ?_)
  have e2 : (2 : Int32) * nI n = nI (2 * n) := pk_mul 2 n
  suffices H : ∀ k i, i + k = 2 * n → (fnd (fun t => kT f n t == w) i k < 2 * n → Q (some (.int (nI (tnm n (fnd (fun t => kT f n t == w) i k))))) h) → (fnd (fun t => kT f n t == w) i k = 2 * n → Q (some (.int (-1))) h) → am_wp (am_call (d + 3)) (0, 0) cm_X0_firstTurning Q (fun _ => False) (2, [some (.int (nI (rk f n))), some (.int (nI w)), some (.int (nI n)), some (.int (nI i))], [], 0, 0) h from H (2 * n) 0 (by omega) h1 h2
  intro k
  induction k with
  | zero =>
    intro i hi q1 q2
    have e : i = 2 * n := by omega
    subst e
    refine am_run (am_cK _) 5 ⟨fun _ => am_run (am_cK _) 2 (q2 rfl), fun c => absurd (show (2 : Int32) * nI n ≤ nI (2 * n) by rw [e2]; exact nI_le (Nat.le_refl _) (by omega)) c⟩
  | succ k ih =>
    intro i hi q1 q2
    refine am_run (am_cK _) 5 ⟨fun c => absurd (show nI (2 * n) ≤ nI i by rw [← e2]; exact c) (nI_ge (by omega) (by omega)), fun _ => ?_⟩
    refine am_run (am_cK _) 6 (B_turned hn0 hn (by omega) hf ?_)
    have hs1 : kT f n i < 2 ^ 20 := kT_small hn hf
    rw [fnd] at q1 q2
    refine ⟨fun c => ?_, fun c => ?_⟩
    · have hne : ¬ kT f n i = w := fun z => c (by show nI (kT f n i) = _; rw [z])
      rw [if_neg (by simpa using hne)] at q1 q2
      have z := ih (i + 1) (by omega) q1 q2
      rw [nI_succ] at z
      exact am_run (am_cK _) 2 z
    · have he : kT f n i = w := (nI_eq (by omega) (by omega)).mp (Classical.not_not.mp c)
      rw [if_pos (by simpa using he)] at q1
      exact am_run (am_cK _) 3 (B_turningName hn (by omega) (am_run (am_cK _) 1 (q1 (by omega))))
