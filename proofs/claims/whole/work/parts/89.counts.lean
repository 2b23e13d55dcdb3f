/-! how many kinds: both sides' numbers -/
theorem cdL_gcd {a b : Nat} (ha : 0 < a) : ∀ d, Nat.gcd a b ≤ d → cdL a b d = Nat.gcd a b
  | 0, h => by
    have := Nat.gcd_pos_of_pos_left b ha
    omega
  | d + 1, h => by
    have hp := Nat.gcd_pos_of_pos_left b ha
    rw [cdL]
    by_cases c0 : d = 0
    · rw [if_pos c0, if_neg (by omega)]
      omega
    · rw [if_neg c0]
      by_cases c1 : a % (d + 1) = 0 ∧ b % (d + 1) = 0
      · rw [if_pos c1]
        have := Nat.le_of_dvd hp (Nat.dvd_gcd (Nat.dvd_of_mod_eq_zero c1.1) (Nat.dvd_of_mod_eq_zero c1.2))
        omega
      · rw [if_neg c1]
        refine cdL_gcd ha d (Nat.le_of_not_lt (fun z => c1 ?_))
        have e : Nat.gcd a b = d + 1 := by omega
        exact ⟨Nat.mod_eq_zero_of_dvd (e ▸ Nat.gcd_dvd_left a b), Nat.mod_eq_zero_of_dvd (e ▸ Nat.gcd_dvd_right a b)⟩
theorem cdv_gcd {a b : Nat} (ha : 0 < a) : cdv a b = Nat.gcd a b := cdL_gcd ha a (Nat.le_of_dvd ha (Nat.gcd_dvd_left a b))
theorem cdv_gcd2 : ∀ n, n < 11 → ∀ i, i < n → cdv i n = Nat.gcd n i := fun n hn i hi => by
  cases i with
  | zero => rw [Nat.gcd_zero_right]; rfl
  | succ i => rw [cdv_gcd (by omega), Nat.gcd_comm]
def fxp (n t : Nat) : Nat := if n % 2 = 1 then (n + 1) / 2 else n / 2 + t % 2
def sbN (g : Nat → Nat) (x : Nat) : Nat → Nat
  | 0 => x
  | j + 1 => sbN g x j - g j
/-- rows that no roll keeps, as numbers -/
def nRw (k : Nat) : Nat → Nat → Nat
  | 0, _ => 0
  | f + 1, n => sbN (fun j => if n % (j + 1) = 0 then nRw k f (j + 1) else 0) (k ^ n) (n - 1)
theorem nRw_ok : ∀ k, k < 5 → ∀ f, f < 11 → ∀ n, n < f + 1 → ∀ j, j < n - 1 → (if n % (j + 1) = 0 then nRw k (f - 1) (j + 1) else 0) ≤ sbN (fun j => if n % (j + 1) = 0 then nRw k (f - 1) (j + 1) else 0) (k ^ n) j := by decide +kernel
theorem rnA_eq : ∀ k, k < 5 → ∀ n, n < 11 → 1 ≤ n → rnA k 10 n = nI (nRw k 10 n) ∧ nRw k 10 n < 2 ^ 30 := by decide +kernel
theorem kbr_lt : ∀ k, k < 5 → ∀ n, n < 11 → kbr n k < 2 ^ 30 ∧ kbf n k < 2 ^ 30 ∧ kbf n k = smf (fun t => k ^ fxp n t) n ∧ kbr n k = smf (fun t => k ^ Nat.gcd n t) n ∧ smf (fun t => k ^ fxp n t) n < 2 ^ 30 := by decide +kernel
def oManyN (M : Ms) (n k : Nat) : Int32 × Ms := (nI ((kbr n k + kbf n k) / (2 * n)), pD M (2, w2 (nI (kbr n k / n)) (nI (nRw k 10 n / n))))
def oMany (M : Ms) (n k : Int32) : Int32 × Ms := if n < 1 ∨ 10 < n ∨ k < 1 ∨ 4 < k then (-1, M) else oManyN M n.toNatClampNeg k.toNatClampNeg
section
variable {d : Nat} {h0 h : am_H} {Q : Option Value → am_H → Prop} {F : Nat → Int32} {A : Nat → Nat → Int32} {R : Nat → Int64} {M : Ms}
theorem num_in {x : Int32} {a b : Nat} (ha : a < 2 ^ 31) (hb : b < 2 ^ 31) (h1 : ¬ x < nI a) (h2 : ¬ nI b < x) : ∃ j, a ≤ j ∧ j ≤ b ∧ x = nI j := by
  have c0 : ¬ x < 0 := fun z => nI_pos ha (Int32.lt_of_le_of_lt (Int32.not_lt.mp h1) z)
  obtain ⟨j, hj, rfl⟩ := nI_of c0
  exact ⟨j, Nat.le_of_not_lt (fun z => h1 (nI_lt z ha)), Nat.le_of_not_lt (fun z => h2 (nI_lt z hj)), rfl⟩
theorem X_many (hX : RX h M) (n k : Int32) (hQ : ∀ h', Fx h h' → RX h' (oMany M n k).2 → Q (some (.int (oMany M n k).1)) h') : am_call (d + 20) 142 [.ref 40, .int n, .int k] h Q := by
  obtain ⟨a, b', dr, hX⟩ := hX
  unfold oMany at hQ
  have no : (n < 1 ∨ 10 < n ∨ k < 1 ∨ 4 < k) → Q (some (.int (-1))) h := fun c => by
    rw [if_pos c] at hQ
    exact hQ h Fx.rf ⟨a, b', dr, hX⟩
  refine en_X10_many (Nat.le_of_ble_eq_true rfl) ?_
  refine am_run (am_cK _) 3 (⟨fun c => am_run (am_cK _) 2 (no (Or.inl c)), fun c1 => am_run (am_cK _) 3 (⟨fun c => am_run (am_cK _) 2 (no (Or.inr (Or.inl c))), fun c2 => ?_⟩)⟩)
  obtain ⟨m, m1, m10, rfl⟩ := num_in (a := 1) (b := 10) (by omega) (by omega) c1 c2
  · refine am_run (am_cK _) 4 (B_isNoColour (k - 1) (fun c => ?_) (fun c => ?_))
    · refine am_run (am_cK _) 1 (⟨fun w => absurd w n10, fun _ => am_run (am_cK _) 2 (no (Or.inr (Or.inr ?_)))⟩)
      by_cases z1 : k < 1
      · exact Or.inl z1
      · refine Or.inr (Int32.not_le.mp (fun z => ?_))
        obtain ⟨q, q1, q4, rfl⟩ := num_in (a := 1) (b := 4) (by omega) (by omega) z1 (Int32.not_lt.mpr z)
        rw [show nI q - 1 = nI (q - 1) from pk_sub (a := q) (b := 1) (by omega)] at c
        exact in_no (i := q - 1) (n := 4) (by omega) (by omega) c
    · obtain ⟨q, hq, eq⟩ := S_num2 (n := 4) (by omega) c
      have ek : k = nI (q + 1) := by
        rw [← nI_1, ← eq]
        exact (Int32.sub_add_cancel _ _).symm
      subst ek
      rw [if_neg (by
        rintro (z | z | z | z)
        · exact c1 z
        · exact c2 z
        · exact nI_nlt (a := q + 1) (b := 1) (by omega) (by omega) z
        · exact nI_nlt (a := 4) (b := q + 1) (by omega) (by omega) z), nI_clamp (by omega), nI_clamp (by omega)] at hQ
      unfold oManyN at hQ
      have kl := kbr_lt (q + 1) (by omega) m (by omega)
      have rn := rnA_eq (q + 1) (by omega) m (by omega) m1
      refine am_run (am_cK _) 1 (⟨fun _ => ?_, fun w => absurd rfl w⟩)
      refine am_run (am_cK _) 3 (N_keptByRolls m10 ?_)
      refine am_run (am_cK _) 3 (am_obj_in hX.o.1 (am_run (am_cK _) 1 (am_obj_in hX.d.1.1 ((X_begin hX (fun h1 a1 hX1 => ?_))))))
      refine am_run (am_cK _) 2 (am_obj_in hX1.o.1 (am_run (am_cK _) 3 (⟨nI_ne0 (by omega) (by omega), ?_⟩)))
      rw [pk_div (by omega) (by omega) (by omega)]
      refine am_run (am_cK _) 1 (am_obj_in hX1.d.1.1 ((X_add hX1 (show 0 < 16 by omega) _ (fun h2 a2 hX2 => ?_))))
      refine am_run (am_cK _) 2 (am_obj_in hX2.o.1 (am_run (am_cK _) 3 (N_rowsThatNoRollKeeps (d := d + 8) 10 m m10 (by omega) (by omega) ?_)))
      rw [rn.1]
      refine am_run (am_cK _) 2 (⟨nI_ne0 (by omega) (by omega), ?_⟩)
      rw [pk_div (by omega) (by omega) (by omega)]
      refine am_run (am_cK _) 1 (am_obj_in hX2.d.1.1 ((X_add hX2 (show 0 + 1 < 16 by omega) _ (fun h3 a3 hX3 => ?_))))
      refine am_run (am_cK _) 4 (N_keptByFlips m10 ?_)
      have e2 : (2 : Int32) * nI m = nI (2 * m) := two_n m
      refine am_run (am_cK _) 4 (show am_wp (am_call (d + 19)) (0, 0) cm_X10_many Q (fun _ => False) (69, [some (.ref 40), some (.int (nI m)), some (.int (nI (q + 1))), some (.int (nI (kbr m (q + 1))))], [.int (2 * nI m), .int (nI (kbr m (q + 1)) + nI (kbf m (q + 1)))], 0, 0) h3 from ?_)
      rw [e2, nI_add]
      refine am_run (am_cK _) 1 ⟨nI_ne0 (by omega) (by omega), ?_⟩
      rw [pk_div (by omega) (by omega) (by omega)]
      exact am_run (am_cK _) 1 (hQ h3 ((Fx2 a1 a2).tr (a3.fx (by omega) (by omega))) ⟨a, b', dr, RX_dc hX3 (fun i hi => i_lt2 (P := fun i => upd (upd (mD M).2 0 (nI (kbr m (q + 1) / m))) (0 + 1) (nI (nRw (q + 1) 10 m / m)) i = w2 (nI (kbr m (q + 1) / m)) (nI (nRw (q + 1) 10 m / m)) i) hi rfl rfl)⟩)
theorem M_power {k : Nat} (hk : k < 2 ^ 31) : ∀ (n : Nat) {Q : Option Value → am_H → Prop}, n < 2 ^ 31 → Q (some (.long (lN (k ^ n)))) h → am_call (d + n + 1) 271 [.int (nI k), .int (nI n)] h Q
  | 0, Q, _, hQ => by
    refine en_X11_power (Nat.le_of_ble_eq_true rfl) ?_
    exact am_run (am_cK _) 2 (⟨fun c => absurd rfl c, fun _ => am_run (am_cK _) 3 (hQ)⟩)
  | n + 1, Q, hn, hQ => by
    refine en_X11_power (Nat.le_of_ble_eq_true rfl) ?_
    refine am_run (am_cK _) 2 (⟨fun _ => ?_, fun c => absurd (Classical.not_not.mp c) (nI_ne0 (by omega) hn)⟩)
    refine am_run (am_cK _) 7 (show am_call (d + n + 1) 271 [.int (nI k), .int (nI (n + 1) - 1)] h _ from ?_)
    rw [nI_pred]
    refine M_power hk n (by omega) ?_
    refine am_run (am_cK _) 2 (show Q (some (.long ((nI k).toInt64 * lN (k ^ n)))) h from ?_)
    rw [nI_l hk, lN_mul, ← Nat.pow_succ']
    exact hQ
theorem M_ringsOf {n t : Nat} (hn : n ≤ 10) (ht : t ≤ 10) (hQ : Q (some (.int (nI (Nat.gcd n t)))) h) : am_call (d + 13) 272 [.int (nI n), .int (nI t)] h Q := by
  refine en_X11_ringsOf (Nat.le_of_ble_eq_true rfl) ?_
  refine am_run (am_cK _) 5 (show am_call (d + 12) 179 [.long (nI n).toInt64, .long (nI t).toInt64] h _ from ?_)
  rw [nI_l (by omega), nI_l (by omega)]
  refine M_common (d := d) 12 n t (by omega) (by omega) (by omega) ?_
  refine am_run (am_cK _) 2 (show Q (some (.int (lN (Nat.gcd n t)).toInt32)) h from ?_)
  rw [lN_i]
  exact hQ
theorem M_newRows {k : Nat} (hk : k < 5) : ∀ (f n : Nat) {Q : Option Value → am_H → Prop}, n ≤ f → f ≤ 10 → 0 < n → Q (some (.long (lN (nRw k f n)))) h → am_call (d + f + 12) 274 [.int (nI n), .int (nI k)] h Q
  | 0, n, Q, hn, _, h0, _ => by omega
  | f + 1, n, Q, hnf, hf, hn0, hQ => by
    refine en_X11_newRows (Nat.le_of_ble_eq_true rfl) ?_
    refine am_run (am_cK _) 3 (show am_call (d + (f + 1) + 11) 271 [.int (nI k), .int (nI n)] h _ from ?_)
    rw [show d + (f + 1) + 11 = (d + (f + 1) + 10 - n) + n + 1 by omega]
    refine M_power (by omega) n (by omega) ?_
    rw [show (d + (f + 1) + 10 - n) + n + 1 = d + f + 12 by omega]
    refine am_run (am_cK _) 3 (show am_wp (am_call (d + f + 12)) (0, 0) cm_X11_newRows Q (fun _ => False) (9, [some (.int (nI n)), some (.int (nI k)), some (.long (lN (k ^ n))), none, some (.int (nI 1))], [], 0, 0) h from ?_)
    have ok := nRw_ok k hk (f + 1) (by omega) n (by omega)
    rw [Nat.add_sub_cancel] at ok
    have lp := am_loopC (call := am_call (d + f + 12)) (lim := (0, 0)) (M := cm_X11_newRows) (Q := Q) (X := fun _ => False) (h := h) (fun j => (9, [some (.int (nI n)), some (.int (nI k)), some (.long (lN (sbN (fun j => if n % (j + 1) = 0 then nRw k f (j + 1) else 0) (k ^ n) j))), none, some (.int (nI (j + 1)))], [], 0, 0)) (n - 1) (fun j hj K => ?_) ?_ 0 (Nat.zero_le _)
    · exact lp
    · have ok2 := ok j hj
      refine am_run (am_cK _) 3 (pk_le n (j + 1) (fun c => by omega) (fun _ => ?_))
      refine am_run (am_cK _) 4 (⟨nI_ne0 (by omega) (by omega), ?_⟩)
      rw [show nI n - nI n / nI (j + 1) * nI (j + 1) = nI (n % (j + 1)) from pk_rem (by omega) (by omega) (by omega)]
      have hml : n % (j + 1) < j + 1 := Nat.mod_lt _ (by omega)
      rw [sbN, ← lN_sub ok2, nI_succ (j + 1)] at K
      refine am_run (am_cK _) 1 (⟨fun c => ?_, fun c => ?_⟩)
      · rw [if_neg (fun z => c (by rw [z]; rfl))] at K
        exact am_run (am_cK _) 5 (K)
      · have e0 : n % (j + 1) = 0 := (nI_eq (b := 0) (by omega) (by omega)).mp (Classical.not_not.mp c)
        rw [if_pos e0] at K
        refine am_run (am_cK _) 3 (M_newRows hk f (j + 1) (by omega) (by omega) (by omega) ?_)
        exact am_run (am_cK _) 5 (K)
    · refine am_run (am_cK _) 3 (pk_le n (n - 1 + 1) (fun _ => ?_) (fun c => by omega))
      exact am_run (am_cK _) 2 (hQ)
end
