def fcN (n : Nat) : Nat := [1, 1, 2, 6, 24, 120, 720, 5040, 40320, 362880, 3628800].getD n 1
def roFac : Nat → Int32 := fun i => ([1, 1, 2, 6, 24, 120, 720, 5040, 40320, 362880, 3628800] : List Int32).getD i 0
def roSt : Nat → Int32 := fun i => ([0, 0, 4, 14, 34, 89, 225, 655, 1955] : List Int32).getD i 0
/-- the two tables that are only read -/
def RO (h : am_H) : Prop := h.2 32 = .inl (.float, 9, .inl roSt) ∧ h.2 33 = .inl (.float, 11, .inl roFac)
theorem RO_fr {h h' : am_H} (hR : RO h) (hf : ∀ x, x < 40 → h'.2 x = h.2 x) : RO h' := ⟨(hf _ (by omega)).trans hR.1, (hf _ (by omega)).trans hR.2⟩
theorem roFac_eq : ∀ i, i < 11 → roFac i = nI (fcN i) := by decide
theorem fcN_big {n : Nat} (h : 11 ≤ n) : fcN n = 1 := by
  unfold fcN
  rw [List.getD_eq_getElem?_getD, List.getElem?_eq_none (by simpa using h)]
  rfl
def cdL (a b : Nat) : Nat → Nat
  | 0 => if a = 0 then b else 1
  | d + 1 => if d = 0 then (if a = 0 then b else 1) else if a % (d + 1) = 0 ∧ b % (d + 1) = 0 then d + 1 else cdL a b d
/-- the greatest common divisor as it is sought -/
def cdv (a b : Nat) : Nat := cdL a b a
theorem cdv_le : ∀ n, n < 11 → ∀ i, i < n → 1 ≤ cdv i n ∧ cdv i n ≤ 10 := by decide +kernel
def bst (n k : Nat) : Nat := if n % 2 = 1 then 1 else if k % 2 = 1 then 2 else 0
def sbI (g : Nat → Int32) (x : Int32) : Nat → Int32
  | 0 => x
  | j + 1 => sbI g x j - g j
/-- rows that no roll keeps -/
def rnA (k : Nat) : Nat → Nat → Int32
  | 0, _ => 0
  | f + 1, n => sbI (fun j => if n % (j + 1) = 0 then rnA k f (j + 1) else 0) (nI (k ^ n)) (n - 1)
def prf (f : Nat → Nat) : Nat → Nat
  | 0 => 1
  | n + 1 => prf f n * f n
/-- in how many rows beads can lie that come in sets -/
def rwO (t : Nat → Nat) (e : Nat) : Nat := if allB (fun c => t c % e == 0) 4 then fcN (smf (fun c => t c / e) 4) / prf (fun c => fcN (t c / e)) 4 else 0
def pRw : Nat → (Nat → Nat) → Nat
  | 0, t => rwO t 2
  | s + 1, t => smf (fun c => if 0 < t c then pRw s (va_up t c (t c - 1)) else 0) 4
section
variable {d : Nat} {h : am_H} {Q : Option Value → am_H → Prop}
theorem N_power {k n : Nat} (hn : n < 2 ^ 31) (hQ : Q (some (.int (nI (k ^ n)))) h) : am_call (d + 1) 33 [.int (nI k), .int (nI n)] h Q := by
  refine en_X2_power (Nat.le_of_ble_eq_true rfl) (am_run (am_cK _) 4 ?_)
  suffices H : ∀ r i, i + r = n → am_wp (am_call d) (0, 0) cm_X2_power Q (fun _ => False) (4, [some (.int (nI k)), some (.int (nI n)), some (.int (nI (k ^ i))), some (.int (nI i))], [], 0, 0) h from H n 0 (by omega)
  intro r
  induction r with
  | zero =>
    intro i hi
    have e : i = n := by omega
    subst e
    exact am_run (am_cK _) 3 ⟨fun _ => am_run (am_cK _) 2 hQ, fun c => absurd (nI_le (Nat.le_refl _) (by omega)) c⟩
  | succ r ih =>
    intro i hi
    have zz := ih (i + 1) (by omega)
    rw [nI_succ, Nat.pow_succ, ← pk_mul] at zz
    exact am_run (am_cK _) 3 ⟨fun c => absurd c (nI_ge (by omega) (by omega)), fun _ => am_run (am_cK _) 6 zz⟩
theorem N_commonDivisor {a b : Nat} (ha : a < 2 ^ 31) (hb : b < 2 ^ 31) (hQ : Q (some (.int (nI (cdv a b)))) h) : am_call (d + 1) 34 [.int (nI a), .int (nI b)] h Q := by
  refine en_X2_commonDivisor (Nat.le_of_ble_eq_true rfl) (am_run (am_cK _) 2 ?_)
  suffices H : ∀ r, r ≤ a → cdv a b = cdL a b r → am_wp (am_call d) (0, 0) cm_X2_commonDivisor Q (fun _ => False) (2, [some (.int (nI a)), some (.int (nI b)), some (.int (nI r))], [], 0, 0) h from H a (Nat.le_refl _) rfl
  intro r
  have fin : ∀ x : Nat, cdv a b = (if a = 0 then b else 1) → am_wp (am_call d) (0, 0) cm_X2_commonDivisor Q (fun _ => False) (27, [some (.int (nI a)), some (.int (nI b)), some (.int (nI x))], [], 0, 0) h := by
    intro x e
    rw [e] at hQ
    refine am_run (am_cK _) 2 ⟨fun c => ?_, fun c => ?_⟩
    · have h0 : ¬ a = 0 := fun z => c (by rw [z]; rfl)
      rw [if_neg h0] at hQ
      exact am_run (am_cK _) 2 hQ
    · have h0 : a = 0 := (nI_eq (b := 0) ha (by omega)).mp (Classical.not_not.mp c)
      rw [if_pos h0] at hQ
      exact am_run (am_cK _) 3 hQ
  induction r with
  | zero =>
    intro hr hc
    exact am_run (am_cK _) 3 ⟨fun _ => fin 0 hc, fun c => absurd (show nI 0 ≤ 1 by decide) c⟩
  | succ r ih =>
    intro hr hc
    by_cases hr0 : r = 0
    · subst hr0
      exact am_run (am_cK _) 3 ⟨fun _ => fin 1 hc, fun c => absurd (show nI 1 ≤ 1 by decide) c⟩
    · rw [cdL, if_neg hr0] at hc
      refine am_run (am_cK _) 3 ⟨fun c => absurd c (nI_ge (a := 1) (b := r + 1) (by omega) (by omega)), fun _ => ?_⟩
      have ne : ¬ nI (r + 1) = 0 := nI_ne0 (by omega) (by omega)
      have e1 : nI a - nI a / nI (r + 1) * nI (r + 1) = nI (a % (r + 1)) := pk_rem ha (by omega) (by omega)
      have e2 : nI b - nI b / nI (r + 1) * nI (r + 1) = nI (b % (r + 1)) := pk_rem hb (by omega) (by omega)
      have hm1 : a % (r + 1) < r + 1 := Nat.mod_lt _ (by omega)
      have hm2 : b % (r + 1) < r + 1 := Nat.mod_lt _ (by omega)
      have back : cdv a b = cdL a b r → am_wp (am_call d) (0, 0) cm_X2_commonDivisor Q (fun _ => False) (21, [some (.int (nI a)), some (.int (nI b)), some (.int (nI (r + 1)))], [], 0, 0) h := fun z => by
        have zz := ih (by omega) z
        refine am_run (am_cK _) 2 ?_
        have e3 : nI (r + 1) + (-1) = nI r := by
          have : nI (r + 1) - 1 = nI r := pk_sub (a := r + 1) (b := 1) (by omega)
          rw [← this]; exact (Int32.sub_eq_add_neg _ _).symm
        show am_wp (am_call d) (0, 0) cm_X2_commonDivisor Q (fun _ => False) (2, [some (.int (nI a)), some (.int (nI b)), some (.int (nI (r + 1) + (-1)))], [], 0, 0) h
        rw [e3]
        exact zz
      refine am_run (am_cK _) 3 ⟨ne, ?_⟩
      rw [e1]
      refine am_run (am_cK _) 1 ⟨fun c => ?_, fun c => ?_⟩
      · have hn : ¬ a % (r + 1) = 0 := fun z => c (by rw [z]; rfl)
        rw [if_neg (fun z => hn z.1)] at hc
        exact back hc
      · have hy : a % (r + 1) = 0 := (nI_eq (b := 0) (by omega) (by omega)).mp (Classical.not_not.mp c)
        refine am_run (am_cK _) 3 ⟨ne, ?_⟩
        rw [e2]
        refine am_run (am_cK _) 1 ⟨fun c => ?_, fun c => ?_⟩
        · have hn : ¬ b % (r + 1) = 0 := fun z => c (by rw [z]; rfl)
          rw [if_neg (fun z => hn z.2)] at hc
          exact back hc
        · have hy2 : b % (r + 1) = 0 := (nI_eq (b := 0) (by omega) (by omega)).mp (Classical.not_not.mp c)
          rw [if_pos ⟨hy, hy2⟩] at hc
          rw [hc] at hQ
          exact am_run (am_cK _) 2 hQ
theorem N_beadsThatStay {n k : Nat} (hn : n < 2 ^ 31) (hk : k < 2 ^ 31) (hQ : Q (some (.int (nI (bst n k)))) h) : am_call (d + 1) 35 [.int (nI n), .int (nI k)] h Q := by
  unfold bst at hQ
  have e1 : nI n - nI n / 2 * 2 = nI (n % 2) := pk_rem (d := 2) hn (by omega) (by omega)
  have e2 : nI k - nI k / 2 * 2 = nI (k % 2) := pk_rem (d := 2) hk (by omega) (by omega)
  refine en_X2_beadsThatStay (Nat.le_of_ble_eq_true rfl) (am_run (am_cK _) 3 ⟨by decide, ?_⟩)
  rw [e1]
  refine am_run (am_cK _) 2 ⟨fun c => ?_, fun c => ?_⟩
  · have hc : ¬ n % 2 = 1 := fun z => c (by rw [z]; rfl)
    rw [if_neg hc] at hQ
    refine am_run (am_cK _) 3 ⟨by decide, ?_⟩
    rw [e2]
    refine am_run (am_cK _) 2 ⟨fun c => ?_, fun c => ?_⟩
    · have hc : ¬ k % 2 = 1 := fun z => c (by rw [z]; rfl)
      rw [if_neg hc] at hQ
      exact am_run (am_cK _) 2 hQ
    · have hc : k % 2 = 1 := (nI_eq (b := 1) (by omega) (by omega)).mp (Classical.not_not.mp c)
      rw [if_pos hc] at hQ
      exact am_run (am_cK _) 3 hQ
  · have hc : n % 2 = 1 := (nI_eq (b := 1) (by omega) (by omega)).mp (Classical.not_not.mp c)
    rw [if_pos hc] at hQ
    exact am_run (am_cK _) 2 hQ
def kbr (n k : Nat) : Nat := smf (fun i => k ^ cdv i n) n
def kbf (n k : Nat) : Nat := smf (fun i => k ^ (bst n i + (n - bst n i) / 2)) n
theorem N_keptByRolls {n k : Nat} (hn : n ≤ 10) (hQ : Q (some (.int (nI (kbr n k)))) h) : am_call (d + 2) 36 [.int (nI n), .int (nI k)] h Q := by
  refine en_X2_keptByRolls (Nat.le_of_ble_eq_true rfl) (am_run (am_cK _) 4 ?_)
  suffices H : ∀ r i, i + r = n → am_wp (am_call (d + 1)) (0, 0) cm_X2_keptByRolls Q (fun _ => False) (4, [some (.int (nI n)), some (.int (nI k)), some (.int (nI (smf (fun i => k ^ cdv i n) i))), some (.int (nI i))], [], 0, 0) h from H n 0 (by omega)
  intro r
  induction r with
  | zero =>
    intro i hi
    have e : i = n := by omega
    subst e
    exact am_run (am_cK _) 3 ⟨fun _ => am_run (am_cK _) 2 hQ, fun c => absurd (nI_le (Nat.le_refl _) (by omega)) c⟩
  | succ r ih =>
    intro i hi
    have hc := cdv_le n (by omega) i (by omega)
    have zz := ih (i + 1) (by omega)
    rw [nI_succ, smf, ← nI_add] at zz
    refine am_run (am_cK _) 3 ⟨fun c => absurd c (nI_ge (by omega) (by omega)), fun _ => ?_⟩
    exact am_run (am_cK _) 5 (N_commonDivisor (by omega) (by omega) (am_run (am_cK _) 1 (N_power (by omega) (am_run (am_cK _) 4 zz))))
theorem bst_le (n k : Nat) (hn : 0 < n) : bst n k ≤ 2 ∧ bst n k ≤ n := by
  unfold bst
  split
  · omega
  · split <;> omega
theorem N_keptByFlips {n k : Nat} (hn : n ≤ 10) (hQ : Q (some (.int (nI (kbf n k)))) h) : am_call (d + 2) 37 [.int (nI n), .int (nI k)] h Q := by
  refine en_X2_keptByFlips (Nat.le_of_ble_eq_true rfl) (am_run (am_cK _) 4 ?_)
  suffices H : ∀ r i x, i + r = n → am_wp (am_call (d + 1)) (0, 0) cm_X2_keptByFlips Q (fun _ => False) (4, [some (.int (nI n)), some (.int (nI k)), some (.int (nI (smf (fun i => k ^ (bst n i + (n - bst n i) / 2)) i))), some (.int (nI i)), x], [], 0, 0) h from H n 0 none (by omega)
  intro r
  induction r with
  | zero =>
    intro i x hi
    have e : i = n := by omega
    subst e
    exact am_run (am_cK _) 3 ⟨fun _ => am_run (am_cK _) 2 hQ, fun c => absurd (nI_le (Nat.le_refl _) (by omega)) c⟩
  | succ r ih =>
    intro i x hi
    have hb := bst_le n i (by omega)
    have zz := ih (i + 1) (some (.int (nI (bst n i)))) (by omega)
    rw [nI_succ, smf, ← nI_add] at zz
    refine am_run (am_cK _) 3 ⟨fun c => absurd c (nI_ge (by omega) (by omega)), fun _ => ?_⟩
    refine am_run (am_cK _) 3 (N_beadsThatStay (by omega) (by omega) ?_)
    refine am_run (am_cK _) 9 ⟨by decide, ?_⟩
    have e : nI (bst n i) + (nI n - nI (bst n i)) / 2 = nI (bst n i + (n - bst n i) / 2) := by
      have e1 : nI (n - bst n i) / 2 = nI ((n - bst n i) / 2) := pk_div (d := 2) (by omega) (by omega) (by omega)
      rw [pk_sub hb.2, e1, nI_add]
    refine am_run (am_cK _) 2 (show am_call (d + 1) 33 [.int (nI k), .int (nI (bst n i) + (nI n - nI (bst n i)) / 2)] h _ from ?_)
    rw [e]
    exact N_power (by omega) (am_run (am_cK _) 4 zz)
theorem N_rowsThatNoRollKeeps {k : Nat} : ∀ (f n : Nat) {Q : Option Value → am_H → Prop}, n ≤ f → f ≤ 10 → 0 < n → Q (some (.int (rnA k f n))) h → am_call (d + f + 1) 38 [.int (nI n), .int (nI k)] h Q
  | 0, n, Q, h1, _, h0, _ => by omega
  | f + 1, n, Q, h1, h10, h0, hQ => by
    refine en_X2_rowsThatNoRollKeeps (Nat.le_of_ble_eq_true rfl) (am_run (am_cK _) 3 (N_power (by omega) (am_run (am_cK _) 3 ?_)))
    suffices H : ∀ r i, i + r + 1 = n → am_wp (am_call (d + f + 1)) (0, 0) cm_X2_rowsThatNoRollKeeps Q (fun _ => False) (8, [some (.int (nI n)), some (.int (nI k)), some (.int (sbI (fun j => if n % (j + 1) = 0 then rnA k f (j + 1) else 0) (nI (k ^ n)) i)), some (.int (nI (i + 1)))], [], 0, 0) h from H (n - 1) 0 (by omega)
    intro r
    induction r with
    | zero =>
      intro i hi
      have e : i = n - 1 := by omega
      subst e
      rw [show n - 1 + 1 = n by omega]
      exact am_run (am_cK _) 3 ⟨fun _ => am_run (am_cK _) 2 hQ, fun c => absurd (nI_le (Nat.le_refl _) (by omega)) c⟩
    | succ r ih =>
      intro i hi
      have zz := ih (i + 1) (by omega)
      rw [nI_succ (i + 1), sbI] at zz
      have e1 : nI n - nI n / nI (i + 1) * nI (i + 1) = nI (n % (i + 1)) := pk_rem (by omega) (by omega) (by omega)
      have hm1 : n % (i + 1) < i + 1 := Nat.mod_lt _ (by omega)
      refine am_run (am_cK _) 3 ⟨fun c => absurd c (nI_ge (by omega) (by omega)), fun _ => ?_⟩
      refine am_run (am_cK _) 3 ⟨nI_ne0 (by omega) (by omega), ?_⟩
      rw [e1]
      refine am_run (am_cK _) 1 ⟨fun c => ?_, fun c => ?_⟩
      · have hn : ¬ n % (i + 1) = 0 := fun z => c (by rw [z]; rfl)
        rw [if_neg hn, Int32.sub_zero] at zz
        exact am_run (am_cK _) 2 zz
      · have hy : n % (i + 1) = 0 := (nI_eq (b := 0) (by omega) (by omega)).mp (Classical.not_not.mp c)
        rw [if_pos hy] at zz
        exact am_run (am_cK _) 4 (N_rowsThatNoRollKeeps f (i + 1) (by omega) (by omega) (by omega) (am_run (am_cK _) 4 zz))
theorem N_factorial (hR : RO h) {n : Nat} (hn : n < 2 ^ 31) (hQ : Q (some (.int (nI (fcN n)))) h) : am_call (d + 1) 43 [.int (nI n)] h Q := by
  refine en_X2_factorial (Nat.le_of_ble_eq_true rfl) (am_run (am_cK _) 2 ⟨fun c => absurd c (nI_pos hn), fun _ => ?_⟩)
  refine am_run (am_cK _) 3 (am_len_in hR.2 (am_run (am_cK _) 1 ⟨fun c => ?_, fun c => ?_⟩))
  · have hc : 11 ≤ n := (nI_leI (a := 11) (by omega) hn).mp c
    rw [fcN_big hc] at hQ
    exact am_run (am_cK _) 2 hQ
  · have hc : n < 11 := Nat.lt_of_not_le (fun z => c ((nI_leI (a := 11) (by omega) hn).mpr z))
    refine am_run (am_cK _) 3 (am_rdi_ro hR.2 ⟨vp_in_nI hc (by omega), ?_⟩)
    rw [nI_clamp hn, roFac_eq n hc]
    exact am_run (am_cK _) 2 hQ
end
