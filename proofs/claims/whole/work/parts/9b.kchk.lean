/-! the least rows by numbers to the base k: they are the kinds listed, in the same order -/
def cv (k : Nat) : Nat → Nat → Nat
  | 0, _ => 0
  | n + 1, s => 4 * cv k n (s / k) + s % k
theorem cv_rk (k : Nat) : ∀ (n s : Nat), rk (dgk k s n) n = cv k n s
  | 0, _ => rfl
  | n + 1, s => by
    rw [rk, cv]
    have e1 : rk (dgk k s (n + 1)) n = rk (dgk k (s / k) n) n := rk_congr (fun i hi => by
      show s / k ^ (n + 1 - 1 - i) % k = s / k / k ^ (n - 1 - i) % k
      rw [Nat.div_div_eq_div_mul, ← Nat.pow_succ', show n + 1 - 1 - i = (n - 1 - i).succ by omega])
    have e2 : dgk k s (n + 1) n = s % k := by
      show s / k ^ (n + 1 - 1 - n) % k = s % k
      rw [show n + 1 - 1 - n = 0 by omega, Nat.pow_zero, Nat.div_one]
    rw [e1, e2, cv_rk k n (s / k)]
def rvN : Nat → Nat → Nat → Nat
  | 0, _, a => a
  | n + 1, v, a => rvN n (v / 4) (4 * a + v % 4)
theorem rvN_eq {f : Nat → Nat} : ∀ (n a : Nat), (∀ i, i < n → f i < 4) → rvN n (rk f n) a = a * 4 ^ n + rk (flp f n) n
  | 0, a, _ => by simp [rvN, rk]
  | n + 1, a, hf => by
    have h4 := hf n (by omega)
    rw [rvN, show rk f (n + 1) / 4 = rk f n by rw [rk]; omega, show rk f (n + 1) % 4 = f n by rw [rk]; omega, rvN_eq n _ (fun i hi => hf i (by omega))]
    have hs := rk_split (flp f (n + 1)) 1 n
    rw [Nat.add_comm 1 n] at hs
    have e1 : rk (flp f (n + 1)) 1 = f n := by
      show 4 * 0 + f (n + 1 - 1 - 0) = f n
      rw [Nat.mul_zero, Nat.zero_add]
      rfl
    have e2 : rk (fun i => flp f (n + 1) (1 + i)) n = rk (flp f n) n := rk_congr (fun i hi => by
      show f (n + 1 - 1 - (1 + i)) = f (n - 1 - i)
      congr 1
      omega)
    rw [hs, e1, e2, Nat.pow_succ, Nat.add_mul, Nat.add_assoc]
    congr 1
    rw [Nat.mul_comm 4 a, Nat.mul_assoc, Nat.mul_comm 4]
def rtN (n r v : Nat) : Nat := (v * 4 ^ r + v / 4 ^ (n - r)) % 4 ^ n
def tsA (n v w : Nat) : Nat → Bool
  | 0 => true
  | r + 1 => Nat.ble v (rtN n r w) && tsA n v w r
def tsN (n v : Nat) : Bool := tsA n v v n && tsA n v (rvN n v 0) n
theorem tsA_iff (n v w : Nat) : ∀ m, tsA n v w m = true ↔ ∀ r, r < m → v ≤ rtN n r w
  | 0 => ⟨fun _ r hr => absurd hr (Nat.not_lt_zero r), fun _ => rfl⟩
  | m + 1 => by
    rw [tsA, Bool.and_eq_true, tsA_iff n v w m, Nat.ble_eq]
    exact ⟨fun h r hr => by
      by_cases e : r = m
      · subst e; exact h.1
      · exact h.2 r (by omega), fun h => ⟨h m (by omega), fun r hr => h r (by omega)⟩⟩
theorem tsN_eq {f : Nat → Nat} {n : Nat} (hn0 : 0 < n) (hf : ∀ i, i < n → f i < 4) : tsN n (rk f n) = isL f n (2 * n) := by
  have e1 : ∀ r, r < n → rtN n r (rk f n) = kT f n r := fun r hr => by
    rw [kT_roll hr, rk_rol hf hr]; rfl
  have e2 : ∀ r, r < n → rtN n r (rk (flp f n) n) = kT f n (n + r) := fun r hr => by
    rw [kT_flip, rk_rol (flp_lt hf) hr]; rfl
  have h0 := lst_le (f := f) (n := n) (t := 0) (by omega)
  rw [kT_0 hn0] at h0
  have ev : rvN n (rk f n) 0 = rk (flp f n) n := by rw [rvN_eq n 0 hf, Nat.zero_mul, Nat.zero_add]
  rw [isL_eq hn0, Bool.eq_iff_iff, beq_iff_eq]
  unfold tsN
  rw [Bool.and_eq_true, tsA_iff, tsA_iff, ev]
  constructor
  · rintro ⟨a, b⟩
    obtain ⟨t, ht, e⟩ := lst_ex (f := f) hn0
    by_cases c : t < n
    · have := a t c
      rw [e1 t c] at this
      omega
    · have := b (t - n) (by omega)
      rw [e2 (t - n) (by omega), show n + (t - n) = t by omega] at this
      omega
  · intro h
    refine ⟨fun r hr => ?_, fun r hr => ?_⟩
    · rw [e1 r hr, ← h]; exact lst_le (by omega)
    · rw [e2 r hr, ← h]; exact lst_le (by omega)
/-- a number (to the base k) whose row is the least of its turnings -/
def lk (k n s : Nat) : Bool := tsN n (cv k n s)
theorem lk_isL {k n s : Nat} (hn0 : 0 < n) (hk0 : 0 < k) (hk : k ≤ 4) : isL (dgk k s n) n (2 * n) = lk k n s := by
  unfold lk
  rw [← cv_rk, tsN_eq (f := dgk k s n) hn0 (fun i _ => Nat.lt_of_lt_of_le (Nat.mod_lt _ hk0) hk)]
/-- those from N - f on are just these -/
def hdOk (v : Nat) (L : List Nat) : Bool := match L with
  | [] => false
  | x :: _ => Nat.beq x v
def chk (k n N : Nat) : Nat → List Nat → Bool
  | 0, L => L.isEmpty
  | f + 1, L => cond (lk k n (N - (f + 1))) (hdOk (cv k n (N - (f + 1))) L && chk k n N f L.tail) (chk k n N f L)
theorem cnt_up (p : Nat → Bool) {a : Nat} : ∀ {b : Nat}, a ≤ b → cnt p a ≤ cnt p b
  | 0, h => by rw [show a = 0 by omega]; exact Nat.le_refl _
  | b + 1, h => by
    by_cases e : a = b + 1
    · rw [e]; exact Nat.le_refl _
    · have := cnt_up p (a := a) (b := b) (by omega)
      rw [cnt]
      omega
theorem chk_use {k n N : Nat} : ∀ (f : Nat) (L : List Nat), f ≤ N → chk k n N f L = true → L.length + cnt (lk k n) (N - f) = cnt (lk k n) N ∧ ∀ s, N - f ≤ s → s < N → lk k n s = true → L.getD (cnt (lk k n) s - cnt (lk k n) (N - f)) 0 = cv k n s
  | 0, L, _, h => by
    rw [chk] at h
    cases L with
    | nil => exact ⟨by rw [List.length_nil, Nat.zero_add]; rfl, fun s h1 h2 _ => by omega⟩
    | cons x xs => exact absurd h Bool.false_ne_true
  | f + 1, L, hf, h => by
    have ea : N - f = N - (f + 1) + 1 := by omega
    rw [chk] at h
    cases hp : lk k n (N - (f + 1)) with
    | false =>
      rw [hp, cond_false] at h
      obtain ⟨i1, i2⟩ := chk_use f L (by omega) h
      rw [ea, cnt_f hp] at i1 i2
      exact ⟨i1, fun s h1 h2 h3 => by
        by_cases e : s = N - (f + 1)
        · rw [← e, h3] at hp; cases hp
        · exact i2 s (by omega) h2 h3⟩
    | true =>
      rw [hp, cond_true] at h
      cases L with
      | nil => exact absurd h Bool.false_ne_true
      | cons x xs =>
        have h' : Nat.beq x (cv k n (N - (f + 1))) = true ∧ chk k n N f xs = true := (Bool.and_eq_true _ _).mp h
        obtain ⟨i1, i2⟩ := chk_use f xs (by omega) h'.2
        have hx := Nat.eq_of_beq_eq_true h'.1
        rw [ea, cnt_t hp] at i1 i2
        refine ⟨by rw [List.length_cons]; omega, fun s h1 h2 h3 => ?_⟩
        by_cases e : s = N - (f + 1)
        · rw [e, Nat.sub_self]; exact hx
        · have q := i2 s (by omega) h2 h3
          have hm := cnt_up (lk k n) (a := N - (f + 1) + 1) (b := s) (by omega)
          rw [cnt_t hp] at hm
          rw [show cnt (lk k n) s - cnt (lk k n) (N - (f + 1)) = (cnt (lk k n) s - (cnt (lk k n) (N - (f + 1)) + 1)) + 1 by omega]
          exact q
/-- the kinds of the first k colours -/
def FL (k n : Nat) : List Nat := (kL n).filter (fun v => decide (gcN v n < k))
theorem fl_123 : ∀ n, n < 8 → 1 ≤ n → ∀ k, k < 4 → 1 ≤ k → chk k n (k ^ n) (k ^ n) (FL k n) = true := by decide +kernel
theorem fl_4 : ∀ n, n < 7 → 1 ≤ n → chk 4 n (4 ^ n) (4 ^ n) (kL n) = true := by decide +kernel
theorem fl_47 : chk 4 7 (4 ^ 7) (4 ^ 7) (kL 7) = true := by decide +kernel
theorem FL_4 (n : Nat) : FL 4 n = kL n := List.filter_eq_self.mpr (fun v _ => decide_eq_true (gcl_lt _ _))
theorem fl_all {n k : Nat} (hn0 : 1 ≤ n) (hn : n ≤ 7) (hk0 : 1 ≤ k) (hk : k ≤ 4) : chk k n (k ^ n) (k ^ n) (FL k n) = true := by
  by_cases e : k = 4
  · subst e
    rw [FL_4]
    by_cases e7 : n = 7
    · subst e7; exact fl_47
    · exact fl_4 n (by omega) hn0
  · exact fl_123 n (by omega) hn0 k (by omega) hk0
theorem FL_len {n k : Nat} (hn0 : 1 ≤ n) (hn : n ≤ 7) (hk0 : 1 ≤ k) (hk : k ≤ 4) : (FL k n).length = cnt (lk k n) (k ^ n) := by
  have h := (chk_use (k ^ n) (FL k n) (Nat.le_refl _) (fl_all hn0 hn hk0 hk)).1
  rw [Nat.sub_self] at h
  exact h
theorem FL_at {n k s : Nat} (hn0 : 1 ≤ n) (hn : n ≤ 7) (hk0 : 1 ≤ k) (hk : k ≤ 4) (hs : s < k ^ n) (h : lk k n s = true) : (FL k n).getD (cnt (lk k n) s) 0 = cv k n s := by
  have h := (chk_use (k ^ n) (FL k n) (Nat.le_refl _) (fl_all hn0 hn hk0 hk)).2 s (by omega) hs h
  rw [Nat.sub_self] at h
  exact h
