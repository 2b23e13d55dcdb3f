/-! the kinds' places, by numbers to the base k -/
theorem cnt_sh (q : Nat → Bool) : ∀ j, cnt q (j + 1) = (if q 0 then 1 else 0) + cnt (fun i => q (i + 1)) j
  | 0 => by
    show 0 + (if q 0 then 1 else 0) = (if q 0 then 1 else 0) + 0
    rw [Nat.zero_add, Nat.add_zero]
  | j + 1 => by
    show cnt q (j + 1) + (if q (j + 1) then 1 else 0) = (if q 0 then 1 else 0) + (cnt (fun i => q (i + 1)) j + (if q (j + 1) then 1 else 0))
    rw [cnt_sh q j, Nat.add_assoc]
theorem fnd_sh (q : Nat → Bool) : ∀ k s, fnd q (s + 1) k = fnd (fun i => q (i + 1)) s k + 1
  | 0, s => rfl
  | k + 1, s => by
    rw [fnd, fnd]
    split
    · rfl
    · exact fnd_sh q k (s + 1)
theorem fnd_0t {q : Nat → Bool} {k : Nat} (h : q 0 = true) : fnd q 0 (k + 1) = 0 := by rw [fnd, if_pos h]
theorem fnd_0f {q : Nat → Bool} {k : Nat} (h : q 0 = false) : fnd q 0 (k + 1) = fnd (fun i => q (i + 1)) 0 k + 1 := by
  rw [fnd, if_neg (by rw [h]; exact Bool.false_ne_true), fnd_sh]
theorem cnt_fl {a b : Nat → Bool} : ∀ (L : List Nat), cnt (fun i => b (L.getD i 0) && a (L.getD i 0)) L.length = cnt (fun j => b ((L.filter a).getD j 0)) (L.filter a).length
  | [] => rfl
  | x :: xs => by
    have ih := cnt_fl (a := a) (b := b) xs
    rw [List.length_cons, cnt_sh]
    cases ha : a x with
    | true =>
      rw [List.filter_cons_of_pos ha, List.length_cons, cnt_sh]
      show (if (b x && a x) = true then 1 else 0) + cnt (fun i => b (xs.getD i 0) && a (xs.getD i 0)) xs.length = (if b x = true then 1 else 0) + cnt (fun j => b ((xs.filter a).getD j 0)) (xs.filter a).length
      rw [ih, ha, Bool.and_true]
    | false =>
      rw [List.filter_cons_of_neg (by rw [ha]; exact Bool.false_ne_true)]
      show (if (b x && a x) = true then 1 else 0) + cnt (fun i => b (xs.getD i 0) && a (xs.getD i 0)) xs.length = cnt (fun j => b ((xs.filter a).getD j 0)) (xs.filter a).length
      rw [ih, ha, Bool.and_false, if_neg Bool.false_ne_true, Nat.zero_add]
theorem fnd_fl {a b : Nat → Bool} : ∀ (L : List Nat), (fnd (fun i => b (L.getD i 0) && a (L.getD i 0)) 0 L.length < L.length ↔ fnd (fun j => b ((L.filter a).getD j 0)) 0 (L.filter a).length < (L.filter a).length) ∧ (fnd (fun i => b (L.getD i 0) && a (L.getD i 0)) 0 L.length < L.length → L.getD (fnd (fun i => b (L.getD i 0) && a (L.getD i 0)) 0 L.length) 0 = (L.filter a).getD (fnd (fun j => b ((L.filter a).getD j 0)) 0 (L.filter a).length) 0)
  | [] => ⟨Iff.rfl, fun h => absurd h (Nat.not_lt_zero _)⟩
  | x :: xs => by
    obtain ⟨i1, i2⟩ := fnd_fl (a := a) (b := b) xs
    have ef : (b x && a x) = false → fnd (fun i => b ((x :: xs).getD i 0) && a ((x :: xs).getD i 0)) 0 (xs.length + 1) = fnd (fun i => b (xs.getD i 0) && a (xs.getD i 0)) 0 xs.length + 1 := fun h => fnd_0f (q := fun i => b ((x :: xs).getD i 0) && a ((x :: xs).getD i 0)) h
    cases ha : a x with
    | false =>
      rw [List.filter_cons_of_neg (by rw [ha]; exact Bool.false_ne_true), List.length_cons, ef (by rw [ha, Bool.and_false])]
      exact ⟨by rw [Nat.add_lt_add_iff_right]; exact i1, fun h => i2 (by omega)⟩
    | true =>
      rw [List.filter_cons_of_pos ha]
      cases hb : b x with
      | true =>
        have e1 : fnd (fun i => b ((x :: xs).getD i 0) && a ((x :: xs).getD i 0)) 0 (xs.length + 1) = 0 := fnd_0t (q := fun i => b ((x :: xs).getD i 0) && a ((x :: xs).getD i 0)) (show (b x && a x) = true by rw [ha, hb]; rfl)
        have e2 : fnd (fun j => b ((x :: xs.filter a).getD j 0)) 0 ((xs.filter a).length + 1) = 0 := fnd_0t (q := fun j => b ((x :: xs.filter a).getD j 0)) hb
        rw [List.length_cons, List.length_cons, e1, e2]
        exact ⟨⟨fun _ => Nat.succ_pos _, fun _ => Nat.succ_pos _⟩, fun _ => rfl⟩
      | false =>
        have e2 : fnd (fun j => b ((x :: xs.filter a).getD j 0)) 0 ((xs.filter a).length + 1) = fnd (fun j => b ((xs.filter a).getD j 0)) 0 (xs.filter a).length + 1 := fnd_0f (q := fun j => b ((x :: xs.filter a).getD j 0)) hb
        rw [List.length_cons, List.length_cons, ef (by rw [hb, Bool.false_and]), e2]
        exact ⟨by rw [Nat.add_lt_add_iff_right, Nat.add_lt_add_iff_right]; exact i1, fun h => i2 (by omega)⟩
theorem nth_fl {a : Nat → Bool} : ∀ (L : List Nat) (m : Nat), (fnd (fun i => a (L.getD i 0) && cnt (fun j => a (L.getD j 0)) i == m) 0 L.length < L.length ↔ m < (L.filter a).length) ∧ (fnd (fun i => a (L.getD i 0) && cnt (fun j => a (L.getD j 0)) i == m) 0 L.length < L.length → L.getD (fnd (fun i => a (L.getD i 0) && cnt (fun j => a (L.getD j 0)) i == m) 0 L.length) 0 = (L.filter a).getD m 0)
  | [], m => ⟨⟨fun h => absurd h (Nat.not_lt_zero _), fun h => absurd h (Nat.not_lt_zero _)⟩, fun h => absurd h (Nat.not_lt_zero _)⟩
  | x :: xs, m => by
    have eq : ∀ m' k, (∀ i, (cnt (fun j => a ((x :: xs).getD j 0)) (i + 1) == m) = (cnt (fun j => a (xs.getD j 0)) i == m')) → fnd (fun i => a ((x :: xs).getD (i + 1) 0) && cnt (fun j => a ((x :: xs).getD j 0)) (i + 1) == m) 0 k = fnd (fun i => a (xs.getD i 0) && cnt (fun j => a (xs.getD j 0)) i == m') 0 k := fun m' k h => fnd_congr (fun c _ _ => by rw [h c]; rfl)
    cases ha : a x with
    | false =>
      obtain ⟨i1, i2⟩ := nth_fl (a := a) xs m
      have e := fnd_0f (q := fun i => a ((x :: xs).getD i 0) && cnt (fun j => a ((x :: xs).getD j 0)) i == m) (k := xs.length) (show (a x && _) = false by rw [ha]; rfl)
      rw [eq m xs.length (fun i => by
        rw [cnt_sh]
        show ((if a x = true then 1 else 0) + cnt (fun j => a (xs.getD j 0)) i == m) = _
        rw [ha, if_neg Bool.false_ne_true, Nat.zero_add])] at e
      rw [List.filter_cons_of_neg (by rw [ha]; exact Bool.false_ne_true), List.length_cons, e]
      exact ⟨by rw [Nat.add_lt_add_iff_right]; exact i1, fun h => i2 (by omega)⟩
    | true =>
      rw [List.filter_cons_of_pos ha]
      cases m with
      | zero =>
        have e := fnd_0t (q := fun i => a ((x :: xs).getD i 0) && cnt (fun j => a ((x :: xs).getD j 0)) i == 0) (k := xs.length) (show (a x && _) = true by rw [ha]; rfl)
        rw [List.length_cons, List.length_cons, e]
        exact ⟨⟨fun _ => Nat.succ_pos _, fun _ => Nat.succ_pos _⟩, fun _ => rfl⟩
      | succ m =>
        obtain ⟨i1, i2⟩ := nth_fl (a := a) xs m
        have e := fnd_0f (q := fun i => a ((x :: xs).getD i 0) && cnt (fun j => a ((x :: xs).getD j 0)) i == m + 1) (k := xs.length) (show (a x && (0 == m + 1)) = false by rw [ha]; rfl)
        rw [eq m xs.length (fun i => by
          rw [cnt_sh]
          show ((if a x = true then 1 else 0) + cnt (fun j => a (xs.getD j 0)) i == m + 1) = _
          rw [ha, if_pos rfl, Nat.add_comm 1, Bool.eq_iff_iff, beq_iff_eq, beq_iff_eq, Nat.add_right_cancel_iff])] at e
        rw [List.length_cons, List.length_cons, e]
        exact ⟨by rw [Nat.add_lt_add_iff_right, Nat.add_lt_add_iff_right]; exact i1, fun h => i2 (by omega)⟩
theorem kAtI_FL (n k m : Nat) : (kAtI n k m < kN n ↔ m < (FL k n).length) ∧ (kAtI n k m < kN n → kR n (kAtI n k m) = (FL k n).getD m 0) := nth_fl (a := fun v => decide (gcN v n < k)) (kL n) m
theorem le_g (n g : Nat) : (fun v => decide (gcN v n ≤ g)) = (fun v => decide (gcN v n < g + 1)) := funext (fun v => decide_eq_decide.mpr Nat.lt_succ_iff.symm)
theorem kAhd_FL (n lr g : Nat) : kAhd n lr g = cnt (fun j => decide ((FL (g + 1) n).getD j 0 < lr)) (FL (g + 1) n).length := by
  have h := cnt_fl (a := fun v => decide (gcN v n ≤ g)) (b := fun v => decide (v < lr)) (kL n)
  rw [le_g] at h
  unfold FL
  rw [← h]
  rfl
theorem kBeh_FL (n lr g : Nat) : (kBeh n lr g < kN n ↔ fnd (fun j => decide (lr < (FL (g + 1) n).getD j 0)) 0 (FL (g + 1) n).length < (FL (g + 1) n).length) ∧ (kBeh n lr g < kN n → kR n (kBeh n lr g) = (FL (g + 1) n).getD (fnd (fun j => decide (lr < (FL (g + 1) n).getD j 0)) 0 (FL (g + 1) n).length) 0) := by
  have h := fnd_fl (a := fun v => decide (gcN v n < g + 1)) (b := fun v => decide (lr < v)) (kL n)
  have e : kBeh n lr g = fnd (fun i => decide (lr < (kL n).getD i 0) && decide (gcN ((kL n).getD i 0) n < g + 1)) 0 (kL n).length := fnd_congr (fun i _ _ => by
    show (_ && decide (gcN (kR n i) n ≤ g)) = (_ && decide (gcN (kR n i) n < g + 1))
    rw [congrFun (le_g n g) (kR n i)]
    rfl)
  rw [e]
  exact h
theorem cnt_pick {p : Nat → Bool} {j : Nat} : ∀ {N : Nat}, j < cnt p N → ∃ s, s < N ∧ p s = true ∧ cnt p s = j
  | 0, h => absurd h (Nat.not_lt_zero _)
  | N + 1, h => by
    by_cases c : j < cnt p N
    · obtain ⟨s, a, b⟩ := cnt_pick c
      exact ⟨s, by omega, b⟩
    · cases hp : p N with
      | false => rw [cnt_f hp] at h; exact absurd h c
      | true => rw [cnt_t hp] at h; exact ⟨N, by omega, hp, by omega⟩
theorem cnt_bb {p b : Nat → Bool} {L g : Nat → Nat} : ∀ {s : Nat}, (∀ x, x < s → p x = true → L (cnt p x) = g x) → cnt (fun j => b (L j)) (cnt p s) = cnt (fun x => p x && b (g x)) s
  | 0, _ => rfl
  | s + 1, h => by
    have ih := cnt_bb (b := b) (s := s) (fun x hx => h x (by omega))
    cases hp : p s with
    | false => rw [cnt_f hp, ih, cnt_f (by rw [hp]; rfl)]
    | true =>
      rw [cnt_t hp]
      show cnt (fun j => b (L j)) (cnt p s) + (if b (L (cnt p s)) = true then 1 else 0) = cnt (fun x => p x && b (g x)) s + (if (p s && b (g s)) = true then 1 else 0)
      rw [ih, h s (by omega) hp, hp, Bool.true_and]
theorem cnt_cut {p q : Nat → Bool} {r : Nat} : ∀ {N : Nat}, r ≤ N → (∀ s, s < r → q s = p s) → (∀ s, r ≤ s → s < N → q s = false) → cnt q N = cnt p r
  | 0, h, _, _ => by rw [show r = 0 by omega]; rfl
  | N + 1, h, h1, h2 => by
    by_cases e : r = N + 1
    · subst e; exact cnt_congr h1
    · rw [cnt_f (h2 N (by omega) (by omega))]
      exact cnt_cut (by omega) h1 (fun s a b => h2 s a (by omega))
theorem cv_lt {k : Nat} (hk0 : 0 < k) (hk : k ≤ 4) : ∀ (n : Nat) {s r : Nat}, s < r → r < k ^ n → cv k n s < cv k n r
  | 0, s, r, h, hr => by rw [Nat.pow_zero] at hr; omega
  | n + 1, s, r, h, hr => by
    have h1 := Nat.div_add_mod s k
    have h2 := Nat.div_add_mod r k
    have m1 := Nat.mod_lt s hk0
    have m2 := Nat.mod_lt r hk0
    rw [cv, cv]
    by_cases e : s / k = r / k
    · rw [e] at h1 ⊢
      omega
    · have hle : s / k ≤ r / k := Nat.div_le_div_right (by omega)
      have hr' : r / k < k ^ n := Nat.div_lt_of_lt_mul (by rw [Nat.mul_comm, ← Nat.pow_succ]; exact hr)
      have ih := cv_lt hk0 hk n (s := s / k) (r := r / k) (by omega) hr'
      omega
section
variable {n g r : Nat}
theorem rank_cv (hn0 : 1 ≤ n) (hn : n ≤ 7) (hg : g < 4) (hr : r < (g + 1) ^ n) : kAhd n (cv (g + 1) n r) g = cnt (lk (g + 1) n) r := by
  rw [kAhd_FL, FL_len hn0 hn (by omega) (by omega)]
  rw [cnt_bb (b := fun v => decide (v < cv (g + 1) n r)) (L := fun j => (FL (g + 1) n).getD j 0) (g := cv (g + 1) n) (fun x hx hp => FL_at hn0 hn (by omega) (by omega) hx hp)]
  refine cnt_cut (by omega) (fun s hs => ?_) (fun s h1 h2 => ?_)
  · rw [decide_eq_true (cv_lt (by omega) (by omega) n hs hr), Bool.and_true]
  · have : ¬ cv (g + 1) n s < cv (g + 1) n r := by
      by_cases e : s = r
      · rw [e]; exact Nat.lt_irrefl _
      · have := cv_lt (k := g + 1) (by omega) (by omega) n (show r < s by omega) h2
        omega
    rw [decide_eq_false this, Bool.and_false]
theorem next_cv (hn0 : 1 ≤ n) (hn : n ≤ 7) (hg : g < 4) (hr : r < (g + 1) ^ n) : (kBeh n (cv (g + 1) n r) g < kN n ↔ fnd (lk (g + 1) n) (r + 1) ((g + 1) ^ n - (r + 1)) < (g + 1) ^ n) ∧ (fnd (lk (g + 1) n) (r + 1) ((g + 1) ^ n - (r + 1)) < (g + 1) ^ n → kR n (kBeh n (cv (g + 1) n r) g) = cv (g + 1) n (fnd (lk (g + 1) n) (r + 1) ((g + 1) ^ n - (r + 1)))) := by
  obtain ⟨b1, b2⟩ := kBeh_FL n (cv (g + 1) n r) g
  have hlen := FL_len hn0 hn (show 1 ≤ g + 1 by omega) (show g + 1 ≤ 4 by omega)
  have hle := fnd_le (lk (g + 1) n) ((g + 1) ^ n - (r + 1)) (r + 1)
  have hno : ∀ c, r < c → c < fnd (lk (g + 1) n) (r + 1) ((g + 1) ^ n - (r + 1)) → lk (g + 1) n c = false := fun c c1 c2 => fnd_no (by omega) c2
  have hat := fnd_at (q := lk (g + 1) n) (k := (g + 1) ^ n - (r + 1)) (s := r + 1)
  generalize fnd (lk (g + 1) n) (r + 1) ((g + 1) ^ n - (r + 1)) = s0 at hle hno hat ⊢
  have low : ∀ j, j < cnt (lk (g + 1) n) s0 → decide (cv (g + 1) n r < (FL (g + 1) n).getD j 0) = false := fun j hj => by
    obtain ⟨s, a1, a2, a3⟩ := cnt_pick hj
    rw [← a3, FL_at hn0 hn (by omega) (by omega) (by omega) a2]
    refine decide_eq_false ?_
    by_cases c : r < s
    · rw [hno s c a1] at a2; cases a2
    · by_cases e : s = r
      · rw [e]; exact Nat.lt_irrefl _
      · have := cv_lt (k := g + 1) (by omega) (by omega) n (show s < r by omega) hr
        omega
  by_cases c : s0 < (g + 1) ^ n
  · have hl := hat (by omega)
    have hm := cnt_up (lk (g + 1) n) (show s0 + 1 ≤ (g + 1) ^ n by omega)
    rw [cnt_t hl] at hm
    have ei : fnd (fun j => decide (cv (g + 1) n r < (FL (g + 1) n).getD j 0)) 0 (FL (g + 1) n).length = cnt (lk (g + 1) n) s0 := fnd_eq (Nat.zero_le _) (by omega) (fun j _ hj => low j hj) (Or.inr (by
      rw [FL_at hn0 hn (by omega) (by omega) c hl]
      exact decide_eq_true (cv_lt (by omega) (by omega) n (by omega) c)))
    rw [ei] at b1 b2
    rw [FL_at hn0 hn (by omega) (by omega) c hl] at b2
    exact ⟨⟨fun _ => c, fun _ => b1.mpr (by omega)⟩, fun _ => b2 (b1.mpr (by omega))⟩
  · have es : s0 = (g + 1) ^ n := by omega
    rw [es] at low
    have ei : fnd (fun j => decide (cv (g + 1) n r < (FL (g + 1) n).getD j 0)) 0 (FL (g + 1) n).length = (FL (g + 1) n).length := fnd_eq (Nat.zero_le _) (by omega) (fun j _ hj => low j (by omega)) (Or.inl (by omega))
    rw [ei] at b1
    exact ⟨⟨fun h => absurd (b1.mp h) (Nat.lt_irrefl _), fun h => absurd h c⟩, fun h => absurd h c⟩
end
/-- the row's digits -/
theorem dg_cv {k n s : Nat} (hk0 : 0 < k) (hk : k ≤ 4) : ∀ i, i < n → dg (cv k n s) n i = dgk k s n i := by
  have hl : ∀ i, i < n → dgk k s n i < 4 := fun i _ => Nat.lt_of_lt_of_le (Nat.mod_lt _ hk0) hk
  refine rk_inj (fun i _ => dg_lt _ _ i) hl ?_
  rw [← cv_rk, rk_dg (rk_lt hl)]
theorem cv_4 {n s : Nat} (h : s < 4 ^ n) : cv 4 n s = s := by
  rw [← cv_rk]
  exact rk_dg h
def un (k : Nat) (f : Nat → Nat) : Nat → Nat
  | 0 => 0
  | n + 1 => k * un k f n + f n
theorem un_lt {k : Nat} {f : Nat → Nat} : ∀ {n : Nat}, (∀ i, i < n → f i < k) → un k f n < k ^ n
  | 0, _ => by simp [un]
  | n + 1, h => by
    have ih := un_lt (k := k) (f := f) (n := n) (fun i hi => h i (by omega))
    have h2 := h n (by omega)
    rw [un, Nat.pow_succ, Nat.mul_comm k]
    have : (un k f n + 1) * k ≤ k ^ n * k := Nat.mul_le_mul_right _ (by omega)
    rw [Nat.add_mul, Nat.one_mul] at this
    omega
theorem cv_un {k : Nat} {f : Nat → Nat} : ∀ {n : Nat}, (∀ i, i < n → f i < k) → cv k n (un k f n) = rk f n
  | 0, _ => rfl
  | n + 1, h => by
    have h2 := h n (by omega)
    have e1 : (k * un k f n + f n) / k = un k f n := by rw [Nat.mul_add_div (by omega), Nat.div_eq_of_lt h2, Nat.add_zero]
    have e2 : (k * un k f n + f n) % k = f n := by rw [Nat.mul_add_mod, Nat.mod_eq_of_lt h2]
    rw [un, cv, e1, e2, cv_un (fun i hi => h i (by omega)), rk]
/-! the greatest colour -/
theorem num_ex {f : Nat → Nat} {c : Nat} : ∀ {n : Nat}, 0 < num f n c ↔ ∃ i, i < n ∧ f i = c
  | 0 => ⟨fun h => absurd h (Nat.lt_irrefl _), fun ⟨i, hi, _⟩ => absurd hi (Nat.not_lt_zero i)⟩
  | n + 1 => by
    have ih := num_ex (f := f) (c := c) (n := n)
    show 0 < cnt (fun i => f i == c) (n + 1) ↔ _
    by_cases e : f n = c
    · rw [cnt_t (p := fun i => f i == c) (by rw [beq_iff_eq]; exact e)]
      exact ⟨fun _ => ⟨n, by omega, e⟩, fun _ => Nat.succ_pos _⟩
    · rw [cnt_f (p := fun i => f i == c) (beq_eq_false_iff_ne.mpr e)]
      exact ih.trans ⟨fun ⟨i, a, b⟩ => ⟨i, by omega, b⟩, fun ⟨i, a, b⟩ => ⟨i, by
        have : i ≠ n := fun w => e (by rw [← w]; exact b)
        omega, b⟩⟩
theorem gcl_iff {f g : Nat → Nat} {n m : Nat} (h : ∀ c, 0 < num f n c ↔ 0 < num g m c) : gcl f n = gcl g m := by
  unfold gcl
  simp only [h]
theorem gcl_ge {f : Nat → Nat} {n i : Nat} (hi : i < n) (hf : f i < 4) : f i ≤ gcl f n := by
  have h : 0 < num f n (f i) := num_ex.mpr ⟨i, hi, rfl⟩
  unfold gcl
  rcases (show f i = 0 ∨ f i = 1 ∨ f i = 2 ∨ f i = 3 by omega) with e | e | e | e
  · omega
  · rw [e] at h; split
    · omega
    · split <;> omega
  · rw [e] at h; split <;> omega
  · rw [e] at h; rw [if_pos h]; omega
theorem gcl_trn {f : Nat → Nat} {n t : Nat} (hn : n ≤ 10) (ht : t < 2 * n) : gcl (trn f n t) n = gcl f n := gcl_iff (fun c => by
  rw [num_ex, num_ex]
  have hi := ti_lt hn ht
  constructor
  · rintro ⟨i, a, b⟩
    rw [trn_ix] at b
    exact ⟨_, (hi.2 i a).2, b⟩
  · rintro ⟨i, a, b⟩
    have h2 := ti_lt hn hi.1
    refine ⟨tix n (tinv n t) i, (h2.2 i a).2, ?_⟩
    rw [trn_ix, (hi.2 i a).1]
    exact b)
theorem gcN_rk {f : Nat → Nat} {n : Nat} (hf : ∀ i, i < n → f i < 4) : gcN (rk f n) n = gcl f n := gcl_iff (fun c => by
  have h := rk_inj (f := dg (rk f n) n) (g := f) (n := n) (fun i _ => dg_lt _ _ i) hf (rk_dg (rk_lt hf))
  rw [num_ex, num_ex]
  exact ⟨fun ⟨i, a, b⟩ => ⟨i, a, by rw [← h i a]; exact b⟩, fun ⟨i, a, b⟩ => ⟨i, a, by rw [h i a]; exact b⟩⟩)
theorem gcN_lst {f : Nat → Nat} {n : Nat} (hn0 : 0 < n) (hn : n ≤ 10) (hf : ∀ i, i < n → f i < 4) : gcN (lst f n) n = gcl f n := by
  obtain ⟨t, ht, e⟩ := lst_ex (f := f) hn0
  rw [e]
  show gcN (rk (trn f n t) n) n = gcl f n
  rw [gcN_rk (trn_lt hf), gcl_trn hn ht]
def nlz (v : Nat) : Nat := if 4 ≤ v then 29 - v / 4 / 2 else 31 - v / 2
theorem nlz_b : ∀ v, v < 16 → 0 < v → nlz v ≤ 31 ∧ 28 ≤ nlz v := by decide
theorem cbt_gcl {f : Nat → Nat} {n : Nat} (hn0 : 0 < n) (hf : ∀ i, i < n → f i < 4) : cbt f n < 16 ∧ 0 < cbt f n ∧ 32 - nlz (cbt f n) = gcl f n + 1 := by
  have hz : ∃ c, c < 4 ∧ 0 < num f n c := ⟨f 0, hf 0 hn0, num_ex.mpr ⟨0, hn0, rfl⟩⟩
  have key : ∀ a b c d : Bool, (a || b || c || d) = true → bts (fun i => [a, b, c, d].getD i false) 4 < 16 ∧ 0 < bts (fun i => [a, b, c, d].getD i false) 4 ∧ 32 - nlz (bts (fun i => [a, b, c, d].getD i false) 4) = (if d = true then 3 else if c = true then 2 else if b = true then 1 else 0) + 1 := by decide
  have k := key (decide (0 < num f n 0)) (decide (0 < num f n 1)) (decide (0 < num f n 2)) (decide (0 < num f n 3)) (by
    obtain ⟨c, c4, hc⟩ := hz
    rcases (show c = 0 ∨ c = 1 ∨ c = 2 ∨ c = 3 by omega) with e | e | e | e <;> subst e <;> simp [hc])
  simp only [decide_eq_true_eq] at k
  have e : cbt f n = bts (fun i => [decide (0 < num f n 0), decide (0 < num f n 1), decide (0 < num f n 2), decide (0 < num f n 3)].getD i false) 4 := rfl
  rw [e]
  unfold gcl
  exact k
