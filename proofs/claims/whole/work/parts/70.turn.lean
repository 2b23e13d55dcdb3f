/-! turnings are a group -/
def tix (n t i : Nat) : Nat := if t < n then (i + t) % n else n - 1 - (i + (t - n)) % n
theorem trn_ix (f : Nat → Nat) (n t i : Nat) : trn f n t i = f (tix n t i) := by
  unfold trn tix
  split <;> rfl
def tmul (n t s : Nat) : Nat := if t < n then (if s < n then (s + t) % n else n + (s - n + (n - t)) % n) else (if s < n then n + (s + (t - n)) % n else (s - n + (n - (t - n))) % n)
def tinv (n t : Nat) : Nat := if t < n then (n - t) % n else t
def allN (p : Nat → Bool) (n : Nat) : Bool := allB p n
theorem tm_all : allB (fun n => allB (fun t => allB (fun s => decide (tmul n t s < 2 * n) && allB (fun i => tix n t (tix n s i) == tix n (tmul n t s) i) n) (2 * n)) (2 * n)) 11 = true := by decide +kernel
theorem ti_all : allB (fun n => allB (fun t => decide (tinv n t < 2 * n) && allB (fun i => tix n t (tix n (tinv n t) i) == i && decide (tix n t i < n)) n) (2 * n)) 11 = true := by decide +kernel
theorem tm_lt {n t s : Nat} (hn : n ≤ 10) (ht : t < 2 * n) (hs : s < 2 * n) : tmul n t s < 2 * n ∧ ∀ i, i < n → tix n t (tix n s i) = tix n (tmul n t s) i := by
  have h1 := (allB_iff _ _).mp tm_all n (by omega)
  have h2 := (allB_iff _ _).mp h1 t ht
  have h3 := (allB_iff _ _).mp h2 s hs
  rw [Bool.and_eq_true, decide_eq_true_eq] at h3
  exact ⟨h3.1, fun i hi => eq_of_beq ((allB_iff _ _).mp h3.2 i hi)⟩
theorem ti_lt {n t : Nat} (hn : n ≤ 10) (ht : t < 2 * n) : tinv n t < 2 * n ∧ ∀ i, i < n → tix n t (tix n (tinv n t) i) = i ∧ tix n t i < n := by
  have h1 := (allB_iff _ _).mp ti_all n (by omega)
  have h2 := (allB_iff _ _).mp h1 t ht
  rw [Bool.and_eq_true, decide_eq_true_eq] at h2
  refine ⟨h2.1, fun i hi => ?_⟩
  have h3 := (allB_iff _ _).mp h2.2 i hi
  rw [Bool.and_eq_true, decide_eq_true_eq] at h3
  exact ⟨eq_of_beq h3.1, h3.2⟩
section
variable {f g : Nat → Nat} {n : Nat}
theorem kT_congr {t : Nat} (hn : n ≤ 10) (ht : t < 2 * n) (h : ∀ i, i < n → f i = g i) : kT f n t = kT g n t :=
  rk_congr (fun i hi => by rw [trn_ix, trn_ix]; exact h _ ((ti_lt hn ht).2 i hi).2)
theorem kT_comp {t s : Nat} (hn : n ≤ 10) (ht : t < 2 * n) (hs : s < 2 * n) : kT (trn f n t) n s = kT f n (tmul n t s) :=
  rk_congr (fun i hi => by rw [trn_ix, trn_ix, trn_ix, (tm_lt hn ht hs).2 i hi])
theorem lsA_le : ∀ i, (∀ j, j < i → lsA f n i ≤ rk (rol f n j) n ∧ lsA f n i ≤ rk (rol (flp f n) n j) n)
  | 0 => fun j hj => by omega
  | i + 1 => fun j hj => by
    rw [lsA]
    by_cases e : j = i
    · subst e
      exact ⟨Nat.le_trans (Nat.min_le_right _ _) (Nat.min_le_left _ _), Nat.le_trans (Nat.min_le_right _ _) (Nat.min_le_right _ _)⟩
    · have := lsA_le i j (by omega)
      exact ⟨Nat.le_trans (Nat.min_le_left _ _) this.1, Nat.le_trans (Nat.min_le_left _ _) this.2⟩
theorem lst_le {t : Nat} (ht : t < 2 * n) : lst f n ≤ kT f n t := by
  by_cases c : t < n
  · rw [kT_roll c]; exact (lsA_le n t c).1
  · obtain ⟨k, rfl⟩ : ∃ k, t = n + k := ⟨t - n, by omega⟩
    rw [kT_flip]; exact (lsA_le n k (by omega)).2
theorem lsA_ex (hn0 : 0 < n) : ∀ i, i ≤ n → ∃ t, t < 2 * n ∧ lsA f n i = kT f n t
  | 0, _ => ⟨0, by omega, (kT_0 hn0).symm⟩
  | i + 1, hi => by
    obtain ⟨t, ht, e⟩ := lsA_ex hn0 i (by omega)
    rw [lsA]
    show ∃ t, t < 2 * n ∧ min (lsA f n i) (min (rk (rol f n i) n) (rk (rol (flp f n) n i) n)) = _
    have e1 : rk (rol f n i) n = kT f n i := (kT_roll (by omega)).symm
    have e2 : rk (rol (flp f n) n i) n = kT f n (n + i) := kT_flip.symm
    rcases (by omega : min (lsA f n i) (min (rk (rol f n i) n) (rk (rol (flp f n) n i) n)) = lsA f n i ∨ min (lsA f n i) (min (rk (rol f n i) n) (rk (rol (flp f n) n i) n)) = rk (rol f n i) n ∨ min (lsA f n i) (min (rk (rol f n i) n) (rk (rol (flp f n) n i) n)) = rk (rol (flp f n) n i) n) with h | h | h
    · exact ⟨t, ht, h.trans e⟩
    · exact ⟨i, by omega, h.trans e1⟩
    · exact ⟨n + i, by omega, h.trans e2⟩
theorem lst_ex (hn0 : 0 < n) : ∃ t, t < 2 * n ∧ lst f n = kT f n t := lsA_ex hn0 n (Nat.le_refl _)
theorem lst_congr (hn0 : 0 < n) (hn : n ≤ 10) (h : ∀ i, i < n → f i = g i) : lst f n = lst g n := by
  obtain ⟨t, ht, e⟩ := lst_ex (f := f) hn0
  obtain ⟨s, hs, e2⟩ := lst_ex (f := g) hn0
  have h1 := lst_le (f := g) ht
  have h2 := lst_le (f := f) hs
  rw [kT_congr hn ht (fun i hi => h i hi)] at e
  rw [← kT_congr hn hs (fun i hi => h i hi)] at e2
  omega
theorem lst_trn {t : Nat} (hn0 : 0 < n) (hn : n ≤ 10) (ht : t < 2 * n) : lst (trn f n t) n = lst f n := by
  obtain ⟨u, hu, e⟩ := lst_ex (f := f) hn0
  obtain ⟨s, hs, e2⟩ := lst_ex (f := trn f n t) hn0
  rw [kT_comp hn ht hs] at e2
  have h1 := lst_le (f := f) (tm_lt hn ht hs).1
  have ti := ti_lt hn ht
  have h2 := lst_le (f := trn f n t) (tm_lt hn ti.1 hu).1
  have e3 : kT (trn f n t) n (tmul n (tinv n t) u) = kT f n u := rk_congr (fun i hi => by
    rw [trn_ix, trn_ix, trn_ix, ← (tm_lt hn ti.1 hu).2 i hi]
    have hi2 := ((ti_lt hn hu).2 i hi).2
    rw [(ti.2 _ hi2).1])
  omega
theorem dif_0 : dif f g n = 0 ↔ ∀ i, i < n → f i = g i := by
  unfold dif
  have key : ∀ m, cnt (fun i => f i != g i) m = 0 ↔ ∀ i, i < m → f i = g i := by
    intro m
    induction m with
    | zero => exact ⟨fun _ i hi => by omega, fun _ => rfl⟩
    | succ m ih =>
      rw [cnt]
      by_cases e : f m = g m
      · rw [if_neg (by rw [e]; simp), Nat.add_zero, ih]
        exact ⟨fun h i hi => (if q : i = m then q ▸ e else h i (by omega)), fun h i hi => h i (by omega)⟩
      · rw [if_pos (by rw [bne_iff_ne]; exact e)]
        exact ⟨fun h => by omega, fun h => absurd (h m (by omega)) e⟩
  exact key n
theorem al_lst (hn0 : 0 < n) (hn : n ≤ 10) (hf : ∀ i, i < n → f i < 4) (hg : ∀ i, i < n → g i < 4) : (!(allB (fun t => ofb f n g t != 0) (2 * n))) = (lst g n == lst f n) := by
  rw [Bool.eq_iff_iff, Bool.not_eq_true', beq_iff_eq]
  constructor
  · intro h
    have : ∃ t, t < 2 * n ∧ ofb f n g t = 0 := Classical.byContradiction (fun z => by
      have : allB (fun t => ofb f n g t != 0) (2 * n) = true := (allB_iff _ _).mpr (fun t ht => by
        rw [bne_iff_ne]; exact fun w => z ⟨t, ht, w⟩)
      rw [h] at this
      cases this)
    obtain ⟨t, ht, e⟩ := this
    have e2 := dif_0.mp e
    rw [← lst_congr hn0 hn e2, lst_trn hn0 hn ht]
  · intro h
    obtain ⟨t, ht, e⟩ := lst_ex (f := f) hn0
    obtain ⟨s, hs, e2⟩ := lst_ex (f := g) hn0
    have e3 : ∀ i, i < n → trn f n t i = trn g n s i := rk_inj (trn_lt hf) (trn_lt hg) (by show kT f n t = kT g n s; omega)
    have si := ti_lt hn hs
    have mu := tm_lt hn ht si.1
    refine allB_no mu.1 ?_
    have : ofb f n g (tmul n t (tinv n s)) = 0 := dif_0.mpr (fun i hi => by
      rw [trn_ix, ← mu.2 i hi]
      have hi2 := ((ti_lt hn si.1).2 i hi).2
      rw [← trn_ix f n t, e3 _ hi2, trn_ix, (si.2 i hi).1])
    show (ofb f n g (tmul n t (tinv n s)) != 0) = false
    rw [this]
    rfl
theorem alM_eq {m : Nat} (hn0 : 0 < n) (hn : n ≤ 10) (hf : ∀ i, i < n → f i < 4) (hg : ∀ i, i < m → g i < 4) : alM f n g m = (m == n && lst g m == lst f n) := by
  unfold alM
  by_cases e : m = n
  · subst e
    rw [al_lst hn0 hn hf hg]
  · rw [beq_eq_false_iff_ne.mpr e]
    rfl
theorem bT_min : ∀ i, (∀ j, j < i → kT f n (bT f n i) ≤ kT f n j) ∧ ∀ j, j < bT f n i → kT f n (bT f n i) < kT f n j
  | 0 => ⟨fun j hj => by omega, fun j hj => absurd hj (Nat.not_lt_zero _)⟩
  | i + 1 => by
    have ih := bT_min i
    rw [bT]
    split
    · rename_i c
      exact ⟨fun j hj => (by
        by_cases e : j = i
        · subst e; exact Nat.le_refl _
        · have := ih.1 j (by omega); omega), fun j hj => by have := ih.1 j hj; omega⟩
    · rename_i c
      exact ⟨fun j hj => (by
        by_cases e : j = i
        · subst e; omega
        · exact ih.1 j (by omega)), ih.2⟩
theorem bT_lst (hn0 : 0 < n) : kT f n (bT f n (2 * n)) = lst f n := by
  obtain ⟨t, ht, e⟩ := lst_ex (f := f) hn0
  have h1 := (bT_min (f := f) (n := n) (2 * n)).1 t ht
  have h2 := lst_le (f := f) (bT_lt (f := f) (n := n) (2 * n) (by omega))
  omega
/-- the first turning that is least -/
theorem bT_fT (hn0 : 0 < n) : fT f n (lst f n) = bT f n (2 * n) := by
  have hb := bT_lt (f := f) (n := n) (2 * n) (by omega)
  refine fnd_eq (Nat.zero_le _) (by omega) (fun c _ c2 => ?_) (Or.inr ?_)
  · rw [← bT_lst hn0]
    have := (bT_min (f := f) (n := n) (2 * n)).2 c c2
    exact beq_eq_false_iff_ne.mpr (by omega)
  · rw [beq_iff_eq]; exact bT_lst hn0
theorem isL_eq (hn0 : 0 < n) : isL f n (2 * n) = (lst f n == rk f n) := by
  rw [Bool.eq_iff_iff, beq_iff_eq]
  have h0 := lst_le (f := f) (n := n) (t := 0) (by omega)
  rw [kT_0 hn0] at h0
  constructor
  · intro h
    obtain ⟨t, ht, e⟩ := lst_ex (f := f) hn0
    have := of_decide_eq_true ((allB_iff _ _).mp h t ht)
    rw [kT_0 hn0] at this
    omega
  · intro h
    refine (allB_iff _ _).mpr (fun t ht => decide_eq_true ?_)
    rw [kT_0 hn0]
    have := lst_le (f := f) ht
    omega
theorem alN_oAl {σ : Sg} {b : Nat} (hs : Sok σ) (hb : b < sN σ) : alN (sB σ b) (sZ σ b) σ (nI b) = oAl σ b := by
  have hN := hs.1
  have hz := hs.2.1 b hb
  refine cnt_congr (fun i hi => ?_)
  have hi2 := hs.2.1 i hi
  rw [alM_eq (by omega) hz.2.1 hz.2.2 hi2.2.2]
  unfold alk
  congr 1
  rw [Bool.eq_iff_iff, bne_iff_ne, bne_iff_ne, ne_eq, nI_eq (by omega) (by omega)]
end
