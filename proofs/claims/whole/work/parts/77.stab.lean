/-! as many turnings bring a row to one alike as leave it -/
theorem cnt_add (p : Nat → Bool) (n : Nat) : ∀ m, cnt p (n + m) = cnt p n + cnt (fun i => p (n + i)) m
  | 0 => rfl
  | m + 1 => by
    rw [← Nat.add_assoc, cnt, cnt_add p n m, cnt]
    omega
theorem fnd_no {q : Nat → Bool} : ∀ {k s c : Nat}, s ≤ c → c < fnd q s k → q c = false
  | 0, s, c, h1, h2 => by
    have : c < s := h2
    omega
  | k + 1, s, c, h1, h2 => by
    rw [fnd] at h2
    by_cases e : q s = true
    · rw [if_pos e] at h2; omega
    · rw [if_neg e] at h2
      by_cases e2 : c = s
      · subst e2; exact Bool.eq_false_iff.mpr e
      · exact fnd_no (by omega) h2
theorem fnd_at {q : Nat → Bool} : ∀ {k s : Nat}, fnd q s k < s + k → q (fnd q s k) = true
  | 0, s, h => absurd h (Nat.lt_irrefl s)
  | k + 1, s, h => by
    rw [fnd] at h ⊢
    by_cases e : q s = true
    · rw [if_pos e]; exact e
    · rw [if_neg e] at h ⊢
      exact fnd_at (by omega)
def Pr (f : Nat → Nat) (n k : Nat) : Prop := ∀ i, i < n → f ((i + k) % n) = f i
section
variable {f g : Nat → Nat} {n : Nat}
theorem Pr_iff {k : Nat} (hf : ∀ i, i < n → f i < 4) : rk (rol f n k) n = rk f n ↔ Pr f n k :=
  ⟨fun h => rk_inj (rol_lt hf) hf h, fun h => rk_congr h⟩
theorem Pr_add {a b : Nat} (hn : 0 < n) (ha : Pr f n a) (hb : Pr f n b) : Pr f n (a + b) := fun i hi => by
  have hm : (i + a) % n < n := Nat.mod_lt _ hn
  have e : (i + (a + b)) % n = ((i + a) % n + b) % n := by rw [Nat.mod_add_mod, Nat.add_assoc]
  rw [e, hb _ hm, ha i hi]
theorem Pr_sub {a b : Nat} (hn : 0 < n) (ha : Pr f n a) (hb : Pr f n (a + b)) : Pr f n b := fun i hi => by
  have ha' : a % n < n := Nat.mod_lt _ hn
  have hi' : (i + (n - a % n)) % n < n := Nat.mod_lt _ hn
  have e1 : ((i + (n - a % n)) % n + a) % n = i := by
    rw [Nat.mod_add_mod, ← Nat.add_mod_mod, show i + (n - a % n) + a % n = i + n by omega, Nat.add_mod_right, Nat.mod_eq_of_lt hi]
  have e2 : ((i + (n - a % n)) % n + (a + b)) % n = (i + b) % n := by
    rw [← Nat.add_assoc, ← Nat.mod_add_mod ((i + (n - a % n)) % n + a), e1]
  rw [← e2, hb _ hi', ← ha _ hi', e1]
theorem Pr_n : Pr f n n := fun i hi => by rw [Nat.add_mod_right, Nat.mod_eq_of_lt hi]
theorem Pr_0 : Pr f n 0 := fun i hi => by rw [Nat.add_zero, Nat.mod_eq_of_lt hi]
theorem Pr_mul {a : Nat} (hn : 0 < n) (ha : Pr f n a) : ∀ m, Pr f n (a * m)
  | 0 => Pr_0
  | m + 1 => by
    rw [Nat.mul_succ]
    exact Pr_add hn (Pr_mul hn ha m) ha
theorem per_Pr (hn : 0 < n) (hf : ∀ i, i < n → f i < 4) : Pr f n (per f n) := by
  have h1 := per_in (f := f) hn
  by_cases c : per f n = n
  · rw [c]; exact Pr_n
  · refine (Pr_iff hf).mp (eq_of_beq ?_)
    exact fnd_at (q := fun k => rk (rol f n k) n == rk f n) (k := n - 1) (s := 1) (by
      show per f n < 1 + (n - 1)
      omega)
theorem per_dvd {k : Nat} (hn : 0 < n) (hf : ∀ i, i < n → f i < 4) (hk : Pr f n k) : k % per f n = 0 := by
  have h1 := per_in (f := f) hn
  have hm : k % per f n < per f n := Nat.mod_lt _ (by omega)
  have hr : Pr f n (k % per f n) := by
    refine Pr_sub hn (Pr_mul hn (per_Pr hn hf) (k / per f n)) ?_
    rw [Nat.div_add_mod]
    exact hk
  by_cases c : k % per f n = 0
  · exact c
  · have := fnd_no (q := fun k => rk (rol f n k) n == rk f n) (k := n - 1) (s := 1) (c := k % per f n) (by omega) hm
    rw [beq_eq_false_iff_ne] at this
    exact absurd ((Pr_iff hf).mpr hr) this
theorem cnt_0one : ∀ p, 0 < p → cnt (fun i => i == 0) p = 1
  | 0, h => absurd h (Nat.lt_irrefl 0)
  | 1, _ => rfl
  | p + 2, _ => by
    rw [cnt, cnt_0one (p + 1) (by omega), if_neg (by simp)]
theorem cnt_mult {p : Nat} (hp : 0 < p) : ∀ m, cnt (fun k => k % p == 0) (p * m) = m
  | 0 => rfl
  | m + 1 => by
    rw [Nat.mul_succ, cnt_add, cnt_mult hp m]
    have : cnt (fun i => (p * m + i) % p == 0) p = cnt (fun i => i == 0) p := cnt_congr (fun i hi => by
      rw [Nat.mul_add_mod, Nat.mod_eq_of_lt hi])
    rw [this, cnt_0one p hp]
theorem cnt_per (hn : 0 < n) (hf : ∀ i, i < n → f i < 4) : cnt (fun k => rk (rol f n k) n == rk f n) n = n / per f n := by
  have h1 := per_in (f := f) hn
  have h2 := per_dvd hn hf Pr_n
  have e : cnt (fun k => rk (rol f n k) n == rk f n) n = cnt (fun k => k % per f n == 0) n := cnt_congr (fun k _ => by
    rw [Bool.eq_iff_iff, beq_iff_eq, beq_iff_eq, Pr_iff hf]
    refine ⟨per_dvd hn hf, fun z => ?_⟩
    have hm := Nat.div_add_mod k (per f n)
    rw [z, Nat.add_zero] at hm
    rw [← hm]
    exact Pr_mul hn (per_Pr hn hf) _)
  rw [e]
  have hm := Nat.div_add_mod n (per f n)
  rw [h2, Nat.add_zero] at hm
  have := cnt_mult (p := per f n) (by omega) (n / per f n)
  rw [hm] at this
  exact this
theorem cnt_stay (hn : 0 < n) (hf : ∀ i, i < n → f i < 4) : cnt (fun t => kT f n t == rk f n) (2 * n) = sty f n := by
  rw [show 2 * n = n + n by omega, cnt_add]
  unfold sty
  rw [← cnt_per hn hf]
  unfold mir
  congr 1
  · exact cnt_congr (fun k hk => by rw [kT_roll hk])
  · exact cnt_congr (fun k _ => by rw [kT_flip])
theorem cnt_perm (p : Nat → Bool) (π : Nat → Nat) (N : Nat) : ∀ K, (∀ t, t < K → π t < N) → cnt (fun t => p (π t)) K = smf (fun s => if p s then cnt (fun t => π t == s) K else 0) N
  | 0, _ => by
    have : ∀ M, smf (fun s => if p s then cnt (fun t => π t == s) 0 else 0) M = 0 := fun M => by
      induction M with
      | zero => rfl
      | succ M ih =>
        rw [smf, ih]
        split <;> rfl
    rw [this]
    rfl
  | K + 1, h => by
    rw [cnt, cnt_perm p π N K (fun t ht => h t (by omega))]
    have key : ∀ M, smf (fun s => if p s then cnt (fun t => π t == s) (K + 1) else 0) M = smf (fun s => if p s then cnt (fun t => π t == s) K else 0) M + (if π K < M ∧ p (π K) = true then 1 else 0) := fun M => by
      induction M with
      | zero => rw [smf, smf, if_neg (by omega)]
      | succ M ih =>
        rw [smf, smf, ih]
        by_cases e : π K = M
        · rw [if_neg (by omega)]
          by_cases c : p M = true
          · rw [if_pos c, if_pos c, if_pos ⟨by omega, by rw [e]; exact c⟩, cnt, if_pos (by rw [beq_iff_eq]; exact e)]
            omega
          · rw [if_neg c, if_neg c, if_neg (by rw [e]; exact fun z => c z.2)]
        · have e2 : cnt (fun t => π t == M) (K + 1) = cnt (fun t => π t == M) K := by
            rw [cnt, if_neg (by rw [beq_iff_eq]; exact e), Nat.add_zero]
          rw [e2]
          have e3 : (π K < M + 1 ∧ p (π K) = true) ↔ (π K < M ∧ p (π K) = true) := ⟨fun z => ⟨by omega, z.2⟩, fun z => ⟨by omega, z.2⟩⟩
          by_cases c : π K < M ∧ p (π K) = true
          · rw [if_pos c, if_pos (e3.mpr c)]; omega
          · rw [if_neg c, if_neg (fun z => c (e3.mp z)), Nat.add_zero, Nat.add_zero]
    rw [key N]
    have := h K (by omega)
    by_cases c : p (π K) = true
    · rw [if_pos c, if_pos ⟨this, c⟩]
    · rw [if_neg c, if_neg (fun z => c z.2)]
theorem tm_perm : allB (fun n => allB (fun u => allB (fun s => cnt (fun t => tmul n t (tinv n u) == s) (2 * n) == 1) (2 * n)) (2 * n)) 11 = true := by decide +kernel
theorem smf_one (p : Nat → Bool) (c : Nat → Nat) : ∀ N, (∀ s, s < N → c s = 1) → smf (fun s => if p s then c s else 0) N = cnt p N
  | 0, _ => rfl
  | N + 1, h => by
    rw [smf, smf_one p c N (fun s hs => h s (by omega)), cnt, h N (by omega)]
theorem cnt_al {u : Nat} (hn0 : 0 < n) (hn : n ≤ 10) (hf : ∀ i, i < n → f i < 4) (hg : ∀ i, i < n → g i < 4) (hu : u < 2 * n) (e : kT f n u = rk g n) : cnt (fun t => kT f n t == rk g n) (2 * n) = sty f n := by
  rw [← cnt_stay hn0 hf]
  have ui := ti_lt hn hu
  have h1 : cnt (fun t => kT f n t == rk g n) (2 * n) = cnt (fun t => (fun s => kT f n s == rk f n) (tmul n t (tinv n u))) (2 * n) := cnt_congr (fun t ht => by
    show (kT f n t == rk g n) = (kT f n (tmul n t (tinv n u)) == rk f n)
    rw [Bool.eq_iff_iff, beq_iff_eq, beq_iff_eq, ← e, ← kT_comp hn ht ui.1]
    have back : ∀ i, i < n → trn (trn f n u) n (tinv n u) i = f i := fun i hi => by rw [trn_ix, trn_ix, (ui.2 i hi).1]
    constructor
    · intro z
      have z2 := rk_inj (trn_lt (k := t) hf) (trn_lt (k := u) hf) z
      rw [kT_congr hn ui.1 z2]
      exact rk_congr back
    · intro z
      -- turned back by u
      have z2 : ∀ i, i < n → trn (trn f n t) n (tinv n u) i = f i := rk_inj (trn_lt (trn_lt hf)) hf z
      have ii := ti_lt hn ui.1
      refine rk_congr (fun i hi => ?_)
      have hj := ((ti_lt hn (ii.1)).2 i hi).2
      have e1 := z2 _ hj
      rw [trn_ix, (ii.2 i hi).1] at e1
      have e2 := back _ hj
      rw [trn_ix, (ii.2 i hi).1] at e2
      rw [e1, e2])
  rw [h1, cnt_perm (fun s => kT f n s == rk f n) (fun t => tmul n t (tinv n u)) (2 * n) (2 * n) (fun t ht => (tm_lt hn ht ui.1).1)]
  refine smf_one _ _ _ (fun s hs => ?_)
  have a1 := (allB_iff _ _).mp tm_perm n (by omega)
  have a2 := (allB_iff _ _).mp a1 u hu
  exact eq_of_beq ((allB_iff _ _).mp a2 s hs)
theorem ofb_kT {t : Nat} (hf : ∀ i, i < n → f i < 4) (hg : ∀ i, i < n → g i < 4) : (ofb f n g t == 0) = (kT f n t == rk g n) := by
  rw [Bool.eq_iff_iff, beq_iff_eq, beq_iff_eq]
  exact dif_0.trans ⟨fun z => rk_congr z, fun z => rk_inj (trn_lt hf) hg z⟩
end
