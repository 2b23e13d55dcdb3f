def alk (σ : Sg) (i j : Nat) : Bool := sZ σ i == sZ σ j && lst (sB σ i) (sZ σ i) == lst (sB σ j) (sZ σ j)
def oAl (σ : Sg) (b : Nat) : Nat := cnt (fun i => i != b && alk σ i b) (sN σ)
def fAl (σ : Sg) (b : Nat) : Nat := fnd (fun i => alk σ i b) 0 b
def kNo (σ : Sg) : Nat := cnt (fun b => fAl σ b == b) (sN σ)
/-- a sum -/
def smf (f : Nat → Nat) : Nat → Nat
  | 0 => 0
  | n + 1 => smf f n + f n
theorem smf_le {f : Nat → Nat} {m : Nat} : ∀ {n : Nat}, (∀ i, i < n → f i ≤ m) → smf f n ≤ n * m
  | 0, _ => by simp [smf]
  | n + 1, h => by
    have := smf_le (f := f) (m := m) (n := n) (fun i hi => h i (by omega))
    have := h n (by omega)
    rw [smf, Nat.add_mul, Nat.one_mul]
    omega
theorem lst_small {f : Nat → Nat} {n : Nat} (hn : n ≤ 10) (hf : ∀ i, i < n → f i < 4) : lst f n < 2 ^ 20 := lsA_small hn hf n
section
variable {d : Nat} {h : am_H} {Q : Option Value → am_H → Prop} {p : Nat} {σ : Sg}
theorem S_leastRow (hR : RS h p σ) (hs : Sok σ) {j : Nat} (hj : j < sN σ) (hQ : Q (some (.int (nI (lst (sB σ j) (sZ σ j))))) h) : am_call (d + 4) 95 [.ref p, .int (nI j)] h Q := by
  obtain ⟨r, z, k, e0, e1, e2, e3, e4, e5⟩ := hR
  have hN := hs.1
  have hz := hs.2.1 j hj
  refine en_X7_leastRow (Nat.le_of_ble_eq_true rfl) (am_run (am_cK _) 2 (am_obj_in e0 (am_run (am_cK _) 2 (am_rdi_in e1 ⟨vp_in_nI (by omega) (by omega), ?_⟩))))
  rw [nI_clamp (by omega), (e4 j hj).1]
  refine am_run (am_cK _) 2 (am_obj_in e0 (am_run (am_cK _) 2 (am_rdi_in e2 ⟨vp_in_nI (by omega) (by omega), ?_⟩)))
  rw [nI_clamp (by omega), (e4 j hj).2]
  exact am_run (am_cK _) 1 (B_leastRow (by omega) hz.2.1 hz.2.2 (am_run (am_cK _) 1 hQ))
theorem S_othersAlike (hR : RS h p σ) (hs : Sok σ) {b : Nat} (hb : b < sN σ) (hQ : Q (some (.int (nI (oAl σ b)))) h) : am_call (d + 5) 96 [.ref p, .int (nI b)] h Q := by
  have hR0 := hR
  obtain ⟨r, z, kk, e0, e1, e2, e3, e4, e5⟩ := hR
  have hN := hs.1
  have hzb := hs.2.1 b hb
  refine en_X7_othersAlike (Nat.le_of_ble_eq_true rfl) (am_run (am_cK _) 3 (am_obj_in e0 (S_leastRow hR0 hs hb ?_)))
  refine am_run (am_cK _) 5 ?_
  suffices H : ∀ k i, i + k = sN σ → am_wp (am_call (d + 4)) (0, 0) cm_X7_othersAlike Q (fun _ => False) (11, [some (.ref p), some (.int (nI b)), some (.int (nI (lst (sB σ b) (sZ σ b)))), some (.int (nI (cnt (fun i => i != b && alk σ i b) i))), some (.int (nI i))], [], 0, 0) h from H (sN σ) 0 (by omega)
  intro k
  induction k with
  | zero =>
    intro i hi
    have e : i = sN σ := by omega
    subst e
    exact am_run (am_cK _) 3 (am_obj_in e0 (am_run (am_cK _) 1 ⟨fun _ => am_run (am_cK _) 2 hQ, fun c => absurd (nI_le (Nat.le_refl _) (by omega)) c⟩))
  | succ k ih =>
    intro i hi
    have hiN : i < sN σ := by omega
    have hzi := hs.2.1 i hiN
    have zz := ih (i + 1) (by omega)
    rw [cnt, nI_succ] at zz
    have no : ((i != b && alk σ i b) = false) → am_wp (am_call (d + 4)) (0, 0) cm_X7_othersAlike Q (fun _ => False) (55, [some (.ref p), some (.int (nI b)), some (.int (nI (lst (sB σ b) (sZ σ b)))), some (.int (nI (cnt (fun i => i != b && alk σ i b) i))), some (.int (nI i))], [], 0, 0) h := fun e => by
      rw [e] at zz
      exact am_run (am_cK _) 2 zz
    refine am_run (am_cK _) 3 (am_obj_in e0 (am_run (am_cK _) 1 ⟨fun c => absurd c (nI_ge (by omega) (by omega)), fun _ => ?_⟩))
    refine am_run (am_cK _) 3 ⟨fun c => ?_, fun c => ?_⟩
    · have e : i = b := (nI_eq (by omega) (by omega)).mp c
      exact no (by rw [e]; simp)
    · have hne : ¬ i = b := fun z => c (show nI i = nI b by rw [z])
      refine am_run (am_cK _) 2 (am_obj_in e0 (am_run (am_cK _) 2 (am_rdi_in e2 ⟨vp_in_nI (by omega) (by omega), ?_⟩)))
      rw [nI_clamp (by omega), (e4 i hiN).2]
      refine am_run (am_cK _) 2 (am_obj_in e0 (am_run (am_cK _) 2 (am_rdi_in e2 ⟨vp_in_nI (by omega) (by omega), ?_⟩)))
      rw [nI_clamp (by omega), (e4 b hb).2]
      refine am_run (am_cK _) 1 ⟨fun c2 => ?_, fun c2 => ?_⟩
      · have hz : ¬ sZ σ i = sZ σ b := fun z => c2 (by rw [z])
        exact no (by unfold alk; simp [hz])
      · have hz : sZ σ i = sZ σ b := (nI_eq (by omega) (by omega)).mp (Classical.not_not.mp c2)
        refine am_run (am_cK _) 3 (am_obj_in e0 (S_leastRow hR0 hs hiN ?_))
        have s1 := lst_small hzi.2.1 hzi.2.2
        have s2 := lst_small hzb.2.1 hzb.2.2
        refine am_run (am_cK _) 2 ⟨fun c3 => ?_, fun c3 => ?_⟩
        · have hl : ¬ lst (sB σ i) (sZ σ i) = lst (sB σ b) (sZ σ b) := fun z => c3 (by rw [z])
          exact no (by unfold alk; simp [hl])
        · have hl : lst (sB σ i) (sZ σ i) = lst (sB σ b) (sZ σ b) := (nI_eq (by omega) (by omega)).mp (Classical.not_not.mp c3)
          have e : (i != b && alk σ i b) = true := by unfold alk; simp [hne, hz, hl]; rw [← hz, hl, hz]
          rw [e, if_pos rfl, nI_succ] at zz
          exact am_run (am_cK _) 3 zz
theorem S_firstAlike (hR : RS h p σ) (hs : Sok σ) {b : Nat} (hb : b < sN σ) (hQ : Q (some (.int (nI (fAl σ b)))) h) : am_call (d + 5) 97 [.ref p, .int (nI b)] h Q := by
  have hR0 := hR
  obtain ⟨r, z, kk, e0, e1, e2, e3, e4, e5⟩ := hR
  have hN := hs.1
  have hzb := hs.2.1 b hb
  refine en_X7_firstAlike (Nat.le_of_ble_eq_true rfl) (am_run (am_cK _) 3 (am_obj_in e0 (S_leastRow hR0 hs hb ?_)))
  refine am_run (am_cK _) 3 ?_
  suffices H : ∀ k i, i + k = b → Q (some (.int (nI (fnd (fun i => alk σ i b) i k)))) h → am_wp (am_call (d + 4)) (0, 0) cm_X7_firstAlike Q (fun _ => False) (8, [some (.ref p), some (.int (nI b)), some (.int (nI (lst (sB σ b) (sZ σ b)))), some (.int (nI i))], [], 0, 0) h from H b 0 (by omega) hQ
  intro k
  induction k with
  | zero =>
    intro i hi hq
    have e : i = b := by omega
    subst e
    exact am_run (am_cK _) 3 ⟨fun _ => am_run (am_cK _) 2 hq, fun c => absurd (nI_le (Nat.le_refl _) (by omega)) c⟩
  | succ k ih =>
    intro i hi hq
    have hiN : i < sN σ := by omega
    have hzi := hs.2.1 i hiN
    rw [fnd] at hq
    have no : (alk σ i b = false) → am_wp (am_call (d + 4)) (0, 0) cm_X7_firstAlike Q (fun _ => False) (39, [some (.ref p), some (.int (nI b)), some (.int (nI (lst (sB σ b) (sZ σ b)))), some (.int (nI i))], [], 0, 0) h := fun e => by
      rw [e] at hq
      have zz := ih (i + 1) (by omega) hq
      rw [nI_succ] at zz
      exact am_run (am_cK _) 2 zz
    refine am_run (am_cK _) 3 ⟨fun c => absurd c (nI_ge (by omega) (by omega)), fun _ => ?_⟩
    refine am_run (am_cK _) 2 (am_obj_in e0 (am_run (am_cK _) 2 (am_rdi_in e2 ⟨vp_in_nI (by omega) (by omega), ?_⟩)))
    rw [nI_clamp (by omega), (e4 i hiN).2]
    refine am_run (am_cK _) 2 (am_obj_in e0 (am_run (am_cK _) 2 (am_rdi_in e2 ⟨vp_in_nI (by omega) (by omega), ?_⟩)))
    rw [nI_clamp (by omega), (e4 b hb).2]
    refine am_run (am_cK _) 1 ⟨fun c2 => ?_, fun c2 => ?_⟩
    · have hz : ¬ sZ σ i = sZ σ b := fun z => c2 (by rw [z])
      exact no (by unfold alk; simp [hz])
    · have hz : sZ σ i = sZ σ b := (nI_eq (by omega) (by omega)).mp (Classical.not_not.mp c2)
      refine am_run (am_cK _) 3 (am_obj_in e0 (S_leastRow hR0 hs hiN ?_))
      have s1 := lst_small hzi.2.1 hzi.2.2
      have s2 := lst_small hzb.2.1 hzb.2.2
      refine am_run (am_cK _) 2 ⟨fun c3 => ?_, fun c3 => ?_⟩
      · have hl : ¬ lst (sB σ i) (sZ σ i) = lst (sB σ b) (sZ σ b) := fun z => c3 (by rw [z])
        exact no (by unfold alk; simp [hl])
      · have hl : lst (sB σ i) (sZ σ i) = lst (sB σ b) (sZ σ b) := (nI_eq (by omega) (by omega)).mp (Classical.not_not.mp c3)
        have e : alk σ i b = true := by unfold alk; simp [hz]; rw [← hz, hl, hz]
        rw [e, if_pos rfl] at hq
        exact am_run (am_cK _) 2 hq
theorem fAl_le (σ : Sg) (b : Nat) : fAl σ b ≤ b := by
  have := fnd_le (fun i => alk σ i b) b 0
  unfold fAl
  omega
theorem S_kindNumber (hR : RS h p σ) (hs : Sok σ) (hQ : Q (some (.int (nI (kNo σ)))) h) : am_call (d + 6) 98 [.ref p] h Q := by
  have hR0 := hR
  obtain ⟨r, z, kk, e0, e1, e2, e3, e4, e5⟩ := hR
  have hN := hs.1
  refine en_X7_kindNumber (Nat.le_of_ble_eq_true rfl) (am_run (am_cK _) 4 ?_)
  suffices H : ∀ k i, i + k = sN σ → am_wp (am_call (d + 5)) (0, 0) cm_X7_kindNumber Q (fun _ => False) (4, [some (.ref p), some (.int (nI (cnt (fun b => fAl σ b == b) i))), some (.int (nI i))], [], 0, 0) h from H (sN σ) 0 (by omega)
  intro k
  induction k with
  | zero =>
    intro i hi
    have e : i = sN σ := by omega
    subst e
    exact am_run (am_cK _) 3 (am_obj_in e0 (am_run (am_cK _) 1 ⟨fun _ => am_run (am_cK _) 2 hQ, fun c => absurd (nI_le (Nat.le_refl _) (by omega)) c⟩))
  | succ k ih =>
    intro i hi
    have hiN : i < sN σ := by omega
    have zz := ih (i + 1) (by omega)
    have hf := fAl_le σ i
    rw [cnt, nI_succ] at zz
    refine am_run (am_cK _) 3 (am_obj_in e0 (am_run (am_cK _) 1 ⟨fun c => absurd c (nI_ge (by omega) (by omega)), fun _ => ?_⟩))
    refine am_run (am_cK _) 3 (am_obj_in e0 (S_firstAlike hR0 hs hiN ?_))
    refine am_run (am_cK _) 2 ⟨fun c => ?_, fun c => ?_⟩
    · have hne : ¬ fAl σ i = i := fun z => c (by rw [z])
      rw [if_neg (by simpa using hne)] at zz
      exact am_run (am_cK _) 2 zz
    · have he : fAl σ i = i := (nI_eq (by omega) (by omega)).mp (Classical.not_not.mp c)
      rw [if_pos (by simpa using he), nI_succ] at zz
      exact am_run (am_cK _) 3 zz
theorem S_beadsOfAll (hR : RS h p σ) (hs : Sok σ) (hQ : Q (some (.int (nI (smf (sZ σ) (sN σ))))) h) : am_call (d + 1) 101 [.ref p] h Q := by
  obtain ⟨r, z, kk, e0, e1, e2, e3, e4, e5⟩ := hR
  have hN := hs.1
  refine en_X7_beadsOfAll (Nat.le_of_ble_eq_true rfl) (am_run (am_cK _) 4 ?_)
  suffices H : ∀ k i, i + k = sN σ → am_wp (am_call d) (0, 0) cm_X7_beadsOfAll Q (fun _ => False) (4, [some (.ref p), some (.int (nI (smf (sZ σ) i))), some (.int (nI i))], [], 0, 0) h from H (sN σ) 0 (by omega)
  intro k
  induction k with
  | zero =>
    intro i hi
    have e : i = sN σ := by omega
    subst e
    exact am_run (am_cK _) 3 (am_obj_in e0 (am_run (am_cK _) 1 ⟨fun _ => am_run (am_cK _) 2 hQ, fun c => absurd (nI_le (Nat.le_refl _) (by omega)) c⟩))
  | succ k ih =>
    intro i hi
    have hiN : i < sN σ := by omega
    have zz := ih (i + 1) (by omega)
    rw [smf, ← nI_add, nI_succ] at zz
    refine am_run (am_cK _) 3 (am_obj_in e0 (am_run (am_cK _) 1 ⟨fun c => absurd c (nI_ge (by omega) (by omega)), fun _ => ?_⟩))
    refine am_run (am_cK _) 3 (am_obj_in e0 (am_run (am_cK _) 2 (am_rdi_in e2 ⟨vp_in_nI (by omega) (by omega), ?_⟩)))
    rw [nI_clamp (by omega), (e4 i hiN).2]
    exact am_run (am_cK _) 4 zz
theorem S_stockOfAll (hR : RS h p σ) (hQ : Q (some (.int (nI (smf (sK σ) 4)))) h) : am_call (d + 1) 102 [.ref p] h Q := by
  obtain ⟨r, z, kk, e0, e1, e2, e3, e4, e5⟩ := hR
  refine en_X7_stockOfAll (Nat.le_of_ble_eq_true rfl) (am_run (am_cK _) 4 ?_)
  suffices H : ∀ k i, i + k = 4 → am_wp (am_call d) (0, 0) cm_X7_stockOfAll Q (fun _ => False) (4, [some (.ref p), some (.int (nI (smf (sK σ) i))), some (.int (nI i))], [], 0, 0) h from H 4 0 (by omega)
  intro k
  induction k with
  | zero =>
    intro i hi
    have e : i = 4 := by omega
    subst e
    exact am_run (am_cK _) 3 ⟨fun _ => am_run (am_cK _) 2 hQ, fun c => absurd (nI_le (a := 4) (b := 4) (Nat.le_refl _) (by omega)) c⟩
  | succ k ih =>
    intro i hi
    have zz := ih (i + 1) (by omega)
    rw [smf, ← nI_add, nI_succ] at zz
    refine am_run (am_cK _) 3 ⟨fun c => absurd c (nI_ge (b := 4) (by omega) (by omega)), fun _ => ?_⟩
    refine am_run (am_cK _) 3 (am_obj_in e0 (am_run (am_cK _) 2 (am_rdi_in e3 ⟨vp_in_nI (by omega) (by omega), ?_⟩)))
    rw [nI_clamp (by omega), e5 i (by omega)]
    exact am_run (am_cK _) 4 zz
/-- whether the stock has the beads -/
def hsB (σ : Sg) (f : Nat → Nat) (n : Nat) : Nat := fnd (fun c => decide (sK σ c < num f n c)) 0 4
theorem S_hasBeadsFor (hR : RS h p σ) (hs : Sok σ) {f : Nat → Nat} {n : Nat} (hn : n ≤ 10) (hf : ∀ i, i < n → f i < 4) (h1 : hsB σ f n < 4 → Q (some (.int 0)) h) (h2 : hsB σ f n = 4 → Q (some (.int 1)) h) : am_call (d + 4) 81 [.ref p, .int (nI (rk f n)), .int (nI n)] h Q := by
  obtain ⟨r, z, kk, e0, e1, e2, e3, e4, e5⟩ := hR
  refine en_X7_hasBeadsFor (Nat.le_of_ble_eq_true rfl) (am_run (am_cK _) 2 ?_)
  suffices H : ∀ k i, i + k = 4 → (fnd (fun c => decide (sK σ c < num f n c)) i k < 4 → Q (some (.int 0)) h) → (fnd (fun c => decide (sK σ c < num f n c)) i k = 4 → Q (some (.int 1)) h) → am_wp (am_call (d + 3)) (0, 0) cm_X7_hasBeadsFor Q (fun _ => False) (2, [some (.ref p), some (.int (nI (rk f n))), some (.int (nI n)), some (.int (nI i))], [], 0, 0) h from H 4 0 (by omega) h1 h2
  intro k
  induction k with
  | zero =>
    intro i hi q1 q2
    have e : i = 4 := by omega
    subst e
    exact am_run (am_cK _) 3 ⟨fun _ => am_run (am_cK _) 2 ⟨Or.inr rfl, q2 rfl⟩, fun c => absurd (nI_le (a := 4) (b := 4) (Nat.le_refl _) (by omega)) c⟩
  | succ k ih =>
    intro i hi q1 q2
    rw [fnd] at q1 q2
    have hk := hs.2.2.1 i (by omega)
    have hl := num_le f n i
    refine am_run (am_cK _) 3 ⟨fun c => absurd c (nI_ge (b := 4) (by omega) (by omega)), fun _ => ?_⟩
    refine am_run (am_cK _) 4 (B_numberOf hn (by omega) hf ?_)
    refine am_run (am_cK _) 2 (am_obj_in e0 (am_run (am_cK _) 2 (am_rdi_in e3 ⟨vp_in_nI (by omega) (by omega), ?_⟩)))
    rw [nI_clamp (by omega), e5 i (by omega)]
    refine am_run (am_cK _) 1 ⟨fun c => ?_, fun c => ?_⟩
    · have hc : num f n i ≤ sK σ i := (nI_leI (by omega) (by omega)).mp c
      rw [if_neg (by simpa using hc)] at q1 q2
      have zz := ih (i + 1) (by omega) q1 q2
      rw [nI_succ] at zz
      exact am_run (am_cK _) 2 zz
    · have hc : sK σ i < num f n i := Nat.lt_of_not_le (fun z => c ((nI_leI (by omega) (by omega)).mpr z))
      rw [if_pos (by simpa using hc)] at q1
      exact am_run (am_cK _) 2 ⟨Or.inl rfl, q1 (by omega)⟩
end
