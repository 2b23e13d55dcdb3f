/-- how many kinds of n beads, the i-th -/
def kN (n : Nat) : Nat := (kL n).length
def kR (n i : Nat) : Nat := (kL n).getD i 0
def RK (h : am_H) (p : Nat) : Prop := ∃ (fl : Nat) (g l : Nat → Int32), h.2 p = cK p fl ∧ h.2 (p + 1) = aI 1955 g ∧ h.2 (p + 2) = aB 8 l ∧ ∀ n, 1 ≤ n → n ≤ 7 → (l n = 0 ∨ (l n = 1 ∧ ∀ i, i < kN n → g (sT n + i) = nI (kR n i)))
theorem sT_mono : ∀ a, a < 9 → ∀ b, b < 9 → 1 ≤ a → a ≤ b → sT a ≤ sT b := by decide
theorem sT_big : ∀ n, n < 9 → sT n ≤ 1955 := by decide
theorem cat_all {P : Nat → Prop} {g : Nat → List Nat} {a : Nat} : ∀ {k : Nat}, (∀ j, j < k → ∀ x ∈ g (a + j), P x) → ∀ x ∈ cat g a k, P x
  | 0, _, x, hx => by cases hx
  | k + 1, h, x, hx => by
    rw [cat, List.mem_append] at hx
    rcases hx with hx | hx
    · exact cat_all (fun j hj => h j (by omega)) x hx
    · exact h k (by omega) x hx
theorem grN_lt {n : Nat} {lf : Nat → Bool} : ∀ (f z : Nat) {s q : Nat}, z + f = n → s < 4 ^ z → ∀ x ∈ grN n lf f s z q, x < 4 ^ n
  | 0, z, s, q, hz, hs, x, hx => by
    have e : z = n := by omega
    subst e
    rw [grN] at hx
    split at hx
    · rw [List.mem_singleton] at hx; rw [hx]; exact hs
    · cases hx
  | f + 1, z, s, q, hz, hs, x, hx => by
    rw [grN] at hx
    have hsq : smq s q < 4 := Nat.mod_lt _ (by decide)
    exact cat_all (P := fun x => x < 4 ^ n) (g := fun c => grN n lf f (4 * s + c) (z + 1) (if c = smq s q then q else z + 1)) (a := smq s q) (k := 4 - smq s q) (fun j hj x hx => grN_lt f (z + 1) (by omega) (by rw [Nat.pow_succ]; omega) x hx) x hx
theorem kL_lt {n : Nat} (h1 : 1 ≤ n) : ∀ x ∈ kL n, x < 4 ^ n := fun x hx => cat_all (P := fun x => x < 4 ^ n) (g := fun c => grN n (isLF n) (n - 1) c 1 1) (a := 0) (k := 4) (fun j hj x hx => grN_lt (n - 1) 1 (by omega) (by show 0 + j < 4; omega) x hx) x hx
theorem kR_lt {n i : Nat} (h1 : 1 ≤ n) : kR n i < 4 ^ n := by
  unfold kR
  rw [List.getD_eq_getElem?_getD]
  by_cases h : i < (kL n).length
  · rw [List.getElem?_eq_getElem h]
    exact kL_lt h1 _ (List.getElem_mem h)
  · rw [List.getElem?_eq_none (by omega)]
    exact Nat.pow_pos (by decide)
section
variable {d : Nat} {h : am_H} {Q : Option Value → am_H → Prop} {p : Nat}
theorem RK_fr {h' : am_H} (hR : RK h p) (hf : ∀ x, p ≤ x → x < p + 3 → h'.2 x = h.2 x) : RK h' p := by
  obtain ⟨fl, g, l, e0, e1, e2, e3⟩ := hR
  exact ⟨fl, g, l, (hf _ (by omega) (by omega)).trans e0, (hf _ (by omega) (by omega)).trans e1, (hf _ (by omega) (by omega)).trans e2, e3⟩
/-- the kinds of n beads are listed -/
def KLd (h : am_H) (p n : Nat) : Prop := ∃ g : Nat → Int32, h.2 (p + 1) = aI 1955 g ∧ ∀ i, i < kN n → g (sT n + i) = nI (kR n i)
theorem K_number (hO : RO h) (hR : RK h p) (h40 : 40 ≤ p) {n : Nat} (hn0 : 1 ≤ n) (hn : n ≤ 7) (hQ : ∀ h', AgN p 3 h h' → RK h' p → KLd h' p n → Q (some (.int (nI (kN n)))) h') : am_call (d + 12) 51 [.ref p, .int (nI n)] h Q := by
  have hR0 := hR
  obtain ⟨fl, g, l, e0, e1, e2, e3⟩ := hR
  have hkl := kL_len hn0 hn
  have hsb := sT_big (n + 1) (by omega)
  have last : ∀ h' x, AgN p 3 h h' → RK h' p → KLd h' p n → RO h' → am_wp (am_call (d + 11)) (0, 0) cm_X4_number Q (fun _ => False) (55, [some (.ref p), some (.int (nI n)), x], [], 0, 0) h' := by
    intro h' x ha hk hl hO'
    refine am_run (am_cK _) 5 (am_rdi_ro hO'.1 ?_)
    rw [← nI_succ]
    refine ⟨vp_in_nI (by omega) (by omega), ?_⟩
    rw [nI_clamp (by omega), roSt_eq _ (by omega)]
    refine am_run (am_cK _) 3 (am_rdi_ro hO'.1 ⟨vp_in_nI (by omega) (by omega), ?_⟩)
    rw [nI_clamp (by omega), roSt_eq _ (by omega)]
    refine am_run (am_cK _) 2 ?_
    show Q (some (.int (nI (sT (n + 1)) - nI (sT n)))) h'
    rw [pk_sub (by omega), show sT (n + 1) - sT n = kN n by unfold kN; omega]
    exact hQ h' ha hk hl
  refine en_X4_number (Nat.le_of_ble_eq_true rfl) (am_run (am_cK _) 2 (K_lacks (nI n) (fun c => ?_) (fun _ => ?_)))
  · rcases c with c | c
    · exact absurd c (nI_nlt (a := n) (b := 1) hn0 (by omega))
    · exact absurd c (nI_nlt (a := 7) (b := n) hn (by omega))
  refine am_run (am_cK _) 1 ⟨fun _ => ?_, fun z => absurd rfl z⟩
  refine am_run (am_cK _) 2 (am_obj_in e0 (am_run (am_cK _) 2 (am_ari_in e2 ⟨vp_in_nI (by omega) (by omega), ?_⟩)))
  rw [nI_clamp (by omega)]
  rcases e3 n hn0 hn with hl | hl
  · rw [hl]
    refine am_run (am_cK _) 1 ⟨fun z => absurd rfl z, fun _ => ?_⟩
    refine am_run (am_cK _) 2 (am_obj_in e0 (am_run (am_cK _) 3 (am_ari_in e2 ⟨vp_in_nI (by omega) (by omega), ?_⟩)))
    rw [nI_clamp (by omega)]
    generalize hH : am_set h (p + 2) _ = h1
    have ha1 : AgN p 3 h h1 := by rw [← hH]; exact AgN.set (by omega)
    have hO1 : RO h1 := RO_fr hO (fun x hx => ha1.2 x (by omega))
    have k0 : h1.2 p = cK p fl := by rw [← hH]; exact (as_n (by omega)).trans e0
    have k1 : h1.2 (p + 1) = aI 1955 g := by rw [← hH]; exact (as_n (by omega)).trans e1
    have k2 : h1.2 (p + 2) = aB 8 (upd l n 1) := by rw [← hH]; exact as_s
    refine am_run (am_cK _) 4 (am_rdi_ro hO1.1 ⟨vp_in_nI (by omega) (by omega), ?_⟩)
    rw [nI_clamp (by omega), roSt_eq _ (by omega)]
    refine am_run (am_cK _) 1 (am_obj_in k0 (am_run (am_cK _) 2 ?_))
    have hmono : ∀ k, k ≤ 4 → sT n + (cat (fun c => grN n (isLF n) (n - 1) c 1 1) 0 k).length ≤ sT (n + 1) := by
      have : ∀ j k, (cat (fun c => grN n (isLF n) (n - 1) c 1 1) 0 k).length ≤ (cat (fun c => grN n (isLF n) (n - 1) c 1 1) 0 (k + j)).length := fun j => by
        induction j with
        | zero => exact fun k => Nat.le_refl _
        | succ j ih => exact fun k => Nat.le_trans (ih k) (by rw [← Nat.add_assoc, cat, List.length_append]; omega)
      intro k hk
      have h1 := this (4 - k) k
      rw [show k + (4 - k) = 4 by omega] at h1
      have h2 : (kL n).length = (cat (fun c => grN n (isLF n) (n - 1) c 1 1) 0 4).length := rfl
      omega
    suffices H : ∀ r k h' g', k + r = 4 → AgN p 3 h h' → h'.2 p = cK p (sT n + (cat (fun c => grN n (isLF n) (n - 1) c 1 1) 0 k).length) → h'.2 (p + 1) = aI 1955 g' → h'.2 (p + 2) = aB 8 (upd l n 1) → Wr g g' (sT n) (cat (fun c => grN n (isLF n) (n - 1) c 1 1) 0 k) → am_wp (am_call (d + 11)) (0, 0) cm_X4_number Q (fun _ => False) (36, [some (.ref p), some (.int (nI n)), some (.int (nI k))], [], 0, 0) h' from
      H 4 0 _ g (by omega) (ha1.trans (AgN.set (by omega))) as_s ((as_n (by omega)).trans k1) ((as_n (by omega)).trans k2) Wr_nil
    intro r
    induction r with
    | zero =>
      intro k h' g' hk ha f0 f1 f2 hw
      have e : k = 4 := by omega
      subst e
      refine am_run (am_cK _) 3 ⟨fun _ => ?_, fun c => absurd (nI_le (a := 4) (b := 4) (Nat.le_refl _) (by omega)) c⟩
      have hL : cat (fun c => grN n (isLF n) (n - 1) c 1 1) 0 4 = kL n := rfl
      rw [hL] at hw f0
      refine last h' _ ha ⟨_, g', upd l n 1, f0, f1, f2, fun m hm1 hm7 => ?_⟩ ⟨g', f1, fun i hi => hw.2 i hi⟩ (RO_fr hO (fun x hx => ha.2 x (by omega)))
      by_cases em : m = n
      · subst em
        rw [upd_s]
        exact Or.inr ⟨rfl, fun i hi => hw.2 i hi⟩
      · rw [upd_n em]
        refine (e3 m hm1 hm7).imp id (fun z => ⟨z.1, fun i hi => ?_⟩)
        have hkm := kL_len hm1 hm7
        have hi' : i < (kL m).length := hi
        rw [hw.1 _ ?_]
        · exact z.2 i hi
        · by_cases hlt : m < n
          · have := sT_mono (m + 1) (by omega) n (by omega) (by omega) (by omega)
            exact Or.inl (by omega)
          · have := sT_mono (n + 1) (by omega) m (by omega) (by omega) (by omega)
            exact Or.inr (by omega)
    | succ r ih =>
      intro k h' g' hk ha f0 f1 f2 hw
      refine am_run (am_cK _) 3 ⟨fun c => absurd c (nI_ge (b := 4) (by omega) (by omega)), fun _ => ?_⟩
      have hm := hmono (k + 1) (by omega)
      rw [cat, List.length_append, Nat.zero_add, ← Nat.add_assoc] at hm
      refine am_run (am_cK _) 6 (am_obj_in f0 (am_call_mono (d + (n - 1) + 4) (d + 11) (by omega) _ _ _ _ _ (fun _ _ z => z) (K_grow hn0 hn h40 (n - 1) 1 (s := k) (q := 1) (by omega) (by omega) (by omega) (by omega) (RO_fr hO (fun x hx => ha.2 x (by omega))) f0 f1 hm (fun h2 g2 ha2 j0 j1 hw2 => ?_))))
      have zz := ih (k + 1) h2 g2 (by omega) (ha.trans ⟨ha2.1, fun x hx => ha2.2 x (by omega)⟩) (by rw [cat, List.length_append, ← Nat.add_assoc, Nat.zero_add]; exact j0) j1 ((ha2.2 _ (by omega)).trans f2) (by rw [cat, Nat.zero_add]; exact Wr_app hw hw2)
      rw [nI_succ] at zz
      exact am_run (am_cK _) 2 zz
  · rw [hl.1]
    exact am_run (am_cK _) 1 ⟨fun _ => last h none AgN.rf hR0 ⟨g, e1, hl.2⟩ hO, fun z => absurd n10 z⟩
theorem K_kind (hO : RO h) (hR : RK h p) (h40 : 40 ≤ p) {n i : Nat} (hn0 : 1 ≤ n) (hn : n ≤ 7) (hi : i < kN n) (hQ : ∀ h', AgN p 3 h h' → RK h' p → Q (some (.int (nI (kR n i)))) h') : am_call (d + 13) 52 [.ref p, .int (nI n), .int (nI i)] h Q := by
  have hkl := kL_len hn0 hn
  have hsb := sT_big (n + 1) (by omega)
  have hi' : i < (kL n).length := hi
  obtain ⟨fl, g, l, e0, e1, e2, e3⟩ := id hR
  refine en_X4_kind (Nat.le_of_ble_eq_true rfl) (am_run (am_cK _) 2 ⟨fun c => absurd c (nI_pos (by omega)), fun _ => ?_⟩)
  refine am_run (am_cK _) 4 (am_obj_in e0 (K_number hO hR h40 hn0 hn (fun h' ha hk hl => ?_)))
  have hk0 := hk
  obtain ⟨fl', g', l', f0, f1, f2, f3⟩ := hk
  obtain ⟨g2, j1, j2⟩ := hl
  have hkn : kN n = (kL n).length := rfl
  refine am_run (am_cK _) 1 ⟨fun c => absurd c (nI_ge hi (by omega)), fun _ => ?_⟩
  have hO' : RO h' := RO_fr hO (fun x hx => ha.2 x (by omega))
  refine am_run (am_cK _) 2 (am_obj_in f0 (am_run (am_cK _) 3 (am_rdi_ro hO'.1 ⟨vp_in_nI (by omega) (by omega), ?_⟩)))
  rw [nI_clamp (by omega), roSt_eq _ (by omega)]
  refine am_run (am_cK _) 3 (am_rdi_in j1 ?_)
  rw [nI_add]
  refine ⟨vp_in_nI (by omega) (by omega), ?_⟩
  rw [nI_clamp (by omega), j2 i hi]
  exact am_run (am_cK _) 2 (hQ h' ha hk0)
theorem kR_small {n i : Nat} (h1 : 1 ≤ n) (hn : n ≤ 7) : kR n i < 2 ^ 20 := Nat.lt_of_lt_of_le (kR_lt h1) (Nat.le_trans (Nat.pow_le_pow_right (by decide) (by omega : n ≤ 10)) (by decide))
/-- the greatest colour of a row's number -/
abbrev gcN (s n : Nat) : Nat := gcl (dg s n) n
theorem gcl_lt (f : Nat → Nat) (n : Nat) : gcl f n < 4 := by
  unfold gcl
  split
  · omega
  · split
    · omega
    · split <;> omega
def kAtI (n k m : Nat) : Nat := fnd (fun i => decide (gcN (kR n i) n < k) && cnt (fun j => decide (gcN (kR n j) n < k)) i == m) 0 (kN n)
def kAhd (n lr g : Nat) : Nat := cnt (fun i => decide (kR n i < lr) && decide (gcN (kR n i) n ≤ g)) (kN n)
def kBeh (n lr g : Nat) : Nat := fnd (fun i => decide (lr < kR n i) && decide (gcN (kR n i) n ≤ g)) 0 (kN n)
theorem kN_le {n : Nat} (h1 : 1 ≤ n) (h7 : n ≤ 7) : kN n ≤ 1955 := by
  have := kL_len h1 h7
  have := sT_big (n + 1) (by omega)
  unfold kN
  omega
theorem K_kindAt (hO : RO h) (hR : RK h p) (h40 : 40 ≤ p) {n k m : Nat} (hn0 : 1 ≤ n) (hn : n ≤ 7) (hk4 : k ≤ 4) (hm : m ≤ 999) (h1 : kAtI n k m < kN n → ∀ h', AgN p 3 h h' → RK h' p → Q (some (.int (nI (kR n (kAtI n k m))))) h') (h2 : kAtI n k m = kN n → ∀ h', AgN p 3 h h' → RK h' p → Q (some (.int (-1))) h') : am_call (d + 14) 54 [.ref p, .int (nI n), .int (nI k), .int (nI m)] h Q := by
  have hkn := kN_le hn0 hn
  obtain ⟨fl, g, l, e0, e1, e2, e3⟩ := id hR
  refine en_X4_kindAt (Nat.le_of_ble_eq_true rfl) (am_run (am_cK _) 7 (am_obj_in e0 (K_number hO hR h40 hn0 hn (fun h' ha hk hl => am_run (am_cK _) 1 ?_))))
  clear e0 e1 e2 e3
  suffices H : ∀ r i h' x, i + r = kN n → AgN p 3 h h' → RK h' p → kAtI n k m = fnd (fun i => decide (gcN (kR n i) n < k) && cnt (fun j => decide (gcN (kR n j) n < k)) i == m) i r → am_wp (am_call (d + 13)) (0, 0) cm_X4_kindAt Q (fun _ => False) (13, [some (.ref p), some (.int (nI n)), some (.int (nI k)), some (.int (nI m)), some (.int (nI (cnt (fun j => decide (gcN (kR n j) n < k)) i))), some (.int (nI i)), some (.int (nI (kN n))), x], [], 0, 0) h' from
    H (kN n) 0 h' none (by omega) ha hk rfl
  clear hl hk ha
  intro r
  induction r with
  | zero =>
    intro i h' x hi ha hk hf
    have e : i = kN n := by omega
    exact am_run (am_cK _) 3 ⟨fun _ => am_run (am_cK _) 2 (h2 (by rw [hf]; exact e) h' ha hk), fun c => absurd (nI_le (by omega) (by omega)) c⟩
  | succ r ih =>
    intro i h' x hi ha hk hf
    obtain ⟨fl, g, l, e0, e1, e2, e3⟩ := id hk
    rw [fnd] at hf
    have hcl := cnt_le (fun j => decide (gcN (kR n j) n < k)) i
    have hO' : RO h' := RO_fr hO (fun x hx => ha.2 x (by omega))
    have hgl := gcl_lt (dg (kR n i) n) n
    have hgN : gcN (kR n i) n < 4 := hgl
    refine am_run (am_cK _) 3 ⟨fun c => absurd c (nI_ge (by omega) (by omega)), fun _ => ?_⟩
    refine am_run (am_cK _) 4 (am_obj_in e0 (K_kind hO' hk h40 hn0 hn (by omega) (fun h2' ha2 hk2 => ?_)))
    refine am_run (am_cK _) 4 (show am_call (d + 13) 16 [.int (nI (kR n i)), .int (nI n)] h2' _ from ?_)
    have hrk : nI (kR n i) = nI (rk (dg (kR n i) n) n) := by rw [rk_dg (kR_lt hn0)]
    rw [hrk]
    refine B_greatestColour (by omega) (fun j _ => dg_lt _ _ j) ?_
    rw [← hrk]
    refine am_run (am_cK _) 2 ⟨fun c => ?_, fun c => ?_⟩
    · have hc : ¬ gcN (kR n i) n < k := fun z => nI_ge z (by omega) c
      rw [decide_eq_false hc, Bool.false_and, if_neg (by decide)] at hf
      have zz := ih (i + 1) h2' (some (.int (nI (kR n i)))) (by omega) (ha.trans ha2) hk2 hf
      rw [nI_succ, cnt, decide_eq_false hc, if_neg (by decide), Nat.add_zero] at zz
      exact am_run (am_cK _) 2 zz
    · have hc : gcN (kR n i) n < k := Nat.lt_of_not_le (fun z => c ((nI_leI (by omega) (by omega)).mpr z))
      rw [decide_eq_true hc, Bool.true_and] at hf
      refine am_run (am_cK _) 3 ⟨fun c2 => ?_, fun c2 => ?_⟩
      · have hne : ¬ cnt (fun j => decide (gcN (kR n j) n < k)) i = m := fun z => c2 (by rw [z])
        rw [beq_eq_false_iff_ne.mpr hne, if_neg (by decide)] at hf
        have zz := ih (i + 1) h2' (some (.int (nI (kR n i)))) (by omega) (ha.trans ha2) hk2 hf
        rw [nI_succ, cnt, decide_eq_true hc, if_pos rfl, nI_succ] at zz
        exact am_run (am_cK _) 3 zz
      · have heq : cnt (fun j => decide (gcN (kR n j) n < k)) i = m := (nI_eq (by omega) (by omega)).mp (Classical.not_not.mp c2)
        rw [beq_iff_eq.mpr heq, if_pos rfl] at hf
        have q := h1 (by omega) h2' (ha.trans ha2) hk2
        rw [hf] at q
        exact am_run (am_cK _) 2 q
theorem K_kindsAhead (hO : RO h) (hR : RK h p) (h40 : 40 ≤ p) {n lr : Nat} (hn0 : 1 ≤ n) (hn : n ≤ 7) (hlr : lr < 4 ^ n) (hQ : ∀ h', AgN p 3 h h' → RK h' p → Q (some (.int (nI (kAhd n lr (gcN lr n))))) h') : am_call (d + 14) 55 [.ref p, .int (nI n), .int (nI lr)] h Q := by
  have hkn := kN_le hn0 hn
  have hls : lr < 2 ^ 20 := Nat.lt_of_lt_of_le hlr (Nat.le_trans (Nat.pow_le_pow_right (by decide) (by omega : n ≤ 10)) (by decide))
  have hgl0 := gcl_lt (dg lr n) n
  have hgN0 : gcN lr n < 4 := hgl0
  obtain ⟨fl, g, l, e0, e1, e2, e3⟩ := id hR
  have hrk0 : nI lr = nI (rk (dg lr n) n) := by rw [rk_dg hlr]
  refine en_X4_kindsAhead (Nat.le_of_ble_eq_true rfl) (am_run (am_cK _) 3 (show am_call (d + 13) 16 [.int (nI lr), .int (nI n)] h _ from ?_))
  rw [hrk0]
  refine B_greatestColour (by omega) (fun j _ => dg_lt _ _ j) ?_
  rw [← hrk0]
  refine am_run (am_cK _) 8 (am_obj_in e0 (K_number hO hR h40 hn0 hn (fun h' ha hk hl => am_run (am_cK _) 1 ?_)))
  clear e0 e1 e2 e3
  suffices H : ∀ r i h' x, i + r = kN n → AgN p 3 h h' → RK h' p → am_wp (am_call (d + 13)) (0, 0) cm_X4_kindsAhead Q (fun _ => False) (19, [some (.ref p), some (.int (nI n)), some (.int (nI lr)), some (.int (nI (gcN lr n))), some (.int (nI (cnt (fun i => decide (kR n i < lr) && decide (gcN (kR n i) n ≤ gcN lr n)) i))), some (.int (nI i)), some (.int (nI (kN n))), x], [], 0, 0) h' from
    H (kN n) 0 h' none (by omega) ha hk
  clear hl hk ha
  intro r
  induction r with
  | zero =>
    intro i h' x hi ha hk
    have e : i = kN n := by omega
    subst e
    exact am_run (am_cK _) 3 ⟨fun _ => am_run (am_cK _) 2 (hQ h' ha hk), fun c => absurd (nI_le (Nat.le_refl _) (by omega)) c⟩
  | succ r ih =>
    intro i h' x hi ha hk
    obtain ⟨fl, g, l, e0, e1, e2, e3⟩ := id hk
    have hO' : RO h' := RO_fr hO (fun x hx => ha.2 x (by omega))
    have hgl := gcl_lt (dg (kR n i) n) n
    have hgN : gcN (kR n i) n < 4 := hgl
    have hks := kR_small (i := i) hn0 hn
    refine am_run (am_cK _) 3 ⟨fun c => absurd c (nI_ge (by omega) (by omega)), fun _ => ?_⟩
    refine am_run (am_cK _) 4 (am_obj_in e0 (K_kind hO' hk h40 hn0 hn (by omega) (fun h2' ha2 hk2 => ?_)))
    have zz := ih (i + 1) h2' (some (.int (nI (kR n i)))) (by omega) (ha.trans ha2) hk2
    rw [nI_succ, cnt] at zz
    refine am_run (am_cK _) 4 ⟨fun c => ?_, fun c => ?_⟩
    · have hc : ¬ kR n i < lr := fun z => nI_ge z (by omega) c
      rw [decide_eq_false hc, Bool.false_and, if_neg (by decide), Nat.add_zero] at zz
      exact am_run (am_cK _) 2 zz
    · have hc : kR n i < lr := Nat.lt_of_not_le (fun z => c ((nI_leI (by omega) (by omega)).mpr z))
      rw [decide_eq_true hc, Bool.true_and] at zz
      refine am_run (am_cK _) 3 (show am_call (d + 13) 16 [.int (nI (kR n i)), .int (nI n)] h2' _ from ?_)
      have hrk : nI (kR n i) = nI (rk (dg (kR n i) n) n) := by rw [rk_dg (kR_lt hn0)]
      rw [hrk]
      refine B_greatestColour (by omega) (fun j _ => dg_lt _ _ j) ?_
      rw [← hrk]
      refine am_run (am_cK _) 2 ⟨fun c2 => ?_, fun c2 => ?_⟩
      · have hc2 : ¬ gcN (kR n i) n ≤ gcN lr n := fun z => Nat.lt_irrefl _ (Nat.lt_of_le_of_lt z ((nI_ltI (by omega) (by omega)).mp c2))
        rw [decide_eq_false hc2, if_neg (by decide), Nat.add_zero] at zz
        exact am_run (am_cK _) 2 zz
      · have hc2 : gcN (kR n i) n ≤ gcN lr n := Nat.le_of_not_lt (fun z => c2 ((nI_ltI (by omega) (by omega)).mpr z))
        rw [decide_eq_true hc2, if_pos rfl, nI_succ] at zz
        exact am_run (am_cK _) 3 zz
theorem K_kindBehind (hO : RO h) (hR : RK h p) (h40 : 40 ≤ p) {n lr : Nat} (hn0 : 1 ≤ n) (hn : n ≤ 7) (hlr : lr < 4 ^ n) (h1 : kBeh n lr (gcN lr n) < kN n → ∀ h', AgN p 3 h h' → RK h' p → Q (some (.int (nI (kR n (kBeh n lr (gcN lr n)))))) h') (h2 : kBeh n lr (gcN lr n) = kN n → ∀ h', AgN p 3 h h' → RK h' p → Q (some (.int (-1))) h') : am_call (d + 14) 56 [.ref p, .int (nI n), .int (nI lr)] h Q := by
  have hkn := kN_le hn0 hn
  have hls : lr < 2 ^ 20 := Nat.lt_of_lt_of_le hlr (Nat.le_trans (Nat.pow_le_pow_right (by decide) (by omega : n ≤ 10)) (by decide))
  have hgl0 := gcl_lt (dg lr n) n
  have hgN0 : gcN lr n < 4 := hgl0
  obtain ⟨fl, g, l, e0, e1, e2, e3⟩ := id hR
  have hrk0 : nI lr = nI (rk (dg lr n) n) := by rw [rk_dg hlr]
  refine en_X4_kindBehind (Nat.le_of_ble_eq_true rfl) (am_run (am_cK _) 3 (show am_call (d + 13) 16 [.int (nI lr), .int (nI n)] h _ from ?_))
  rw [hrk0]
  refine B_greatestColour (by omega) (fun j _ => dg_lt _ _ j) ?_
  rw [← hrk0]
  refine am_run (am_cK _) 6 (am_obj_in e0 (K_number hO hR h40 hn0 hn (fun h' ha hk hl => am_run (am_cK _) 1 ?_)))
  clear e0 e1 e2 e3
  suffices H : ∀ r i h' x, i + r = kN n → AgN p 3 h h' → RK h' p → kBeh n lr (gcN lr n) = fnd (fun i => decide (lr < kR n i) && decide (gcN (kR n i) n ≤ gcN lr n)) i r → am_wp (am_call (d + 13)) (0, 0) cm_X4_kindBehind Q (fun _ => False) (16, [some (.ref p), some (.int (nI n)), some (.int (nI lr)), some (.int (nI (gcN lr n))), some (.int (nI i)), some (.int (nI (kN n))), x], [], 0, 0) h' from
    H (kN n) 0 h' none (by omega) ha hk rfl
  clear hl hk ha
  intro r
  induction r with
  | zero =>
    intro i h' x hi ha hk hf
    have e : i = kN n := by omega
    exact am_run (am_cK _) 3 ⟨fun _ => am_run (am_cK _) 2 (h2 (by rw [hf]; exact e) h' ha hk), fun c => absurd (nI_le (by omega) (by omega)) c⟩
  | succ r ih =>
    intro i h' x hi ha hk hf
    obtain ⟨fl, g, l, e0, e1, e2, e3⟩ := id hk
    rw [fnd] at hf
    have hO' : RO h' := RO_fr hO (fun x hx => ha.2 x (by omega))
    have hgl := gcl_lt (dg (kR n i) n) n
    have hgN : gcN (kR n i) n < 4 := hgl
    have hks := kR_small (i := i) hn0 hn
    refine am_run (am_cK _) 3 ⟨fun c => absurd c (nI_ge (by omega) (by omega)), fun _ => ?_⟩
    refine am_run (am_cK _) 4 (am_obj_in e0 (K_kind hO' hk h40 hn0 hn (by omega) (fun h2' ha2 hk2 => ?_)))
    refine am_run (am_cK _) 4 ⟨fun c => ?_, fun c => ?_⟩
    · have hc : ¬ lr < kR n i := fun z => nI_ge z (by omega) c
      rw [decide_eq_false hc, Bool.false_and, if_neg (by decide)] at hf
      have zz := ih (i + 1) h2' (some (.int (nI (kR n i)))) (by omega) (ha.trans ha2) hk2 hf
      rw [nI_succ] at zz
      exact am_run (am_cK _) 2 zz
    · have hc : lr < kR n i := Nat.lt_of_not_le (fun z => c ((nI_leI (by omega) (by omega)).mpr z))
      rw [decide_eq_true hc, Bool.true_and] at hf
      refine am_run (am_cK _) 3 (show am_call (d + 13) 16 [.int (nI (kR n i)), .int (nI n)] h2' _ from ?_)
      have hrk : nI (kR n i) = nI (rk (dg (kR n i) n) n) := by rw [rk_dg (kR_lt hn0)]
      rw [hrk]
      refine B_greatestColour (by omega) (fun j _ => dg_lt _ _ j) ?_
      rw [← hrk]
      refine am_run (am_cK _) 2 ⟨fun c2 => ?_, fun c2 => ?_⟩
      · have hc2 : ¬ gcN (kR n i) n ≤ gcN lr n := fun z => Nat.lt_irrefl _ (Nat.lt_of_le_of_lt z ((nI_ltI (by omega) (by omega)).mp c2))
        rw [decide_eq_false hc2, if_neg (by decide)] at hf
        have zz := ih (i + 1) h2' (some (.int (nI (kR n i)))) (by omega) (ha.trans ha2) hk2 hf
        rw [nI_succ] at zz
        exact am_run (am_cK _) 2 zz
      · have hc2 : gcN (kR n i) n ≤ gcN lr n := Nat.le_of_not_lt (fun z => c2 ((nI_ltI (by omega) (by omega)).mpr z))
        rw [decide_eq_true hc2, if_pos rfl] at hf
        have q := h1 (by omega) h2' (ha.trans ha2) hk2
        rw [hf] at q
        exact am_run (am_cK _) 2 q
end
