def sFlip (σ : Sg) (b : Int32) : Int32 × Sg := if b < 0 ∨ nI (sN σ) ≤ b then (-1, σ) else
  (nI (flp (sB σ b.toNatClampNeg) (sZ σ b.toNatClampNeg) 0), setB σ b.toNatClampNeg (sZ σ b.toNatClampNeg) (flp (sB σ b.toNatClampNeg) (sZ σ b.toNatClampNeg)))
/-- beads x and the next one change places -/
def swp (f : Nat → Nat) (n x : Nat) : Nat → Nat := up1 (up1 f x (f ((x + 1) % n))) ((x + 1) % n) (f x)
def sSwap (σ : Sg) (b i : Int32) : Int32 × Sg := if b < 0 ∨ nI (sN σ) ≤ b then (-1, σ) else
  let j := b.toNatClampNeg
  if i < 0 ∨ nI (sZ σ j) ≤ i then (-1, σ) else
  let x := i.toNatClampNeg
  if sB σ j x = sB σ j ((x + 1) % sZ σ j) then (-2, σ) else (nI (10 * sB σ j ((x + 1) % sZ σ j) + sB σ j x), setB σ j (sZ σ j) (swp (sB σ j) (sZ σ j) x))
def sDrop (σ : Sg) (b : Nat) : Sg := (sN σ - 1, (fun i => if i < b then sZ σ i else sZ σ (i + 1)), (fun i => if i < b then sB σ i else sB σ (i + 1)), sK σ, sP σ)
def sBuy (σ : Sg) (c n : Int32) : Int32 × Sg := if c < 0 ∨ 4 ≤ c ∨ n < 1 ∨ 9 < n then (-1, σ) else
  let j := c.toNatClampNeg
  let m := n.toNatClampNeg
  if sP σ < m then (-2, σ) else if 99 < sK σ j + m then (-3, σ) else (nI (sK σ j + m), (sN σ, sZ σ, sB σ, va_up (sK σ) j (sK σ j + m), sP σ - m))
theorem sDrop_ok {σ : Sg} {b : Nat} (hs : Sok σ) (hb : b < sN σ) : Sok (sDrop σ b) := by
  refine ⟨?_, fun j hj => ?_, hs.2.2.1, hs.2.2.2⟩
  · show sN σ - 1 ≤ 5
    have := hs.1; omega
  · have hj' : j < sN σ - 1 := hj
    show 1 ≤ (if j < b then sZ σ j else sZ σ (j + 1)) ∧ (if j < b then sZ σ j else sZ σ (j + 1)) ≤ 10 ∧ ∀ i, i < (if j < b then sZ σ j else sZ σ (j + 1)) → (if j < b then sB σ j else sB σ (j + 1)) i < 4
    split
    · exact hs.2.1 j (by omega)
    · exact hs.2.1 (j + 1) (by omega)
section
variable {d : Nat} {h : am_H} {Q : Option Value → am_H → Prop} {p : Nat} {σ : Sg}
theorem RS_k {r z k : Nat → Int32} {c v : Nat} (e0 : h.2 p = cS p (sN σ) (sP σ)) (e1 : h.2 (p + 1) = aI 5 r) (e2 : h.2 (p + 2) = aI 5 z) (e4 : ∀ b, b < sN σ → r b = nI (rk (sB σ b) (sZ σ b)) ∧ z b = nI (sZ σ b)) (e5 : ∀ c, c < 4 → k c = nI (sK σ c)) : RS (am_set h (p + 3) (aI 4 (upd k c (nI v)))) p (setK σ (va_up (sK σ) c v)) := by
  refine ⟨r, z, upd k c (nI v), (as_n (by omega)).trans e0, (as_n (by omega)).trans e1, (as_n (by omega)).trans e2, as_s, e4, fun c' hc' => ?_⟩
  show upd k c (nI v) c' = nI (va_up (sK σ) c v c')
  by_cases e : c' = c
  · rw [e, upd_s, am_up_s]
  · rw [upd_n e, am_up_n e]; exact e5 c' hc'
theorem S_putBack (hR : RS h p σ) (hs : Sok σ) {c n : Nat} (hc : c < 4) (hn : n ≤ 10) (hQ : ∀ h', Ag p h h' → RS h' p (setK σ (va_up (sK σ) c (Nat.min 99 (sK σ c + n)))) → Q none h') : am_call (d + 2) 82 [.ref p, .int (nI c), .int (nI n)] h Q := by
  obtain ⟨r, z, k, e0, e1, e2, e3, e4, e5⟩ := hR
  have hk := hs.2.2.1 c hc
  refine en_X7_putBack (Nat.le_of_ble_eq_true rfl) (am_run (am_cK _) 2 (am_obj_in e0 (am_run (am_cK _) 4 (am_obj_in e0 (am_run (am_cK _) 2 (am_rdi_in e3 ⟨vp_in_nI (by omega) (by omega), ?_⟩))))))
  rw [nI_clamp (by omega), e5 c hc]
  refine am_run (am_cK _) 3 (show am_call (d + 1) 325 [.int (nI 99), .int (nI (sK σ c) + nI n)] h _ from ?_)
  rw [nI_add]
  refine J_min (by omega) (by omega) ?_
  refine am_run (am_cK _) 1 (am_ari_in e3 ⟨vp_in_nI (by omega) (by omega), ?_⟩)
  rw [nI_clamp (by omega)]
  exact am_run (am_cK _) 1 (hQ _ (Ag.set (by omega)) (RS_k e0 e1 e2 e4 e5))
theorem S_flip (hR : RS h p σ) (hs : Sok σ) (b : Int32) (hQ : ∀ h', Ag p h h' → RS h' p (sFlip σ b).2 → Q (some (.int (sFlip σ b).1)) h') : am_call (d + 2) 86 [.ref p, .int b] h Q := by
  have hR0 := hR
  obtain ⟨r, z, kk, e0, e1, e2, e3, e4, e5⟩ := hR
  have hN := hs.1
  refine en_X7_flip (Nat.le_of_ble_eq_true rfl) (am_run (am_cK _) 3 (am_obj_in e0 (S_lacks hR0 hs b (fun c => ?_) (fun j hj e => ?_))))
  · have q := hQ h Ag.rf (by unfold sFlip; rw [if_pos c]; exact hR0)
    unfold sFlip at q
    rw [if_pos c] at q
    exact am_run (am_cK _) 1 ⟨fun z => absurd z n10, fun _ => am_run (am_cK _) 2 q⟩
  · subst e
    have hz := hs.2.1 j hj
    have hyes : ¬ (nI j < 0 ∨ nI (sN σ) ≤ nI j) := by
      rintro (c | c)
      · exact nI_pos (by omega) c
      · exact nI_ge hj (by omega) c
    have q := hQ
    unfold sFlip at q
    rw [if_neg hyes, nI_clamp (by omega)] at q
    refine am_run (am_cK _) 1 ⟨fun _ => ?_, fun c => absurd rfl c⟩
    refine am_run (am_cK _) 2 (am_obj_in e0 (am_run (am_cK _) 3 (am_obj_in e0 (am_run (am_cK _) 2 (am_rdi_in e1 ⟨vp_in_nI (by omega) (by omega), ?_⟩)))))
    rw [nI_clamp (by omega), (e4 j hj).1]
    refine am_run (am_cK _) 2 (am_obj_in e0 (am_run (am_cK _) 2 (am_rdi_in e2 ⟨vp_in_nI (by omega) (by omega), ?_⟩)))
    rw [nI_clamp (by omega), (e4 j hj).2]
    refine am_run (am_cK _) 1 (B_flipped hz.2.1 hz.2.2 ?_)
    refine am_run (am_cK _) 1 (am_ari_in e1 ⟨vp_in_nI (by omega) (by omega), ?_⟩)
    rw [nI_clamp (by omega)]
    have e0' : (am_set h (p + 1) (aI 5 (upd r j (nI (rk (flp (sB σ j) (sZ σ j)) (sZ σ j)))))).2 p = cS p (sN σ) (sP σ) := (as_n (by omega)).trans e0
    refine am_run (am_cK _) 2 (am_obj_in e0' (am_run (am_cK _) 2 (am_rdi_in as_s ⟨vp_in_nI (by omega) (by omega), ?_⟩)))
    rw [nI_clamp (by omega), upd_s]
    refine am_run (am_cK _) 2 (am_obj_in e0' (am_run (am_cK _) 2 (am_rdi_in ((as_n (by omega)).trans e2) ⟨vp_in_nI (by omega) (by omega), ?_⟩)))
    rw [nI_clamp (by omega), (e4 j hj).2]
    refine am_run (am_cK _) 2 (B_colourAt (i := 0) hz.2.1 (flp_lt hz.2.2) (by omega) ?_)
    exact am_run (am_cK _) 1 (q _ (Ag.set (by omega)) (RS_row e0 e2 e3 e4 e5 rfl))
theorem swp_lt {f : Nat → Nat} {n x : Nat} (hx : x < n) (hf : ∀ i, i < n → f i < 4) : ∀ i, i < n → swp f n x i < 4 := up1_lt (up1_lt hf (hf _ (Nat.mod_lt _ (by omega)))) (hf x hx)
theorem S_swap (hR : RS h p σ) (hs : Sok σ) (b i : Int32) (hQ : ∀ h', Ag p h h' → RS h' p (sSwap σ b i).2 → Q (some (.int (sSwap σ b i).1)) h') : am_call (d + 3) 87 [.ref p, .int b, .int i] h Q := by
  have hR0 := hR
  obtain ⟨r, z, kk, e0, e1, e2, e3, e4, e5⟩ := hR
  have hN := hs.1
  have fin : ∀ a, sSwap σ b i = (a, σ) → Q (some (.int a)) h := fun a e => by
    have q := hQ h Ag.rf (by rw [e]; exact hR0)
    rw [e] at q
    exact q
  refine en_X7_swap (Nat.le_of_ble_eq_true rfl) (am_run (am_cK _) 4 (am_obj_in e0 (S_lacksBead hR0 hs b i (fun c => ?_) (fun j hj e c => ?_) (fun j hj e x hx ex => ?_))))
  · exact am_run (am_cK _) 1 ⟨fun z => absurd z n10, fun _ => am_run (am_cK _) 2 (fin _ (by unfold sSwap; rw [if_pos c]))⟩
  · subst e
    have hyes : ¬ (nI j < 0 ∨ nI (sN σ) ≤ nI j) := by
      rintro (c | c)
      · exact nI_pos (by omega) c
      · exact nI_ge hj (by omega) c
    exact am_run (am_cK _) 1 ⟨fun z => absurd z n10, fun _ => am_run (am_cK _) 2 (fin _ (by unfold sSwap; rw [if_neg hyes, nI_clamp (by omega)]; simp only; rw [if_pos c]))⟩
  · subst e
    subst ex
    have hz := hs.2.1 j hj
    have hyes : ¬ (nI j < 0 ∨ nI (sN σ) ≤ nI j) := by
      rintro (c | c)
      · exact nI_pos (by omega) c
      · exact nI_ge hj (by omega) c
    have hyes2 : ¬ (nI x < 0 ∨ nI (sZ σ j) ≤ nI x) := by
      rintro (c | c)
      · exact nI_pos (by omega) c
      · exact nI_ge hx (by omega) c
    have esp : sSwap σ (nI j) (nI x) = if sB σ j x = sB σ j ((x + 1) % sZ σ j) then (-2, σ) else (nI (10 * sB σ j ((x + 1) % sZ σ j) + sB σ j x), setB σ j (sZ σ j) (swp (sB σ j) (sZ σ j) x)) := by
      unfold sSwap
      rw [if_neg hyes, nI_clamp (by omega)]
      simp only
      rw [if_neg hyes2, nI_clamp (by omega)]
    have hy : (x + 1) % sZ σ j < sZ σ j := Nat.mod_lt _ (by omega)
    refine am_run (am_cK _) 1 ⟨fun _ => ?_, fun c => absurd rfl c⟩
    refine am_run (am_cK _) 2 (am_obj_in e0 (am_run (am_cK _) 2 (am_rdi_in e2 ⟨vp_in_nI (by omega) (by omega), ?_⟩)))
    rw [nI_clamp (by omega), (e4 j hj).2]
    -- which bead is behind
    have mid : am_wp (am_call (d + 2)) (0, 0) cm_X7_swap Q (fun _ => False) (34, [some (.ref p), some (.int (nI j)), some (.int (nI x)), some (.int (nI (sZ σ j))), some (.int (nI ((x + 1) % sZ σ j))), none, none], [], 0, 0) h := by
      refine am_run (am_cK _) 2 (am_obj_in e0 (am_run (am_cK _) 2 (am_rdi_in e1 ⟨vp_in_nI (by omega) (by omega), ?_⟩)))
      rw [nI_clamp (by omega), (e4 j hj).1]
      refine am_run (am_cK _) 3 (B_colourAt hz.2.1 hz.2.2 hx ?_)
      refine am_run (am_cK _) 3 (am_obj_in e0 (am_run (am_cK _) 2 (am_rdi_in e1 ⟨vp_in_nI (by omega) (by omega), ?_⟩)))
      rw [nI_clamp (by omega), (e4 j hj).1]
      refine am_run (am_cK _) 3 (B_colourAt hz.2.1 hz.2.2 hy ?_)
      have c1 := hz.2.2 x hx
      have c2 := hz.2.2 _ hy
      refine am_run (am_cK _) 4 ⟨fun c => ?_, fun c => ?_⟩
      · have hne : ¬ sB σ j x = sB σ j ((x + 1) % sZ σ j) := fun z => c (by rw [z])
        rw [if_neg hne] at esp
        have q := hQ
        rw [esp] at q
        refine am_run (am_cK _) 2 (am_obj_in e0 (am_run (am_cK _) 3 (am_obj_in e0 (am_run (am_cK _) 2 (am_rdi_in e1 ⟨vp_in_nI (by omega) (by omega), ?_⟩)))))
        rw [nI_clamp (by omega), (e4 j hj).1]
        refine am_run (am_cK _) 4 (B_withColour hz.2.1 hx c2 hz.2.2 ?_)
        refine am_run (am_cK _) 4 (B_withColour hz.2.1 hy c1 (up1_lt hz.2.2 c2) ?_)
        refine am_run (am_cK _) 1 (am_ari_in e1 ⟨vp_in_nI (by omega) (by omega), ?_⟩)
        rw [nI_clamp (by omega)]
        have w := q _ (Ag.set (by omega)) (RS_row (b := j) (f := swp (sB σ j) (sZ σ j) x) e0 e2 e3 e4 e5 rfl)
        have e9 : (10 : Int32) * nI (sB σ j ((x + 1) % sZ σ j)) + nI (sB σ j x) = nI (10 * sB σ j ((x + 1) % sZ σ j) + sB σ j x) := by
          rw [← nI_add]
          congr 1
          exact pk_mul 10 _
        rw [← e9] at w
        exact am_run (am_cK _) 6 w
      · have he : sB σ j x = sB σ j ((x + 1) % sZ σ j) := (nI_eq (by omega) (by omega)).mp (Classical.not_not.mp c)
        rw [if_pos he] at esp
        exact am_run (am_cK _) 2 (fin _ esp)
    refine am_run (am_cK _) 6 ⟨fun c => ?_, fun c => ?_⟩
    · have hc : sZ σ j ≤ x + 1 := (nI_leI (by omega) (by omega)).mp (show nI (sZ σ j) ≤ nI (x + 1) by rw [nI_succ]; exact c)
      have e : (x + 1) % sZ σ j = 0 := by rw [show x + 1 = sZ σ j by omega, Nat.mod_self]
      rw [e] at mid
      exact am_run (am_cK _) 2 mid
    · have hc : x + 1 < sZ σ j := Nat.lt_of_not_le (fun z => c (show nI (sZ σ j) ≤ nI x + 1 by rw [← nI_succ]; exact (nI_leI (by omega) (by omega)).mpr z))
      rw [Nat.mod_eq_of_lt hc, nI_succ] at mid
      exact am_run (am_cK _) 5 mid
theorem S_drop (hR : RS h p σ) (hs : Sok σ) {b : Nat} (hb : b < sN σ) (hQ : ∀ h', Ag p h h' → RS h' p (sDrop σ b) → Q none h') : am_call (d + 1) 94 [.ref p, .int (nI b)] h Q := by
  obtain ⟨r, z, kk, e0, e1, e2, e3, e4, e5⟩ := hR
  have hN := hs.1
  refine en_X7_drop (Nat.le_of_ble_eq_true rfl) (am_run (am_cK _) 2 ?_)
  suffices H : ∀ k i h' r' z', i + k + 1 = sN σ → b ≤ i → Ag p h h' → h'.2 p = cS p (sN σ) (sP σ) → h'.2 (p + 1) = aI 5 r' → h'.2 (p + 2) = aI 5 z' → h'.2 (p + 3) = aI 4 kk → (∀ j, j < i → r' j = r (if j < b then j else j + 1) ∧ z' j = z (if j < b then j else j + 1)) → (∀ j, i ≤ j → r' j = r j ∧ z' j = z j) → am_wp (am_call d) (0, 0) cm_X7_drop Q (fun _ => False) (2, [some (.ref p), some (.int (nI b)), some (.int (nI i))], [], 0, 0) h' from
    H (sN σ - 1 - b) b h r z (by omega) (Nat.le_refl _) Ag.rf e0 e1 e2 e3 (fun j hj => by rw [if_pos hj]; exact ⟨rfl, rfl⟩) (fun j _ => ⟨rfl, rfl⟩)
  intro k
  induction k with
  | zero =>
    intro i h' r' z' hi hbi ha f0 f1 f2 f3 g1 g2
    refine am_run (am_cK _) 5 (am_obj_in f0 (am_run (am_cK _) 1 ⟨fun _ => ?_, fun c => absurd (show nI (sN σ) ≤ nI i + 1 by rw [← nI_succ]; exact nI_le (by omega) (by omega)) c⟩))
    refine am_run (am_cK _) 3 (am_obj_in f0 (am_run (am_cK _) 3 (am_obj_in f0 ?_)))
    have e9 : nI (sN σ) - 1 = nI (sN σ - 1) := pk_sub (a := sN σ) (b := 1) (by omega)
    refine am_run (am_cK _) 1 (hQ _ (ha.trans (Ag.set (by omega))) ?_)
    refine ⟨r', z', kk, ?_, (as_n (by omega)).trans f1, (as_n (by omega)).trans f2, (as_n (by omega)).trans f3, fun j hj => ?_, e5⟩
    · rw [as_s, e9]; rfl
    · have hj' : j < sN σ - 1 := hj
      obtain ⟨w1, w2⟩ := g1 j (by omega)
      show r' j = nI (rk (if j < b then sB σ j else sB σ (j + 1)) (if j < b then sZ σ j else sZ σ (j + 1))) ∧ z' j = nI (if j < b then sZ σ j else sZ σ (j + 1))
      rw [w1, w2]
      by_cases hjb : j < b
      · rw [if_pos hjb, if_pos hjb, if_pos hjb]; exact e4 j (by omega)
      · rw [if_neg hjb, if_neg hjb, if_neg hjb]; exact e4 (j + 1) (by omega)
  | succ k ih =>
    intro i h' r' z' hi hbi ha f0 f1 f2 f3 g1 g2
    refine am_run (am_cK _) 5 (am_obj_in f0 (am_run (am_cK _) 1 ⟨fun c => absurd (show nI (sN σ) ≤ nI (i + 1) by rw [nI_succ]; exact c) (nI_ge (by omega) (by omega)), fun _ => ?_⟩))
    refine am_run (am_cK _) 2 (am_obj_in f0 (am_run (am_cK _) 3 (am_obj_in f0 (am_run (am_cK _) 4 (am_rdi_in f1 ⟨?_, ?_⟩)))))
    · rw [← nI_succ]; exact vp_in_nI (by omega) (by omega)
    rw [← nI_succ, nI_clamp (by omega)]
    refine am_run (am_cK _) 1 (am_ari_in f1 ⟨vp_in_nI (by omega) (by omega), ?_⟩)
    rw [nI_clamp (by omega)]
    have f0' : (am_set h' (p + 1) (aI 5 (upd r' i (r' (i + 1))))).2 p = cS p (sN σ) (sP σ) := (as_n (by omega)).trans f0
    have f2' : (am_set h' (p + 1) (aI 5 (upd r' i (r' (i + 1))))).2 (p + 2) = aI 5 z' := (as_n (by omega)).trans f2
    refine am_run (am_cK _) 2 (am_obj_in f0' (am_run (am_cK _) 3 (am_obj_in f0' (am_run (am_cK _) 4 (am_rdi_in f2' ⟨?_, ?_⟩)))))
    · rw [← nI_succ]; exact vp_in_nI (by omega) (by omega)
    rw [← nI_succ, nI_clamp (by omega)]
    refine am_run (am_cK _) 1 (am_ari_in f2' ⟨vp_in_nI (by omega) (by omega), ?_⟩)
    rw [nI_clamp (by omega)]
    have zz := ih (i + 1) (am_set (am_set h' (p + 1) (aI 5 (upd r' i (r' (i + 1))))) (p + 2) (aI 5 (upd z' i (z' (i + 1))))) (upd r' i (r' (i + 1))) (upd z' i (z' (i + 1))) (by omega) (by omega) (ha.trans ((Ag.set (by omega)).trans (Ag.set (by omega)))) ((as_n (by omega)).trans f0') ((as_n (by omega)).trans as_s) as_s ((as_n (by omega)).trans ((as_n (by omega)).trans f3)) (fun j hj => by
      by_cases e : j = i
      · subst e; rw [upd_s, upd_s, if_neg (by omega)]; exact g2 (j + 1) (by omega)
      · rw [upd_n e, upd_n e]; exact g1 j (by omega)) (fun j hj => by rw [upd_n (by omega), upd_n (by omega)]; exact g2 j (by omega))
    rw [nI_succ] at zz
    exact am_run (am_cK _) 2 zz
end
