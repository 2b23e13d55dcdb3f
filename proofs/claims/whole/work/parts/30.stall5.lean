section
variable {d : Nat} {h : am_H} {Q : Option Value → am_H → Prop} {p : Nat} {σ : Sg}
theorem setK_ok {k : Nat → Nat} (hs : Sok σ) (hk : ∀ c, c < 4 → k c ≤ 99) : Sok (setK σ k) := ⟨hs.1, hs.2.1, hk, hs.2.2.2⟩
theorem S_cut (hR : RS h p σ) (hs : Sok σ) (b i : Int32) (hQ : ∀ h', Ag p h h' → RS h' p (sCut σ b i).2 → Q (some (.int (sCut σ b i).1)) h') : am_call (d + 3) 89 [.ref p, .int b, .int i] h Q := by
  have hR0 := hR
  obtain ⟨r, z, kk, e0, e1, e2, e3, e4, e5⟩ := hR
  have hN := hs.1
  have fin : ∀ a, sCut σ b i = (a, σ) → Q (some (.int a)) h := fun a e => by
    have q := hQ h Ag.rf (by rw [e]; exact hR0)
    rw [e] at q
    exact q
  refine en_X7_cut (Nat.le_of_ble_eq_true rfl) (am_run (am_cK _) 4 (am_obj_in e0 (S_lacksBead hR0 hs b i (fun c => ?_) (fun j hj e c => ?_) (fun j hj e x hx ex => ?_))))
  · exact am_run (am_cK _) 1 ⟨fun z => absurd z n10, fun _ => am_run (am_cK _) 2 (fin _ (by unfold sCut; rw [if_pos c]))⟩
  · subst e
    exact am_run (am_cK _) 1 ⟨fun z => absurd z n10, fun _ => am_run (am_cK _) 2 (fin _ (by unfold sCut; rw [if_neg (S_no hs hj), nI_clamp (by omega)]; simp only; rw [if_pos c]))⟩
  · subst e
    subst ex
    have hz := hs.2.1 j hj
    have hyes2 : ¬ (nI x < 0 ∨ nI (sZ σ j) ≤ nI x) := by
      rintro (c | c)
      · exact nI_pos (by omega) c
      · exact nI_ge hx (by omega) c
    have esp : sCut σ (nI j) (nI x) = if sZ σ j = 1 then (-2, σ) else (nI (sB σ j x), setK (setB σ j (sZ σ j - 1) (del (sB σ j) x)) (va_up (sK σ) (sB σ j x) (Nat.min 99 (sK σ (sB σ j x) + 1)))) := by
      unfold sCut
      rw [if_neg (S_no hs hj), nI_clamp (by omega)]
      simp only
      rw [if_neg hyes2, nI_clamp (by omega)]
    refine am_run (am_cK _) 1 ⟨fun _ => ?_, fun c => absurd rfl c⟩
    refine am_run (am_cK _) 2 (am_obj_in e0 (am_run (am_cK _) 2 (am_rdi_in e2 ⟨vp_in_nI (by omega) (by omega), ?_⟩)))
    rw [nI_clamp (by omega), (e4 j hj).2]
    refine am_run (am_cK _) 2 ⟨fun c => ?_, fun c => ?_⟩
    · have h1 : ¬ sZ σ j = 1 := fun z => c (by rw [z]; rfl)
      rw [if_neg h1] at esp
      have q := hQ
      rw [esp] at q
      have hc4 := hz.2.2 x hx
      refine am_run (am_cK _) 2 (am_obj_in e0 (am_run (am_cK _) 2 (am_rdi_in e1 ⟨vp_in_nI (by omega) (by omega), ?_⟩)))
      rw [nI_clamp (by omega), (e4 j hj).1]
      refine am_run (am_cK _) 2 (am_obj_in e0 (am_run (am_cK _) 2 (am_rdi_in e2 ⟨vp_in_nI (by omega) (by omega), ?_⟩)))
      rw [nI_clamp (by omega), (e4 j hj).2]
      refine am_run (am_cK _) 2 (B_colourAt hz.2.1 hz.2.2 hx ?_)
      refine am_run (am_cK _) 3 (am_obj_in e0 (am_run (am_cK _) 2 (am_rdi_in e2 ⟨vp_in_nI (by omega) (by omega), ?_⟩)))
      rw [nI_clamp (by omega), (e4 j hj).2]
      refine am_run (am_cK _) 5 (show am_wp (am_call (d + 2)) (0, 0) cm_X7_cut Q (fun _ => False) (53, [some (.ref p), some (.int (nI j)), some (.int (nI x)), some (.int (nI (sB σ j x))), some (.int (nI (sZ σ j) - 1 - nI x)), none], [], 0, 0) h from ?_)
      have e9 : nI (sZ σ j) - 1 - nI x = nI (sZ σ j - 1 - x) := by
        have e1 : nI (sZ σ j) - 1 = nI (sZ σ j - 1) := pk_sub (a := sZ σ j) (b := 1) (by omega)
        rw [e1, pk_sub (by omega)]
      rw [e9]
      refine am_run (am_cK _) 2 (am_obj_in e0 (am_run (am_cK _) 2 (am_rdi_in e1 ⟨vp_in_nI (by omega) (by omega), ?_⟩)))
      rw [nI_clamp (by omega), (e4 j hj).1]
      refine am_run (am_cK _) 7 (show am_wp (am_call (d + 2)) (0, 0) cm_X7_cut Q (fun _ => False) (68, [some (.ref p), some (.int (nI j)), some (.int (nI x)), some (.int (nI (sB σ j x))), some (.int (nI (sZ σ j - 1 - x))), some (.int (nI (rk (sB σ j) (sZ σ j)) >>> ((2 * (nI (sZ σ j - 1 - x) + 1)) &&& 31)))], [], 0, 0) h from ?_)
      have hsm := rk_small hz.2.1 hz.2.2
      have e10 : nI (rk (sB σ j) (sZ σ j)) >>> ((2 * (nI (sZ σ j - 1 - x) + 1)) &&& 31) = nI (rk (sB σ j) (sZ σ j) / 4 ^ (sZ σ j - 1 - x + 1)) := by
        have e1 : (2 : Int32) * nI (sZ σ j - 1 - x + 1) = nI (2 * (sZ σ j - 1 - x + 1)) := pk_mul 2 _
        rw [nI_1, e1, q_shr (by omega) (by omega), ← p4]
      rw [e10]
      refine am_run (am_cK _) 2 (am_obj_in e0 (am_run (am_cK _) 8 (am_obj_in e0 (am_run (am_cK _) 2 (am_rdi_in e1 ⟨vp_in_nI (by omega) (by omega), ?_⟩)))))
      rw [nI_clamp (by omega), (e4 j hj).1]
      refine am_run (am_cK _) 2 (B_mask (by omega) ?_)
      have e11 : nI (rk (sB σ j) (sZ σ j) / 4 ^ (sZ σ j - 1 - x + 1)) <<< ((2 * nI (sZ σ j - 1 - x)) &&& 31) ||| nI (rk (sB σ j) (sZ σ j)) &&& nI (4 ^ (sZ σ j - 1 - x) - 1) = nI (rk (del (sB σ j) x) (sZ σ j - 1)) := by
        have e1 : (2 : Int32) * nI (sZ σ j - 1 - x) = nI (2 * (sZ σ j - 1 - x)) := pk_mul 2 _
        rw [e1, q_shl _ (by omega), p4 (sZ σ j - 1 - x), q_andM, q_or, q_orAdd (Nat.mod_lt _ (Nat.pow_pos (by decide))), ← p4, rk_del hx hz.2.2]
      refine am_run (am_cK _) 3 (am_ari_in e1 ⟨vp_in_nI (by omega) (by omega), ?_⟩)
      rw [nI_clamp (by omega), e11]
      have f0 : (am_set h (p + 1) (aI 5 (upd r j (nI (rk (del (sB σ j) x) (sZ σ j - 1)))))).2 p = cS p (sN σ) (sP σ) := (as_n (by omega)).trans e0
      have f2 : (am_set h (p + 1) (aI 5 (upd r j (nI (rk (del (sB σ j) x) (sZ σ j - 1)))))).2 (p + 2) = aI 5 z := (as_n (by omega)).trans e2
      refine am_run (am_cK _) 2 (am_obj_in f0 (am_run (am_cK _) 3 (am_rdi_in f2 ⟨vp_in_nI (by omega) (by omega), ?_⟩)))
      rw [nI_clamp (by omega), (e4 j hj).2]
      refine am_run (am_cK _) 3 (am_ari_in f2 ⟨vp_in_nI (by omega) (by omega), ?_⟩)
      have e12 : nI (sZ σ j) - 1 = nI (sZ σ j - 1) := pk_sub (a := sZ σ j) (b := 1) (by omega)
      rw [nI_clamp (by omega), e12]
      have hs1 : Sok (setB σ j (sZ σ j - 1) (del (sB σ j) x)) := setB_ok hs (by omega) (by omega) (del_lt hx hz.2.2)
      have hR1 : RS (am_set (am_set h (p + 1) (aI 5 (upd r j (nI (rk (del (sB σ j) x) (sZ σ j - 1)))))) (p + 2) (aI 5 (upd z j (nI (sZ σ j - 1))))) p (setB σ j (sZ σ j - 1) (del (sB σ j) x)) := by
        refine ⟨_, _, kk, (as_n (by omega)).trans f0, (as_n (by omega)).trans as_s, as_s, (as_n (by omega)).trans ((as_n (by omega)).trans e3), fun b' hb' => ?_, e5⟩
        show upd r j _ b' = nI (rk (va_up (sB σ) j (del (sB σ j) x) b') (va_up (sZ σ) j (sZ σ j - 1) b')) ∧ upd z j _ b' = nI (va_up (sZ σ) j (sZ σ j - 1) b')
        by_cases e : b' = j
        · subst e; rw [upd_s, upd_s, am_up_s, am_up_s]; exact ⟨rfl, rfl⟩
        · rw [upd_n e, upd_n e, am_up_n e, am_up_n e]; exact e4 b' hb'
      refine am_run (am_cK _) 4 (am_obj_in ((as_n (by omega)).trans f0) (S_putBack (c := sB σ j x) (n := 1) hR1 hs1 hc4 (by omega) (fun h' ha hR' => ?_)))
      exact am_run (am_cK _) 2 (q h' (((Ag.set (by omega)).trans (Ag.set (by omega))).trans ha) hR')
    · have h1 : sZ σ j = 1 := (nI_eq (b := 1) (by omega) (by omega)).mp (Classical.not_not.mp c)
      rw [if_pos h1] at esp
      exact am_run (am_cK _) 2 (fin _ esp)
theorem S_thread (hR : RS h p σ) (hs : Sok σ) (b i c : Int32) (hQ : ∀ h', Ag p h h' → RS h' p (sThread σ b i c).2 → Q (some (.int (sThread σ b i c).1)) h') : am_call (d + 2) 88 [.ref p, .int b, .int i, .int c] h Q := by
  have hR0 := hR
  obtain ⟨r, z, kk, e0, e1, e2, e3, e4, e5⟩ := hR
  have hN := hs.1
  have fin : ∀ a, sThread σ b i c = (a, σ) → Q (some (.int a)) h := fun a e => by
    have q := hQ h Ag.rf (by rw [e]; exact hR0)
    rw [e] at q
    exact q
  refine en_X7_thread (Nat.le_of_ble_eq_true rfl) (am_run (am_cK _) 3 (am_obj_in e0 (S_lacks hR0 hs b (fun w => ?_) (fun j hj e => ?_))))
  · exact am_run (am_cK _) 1 ⟨fun _ => am_run (am_cK _) 2 (fin _ (by unfold sThread; rw [if_pos w])), fun z => absurd n10 z⟩
  subst e
  have hz := hs.2.1 j hj
  have no : (i < 0 ∨ nI (sZ σ j) < i ∨ c < 0 ∨ 4 ≤ c) → Q (some (.int (-1))) h := fun w => fin _ (by unfold sThread; rw [if_neg (S_no hs hj), nI_clamp (by omega)]; simp only; rw [if_pos w])
  refine am_run (am_cK _) 1 ⟨fun z => absurd rfl z, fun _ => ?_⟩
  refine am_run (am_cK _) 2 ⟨fun w => am_run (am_cK _) 2 (no (Or.inl w)), fun w1 => ?_⟩
  refine am_run (am_cK _) 3 (am_obj_in e0 (am_run (am_cK _) 2 (am_rdi_in e2 ⟨vp_in_nI (by omega) (by omega), ?_⟩)))
  rw [nI_clamp (by omega), (e4 j hj).2]
  refine am_run (am_cK _) 1 ⟨fun w => am_run (am_cK _) 2 (no (Or.inr (Or.inl w))), fun w2 => ?_⟩
  refine am_run (am_cK _) 2 (B_isNoColour c (fun w => ?_) (fun w3 => ?_))
  · exact am_run (am_cK _) 1 ⟨fun z => absurd z n10, fun _ => am_run (am_cK _) 2 (no (Or.inr (Or.inr w)))⟩
  obtain ⟨x, hx31, hx⟩ := nI_of w1
  subst hx
  have hxn : x ≤ sZ σ j := Nat.le_of_not_lt (fun z => w2 ((nI_ltI (by omega) hx31).mpr z))
  obtain ⟨y, hy31, hy⟩ := nI_of (fun z => w3 (Or.inl z))
  subst hy
  have hy4 : y < 4 := Nat.lt_of_not_le (fun z => w3 (Or.inr ((nI_leI (a := 4) (by omega) hy31).mpr z)))
  have hk := hs.2.2.1 y hy4
  have hc1 : ¬ (nI x < 0 ∨ nI (sZ σ j) < nI x ∨ nI y < 0 ∨ 4 ≤ nI y) := by
    rintro (w | w | w | w)
    · exact w1 w
    · exact w2 w
    · exact w3 (Or.inl w)
    · exact w3 (Or.inr w)
  have esp : sThread σ (nI j) (nI x) (nI y) = if 10 ≤ sZ σ j then (-2, σ) else if sK σ y = 0 then (-3, σ) else (nI (sZ σ j + 1), setK (setB σ j (sZ σ j + 1) (ins (sB σ j) x y)) (va_up (sK σ) y (sK σ y - 1))) := by
    unfold sThread
    rw [if_neg (S_no hs hj), nI_clamp (by omega)]
    simp only
    rw [if_neg hc1, nI_clamp hx31, nI_clamp hy31]
  refine am_run (am_cK _) 1 ⟨fun _ => ?_, fun w => absurd rfl w⟩
  refine am_run (am_cK _) 2 (am_obj_in e0 (am_run (am_cK _) 2 (am_rdi_in e2 ⟨vp_in_nI (by omega) (by omega), ?_⟩)))
  rw [nI_clamp (by omega), (e4 j hj).2]
  refine am_run (am_cK _) 2 ⟨fun w => ?_, fun w => ?_⟩
  · have h10 : sZ σ j < 10 := (nI_ltI (b := 10) (by omega) (by omega)).mp w
    rw [if_neg (by omega)] at esp
    refine am_run (am_cK _) 2 (am_obj_in e0 (am_run (am_cK _) 2 (am_rdi_in e3 ⟨vp_in_nI (by omega) (by omega), ?_⟩)))
    rw [nI_clamp (by omega), e5 y hy4]
    refine am_run (am_cK _) 1 ⟨fun w4 => ?_, fun w4 => ?_⟩
    · have hk0 : ¬ sK σ y = 0 := fun z => w4 (by rw [z]; rfl)
      rw [if_neg hk0] at esp
      have q := hQ
      rw [esp] at q
      refine am_run (am_cK _) 2 (am_obj_in e0 (am_run (am_cK _) 2 (am_rdi_in e2 ⟨vp_in_nI (by omega) (by omega), ?_⟩)))
      rw [nI_clamp (by omega), (e4 j hj).2]
      refine am_run (am_cK _) 3 (show am_wp (am_call (d + 1)) (0, 0) cm_X7_thread Q (fun _ => False) (67, [some (.ref p), some (.int (nI j)), some (.int (nI x)), some (.int (nI y)), some (.int (nI (sZ σ j) - nI x)), none], [], 0, 0) h from ?_)
      rw [pk_sub hxn]
      refine am_run (am_cK _) 2 (am_obj_in e0 (am_run (am_cK _) 2 (am_rdi_in e1 ⟨vp_in_nI (by omega) (by omega), ?_⟩)))
      rw [nI_clamp (by omega), (e4 j hj).1]
      have hsm := rk_small hz.2.1 hz.2.2
      refine am_run (am_cK _) 9 (show am_wp (am_call (d + 1)) (0, 0) cm_X7_thread Q (fun _ => False) (84, [some (.ref p), some (.int (nI j)), some (.int (nI x)), some (.int (nI y)), some (.int (nI (sZ σ j - x))), some (.int ((nI (rk (sB σ j) (sZ σ j)) >>> ((2 * nI (sZ σ j - x)) &&& 31)) <<< ((2 : Int32) &&& 31) ||| nI y))], [], 0, 0) h from ?_)
      have e2x : (2 : Int32) * nI (sZ σ j - x) = nI (2 * (sZ σ j - x)) := pk_mul 2 _
      have e10 : (nI (rk (sB σ j) (sZ σ j)) >>> ((2 * nI (sZ σ j - x)) &&& 31)) <<< ((2 : Int32) &&& 31) ||| nI y = nI (rk (sB σ j) (sZ σ j) / 4 ^ (sZ σ j - x) * 4 + y) := by
        have e1 : nI (rk (sB σ j) (sZ σ j) / 2 ^ (2 * (sZ σ j - x))) <<< ((2 : Int32) &&& 31) = nI (rk (sB σ j) (sZ σ j) / 2 ^ (2 * (sZ σ j - x)) * 2 ^ 2) := q_shl _ (k := 2) (by omega)
        rw [e2x, q_shr (by omega) (by omega), e1, q_or, q_orAdd (by omega), ← p4]
      rw [e10]
      refine am_run (am_cK _) 2 (am_obj_in e0 (am_run (am_cK _) 8 (am_obj_in e0 (am_run (am_cK _) 2 (am_rdi_in e1 ⟨vp_in_nI (by omega) (by omega), ?_⟩)))))
      rw [nI_clamp (by omega), (e4 j hj).1]
      refine am_run (am_cK _) 2 (B_mask (by omega) ?_)
      have e11 : nI (rk (sB σ j) (sZ σ j) / 4 ^ (sZ σ j - x) * 4 + y) <<< ((2 * nI (sZ σ j - x)) &&& 31) ||| nI (rk (sB σ j) (sZ σ j)) &&& nI (4 ^ (sZ σ j - x) - 1) = nI (rk (ins (sB σ j) x y) (sZ σ j + 1)) := by
        rw [e2x, q_shl _ (by omega), p4 (sZ σ j - x), q_andM, q_or, q_orAdd (Nat.mod_lt _ (Nat.pow_pos (by decide))), ← p4, rk_ins hxn hz.2.2]
      refine am_run (am_cK _) 3 (am_ari_in e1 ⟨vp_in_nI (by omega) (by omega), ?_⟩)
      rw [nI_clamp (by omega), e11]
      generalize hH : am_set h (p + 1) (aI 5 (upd r j (nI (rk (ins (sB σ j) x y) (sZ σ j + 1))))) = h1
      have f0 : h1.2 p = cS p (sN σ) (sP σ) := by rw [← hH]; exact (as_n (by omega)).trans e0
      have f1 : h1.2 (p + 1) = aI 5 (upd r j (nI (rk (ins (sB σ j) x y) (sZ σ j + 1)))) := by rw [← hH]; exact as_s
      have f2 : h1.2 (p + 2) = aI 5 z := by rw [← hH]; exact (as_n (by omega)).trans e2
      have f3 : h1.2 (p + 3) = aI 4 kk := by rw [← hH]; exact (as_n (by omega)).trans e3
      have ha1 : Ag p h h1 := by rw [← hH]; exact Ag.set (by omega)
      refine am_run (am_cK _) 2 (am_obj_in f0 (am_run (am_cK _) 3 (am_rdi_in f3 ⟨vp_in_nI (by omega) (by omega), ?_⟩)))
      rw [nI_clamp (by omega), e5 y hy4]
      refine am_run (am_cK _) 3 (am_ari_in f3 ⟨vp_in_nI (by omega) (by omega), ?_⟩)
      have e12 : nI (sK σ y) - 1 = nI (sK σ y - 1) := pk_sub (a := sK σ y) (b := 1) (by omega)
      rw [nI_clamp (by omega), e12]
      generalize hH2 : am_set h1 (p + 3) (aI 4 (upd kk y (nI (sK σ y - 1)))) = h2
      have g0 : h2.2 p = cS p (sN σ) (sP σ) := by rw [← hH2]; exact (as_n (by omega)).trans f0
      have g1 : h2.2 (p + 1) = aI 5 (upd r j (nI (rk (ins (sB σ j) x y) (sZ σ j + 1)))) := by rw [← hH2]; exact (as_n (by omega)).trans f1
      have g2 : h2.2 (p + 2) = aI 5 z := by rw [← hH2]; exact (as_n (by omega)).trans f2
      have g3 : h2.2 (p + 3) = aI 4 (upd kk y (nI (sK σ y - 1))) := by rw [← hH2]; exact as_s
      have ha2 : Ag p h h2 := by rw [← hH2]; exact ha1.trans (Ag.set (by omega))
      refine am_run (am_cK _) 2 (am_obj_in g0 (am_run (am_cK _) 3 (am_rdi_in g2 ⟨vp_in_nI (by omega) (by omega), ?_⟩)))
      rw [nI_clamp (by omega), (e4 j hj).2]
      refine am_run (am_cK _) 3 (am_ari_in g2 ⟨vp_in_nI (by omega) (by omega), ?_⟩)
      rw [nI_clamp (by omega), nI_1]
      refine am_run (am_cK _) 2 (am_obj_in ((as_n (by omega)).trans g0) (am_run (am_cK _) 2 (am_rdi_in as_s ⟨vp_in_nI (by omega) (by omega), ?_⟩)))
      rw [nI_clamp (by omega), upd_s]
      refine am_run (am_cK _) 1 (q _ (ha2.trans (Ag.set (by omega))) ?_)
      refine ⟨_, _, _, (as_n (by omega)).trans g0, (as_n (by omega)).trans g1, as_s, (as_n (by omega)).trans g3, fun b' hb' => ?_, fun c' hc' => ?_⟩
      · show upd r j _ b' = nI (rk (va_up (sB σ) j (ins (sB σ j) x y) b') (va_up (sZ σ) j (sZ σ j + 1) b')) ∧ upd z j _ b' = nI (va_up (sZ σ) j (sZ σ j + 1) b')
        by_cases e : b' = j
        · subst e; rw [upd_s, upd_s, am_up_s, am_up_s]; exact ⟨rfl, rfl⟩
        · rw [upd_n e, upd_n e, am_up_n e, am_up_n e]; exact e4 b' hb'
      · show upd kk y (nI (sK σ y - 1)) c' = nI (va_up (sK σ) y (sK σ y - 1) c')
        by_cases e : c' = y
        · rw [e, upd_s, am_up_s]
        · rw [upd_n e, am_up_n e]; exact e5 c' hc'
    · have hk0 : sK σ y = 0 := (nI_eq (b := 0) (by omega) (by omega)).mp (Classical.not_not.mp w4)
      rw [if_pos hk0] at esp
      exact am_run (am_cK _) 2 (fin _ esp)
  · have h10 : 10 ≤ sZ σ j := Nat.le_of_not_lt (fun z => w ((nI_ltI (b := 10) (by omega) (by omega)).mpr z))
    rw [if_pos h10] at esp
    exact am_run (am_cK _) 2 (fin _ esp)
end
