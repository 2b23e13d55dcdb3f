/-- the price of a bracelet, of all -/
def sPrc (L : List Nat) (σ : Sg) (b : Nat) : Nat := prc L (sB σ b) (sZ σ b) (oAl σ b)
def sPrs (L : List Nat) (σ : Sg) : Nat := smf (sPrc L σ) (sN σ)
def sSell (L : List Nat) (σ : Sg) (b : Int32) : Int32 × Sg := if b < 0 ∨ nI (sN σ) ≤ b then (-1, σ) else
  let j := b.toNatClampNeg
  (nI (sPrc L σ j), sDrop (sN σ, sZ σ, sB σ, sK σ, Nat.min 9999 (sP σ + sPrc L σ j)) j)
theorem prc_le (L : List Nat) {f : Nat → Nat} {n a : Nat} (hn : n ≤ 10) : prc L f n a ≤ 99 := by
  unfold prc
  split
  · have := nCl_le f n; omega
  · split
    · exact clp_le 99 _ (by omega)
    · omega
/-- nothing but p .. p + 3 and r .. r + 3 has changed -/
def Ag2 (p r : Nat) (h h' : am_H) : Prop := h'.1 = h.1 ∧ ∀ x, (x < p ∨ p + 4 ≤ x) → (x < r ∨ r + 4 ≤ x) → h'.2 x = h.2 x
section
variable {d : Nat} {h : am_H} {Q : Option Value → am_H → Prop} {p r : Nat} {σ : Sg} {L : List Nat}
theorem S_priceOf (hR : RS h p σ) (hs : Sok σ) (hF : RF h r L) (hC : Cok L) {b : Nat} (hb : b < sN σ) (hQ : ∀ h', AgN r 4 h h' → RF h' r L → Q (some (.int (nI (sPrc L σ b)))) h') : am_call (d + 7) 99 [.ref p, .int (nI b), .ref r] h Q := by
  have hR0 := hR
  obtain ⟨rr, z, k, e0, e1, e2, e3, e4, e5⟩ := hR
  have hN := hs.1
  have hz := hs.2.1 b hb
  obtain ⟨g1, g2, g3, b1, c1, d1, f1, x1, f0, _⟩ := id hF
  refine en_X7_priceOf (Nat.le_of_ble_eq_true rfl) (am_run (am_cK _) 3 (am_obj_in e0 (am_run (am_cK _) 2 (am_rdi_in e1 ⟨vp_in_nI (by omega) (by omega), ?_⟩))))
  rw [nI_clamp (by omega), (e4 b hb).1]
  refine am_run (am_cK _) 2 (am_obj_in e0 (am_run (am_cK _) 2 (am_rdi_in e2 ⟨vp_in_nI (by omega) (by omega), ?_⟩)))
  rw [nI_clamp (by omega), (e4 b hb).2]
  refine am_run (am_cK _) 3 (am_obj_in e0 (S_othersAlike hR0 hs hb (am_run (am_cK _) 1 (am_obj_in f0 (U_price hF hC (by omega) hz.2.1 hz.2.2 (fun h' ha hF' => am_run (am_cK _) 1 (hQ h' ha hF')))))))
theorem S_pricesOfAll (hR : RS h p σ) (hs : Sok σ) (hF : RF h r L) (hC : Cok L) (hpr : p + 4 ≤ r ∨ r + 4 ≤ p) (hQ : ∀ h', AgN r 4 h h' → RF h' r L → Q (some (.int (nI (sPrs L σ)))) h') : am_call (d + 8) 100 [.ref p, .ref r] h Q := by
  have hN := hs.1
  refine en_X7_pricesOfAll (Nat.le_of_ble_eq_true rfl) (am_run (am_cK _) 4 ?_)
  suffices H : ∀ k i h', i + k = sN σ → AgN r 4 h h' → RF h' r L → am_wp (am_call (d + 7)) (0, 0) cm_X7_pricesOfAll Q (fun _ => False) (4, [some (.ref p), some (.ref r), some (.int (nI (smf (sPrc L σ) i))), some (.int (nI i))], [], 0, 0) h' from H (sN σ) 0 h (by omega) AgN.rf hF
  intro k
  induction k with
  | zero =>
    intro i h' hi ha hF'
    have e : i = sN σ := by omega
    subst e
    have e0 : h'.2 p = cS p (sN σ) (sP σ) := (ha.2 _ (by omega)).trans hR.choose_spec.choose_spec.choose_spec.1
    exact am_run (am_cK _) 3 (am_obj_in e0 (am_run (am_cK _) 1 ⟨fun _ => am_run (am_cK _) 2 (hQ h' ha hF'), fun c => absurd (nI_le (Nat.le_refl _) (by omega)) c⟩))
  | succ k ih =>
    intro i h' hi ha hF'
    have hR' : RS h' p σ := RS_fr hR (fun x _ _ => ha.2 x (by omega))
    have e0 : h'.2 p = cS p (sN σ) (sP σ) := (ha.2 _ (by omega)).trans hR.choose_spec.choose_spec.choose_spec.1
    refine am_run (am_cK _) 3 (am_obj_in e0 (am_run (am_cK _) 1 ⟨fun c => absurd c (nI_ge (by omega) (by omega)), fun _ => ?_⟩))
    refine am_run (am_cK _) 5 (am_obj_in e0 (S_priceOf hR' hs hF' hC (by omega) (fun h2 ha2 hF2 => ?_)))
    have zz := ih (i + 1) h2 (by omega) (ha.trans ha2) hF2
    rw [nI_succ, smf, ← nI_add] at zz
    exact am_run (am_cK _) 4 zz
theorem S_sell (hR : RS h p σ) (hs : Sok σ) (hF : RF h r L) (hC : Cok L) (hpr : p + 4 ≤ r ∨ r + 4 ≤ p) (b : Int32) (hQ : ∀ h', Ag2 p r h h' → RS h' p (sSell L σ b).2 → RF h' r L → Q (some (.int (sSell L σ b).1)) h') : am_call (d + 8) 92 [.ref p, .int b, .ref r] h Q := by
  have hR0 := hR
  obtain ⟨rr, z, k, e0, e1, e2, e3, e4, e5⟩ := hR
  have hN := hs.1
  refine en_X7_sell (Nat.le_of_ble_eq_true rfl) (am_run (am_cK _) 3 (am_obj_in e0 (S_lacks hR0 hs b (fun c => ?_) (fun j hj e => ?_))))
  · have q := hQ h ⟨rfl, fun _ _ _ => rfl⟩ (by unfold sSell; rw [if_pos c]; exact hR0) hF
    unfold sSell at q
    rw [if_pos c] at q
    exact am_run (am_cK _) 1 ⟨fun z => absurd z n10, fun _ => am_run (am_cK _) 2 q⟩
  · subst e
    have hz := hs.2.1 j hj
    have hpl : sPrc L σ j ≤ 99 := prc_le L hz.2.1
    have q := hQ
    unfold sSell at q
    rw [if_neg (S_no hs hj), nI_clamp (by omega)] at q
    refine am_run (am_cK _) 1 ⟨fun _ => ?_, fun c => absurd rfl c⟩
    refine am_run (am_cK _) 4 (am_obj_in e0 (S_priceOf hR0 hs hF hC hj (fun h' ha hF' => ?_)))
    have f0 : h'.2 p = cS p (sN σ) (sP σ) := (ha.2 _ (by omega)).trans e0
    refine am_run (am_cK _) 5 (am_obj_in f0 (am_run (am_cK _) 3 (show am_call (d + 7) 325 [.int 9999, .int (nI (sP σ) + nI (sPrc L σ j))] h' _ from ?_)))
    rw [nI_add]
    have hP := hs.2.2.2
    refine J_min (a := 9999) (by omega) (by omega) (am_run (am_cK _) 1 (am_obj_in f0 ?_))
    have hR2 : RS (am_set h' p (cS p (sN σ) (Nat.min 9999 (sP σ + sPrc L σ j)))) p (sN σ, sZ σ, sB σ, sK σ, Nat.min 9999 (sP σ + sPrc L σ j)) := ⟨rr, z, k, as_s, (as_n (by omega)).trans ((ha.2 _ (by omega)).trans e1), (as_n (by omega)).trans ((ha.2 _ (by omega)).trans e2), (as_n (by omega)).trans ((ha.2 _ (by omega)).trans e3), e4, e5⟩
    have hs2 : Sok (sN σ, sZ σ, sB σ, sK σ, Nat.min 9999 (sP σ + sPrc L σ j)) := ⟨hs.1, hs.2.1, hs.2.2.1, Nat.min_le_left _ _⟩
    refine am_run (am_cK _) 3 (am_obj_in as_s (S_drop hR2 hs2 hj (fun h2 ha2 hR3 => am_run (am_cK _) 2 (q h2 ⟨ha2.1.trans ha.1, fun x hx hx2 => (ha2.2 x hx).trans ((as_n (by omega)).trans (ha.2 x hx2))⟩ hR3 (RF_fr hF' (fun x _ _ => (ha2.2 x (by omega)).trans (as_n (by omega))))))))
theorem sRoll_ok (hs : Sok σ) (b k : Int32) : Sok (sRoll σ b k).2 := by
  unfold sRoll
  split
  · exact hs
  · rename_i hc
    obtain ⟨j, hj, rfl⟩ := nI_of (fun z => hc (Or.inl z))
    rw [nI_clamp hj]
    have hN := hs.1
    have hjN : j < sN σ := Nat.lt_of_not_le (fun z => hc (Or.inr (Or.inl ((nI_leI (by omega) hj).mpr z))))
    have hz := hs.2.1 j hjN
    exact setB_ok hs hz.1 hz.2.1 (rol_lt hz.2.2)
/-- a bracelet's number -/
theorem S_num {b : Int32} (hs : Sok σ) (hc : ¬ (b < 0 ∨ nI (sN σ) ≤ b)) : ∃ j, j < sN σ ∧ b = nI j := by
  have hN := hs.1
  obtain ⟨j, hj, rfl⟩ := nI_of (fun z => hc (Or.inl z))
  exact ⟨j, Nat.lt_of_not_le (fun z => hc (Or.inr ((nI_leI (by omega) hj).mpr z))), rfl⟩
theorem sFlip_ok (hs : Sok σ) (b : Int32) : Sok (sFlip σ b).2 := by
  unfold sFlip
  split
  · exact hs
  · rename_i hc
    obtain ⟨j, hjN, rfl⟩ := S_num hs hc
    have hN := hs.1
    rw [nI_clamp (by omega)]
    have hz := hs.2.1 j hjN
    exact setB_ok hs hz.1 hz.2.1 (flp_lt hz.2.2)
theorem S_num2 {i : Int32} {n : Nat} (hn : n < 2 ^ 31) (hc : ¬ (i < 0 ∨ nI n ≤ i)) : ∃ x, x < n ∧ i = nI x := by
  obtain ⟨j, hj, rfl⟩ := nI_of (fun z => hc (Or.inl z))
  exact ⟨j, Nat.lt_of_not_le (fun z => hc (Or.inr ((nI_leI hn hj).mpr z))), rfl⟩
theorem sSwap_ok (hs : Sok σ) (b i : Int32) : Sok (sSwap σ b i).2 := by
  unfold sSwap
  split
  · exact hs
  · rename_i hc
    obtain ⟨j, hjN, rfl⟩ := S_num hs hc
    have hN := hs.1
    have hz := hs.2.1 j hjN
    simp only [nI_clamp (show j < 2 ^ 31 by omega)]
    split
    · exact hs
    · rename_i hi
      obtain ⟨x, hx, rfl⟩ := S_num2 (by omega) hi
      simp only [nI_clamp (show x < 2 ^ 31 by omega)]
      split
      · exact hs
      · exact setB_ok hs hz.1 hz.2.1 (swp_lt hx hz.2.2)
theorem up_le {k : Nat → Nat} {c x : Nat} (hk : ∀ c, c < 4 → k c ≤ 99) (hx : x ≤ 99) : ∀ c', c' < 4 → va_up k c x c' ≤ 99 := fun c' hc' => by
  by_cases e : c' = c
  · rw [e, am_up_s]; exact hx
  · rw [am_up_n e]; exact hk c' hc'
theorem sThread_ok (hs : Sok σ) (b i c : Int32) : Sok (sThread σ b i c).2 := by
  unfold sThread
  split
  · exact hs
  · rename_i hc
    obtain ⟨j, hjN, rfl⟩ := S_num hs hc
    have hN := hs.1
    have hz := hs.2.1 j hjN
    simp only [nI_clamp (show j < 2 ^ 31 by omega)]
    split
    · exact hs
    · rename_i hi
      obtain ⟨x, hx, rfl⟩ := nI_of (fun z => hi (Or.inl z))
      have hxz : x ≤ sZ σ j := Nat.le_of_not_lt (fun z => hi (Or.inr (Or.inl ((nI_ltI (by omega) hx).mpr z))))
      obtain ⟨y, hy, rfl⟩ := S_num2 (n := 4) (by omega) (fun z => hi (Or.inr (Or.inr z)))
      simp only [nI_clamp hx, nI_clamp (show y < 2 ^ 31 by omega)]
      split
      · exact hs
      · split
        · exact hs
        · have hky := hs.2.2.1 y hy
          exact setK_ok (setB_ok hs (by omega) (by omega) (ins_lt hxz hy hz.2.2)) (up_le hs.2.2.1 (by omega))
theorem sCut_ok (hs : Sok σ) (b i : Int32) : Sok (sCut σ b i).2 := by
  unfold sCut
  split
  · exact hs
  · rename_i hc
    obtain ⟨j, hjN, rfl⟩ := S_num hs hc
    have hN := hs.1
    have hz := hs.2.1 j hjN
    simp only [nI_clamp (show j < 2 ^ 31 by omega)]
    split
    · exact hs
    · rename_i hi
      obtain ⟨x, hx, rfl⟩ := S_num2 (by omega) hi
      simp only [nI_clamp (show x < 2 ^ 31 by omega)]
      split
      · exact hs
      · exact setK_ok (setB_ok hs (by omega) (by omega) (del_lt hx hz.2.2)) (up_le hs.2.2.1 (Nat.min_le_left _ _))
theorem sJoin_ok (hs : Sok σ) (b o : Int32) : Sok (sJoin σ b o).2 := by
  unfold sJoin
  split
  · exact hs
  · rename_i hc
    have hN := hs.1
    obtain ⟨j, hjN, rfl⟩ := S_num hs (fun z => hc (z.elim Or.inl (fun z => Or.inr (Or.inl z))))
    obtain ⟨k, hkN, rfl⟩ := S_num hs (fun z => hc (Or.inr (Or.inr (z.elim Or.inl (fun z => Or.inr (Or.inl z))))))
    have hz := hs.2.1 j hjN
    have hz2 := hs.2.1 k hkN
    simp only [nI_clamp (show j < 2 ^ 31 by omega), nI_clamp (show k < 2 ^ 31 by omega)]
    split
    · exact hs
    · exact sDrop_ok (setB_ok hs (by omega) (by omega) (app_lt hz.2.2 hz2.2.2)) hkN
theorem sPart_ok (hs : Sok σ) (b : Int32) : Sok (sPart σ b).2 := by
  unfold sPart
  split
  · exact hs
  · rename_i hc
    have hN := hs.1
    obtain ⟨j, hjN, rfl⟩ := S_num hs hc
    simp only [nI_clamp (show j < 2 ^ 31 by omega)]
    exact sDrop_ok (setK_ok hs (fun c hc => by show (if c < 4 then _ else _) ≤ 99; rw [if_pos hc]; exact Nat.min_le_left _ _)) hjN
theorem sSell_ok (hs : Sok σ) (L : List Nat) (b : Int32) : Sok (sSell L σ b).2 := by
  unfold sSell
  split
  · exact hs
  · rename_i hc
    have hN := hs.1
    obtain ⟨j, hjN, rfl⟩ := S_num hs hc
    simp only [nI_clamp (show j < 2 ^ 31 by omega)]
    exact sDrop_ok (σ := (sN σ, sZ σ, sB σ, sK σ, Nat.min 9999 (sP σ + sPrc L σ j))) ⟨hs.1, hs.2.1, hs.2.2.1, Nat.min_le_left _ _⟩ hjN
theorem sBuy_ok (hs : Sok σ) (c n : Int32) : Sok (sBuy σ c n).2 := by
  unfold sBuy
  split
  · exact hs
  · rename_i hc
    simp only
    split
    · exact hs
    · split
      · exact hs
      · rename_i h1 h2
        have hP := hs.2.2.2
        exact ⟨hs.1, hs.2.1, up_le hs.2.2.1 (by omega), by show sP σ - _ ≤ 9999; omega⟩
theorem sStr_ok (hs : Sok σ) {f : Nat → Nat} {n : Nat} (h1 : 1 ≤ n) (hn : n ≤ 10) (hf : ∀ i, i < n → f i < 4) : Sok (sStr σ f n).2 := by
  unfold sStr
  split
  · exact hs
  · split
    · exact hs
    · rename_i hN _
      refine ⟨by show sN σ + 1 ≤ 5; omega, fun b hb => ?_, fun c hc => ?_, hs.2.2.2⟩
      · show 1 ≤ va_up (sZ σ) (sN σ) n b ∧ va_up (sZ σ) (sN σ) n b ≤ 10 ∧ ∀ i, i < va_up (sZ σ) (sN σ) n b → va_up (sB σ) (sN σ) f b i < 4
        by_cases e : b = sN σ
        · rw [e, am_up_s, am_up_s]; exact ⟨h1, hn, hf⟩
        · rw [am_up_n e, am_up_n e]
          have hb' : b < sN σ + 1 := hb
          exact hs.2.1 b (by omega)
      · show (if c < 4 then sK σ c - num f n c else sK σ c) ≤ 99
        have := hs.2.2.1 c hc
        split <;> omega
theorem sSheet_ok (hs : Sok σ) (kind n f step : Int32) : Sok (sSheet σ kind n f step) := setK_ok hs (fun c _ => by
  show (if nI c < n then clp 99 _ else 0) ≤ 99
  split
  · exact clp_le 99 _ (by omega)
  · omega)
end
