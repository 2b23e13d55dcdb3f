def frm (s : Nat) : Nat := if s = 114 ∨ s = 120 ∨ s = 99 ∨ s = 106 then 1 else if s = 102 ∨ s = 117 ∨ s = 115 then 2 else if s = 116 then 3 else if s = 98 then 4 else 0
def ftl (k : Nat) : Nat := [0, 2, 1, 3, 2].getD k 0
def ftc (k j : Nat) : Nat := ([[], [100, 100], [100], [100, 100, 108], [108, 112]].getD k []).getD j 0
def sut (x c : Nat) : Bool := if c = 108 then decide (97 ≤ x ∧ x ≤ 100) else decide ((if c = 112 then 49 else 48) ≤ x ∧ x ≤ 57)
theorem txt_len : ∀ k, k < 5 → (am_txt k).length = ftl k ∧ ftl k ≤ 3 := by decide
theorem txt_at : ∀ k, k < 5 → ∀ j, j < ftl k → (am_txt k).getD j 0 = nI (ftc k j) ∧ ftc k j < 256 := by decide
theorem frm_sw : ∀ s, s < 256 → am_tsw 1 119 98 120 #[116, 107, 119, 119, 110, 119, 119, 119, 107, 119, 119, 119, 119, 119, 119, 119, 107, 110, 113, 110, 119, 119, 107] (nI s) = [120, 108, 111, 114, 117].getD (frm s) 0 := by decide +kernel
theorem frm_lt (s : Nat) : frm s < 5 := by
  unfold frm
  split
  · omega
  · split
    · omega
    · split
      · omega
      · split <;> omega
/-- signs of a day: a fault's place, or the form that is under way and how far -/
def dyL (tx : Nat → Nat) : Nat → Nat → Nat → Nat → Nat × Option (Nat × Nat)
  | 0, i, fm, at_ => (i, some (fm, at_))
  | k + 1, i, fm, at_ => if at_ < ftl fm then (if sut (tx i) (ftc fm at_) then dyL tx k (i + 1) fm (at_ + 1) else (i, none)) else if frm (tx i) = 0 then (i, none) else dyL tx k (i + 1) (frm (tx i)) 0
def dyF (tx : Nat → Nat) (n : Nat) : Option Nat := match dyL tx (Nat.min n 60) 0 0 0 with
  | (i, none) => some i
  | (_, some (fm, at_)) => if 60 < n then some 60 else if at_ < ftl fm then some (Nat.min n 60) else none
def sgn (tx : Nat → Nat) (n i : Nat) : Nat := if i < n then tx i else 0
def tld (s : Nat) : Int32 := if 97 ≤ s then nI (s - 97) else nI s - 48
/-- an act of a day -/
def dAct (L : List Nat) (tx : Nat → Nat) (n p : Nat) (σ : Sg) : Int32 × Sg :=
  if sgn tx n p = 114 then sRoll σ (tld (sgn tx n (p + 1))) (tld (sgn tx n (p + 2))) else if sgn tx n p = 102 then sFlip σ (tld (sgn tx n (p + 1))) else if sgn tx n p = 120 then sSwap σ (tld (sgn tx n (p + 1))) (tld (sgn tx n (p + 2))) else if sgn tx n p = 116 then sThread σ (tld (sgn tx n (p + 1))) (tld (sgn tx n (p + 2))) (tld (sgn tx n (p + 3))) else if sgn tx n p = 99 then sCut σ (tld (sgn tx n (p + 1))) (tld (sgn tx n (p + 2))) else if sgn tx n p = 106 then sJoin σ (tld (sgn tx n (p + 1))) (tld (sgn tx n (p + 2))) else if sgn tx n p = 117 then sPart σ (tld (sgn tx n (p + 1))) else if sgn tx n p = 115 then sSell L σ (tld (sgn tx n (p + 1))) else sBuy σ (tld (sgn tx n (p + 1))) (tld (sgn tx n (p + 2)))
theorem act_sw : ∀ s, s < 256 → am_tsw 29 180 99 120 #[147, 180, 180, 112, 180, 180, 180, 156, 180, 180, 180, 180, 180, 180, 180, 103, 172, 128, 165, 180, 180, 119] (nI s) = if s = 114 then 132 else if s = 102 then 141 else if s = 120 then 148 else if s = 116 then 157 else if s = 99 then 176 else if s = 106 then 185 else if s = 117 then 194 else if s = 115 then 201 else 209 := by decide +kernel
section
variable {d : Nat} {h : am_H} {Q : Option Value → am_H → Prop} {t n : Nat} {tx : Nat → Nat} {wd wz : Int32}
theorem J_len {i : Nat} (hi : i < 16) (hQ : Q (some (.int (nI (am_txt i).length))) h) : am_call (d + 7) 901 [.ref i] h Q := am_prim_in (by decide) ⟨hi, Nat.le_add_left _ _, hQ⟩
theorem J_chr {i j : Nat} (hi : i < 16) (hj : j < (am_txt i).length) (hl : (am_txt i).length < 2 ^ 31) (hQ : Q (some (.int ((am_txt i).getD j 0))) h) : am_call (d + 7) 902 [.ref i, .int (nI j)] h Q := am_prim_in (by decide) ⟨hi, Nat.le_add_left _ _, vp_in_nI hj (by omega), by rw [nI_clamp (by omega)]; exact hQ⟩
theorem J_emp {i : Nat} (hi : i < 16) (hQ : Q (some (.int (if (am_txt i).length = 0 then 1 else 0))) h) : am_call (d + 7) 903 [.ref i] h Q := am_prim_in (by decide) ⟨hi, Nat.le_add_left _ _, hQ⟩
theorem T_signN (hT : RT h t n tx wd wz) {i : Nat} (hi : i < 2 ^ 31) (hQ : Q (some (.int (nI (sgn tx n i)))) h) : am_call (d + 1) 105 [.ref t, .int (nI i)] h Q := by
  have hn := hT.2.1
  refine T_signAt hT (nI i) (fun c => ?_) (fun j hj ej => ?_)
  · have hc : n ≤ i := by
      rcases c with c | c
      · exact absurd c (nI_pos hi)
      · exact (nI_leI (by omega) hi).mp c
    rw [show sgn tx n i = 0 from if_neg (by omega)] at hQ
    exact hQ
  · have e : i = j := (nI_eq hi (by omega)).mp ej
    subst e
    rw [show sgn tx n i = tx i from if_pos hj] at hQ
    exact hQ
theorem Y_form {s : Nat} (hs : s < 256) (hQ : Q (some (.ref (frm s))) h) : am_call (d + 1) 45 [.int (nI s)] h Q := by
  refine en_X3_form (Nat.le_of_ble_eq_true rfl) (am_run (am_cK _) 2 ?_)
  refine (show am_wp _ _ cm_X3_form _ _ (am_tsw 1 119 98 120 #[116, 107, 119, 119, 110, 119, 119, 119, 107, 119, 119, 119, 119, 119, 119, 119, 107, 110, 113, 110, 119, 119, 107] (nI s), _, _, _, _) h from ?_)
  rw [frm_sw s hs]
  have hf := frm_lt s
  generalize frm s = k at hf hQ ⊢
  rcases (by omega : k = 0 ∨ k = 1 ∨ k = 2 ∨ k = 3 ∨ k = 4) with e | e | e | e | e <;> subst e <;> exact am_run (am_cK _) 2 hQ
theorem Y_suits {x c : Nat} (hx : x < 256) (hc : c < 256) (hQ : Q (some (.int (bI (sut x c)))) h) : am_call (d + 1) 46 [.int (nI x), .int (nI c)] h Q := by
  have no : sut x c = false → Q (some (.int 0)) h := fun z => by rw [z] at hQ; exact hQ
  have yes : sut x c = true → Q (some (.int 1)) h := fun z => by rw [z] at hQ; exact hQ
  have lt : ∀ k, k < 256 → (nI x < nI k ↔ x < k) := fun k hk => nI_ltI (by omega) (by omega)
  have gt : ∀ k, k < 256 → (nI k < nI x ↔ k < x) := fun k hk => nI_ltI (by omega) (by omega)
  refine en_X3_suits (Nat.le_of_ble_eq_true rfl) (am_run (am_cK _) 3 ⟨fun z => ?_, fun z => ?_⟩)
  · have c1 : ¬ c = 108 := fun w => z (by rw [w]; rfl)
    have fin : ∀ m, (m = 49 ∨ m = 48) → m = (if c = 112 then 49 else 48) → ¬ x < m → am_wp (am_call d) (0, 0) cm_X3_suits Q (fun _ => False) (41, [some (.int (nI x)), some (.int (nI c))], [], 0, 0) h := by
      intro m _ hm hxm
      refine am_run (am_cK _) 3 ⟨fun w => ?_, fun w => ?_⟩
      · have w' := (gt 57 (by omega)).mp w
        exact am_run (am_cK _) 2 ⟨Or.inl rfl, no (by unfold sut; rw [if_neg c1, ← hm]; exact decide_eq_false (by omega))⟩
      · have w' : ¬ 57 < x := fun q => w ((gt 57 (by omega)).mpr q)
        exact am_run (am_cK _) 3 ⟨Or.inr rfl, yes (by unfold sut; rw [if_neg c1, ← hm]; exact decide_eq_true ⟨by omega, by omega⟩)⟩
    refine am_run (am_cK _) 4 ⟨fun z => ?_, fun z => ?_⟩
    · have c2 : ¬ c = 112 := fun w => z (by rw [w]; rfl)
      refine am_run (am_cK _) 2 ⟨fun w => ?_, fun w => fin 48 (Or.inr rfl) (if_neg c2).symm (fun q => w ((lt 48 (by omega)).mpr q))⟩
      have w' := (lt 48 (by omega)).mp w
      exact am_run (am_cK _) 2 ⟨Or.inl rfl, no (by unfold sut; rw [if_neg c1, if_neg c2]; exact decide_eq_false (by omega))⟩
    · have c2 : c = 112 := (nI_eq (b := 112) (by omega) (by omega)).mp (Classical.not_not.mp z)
      refine am_run (am_cK _) 3 ⟨fun w => ?_, fun w => fin 49 (Or.inl rfl) (if_pos c2).symm (fun q => w ((lt 49 (by omega)).mpr q))⟩
      have w' := (lt 49 (by omega)).mp w
      exact am_run (am_cK _) 2 ⟨Or.inl rfl, no (by unfold sut; rw [if_neg c1, if_pos c2]; exact decide_eq_false (by omega))⟩
  · have c1 : c = 108 := (nI_eq (b := 108) (by omega) (by omega)).mp (Classical.not_not.mp z)
    refine am_run (am_cK _) 3 ⟨fun w => ?_, fun w => ?_⟩
    · have w' := (lt 97 (by omega)).mp w
      exact am_run (am_cK _) 2 ⟨Or.inl rfl, no (by unfold sut; rw [if_pos c1]; exact decide_eq_false (by omega))⟩
    · have w' : ¬ x < 97 := fun q => w ((lt 97 (by omega)).mpr q)
      refine am_run (am_cK _) 3 ⟨fun w2 => ?_, fun w2 => ?_⟩
      · have w2' := (gt 100 (by omega)).mp w2
        exact am_run (am_cK _) 2 ⟨Or.inl rfl, no (by unfold sut; rw [if_pos c1]; exact decide_eq_false (by omega))⟩
      · have w2' : ¬ 100 < x := fun q => w2 ((gt 100 (by omega)).mpr q)
        exact am_run (am_cK _) 3 ⟨Or.inr rfl, yes (by unfold sut; rw [if_pos c1]; exact decide_eq_true ⟨by omega, by omega⟩)⟩
theorem Y_told {s : Nat} (hs : s < 2 ^ 31) (hQ : Q (some (.int (tld s))) h) : am_call (d + 1) 47 [.int (nI s)] h Q := by
  unfold tld at hQ
  refine en_X3_told (Nat.le_of_ble_eq_true rfl) (am_run (am_cK _) 3 ⟨fun c => ?_, fun c => ?_⟩)
  · have hc : s < 97 := (nI_ltI (b := 97) hs (by omega)).mp c
    rw [if_neg (by omega)] at hQ
    exact am_run (am_cK _) 4 hQ
  · have hc : 97 ≤ s := Nat.le_of_not_lt (fun z => c ((nI_ltI (b := 97) hs (by omega)).mpr z))
    rw [if_pos hc, ← pk_sub hc] at hQ
    exact am_run (am_cK _) 5 hQ
theorem Y_fault (hT : RT h t n tx wd wz) (h1 : ∀ f, dyF tx n = some f → f ≤ 60 → Q (some (.int (nI f))) h) (h2 : dyF tx n = none → Q (some (.int (-1))) h) : am_call (d + 8) 44 [.ref t] h Q := by
  have hn80 := hT.2.1
  have htx : ∀ i, i < n → tx i < 256 := by
    obtain ⟨_, _, g, _, z⟩ := hT
    exact fun i hi => (z i hi).2
  have hmin : Nat.min n 60 ≤ n ∧ Nat.min n 60 ≤ 60 := ⟨Nat.min_le_left _ _, Nat.min_le_right _ _⟩
  refine en_X3_fault (Nat.le_of_ble_eq_true rfl) (am_run (am_cK _) 6 (am_obj_in hT.1 (T_size hT (am_run (am_cK _) 2 (J_min (b := 60) (by omega) (by omega) (am_run (am_cK _) 3 ?_))))))
  suffices H : ∀ k i fm a x, i + k = Nat.min n 60 → fm < 5 → a ≤ 3 → dyL tx (Nat.min n 60) 0 0 0 = dyL tx k i fm a → am_wp (am_call (d + 7)) (0, 0) cm_X3_fault Q (fun _ => False) (18, [some (.ref t), some (.ref fm), some (.int (nI a)), some (.int (nI (Nat.min n 60))), some (.int (nI i)), x], [], 0, 0) h from
    H (Nat.min n 60) 0 0 0 none (by omega) (by omega) (by omega) rfl
  intro k
  induction k with
  | zero =>
    intro i fm a x hi hfm ha hL
    have hlen := txt_len fm hfm
    have hF : dyF tx n = if 60 < n then some 60 else if a < ftl fm then some (Nat.min n 60) else none := by unfold dyF; rw [hL]; rfl
    refine am_run (am_cK _) 3 ⟨fun _ => ?_, fun c => absurd (nI_le (by omega) (by omega)) c⟩
    refine am_run (am_cK _) 2 (am_obj_in hT.1 (T_size hT (am_run (am_cK _) 2 ⟨fun c => ?_, fun c => ?_⟩)))
    · have hn60 : n ≤ 60 := (nI_leI (b := 60) (by omega) (by omega)).mp c
      rw [if_neg (by omega)] at hF
      refine am_run (am_cK _) 3 ⟨show fm < 16 by omega, Nat.le_add_left _ _, ?_⟩
      rw [hlen.1]
      refine am_run (am_cK _) 1 ⟨fun c => ?_, fun c => ?_⟩
      · have hc : ftl fm ≤ a := (nI_leI (by omega) (by omega)).mp c
        rw [if_neg (by omega)] at hF
        exact am_run (am_cK _) 2 (h2 hF)
      · have hc : a < ftl fm := Nat.lt_of_not_le (fun z => c ((nI_leI (by omega) (by omega)).mpr z))
        rw [if_pos hc] at hF
        exact am_run (am_cK _) 3 (h1 _ hF (by omega))
    · have hn60 : 60 < n := Nat.lt_of_not_le (fun z => c ((nI_leI (b := 60) (by omega) (by omega)).mpr z))
      rw [if_pos hn60] at hF
      exact am_run (am_cK _) 2 (h1 60 hF (Nat.le_refl _))
  | succ k ih =>
    intro i fm a x hi hfm ha hL
    have hlen := txt_len fm hfm
    have hin : i < n := by omega
    have hti := htx i hin
    rw [dyL] at hL
    refine am_run (am_cK _) 3 ⟨fun c => absurd c (nI_ge (by omega) (by omega)), fun _ => ?_⟩
    refine am_run (am_cK _) 3 (am_obj_in hT.1 (T_signN hT (by omega) ?_))
    rw [show sgn tx n i = tx i from if_pos hin]
    refine am_run (am_cK _) 4 ⟨show fm < 16 by omega, Nat.le_add_left _ _, ?_⟩
    rw [hlen.1]
    refine am_run (am_cK _) 1 ⟨fun c => ?_, fun c => ?_⟩
    · have hc : ¬ a < ftl fm := fun z => nI_ge z (by omega) c
      rw [if_neg hc] at hL
      refine am_run (am_cK _) 2 (Y_form hti ?_)
      have hf5 := frm_lt (tx i)
      have hl2 := txt_len _ hf5
      refine am_run (am_cK _) 5 ⟨show frm (tx i) < 16 by omega, Nat.le_add_left _ _, ?_⟩
      rw [hl2.1]
      by_cases hz : frm (tx i) = 0
      · rw [if_pos hz] at hL
        rw [hz, if_pos (by decide)]
        have hF : dyF tx n = some i := by unfold dyF; rw [hL]
        exact am_run (am_cK _) 1 ⟨fun w => absurd w n10, fun _ => am_run (am_cK _) 2 (h1 i hF (by omega))⟩
      · rw [if_neg hz] at hL
        have hne : ¬ ftl (frm (tx i)) = 0 := (by decide : ∀ k, k < 5 → ¬ k = 0 → ¬ ftl k = 0) _ hf5 hz
        rw [if_neg hne]
        have zz := ih (i + 1) (frm (tx i)) 0 (some (.int (nI (tx i)))) (by omega) hf5 (by omega) hL
        rw [nI_succ] at zz
        exact am_run (am_cK _) 1 ⟨fun _ => am_run (am_cK _) 2 zz, fun w => absurd rfl w⟩
    · have hc : a < ftl fm := Nat.lt_of_not_le (fun z => c ((nI_leI (by omega) (by omega)).mpr z))
      rw [if_pos hc] at hL
      have hat := txt_at fm hfm a hc
      refine am_run (am_cK _) 4 ⟨show fm < 16 by omega, Nat.le_add_left _ _, vp_in_nI (by omega) (by omega), ?_⟩
      rw [nI_clamp (by omega), hat.1]
      refine am_run (am_cK _) 1 (Y_suits hti hat.2 ?_)
      cases hs : sut (tx i) (ftc fm a) with
      | false =>
        rw [hs] at hL
        have hF : dyF tx n = some i := by unfold dyF; rw [hL]; rfl
        exact am_run (am_cK _) 1 ⟨fun w => absurd rfl w, fun _ => am_run (am_cK _) 2 (h1 i hF (by omega))⟩
      | true =>
        rw [hs, if_pos rfl] at hL
        have zz := ih (i + 1) fm (a + 1) (some (.int (nI (tx i)))) (by omega) hfm (by omega) hL
        rw [nI_succ, nI_succ] at zz
        exact am_run (am_cK _) 1 ⟨fun _ => am_run (am_cK _) 4 zz, fun w => absurd n10 w⟩
theorem Y_act {q r p : Nat} {σ : Sg} {L : List Nat} (hT : RT h t n tx wd wz) (hR : RS h q σ) (hs : Sok σ) (hF : RF h r L) (hC : Cok L) (hqr : q + 4 ≤ r ∨ r + 4 ≤ q) (hp : p < n) (hQ : ∀ h', Ag2 q r h h' → RS h' q (dAct L tx n p σ).2 → RF h' r L → Q (some (.int (dAct L tx n p σ).1)) h') : am_call (d + 9) 48 [.ref t, .int (nI p), .ref q, .ref r] h Q := by
  have hn80 := hT.2.1
  have htx : ∀ i, i < n → tx i < 256 := by
    obtain ⟨_, _, g, _, z⟩ := hT
    exact fun i hi => (z i hi).2
  have hsl : ∀ i, sgn tx n i < 256 := fun i => by
    unfold sgn
    split
    · rename_i hi; exact htx i hi
    · omega
  obtain ⟨rr, z, k, e0, _⟩ := id hR
  have e1 : nI p + 1 = nI (p + 1) := nI_add p 1
  have e2 : nI p + 2 = nI (p + 2) := nI_add p 2
  have e3 : nI p + 3 = nI (p + 3) := nI_add p 3
  have fr : ∀ h', Ag q h h' → Ag2 q r h h' ∧ RF h' r L := fun h' ha => ⟨⟨ha.1, fun x hx _ => ha.2 x hx⟩, RF_fr hF (fun x _ _ => ha.2 x (by omega))⟩
  unfold dAct at hQ
  refine en_X3_act (Nat.le_of_ble_eq_true rfl) (am_run (am_cK _) 5 (am_obj_in hT.1 (show am_call (d + 8) 105 [.ref t, .int (nI p + 1)] h _ from ?_)))
  rw [e1]
  refine T_signN hT (by omega) (am_run (am_cK _) 1 (Y_told (by have := hsl (p + 1); omega) ?_))
  refine am_run (am_cK _) 6 (am_obj_in hT.1 (show am_call (d + 8) 105 [.ref t, .int (nI p + 2)] h _ from ?_))
  rw [e2]
  refine T_signN hT (by omega) (am_run (am_cK _) 1 (Y_told (by have := hsl (p + 2); omega) ?_))
  refine am_run (am_cK _) 4 (am_obj_in hT.1 (T_signN hT (by omega) (am_run (am_cK _) 1 ?_)))
  refine (show am_wp _ _ cm_X3_act _ _ (am_tsw 29 180 99 120 #[147, 180, 180, 112, 180, 180, 180, 156, 180, 180, 180, 180, 180, 180, 180, 103, 172, 128, 165, 180, 180, 119] (nI (sgn tx n p)), _, _, _, _) h from ?_)
  rw [act_sw _ (hsl p)]
  by_cases c1 : sgn tx n p = 114
  · rw [if_pos c1] at hQ ⊢
    exact am_run (am_cK _) 4 (am_obj_in e0 (S_roll hR hs _ _ (fun h' ha hR' => am_run (am_cK _) 1 (hQ h' (fr h' ha).1 hR' (fr h' ha).2))))
  rw [if_neg c1] at hQ ⊢
  by_cases c2 : sgn tx n p = 102
  · rw [if_pos c2] at hQ ⊢
    exact am_run (am_cK _) 3 (am_obj_in e0 (S_flip hR hs _ (fun h' ha hR' => am_run (am_cK _) 1 (hQ h' (fr h' ha).1 hR' (fr h' ha).2))))
  rw [if_neg c2] at hQ ⊢
  by_cases c3 : sgn tx n p = 120
  · rw [if_pos c3] at hQ ⊢
    exact am_run (am_cK _) 4 (am_obj_in e0 (S_swap hR hs _ _ (fun h' ha hR' => am_run (am_cK _) 1 (hQ h' (fr h' ha).1 hR' (fr h' ha).2))))
  rw [if_neg c3] at hQ ⊢
  by_cases c4 : sgn tx n p = 116
  · rw [if_pos c4] at hQ ⊢
    refine am_run (am_cK _) 8 (am_obj_in hT.1 (show am_call (d + 8) 105 [.ref t, .int (nI p + 3)] h _ from ?_))
    rw [e3]
    refine T_signN hT (by omega) (am_run (am_cK _) 1 (Y_told (by have := hsl (p + 3); omega) ?_))
    exact am_run (am_cK _) 1 (am_obj_in e0 (S_thread hR hs _ _ _ (fun h' ha hR' => am_run (am_cK _) 1 (hQ h' (fr h' ha).1 hR' (fr h' ha).2))))
  rw [if_neg c4] at hQ ⊢
  by_cases c5 : sgn tx n p = 99
  · rw [if_pos c5] at hQ ⊢
    exact am_run (am_cK _) 4 (am_obj_in e0 (S_cut hR hs _ _ (fun h' ha hR' => am_run (am_cK _) 1 (hQ h' (fr h' ha).1 hR' (fr h' ha).2))))
  rw [if_neg c5] at hQ ⊢
  by_cases c6 : sgn tx n p = 106
  · rw [if_pos c6] at hQ ⊢
    exact am_run (am_cK _) 4 (am_obj_in e0 (S_join hR hs _ _ (fun h' ha hR' => am_run (am_cK _) 1 (hQ h' (fr h' ha).1 hR' (fr h' ha).2))))
  rw [if_neg c6] at hQ ⊢
  by_cases c7 : sgn tx n p = 117
  · rw [if_pos c7] at hQ ⊢
    exact am_run (am_cK _) 3 (am_obj_in e0 (S_part hR hs _ (fun h' ha hR' => am_run (am_cK _) 1 (hQ h' (fr h' ha).1 hR' (fr h' ha).2))))
  rw [if_neg c7] at hQ ⊢
  by_cases c8 : sgn tx n p = 115
  · rw [if_pos c8] at hQ ⊢
    exact am_run (am_cK _) 4 (am_obj_in e0 (S_sell hR hs hF hC hqr _ (fun h' ha hR' hF' => am_run (am_cK _) 1 (hQ h' ha hR' hF'))))
  rw [if_neg c8] at hQ ⊢
  exact am_run (am_cK _) 4 (am_obj_in e0 (S_buy hR hs _ _ (fun h' ha hR' => am_run (am_cK _) 1 (hQ h' (fr h' ha).1 hR' (fr h' ha).2))))
theorem dAct_ok {σ : Sg} {L : List Nat} {p : Nat} (hs : Sok σ) : Sok (dAct L tx n p σ).2 := by
  unfold dAct
  by_cases c1 : sgn tx n p = 114
  · rw [if_pos c1]; exact sRoll_ok hs _ _
  rw [if_neg c1]
  by_cases c2 : sgn tx n p = 102
  · rw [if_pos c2]; exact sFlip_ok hs _
  rw [if_neg c2]
  by_cases c3 : sgn tx n p = 120
  · rw [if_pos c3]; exact sSwap_ok hs _ _
  rw [if_neg c3]
  by_cases c4 : sgn tx n p = 116
  · rw [if_pos c4]; exact sThread_ok hs _ _ _
  rw [if_neg c4]
  by_cases c5 : sgn tx n p = 99
  · rw [if_pos c5]; exact sCut_ok hs _ _
  rw [if_neg c5]
  by_cases c6 : sgn tx n p = 106
  · rw [if_pos c6]; exact sJoin_ok hs _ _
  rw [if_neg c6]
  by_cases c7 : sgn tx n p = 117
  · rw [if_pos c7]; exact sPart_ok hs _
  rw [if_neg c7]
  by_cases c8 : sgn tx n p = 115
  · rw [if_pos c8]; exact sSell_ok hs L _
  rw [if_neg c8]
  exact sBuy_ok hs _ _
end
