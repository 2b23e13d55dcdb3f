/-! THE MODEL reads a day -/
def lCh (j : Nat) : Nat := 97 + j
def aCh (j : Nat) : Nat := [102, 117, 115, 114, 120, 99, 106, 116, 98].getD j 0
theorem lC_ok : ∀ j, j < 4 → (am_txt 14).getD j 0 = nI (lCh j) ∧ lCh j < 256 := by decide
theorem aCh_ok : ∀ j, j < 9 → (am_txt 15).getD j 0 = nI (aCh j) ∧ aCh j < 256 := by decide
theorem aCh_fr : ∀ j, j < 9 → frm (aCh j) = if j < 3 then 2 else if j < 7 then 1 else if j = 7 then 3 else 4 := by decide
theorem aCh_all : ∀ x, x < 256 → (∀ k, k < 9 → aCh k ≠ x) → frm x = 0 := by decide +kernel
theorem sut_l (x : Nat) : sut x 108 = decide (97 ≤ x ∧ x ≤ 100) := if_pos rfl
theorem sut_d (x : Nat) : sut x 100 = decide (48 ≤ x ∧ x ≤ 57) := (if_neg (by decide)).trans rfl
theorem sut_p (x : Nat) : sut x 112 = decide (49 ≤ x ∧ x ≤ 57) := (if_neg (by decide)).trans rfl
theorem tld_d {x : Nat} (h : 48 ≤ x) (h2 : x ≤ 57) : tld x = nI (x - 48) := (if_neg (by omega)).trans (pk_sub (a := x) (b := 48) h)
theorem tld_l {x k : Nat} (h : lCh k = x) : tld x = nI k := by
  unfold lCh at h
  unfold tld
  rw [if_pos (by omega)]
  congr 1
  omega
/-- how far the signs of a form go -/
def stp (tx : Nat → Nat) (t p fm : Nat) : Nat → Nat → Nat × Bool
  | 0, j => (p + j, true)
  | k + 1, j => if p + j < t ∧ sut (tx (p + j)) (ftc fm j) = true then stp tx t p fm k (j + 1) else (p + j, false)
def rA (tx : Nat → Nat) (t a : Nat) : Nat × Bool := if frm (tx a) = 0 then (a, false) else stp tx t (a + 1) (frm (tx a)) (ftl (frm (tx a))) 0
theorem stp_le {tx : Nat → Nat} {t p fm : Nat} : ∀ k j, p + j ≤ t → p + j ≤ (stp tx t p fm k j).1 ∧ (stp tx t p fm k j).1 ≤ t
  | 0, j, h => ⟨Nat.le_refl _, h⟩
  | k + 1, j, h => by
    rw [stp]
    by_cases c : p + j < t ∧ sut (tx (p + j)) (ftc fm j) = true
    · rw [if_pos c]
      have := stp_le (tx := tx) (t := t) (p := p) (fm := fm) k (j + 1) (by omega)
      omega
    · rw [if_neg c]
      exact ⟨Nat.le_refl _, h⟩
theorem stp_t {tx : Nat → Nat} {t p fm : Nat} : ∀ k j, (stp tx t p fm k j).2 = true → (stp tx t p fm k j).1 = p + (j + k)
  | 0, j, _ => rfl
  | k + 1, j, h => by
    rw [stp] at h ⊢
    by_cases c : p + j < t ∧ sut (tx (p + j)) (ftc fm j) = true
    · rw [if_pos c] at h ⊢
      rw [stp_t k (j + 1) h]
      omega
    · rw [if_neg c] at h
      exact absurd h Bool.false_ne_true
theorem dyL_stp {tx : Nat → Nat} {t p fm : Nat} : ∀ k j, j + k = ftl fm → p + j ≤ t → dyL tx (t - (p + j)) (p + j) fm j = (if (stp tx t p fm k j).2 = true then dyL tx (t - (stp tx t p fm k j).1) (stp tx t p fm k j).1 fm (ftl fm) else if (stp tx t p fm k j).1 < t then ((stp tx t p fm k j).1, none) else ((stp tx t p fm k j).1, some (fm, (stp tx t p fm k j).1 - p))) ∧ ((stp tx t p fm k j).2 = false → (stp tx t p fm k j).1 - p < ftl fm)
  | 0, j, h, _ => by
    have e : j = ftl fm := by omega
    subst e
    exact ⟨(if_pos rfl).symm, fun z => absurd z.symm Bool.false_ne_true⟩
  | k + 1, j, h, hp => by
    rw [stp]
    by_cases c : p + j < t ∧ sut (tx (p + j)) (ftc fm j) = true
    · rw [if_pos c]
      have ih := dyL_stp (tx := tx) (t := t) (p := p) (fm := fm) k (j + 1) (by omega) (by omega)
      rw [show t - (p + j) = (t - (p + (j + 1))) + 1 by omega, dyL, if_pos (show j < ftl fm by omega), if_pos c.2]
      exact ih
    · rw [if_neg c]
      refine ⟨?_, fun _ => show p + j - p < ftl fm by omega⟩
      rw [if_neg (show ¬ (p + j, false).2 = true from Bool.false_ne_true)]
      by_cases c1 : p + j < t
      · rw [if_pos (show p + j < t from c1), show t - (p + j) = (t - (p + (j + 1))) + 1 by omega, dyL, if_pos (show j < ftl fm by omega), if_neg (fun z => c ⟨c1, z⟩)]
      · rw [if_neg (show ¬ p + j < t from c1), show t - (p + j) = 0 by omega, dyL, show p + j - p = j by omega]
/-- an act as it was read -/
def aOK (tx : Nat → Nat) (p : Nat) (c1 c2 c3 c4 : Int32) : Prop := ∃ s, s < 9 ∧ c1 = nI s ∧ tx p = aCh s ∧ c2 = tld (tx (p + 1)) ∧ (3 ≤ s → c3 = tld (tx (p + 2))) ∧ (s = 7 → c4 = tld (tx (p + 3)))
def V4 (A : Nat → Nat → Int32) (x y z w : Nat → Int32) : Nat → Nat → Int32 := fun j => if j = 165 then x else if j = 166 then y else if j = 167 then z else if j = 168 then w else A j
section
variable {d : Nat} {h0 h : am_H} {Q : Option Value → am_H → Prop} {F : Nat → Int32} {A : Nat → Nat → Int32} {R : Nat → Int64} {x y z w u : Nat → Int32} {tx : Nat → Nat} {a b t k s : Nat}
theorem V_0 : V4 A (A 165) (A 166) (A 167) (A 168) = A := by
  funext j
  unfold V4
  by_cases e1 : j = 165
  · rw [if_pos e1, e1]
  rw [if_neg e1]
  by_cases e2 : j = 166
  · rw [if_pos e2, e2]
  rw [if_neg e2]
  by_cases e3 : j = 167
  · rw [if_pos e3, e3]
  rw [if_neg e3]
  by_cases e4 : j = 168
  · rw [if_pos e4, e4]
  rw [if_neg e4]
theorem V_1 : va_up (V4 A x y z w) 165 u = V4 A u y z w := by
  funext j
  by_cases e : j = 165
  · subst e; exact am_up_s
  · rw [am_up_n e]
    unfold V4
    rw [if_neg e, if_neg e]
theorem V_2 : va_up (V4 A x y z w) 166 u = V4 A x u z w := by
  funext j
  by_cases e : j = 166
  · subst e; exact am_up_s
  · rw [am_up_n e]
    unfold V4
    rw [if_neg e, if_neg e]
theorem V_3 : va_up (V4 A x y z w) 167 u = V4 A x y u w := by
  funext j
  by_cases e : j = 167
  · subst e; exact am_up_s
  · rw [am_up_n e]
    unfold V4
    rw [if_neg e, if_neg e]
theorem V_4 : va_up (V4 A x y z w) 168 u = V4 A x y z u := by
  funext j
  by_cases e : j = 168
  · subst e; exact am_up_s
  · rw [am_up_n e]
    unfold V4
    rw [if_neg e, if_neg e]
theorem V_e1 : V4 A x y z w 165 = x := rfl
theorem V_e2 : V4 A x y z w 166 = y := rfl
theorem V_e3 : V4 A x y z w 167 = z := rfl
theorem V_e4 : V4 A x y z w 168 = w := rfl
theorem stp_s : ∀ s, s < 9 → stp tx t b (frm (aCh s)) (ftl (frm (aCh s))) 0 = if b < t ∧ sut (tx b) (if s = 8 then 108 else 100) = true then (if s < 3 then (b + 1, true) else if b + 1 < t ∧ sut (tx (b + 1)) (if s = 8 then 112 else 100) = true then (if s = 7 then (if b + 2 < t ∧ sut (tx (b + 2)) 108 = true then (b + 3, true) else (b + 2, false)) else (b + 2, true)) else (b + 1, false)) else (b, false)
  | 0, _ => rfl
  | 1, _ => rfl
  | 2, _ => rfl
  | 3, _ => rfl
  | 4, _ => rfl
  | 5, _ => rfl
  | 6, _ => rfl
  | 7, _ => rfl
  | 8, _ => rfl
  | n + 9, h => absurd h (by omega)
theorem M_ra4 (W : RM h0 h F (V4 A x y z w) R) (ha : F 7 = nI b) (ht : F 8 = nI t) (ht80 : t ≤ 80) (hb : b ≤ 80) (hx : TX (V4 A x y z w) tx t) (hk : k < 60) (h1 : b < t → sut (tx b) 108 = true → ∀ h', RM h0 h' (upd F 7 (nI (b + 1))) (V4 A x y z (upd w k (tld (tx b)))) R → Q (some (.int 1)) h') (h2 : ¬ (b < t ∧ sut (tx b) 108 = true) → ∀ h', RM h0 h' F (V4 A x y z (upd w k (-1))) R → Q (some (.int 0)) h') : am_wp (am_call (d + 8)) (0, 0) cm_X11_readsAct Q (fun _ => False) (170, [some (.ref 152), some (.int (nI k))], [], 0, 0) h := by
  refine am_run (am_cK _) 2 (am_obj_in W.o (am_run (am_cK _) 4 (am_obj_in W.o ((M_takesOf W ha ht ht80 hb hx (ti := 14) (L := 4) (ch := lCh) (by omega) rfl (by omega) lC_ok (fun i hi c e _ h1' W1 => ?_) (fun c => ?_))))))
  · have hl : sut (tx b) 108 = true := by
      rw [sut_l]
      unfold lCh at e
      exact decide_eq_true (by omega)
    have q := h1 c hl
    rw [tld_l e] at q
    refine am_run (am_cK _) 1 (am_stI (p := 168) W1 (j := k) rfl (show k < 60 from hk) rfl (fun h3 W3 => ?_))
    rw [V_4, V_e4] at W3
    refine am_run (am_cK _) 2 (am_obj_in W3.o (am_run (am_cK _) 2 (am_ld W3.a168 k (by omega) ?_)))
    rw [nI_clamp (by omega), show V4 A x y z (upd w k (nI i)) 168 k = nI i from upd_s]
    exact am_run (am_cK _) 1 (⟨fun z => absurd z (nI_pos (by omega)), fun _ => am_run (am_cK _) 3 (⟨Or.inr rfl, q h3 W3⟩)⟩)
  · refine am_run (am_cK _) 1 (am_stI (p := 168) W (j := k) rfl (show k < 60 from hk) rfl (fun h3 W3 => ?_))
    rw [V_4, V_e4] at W3
    refine am_run (am_cK _) 2 (am_obj_in W3.o (am_run (am_cK _) 2 (am_ld W3.a168 k (by omega) ?_)))
    rw [nI_clamp (by omega), show V4 A x y z (upd w k (-1)) 168 k = -1 from upd_s]
    refine am_run (am_cK _) 1 (⟨fun _ => am_run (am_cK _) 2 (⟨Or.inl rfl, h2 (fun n => ?_) h3 W3⟩), fun z => absurd (show (-1 : Int32) < 0 by decide) z⟩)
    rw [sut_l] at n
    have n2 := of_decide_eq_true n.2
    exact c n.1 (tx b - 97) (by omega) (by unfold lCh; omega)
theorem M_ra3 (W : RM h0 h F (V4 A x y z w) R) (ha : F 7 = nI b) (ht : F 8 = nI t) (ht80 : t ≤ 80) (hb : b ≤ t) (hx : TX (V4 A x y z w) tx t) (hk : k < 60) (hs : x k = nI s) (hs9 : s < 9) (hQ : ∀ h' z' w' b' ok, RM h0 h' (upd F 7 (nI b')) (V4 A x y z' w') R → (∀ i, i ≠ k → z' i = z i ∧ w' i = w i) → (b', ok) = (if b < t ∧ sut (tx b) (if s = 8 then 112 else 100) = true then (if s = 7 then (if b + 1 < t ∧ sut (tx (b + 1)) 108 = true then (b + 2, true) else (b + 1, false)) else (b + 1, true)) else (b, false)) → (ok = true → z' k = tld (tx b) ∧ (s = 7 → w' k = tld (tx (b + 1)))) → Q (some (.int (bI ok))) h') : am_wp (am_call (d + 8)) (0, 0) cm_X11_readsAct Q (fun _ => False) (104, [some (.ref 152), some (.int (nI k))], [], 0, 0) h := by
  have dg : ∀ lo, lo < 2 → (48 + lo = if s = 8 then 49 else 48) → am_wp (am_call (d + 8)) (0, 0) cm_X11_readsAct Q (fun _ => False) (129, [some (.ref 152), some (.int (nI k))], [.int (nI lo), .ref 152, .int (nI k), .ref 167], 0, 0) h := by
    intro lo hlo hl
    have es : sut (tx b) (if s = 8 then 112 else 100) = decide (48 + lo ≤ tx b ∧ tx b ≤ 57) := by
      rw [hl]
      by_cases c : s = 8
      · rw [if_pos c, if_pos c]; exact sut_p _
      · rw [if_neg c, if_neg c]; exact sut_d _
    rw [es] at hQ
    refine am_run (am_cK _) 2 (am_obj_in W.o ((M_digitIn W ha ht ht80 (by omega) hx hlo (fun c1 c2 c3 h1 W1 => ?_) (fun c => ?_))))
    · rw [if_pos ⟨c1, decide_eq_true ⟨c2, c3⟩⟩] at hQ
      have et : tld (tx b) = nI (tx b - 48) := tld_d (by omega) c3
      refine am_run (am_cK _) 1 (am_stI (p := 167) W1 (j := k) rfl (show k < 60 from hk) rfl (fun h3 W3 => ?_))
      rw [V_3, V_e3, ← et] at W3
      refine am_run (am_cK _) 2 (am_obj_in W3.o (am_run (am_cK _) 2 (am_ld W3.a167 k (by omega) ?_)))
      rw [nI_clamp (by omega), show V4 A x y (upd z k (tld (tx b))) w 167 k = nI (tx b - 48) from upd_s.trans et]
      refine am_run (am_cK _) 1 (⟨fun z => absurd z (nI_pos (by omega)), fun _ => ?_⟩)
      refine am_run (am_cK _) 2 (am_obj_in W3.o (am_run (am_cK _) 2 (am_ld W3.a165 k (by omega) ?_)))
      rw [nI_clamp (by omega), show V4 A x y (upd z k (tld (tx b))) w 165 k = nI s from hs]
      refine am_run (am_cK _) 2 (⟨fun q => ?_, fun q => ?_⟩)
      · have s7 : s = 7 := (nI_eq (b := 7) (by omega) (by omega)).mp q
        rw [if_pos s7] at hQ
        show am_wp (am_call (d + 8)) (0, 0) cm_X11_readsAct Q (fun _ => False) (170, [some (.ref 152), some (.int (nI k))], [], 0, 0) h3
        refine M_ra4 (b := b + 1) W3 upd_s ht ht80 (by omega) hx hk (fun d1 d2 h4 W4 => ?_) (fun dn h4 W4 => ?_)
        · rw [upd_upd] at W4
          rw [if_pos ⟨d1, d2⟩] at hQ
          exact hQ h4 _ _ (b + 2) true W4 (fun i hi => ⟨upd_n hi, upd_n hi⟩) rfl (fun _ => ⟨upd_s, fun _ => upd_s⟩)
        · rw [if_neg dn] at hQ
          exact hQ h4 _ _ (b + 1) false W4 (fun i hi => ⟨upd_n hi, upd_n hi⟩) rfl (fun n => absurd n Bool.false_ne_true)
      · have s7 : ¬ s = 7 := fun n => q (congrArg nI n)
        rw [if_neg s7] at hQ
        refine am_run (am_cK _) 2 (am_obj_in W3.o (am_run (am_cK _) 2 (am_ld W3.a167 k (by omega) ?_)))
        rw [nI_clamp (by omega), show V4 A x y (upd z k (tld (tx b))) w 167 k = nI (tx b - 48) from upd_s.trans et]
        exact am_run (am_cK _) 1 (⟨fun z => absurd z (nI_pos (by omega)), fun _ => am_run (am_cK _) 3 (⟨Or.inr rfl, hQ h3 _ _ (b + 1) true W3 (fun i hi => ⟨upd_n hi, rfl⟩) rfl (fun _ => ⟨upd_s, fun n => absurd n s7⟩)⟩)⟩)
    · rw [if_neg (fun n => c ⟨n.1, of_decide_eq_true n.2⟩)] at hQ
      refine am_run (am_cK _) 1 (am_stI (p := 167) W (j := k) rfl (show k < 60 from hk) rfl (fun h3 W3 => ?_))
      rw [V_3, V_e3] at W3
      refine am_run (am_cK _) 2 (am_obj_in W3.o (am_run (am_cK _) 2 (am_ld W3.a167 k (by omega) ?_)))
      rw [nI_clamp (by omega), show V4 A x y (upd z k (-1)) w 167 k = -1 from upd_s]
      refine am_run (am_cK _) 1 (⟨fun _ => ?_, fun z => absurd (show (-1 : Int32) < 0 by decide) z⟩)
      refine am_run (am_cK _) 2 (am_obj_in W3.o (am_run (am_cK _) 2 (am_ld W3.a167 k (by omega) ?_)))
      rw [nI_clamp (by omega), show V4 A x y (upd z k (-1)) w 167 k = -1 from upd_s]
      refine am_run (am_cK _) 1 (⟨fun _ => am_run (am_cK _) 2 (⟨Or.inl rfl, ?_⟩), fun z => absurd (show (-1 : Int32) < 0 by decide) z⟩)
      exact hQ h3 _ _ b false (by rw [upd_same ha.symm]; exact W3) (fun i hi => ⟨upd_n hi, rfl⟩) rfl (fun n => absurd n Bool.false_ne_true)
  refine am_run (am_cK _) 2 (am_obj_in W.o (am_run (am_cK _) 4 (am_obj_in W.o (am_run (am_cK _) 2 (am_ld W.a165 k (by omega) ?_)))))
  rw [nI_clamp (by omega), show V4 A x y z w 165 k = nI s from hs]
  refine am_run (am_cK _) 2 (⟨fun z => ?_, fun z => ?_⟩)
  · have s8 : ¬ s = 8 := fun n => z (congrArg nI n)
    exact am_run (am_cK _) 2 (M_flag0 (dg 0 (by omega) (by rw [if_neg s8])))
  · have s8 : s = 8 := (nI_eq (b := 8) (by omega) (by omega)).mp (Classical.not_not.mp z)
    exact am_run (am_cK _) 3 (M_flag1 (dg 1 (by omega) (by rw [if_pos s8])))
theorem M_ra1 (W : RM h0 h F (V4 A x y z w) R) (ha : F 7 = nI b) (ht : F 8 = nI t) (ht80 : t ≤ 80) (hb : b ≤ t) (hx : TX (V4 A x y z w) tx t) (hk : k < 60) (hs : x k = nI s) (hs9 : s < 9) (hQ : ∀ h' y' z' w' b' ok, RM h0 h' (upd F 7 (nI b')) (V4 A x y' z' w') R → (∀ i, i ≠ k → y' i = y i ∧ z' i = z i ∧ w' i = w i) → (b', ok) = stp tx t b (frm (aCh s)) (ftl (frm (aCh s))) 0 → (ok = true → y' k = tld (tx b) ∧ (3 ≤ s → z' k = tld (tx (b + 1))) ∧ (s = 7 → w' k = tld (tx (b + 2)))) → Q (some (.int (bI ok))) h') : am_wp (am_call (d + 8)) (0, 0) cm_X11_readsAct Q (fun _ => False) (39, [some (.ref 152), some (.int (nI k))], [], 0, 0) h := by
  rw [stp_s s hs9] at hQ
  have yes : ∀ v h1, v < 2 ^ 31 → b < t → sut (tx b) (if s = 8 then 108 else 100) = true → tld (tx b) = nI v → RM h0 h1 (upd F 7 (nI (b + 1))) (V4 A x y z w) R → am_wp (am_call (d + 8)) (0, 0) cm_X11_readsAct Q (fun _ => False) (69, [some (.ref 152), some (.int (nI k))], [.int (nI v), .int (nI k), .ref 166], 0, 0) h1 := by
    intro v h1 hv c1 c2 et W1
    rw [if_pos ⟨c1, c2⟩] at hQ
    refine am_run (am_cK _) 1 (am_stI (p := 166) W1 (j := k) rfl (show k < 60 from hk) rfl (fun h3 W3 => ?_))
    rw [V_2, V_e2, ← et] at W3
    refine am_run (am_cK _) 2 (am_obj_in W3.o (am_run (am_cK _) 2 (am_ld W3.a166 k (by omega) ?_)))
    rw [nI_clamp (by omega), show V4 A x (upd y k (tld (tx b))) z w 166 k = nI v from upd_s.trans et]
    refine am_run (am_cK _) 1 (⟨fun z => absurd z (nI_pos hv), fun _ => ?_⟩)
    refine am_run (am_cK _) 2 (am_obj_in W3.o (am_run (am_cK _) 2 (am_ld W3.a165 k (by omega) ?_)))
    rw [nI_clamp (by omega), show V4 A x (upd y k (tld (tx b))) z w 165 k = nI s from hs]
    refine am_run (am_cK _) 2 (pk_le 3 s (fun c => ?_) (fun c => ?_))
    · rw [if_neg (by omega)] at hQ
      show am_wp (am_call (d + 8)) (0, 0) cm_X11_readsAct Q (fun _ => False) (104, [some (.ref 152), some (.int (nI k))], [], 0, 0) h3
      refine M_ra3 (b := b + 1) W3 upd_s ht ht80 (by omega) hx hk hs hs9 (fun h4 z' w' b' ok W4 o4 e4 p4 => ?_)
      rw [upd_upd] at W4
      exact hQ h4 _ z' w' b' ok W4 (fun i hi => ⟨upd_n hi, o4 i hi⟩) e4 (fun n => ⟨upd_s, fun _ => (p4 n).1, (p4 n).2⟩)
    · rw [if_pos (by omega)] at hQ
      refine am_run (am_cK _) 2 (am_obj_in W3.o (am_run (am_cK _) 2 (am_ld W3.a166 k (by omega) ?_)))
      rw [nI_clamp (by omega), show V4 A x (upd y k (tld (tx b))) z w 166 k = nI v from upd_s.trans et]
      exact am_run (am_cK _) 1 (⟨fun z => absurd z (nI_pos hv), fun _ => am_run (am_cK _) 3 (⟨Or.inr rfl, hQ h3 _ z w (b + 1) true W3 (fun i hi => ⟨upd_n hi, rfl, rfl⟩) rfl (fun _ => ⟨upd_s, fun n => absurd n (by omega), fun n => absurd n (by omega)⟩)⟩)⟩)
  have no : ¬ (b < t ∧ sut (tx b) (if s = 8 then 108 else 100) = true) → am_wp (am_call (d + 8)) (0, 0) cm_X11_readsAct Q (fun _ => False) (69, [some (.ref 152), some (.int (nI k))], [.int (-1), .int (nI k), .ref 166], 0, 0) h := by
    intro c
    rw [if_neg c] at hQ
    refine am_run (am_cK _) 1 (am_stI (p := 166) W (j := k) rfl (show k < 60 from hk) rfl (fun h3 W3 => ?_))
    rw [V_2, V_e2] at W3
    refine am_run (am_cK _) 2 (am_obj_in W3.o (am_run (am_cK _) 2 (am_ld W3.a166 k (by omega) ?_)))
    rw [nI_clamp (by omega), show V4 A x (upd y k (-1)) z w 166 k = -1 from upd_s]
    refine am_run (am_cK _) 1 (⟨fun _ => ?_, fun z => absurd (show (-1 : Int32) < 0 by decide) z⟩)
    refine am_run (am_cK _) 2 (am_obj_in W3.o (am_run (am_cK _) 2 (am_ld W3.a166 k (by omega) ?_)))
    rw [nI_clamp (by omega), show V4 A x (upd y k (-1)) z w 166 k = -1 from upd_s]
    refine am_run (am_cK _) 1 (⟨fun _ => am_run (am_cK _) 2 (⟨Or.inl rfl, ?_⟩), fun z => absurd (show (-1 : Int32) < 0 by decide) z⟩)
    exact hQ h3 _ z w b false (by rw [upd_same ha.symm]; exact W3) (fun i hi => ⟨upd_n hi, rfl, rfl⟩) rfl (fun n => absurd n Bool.false_ne_true)
  refine am_run (am_cK _) 2 (am_obj_in W.o (am_run (am_cK _) 3 (am_obj_in W.o (am_run (am_cK _) 2 (am_ld W.a165 k (by omega) ?_)))))
  rw [nI_clamp (by omega), show V4 A x y z w 165 k = nI s from hs]
  refine am_run (am_cK _) 2 (⟨fun q => ?_, fun q => ?_⟩)
  · have s8 : ¬ s = 8 := fun n => q (congrArg nI n)
    rw [if_neg s8] at yes no
    refine am_run (am_cK _) 3 (am_obj_in W.o ((M_number (k := 1) W ha ht ht80 hb hx (by omega) (fun c1 c2 h1 W1 => ?_) (fun c => ?_))))
    · have d2 := of_decide_eq_true c2
      have en : numL tx t 1 b 0 = (10 * 0 + tx b - 48, b + 1) := by
        rw [numL, if_pos ⟨c1, c2⟩, numL]
      rw [en] at W1 ⊢
      rw [show 10 * 0 + tx b - 48 = tx b - 48 by omega]
      exact yes (tx b - 48) h1 (by omega) c1 ((sut_d _).trans c2) (tld_d d2.1 d2.2) W1
    · exact no (fun n => c ⟨n.1, (sut_d _).symm.trans n.2⟩)
  · have s8 : s = 8 := (nI_eq (b := 8) (by omega) (by omega)).mp (Classical.not_not.mp q)
    rw [if_pos s8] at yes no
    refine am_run (am_cK _) 3 (am_obj_in W.o ((M_takesOf W ha ht ht80 (by omega) hx (ti := 14) (L := 4) (ch := lCh) (by omega) rfl (by omega) lC_ok (fun i hi c e _ h1 W1 => ?_) (fun c => ?_))))
    · have hl : sut (tx b) 108 = true := by
        rw [sut_l]
        unfold lCh at e
        exact decide_eq_true (by omega)
      exact am_run (am_cK _) 1 (yes i h1 (by omega) c hl (tld_l e) W1)
    · refine am_run (am_cK _) 1 (no (fun n => ?_))
      rw [sut_l] at n
      have n2 := of_decide_eq_true n.2
      exact c n.1 (tx b - 97) (by omega) (by unfold lCh; omega)
theorem M_readsAct (W : RM h0 h F (V4 A x y z w) R) (hk27 : F 27 = nI k) (hk : k < 60) (ha : F 7 = nI a) (ht : F 8 = nI t) (ht80 : t ≤ 80) (hat : a < t) (hx : TX (V4 A x y z w) tx t) (hQ : ∀ h' x' y' z' w' b' ok, RM h0 h' (upd (upd F 27 (nI (k + 1))) 7 (nI b')) (V4 A x' y' z' w') R → (∀ i, i ≠ k → x' i = x i ∧ y' i = y i ∧ z' i = z i ∧ w' i = w i) → (b', ok) = rA tx t a → (ok = true → aOK tx a (x' k) (y' k) (z' k) (w' k)) → Q (some (.int (bI ok))) h') : am_call (d + 9) 256 [.ref 152] h Q := by
  have h256 := (hx a hat).2
  unfold rA at hQ
  refine en_X11_readsAct (Nat.le_of_ble_eq_true rfl) ?_
  refine am_run (am_cK _) 2 (am_obj_in W.o (am_run (am_cK _) 3 (am_obj_in W.o (am_run (am_cK _) 4 (am_obj_in W.o (?_))))))
  rw [hk27]
  refine M_takesOf W ha ht ht80 (by omega) hx (ti := 15) (L := 9) (ch := aCh) (by omega) rfl (by omega) aCh_ok (fun s hs c e _ h1 W1 => ?_) (fun c => ?_)
  · have ef := aCh_fr s hs
    have hne : ¬ frm (tx a) = 0 := by
      rw [← e, ef]
      split
      · omega
      · split
        · omega
        · split <;> omega
    rw [if_neg hne, ← e] at hQ
    refine am_run (am_cK _) 1 (am_stI (p := 165) W1 (j := k) rfl (show k < 60 from hk) rfl (fun h2 W2 => ?_))
    rw [V_1, V_e1] at W2
    refine am_run (am_cK _) 3 (am_obj_in W2.o (am_run (am_cK _) 3 (am_putI W2 rfl (by decide) (fun h3 W3 => ?_))))
    rw [show upd F 7 (nI (a + 1)) 27 + 1 = nI (k + 1) by
      rw [upd_n (by decide), hk27]
      exact nI_1 k, upd_sw (by decide)] at W3
    refine am_run (am_cK _) 2 (am_obj_in W3.o (am_run (am_cK _) 2 (am_ld W3.a165 k (by omega) ?_)))
    rw [nI_clamp (by omega), show V4 A (upd x k (nI s)) y z w 165 k = nI s from upd_s]
    refine am_run (am_cK _) 1 (⟨fun _ => ?_, fun q => absurd (Int32.not_lt.mp (nI_pos (by omega))) q⟩)
    show am_wp (am_call (d + 8)) (0, 0) cm_X11_readsAct Q (fun _ => False) (39, [some (.ref 152), some (.int (nI k))], [], 0, 0) h3
    refine M_ra1 (b := a + 1) (s := s) W3 upd_s ht ht80 (by omega) hx hk upd_s hs (fun h4 y' z' w' b' ok W4 o4 e4 p4 => ?_)
    rw [upd_upd] at W4
    exact hQ h4 _ y' z' w' b' ok W4 (fun i hi => ⟨upd_n hi, o4 i hi⟩) e4 (fun n => ⟨s, hs, upd_s, e.symm, (p4 n).1, (p4 n).2.1, (p4 n).2.2⟩)
  · have hz : frm (tx a) = 0 := aCh_all (tx a) h256 (c hat)
    rw [if_pos hz] at hQ
    refine am_run (am_cK _) 1 (am_stI (p := 165) W (j := k) rfl (show k < 60 from hk) rfl (fun h2 W2 => ?_))
    rw [V_1, V_e1] at W2
    refine am_run (am_cK _) 3 (am_obj_in W2.o (am_run (am_cK _) 3 (am_putI W2 rfl (by decide) (fun h3 W3 => ?_))))
    rw [hk27, show nI k + 1 = nI (k + 1) from nI_1 k] at W3
    refine am_run (am_cK _) 2 (am_obj_in W3.o (am_run (am_cK _) 2 (am_ld W3.a165 k (by omega) ?_)))
    rw [nI_clamp (by omega), show V4 A (upd x k (-1)) y z w 165 k = -1 from upd_s]
    refine am_run (am_cK _) 1 (⟨fun q => absurd (show (0 : Int32) ≤ -1 from q) (by decide), fun _ => am_run (am_cK _) 2 (⟨Or.inl rfl, ?_⟩)⟩)
    exact hQ h3 _ y z w a false (by rw [upd_same (F := upd F 27 (nI (k + 1))) (i := 7) (show nI a = F 7 from ha.symm)]; exact W3) (fun i hi => ⟨upd_n hi, rfl, rfl, rfl⟩) rfl (fun n => absurd n Bool.false_ne_true)
end
