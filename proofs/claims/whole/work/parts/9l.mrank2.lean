/-! THE MODEL reads a row of things, by rank -/
def SL (tx : Nat → Nat) (t a b : Nat) (Lm W : List Nat) (dep cmp : Nat) : Prop := a ≤ t ∧ ∃ L1 W1 dig1 cmp1, Rc tx a (L1, W1, dep, dig1, cmp1, false) ∧ stl b L1 W1 = (Lm, W) ∧ (∀ j, j ≤ dep → cmp1.testBit j = cmp.testBit j) ∧ (a < t → isD (tx a) = true → ¬ (dig1 = 1 ∨ dig1 = 2)) ∧ (a < t → ¬ (b + 1 ≤ bnd (tx a) ∧ bnd (tx a) ≤ 3))
theorem op_facts : ∀ i, i < 7 → isD (opS i) = false ∧ opS i ≠ 41 ∧ opS i < 256 ∧ opc (opS i) = 2000 + i ∧ 1 ≤ bnd (opS i) ∧ bnd (opS i) ≤ 3 := by decide
theorem op_in1 : ∀ x, x < 256 → bnd x = 1 → opS 0 = x ∨ opS 1 = x ∨ opS 2 = x := by decide +kernel
theorem op_in2 : ∀ x, x < 256 → bnd x = 2 → opS 3 = x ∨ opS 4 = x := by decide +kernel
theorem op_in3 : ∀ x, x < 256 → bnd x = 3 → opS 5 = x ∨ opS 6 = x := by decide +kernel
theorem txt11 : ∀ j, j < 3 → (am_txt 11).getD j 0 = nI (opS (0 + j)) ∧ opS (0 + j) < 256 := by decide
theorem txt12 : ∀ j, j < 2 → (am_txt 12).getD j 0 = nI (opS (3 + j)) ∧ opS (3 + j) < 256 := by decide
theorem txt13 : ∀ j, j < 2 → (am_txt 13).getD j 0 = nI (opS (5 + j)) ∧ opS (5 + j) < 256 := by decide
section
variable {tx : Nat → Nat} {a t b dep cmp : Nat} {Lm W L : List Nat}
theorem SR_SL (h : SR tx t a (b + 1) Lm W dep cmp) (hW : Tp W b) : SL tx t a b Lm W dep cmp := by
  obtain ⟨h0, L1, W1, dig1, cmp1, h1, h2, h3, h4, h5⟩ := h
  refine ⟨h0, L1, W1, dig1, cmp1, h1, ?_, h3, h4, h5⟩
  rw [← stl_c (Nat.le_succ b) W1 L1, h2]
  exact stl_t hW
theorem SL_len (h : SL tx t a b Lm W dep cmp) : Lm.length + W.length ≤ a := by
  obtain ⟨h0, L1, W1, dig1, cmp1, h1, h2, h3, h4⟩ := h
  have e1 := Rc_len h1
  have e2 := stl_sum h2
  simp only at e1
  omega
/-- no more of this rank -/
theorem SL_SR (h : SL tx t a b Lm W dep cmp) (hn : a < t → bnd (tx a) ≠ b) : SR tx t a b Lm W dep cmp := by
  obtain ⟨h0, L1, W1, dig1, cmp1, h1, h2, h3, h4, h5⟩ := h
  exact ⟨h0, L1, W1, dig1, cmp1, h1, h2, h3, h4, fun c w => h5 c (by have := hn c; omega)⟩
/-- one more: what joins is taken -/
theorem SL_op (hx : tx a < 256) (h : SL tx t a b Lm W dep cmp) {i : Nat} (hi : i < 7) (e : opS i = tx a) (hb : bnd (opS i) = b) (hc : b = 1 → cmp.testBit dep = false) (hc32 : cmp < 32) : ∃ cmp2, Rc tx (a + 1) (Lm, opS i :: W, dep, 0, cmp2, true) ∧ (b ≠ 1 → ∀ j, j ≤ dep → cmp2.testBit j = cmp.testBit j) ∧ (b = 1 → cmp2.testBit dep = true ∧ ∀ j, j < dep → cmp2.testBit j = cmp.testBit j) := by
  obtain ⟨h0, L1, W1, dig1, cmp1, h1, h2, h3, h4, h5⟩ := h
  obtain ⟨o1, o2, o3, o4, o5, o6⟩ := op_facts i hi
  have hd4 : dep ≤ 4 := h1.1.2.1
  have hc1 : cmp1 < 32 := h1.1.2.2.1
  refine ⟨if b = 1 then stB cmp1 dep else cmp1, Rc_s hx h1 ?_, fun hb1 j hj => ?_, fun hb1 => ?_⟩
  · rw [← e, tk_nd o1]
    show (if opS i = 41 then (if dep = 0 then none else some ((stl 1 L1 W1).1, (stl 1 L1 W1).2.tail, dep - 1, 0, cmp1, false)) else if bnd (opS i) = 0 ∨ bnd (opS i) = 4 then none else if bnd (opS i) = 1 then (if cmp1.testBit dep then none else some ((stl 1 L1 W1).1, opS i :: (stl 1 L1 W1).2, dep, 0, stB cmp1 dep, true)) else some ((stl (bnd (opS i)) L1 W1).1, opS i :: (stl (bnd (opS i)) L1 W1).2, dep, 0, cmp1, true)) = _
    rw [if_neg o2, if_neg (by omega), hb]
    by_cases c : b = 1
    · subst c
      rw [if_pos rfl, if_pos rfl, if_neg (by rw [h3 dep (Nat.le_refl _), hc rfl]; exact Bool.false_ne_true), h2]
    · rw [if_neg c, if_neg c, h2]
  · rw [if_neg hb1]; exact h3 j hj
  · rw [if_pos hb1]
    refine ⟨?_, fun j hj => ?_⟩
    · rw [st_bit cmp1 hc1 dep (by omega) dep (by omega)]
      simp
    · rw [st_bit cmp1 hc1 dep (by omega) j (by omega), h3 j (by omega), show (j == dep) = false from beq_eq_false_iff_ne.mpr (by omega), Bool.or_false]
/-- the thing behind it is read too -/
theorem SR_join {cmp2 : Nat} (h : SR tx t a (b + 1) Lm (L ++ W) dep cmp2) {i : Nat} (hL : L = [opS i]) (hi : i < 7) (hb : bnd (opS i) = b) (hW : Tp W b) : SL tx t a b ((2000 + i) :: Lm) W dep cmp2 := by
  subst hL
  obtain ⟨h0, L1, W1, dig1, cmp1, h1, h2, h3, h4, h5⟩ := h
  refine ⟨h0, L1, W1, dig1, cmp1, h1, ?_, h3, h4, h5⟩
  rw [← stl_c (Nat.le_succ b) W1 L1, h2]
  show stl b Lm (opS i :: W) = _
  rw [stl, if_pos (by omega), (op_facts i hi).2.2.2.1]
  exact stl_t hW
theorem SL_bits {cmp2 : Nat} (h : SL tx t a b Lm W dep cmp2) (he : ∀ j, j ≤ dep → cmp2.testBit j = cmp.testBit j) : SL tx t a b Lm W dep cmp := by
  obtain ⟨h0, L1, W1, dig1, cmp1, h1, h2, h3, h4, h5⟩ := h
  exact ⟨h0, L1, W1, dig1, cmp1, h1, h2, fun j hj => (h3 j hj).trans (he j hj), h4, h5⟩
/-- what can't stand behind a whole -/
theorem tk_end {L1 W1 : List Nat} {dig1 cmp1 x : Nat} (h1 : isD x = true → ¬ (dig1 = 1 ∨ dig1 = 2)) (h2 : x ≠ 41) (h3 : 1 ≤ bnd x → bnd x ≤ 3 → bnd x = 1 ∧ cmp1.testBit dep = true) (hx : x < 256) : tk (L1, W1, dep, dig1, cmp1, false) x = none := by
  cases hd : isD x with
  | true =>
    unfold tk
    rw [if_pos (of_decide_eq_true hd)]
    show (if dig1 = 1 ∨ dig1 = 2 then _ else none) = none
    rw [if_neg (h1 hd)]
  | false =>
    have hb := bnd_le x hx
    rw [tk_nd hd]
    show (if x = 41 then (if dep = 0 then none else some ((stl 1 L1 W1).1, (stl 1 L1 W1).2.tail, dep - 1, 0, cmp1, false)) else if bnd x = 0 ∨ bnd x = 4 then none else if bnd x = 1 then (if cmp1.testBit dep then none else some ((stl 1 L1 W1).1, x :: (stl 1 L1 W1).2, dep, 0, stB cmp1 dep, true)) else some ((stl (bnd x) L1 W1).1, x :: (stl (bnd x) L1 W1).2, dep, 0, cmp1, true)) = none
    rw [if_neg h2]
    by_cases c : bnd x = 0 ∨ bnd x = 4
    · rw [if_pos c]
    · obtain ⟨c1, c2⟩ := h3 (by omega) (by omega)
      rw [if_neg c, if_pos c1, if_pos c2]
theorem SR_S0 (htx : ∀ i, i < t → tx i < 256) (h : SR tx t a 1 Lm W dep cmp) : S0 tx t a Lm W dep cmp := by
  obtain ⟨h0, L1, W1, dig1, cmp1, h1, h2, h3, h4, h5⟩ := h
  exact ⟨h0, L1, W1, dig1, cmp1, h1, h2, fun j hj => h3 j (by omega), fun c w => tk_end (h4 c) w (fun q1 q2 => absurd ⟨q1, q2⟩ (h5 c)) (htx a c)⟩
theorem SL_S0 {cmp2 : Nat} (htx : ∀ i, i < t → tx i < 256) (h : SL tx t a 1 Lm W dep cmp2) (he : cmp2.testBit dep = true) (he2 : ∀ j, j < dep → cmp2.testBit j = cmp.testBit j) : S0 tx t a Lm W dep cmp := by
  obtain ⟨h0, L1, W1, dig1, cmp1, h1, h2, h3, h4, h5⟩ := h
  refine ⟨h0, L1, W1, dig1, cmp1, h1, h2, fun j hj => (h3 j (by omega)).trans (he2 j hj), fun c w => tk_end (h4 c) w (fun q1 q2 => ?_) (htx a c)⟩
  have := h5 c
  exact ⟨by omega, (h3 dep (Nat.le_refl _)).trans he⟩
end
section
variable {h0 h : am_H} {Q : Option Value → am_H → Prop} {F F' : Nat → Int32} {A A' : Nat → Nat → Int32} {R : Nat → Int64} {tx : Nat → Nat} {t d m : Nat}
theorem M_rank3 (I : CT h0 F A R tx t (d + 12) m) : CR h0 F A R tx t (d + 13) m 3 := by
  intro h F' A' a L W dep cmp Q hat hm X hR hW hs hf
  obtain ⟨Y, _⟩ := id X
  refine en_X11_readsRank (Nat.le_of_ble_eq_true rfl) ?_
  refine am_run (am_cK _) 3 (⟨fun z => absurd rfl z, fun _ => ?_⟩)
  refine am_run (am_cK _) 2 (am_obj_in Y.o ((I h F' A' a L W dep cmp _ hat hm X hR (fun h2 F2 A2 a2 L2 ha2 X2 hS => ?_) (fun h2 F2 A2 a2 ha2 X2 => ?_))))
  · obtain ⟨Y2, _⟩ := id X2
    exact am_run (am_cK _) 1 (⟨Or.inr rfl, hs h2 F2 A2 a2 L2 ha2 X2 (ST_SR hS hW)⟩)
  · obtain ⟨Y2, _⟩ := id X2
    exact am_run (am_cK _) 1 (⟨Or.inl rfl, hf h2 F2 A2 a2 ha2 X2⟩)
theorem M_rank2 (ht : F 8 = nI t) (ht80 : t ≤ 40) (hx : TX A tx t) (I : CR h0 F A R tx t (d + 13) m 3) : CR h0 F A R tx t (d + 14) m 2 := by
  intro h F' A' a L W dep cmp Q hat hm X hR hW hs hf
  obtain ⟨Y, _⟩ := id X
  have htx : ∀ i, i < t → tx i < 256 := fun i hi => (hx i hi).2
  have hc32 : cmp < 32 := hR.1.2.2.1
  refine en_X11_readsRank (Nat.le_of_ble_eq_true rfl) ?_
  refine am_run (am_cK _) 3 (⟨fun _ => ?_, fun z => absurd (show ¬ nI 2 = 3 by decide) z⟩)
  -- the loop
  have loop : ∀ (q : Nat) (h2 : am_H) (F2 : Nat → Int32) (A2 : Nat → Nat → Int32) (a2 : Nat) (L2 : List Nat) (v3 : Option Value), t - a2 ≤ q → a ≤ a2 → MS h0 h2 F F2 A A2 R a2 L2 dep → SL tx t a2 3 L2 W dep cmp → am_wp (am_call (d + 13)) (0, 0) cm_X11_readsRank Q (fun _ => False) (24, [some (.ref 152), some (.int (nI 2)), some (.int 1), v3], [], 0, 0) h2 := by
    intro q
    induction q with
    | zero =>
      intro h2 F2 A2 a2 L2 v3 hq ha2 X2 hS
      obtain ⟨Y2, x1, x2, x3, x4, x5, x6⟩ := id X2
      have hS0 := hS.1
      have e8 : F2 8 = nI t := (x1 8 (by decide) (by decide) (by decide)).trans ht
      have hx2 : TX A2 tx t := by
        unfold TX
        rw [x2 156 (by decide)]
        exact hx
      refine am_run (am_cK _) 2 (⟨fun z => absurd z n10, fun _ => ?_⟩)
      refine am_run (am_cK _) 3 (⟨fun _ => am_run (am_cK _) 3 (⟨fun _ => am_run (am_cK _) 2 (am_obj_in Y2.o ((M_takesOf (ti := 13) (L := 2) (ch := fun j => opS (5 + j)) Y2 x3 e8 (by omega) (by omega) hx2 (by decide) rfl (by decide) txt13 (fun k hk c e _ h3 Y3 => ?_) (fun c0 => ?_)))), fun z => absurd (show ¬ nI 2 = 1 by decide) z⟩), fun z => absurd (show ¬ nI 2 = 0 by decide) z⟩)
      · omega
      · have hn : a2 < t → bnd (tx a2) ≠ 3 := fun c w => by
          rcases op_in3 _ (htx a2 c) w with e | e
          · exact c0 c 0 (by decide) e
          · exact c0 c 1 (by decide) e
        refine am_run (am_cK _) 1 (show am_wp (am_call (d + 13)) (0, 0) cm_X11_readsRank Q (fun _ => False) (54, [some (.ref 152), some (.int (nI 2)), some (.int 1), some (.int (-1))], [], 0, 0) h2 from ?_)
        exact am_run (am_cK _) 2 (⟨fun z => absurd z (show ¬ (0 : Int32) ≤ -1 by decide), fun _ => am_run (am_cK _) 2 (⟨Or.inr rfl, hs h2 F2 A2 a2 L2 ha2 X2 (SL_SR hS hn)⟩)⟩)
    | succ q ih =>
      intro h2 F2 A2 a2 L2 v3 hq ha2 X2 hS
      obtain ⟨Y2, x1, x2, x3, x4, x5, x6⟩ := id X2
      have hS0 := hS.1
      have e8 : F2 8 = nI t := (x1 8 (by decide) (by decide) (by decide)).trans ht
      have hx2 : TX A2 tx t := by
        unfold TX
        rw [x2 156 (by decide)]
        exact hx
      refine am_run (am_cK _) 2 (⟨fun z => absurd z n10, fun _ => ?_⟩)
      refine am_run (am_cK _) 3 (⟨fun _ => am_run (am_cK _) 3 (⟨fun _ => am_run (am_cK _) 2 (am_obj_in Y2.o ((M_takesOf (ti := 13) (L := 2) (ch := fun j => opS (5 + j)) Y2 x3 e8 (by omega) (by omega) hx2 (by decide) rfl (by decide) txt13 (fun k hk c e _ h3 Y3 => ?_) (fun c0 => ?_)))), fun z => absurd (show ¬ nI 2 = 1 by decide) z⟩), fun z => absurd (show ¬ nI 2 = 0 by decide) z⟩)
      rotate_left
      · have hn : a2 < t → bnd (tx a2) ≠ 3 := fun c w => by
          rcases op_in3 _ (htx a2 c) w with e | e
          · exact c0 c 0 (by decide) e
          · exact c0 c 1 (by decide) e
        refine am_run (am_cK _) 1 (show am_wp (am_call (d + 13)) (0, 0) cm_X11_readsRank Q (fun _ => False) (54, [some (.ref 152), some (.int (nI 2)), some (.int 1), some (.int (-1))], [], 0, 0) h2 from ?_)
        exact am_run (am_cK _) 2 (⟨fun z => absurd z (show ¬ (0 : Int32) ≤ -1 by decide), fun _ => am_run (am_cK _) 2 (⟨Or.inr rfl, hs h2 F2 A2 a2 L2 ha2 X2 (SL_SR hS hn)⟩)⟩)
      have hbk : bnd (opS (5 + k)) = 3 := (by decide : ∀ k, k < 2 → bnd (opS (5 + k)) = 3) k hk
      obtain ⟨cmp2, hR2, hn1, hn2⟩ := SL_op (htx a2 c) hS (i := 5 + k) (by omega) e hbk (fun w => by omega) hc32
      refine am_run (am_cK _) 1 (show am_wp (am_call (d + 13)) (0, 0) cm_X11_readsRank Q (fun _ => False) (54, [some (.ref 152), some (.int (nI 2)), some (.int 1), some (.int (nI k))], [], 0, 0) h3 from ?_)
      refine am_run (am_cK _) 2 (⟨fun _ => ?_, fun z => absurd (nI_pos' (by omega)) z⟩)
      refine am_run (am_cK _) 5 (am_obj_in Y3.o ((I h3 _ A2 (a2 + 1) L2 (opS (5 + k) :: W) dep cmp2 _ (by omega) (by omega) ⟨Y3, x1.up (Or.inl rfl), x2, rfl, x4, x5, x6⟩ hR2 (fun w W' ew => by cases ew; omega) (fun h4 F4 A4 a4 L4 ha4 X4 hS4 => ?_) (fun h4 F4 A4 a4 ha4 X4 => ?_))))
      · obtain ⟨Y4, _⟩ := id X4
        have hl4 := SR_len hS4
        have hS40 := hS4.1
        rw [List.length_cons] at hl4
        have hJ := SR_join (L := [opS (5 + k)]) (W := W) hS4 rfl (by omega) hbk hW
        refine am_run (am_cK _) 1 (⟨fun _ => ?_, fun z => absurd n10 z⟩)
        refine am_run (am_cK _) 6 (⟨fun _ => am_run (am_cK _) 3 (⟨fun _ => am_run (am_cK _) 3 (am_obj_in Y4.o ((M_codesL X4 (by omega) (c := 2000 + (5 + k)) (show (2000 : Int32) + nI k + nI 5 = nI (2000 + (5 + k)) by rw [show (2000 : Int32) = nI 2000 from rfl, nI_add, nI_add]; congr 1; omega) (fun h5 F5 A5 X5 => ?_)))), fun z => absurd (show ¬ nI 2 = 1 by decide) z⟩), fun z => absurd (show ¬ nI 2 = 0 by decide) z⟩)
        obtain ⟨Y5, _⟩ := id X5
        refine am_run (am_cK _) 2 (⟨fun z => absurd z (show ¬ nI 2 ≤ 0 by decide), fun _ => ?_⟩)
        refine am_run (am_cK _) 4 (ih h5 F5 A5 a4 _ (some (.int (nI k))) (by omega) (by omega) X5 (SL_bits hJ (hn1 (by decide))))
      · obtain ⟨Y4, f1, f2, f3, ⟨len, f4, f5⟩, f6, f7⟩ := X4
        rw [List.length_cons] at f5
        exact am_run (am_cK _) 1 (⟨fun z => absurd rfl z, fun _ => am_run (am_cK _) 2 (⟨Or.inl rfl, hf h4 F4 A4 a4 (by omega) ⟨Y4, f1, f2, f3, ⟨len, f4, by omega⟩, f6, f7⟩⟩)⟩)
  refine am_run (am_cK _) 5 (am_obj_in Y.o ((show am_call (d + 13) 215 [.ref 152, .int (nI 3)] h _ from ?_)))
  refine I h F' A' a L W dep cmp _ hat hm X hR (Tp_up hW (by decide)) (fun h2 F2 A2 a2 L2 ha2 X2 hS => ?_) (fun h2 F2 A2 a2 ha2 X2 => ?_)
  · obtain ⟨Y2, _⟩ := id X2
    refine am_run (am_cK _) 1 (⟨fun _ => ?_, fun z => absurd n10 z⟩)
    exact am_run (am_cK _) 2 (loop (t - a2) h2 F2 A2 a2 L2 none (Nat.le_refl _) ha2 X2 (SR_SL hS hW))
  · obtain ⟨Y2, _⟩ := id X2
    exact am_run (am_cK _) 1 (⟨fun z => absurd rfl z, fun _ => am_run (am_cK _) 2 (⟨Or.inl rfl, hf h2 F2 A2 a2 ha2 X2⟩)⟩)
theorem M_rank1 (ht : F 8 = nI t) (ht80 : t ≤ 40) (hx : TX A tx t) (I : CR h0 F A R tx t (d + 14) m 2) : CR h0 F A R tx t (d + 15) m 1 := by
  intro h F' A' a L W dep cmp Q hat hm X hR hW hs hf
  obtain ⟨Y, _⟩ := id X
  have htx : ∀ i, i < t → tx i < 256 := fun i hi => (hx i hi).2
  have hc32 : cmp < 32 := hR.1.2.2.1
  refine en_X11_readsRank (Nat.le_of_ble_eq_true rfl) ?_
  refine am_run (am_cK _) 3 (⟨fun _ => ?_, fun z => absurd (show ¬ nI 1 = 3 by decide) z⟩)
  -- the loop
  have loop : ∀ (q : Nat) (h2 : am_H) (F2 : Nat → Int32) (A2 : Nat → Nat → Int32) (a2 : Nat) (L2 : List Nat) (v3 : Option Value), t - a2 ≤ q → a ≤ a2 → MS h0 h2 F F2 A A2 R a2 L2 dep → SL tx t a2 2 L2 W dep cmp → am_wp (am_call (d + 14)) (0, 0) cm_X11_readsRank Q (fun _ => False) (24, [some (.ref 152), some (.int (nI 1)), some (.int 1), v3], [], 0, 0) h2 := by
    intro q
    induction q with
    | zero =>
      intro h2 F2 A2 a2 L2 v3 hq ha2 X2 hS
      obtain ⟨Y2, x1, x2, x3, x4, x5, x6⟩ := id X2
      have hS0 := hS.1
      have e8 : F2 8 = nI t := (x1 8 (by decide) (by decide) (by decide)).trans ht
      have hx2 : TX A2 tx t := by
        unfold TX
        rw [x2 156 (by decide)]
        exact hx
      refine am_run (am_cK _) 2 (⟨fun z => absurd z n10, fun _ => ?_⟩)
      refine am_run (am_cK _) 3 (⟨fun _ => am_run (am_cK _) 3 (⟨fun z => absurd rfl z, fun _ => am_run (am_cK _) 3 (am_obj_in Y2.o ((M_takesOf (ti := 12) (L := 2) (ch := fun j => opS (3 + j)) Y2 x3 e8 (by omega) (by omega) hx2 (by decide) rfl (by decide) txt12 (fun k hk c e _ h3 Y3 => ?_) (fun c0 => ?_))))⟩), fun z => absurd (show ¬ nI 1 = 0 by decide) z⟩)
      · omega
      · have hn : a2 < t → bnd (tx a2) ≠ 2 := fun c w => by
          rcases op_in2 _ (htx a2 c) w with e | e
          · exact c0 c 0 (by decide) e
          · exact c0 c 1 (by decide) e
        refine am_run (am_cK _) 1 (show am_wp (am_call (d + 14)) (0, 0) cm_X11_readsRank Q (fun _ => False) (54, [some (.ref 152), some (.int (nI 1)), some (.int 1), some (.int (-1))], [], 0, 0) h2 from ?_)
        exact am_run (am_cK _) 2 (⟨fun z => absurd z (show ¬ (0 : Int32) ≤ -1 by decide), fun _ => am_run (am_cK _) 2 (⟨Or.inr rfl, hs h2 F2 A2 a2 L2 ha2 X2 (SL_SR hS hn)⟩)⟩)
    | succ q ih =>
      intro h2 F2 A2 a2 L2 v3 hq ha2 X2 hS
      obtain ⟨Y2, x1, x2, x3, x4, x5, x6⟩ := id X2
      have hS0 := hS.1
      have e8 : F2 8 = nI t := (x1 8 (by decide) (by decide) (by decide)).trans ht
      have hx2 : TX A2 tx t := by
        unfold TX
        rw [x2 156 (by decide)]
        exact hx
      refine am_run (am_cK _) 2 (⟨fun z => absurd z n10, fun _ => ?_⟩)
      refine am_run (am_cK _) 3 (⟨fun _ => am_run (am_cK _) 3 (⟨fun z => absurd rfl z, fun _ => am_run (am_cK _) 3 (am_obj_in Y2.o ((M_takesOf (ti := 12) (L := 2) (ch := fun j => opS (3 + j)) Y2 x3 e8 (by omega) (by omega) hx2 (by decide) rfl (by decide) txt12 (fun k hk c e _ h3 Y3 => ?_) (fun c0 => ?_))))⟩), fun z => absurd (show ¬ nI 1 = 0 by decide) z⟩)
      rotate_left
      · have hn : a2 < t → bnd (tx a2) ≠ 2 := fun c w => by
          rcases op_in2 _ (htx a2 c) w with e | e
          · exact c0 c 0 (by decide) e
          · exact c0 c 1 (by decide) e
        refine am_run (am_cK _) 1 (show am_wp (am_call (d + 14)) (0, 0) cm_X11_readsRank Q (fun _ => False) (54, [some (.ref 152), some (.int (nI 1)), some (.int 1), some (.int (-1))], [], 0, 0) h2 from ?_)
        exact am_run (am_cK _) 2 (⟨fun z => absurd z (show ¬ (0 : Int32) ≤ -1 by decide), fun _ => am_run (am_cK _) 2 (⟨Or.inr rfl, hs h2 F2 A2 a2 L2 ha2 X2 (SL_SR hS hn)⟩)⟩)
      have hbk : bnd (opS (3 + k)) = 2 := (by decide : ∀ k, k < 2 → bnd (opS (3 + k)) = 2) k hk
      obtain ⟨cmp2, hR2, hn1, hn2⟩ := SL_op (htx a2 c) hS (i := 3 + k) (by omega) e hbk (fun w => by omega) hc32
      refine am_run (am_cK _) 1 (show am_wp (am_call (d + 14)) (0, 0) cm_X11_readsRank Q (fun _ => False) (54, [some (.ref 152), some (.int (nI 1)), some (.int 1), some (.int (nI k))], [], 0, 0) h3 from ?_)
      refine am_run (am_cK _) 2 (⟨fun _ => ?_, fun z => absurd (nI_pos' (by omega)) z⟩)
      refine am_run (am_cK _) 5 (am_obj_in Y3.o ((I h3 _ A2 (a2 + 1) L2 (opS (3 + k) :: W) dep cmp2 _ (by omega) (by omega) ⟨Y3, x1.up (Or.inl rfl), x2, rfl, x4, x5, x6⟩ hR2 (fun w W' ew => by cases ew; omega) (fun h4 F4 A4 a4 L4 ha4 X4 hS4 => ?_) (fun h4 F4 A4 a4 ha4 X4 => ?_))))
      · obtain ⟨Y4, _⟩ := id X4
        have hl4 := SR_len hS4
        have hS40 := hS4.1
        rw [List.length_cons] at hl4
        have hJ := SR_join (L := [opS (3 + k)]) (W := W) hS4 rfl (by omega) hbk hW
        refine am_run (am_cK _) 1 (⟨fun _ => ?_, fun z => absurd n10 z⟩)
        refine am_run (am_cK _) 6 (⟨fun _ => am_run (am_cK _) 3 (⟨fun z => absurd rfl z, fun _ => am_run (am_cK _) 4 (am_obj_in Y4.o ((M_codesL X4 (by omega) (c := 2000 + (3 + k)) (show (2000 : Int32) + nI k + nI 3 = nI (2000 + (3 + k)) by rw [show (2000 : Int32) = nI 2000 from rfl, nI_add, nI_add]; congr 1; omega) (fun h5 F5 A5 X5 => ?_))))⟩), fun z => absurd (show ¬ nI 1 = 0 by decide) z⟩)
        obtain ⟨Y5, _⟩ := id X5
        refine am_run (am_cK _) 2 (⟨fun z => absurd z (show ¬ nI 1 ≤ 0 by decide), fun _ => ?_⟩)
        refine am_run (am_cK _) 4 (ih h5 F5 A5 a4 _ (some (.int (nI k))) (by omega) (by omega) X5 (SL_bits hJ (hn1 (by decide))))
      · obtain ⟨Y4, f1, f2, f3, ⟨len, f4, f5⟩, f6, f7⟩ := X4
        rw [List.length_cons] at f5
        exact am_run (am_cK _) 1 (⟨fun z => absurd rfl z, fun _ => am_run (am_cK _) 2 (⟨Or.inl rfl, hf h4 F4 A4 a4 (by omega) ⟨Y4, f1, f2, f3, ⟨len, f4, by omega⟩, f6, f7⟩⟩)⟩)
  refine am_run (am_cK _) 5 (am_obj_in Y.o ((show am_call (d + 14) 215 [.ref 152, .int (nI 2)] h _ from ?_)))
  refine I h F' A' a L W dep cmp _ hat hm X hR (Tp_up hW (by decide)) (fun h2 F2 A2 a2 L2 ha2 X2 hS => ?_) (fun h2 F2 A2 a2 ha2 X2 => ?_)
  · obtain ⟨Y2, _⟩ := id X2
    refine am_run (am_cK _) 1 (⟨fun _ => ?_, fun z => absurd n10 z⟩)
    exact am_run (am_cK _) 2 (loop (t - a2) h2 F2 A2 a2 L2 none (Nat.le_refl _) ha2 X2 (SR_SL hS hW))
  · obtain ⟨Y2, _⟩ := id X2
    exact am_run (am_cK _) 1 (⟨fun z => absurd rfl z, fun _ => am_run (am_cK _) 2 (⟨Or.inl rfl, hf h2 F2 A2 a2 ha2 X2⟩)⟩)
theorem M_rank0 (ht : F 8 = nI t) (ht80 : t ≤ 40) (hx : TX A tx t) (I : CR h0 F A R tx t (d + 15) m 1) : C0 h0 F A R tx t (d + 16) m := by
  intro h F' A' a L W dep cmp Q hat hm X hR hW hcb hs hf
  obtain ⟨Y, _⟩ := id X
  have htx : ∀ i, i < t → tx i < 256 := fun i hi => (hx i hi).2
  have hc32 : cmp < 32 := hR.1.2.2.1
  refine en_X11_readsRank (Nat.le_of_ble_eq_true rfl) ?_
  refine am_run (am_cK _) 3 (⟨fun _ => ?_, fun z => absurd (show ¬ nI 0 = 3 by decide) z⟩)
  -- the loop
  have loop : ∀ (q : Nat) (h2 : am_H) (F2 : Nat → Int32) (A2 : Nat → Nat → Int32) (a2 : Nat) (L2 : List Nat) (v3 : Option Value), t - a2 ≤ q → a ≤ a2 → MS h0 h2 F F2 A A2 R a2 L2 dep → SL tx t a2 1 L2 W dep cmp → am_wp (am_call (d + 15)) (0, 0) cm_X11_readsRank Q (fun _ => False) (24, [some (.ref 152), some (.int (nI 0)), some (.int 1), v3], [], 0, 0) h2 := by
    intro q
    induction q with
    | zero =>
      intro h2 F2 A2 a2 L2 v3 hq ha2 X2 hS
      obtain ⟨Y2, x1, x2, x3, x4, x5, x6⟩ := id X2
      have hS0 := hS.1
      have e8 : F2 8 = nI t := (x1 8 (by decide) (by decide) (by decide)).trans ht
      have hx2 : TX A2 tx t := by
        unfold TX
        rw [x2 156 (by decide)]
        exact hx
      refine am_run (am_cK _) 2 (⟨fun z => absurd z n10, fun _ => ?_⟩)
      refine am_run (am_cK _) 3 (⟨fun z => absurd rfl z, fun _ => am_run (am_cK _) 3 (am_obj_in Y2.o ((M_takesOf (ti := 11) (L := 3) (ch := fun j => opS (0 + j)) Y2 x3 e8 (by omega) (by omega) hx2 (by decide) rfl (by decide) txt11 (fun k hk c e _ h3 Y3 => ?_) (fun c0 => ?_))))⟩)
      · omega
      · have hn : a2 < t → bnd (tx a2) ≠ 1 := fun c w => by
          rcases op_in1 _ (htx a2 c) w with e | e | e
          · exact c0 c 0 (by decide) e
          · exact c0 c 1 (by decide) e
          · exact c0 c 2 (by decide) e
        refine am_run (am_cK _) 1 (show am_wp (am_call (d + 15)) (0, 0) cm_X11_readsRank Q (fun _ => False) (54, [some (.ref 152), some (.int (nI 0)), some (.int 1), some (.int (-1))], [], 0, 0) h2 from ?_)
        exact am_run (am_cK _) 2 (⟨fun z => absurd z (show ¬ (0 : Int32) ≤ -1 by decide), fun _ => am_run (am_cK _) 2 (⟨Or.inr rfl, hs h2 F2 A2 a2 L2 ha2 X2 (SR_S0 htx (SL_SR hS hn))⟩)⟩)
    | succ q ih =>
      intro h2 F2 A2 a2 L2 v3 hq ha2 X2 hS
      obtain ⟨Y2, x1, x2, x3, x4, x5, x6⟩ := id X2
      have hS0 := hS.1
      have e8 : F2 8 = nI t := (x1 8 (by decide) (by decide) (by decide)).trans ht
      have hx2 : TX A2 tx t := by
        unfold TX
        rw [x2 156 (by decide)]
        exact hx
      refine am_run (am_cK _) 2 (⟨fun z => absurd z n10, fun _ => ?_⟩)
      refine am_run (am_cK _) 3 (⟨fun z => absurd rfl z, fun _ => am_run (am_cK _) 3 (am_obj_in Y2.o ((M_takesOf (ti := 11) (L := 3) (ch := fun j => opS (0 + j)) Y2 x3 e8 (by omega) (by omega) hx2 (by decide) rfl (by decide) txt11 (fun k hk c e _ h3 Y3 => ?_) (fun c0 => ?_))))⟩)
      rotate_left
      · have hn : a2 < t → bnd (tx a2) ≠ 1 := fun c w => by
          rcases op_in1 _ (htx a2 c) w with e | e | e
          · exact c0 c 0 (by decide) e
          · exact c0 c 1 (by decide) e
          · exact c0 c 2 (by decide) e
        refine am_run (am_cK _) 1 (show am_wp (am_call (d + 15)) (0, 0) cm_X11_readsRank Q (fun _ => False) (54, [some (.ref 152), some (.int (nI 0)), some (.int 1), some (.int (-1))], [], 0, 0) h2 from ?_)
        exact am_run (am_cK _) 2 (⟨fun z => absurd z (show ¬ (0 : Int32) ≤ -1 by decide), fun _ => am_run (am_cK _) 2 (⟨Or.inr rfl, hs h2 F2 A2 a2 L2 ha2 X2 (SR_S0 htx (SL_SR hS hn))⟩)⟩)
      have hbk : bnd (opS (0 + k)) = 1 := (by decide : ∀ k, k < 3 → bnd (opS (0 + k)) = 1) k hk
      obtain ⟨cmp2, hR2, hn1, hn2⟩ := SL_op (htx a2 c) hS (i := 0 + k) (by omega) e hbk (fun _ => hcb) hc32
      refine am_run (am_cK _) 1 (show am_wp (am_call (d + 15)) (0, 0) cm_X11_readsRank Q (fun _ => False) (54, [some (.ref 152), some (.int (nI 0)), some (.int 1), some (.int (nI k))], [], 0, 0) h3 from ?_)
      refine am_run (am_cK _) 2 (⟨fun _ => ?_, fun z => absurd (nI_pos' (by omega)) z⟩)
      refine am_run (am_cK _) 5 (am_obj_in Y3.o ((I h3 _ A2 (a2 + 1) L2 (opS (0 + k) :: W) dep cmp2 _ (by omega) (by omega) ⟨Y3, x1.up (Or.inl rfl), x2, rfl, x4, x5, x6⟩ hR2 (fun w W' ew => by cases ew; omega) (fun h4 F4 A4 a4 L4 ha4 X4 hS4 => ?_) (fun h4 F4 A4 a4 ha4 X4 => ?_))))
      · obtain ⟨Y4, _⟩ := id X4
        have hl4 := SR_len hS4
        have hS40 := hS4.1
        rw [List.length_cons] at hl4
        have hJ := SR_join (L := [opS (0 + k)]) (W := W) hS4 rfl (by omega) hbk hW
        refine am_run (am_cK _) 1 (⟨fun _ => ?_, fun z => absurd n10 z⟩)
        refine am_run (am_cK _) 6 (⟨fun z => absurd rfl z, fun _ => am_run (am_cK _) 4 (am_obj_in Y4.o ((M_codesL X4 (by omega) (c := 2000 + (0 + k)) (show (2000 : Int32) + nI k + nI 0 = nI (2000 + (0 + k)) by rw [show (2000 : Int32) = nI 2000 from rfl, nI_add, nI_add]; congr 1; omega) (fun h5 F5 A5 X5 => ?_))))⟩)
        obtain ⟨Y5, _⟩ := id X5
        refine am_run (am_cK _) 2 (⟨fun _ => ?_, fun z => absurd (show nI 0 ≤ 0 by decide) z⟩)
        refine am_run (am_cK _) 3 (show am_wp (am_call (d + 15)) (0, 0) cm_X11_readsRank Q (fun _ => False) (24, [some (.ref 152), some (.int (nI 0)), some (.int 0), some (.int (nI k))], [], 0, 0) h5 from ?_)
        refine am_run (am_cK _) 2 (⟨fun _ => am_run (am_cK _) 2 (⟨Or.inr rfl, hs h5 F5 A5 a4 _ (by omega) X5 (SL_S0 htx hJ (hn2 rfl).1 (hn2 rfl).2)⟩), fun z => absurd rfl z⟩)
      · obtain ⟨Y4, f1, f2, f3, ⟨len, f4, f5⟩, f6, f7⟩ := X4
        rw [List.length_cons] at f5
        exact am_run (am_cK _) 1 (⟨fun z => absurd rfl z, fun _ => am_run (am_cK _) 2 (⟨Or.inl rfl, hf h4 F4 A4 a4 (by omega) ⟨Y4, f1, f2, f3, ⟨len, f4, by omega⟩, f6, f7⟩⟩)⟩)
  refine am_run (am_cK _) 5 (am_obj_in Y.o ((show am_call (d + 15) 215 [.ref 152, .int (nI 1)] h _ from ?_)))
  refine I h F' A' a L W dep cmp _ hat hm X hR (Tp_up hW (by decide)) (fun h2 F2 A2 a2 L2 ha2 X2 hS => ?_) (fun h2 F2 A2 a2 ha2 X2 => ?_)
  · obtain ⟨Y2, _⟩ := id X2
    refine am_run (am_cK _) 1 (⟨fun _ => ?_, fun z => absurd n10 z⟩)
    exact am_run (am_cK _) 2 (loop (t - a2) h2 F2 A2 a2 L2 none (Nat.le_refl _) ha2 X2 (SR_SL hS hW))
  · obtain ⟨Y2, _⟩ := id X2
    exact am_run (am_cK _) 1 (⟨fun z => absurd rfl z, fun _ => am_run (am_cK _) 2 (⟨Or.inl rfl, hf h2 F2 A2 a2 ha2 X2⟩)⟩)
end
