/-! how the class reads a rule, sign by sign: where the model's reading stands beside it -/
def Rc (tx : Nat → Nat) (a : Nat) (s : Ru) : Prop := Uok s a ∧ ∀ t, a ≤ t → rdL tx t 0 ru0 = rdL tx (t - a) a s
/-- the reading ends at a: there is no such sign, or the text is over too early -/
def Fl (tx : Nat → Nat) (t a : Nat) : Prop := (a < t ∧ rdL tx t 0 ru0 = (a, none)) ∨ (a = t ∧ ∃ s : Ru, rdL tx t 0 ru0 = (t, some s) ∧ (s.2.2.2.2.2 = true ∨ 0 < s.2.2.1))
def Tp (W : List Nat) (b : Nat) : Prop := ∀ w W', W = w :: W' → bnd w < b
section
variable {tx : Nat → Nat} {a t b : Nat} {s s' : Ru} {L W : List Nat}
theorem Rc_0 : Rc tx 0 ru0 := ⟨⟨by decide, by decide, by decide, by decide, fun w hw => (by cases hw), by decide, fun h => absurd h (by decide), fun _ => rfl⟩, fun t _ => by rw [Nat.sub_zero]⟩
theorem Rc_s (hx : tx a < 256) (h : Rc tx a s) (hk : tk s (tx a) = some s') : Rc tx (a + 1) s' := ⟨tk_ok hx h.1 hk, fun t ht => by
  rw [h.2 t (by omega), show t - a = (t - (a + 1)) + 1 by omega, rdL, hk]⟩
theorem Rc_f (h : Rc tx a s) (ha : a < t) (hk : tk s (tx a) = none) : Fl tx t a := Or.inl ⟨ha, by
  rw [h.2 t (by omega), show t - a = (t - (a + 1)) + 1 by omega, rdL, hk]⟩
theorem Rc_e (h : Rc tx t s) : rdL tx t 0 ru0 = (t, some s) := by
  rw [h.2 t (Nat.le_refl _), Nat.sub_self, rdL]
/-- it ends at a, where the text is over or the next sign is refused -/
theorem Rc_fl (h : Rc tx a s) (ha : a ≤ t) (h1 : a < t → tk s (tx a) = none) (h2 : a = t → (s.2.2.2.2.2 = true ∨ 0 < s.2.2.1)) : Fl tx t a := by
  by_cases c : a < t
  · exact Rc_f h c (h1 c)
  · have e : a = t := by omega
    subst e
    exact Or.inr ⟨rfl, s, Rc_e h, h2 rfl⟩
theorem stl_t (h : Tp W b) : stl b L W = (L, W) := by
  cases W with
  | nil => rfl
  | cons w W' =>
    have := h w W' rfl
    rw [stl, if_neg (by omega)]
theorem stl_c {b' : Nat} (hb : b ≤ b') : ∀ (W L : List Nat), stl b (stl b' L W).1 (stl b' L W).2 = stl b L W
  | [], L => rfl
  | w :: W, L => by
    by_cases c : b' ≤ bnd w
    · have e : stl b' L (w :: W) = stl b' (opc w :: L) W := by rw [stl, if_pos c]
      rw [e, stl_c hb W (opc w :: L)]
      exact (show stl b L (w :: W) = stl b (opc w :: L) W by rw [stl, if_pos (by omega)]).symm
    · have e : stl b' L (w :: W) = (L, w :: W) := by rw [stl, if_neg c]
      rw [e]
theorem rep_sh (k x : Nat) (L : List Nat) : List.replicate k x ++ x :: L = List.replicate (k + 1) x ++ L := by
  rw [List.replicate_succ', List.append_assoc]
  rfl
theorem stl_r (hb : b ≤ 4) : ∀ (k : Nat) (L W : List Nat), stl b L (List.replicate k 126 ++ W) = stl b (List.replicate k 3000 ++ L) W
  | 0, L, W => rfl
  | k + 1, L, W => by
    rw [← rep_sh k 3000 L, ← stl_r hb k (3000 :: L) W]
    show stl b L (126 :: (List.replicate k 126 ++ W)) = _
    rw [stl, if_pos (show b ≤ bnd 126 from hb)]
    rfl
end
/-- a thing was read up to a: its codes Lm -/
def ST (tx : Nat → Nat) (t a : Nat) (Lm W : List Nat) (dep cmp : Nat) : Prop := a ≤ t ∧ ∃ k L1 dig1 cmp1, Rc tx a (L1, List.replicate k 126 ++ W, dep, dig1, cmp1, false) ∧ Lm = List.replicate k 3000 ++ L1 ∧ (∀ j, j ≤ dep → cmp1.testBit j = cmp.testBit j) ∧ (a < t → isD (tx a) = true → ¬ (dig1 = 1 ∨ dig1 = 2))
/-- a row of things joined by what binds b or more -/
def SR (tx : Nat → Nat) (t a b : Nat) (Lm W : List Nat) (dep cmp : Nat) : Prop := a ≤ t ∧ ∃ L1 W1 dig1 cmp1, Rc tx a (L1, W1, dep, dig1, cmp1, false) ∧ stl b L1 W1 = (Lm, W) ∧ (∀ j, j ≤ dep → cmp1.testBit j = cmp.testBit j) ∧ (a < t → isD (tx a) = true → ¬ (dig1 = 1 ∨ dig1 = 2)) ∧ (a < t → ¬ (b ≤ bnd (tx a) ∧ bnd (tx a) ≤ 3))
/-- the whole inside of a bracket -/
def S0 (tx : Nat → Nat) (t a : Nat) (Lm W : List Nat) (dep cmp : Nat) : Prop := a ≤ t ∧ ∃ L1 W1 dig1 cmp1, Rc tx a (L1, W1, dep, dig1, cmp1, false) ∧ stl 1 L1 W1 = (Lm, W) ∧ (∀ j, j < dep → cmp1.testBit j = cmp.testBit j) ∧ (a < t → tx a ≠ 41 → tk (L1, W1, dep, dig1, cmp1, false) (tx a) = none)
section
variable {tx : Nat → Nat} {a t b dep cmp : Nat} {Lm W L : List Nat}
theorem Tp_up {b' : Nat} (h : Tp W b) (hb : b ≤ b') : Tp W b' := fun w W' e => Nat.lt_of_lt_of_le (h w W' e) hb
theorem ST_SR (h : ST tx t a Lm W dep cmp) (hW : Tp W 4) : SR tx t a 4 Lm W dep cmp := by
  obtain ⟨h0, k, L1, dig1, cmp1, h1, h2, h3, h4⟩ := h
  refine ⟨h0, L1, _, dig1, cmp1, h1, ?_, h3, h4, fun _ w => by omega⟩
  rw [stl_r (Nat.le_refl _), ← h2, stl_t hW]
theorem Rc_len {s : Ru} (h : Rc tx a s) : s.1.length + s.2.1.length ≤ a := h.1.1
theorem ST_len (h : ST tx t a Lm W dep cmp) : Lm.length + W.length ≤ a := by
  obtain ⟨h0, k, L1, dig1, cmp1, h1, h2, h3, h4⟩ := h
  have := Rc_len h1
  simp only [List.length_append, List.length_replicate] at this
  rw [h2, List.length_append, List.length_replicate]
  omega
theorem stl_sum {L1 W1 : List Nat} (h : stl b L1 W1 = (Lm, W)) : Lm.length + W.length = L1.length + W1.length := by
  have := stl_len b W1 L1
  rw [h] at this
  exact this
theorem SR_len (h : SR tx t a b Lm W dep cmp) : Lm.length + W.length ≤ a := by
  obtain ⟨h0, L1, W1, dig1, cmp1, h1, h2, h3, h4⟩ := h
  have e1 := Rc_len h1
  have e2 := stl_sum h2
  simp only at e1
  omega
theorem S0_len (h : S0 tx t a Lm W dep cmp) : Lm.length + W.length ≤ a := by
  obtain ⟨h0, L1, W1, dig1, cmp1, h1, h2, h3, h4⟩ := h
  have e1 := Rc_len h1
  have e2 := stl_sum h2
  simp only at e1
  omega
theorem tk_nd {s : Ru} {x : Nat} (hx : isD x = false) : tk s x = if s.2.2.2.2.2 then tkT s x else tkO s x := by
  unfold tk
  rw [if_neg (of_decide_eq_false hx)]
/-- a less -/
theorem Rc_less (hx : tx a < 256) (h : Rc tx a (L, W, dep, 0, cmp, true)) (e : tx a = 45) : Rc tx (a + 1) (L, 126 :: W, dep, 0, cmp, true) := Rc_s hx h (by rw [e]; rfl)
theorem cl_bit : ∀ m, m < 32 → ∀ k, k < 5 → ∀ j, j < 5 → (clB m k).testBit j = (m.testBit j && !(j == k)) := by decide +kernel
theorem st_bit : ∀ m, m < 32 → ∀ k, k < 5 → ∀ j, j < 5 → (stB m k).testBit j = (m.testBit j || j == k) := by decide +kernel
/-- a bracket is opened -/
theorem Rc_open (hx : tx a < 256) (h : Rc tx a (L, W, dep, 0, cmp, true)) (e : tx a = 40) (hd : dep < 4) : Rc tx (a + 1) (L, 40 :: W, dep + 1, 0, clB cmp (dep + 1), true) := Rc_s hx h (by
  rw [e]
  show (if 4 ≤ dep then none else some (L, 40 :: W, dep + 1, 0, clB cmp (dep + 1), true)) = _
  rw [if_neg (by omega)])
/-- what is asked -/
theorem Rc_trait (hx : tx a < 256) (h : Rc tx a (L, W, dep, 0, cmp, true)) {k : Nat} (hk : k < 7) (e : trS k = tx a) : Rc tx (a + 1) ((1000 + k) :: L, W, dep, 0, cmp, false) := Rc_s hx h (by
  rw [← e]
  have key : ∀ k, k < 7 → isD (trS k) = false ∧ trS k ≠ 45 ∧ trS k ≠ 40 ∧ trt (trS k) = true ∧ trX (trS k) = k := by decide
  obtain ⟨k1, k2, k3, k4, k5⟩ := key k hk
  rw [tk_nd k1]
  show (if trS k = 45 then some (L, 126 :: W, dep, 0, cmp, true) else if trS k = 40 then (if 4 ≤ dep then none else some (L, 40 :: W, dep + 1, 0, clB cmp (dep + 1), true)) else if trt (trS k) then some ((1000 + trX (trS k)) :: L, W, dep, 0, cmp, false) else none) = _
  rw [if_neg k2, if_neg k3, if_pos k4, k5])
/-- a number -/
theorem Rc_dig (hx : ∀ i, i < t → tx i < 256) : ∀ (r a v dig : Nat), dig + r = 3 → 1 ≤ dig → a ≤ t → Rc tx a (v :: L, W, dep, dig, cmp, false) → (numL tx t r a v).2 ≤ t ∧ a ≤ (numL tx t r a v).2 ∧ ∃ dig', Rc tx (numL tx t r a v).2 ((numL tx t r a v).1 :: L, W, dep, dig', cmp, false) ∧ ((numL tx t r a v).2 < t → isD (tx (numL tx t r a v).2) = true → ¬ (dig' = 1 ∨ dig' = 2))
  | 0, a, v, dig, hd, h1, hat, h => ⟨hat, Nat.le_refl _, dig, h, fun _ _ => by omega⟩
  | r + 1, a, v, dig, hd, h1, hat, h => by
    rw [numL]
    by_cases c : a < t ∧ isD (tx a) = true
    · rw [if_pos c]
      have h2 := of_decide_eq_true c.2
      have hs : tk (v :: L, W, dep, dig, cmp, false) (tx a) = some ((10 * v + tx a - 48) :: L, W, dep, dig + 1, cmp, false) := by
        unfold tk
        rw [if_pos h2]
        show (if dig = 1 ∨ dig = 2 then some ((v * 10 + (tx a - 48)) :: L, W, dep, dig + 1, cmp, false) else none) = _
        rw [if_pos (by omega), show v * 10 + (tx a - 48) = 10 * v + tx a - 48 by omega]
      obtain ⟨q1, q2, q3⟩ := Rc_dig hx r (a + 1) (10 * v + tx a - 48) (dig + 1) (by omega) (by omega) (by omega) (Rc_s (hx a c.1) h hs)
      exact ⟨q1, by omega, q3⟩
    · rw [if_neg c]
      exact ⟨hat, Nat.le_refl _, dig, h, fun q1 q2 => absurd ⟨q1, q2⟩ c⟩
theorem Rc_num (hx : ∀ i, i < t → tx i < 256) (h : Rc tx a (L, W, dep, 0, cmp, true)) (ha : a < t) (hd : isD (tx a) = true) : a ≤ (numL tx t 3 a 0).2 ∧ ST tx t (numL tx t 3 a 0).2 ((numL tx t 3 a 0).1 :: L) W dep cmp := by
  have h2 := of_decide_eq_true hd
  have hs : tk (L, W, dep, 0, cmp, true) (tx a) = some ((10 * 0 + tx a - 48) :: L, W, dep, 1, cmp, false) := by
    unfold tk
    rw [if_pos h2, show 10 * 0 + tx a - 48 = tx a - 48 by omega]
    rfl
  rw [numL, if_pos ⟨ha, hd⟩]
  obtain ⟨q1, q2, dig', q3, q4⟩ := Rc_dig hx 2 (a + 1) (10 * 0 + tx a - 48) 1 rfl (by omega) (by omega) (Rc_s (hx a ha) h hs)
  exact ⟨by omega, q1, 0, _, dig', cmp, q3, rfl, fun _ _ => rfl, q4⟩
/-- nothing can stand here -/
theorem Rc_noT (h : Rc tx a (L, W, dep, 0, cmp, true)) (ha : a ≤ t) (h1 : ¬ (a < t ∧ tx a = 45)) (h2 : ¬ (a < t ∧ isD (tx a) = true)) (h3 : a < t → ∀ k, k < 7 → trS k ≠ tx a) (h4 : ¬ (a < t ∧ tx a = 40) ∨ 4 ≤ dep) : Fl tx t a := by
  refine Rc_fl h ha (fun c => ?_) (fun _ => Or.inl rfl)
  have hd : isD (tx a) = false := by
    cases e : isD (tx a) with
    | false => rfl
    | true => exact absurd ⟨c, e⟩ h2
  rw [tk_nd hd]
  show (if tx a = 45 then some (L, 126 :: W, dep, 0, cmp, true) else if tx a = 40 then (if 4 ≤ dep then none else some (L, 40 :: W, dep + 1, 0, clB cmp (dep + 1), true)) else if trt (tx a) then some ((1000 + trX (tx a)) :: L, W, dep, 0, cmp, false) else none) = none
  rw [if_neg (fun e => h1 ⟨c, e⟩)]
  have ht : trt (tx a) = false := by
    cases e : trt (tx a) with
    | false => rfl
    | true =>
      have q0 := h3 c 0 (by decide)
      have q1 := h3 c 1 (by decide)
      have q2 := h3 c 2 (by decide)
      have q3 := h3 c 3 (by decide)
      have q4 := h3 c 4 (by decide)
      have q5 := h3 c 5 (by decide)
      have q6 := h3 c 6 (by decide)
      unfold trt at e
      simp only [Bool.or_eq_true, beq_iff_eq] at e
      rcases e with ((((((e | e) | e) | e) | e) | e) | e)
      · exact absurd e.symm q0
      · exact absurd e.symm q1
      · exact absurd e.symm q2
      · exact absurd e.symm q3
      · exact absurd e.symm q4
      · exact absurd e.symm q5
      · exact absurd e.symm q6
  by_cases e4 : tx a = 40
  · rw [if_pos e4]
    rcases h4 with h4 | h4
    · exact absurd ⟨c, e4⟩ h4
    · rw [if_pos h4]
  · rw [if_neg e4, ht]
    rfl
/-- a bracket is closed -/
theorem Rc_close (hx : tx a < 256) (hat : a < t) (h : S0 tx t a Lm (40 :: W) (dep + 1) (clB cmp (dep + 1))) (hc : cmp < 32) (hd : dep < 4) (e : tx a = 41) (hn : a + 1 ≤ t) : ST tx t (a + 1) Lm W dep cmp := by
  obtain ⟨h0, L1, W1, dig1, cmp1, h1, h2, h3, h4⟩ := h
  refine ⟨hn, 0, Lm, 0, cmp1, Rc_s hx h1 ?_, rfl, fun j hj => ?_, fun _ _ w => by omega⟩
  · rw [e]
    show (if dep + 1 = 0 then none else some ((stl 1 L1 W1).1, (stl 1 L1 W1).2.tail, dep + 1 - 1, 0, cmp1, false)) = _
    rw [if_neg (by omega), h2]
    rfl
  · rw [h3 j (by omega), cl_bit cmp hc (dep + 1) (by omega) j (by omega), show (j == dep + 1) = false from beq_eq_false_iff_ne.mpr (by omega)]
    simp
theorem S0_noC (h : S0 tx t a Lm W (dep + 1) cmp) (e : ¬ (a < t ∧ tx a = 41)) : Fl tx t a := by
  obtain ⟨h0, L1, W1, dig1, cmp1, h1, h2, h3, h4⟩ := h
  exact Rc_fl h1 h0 (fun c => h4 c (fun w => e ⟨c, w⟩)) (fun _ => Or.inr (Nat.succ_pos _))
end
