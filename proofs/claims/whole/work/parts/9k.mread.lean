/-! THE MODEL reads a rule -/
def KFr (F F' : Nat → Int32) : Prop := ∀ i, i ≠ 7 → i ≠ 9 → i ≠ 17 → F' i = F i
def KAr (A A' : Nat → Nat → Int32) : Prop := ∀ k, k ≠ 160 → A' k = A k
theorem KFr.up {F F' : Nat → Int32} (h : KFr F F') {i : Nat} {x : Int32} (hi : i = 7 ∨ i = 9 ∨ i = 17) : KFr F (upd F' i x) := fun j j1 j2 j3 => (upd_n (by rcases hi with rfl | rfl | rfl <;> assumption)).trans (h j j1 j2 j3)
def MS (h0 h : am_H) (F F' : Nat → Int32) (A A' : Nat → Nat → Int32) (R : Nat → Int64) (a : Nat) (L : List Nat) (dep : Nat) : Prop := RM h0 h F' A' R ∧ KFr F F' ∧ KAr A A' ∧ F' 7 = nI a ∧ F' 9 = nI dep ∧ F' 17 = nI L.length ∧ Ar (A' 160) nI L
/-- what holds where the reading has failed -/
def MF (h0 h : am_H) (F F' : Nat → Int32) (A A' : Nat → Nat → Int32) (R : Nat → Int64) (tx : Nat → Nat) (t a w : Nat) : Prop := RM h0 h F' A' R ∧ KFr F F' ∧ KAr A A' ∧ F' 7 = nI a ∧ (∃ len, F' 17 = nI len ∧ len + w ≤ a) ∧ Fl tx t a ∧ a ≤ t
section
variable {h0 h : am_H} {Q : Option Value → am_H → Prop} {F F' : Nat → Int32} {A A' : Nat → Nat → Int32} {R : Nat → Int64} {tx : Nat → Nat} {t : Nat}
/-- a thing is read, with at most m signs to come -/
def CT (h0 : am_H) (F : Nat → Int32) (A : Nat → Nat → Int32) (R : Nat → Int64) (tx : Nat → Nat) (t D m : Nat) : Prop := ∀ (h : am_H) (F' : Nat → Int32) (A' : Nat → Nat → Int32) (a : Nat) (L W : List Nat) (dep cmp : Nat) (Q : Option Value → am_H → Prop), a ≤ t → t - a ≤ m → MS h0 h F F' A A' R a L dep → Rc tx a (L, W, dep, 0, cmp, true) →
  (∀ h2 F2 A2 a2 L2, a ≤ a2 → MS h0 h2 F F2 A A2 R a2 L2 dep → ST tx t a2 L2 W dep cmp → Q (some (.int 1)) h2) →
  (∀ h2 F2 A2 a2, a ≤ a2 → MF h0 h2 F F2 A A2 R tx t a2 W.length → Q (some (.int 0)) h2) → am_call D 214 [.ref 152] h Q
/-- a row of things joined by what binds b or more, b = r + 1 -/
def CR (h0 : am_H) (F : Nat → Int32) (A : Nat → Nat → Int32) (R : Nat → Int64) (tx : Nat → Nat) (t D m r : Nat) : Prop := ∀ (h : am_H) (F' : Nat → Int32) (A' : Nat → Nat → Int32) (a : Nat) (L W : List Nat) (dep cmp : Nat) (Q : Option Value → am_H → Prop), a ≤ t → t - a ≤ m → MS h0 h F F' A A' R a L dep → Rc tx a (L, W, dep, 0, cmp, true) → Tp W (r + 1) →
  (∀ h2 F2 A2 a2 L2, a ≤ a2 → MS h0 h2 F F2 A A2 R a2 L2 dep → SR tx t a2 (r + 1) L2 W dep cmp → Q (some (.int 1)) h2) →
  (∀ h2 F2 A2 a2, a ≤ a2 → MF h0 h2 F F2 A A2 R tx t a2 W.length → Q (some (.int 0)) h2) → am_call D 215 [.ref 152, .int (nI r)] h Q
/-- what stands in a bracket, or the whole -/
def C0 (h0 : am_H) (F : Nat → Int32) (A : Nat → Nat → Int32) (R : Nat → Int64) (tx : Nat → Nat) (t D m : Nat) : Prop := ∀ (h : am_H) (F' : Nat → Int32) (A' : Nat → Nat → Int32) (a : Nat) (L W : List Nat) (dep cmp : Nat) (Q : Option Value → am_H → Prop), a ≤ t → t - a ≤ m → MS h0 h F F' A A' R a L dep → Rc tx a (L, W, dep, 0, cmp, true) → Tp W 1 → cmp.testBit dep = false →
  (∀ h2 F2 A2 a2 L2, a ≤ a2 → MS h0 h2 F F2 A A2 R a2 L2 dep → S0 tx t a2 L2 W dep cmp → Q (some (.int 1)) h2) →
  (∀ h2 F2 A2 a2, a ≤ a2 → MF h0 h2 F F2 A A2 R tx t a2 W.length → Q (some (.int 0)) h2) → am_call D 215 [.ref 152, .int (nI 0)] h Q
theorem M_codes {d len : Nat} (W : RM h0 h F A R) (hl : F 17 = nI len) (h80 : len < 80) (x : Int32) (hQ : ∀ h', RM h0 h' (upd F 17 (nI (len + 1))) (va_up A 160 (upd (A 160) len x)) R → Q none h') : am_call (d + 1) 213 [.ref 152, .int x] h Q := by
  refine en_X11_codes (Nat.le_of_ble_eq_true rfl) ?_
  refine am_run (am_cK _) 2 (am_obj_in W.o (am_run (am_cK _) 2 (am_obj_in W.o (am_run (am_cK _) 2 (am_stI (p := 160) W (j := len) hl (show len < 80 by omega) rfl (fun h1 W1 => ?_))))))
  refine am_run (am_cK _) 3 (am_obj_in W1.o (am_run (am_cK _) 3 (am_putI W1 rfl (by decide) (fun h2 W2 => ?_))))
  rw [hl, nI_1] at W2
  exact am_run (am_cK _) 1 (hQ h2 W2)
theorem M_codesL {d a dep : Nat} {L : List Nat} (X : MS h0 h F F' A A' R a L dep) (h80 : L.length < 80) {x : Int32} {c : Nat} (hx : x = nI c) (hQ : ∀ h2 F2 A2, MS h0 h2 F F2 A A2 R a (c :: L) dep → Q none h2) : am_call (d + 1) 213 [.ref 152, .int x] h Q := by
  obtain ⟨W, x1, x2, x3, x4, x5, x6⟩ := X
  refine M_codes W x5 h80 x (fun h2 W2 => hQ h2 _ _ ⟨W2, x1.up (Or.inr (Or.inr rfl)), fun k hk => (am_up_n hk).trans (x2 k hk), x3, x4, rfl, ?_⟩)
  rw [am_up_s]
  exact Ar_push x6 hx
theorem txt10 : ∀ j, j < 7 → (am_txt 10).getD j 0 = nI (trS j) ∧ trS j < 256 := by decide
theorem M_thing {d m : Nat} (ht : F 8 = nI t) (ht80 : t ≤ 40) (hx : TX A tx t) (I1 : m ≠ 0 → CT h0 F A R tx t (d + 11) (m - 1)) (I0 : m ≠ 0 → C0 h0 F A R tx t (d + 11) (m - 1)) : CT h0 F A R tx t (d + 12) m := by
  intro h F' A' a L W dep cmp Q hat hm X hR hs hf
  obtain ⟨Y, x1, x2, x3, x4, x5, x6⟩ := id X
  have htx : ∀ i, i < t → tx i < 256 := fun i hi => (hx i hi).2
  have e8 : F' 8 = nI t := (x1 8 (by decide) (by decide) (by decide)).trans ht
  have hx' : TX A' tx t := by
    unfold TX
    rw [x2 156 (by decide)]
    exact hx
  have hlen := Rc_len hR
  simp only at hlen
  refine en_X11_readsThing (Nat.le_of_ble_eq_true rfl) ?_
  refine am_run (am_cK _) 3 (am_obj_in Y.o ((M_takes (s := 45) Y x3 e8 (by omega) (by omega) hx' (by decide) (fun c e h1 Y1 => ?_) (fun c1 h1 Y1 => ?_))))
  · -- less
    refine am_run (am_cK _) 1 (⟨fun z => absurd z n10, fun _ => ?_⟩)
    refine am_run (am_cK _) 2 (am_obj_in Y1.o ((I1 (by omega) h1 _ A' (a + 1) L (126 :: W) dep cmp _ (by omega) (by omega) ⟨Y1, x1.up (Or.inl rfl), x2, rfl, x4, x5, x6⟩ (Rc_less (htx a c) hR e) (fun h2 F2 A2 a2 L2 ha2 X2 hS => ?_) (fun h2 F2 A2 a2 ha2 X2 => ?_))))
    · have hl2 := ST_len hS
      rw [List.length_cons] at hl2
      have hS0 := hS.1
      obtain ⟨Y2, _⟩ := id X2
      refine am_run (am_cK _) 1 (show am_wp (am_call (d + 11)) (0, 0) cm_X11_readsThing Q (fun _ => False) (14, [some (.ref 152), some (.int 1)], [], 0, 0) h2 from ?_)
      refine am_run (am_cK _) 3 (am_obj_in Y2.o ((M_codesL X2 (by omega) (x := 3000) (c := 3000) rfl (fun h3 F3 A3 X3 => ?_))))
      obtain ⟨Y3, _⟩ := id X3
      refine am_run (am_cK _) 2 (⟨Or.inr rfl, hs h3 F3 A3 a2 _ (by omega) X3 ?_⟩)
      obtain ⟨q0, k, L1, dig1, cmp1, q1, q2, q3, q4⟩ := hS
      refine ⟨q0, k + 1, L1, dig1, cmp1, ?_, ?_, q3, q4⟩
      · rw [← rep_sh k 126 W]; exact q1
      · rw [q2]; rfl
    · obtain ⟨Y2, f1, f2, f3, ⟨len, f4, f5⟩, f6, f7⟩ := X2
      rw [List.length_cons] at f5
      refine am_run (am_cK _) 1 (show am_wp (am_call (d + 11)) (0, 0) cm_X11_readsThing Q (fun _ => False) (14, [some (.ref 152), some (.int 0)], [], 0, 0) h2 from ?_)
      refine am_run (am_cK _) 3 (am_obj_in Y2.o ((M_codes Y2 f4 (by omega) _ (fun h3 Y3 => ?_))))
      exact am_run (am_cK _) 2 (⟨Or.inl rfl, hf h3 _ _ a2 (by omega) ⟨Y3, f1.up (Or.inr (Or.inr rfl)), fun k hk => (am_up_n hk).trans (f2 k hk), f3, ⟨len + 1, rfl, by omega⟩, f6, f7⟩⟩)
  refine am_run (am_cK _) 1 (⟨fun _ => ?_, fun z => absurd rfl z⟩)
  have X1 : MS h0 h1 F F' A A' R a L dep := ⟨Y1, x1, x2, x3, x4, x5, x6⟩
  refine am_run (am_cK _) 2 (am_obj_in Y1.o ((M_isDigit Y1 x3 e8 (by omega) (by omega) hx' (fun c e => ?_) (fun c2 => ?_))))
  · -- a number
    refine am_run (am_cK _) 1 (⟨fun z => absurd z n10, fun _ => ?_⟩)
    have hN := Rc_num htx hR c e
    have hl2 := ST_len hN.2
    rw [List.length_cons] at hl2
    have hS0 := hN.2.1
    refine am_run (am_cK _) 4 (am_obj_in Y1.o ((M_number (k := 3) Y1 x3 e8 (by omega) hat hx' (by omega) (fun _ _ h2 Y2 => ?_) (fun w => absurd ⟨c, e⟩ w))))
    have X2 : MS h0 h2 F (upd F' 7 (nI (numL tx t 3 a 0).2)) A A' R (numL tx t 3 a 0).2 L dep := ⟨Y2, x1.up (Or.inl rfl), x2, rfl, x4, x5, x6⟩
    refine am_run (am_cK _) 1 (am_obj_in Y2.o ((M_codesL X2 (by omega) rfl (fun h3 F3 A3 X3 => ?_))))
    obtain ⟨Y3, _⟩ := id X3
    exact am_run (am_cK _) 2 (⟨Or.inr rfl, hs h3 F3 A3 _ _ hN.1 X3 hN.2⟩)
  refine am_run (am_cK _) 1 (⟨fun _ => ?_, fun z => absurd rfl z⟩)
  refine am_run (am_cK _) 3 (am_obj_in Y1.o ((M_takesOf (ti := 10) (L := 7) (ch := trS) Y1 x3 e8 (by omega) (by omega) hx' (by decide) rfl (by decide) txt10 (fun k hk c e _ h2 Y2 => ?_) (fun c3 => ?_))))
  · -- what is asked
    have hT := Rc_trait (htx a c) hR hk e
    have X2 : MS h0 h2 F (upd F' 7 (nI (a + 1))) A A' R (a + 1) L dep := ⟨Y2, x1.up (Or.inl rfl), x2, rfl, x4, x5, x6⟩
    refine am_run (am_cK _) 1 (show am_wp (am_call (d + 11)) (0, 0) cm_X11_readsThing Q (fun _ => False) (48, [some (.ref 152), some (.int (nI k))], [], 0, 0) h2 from ?_)
    refine am_run (am_cK _) 2 (pk_lt k 0 (fun c => by omega) (fun _ => ?_))
    refine am_run (am_cK _) 5 (am_obj_in Y2.o ((M_codesL X2 (by omega) (c := 1000 + k) (nI_add 1000 k) (fun h3 F3 A3 X3 => ?_))))
    obtain ⟨Y3, _⟩ := id X3
    exact am_run (am_cK _) 2 (⟨Or.inr rfl, hs h3 F3 A3 (a + 1) _ (by omega) X3 ⟨by omega, 0, _, 0, cmp, hT, rfl, fun _ _ => rfl, fun _ _ w => by omega⟩⟩)
  refine am_run (am_cK _) 1 (show am_wp (am_call (d + 11)) (0, 0) cm_X11_readsThing Q (fun _ => False) (48, [some (.ref 152), some (.int (-1))], [], 0, 0) h1 from ?_)
  refine am_run (am_cK _) 2 (⟨fun _ => ?_, fun z => absurd (show (-1 : Int32) < 0 by decide) z⟩)
  have hd4 : dep ≤ 4 := hR.1.2.1
  have hc32 : cmp < 32 := hR.1.2.2.1
  have nope : (¬ (a < t ∧ tx a = 40) ∨ 4 ≤ dep) → Q (some (.int 0)) h1 := fun c4 => hf h1 F' A' a (Nat.le_refl _) ⟨Y1, x1, x2, x3, ⟨L.length, x5, hlen⟩, Rc_noT hR hat c1 c2 c3 c4, hat⟩
  refine am_run (am_cK _) 2 (am_obj_in Y1.o (am_run (am_cK _) 2 (pk_eq dep 4 (fun e => ?_) (fun e => ?_) (hx := x4))))
  · exact am_run (am_cK _) 2 (⟨Or.inl rfl, nope (Or.inr (by omega))⟩)
  refine am_run (am_cK _) 3 (am_obj_in Y1.o ((M_takes (s := 40) Y1 x3 e8 (by omega) (by omega) hx' (by decide) (fun c e h2 Y2 => ?_) (fun c4 h2 Y2 => ?_))))
  rotate_left
  · exact am_run (am_cK _) 1 (⟨fun z => absurd rfl z, fun _ => am_run (am_cK _) 2 (⟨Or.inl rfl, hf h2 F' A' a (Nat.le_refl _) ⟨Y2, x1, x2, x3, ⟨L.length, x5, hlen⟩, Rc_noT hR hat c1 c2 c3 (Or.inl c4), hat⟩⟩)⟩)
  -- a bracket
  refine am_run (am_cK _) 1 (⟨fun _ => ?_, fun z => absurd n10 z⟩)
  refine am_run (am_cK _) 3 (am_obj_in Y2.o (am_run (am_cK _) 3 (am_putI Y2 rfl (by decide) (fun h3 Y3 => ?_))))
  have e9 : upd F' 7 (nI (a + 1)) 9 + 1 = nI (dep + 1) := by
    rw [show upd F' 7 (nI (a + 1)) 9 = F' 9 from rfl, x4, nI_1]
  rw [e9] at Y3
  have hO := Rc_open (htx a c) hR e (by omega)
  refine am_run (am_cK _) 3 (am_obj_in Y3.o ((I0 (by omega) h3 _ A' (a + 1) L (40 :: W) (dep + 1) (clB cmp (dep + 1)) _ (by omega) (by omega) ⟨Y3, (x1.up (Or.inl rfl)).up (Or.inr (Or.inl rfl)), x2, rfl, rfl, x5, x6⟩ hO (fun w W' ew => by cases ew; decide) (by rw [cl_bit cmp hc32 (dep + 1) (by omega) (dep + 1) (by omega)]; simp) (fun h4 F4 A4 a4 L4 ha4 X4 hS => ?_) (fun h4 F4 A4 a4 ha4 X4 => ?_))))
  · obtain ⟨Y4, y1, y2, y3, y4, y5, y6⟩ := id X4
    have hS0 := hS.1
    have hl4 := S0_len hS
    rw [List.length_cons] at hl4
    have f8 : F4 8 = nI t := (y1 8 (by decide) (by decide) (by decide)).trans ht
    have hx4 : TX A4 tx t := by
      unfold TX
      rw [y2 156 (by decide)]
      exact hx
    refine am_run (am_cK _) 1 (⟨fun z => absurd z n10, fun _ => ?_⟩)
    refine am_run (am_cK _) 3 (am_obj_in Y4.o ((M_takes (s := 41) Y4 y3 f8 (by omega) (by omega) hx4 (by decide) (fun c5 e5 h5 Y5 => ?_) (fun c5 h5 Y5 => ?_))))
    · refine am_run (am_cK _) 1 (⟨fun _ => ?_, fun z => absurd n10 z⟩)
      refine am_run (am_cK _) 3 (am_obj_in Y5.o (am_run (am_cK _) 3 (am_putI Y5 rfl (by decide) (fun h6 Y6 => ?_))))
      have e9' : upd F4 7 (nI (a4 + 1)) 9 - 1 = nI dep := by
        rw [show upd F4 7 (nI (a4 + 1)) 9 = F4 9 from rfl, y4, nI_pred]
      rw [e9'] at Y6
      exact am_run (am_cK _) 2 (⟨Or.inr rfl, hs h6 _ A4 (a4 + 1) L4 (by omega) ⟨Y6, (y1.up (Or.inl rfl)).up (Or.inr (Or.inl rfl)), y2, rfl, rfl, y5, y6⟩ (Rc_close (htx a4 c5) c5 hS hc32 (by omega) e5 (by omega))⟩)
    · exact am_run (am_cK _) 1 (⟨fun z => absurd rfl z, fun _ => am_run (am_cK _) 2 (⟨Or.inl rfl, hf h5 F4 A4 a4 (by omega) ⟨Y5, y1, y2, y3, ⟨L4.length, y5, by omega⟩, S0_noC hS c5, hS0⟩⟩)⟩)
  · obtain ⟨Y4, f1, f2, f3, ⟨len, f4, f5⟩, f6, f7⟩ := X4
    rw [List.length_cons] at f5
    exact am_run (am_cK _) 1 (⟨fun _ => am_run (am_cK _) 2 (⟨Or.inl rfl, hf h4 F4 A4 a4 (by omega) ⟨Y4, f1, f2, f3, ⟨len, f4, by omega⟩, f6, f7⟩⟩), fun z => absurd rfl z⟩)
end
