/-! the constructor of THE MODEL -/
def miI (k : Nat) : Nat := [2, 3, 4, 5, 10, 12, 14, 15, 18, 19, 21, 22, 23, 24, 25, 26, 28, 31, 32, 34, 35, 37, 38, 39, 40, 41, 43, 44].getD k 0
/-- the k-th array of the model, new -/
def miC (k : Nat) : am_C := if k = 0 then aL 24 (fun _ => 0) else .inl (mTy (153 + k), mLn (153 + k), .inl (fun _ => 0))
def miF : Nat → List Value
  | 0 => am_newf 8
  | k + 1 => (miF k).set (miI k) (.ref (153 + k))
theorem miF_len : ∀ k, (miF k).length = 45
  | 0 => rfl
  | k + 1 => by rw [miF, List.length_set]; exact miF_len k
theorem miF_28 : miF 28 = mFl (fun _ => 0) := rfl
/-- k arrays have been made -/
def MI (h0 : am_H) (k : Nat) (h : am_H) : Prop := h.1 = 153 + k ∧ h.2 152 = .inr (8, miF k) ∧ (∀ j, j < k → h.2 (153 + j) = miC j) ∧ ∀ q, q < 152 → h.2 q = h0.2 q
theorem MI_s {h0 h : am_H} {k i : Nat} {c : am_C} {K : am_H → Prop} (I : MI h0 k h) (hi : miI k = i) (hi2 : i < 45) (hc : c = miC k) (H : ∀ h', MI h0 (k + 1) h' → K h') : am_obj (am_add h c) 152 8 (fun fs => if i < fs.length then am_fit 1 (.ref h.1) (K (am_set (am_add h c) 152 (.inr (8, fs.set i (.ref h.1))))) else False) := by
  obtain ⟨i1, i2, i3, i4⟩ := I
  refine am_na i2 (by omega) (by rw [miF_len]; exact hi2) (fun h' a b c' f => H h' ⟨by omega, ?_, fun j hj => ?_, fun q hq => (f q (by omega) (by omega)).trans (i4 q hq)⟩)
  · rw [b, i1, miF, hi]
  · by_cases e : j = k
    · subst e
      rw [← i1, c', hc]
    · exact (f _ (by omega) (by omega)).trans (i3 j (by omega))
section
variable {d : Nat} {h : am_H} {Q : Option Value → am_H → Prop}
theorem Z_init (h1 : h.1 = 153) (h152 : h.2 152 = .inr (8, am_newf 8)) (hQ : ∀ h', h'.1 = 181 → RY h' M0 → (∀ q, q < 152 → h'.2 q = h.2 q) → Q none h') : am_call (d + 3) 182 [.ref 152] h Q := by
  refine en_X11_init (Nat.le_of_ble_eq_true rfl) ?_
  refine am_run (am_cK _) 2 (show am_wp (am_call (d + 2)) (28, 2170) cm_X11_init Q (fun _ => False) (4, [some (.ref 152), none], [], 0, 0) h from ?_)
  have I0 : MI h 0 h := ⟨h1, h152, fun j hj => absurd hj (Nat.not_lt_zero j), fun _ _ => rfl⟩
  refine am_run (am_cK _) 3 ⟨by decide, by decide, Nat.le_of_ble_eq_true rfl, Nat.le_of_ble_eq_true rfl, am_run (am_cK _) 1 (MI_s I0 rfl (by decide) rfl (fun g1 I1 => ?_))⟩
  refine (show am_wp (am_call (d + 2)) (28, 2170) cm_X11_init Q (fun _ => False) (12, [some (.ref 152), none], [], 1, 24) g1 from ?_)
  refine am_run (am_cK _) 3 ⟨by decide, by decide, Nat.le_of_ble_eq_true rfl, Nat.le_of_ble_eq_true rfl, am_run (am_cK _) 1 (MI_s I1 rfl (by decide) rfl (fun g2 I2 => ?_))⟩
  refine (show am_wp (am_call (d + 2)) (28, 2170) cm_X11_init Q (fun _ => False) (20, [some (.ref 152), none], [], 2, 85) g2 from ?_)
  refine am_run (am_cK _) 3 ⟨by decide, by decide, Nat.le_of_ble_eq_true rfl, Nat.le_of_ble_eq_true rfl, am_run (am_cK _) 1 (MI_s I2 rfl (by decide) rfl (fun g3 I3 => ?_))⟩
  refine (show am_wp (am_call (d + 2)) (28, 2170) cm_X11_init Q (fun _ => False) (28, [some (.ref 152), none], [], 3, 146) g3 from ?_)
  refine am_run (am_cK _) 3 ⟨by decide, by decide, Nat.le_of_ble_eq_true rfl, Nat.le_of_ble_eq_true rfl, am_run (am_cK _) 1 (MI_s I3 rfl (by decide) rfl (fun g4 I4 => ?_))⟩
  refine (show am_wp (am_call (d + 2)) (28, 2170) cm_X11_init Q (fun _ => False) (36, [some (.ref 152), none], [], 4, 226) g4 from ?_)
  refine am_run (am_cK _) 3 ⟨by decide, by decide, Nat.le_of_ble_eq_true rfl, Nat.le_of_ble_eq_true rfl, am_run (am_cK _) 1 (MI_s I4 rfl (by decide) rfl (fun g5 I5 => ?_))⟩
  refine (show am_wp (am_call (d + 2)) (28, 2170) cm_X11_init Q (fun _ => False) (44, [some (.ref 152), none], [], 5, 236) g5 from ?_)
  refine am_run (am_cK _) 3 ⟨by decide, by decide, Nat.le_of_ble_eq_true rfl, Nat.le_of_ble_eq_true rfl, am_run (am_cK _) 1 (MI_s I5 rfl (by decide) rfl (fun g6 I6 => ?_))⟩
  refine (show am_wp (am_call (d + 2)) (28, 2170) cm_X11_init Q (fun _ => False) (52, [some (.ref 152), none], [], 6, 246) g6 from ?_)
  refine am_run (am_cK _) 3 ⟨by decide, by decide, Nat.le_of_ble_eq_true rfl, Nat.le_of_ble_eq_true rfl, am_run (am_cK _) 1 (MI_s I6 rfl (by decide) rfl (fun g7 I7 => ?_))⟩
  refine (show am_wp (am_call (d + 2)) (28, 2170) cm_X11_init Q (fun _ => False) (60, [some (.ref 152), none], [], 7, 326) g7 from ?_)
  refine am_run (am_cK _) 3 ⟨by decide, by decide, Nat.le_of_ble_eq_true rfl, Nat.le_of_ble_eq_true rfl, am_run (am_cK _) 1 (MI_s I7 rfl (by decide) rfl (fun g8 I8 => ?_))⟩
  refine (show am_wp (am_call (d + 2)) (28, 2170) cm_X11_init Q (fun _ => False) (68, [some (.ref 152), none], [], 8, 406) g8 from ?_)
  refine am_run (am_cK _) 3 ⟨by decide, by decide, Nat.le_of_ble_eq_true rfl, Nat.le_of_ble_eq_true rfl, am_run (am_cK _) 1 (MI_s I8 rfl (by decide) rfl (fun g9 I9 => ?_))⟩
  refine (show am_wp (am_call (d + 2)) (28, 2170) cm_X11_init Q (fun _ => False) (76, [some (.ref 152), none], [], 9, 486) g9 from ?_)
  refine am_run (am_cK _) 3 ⟨by decide, by decide, Nat.le_of_ble_eq_true rfl, Nat.le_of_ble_eq_true rfl, am_run (am_cK _) 1 (MI_s I9 rfl (by decide) rfl (fun g10 I10 => ?_))⟩
  refine (show am_wp (am_call (d + 2)) (28, 2170) cm_X11_init Q (fun _ => False) (84, [some (.ref 152), none], [], 10, 493) g10 from ?_)
  refine am_run (am_cK _) 3 ⟨by decide, by decide, Nat.le_of_ble_eq_true rfl, Nat.le_of_ble_eq_true rfl, am_run (am_cK _) 1 (MI_s I10 rfl (by decide) rfl (fun g11 I11 => ?_))⟩
  refine (show am_wp (am_call (d + 2)) (28, 2170) cm_X11_init Q (fun _ => False) (93, [some (.ref 152), none], [], 11, 1469) g11 from ?_)
  refine am_run (am_cK _) 3 ⟨by decide, by decide, Nat.le_of_ble_eq_true rfl, Nat.le_of_ble_eq_true rfl, am_run (am_cK _) 1 (MI_s I11 rfl (by decide) rfl (fun g12 I12 => ?_))⟩
  refine (show am_wp (am_call (d + 2)) (28, 2170) cm_X11_init Q (fun _ => False) (101, [some (.ref 152), none], [], 12, 1479) g12 from ?_)
  refine am_run (am_cK _) 3 ⟨by decide, by decide, Nat.le_of_ble_eq_true rfl, Nat.le_of_ble_eq_true rfl, am_run (am_cK _) 1 (MI_s I12 rfl (by decide) rfl (fun g13 I13 => ?_))⟩
  refine (show am_wp (am_call (d + 2)) (28, 2170) cm_X11_init Q (fun _ => False) (109, [some (.ref 152), none], [], 13, 1539) g13 from ?_)
  refine am_run (am_cK _) 3 ⟨by decide, by decide, Nat.le_of_ble_eq_true rfl, Nat.le_of_ble_eq_true rfl, am_run (am_cK _) 1 (MI_s I13 rfl (by decide) rfl (fun g14 I14 => ?_))⟩
  refine (show am_wp (am_call (d + 2)) (28, 2170) cm_X11_init Q (fun _ => False) (117, [some (.ref 152), none], [], 14, 1599) g14 from ?_)
  refine am_run (am_cK _) 3 ⟨by decide, by decide, Nat.le_of_ble_eq_true rfl, Nat.le_of_ble_eq_true rfl, am_run (am_cK _) 1 (MI_s I14 rfl (by decide) rfl (fun g15 I15 => ?_))⟩
  refine (show am_wp (am_call (d + 2)) (28, 2170) cm_X11_init Q (fun _ => False) (125, [some (.ref 152), none], [], 15, 1659) g15 from ?_)
  refine am_run (am_cK _) 3 ⟨by decide, by decide, Nat.le_of_ble_eq_true rfl, Nat.le_of_ble_eq_true rfl, am_run (am_cK _) 1 (MI_s I15 rfl (by decide) rfl (fun g16 I16 => ?_))⟩
  refine (show am_wp (am_call (d + 2)) (28, 2170) cm_X11_init Q (fun _ => False) (133, [some (.ref 152), none], [], 16, 1719) g16 from ?_)
  refine am_run (am_cK _) 3 ⟨by decide, by decide, Nat.le_of_ble_eq_true rfl, Nat.le_of_ble_eq_true rfl, am_run (am_cK _) 1 (MI_s I16 rfl (by decide) rfl (fun g17 I17 => ?_))⟩
  refine (show am_wp (am_call (d + 2)) (28, 2170) cm_X11_init Q (fun _ => False) (140, [some (.ref 152), none], [], 17, 1723) g17 from ?_)
  refine am_run (am_cK _) 3 ⟨by decide, by decide, Nat.le_of_ble_eq_true rfl, Nat.le_of_ble_eq_true rfl, am_run (am_cK _) 1 (MI_s I17 rfl (by decide) rfl (fun g18 I18 => ?_))⟩
  refine (show am_wp (am_call (d + 2)) (28, 2170) cm_X11_init Q (fun _ => False) (148, [some (.ref 152), none], [], 18, 1739) g18 from ?_)
  refine am_run (am_cK _) 3 ⟨by decide, by decide, Nat.le_of_ble_eq_true rfl, Nat.le_of_ble_eq_true rfl, am_run (am_cK _) 1 (MI_s I18 rfl (by decide) rfl (fun g19 I19 => ?_))⟩
  refine (show am_wp (am_call (d + 2)) (28, 2170) cm_X11_init Q (fun _ => False) (156, [some (.ref 152), none], [], 19, 1755) g19 from ?_)
  refine am_run (am_cK _) 3 ⟨by decide, by decide, Nat.le_of_ble_eq_true rfl, Nat.le_of_ble_eq_true rfl, am_run (am_cK _) 1 (MI_s I19 rfl (by decide) rfl (fun g20 I20 => ?_))⟩
  refine (show am_wp (am_call (d + 2)) (28, 2170) cm_X11_init Q (fun _ => False) (164, [some (.ref 152), none], [], 20, 1765) g20 from ?_)
  refine am_run (am_cK _) 3 ⟨by decide, by decide, Nat.le_of_ble_eq_true rfl, Nat.le_of_ble_eq_true rfl, am_run (am_cK _) 1 (MI_s I20 rfl (by decide) rfl (fun g21 I21 => ?_))⟩
  refine (show am_wp (am_call (d + 2)) (28, 2170) cm_X11_init Q (fun _ => False) (172, [some (.ref 152), none], [], 21, 1775) g21 from ?_)
  refine am_run (am_cK _) 3 ⟨by decide, by decide, Nat.le_of_ble_eq_true rfl, Nat.le_of_ble_eq_true rfl, am_run (am_cK _) 1 (MI_s I21 rfl (by decide) rfl (fun g22 I22 => ?_))⟩
  refine (show am_wp (am_call (d + 2)) (28, 2170) cm_X11_init Q (fun _ => False) (180, [some (.ref 152), none], [], 22, 1787) g22 from ?_)
  refine am_run (am_cK _) 3 ⟨by decide, by decide, Nat.le_of_ble_eq_true rfl, Nat.le_of_ble_eq_true rfl, am_run (am_cK _) 1 (MI_s I22 rfl (by decide) rfl (fun g23 I23 => ?_))⟩
  refine (show am_wp (am_call (d + 2)) (28, 2170) cm_X11_init Q (fun _ => False) (188, [some (.ref 152), none], [], 23, 1799) g23 from ?_)
  refine am_run (am_cK _) 3 ⟨by decide, by decide, Nat.le_of_ble_eq_true rfl, Nat.le_of_ble_eq_true rfl, am_run (am_cK _) 1 (MI_s I23 rfl (by decide) rfl (fun g24 I24 => ?_))⟩
  refine (show am_wp (am_call (d + 2)) (28, 2170) cm_X11_init Q (fun _ => False) (196, [some (.ref 152), none], [], 24, 1840) g24 from ?_)
  refine am_run (am_cK _) 3 ⟨by decide, by decide, Nat.le_of_ble_eq_true rfl, Nat.le_of_ble_eq_true rfl, am_run (am_cK _) 1 (MI_s I24 rfl (by decide) rfl (fun g25 I25 => ?_))⟩
  refine (show am_wp (am_call (d + 2)) (28, 2170) cm_X11_init Q (fun _ => False) (204, [some (.ref 152), none], [], 25, 1904) g25 from ?_)
  refine am_run (am_cK _) 3 ⟨by decide, by decide, Nat.le_of_ble_eq_true rfl, Nat.le_of_ble_eq_true rfl, am_run (am_cK _) 1 (MI_s I25 rfl (by decide) rfl (fun g26 I26 => ?_))⟩
  refine (show am_wp (am_call (d + 2)) (28, 2170) cm_X11_init Q (fun _ => False) (212, [some (.ref 152), none], [], 26, 1984) g26 from ?_)
  refine am_run (am_cK _) 3 ⟨by decide, by decide, Nat.le_of_ble_eq_true rfl, Nat.le_of_ble_eq_true rfl, am_run (am_cK _) 1 (MI_s I26 rfl (by decide) rfl (fun g27 I27 => ?_))⟩
  refine (show am_wp (am_call (d + 2)) (28, 2170) cm_X11_init Q (fun _ => False) (219, [some (.ref 152), none], [], 27, 1987) g27 from ?_)
  refine am_run (am_cK _) 3 ⟨by decide, by decide, Nat.le_of_ble_eq_true rfl, Nat.le_of_ble_eq_true rfl, am_run (am_cK _) 1 (MI_s I27 rfl (by decide) rfl (fun g28 I28 => ?_))⟩
  refine (show am_wp (am_call (d + 2)) (28, 2170) cm_X11_init Q (fun _ => False) (228, [some (.ref 152), none], [], 28, 2170) g28 from ?_)
  obtain ⟨i1, i2, i3, i4⟩ := I28
  have W : RM g28 g28 (fun _ => 0) (fun _ _ => 0) (fun _ => 0) := ⟨Fy.rf, i2, i3 0 (by decide), fun k k1 k2 => by
    have z := i3 (k - 153) (by omega)
    rw [show 153 + (k - 153) = k by omega] at z
    rw [z]
    unfold miC
    rw [if_neg (by omega), show 153 + (k - 153) = k by omega]⟩
  refine am_run (am_cK _) 2 (show am_wp (am_call (d + 2)) (28, 2170) cm_X11_init Q (fun _ => False) (230, [some (.ref 152), some (.int (nI 0))], [], 28, 2170) g28 from ?_)
  refine am_lp (α := Nat → Int32) (fun c _ => (230, [some (.ref 152), some (.int (nI c))], [], 28, 2170)) (fun c g h' => RM g28 h' (fun _ => 0) (va_up (fun _ _ => 0) 154 g) (fun _ => 0) ∧ (∀ j, j < c → g (55 + j) = nI 12) ∧ ∀ x, x < 55 ∨ 59 ≤ x → g x = 0) 4 (fun c g k hc P K => ?_) (fun g k P => ?_) 0 (fun _ => 0) g28 (Nat.zero_le _) ⟨by rw [va_same rfl]; exact W, fun j hj => absurd hj (Nat.not_lt_zero j), fun _ _ => rfl⟩
  · obtain ⟨W1, p1, p2⟩ := P
    refine am_run (am_cK _) 3 (pk_le 4 c (fun q => by omega) (fun _ => ?_))
    refine am_run (am_cK _) 2 (am_obj_in W1.o (am_run (am_cK _) 5 (am_stI (p := 154) W1 (j := 55 + c) (st_ix c) (show 55 + c < 61 by omega) rfl (fun h3 W3 => ?_))))
    rw [am_up_s, va_up2] at W3
    have K2 := K (upd g (55 + c) 12) h3 ⟨W3, fun j hj => (by
      by_cases e : j = c
      · rw [e, upd_s]; rfl
      · exact (upd_n (by omega)).trans (p1 j (by omega))), fun x hx => (upd_n (by omega)).trans (p2 x hx)⟩
    rw [nI_succ c] at K2
    exact am_run (am_cK _) 2 K2
  · obtain ⟨W1, p1, p2⟩ := P
    refine am_run (am_cK _) 3 (pk_le 4 4 (fun _ => ?_) (fun c => by omega))
    refine am_run (am_cK _) 1 (hQ k (W1.y.1.trans i1) ⟨_, _, _, W1.re, ?_⟩ (fun q hq => (W1.y.2 q (by omega)).trans (i4 q hq)))
    refine ⟨⟨⟨?_, ?_, fun c hc => ?_, fun b hb => absurd hb (Nat.not_lt_zero b)⟩, ⟨by decide, fun b hb => absurd hb (Nat.not_lt_zero b), fun _ _ => (show 12 ≤ 99 by decide), Nat.zero_le _⟩⟩, ⟨rfl, by decide, fun j x hx => by cases j <;> cases hx⟩, fun i hi => Or.inl ⟨rfl, rfl⟩, ⟨rfl, by decide, fun i hi => absurd hi (Nat.not_lt_zero i)⟩, ⟨rfl, by decide, fun i hi => absurd hi (Nat.not_lt_zero i)⟩, ⟨rfl, by decide, fun i hi => absurd hi (Nat.not_lt_zero i)⟩, ⟨rfl, by decide, fun i hi => absurd hi (Nat.not_lt_zero i)⟩, ⟨rfl, Ar_nil, ⟨by decide, Or.inl rfl⟩⟩⟩
    · rw [am_up_s]; exact p2 60 (by omega)
    · rw [am_up_s]; exact p2 59 (by omega)
    · rw [am_up_s]; exact p1 c hc
end
