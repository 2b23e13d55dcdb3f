/-! THE MODEL: the dearest -/
theorem nI_nm1 {s : Nat} (h : s < 2 ^ 31) : ¬ nI s = -1 := fun e => nI_pos h (by rw [e]; decide)
theorem lk_lst {n s : Nat} (hn0 : 0 < n) (h4 : s < 4 ^ n) (h : lk 4 n s = true) : lst (dg s n) n = s := by
  have e := lk_isL (k := 4) (n := n) (s := s) hn0 (by decide) (by decide)
  rw [h, isL_eq hn0, beq_iff_eq] at e
  exact e.trans (rk_dg h4)
theorem alN_nmK {σ : Sg} {n s : Nat} (hs : Sok σ) (hn0 : 0 < n) (hn : n ≤ 10) (h4 : s < 4 ^ n) (hl : lst (dg s n) n = s) : alN (dg s n) n σ (-1) = nmK σ n s := by
  have hN := hs.1
  have hs20 : s < 2 ^ 20 := Nat.lt_of_lt_of_le h4 (Nat.le_trans (Nat.pow_le_pow_right (by decide) hn) (by decide))
  refine (cnt_cut (p := fun b => nI b != -1 && alM (dg s n) n (sB σ b) (sZ σ b)) (q := fun b => decide (ntR σ n b = nI s)) (r := sN σ) (N := 5) hN (fun b hb => ?_) (fun b h1 h2 => ?_)).symm
  · have hz := hs.2.1 b hb
    rw [alM_eq hn0 hn (fun i _ => dg_lt s n i) hz.2.2, hl, Bool.eq_iff_iff, decide_eq_true_eq, Bool.and_eq_true, Bool.and_eq_true, bne_iff_ne, beq_iff_eq, beq_iff_eq]
    unfold ntR
    by_cases e : sZ σ b = n
    · rw [if_pos ⟨hb, e⟩]
      have hll := Nat.lt_of_lt_of_le (lst_lt hz.1 hz.2.2) (Nat.le_trans (Nat.pow_le_pow_right (show 0 < 4 by decide) hz.2.1) (show 4 ^ 10 ≤ 2 ^ 20 by decide))
      rw [nI_eq (by omega) (by omega)]
      exact ⟨fun w => ⟨nI_nm1 (by omega), e, w⟩, fun w => w.2.2⟩
    · rw [if_neg (fun w => e w.2)]
      exact ⟨fun w => absurd w.symm (nI_nm1 (by omega)), fun w => absurd w.2.1 e⟩
  · refine decide_eq_false ?_
    unfold ntR
    rw [if_neg (fun w => by omega)]
    exact fun w => nI_nm1 (by omega) w.symm
def bmD (D : Int32 × Nat) : Int32 := if D.1 < 0 then -2 else D.1
def dDr (M : Ms) (n : Nat) (D : Int32 × Nat) : Nat × (Nat → Int32) := if D.1 < 0 then mD M else (n, fun x => nI (dg D.2 n x))
section
variable {d : Nat} {h0 h : am_H} {Q : Option Value → am_H → Prop} {F F' : Nat → Int32} {A A' : Nat → Nat → Int32} {R R' : Nat → Int64} {M : Ms} {n : Nat} {f : Nat → Nat} {σ : Sg}
theorem Iv_dr (v : Iv F A R M) (hF : ∀ i, i ≠ 0 → i ≠ 1 → i ≠ 13 → F' i = F i) (hA : AgA A A') {D : Nat × (Nat → Int32)} (hD : ID (F' 1) R' D) : Iv F' A' R' (pD M D) := by
  refine ⟨?_, ?_, ?_, ?_, hD, ?_, ?_, ?_⟩
  · rw [hA 154 (by decide) (by decide) (by decide) (by decide)]; exact v.s
  · rw [hA 163 (by decide) (by decide) (by decide) (by decide), hF 20 (by decide) (by decide) (by decide)]; exact v.u
  · rw [hA 179 (by decide) (by decide) (by decide) (by decide), hA 180 (by decide) (by decide) (by decide) (by decide)]; exact v.k
  · rw [hA 156 (by decide) (by decide) (by decide) (by decide), hF 6 (by decide) (by decide) (by decide)]; exact v.t
  · rw [hA 172 (by decide) (by decide) (by decide) (by decide), hA 173 (by decide) (by decide) (by decide) (by decide), hF 33 (by decide) (by decide) (by decide)]; exact v.f
  · rw [hA 174 (by decide) (by decide) (by decide) (by decide), hA 175 (by decide) (by decide) (by decide) (by decide), hF 36 (by decide) (by decide) (by decide)]; exact v.hr
  · rw [hA 159 (by decide) (by decide) (by decide) (by decide), hF 16 (by decide) (by decide) (by decide)]; exact v.l
theorem Z_dear (hY : RY h M) (n : Int32) (hQ : ∀ h', Fy h h' → RY h' (oDear M n).2 → Q (some (.int (oDear M n).1)) h') : am_call (d + 20) 293 [.ref 152, .int n] h Q := by
  obtain ⟨F, A, R, W, iv⟩ := hY
  have hs := iv.s.2
  unfold oDear at hQ
  refine en_X11_dear (Nat.le_of_ble_eq_true rfl) ?_
  refine am_run (am_cK _) 3 (am_putI W rfl (by decide) (fun h1 W1 => ?_))
  refine am_run (am_cK _) 5 (M_inN n 1 6 (by omega) (by omega) (fun N N1 N6 e => ?_) (fun c => ?_))
  rotate_left
  · replace c : n < 1 ∨ 6 < n := c
    rw [if_pos c] at hQ
    exact am_run (am_cK _) 1 (⟨fun z => absurd rfl z, fun _ => am_run (am_cK _) 2 (hQ h1 W1.y ⟨_, _, _, W1.re, iv⟩)⟩)
  subst e
  have N7 : N ≤ 7 := by omega
  rw [if_neg (by
    rintro (z | z)
    · exact nI_nlt (a := N) (b := 1) N1 (by omega) z
    · exact nI_nlt (a := 6) (b := N) N6 (by omega) z), nI_clamp (by omega)] at hQ
  unfold oDearN at hQ
  rw [← kN_ix N1 N7] at hQ
  have hpw := pw_le (show 4 ≤ 4 by decide) N7
  refine am_run (am_cK _) 1 (⟨fun _ => ?_, fun z => absurd n10 z⟩)
  refine am_run (am_cK _) 4 (show am_wp (am_call (d + 19)) (0, 0) cm_X11_dear Q (fun _ => False) (24, [some (.ref 152), some (.int (nI N)), some (.int (bmD (drS (mL M) (mS M) N (cnt (lk 4 N) 0)))), some (.int (nI 0)), none], [], 0, 0) h1 from ?_)
  refine am_lp (α := (Nat → Int32) × (Nat → Nat → Int32) × (Nat → Int64) × Option Value) (fun s x => (24, [some (.ref 152), some (.int (nI N)), some (.int (bmD (drS (mL M) (mS M) N (cnt (lk 4 N) s)))), some (.int (nI s)), x.2.2.2], [], 0, 0)) (fun s x h' => RM h h' x.1 x.2.1 x.2.2.1 ∧ (∀ i, i ≠ 0 → i ≠ 1 → i ≠ 13 → x.1 i = F i) ∧ AgA A x.2.1 ∧ x.1 1 = nI (dDr M N (drS (mL M) (mS M) N (cnt (lk 4 N) s))).1 ∧ ∀ i, i < (dDr M N (drS (mL M) (mS M) N (cnt (lk 4 N) s))).1 → x.2.2.1 i = ((dDr M N (drS (mL M) (mS M) N (cnt (lk 4 N) s))).2 i).toInt64) (4 ^ N) (fun s x h3 hs3 P K => ?_) (fun x h3 P => ?_) 0 (upd F 0 0, A, R, none) h1 (Nat.zero_le _) ⟨W1, fun i i0 _ _ => upd_n i0, AgA.rf, iv.d.1, iv.d.2.2⟩
  · obtain ⟨F3, A3, R3, v⟩ := x
    obtain ⟨W3, f3, a3, d1, d2⟩ := P
    replace W3 : RM h h3 F3 A3 R3 := W3
    replace f3 : ∀ i, i ≠ 0 → i ≠ 1 → i ≠ 13 → F3 i = F i := f3
    replace a3 : AgA A A3 := a3
    replace d1 : F3 1 = nI (dDr M N (drS (mL M) (mS M) N (cnt (lk 4 N) s))).1 := d1
    replace d2 : ∀ i, i < (dDr M N (drS (mL M) (mS M) N (cnt (lk 4 N) s))).1 → R3 i = ((dDr M N (drS (mL M) (mS M) N (cnt (lk 4 N) s))).2 i).toInt64 := d2
    refine am_run (am_cK _) 5 (M_powerE (k := 4) (m := N) (by omega) (by omega) (by omega) ?_)
    refine am_run (am_cK _) 2 (lk_ge (by omega) (by omega) (fun c => by omega) (fun _ => ?_))
    refine am_run (am_cK _) 5 (am_obj_in W3.o ((M_laysLook (k := 4) (n := N) (s := s) W3 N1 (by omega) (by omega) (by omega) (by omega) (fun h4 g4 W4 hL => ?_))))
    have hS4 : RSm (va_up A3 158 g4 154) (mS M) := by
      rw [show va_up A3 158 g4 154 = A3 154 from rfl, a3 154 (by decide) (by decide) (by decide) (by decide)]
      exact iv.s.1
    have hI4 : IL (upd F3 13 (nI N) 16) (va_up A3 158 g4 159) (mL M) := by
      rw [show va_up A3 158 g4 159 = A3 159 from rfl, show upd F3 13 (nI N) 16 = F3 16 from rfl, a3 159 (by decide) (by decide) (by decide) (by decide), f3 16 (by decide) (by decide) (by decide)]
      exact iv.l
    have a4 : AgA A (va_up A3 158 g4) := fun k k1 k2 k3 k4 => (am_up_n k1).trans (a3 k k1 k2 k3 k4)
    have f4 : ∀ i, i ≠ 0 → i ≠ 1 → i ≠ 13 → upd F3 13 (nI N) i = F i := fun i i0 i1 i2 => (upd_n i2).trans (f3 i i0 i1 i2)
    -- nothing better
    have no : ∀ h5 A5 v5, RM h h5 (upd F3 13 (nI N)) A5 R3 → AgA A A5 → drS (mL M) (mS M) N (cnt (lk 4 N) (s + 1)) = drS (mL M) (mS M) N (cnt (lk 4 N) s) → am_wp (am_call (d + 19)) (0, 0) cm_X11_dear Q (fun _ => False) (80, [some (.ref 152), some (.int (nI N)), some (.int (bmD (drS (mL M) (mS M) N (cnt (lk 4 N) s)))), some (.int (nI s)), v5], [], 0, 0) h5 := by
      intro h5 A5 v5 W5 a5 ed
      have K2 := K (upd F3 13 (nI N), A5, R3, v5) h5 ⟨W5, f4, a5, by rw [ed]; exact d1, by rw [ed]; exact d2⟩
      rw [ed, nI_succ s] at K2
      exact am_run (am_cK _) 2 (K2)
    refine am_run (am_cK _) 2 (am_obj_in W4.o ((M_isInStock (σ := mS M) W4 hL hS4 hs ?_)))
    cases hh : hsB (mS M) (dgk 4 s N) N == 4 with
    | false =>
      refine am_run (am_cK _) 1 (⟨fun _ => no h4 _ v W4 a4 ?_, fun z => absurd rfl z⟩)
      cases hp : lk 4 N s with
      | false => rw [cnt_f hp]
      | true =>
        have hH : hasK (mS M) N (cnt (lk 4 N) s) = false := by
          unfold hasK
          rw [(kR_ix N1 N7 hs3 hp).1]
          exact hh
        rw [cnt_t hp, drS, if_neg (fun w => by rw [hH] at w; exact absurd w.1 Bool.false_ne_true)]
    | true =>
      refine am_run (am_cK _) 1 (⟨fun z => absurd z n10, fun _ => ?_⟩)
      refine am_run (am_cK _) 2 (am_obj_in W4.o ((M_isLeast W4 hL ?_)))
      rw [lk_isL N1 (by omega) (by omega)]
      cases hp : lk 4 N s with
      | false => exact am_run (am_cK _) 1 (⟨fun _ => no h4 _ v W4 a4 (by rw [cnt_f hp]), fun z => absurd rfl z⟩)
      | true =>
        have hk := kR_ix N1 N7 hs3 hp
        have hH : hasK (mS M) N (cnt (lk 4 N) s) = true := by
          unfold hasK
          rw [hk.1]
          exact hh
        refine am_run (am_cK _) 1 (⟨fun z => absurd z n10, fun _ => ?_⟩)
        refine am_run (am_cK _) 3 (am_obj_in W4.o (am_run (am_cK _) 2 (am_obj_in W4.o ((M_priceOfLook W4 hL (Or.inl rfl) hS4 hs hI4 (-1) (fun h5 a5 s5 W5 => ?_))))))
        have ep : nI (prc (mL M) (dgk 4 s N) N (alN (dgk 4 s N) N (mS M) (-1))) = prK (mL M) (mS M) N s := by
          show nI (prc (mL M) (dg s N) N (alN (dg s N) N (mS M) (-1))) = nI (prc (mL M) (dg s N) N (nmK (mS M) N s))
          rw [alN_nmK hs N1 (by omega) hs3 (lk_lst N1 hs3 hp)]
        rw [ep]
        have hp99 := prc_le (mL M) (f := dg s N) (n := N) (a := nmK (mS M) N s) (by omega)
        have hpos : ¬ prK (mL M) (mS M) N s < 0 := nI_pos (by omega)
        have ed : drS (mL M) (mS M) N (cnt (lk 4 N) (s + 1)) = if (drS (mL M) (mS M) N (cnt (lk 4 N) s)).1 < prK (mL M) (mS M) N s then (prK (mL M) (mS M) N s, s) else drS (mL M) (mS M) N (cnt (lk 4 N) s) := by
          rw [cnt_t hp, drS, hk.1]
          simp only [hH, true_and]
        have a5' : AgA A (va_up (va_up (va_up A3 158 g4) 162 a5) 161 s5) := fun k k1 k2 k3 k4 => (am_up_n k2).trans ((am_up_n k3).trans (a4 k k1 k2 k3 k4))
        generalize prK (mL M) (mS M) N s = its at hpos ed ⊢
        refine am_run (am_cK _) 1 (show am_wp (am_call (d + 19)) (0, 0) cm_X11_dear Q (fun _ => False) (67, [some (.ref 152), some (.int (nI N)), some (.int (bmD (drS (mL M) (mS M) N (cnt (lk 4 N) s)))), some (.int (nI s)), some (.int its)], [], 0, 0) h5 from ?_)
        by_cases c : (drS (mL M) (mS M) N (cnt (lk 4 N) s)).1 < its
        · rw [if_pos c] at ed
          have c2 : ¬ its ≤ bmD (drS (mL M) (mS M) N (cnt (lk 4 N) s)) := by
            unfold bmD
            split
            · exact fun w => hpos (Int32.lt_of_le_of_lt w (by decide))
            · exact Int32.not_le.mpr c
          refine am_run (am_cK _) 3 (⟨fun w => absurd w c2, fun _ => ?_⟩)
          refine am_run (am_cK _) 4 (am_obj_in W5.o ((M_entersLook W5 hL (fun h6 R6 W6 hR => ?_))))
          have K2 := K (upd (upd F3 13 (nI N)) 1 (nI N), va_up (va_up (va_up A3 158 g4) 162 a5) 161 s5, R6, some (.int its)) h6 ⟨W6, fun i i0 i1 i2 => (upd_n i1).trans (f4 i i0 i1 i2), a5', (by
            rw [ed]
            unfold dDr
            rw [if_neg hpos]
            rfl), (by
            rw [ed]
            unfold dDr
            rw [if_neg hpos]
            exact hR)⟩
          have eb : bmD (drS (mL M) (mS M) N (cnt (lk 4 N) (s + 1))) = its := by
            rw [ed]
            exact if_neg hpos
          rw [eb, nI_succ s] at K2
          exact am_run (am_cK _) 2 (K2)
        · rw [if_neg c] at ed
          have c2 : its ≤ bmD (drS (mL M) (mS M) N (cnt (lk 4 N) s)) := by
            unfold bmD
            rw [if_neg (fun w => c (Int32.lt_of_lt_of_le w (Int32.not_lt.mp hpos)))]
            exact Int32.not_lt.mp c
          exact am_run (am_cK _) 3 (⟨fun _ => no h5 _ _ W5 a5' ed, fun w => absurd c2 w⟩)
  · obtain ⟨F3, A3, R3, v⟩ := x
    obtain ⟨W3, f3, a3, d1, d2⟩ := P
    replace W3 : RM h h3 F3 A3 R3 := W3
    replace f3 : ∀ i, i ≠ 0 → i ≠ 1 → i ≠ 13 → F3 i = F i := f3
    replace a3 : AgA A A3 := a3
    replace d1 : F3 1 = nI (dDr M N (drS (mL M) (mS M) N (cnt (lk 4 N) (4 ^ N)))).1 := d1
    replace d2 : ∀ i, i < (dDr M N (drS (mL M) (mS M) N (cnt (lk 4 N) (4 ^ N)))).1 → R3 i = ((dDr M N (drS (mL M) (mS M) N (cnt (lk 4 N) (4 ^ N)))).2 i).toInt64 := d2
    refine am_run (am_cK _) 5 (M_powerE (k := 4) (m := N) (by omega) (by omega) (by omega) ?_)
    refine am_run (am_cK _) 2 (lk_ge (by omega) (by omega) (fun _ => ?_) (fun c => by omega))
    generalize drS (mL M) (mS M) N (cnt (lk 4 N) (4 ^ N)) = D at hQ d1 d2 ⊢
    unfold dDr at d1 d2
    unfold bmD
    by_cases c : D.1 < 0
    · rw [if_pos c] at hQ d1 d2 ⊢
      exact am_run (am_cK _) 2 (hQ h3 W3.y ⟨_, _, _, W3.re, Iv_dr iv f3 a3 (D := mD M) ⟨d1, iv.d.2.1, d2⟩⟩)
    · rw [if_neg c] at hQ d1 d2 ⊢
      exact am_run (am_cK _) 2 (hQ h3 W3.y ⟨_, _, _, W3.re, Iv_dr iv f3 a3 ⟨d1, by show N ≤ 16; omega, d2⟩⟩)
end
