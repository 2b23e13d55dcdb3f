section
variable {d : Nat} {h0 h : am_H} {Q : Option Value → am_H → Prop} {F : Nat → Int32} {A : Nat → Nat → Int32} {R : Nat → Int64} {M : Ms} {σ : Sg}
theorem ID_dc {u : Int32} {R : Nat → Int64} {m : Nat} {w w' : Nat → Int32} (x : ID u R (m, w)) (hw : ∀ i, i < m → w i = w' i) : ID u R (m, w') := ⟨x.1, x.2.1, fun i hi => by
  rw [x.2.2 i hi]
  show (w i).toInt64 = _
  rw [hw i hi]⟩
theorem Z_least (hY : RY h M) (b : Int32) (hQ : ∀ h', Fy h h' → RY h' (oLeast M b).2 → Q (some (.int (oLeast M b).1)) h') : am_call (d + 20) 259 [.ref 152, .int b] h Q := by
  obtain ⟨F, A, R, W, iv⟩ := hY
  have hs := iv.s.2
  have hN := hs.1
  unfold oLeast at hQ
  refine en_X11_least (Nat.le_of_ble_eq_true rfl) ?_
  refine am_run (am_cK _) 3 (am_putI W rfl (by decide) (fun h1 W1 => ?_))
  refine am_run (am_cK _) 3 (am_obj_in W1.o ((M_isRing W1 iv.s.1.1 hN b (fun j hj e => ?_) (fun c => ?_))))
  · subst e
    rw [if_neg (S_no hs hj), nI_clamp (by omega)] at hQ
    have hz := hs.2.1 j hj
    have hr := iv.s.1.2.2.2 j hj
    have hb := bT_lt (f := sB (mS M) j) (n := sZ (mS M) j) (2 * sZ (mS M) j) (by omega)
    refine am_run (am_cK _) 1 (⟨fun _ => ?_, fun z => absurd n10 z⟩)
    refine am_run (am_cK _) 3 (am_obj_in W1.o (am_run (am_cK _) 2 (am_obj_in W1.o ((M_looksAt W1 (Or.inl rfl) (by omega) (by omega) hz.2.1 hr.1 hr.2 hz.2.2 (fun h2 g W2 hL => ?_))))))
    refine am_run (am_cK _) 2 (am_obj_in W2.o ((M_entersLeast W2 hL (fun h3 R' W3 hR => ?_))))
    refine am_run (am_cK _) 2 (am_obj_in W3.o (am_run (am_cK _) 2 (am_obj_in W3.o ((M_leastTurning W3 hL ?_)))))
    refine am_run (am_cK _) 1 (M_tellsTurning hz.2.1 hb ?_)
    exact am_run (am_cK _) 1 (hQ h3 W3.y ⟨_, _, _, W3.re, iv.s, iv.u, iv.k, iv.t, ⟨rfl, by show sZ (mS M) j ≤ 16; omega, hR⟩, iv.f, iv.hr, iv.l⟩)
  · rw [if_pos c] at hQ
    exact am_run (am_cK _) 1 (⟨fun z => absurd rfl z, fun _ => am_run (am_cK _) 2 (hQ h1 W1.y ⟨_, _, _, W1.re, iv⟩)⟩)
theorem Z_alike (hY : RY h M) (b o : Int32) (hQ : ∀ h', Fy h h' → RY h' (oAlike M b o).2 → Q (some (.int (oAlike M b o).1)) h') : am_call (d + 20) 260 [.ref 152, .int b, .int o] h Q := by
  obtain ⟨F, A, R, W, iv⟩ := hY
  have hs := iv.s.2
  have hN := hs.1
  unfold oAlike at hQ
  refine en_X11_alike (Nat.le_of_ble_eq_true rfl) ?_
  refine am_run (am_cK _) 3 (am_putI W rfl (by decide) (fun h1 W1 => ?_))
  have no : (b < 0 ∨ nI (sN (mS M)) ≤ b ∨ o < 0 ∨ nI (sN (mS M)) ≤ o) → Q (some (.int (-1))) h1 := fun c => by
    rw [if_pos c] at hQ
    exact hQ h1 W1.y ⟨_, _, _, W1.re, iv⟩
  refine am_run (am_cK _) 3 (am_obj_in W1.o ((M_isRing W1 iv.s.1.1 hN b (fun j hj e => ?_) (fun c => am_run (am_cK _) 1 (⟨fun _ => am_run (am_cK _) 2 (no (c.elim Or.inl (fun z => Or.inr (Or.inl z)))), fun z => absurd rfl z⟩)))))
  subst e
  refine am_run (am_cK _) 1 (⟨fun z => absurd z n10, fun _ => ?_⟩)
  refine am_run (am_cK _) 3 (am_obj_in W1.o ((M_isRing W1 iv.s.1.1 hN o (fun k hk e => ?_) (fun c => am_run (am_cK _) 1 (⟨fun z => absurd rfl z, fun _ => am_run (am_cK _) 2 (no (c.elim (fun z => Or.inr (Or.inr (Or.inl z))) (fun z => Or.inr (Or.inr (Or.inr z)))))⟩)))))
  subst e
  rw [if_neg (by
    rintro (w | w | w | w)
    · exact S_no hs hj (Or.inl w)
    · exact S_no hs hj (Or.inr w)
    · exact S_no hs hk (Or.inl w)
    · exact S_no hs hk (Or.inr w)), nI_clamp (by omega), nI_clamp (by omega)] at hQ
  have hz := hs.2.1 j hj
  have hr := iv.s.1.2.2.2 j hj
  have hz2 := hs.2.1 k hk
  have hr2 := iv.s.1.2.2.2 k hk
  unfold oAlikeN at hQ
  refine am_run (am_cK _) 1 (⟨fun _ => ?_, fun z => absurd n10 z⟩)
  refine am_run (am_cK _) 3 (am_obj_in W1.o (am_run (am_cK _) 2 (am_obj_in W1.o ((M_looksAt W1 (Or.inl rfl) (by omega) (by omega) hz.2.1 hr.1 hr.2 hz.2.2 (fun h2 g W2 hL => ?_))))))
  refine am_run (am_cK _) 6 ?_
  have hl := hL.1
  by_cases ez : sZ (mS M) j = sZ (mS M) k
  · rw [if_pos ez] at hQ
    simp only at hQ
    have hg4 : ∀ i, i < sZ (mS M) j → sB (mS M) k i < 4 := fun i hi => hz2.2.2 i (by omega)
    have hgr : ∀ i, i < sZ (mS M) j → A 154 (5 + 10 * k + i) = nI (sB (mS M) k i) := fun i hi => hr2.2 i (by omega)
    have hf4 := hz.2.2
    generalize hf : sB (mS M) j = f at *
    generalize hgg : sB (mS M) k = g' at *
    generalize hn : sZ (mS M) j = n at *
    refine am_loopP (α := Int32 × Option Value) (fun i x => (41, [some (.ref 152), some (.int (nI j)), some (.int (nI k)), some (.int x.1), some (.int (nI (cnt (fun t => kT f n t == rk g' n) i))), some (.int (nI i)), x.2], [], 0, 0)) (fun i x => (cnt (fun t => kT f n t == rk g' n) i = 0 ∧ x.1 = -2 ∧ ∀ t, t < i → kT f n t ≠ rk g' n) ∨ (0 < cnt (fun t => kT f n t == rk g' n) i ∧ fT f n (rk g' n) < 2 * n ∧ x.1 = nI (tnm n (fT f n (rk g' n))))) (2 * n) (fun i x hi P K => ?_) (fun x P => ?_) 0 (-2, none) (Nat.zero_le _) (Or.inl ⟨rfl, rfl, fun t ht => by omega⟩)
    · obtain ⟨x, jv⟩ := x
      refine am_run (am_cK _) 4 (am_obj_in W2.o (am_run (am_cK _) 2 (pk_le (2 * n) i (fun c => by omega) (fun _ => ?_) (hx := by rw [hl]; exact two_n n))))
      refine am_run (am_cK _) 2 (am_obj_in W2.o (am_run (am_cK _) 2 (am_ld W2.a154 k (by omega) ?_)))
      rw [nI_clamp (by omega), show va_up A 158 g 154 k = nI n by rw [show va_up A 158 g 154 k = A 154 k from rfl, hr2.1, ← ez]]
      refine am_run (am_cK _) 2 (am_obj_in W2.o (am_run (am_cK _) 1 (⟨fun c => absurd hl.symm c, fun _ => ?_⟩)))
      refine am_run (am_cK _) 3 (am_obj_in W2.o (am_run (am_cK _) 3 (am_obj_in W2.o ((M_offBy (g := g') W2 hL W2.a154 (by omega) hi hgr hg4 ?_)))))
      have hle : ofb f n g' i ≤ n := cnt_le _ _
      have hok := ofb_kT (t := i) hf4 hg4
      have hci := cnt_le (fun t => kT f n t == rk g' n) i
      refine am_run (am_cK _) 1 (⟨fun c => ?_, fun c => ?_⟩)
      · have e0 : (kT f n i == rk g' n) = false := by
          rw [← hok, beq_eq_false_iff_ne]
          exact fun w => c (by rw [w]; rfl)
        have ec : cnt (fun t => kT f n t == rk g' n) (i + 1) = cnt (fun t => kT f n t == rk g' n) i := by rw [cnt, e0]; rfl
        refine am_run (am_cK _) 4 (⟨fun _ => ?_, fun w => absurd rfl w⟩)
        refine am_run (am_cK _) 5 (M_flag0 ?_)
        have K2 := K (x, some (.int 0)) (by
          rw [ec]
          rcases P with ⟨a1, a2, a3⟩ | P
          · exact Or.inl ⟨a1, a2, fun t ht => (if e : t = i then (by subst e; exact beq_eq_false_iff_ne.mp e0) else a3 t (by omega))⟩
          · exact Or.inr P)
        simp only at K2
        rw [ec, nI_succ, ← Nat.add_zero (cnt (fun t => kT f n t == rk g' n) i), ← nI_add] at K2
        exact am_run (am_cK _) 4 (K2)
      · have e0 : kT f n i = rk g' n := by
          have := (nI_eq (b := 0) (by omega) (by omega)).mp (Classical.not_not.mp c)
          rw [this] at hok
          exact eq_of_beq hok.symm
        have ec : cnt (fun t => kT f n t == rk g' n) (i + 1) = cnt (fun t => kT f n t == rk g' n) i + 1 := by
          rw [cnt, if_pos (by rw [beq_iff_eq]; exact e0)]
        refine am_run (am_cK _) 5 (⟨fun w => absurd w n10, fun _ => ?_⟩)
        refine am_run (am_cK _) 2 (⟨fun c2 => ?_, fun c2 => ?_⟩)
        · refine am_run (am_cK _) 5 (M_flag1 ?_)
          have K2 := K (x, some (.int 1)) (by
            rw [ec]
            rcases P with ⟨a1, a2, a3⟩ | P
            · exact absurd (show nI (cnt (fun t => kT f n t == rk g' n) i) = 0 by rw [a1]; rfl) c2
            · exact Or.inr ⟨by omega, P.2⟩)
          simp only at K2
          rw [ec, nI_succ, nI_succ] at K2
          exact am_run (am_cK _) 4 (K2)
        · have c0 : cnt (fun t => kT f n t == rk g' n) i = 0 := (nI_eq (b := 0) (by omega) (by omega)).mp (Classical.not_not.mp c2)
          rcases P with ⟨a1, a2, a3⟩ | P
          · have eft : fT f n (rk g' n) = i := fnd_eq (Nat.zero_le _) (by omega) (fun c _ c3 => beq_eq_false_iff_ne.mpr (a3 c c3)) (Or.inr (by rw [beq_iff_eq]; exact e0))
            refine am_run (am_cK _) 2 (am_obj_in W2.o (am_run (am_cK _) 2 ?_))
            rw [hl]
            refine M_tellsTurning hz.2.1 hi ?_
            refine am_run (am_cK _) 5 (M_flag1 ?_)
            have K2 := K (nI (tnm n i), some (.int 1)) (by
              rw [ec]
              exact Or.inr ⟨by omega, by omega, by rw [eft]⟩)
            simp only at K2
            rw [ec, nI_succ, nI_succ] at K2
            exact am_run (am_cK _) 4 (K2)
          · omega
    · obtain ⟨x, jv⟩ := x
      refine am_run (am_cK _) 4 (am_obj_in W2.o (am_run (am_cK _) 2 (pk_le (2 * n) (2 * n) (fun _ => ?_) (fun c => by omega) (hx := by rw [hl]; exact two_n n))))
      rcases P with ⟨a1, a2, a3⟩ | ⟨a1, a2, a3⟩
      · have eft : fT f n (rk g' n) = 2 * n := fnd_eq (Nat.zero_le _) (by omega) (fun c _ c3 => beq_eq_false_iff_ne.mpr (a3 c c3)) (Or.inl (by omega))
        rw [if_neg (by omega)] at hQ
        rw [a1, a2]
        refine am_run (am_cK _) 2 (⟨fun _ => ?_, fun w => absurd (show (0 : Int32) ≤ 0 by decide) w⟩)
        exact am_run (am_cK _) 2 (hQ h2 W2.y ⟨_, _, _, W2.re, iv⟩)
      · have ea := fnd_at (q := fun t => kT f n t == rk g' n) (k := 2 * n) (s := 0) (by rw [Nat.zero_add]; exact a2)
        have es := cnt_al hL.2.1 hz.2.1 hf4 hg4 a2 (eq_of_beq ea)
        rw [if_pos a2] at hQ
        have hst : sty f n ≤ 2 * n := by rw [← es]; exact cnt_le _ _
        rw [es]
        rw [es] at a1
        have a3' : x = nI (tnm n (fT f n (rk g' n))) := a3
        subst a3'
        refine am_run (am_cK _) 2 (⟨fun c => absurd c (nI_nle a1 (by omega)), fun _ => ?_⟩)
        refine am_run (am_cK _) 3 (am_putI W2 rfl (by decide) (fun h3 W3 => ?_))
        refine am_run (am_cK _) 4 (am_obj_in W3.o ((M_enters W3 (m := 0) rfl (by omega) _ (fun h4 W4 => ?_))))
        refine am_run (am_cK _) 2 (hQ h4 W4.y ⟨_, _, _, W4.re, iv.s, iv.u, iv.k, iv.t, ⟨rfl, by show 1 ≤ 16; omega, fun i hi => ?_⟩, iv.f, iv.hr, iv.l⟩)
        have hi0 : i = 0 := by have : i < 1 := hi; omega
        subst hi0
        rfl
  · rw [if_neg ez] at hQ
    refine am_run (am_cK _) 4 (am_obj_in W2.o (am_run (am_cK _) 2 (pk_le (2 * sZ (mS M) j) 0 (fun c => by omega) (fun _ => ?_) (hx := by rw [hl]; exact two_n _))))
    refine am_run (am_cK _) 2 (am_obj_in W2.o (am_run (am_cK _) 2 (am_ld W2.a154 k (by omega) ?_)))
    rw [nI_clamp (by omega), show va_up A 158 g 154 k = nI (sZ (mS M) k) from hr2.1]
    refine am_run (am_cK _) 2 (am_obj_in W2.o (am_run (am_cK _) 1 (⟨fun _ => ?_, fun c => absurd ((nI_eq (by omega) (by omega)).mp ((Classical.not_not.mp c).trans hl)).symm ez⟩)))
    refine am_run (am_cK _) 2 (⟨fun _ => ?_, fun w => absurd (show (0 : Int32) ≤ 0 by decide) w⟩)
    exact am_run (am_cK _) 2 (hQ h2 W2.y ⟨_, _, _, W2.re, iv⟩)
theorem M_firstAlike (W : RM h0 h F A R) {p b : Nat} (hp : p = 154 ∨ p = 155) (hS : RSm (A p) σ) (hs : Sok σ) (hb : b < sN σ) (hQ : ∀ h' g, RM h0 h' (upd F 13 (nI (sZ σ b))) (va_up A 158 g) R → Q (some (.int (nI (fAl σ b)))) h') : am_call (d + 4) 261 [.ref 152, .ref p, .int (nI b)] h Q := by
  have hN := hs.1
  have hz := hs.2.1 b hb
  have hr := hS.2.2.2 b hb
  refine en_X11_firstAlike (Nat.le_of_ble_eq_true rfl) ?_
  refine am_run (am_cK _) 4 (am_obj_in W.o ((M_looksAt W hp (by omega) (by omega) hz.2.1 hr.1 hr.2 hz.2.2 (fun h1 g W1 hL => ?_))))
  have w := W1.ap hp
  rw [am_up_n (by omega)] at w
  have ho : ∀ i, i < sN σ → alM (sB σ b) (sZ σ b) (sB σ i) (sZ σ i) = alk σ i b := fun i hi => by
    rw [alM_eq (by omega) hz.2.1 hz.2.2 (hs.2.1 i hi).2.2]
    rfl
  refine am_run (am_cK _) 2 ?_
  refine am_loopP (α := Unit) (fun i _ => (8, [some (.ref 152), some (.ref p), some (.int (nI b)), some (.int (nI i))], [], 0, 0)) (fun i _ => ∀ c, c < i → alk σ c b = false) b (fun i _ hi P K => ?_) (fun _ P => ?_) 0 () (Nat.zero_le _) (fun c hc => by omega)
  · have hz2 := hs.2.1 i (by omega)
    have hr2 := hS.2.2.2 i (by omega)
    refine am_run (am_cK _) 4 (am_obj_in W1.o ((M_isAlike W1 hL w (by omega) hz2.2.1 hr2.1 hr2.2 hz2.2.2 ?_)))
    rw [ho i (by omega)]
    cases e : alk σ i b with
    | false =>
      have K2 := K () (fun c hc => (if q : c = i then q ▸ e else P c (by omega)))
      rw [nI_succ] at K2
      exact am_run (am_cK _) 1 (⟨fun z => absurd rfl z, fun _ => am_run (am_cK _) 2 (K2)⟩)
    | true =>
      have ef : fAl σ b = i := fnd_eq (Nat.zero_le _) (by omega) (fun c _ c2 => P c c2) (Or.inr e)
      rw [ef] at hQ
      exact am_run (am_cK _) 1 (⟨fun _ => am_run (am_cK _) 2 (hQ h1 g W1), fun z => absurd n10 z⟩)
  · have ef : fAl σ b = b := fnd_eq (Nat.zero_le _) (by omega) (fun c _ c2 => P c c2) (Or.inl (by omega))
    rw [ef] at hQ
    refine am_run (am_cK _) 4 (am_obj_in W1.o ((M_isAlike W1 hL w (by omega) hz.2.1 hr.1 hr.2 hz.2.2 ?_)))
    rw [ho b hb, show alk σ b b = true by unfold alk; simp]
    exact am_run (am_cK _) 1 (⟨fun _ => am_run (am_cK _) 2 (hQ h1 g W1), fun z => absurd n10 z⟩)
theorem M_kindsOf (W : RM h0 h F A R) {p : Nat} (hp : p = 154 ∨ p = 155) (hS : RSm (A p) σ) (hs : Sok σ) (hQ : ∀ h' x g, RM h0 h' (upd F 13 x) (va_up A 158 g) R → Q (some (.int (nI (kNo σ)))) h') : am_call (d + 5) 262 [.ref 152, .ref p] h Q := by
  have hN := hs.1
  refine en_X11_kindsOf (Nat.le_of_ble_eq_true rfl) (am_run (am_cK _) 4 ?_)
  refine am_lp (α := Int32 × (Nat → Int32)) (fun q _ => (4, [some (.ref 152), some (.ref p), some (.int (nI (cnt (fun b => fAl σ b == b) q))), some (.int (nI q))], [], 0, 0)) (fun q j h' => RM h0 h' (upd F 13 j.1) (va_up A 158 j.2) R) (sN σ) (fun q j h1 hq W1 K => ?_) (fun j h1 W1 => ?_) 0 (F 13, A 158) h (Nat.zero_le _) (by simp only; rw [upd_same rfl, va_same rfl]; exact W)
  · have w := W1.ap hp
    rw [am_up_n (by omega)] at w
    refine am_run (am_cK _) 4 (am_ld w 60 (by omega) ?_)
    rw [pk_cl (x := 60) 60, hS.1]
    refine am_run (am_cK _) 1 (pk_le (sN σ) q (fun c => by omega) (fun _ => ?_))
    refine am_run (am_cK _) 5 (am_obj_in W1.o ((M_firstAlike W1 hp (by rw [am_up_n (by omega)]; exact hS) hs hq (fun h2 g W2 => ?_))))
    rw [upd_upd, va_up2] at W2
    have K2 := K (_, g) h2 W2
    have hfl := fAl_le σ q
    rw [cnt, nI_succ] at K2
    refine am_run (am_cK _) 2 (⟨fun c => ?_, fun c => ?_⟩)
    · rw [if_neg (by rw [beq_iff_eq]; exact fun z => c (congrArg nI z)), ← nI_add] at K2
      exact am_run (am_cK _) 2 (M_flag0 (am_run (am_cK _) 4 (K2)))
    · rw [if_pos (by rw [beq_iff_eq]; exact (nI_eq (by omega) (by omega)).mp (Classical.not_not.mp c)), nI_succ] at K2
      exact am_run (am_cK _) 3 (M_flag1 (am_run (am_cK _) 4 (K2)))
  · have w := W1.ap hp
    rw [am_up_n (by omega)] at w
    refine am_run (am_cK _) 4 (am_ld w 60 (by omega) ?_)
    rw [pk_cl (x := 60) 60, hS.1]
    exact am_run (am_cK _) 1 (pk_le (sN σ) (sN σ) (fun _ => am_run (am_cK _) 2 (hQ h1 _ _ W1)) (fun c => by omega))
theorem Z_kinds (hY : RY h M) (hQ : ∀ h', Fy h h' → RY h' (oKinds M).2 → Q (some (.int (oKinds M).1)) h') : am_call (d + 20) 263 [.ref 152] h Q := by
  obtain ⟨F, A, R, W, iv⟩ := hY
  have hs := iv.s.2
  have hN := hs.1
  refine en_X11_kinds (Nat.le_of_ble_eq_true rfl) ?_
  refine am_run (am_cK _) 3 (am_putI W rfl (by decide) (fun h1 W1 => ?_))
  refine am_run (am_cK _) 3 (am_obj_in W1.o (am_run (am_cK _) 1 (am_obj_in W1.o ((M_kindsOf W1 (Or.inl rfl) iv.s.1 hs (fun h2 x g W2 => ?_))))))
  refine am_run (am_cK _) 4 (am_putI W2 rfl (by decide) (fun h3 W3 => ?_))
  refine am_run (am_cK _) 2 ?_
  refine am_lp (α := Int32 × (Nat → Int32) × (Nat → Int64)) (fun q _ => (21, [some (.ref 152), some (.int (nI (kNo (mS M)))), some (.int (nI q))], [], 0, 0)) (fun q j h' => RM h h' (upd (upd (upd F 0 0) 13 j.1) 1 (nI q)) (va_up A 158 j.2.1) j.2.2 ∧ ∀ i, i < q → j.2.2 i = (nI (fAl (mS M) i)).toInt64) (sN (mS M)) (fun q j h4 hq P K => ?_) (fun j h4 P => ?_) 0 (x, g, R) h3 (Nat.zero_le _) ⟨W3, fun i hi => by omega⟩
  · obtain ⟨W4, p1⟩ := P
    refine am_run (am_cK _) 3 (am_obj_in W4.o (am_run (am_cK _) 2 (am_ld W4.a154 60 (by omega) ?_)))
    rw [pk_cl (x := 60) 60, show va_up A 158 j.2.1 154 60 = nI (sN (mS M)) from iv.s.1.1]
    refine am_run (am_cK _) 1 (pk_le (sN (mS M)) q (fun c => by omega) (fun _ => ?_))
    refine am_run (am_cK _) 4 (am_obj_in W4.o (am_run (am_cK _) 2 (am_obj_in W4.o ((M_firstAlike W4 (Or.inl rfl) iv.s.1 hs hq (fun h5 g5 W5 => ?_))))))
    rw [va_up2] at W5
    refine am_run (am_cK _) 2 (am_obj_in W5.o ((M_enters W5 (m := q) rfl (by omega) _ (fun h6 W6 => ?_))))
    have W7 : RM h h6 (upd (upd (upd F 0 0) 13 (nI (sZ (mS M) q))) 1 (nI (q + 1))) (va_up A 158 g5) (vp_updL j.2.2 q (nI (fAl (mS M) q)).toInt64) := by
      have w := W6
      rw [upd_sw (F := upd (upd F 0 0) 13 j.1) (by decide), upd_upd, upd_upd] at w
      exact w
    have K2 := K (nI (sZ (mS M) q), g5, _) h6 ⟨W7, fun i hi => (by
      by_cases e : i = q
      · subst e; exact pk_uLs
      · exact (pk_uLn e).trans (p1 i (by omega)))⟩
    rw [nI_succ] at K2
    exact am_run (am_cK _) 2 (K2)
  · obtain ⟨W4, p1⟩ := P
    refine am_run (am_cK _) 3 (am_obj_in W4.o (am_run (am_cK _) 2 (am_ld W4.a154 60 (by omega) ?_)))
    rw [pk_cl (x := 60) 60, show va_up A 158 j.2.1 154 60 = nI (sN (mS M)) from iv.s.1.1]
    refine am_run (am_cK _) 1 (pk_le (sN (mS M)) (sN (mS M)) (fun _ => ?_) (fun c => by omega))
    exact am_run (am_cK _) 2 (hQ h4 W4.y ⟨_, _, _, W4.re, iv.s, iv.u, iv.k, iv.t, ⟨rfl, by show sN (mS M) ≤ 16; omega, p1⟩, iv.f, iv.hr, iv.l⟩)
theorem Z_far (hY : RY h M) (b o : Int32) (hQ : ∀ h', Fy h h' → RY h' (oFar M b o).2 → Q (some (.int (oFar M b o).1)) h') : am_call (d + 20) 264 [.ref 152, .int b, .int o] h Q := by
  obtain ⟨F, A, R, W, iv⟩ := hY
  have hs := iv.s.2
  have hN := hs.1
  unfold oFar at hQ
  refine en_X11_far (Nat.le_of_ble_eq_true rfl) ?_
  refine am_run (am_cK _) 3 (am_putI W rfl (by decide) (fun h1 W1 => ?_))
  have no : (b < 0 ∨ nI (sN (mS M)) ≤ b ∨ o < 0 ∨ nI (sN (mS M)) ≤ o) → Q (some (.int (-1))) h1 := fun c => by
    rw [if_pos c] at hQ
    exact hQ h1 W1.y ⟨_, _, _, W1.re, iv⟩
  refine am_run (am_cK _) 3 (am_obj_in W1.o ((M_isRing W1 iv.s.1.1 hN b (fun j hj e => ?_) (fun c => am_run (am_cK _) 1 (⟨fun _ => am_run (am_cK _) 2 (no (c.elim Or.inl (fun z => Or.inr (Or.inl z)))), fun z => absurd rfl z⟩)))))
  subst e
  refine am_run (am_cK _) 1 (⟨fun z => absurd z n10, fun _ => ?_⟩)
  refine am_run (am_cK _) 3 (am_obj_in W1.o ((M_isRing W1 iv.s.1.1 hN o (fun k hk e => ?_) (fun c => am_run (am_cK _) 1 (⟨fun z => absurd rfl z, fun _ => am_run (am_cK _) 2 (no (c.elim (fun z => Or.inr (Or.inr (Or.inl z))) (fun z => Or.inr (Or.inr (Or.inr z)))))⟩)))))
  subst e
  rw [if_neg (by
    rintro (w | w | w | w)
    · exact S_no hs hj (Or.inl w)
    · exact S_no hs hj (Or.inr w)
    · exact S_no hs hk (Or.inl w)
    · exact S_no hs hk (Or.inr w)), nI_clamp (by omega), nI_clamp (by omega)] at hQ
  have hz := hs.2.1 j hj
  have hr := iv.s.1.2.2.2 j hj
  have hz2 := hs.2.1 k hk
  have hr2 := iv.s.1.2.2.2 k hk
  unfold oFarN at hQ
  refine am_run (am_cK _) 1 (⟨fun _ => ?_, fun z => absurd n10 z⟩)
  refine am_run (am_cK _) 3 (am_obj_in W1.o (am_run (am_cK _) 2 (am_obj_in W1.o ((M_looksAt W1 (Or.inl rfl) (by omega) (by omega) hz.2.1 hr.1 hr.2 hz.2.2 (fun h2 g W2 hL => ?_))))))
  have hl := hL.1
  refine am_run (am_cK _) 2 (am_obj_in W2.o (am_run (am_cK _) 2 (am_ld W2.a154 k (by omega) ?_)))
  rw [nI_clamp (by omega), show va_up A 158 g 154 k = nI (sZ (mS M) k) from hr2.1]
  refine am_run (am_cK _) 2 (am_obj_in W2.o (am_run (am_cK _) 1 (⟨fun c => ?_, fun c => ?_⟩)))
  · have ez : sZ (mS M) j = sZ (mS M) k := ((nI_eq (by omega) (by omega)).mp ((show nI (sZ (mS M) k) = _ from c).trans hl)).symm
    rw [if_pos ez] at hQ
    have hg4 : ∀ i, i < sZ (mS M) j → sB (mS M) k i < 4 := fun i hi => hz2.2.2 i (by omega)
    have hgr : ∀ i, i < sZ (mS M) j → A 154 (5 + 10 * k + i) = nI (sB (mS M) k i) := fun i hi => hr2.2 i (by omega)
    generalize hf : sB (mS M) j = f at *
    generalize hgg : sB (mS M) k = g' at *
    generalize hn : sZ (mS M) j = n at *
    have e1 : bF f n g' 1 = 0 := by rw [bF]; split <;> rfl
    have lp := am_loopC (call := am_call (d + 19)) (lim := (0, 0)) (M := cm_X11_far) (Q := Q) (X := fun _ => False) (h := h2) (fun i => (53, [some (.ref 152), some (.int (nI j)), some (.int (nI k)), some (.int (nI (bF f n g' i))), some (.int (nI i))], [], 0, 0)) (2 * n) (fun i hi K => ?_) ?_ 1 (by omega)
    · rw [e1] at lp
      exact am_run (am_cK _) 4 (lp)
    · have hb : bF f n g' i < 2 * n := by
        cases i with
        | zero => show 0 < _; omega
        | succ i => have := bF_lt (f := f) (n := n) (g := g') (i + 1) (by omega); omega
      refine am_run (am_cK _) 4 (am_obj_in W2.o (am_run (am_cK _) 2 (pk_le (2 * n) i (fun c => by omega) (fun _ => ?_) (hx := by rw [hl]; exact two_n n))))
      refine am_run (am_cK _) 3 (am_obj_in W2.o (am_run (am_cK _) 3 (am_obj_in W2.o ((M_offBy (g := g') W2 hL W2.a154 (by omega) hi hgr hg4 ?_)))))
      refine am_run (am_cK _) 3 (am_obj_in W2.o (am_run (am_cK _) 3 (am_obj_in W2.o ((M_offBy (g := g') W2 hL W2.a154 (by omega) hb hgr hg4 ?_)))))
      have l1 : ofb f n g' i ≤ n := cnt_le _ _
      have l2 : ofb f n g' (bF f n g' i) ≤ n := cnt_le _ _
      rw [bF, nI_succ] at K
      refine am_run (am_cK _) 1 (pk_le (ofb f n g' (bF f n g' i)) (ofb f n g' i) (fun c => ?_) (fun c => ?_))
      · rw [if_neg (by omega)] at K
        exact am_run (am_cK _) 4 (K)
      · rw [if_pos c] at K
        exact am_run (am_cK _) 5 (K)
    · have hb := bF_lt (f := f) (n := n) (g := g') (2 * n) (by omega)
      refine am_run (am_cK _) 4 (am_obj_in W2.o (am_run (am_cK _) 2 (pk_le (2 * n) (2 * n) (fun _ => ?_) (fun c => by omega) (hx := by rw [hl]; exact two_n n))))
      refine am_run (am_cK _) 3 (am_putI W2 rfl (by decide) (fun h3 W3 => ?_))
      refine am_run (am_cK _) 3 (am_obj_in W3.o (am_run (am_cK _) 2 (M_tellsTurning hz.2.1 hb ?_)))
      refine am_run (am_cK _) 2 (am_obj_in W3.o ((M_enters W3 (m := 0) rfl (by omega) _ (fun h4 W4 => ?_))))
      refine am_run (am_cK _) 3 (am_obj_in W4.o (am_run (am_cK _) 3 (am_obj_in W4.o ((M_offBy (g := g') W4 hL W4.a154 (by omega) hb hgr hg4 ?_)))))
      refine am_run (am_cK _) 1 (hQ h4 W4.y ⟨_, _, _, W4.re, iv.s, iv.u, iv.k, iv.t, ⟨rfl, by show 1 ≤ 16; omega, fun i hi => ?_⟩, iv.f, iv.hr, iv.l⟩)
      have hi0 : i = 0 := by have : i < 1 := hi; omega
      subst hi0
      rfl
  · have ez : ¬ sZ (mS M) j = sZ (mS M) k := fun w => c (by show nI (sZ (mS M) k) = _; rw [← w]; exact hl.symm)
    rw [if_neg ez] at hQ
    exact am_run (am_cK _) 2 (hQ h2 W2.y ⟨_, _, _, W2.re, iv⟩)
end
