section
variable {d : Nat} {h : am_H} {Q : Option Value → am_H → Prop} {M : Ms}
theorem wPl_ok {M : Ms} (hw : wFl (mT M).2 (mT M).1 = 0) : wPl (mT M).2 (mT M).1 = (mT M).1 ∧ 0 < (mT M).1 ∧ (mT M).1 ≤ 10 := by
  unfold wFl at hw
  have hle : wPl (mT M).2 (mT M).1 ≤ Nat.min (mT M).1 10 := by
    have := (fnd_le (nlt (mT M).2) (Nat.min (mT M).1 10) 0).2
    unfold wPl
    omega
  by_cases c1 : wPl (mT M).2 (mT M).1 < Nat.min (mT M).1 10
  · rw [if_pos c1] at hw
    exact absurd hw (by
      have : ∀ k, k < 11 → ¬ (-1 - nI k = 0) := by decide
      exact this _ (by have : Nat.min (mT M).1 10 ≤ 10 := Nat.min_le_right _ _; omega))
  · rw [if_neg c1] at hw
    by_cases c2 : (mT M).1 = 0
    · rw [if_pos c2] at hw; exact absurd hw (by decide)
    · rw [if_neg c2] at hw
      by_cases c3 : 10 < (mT M).1
      · rw [if_pos c3] at hw; exact absurd hw (by decide)
      · have : Nat.min (mT M).1 10 = (mT M).1 := Nat.min_eq_left (by omega)
        omega
/-- a bit more -/
theorem or_bit {p : Nat → Bool} {i : Nat} (hi : i < 31) : nI (bts p i) ||| (if p i then (1 : Int32) <<< (nI i &&& 31) else 0) = nI (bts p (i + 1)) := by
  rw [bts]
  by_cases e : p i = true
  · rw [if_pos e, if_pos e, q_orBit (bts_lt p i) (by omega)]
  · rw [if_neg e, if_neg e, Nat.add_zero]
    have := q_or (bts p i) 0
    rw [Nat.or_zero] at this
    exact this
theorem Z_finds (hY : RY h M) (b : Int32) (hQ : ∀ h', Fy h h' → RY h' (oFinds M b).2 → Q (some (.int (oFinds M b).1)) h') : am_call (d + 20) 265 [.ref 152, .int b] h Q := by
  obtain ⟨F, A, R, W, iv⟩ := hY
  obtain ⟨t1, t2, t3⟩ := id iv.t
  have hs := iv.s.2
  have hN := hs.1
  unfold oFinds at hQ
  refine en_X11_finds (Nat.le_of_ble_eq_true rfl) ?_
  refine am_run (am_cK _) 3 (am_putI W rfl (by decide) (fun h1 W1 => ?_))
  refine am_run (am_cK _) 2 (am_obj_in W1.o ((M_readsWord W1 t1 t2 t3 (fun h2 gw W2 hg hw10 => ?_))))
  have ivT : Iv (upd (upd (bgF (upd F 0 0) (mT M).1) 11 (nI (wPl (mT M).2 (mT M).1))) 7 (nI (wPl (mT M).2 (mT M).1))) (va_up A 157 gw) R (pT M (0, (mT M).2)) := ⟨iv.s, iv.u, iv.k, ⟨rfl, Nat.zero_le _, fun i hi => absurd hi (Nat.not_lt_zero i)⟩, iv.d, iv.f, iv.hr, iv.l⟩
  by_cases hw : wFl (mT M).2 (mT M).1 = 0
  · rw [if_pos hw] at hQ
    obtain ⟨ew, hn0, hn10⟩ := wPl_ok hw
    rw [hw]
    rw [ew] at W2 hg ivT
    generalize hf : wBd (mT M).2 = wd at *
    have hg4 : ∀ i, i < (mT M).1 → wd i < 4 := fun i hi => (hg i hi).2
    have r11 : upd (upd (bgF (upd F 0 0) (mT M).1) 11 (nI (mT M).1)) 7 (nI (mT M).1) 11 = nI (mT M).1 := rfl
    generalize hF2 : upd (upd (bgF (upd F 0 0) (mT M).1) 11 (nI (mT M).1)) 7 (nI (mT M).1) = F2 at *
    refine am_run (am_cK _) 3 (⟨fun _ => ?_, fun z => absurd (show (0 : Int32) ≤ 0 by decide) z⟩)
    refine am_run (am_cK _) 3 (am_obj_in W2.o ((M_isRing W2 iv.s.1.1 hN b (fun j hj e => ?_) (fun c => ?_))))
    · subst e
      rw [if_neg (S_no hs hj), nI_clamp (by omega)] at hQ
      have hz := hs.2.1 j hj
      have hr := iv.s.1.2.2.2 j hj
      unfold oFindsN at hQ
      rw [hf] at hQ
      refine am_run (am_cK _) 1 (⟨fun _ => ?_, fun z => absurd n10 z⟩)
      refine am_run (am_cK _) 2 (am_obj_in W2.o (am_run (am_cK _) 2 (am_obj_in W2.o (am_run (am_cK _) 2 (am_ld W2.a154 j (by omega) ?_)))))
      rw [nI_clamp (by omega), show va_up A 157 gw 154 j = nI (sZ (mS M) j) from hr.1]
      generalize hff : sB (mS M) j = f at *
      generalize hnn : sZ (mS M) j = n at *
      generalize hww : (mT M).1 = w at *
      refine am_run (am_cK _) 1 (pk_le w n (fun c => ?_) (fun c => ?_) (hx := r11))
      · rw [if_neg (by omega)] at hQ
        refine am_run (am_cK _) 4 (show am_wp (am_call (d + 19)) (0, 0) cm_X11_finds Q (fun _ => False) (48, [some (.ref 152), some (.int (nI j)), some (.int 0), some (.int (nI 0)), some (.int (nI 0)), none, none], [], 0, 0) h2 from ?_)
        refine am_loopP (α := Option Value × Option Value) (fun p x => (48, [some (.ref 152), some (.int (nI j)), some (.int 0), some (.int (nI (bts (plc f n (rk wd w) w) p))), some (.int (nI p)), x.1, x.2], [], 0, 0)) (fun _ _ => True) n (fun p x hp _ K => ?_) (fun x _ => ?_) 0 (none, none) (Nat.zero_le _) trivial
        · refine am_run (am_cK _) 3 (am_obj_in W2.o (am_run (am_cK _) 2 (am_ld W2.a154 j (by omega) ?_)))
          rw [nI_clamp (by omega), show va_up A 157 gw 154 j = nI n from hr.1]
          refine am_run (am_cK _) 1 (pk_le n p (fun c => by omega) (fun _ => ?_))
          refine am_run (am_cK _) 4 (show am_wp (am_call (d + 19)) (0, 0) cm_X11_finds Q (fun _ => False) (65, [some (.ref 152), some (.int (nI j)), some (.int 0), some (.int (nI (bts (plc f n (rk wd w) w) p))), some (.int (nI p)), some (.int (bI true)), some (.int (nI 0))], [], 0, 0) h2 from ?_)
          have eP : plc f n (rk wd w) w p = allB (fun k => rol f n p k == wd k) w := (rk_all (fun i _ => rol4 (by omega) hz.2.2 i) hg4).symm
          refine am_loopC (fun k => (65, [some (.ref 152), some (.int (nI j)), some (.int 0), some (.int (nI (bts (plc f n (rk wd w) w) p))), some (.int (nI p)), some (.int (bI (allB (fun k => rol f n p k == wd k) k))), some (.int (nI k))], [], 0, 0)) w (fun k hk K2 => ?_) ?_ 0 (Nat.zero_le _)
          · refine am_run (am_cK _) 3 (am_obj_in W2.o (am_run (am_cK _) 1 (pk_le w k (fun c => by omega) (fun _ => ?_) (hx := r11))))
            rw [allB, nI_succ k] at K2
            cases hb : allB (fun k => rol f n p k == wd k) k with
            | false =>
              rw [hb, Bool.false_and] at K2
              exact am_run (am_cK _) 2 (⟨fun _ => am_run (am_cK _) 4 (K2), fun c => absurd rfl c⟩)
            | true =>
              rw [hb, Bool.true_and] at K2
              have m1 : (p + k) % n < n := Nat.mod_lt _ (by omega)
              refine am_run (am_cK _) 2 (⟨fun c => absurd c n10, fun _ => ?_⟩)
              refine am_run (am_cK _) 2 (am_obj_in W2.o (am_run (am_cK _) 6 (am_obj_in W2.o (am_run (am_cK _) 2 (am_ld W2.a154 j (by omega) ?_)))))
              rw [nI_clamp (by omega), show va_up A 157 gw 154 j = nI n from hr.1, nI_add]
              refine am_run (am_cK _) 1 (⟨nI_ne0 (by omega) (by omega), ?_⟩)
              rw [show nI (p + k) - nI (p + k) / nI n * nI n = nI ((p + k) % n) from pk_rem (by omega) (by omega) (by omega)]
              refine am_run (am_cK _) 1 (M_beadAt W2.a154 (by omega) (by omega) (hr.2 _ m1) ?_)
              refine am_run (am_cK _) 2 (am_obj_in W2.o (am_run (am_cK _) 2 (am_ld W2.a157 k (by omega) ?_)))
              rw [nI_clamp (by omega), show va_up A 157 gw 157 k = nI (wd k) from (hg k hk).1]
              have f1 := hz.2.2 _ m1
              have f2 := hg4 k hk
              have er : rol f n p k = f ((p + k) % n) := by show f ((k + p) % n) = _; rw [Nat.add_comm]
              rw [er] at K2
              refine am_run (am_cK _) 1 (⟨fun c => ?_, fun c => ?_⟩)
              · rw [show (f ((p + k) % n) == wd k) = false from beq_eq_false_iff_ne.mpr (fun z => c (congrArg nI z))] at K2
                exact am_run (am_cK _) 4 (K2)
              · rw [show (f ((p + k) % n) == wd k) = true by rw [beq_iff_eq]; exact (nI_eq (by omega) (by omega)).mp (Classical.not_not.mp c)] at K2
                exact am_run (am_cK _) 5 (K2)
          · refine am_run (am_cK _) 3 (am_obj_in W2.o (am_run (am_cK _) 1 (pk_le w w (fun _ => ?_) (fun c => by omega) (hx := r11))))
            rw [← eP]
            have K3 := K (some (.int (bI (plc f n (rk wd w) w p))), some (.int (nI w))) trivial
            simp only at K3
            rw [← or_bit (by omega), nI_succ p] at K3
            cases hb : plc f n (rk wd w) w p with
            | false =>
              rw [hb] at K3
              exact am_run (am_cK _) 3 (⟨fun _ => am_run (am_cK _) 5 (K3), fun c => absurd rfl c⟩)
            | true =>
              rw [hb] at K3
              exact am_run (am_cK _) 3 (⟨fun c => absurd c n10, fun _ => am_run (am_cK _) 8 (K3)⟩)
        · refine am_run (am_cK _) 3 (am_obj_in W2.o (am_run (am_cK _) 2 (am_ld W2.a154 j (by omega) ?_)))
          rw [nI_clamp (by omega), show va_up A 157 gw 154 j = nI n from hr.1]
          refine am_run (am_cK _) 1 (pk_le n n (fun _ => ?_) (fun c => by omega))
          refine am_run (am_cK _) 3 (am_putI W2 rfl (by decide) (fun h3 W3 => ?_))
          refine am_run (am_cK _) 3 (J_bitCount _ ?_)
          rw [bc_bts _ hz.2.1]
          refine am_run (am_cK _) 2 (am_obj_in W3.o ((M_enters W3 (m := 0) rfl (by omega) _ (fun h4 W4 => ?_))))
          refine am_run (am_cK _) 2 (hQ h4 W4.y ⟨_, _, _, W4.re, ivT.s, ivT.u, ivT.k, ivT.t, ⟨rfl, by show 1 ≤ 16; omega, fun i hi => i_lt1 (P := fun q => vp_updL R 0 (nI (cnt (plc f n (rk wd w) w) n)).toInt64 q = (w1 (nI (cnt (plc f n (rk wd w) w) n)) q).toInt64) hi rfl⟩, ivT.f, ivT.hr, ivT.l⟩)
      · rw [if_pos c] at hQ
        exact am_run (am_cK _) 2 (hQ h2 W2.y ⟨_, _, _, W2.re, ivT⟩)
    · rw [if_pos c] at hQ
      exact am_run (am_cK _) 1 (⟨fun z => absurd rfl z, fun _ => am_run (am_cK _) 2 (hQ h2 W2.y ⟨_, _, _, W2.re, ivT⟩)⟩)
  · rw [if_neg hw] at hQ
    exact am_run (am_cK _) 3 (⟨fun z => absurd (wFl_neg hw) (Int32.not_lt.mpr z), fun _ => am_run (am_cK _) 2 (hQ h2 W2.y ⟨_, _, _, W2.re, ivT⟩)⟩)
theorem Z_words (hY : RY h M) (b w : Int32) (hQ : ∀ h', Fy h h' → RY h' (oWords M b w).2 → Q (some (.int (oWords M b w).1)) h') : am_call (d + 20) 267 [.ref 152, .int b, .int w] h Q := by
  obtain ⟨F, A, R, W, iv⟩ := hY
  have hs := iv.s.2
  have hN := hs.1
  unfold oWords at hQ
  refine en_X11_words (Nat.le_of_ble_eq_true rfl) ?_
  refine am_run (am_cK _) 3 (am_putI W rfl (by decide) (fun h1 W1 => ?_))
  refine am_run (am_cK _) 3 (am_obj_in W1.o ((M_isRing W1 iv.s.1.1 hN b (fun j hj e => ?_) (fun c => ?_))))
  · subst e
    rw [if_neg (S_no hs hj), nI_clamp (by omega)] at hQ
    have hz := hs.2.1 j hj
    have hr := iv.s.1.2.2.2 j hj
    refine am_run (am_cK _) 1 (⟨fun z => absurd z n10, fun _ => ?_⟩)
    refine am_run (am_cK _) 5 (am_obj_in W1.o (am_run (am_cK _) 2 (am_ld W1.a154 j (by omega) ?_)))
    rw [nI_clamp (by omega), hr.1]
    refine am_run (am_cK _) 2 (M_inN w 1 (sZ (mS M) j) (by omega) (by omega) (fun y y1 y2 e => ?_) (fun c => ?_))
    · subst e
      rw [if_neg (by
        rintro (z | z)
        · exact nI_nlt (a := y) (b := 1) y1 (by omega) z
        · exact nI_nlt (a := sZ (mS M) j) (b := y) y2 (by omega) z), nI_clamp (by omega)] at hQ
      unfold oWordsN at hQ
      refine am_run (am_cK _) 1 (⟨fun _ => ?_, fun z => absurd n10 z⟩)
      refine am_run (am_cK _) 3 (am_obj_in W1.o (am_run (am_cK _) 2 (am_obj_in W1.o ((M_looksAt W1 (Or.inl rfl) (by omega) (by omega) hz.2.1 hr.1 hr.2 hz.2.2 (fun h2 g W2 hL => ?_))))))
      have hl := hL.1
      generalize hff : sB (mS M) j = f at *
      generalize hnn : sZ (mS M) j = n at *
      refine am_run (am_cK _) 8 (show am_wp (am_call (d + 19)) (0, 0) cm_X11_words Q (fun _ => False) (51, [some (.ref 152), some (.int (nI j)), some (.int (nI y)), some (.int (nI 0)), some (.int (nI 0)), some (.int (nI 0)), some (.int (nI 0)), none, none, none], [], 0, 0) h2 from ?_)
      refine am_loopP (α := Option Value × Option Value × Option Value) (fun p x => (51, [some (.ref 152), some (.int (nI j)), some (.int (nI y)), some (.int (nI (cnt (nwW f n y) p))), some (.int (nI (wM f n y p).1)), some (.int (nI (wM f n y p).2)), some (.int (nI p)), x.1, x.2.1, x.2.2], [], 0, 0)) (fun _ _ => True) n (fun p x hp _ K => ?_) (fun x _ => ?_) 0 (none, none, none) (Nat.zero_le _) trivial
      · obtain ⟨x1, x2, x3⟩ := x
        refine am_run (am_cK _) 3 (am_obj_in W2.o (am_run (am_cK _) 1 (pk_le n p (fun c => by omega) (fun _ => ?_) (hx := hl))))
        refine am_run (am_cK _) 6 (show am_wp (am_call (d + 19)) (0, 0) cm_X11_words Q (fun _ => False) (69, [some (.ref 152), some (.int (nI j)), some (.int (nI y)), some (.int (nI (cnt (nwW f n y) p))), some (.int (nI (wM f n y p).1)), some (.int (nI (wM f n y p).2)), some (.int (nI p)), some (.int (nI 0)), some (.int (nI 0)), some (.int (nI 0))], [], 0, 0) h2 from ?_)
        refine am_loopC (fun q => (69, [some (.ref 152), some (.int (nI j)), some (.int (nI y)), some (.int (nI (cnt (nwW f n y) p))), some (.int (nI (wM f n y p).1)), some (.int (nI (wM f n y p).2)), some (.int (nI p)), some (.int (nI (cnt (fun q => decide (q < p) && eqw f n y p q) q))), some (.int (nI (cnt (eqw f n y p) q))), some (.int (nI q))], [], 0, 0)) n (fun q hq K2 => ?_) ?_ 0 (Nat.zero_le _)
        · refine am_run (am_cK _) 3 (am_obj_in W2.o (am_run (am_cK _) 1 (pk_le n q (fun c => by omega) (fun _ => ?_) (hx := hl))))
          rw [cnt, cnt, nI_succ q] at K2
          have sec : ∀ a : Int32, (am_wp (am_call (d + 19)) (0, 0) cm_X11_words Q (fun _ => False) (69, [some (.ref 152), some (.int (nI j)), some (.int (nI y)), some (.int (nI (cnt (nwW f n y) p))), some (.int (nI (wM f n y p).1)), some (.int (nI (wM f n y p).2)), some (.int (nI p)), some (.int a), some (.int (nI (cnt (eqw f n y p) q + (if eqw f n y p q = true then 1 else 0)))), some (.int (nI q + 1))], [], 0, 0) h2) → am_wp (am_call (d + 19)) (0, 0) cm_X11_words Q (fun _ => False) (110, [some (.ref 152), some (.int (nI j)), some (.int (nI y)), some (.int (nI (cnt (nwW f n y) p))), some (.int (nI (wM f n y p).1)), some (.int (nI (wM f n y p).2)), some (.int (nI p)), some (.int a), some (.int (nI (cnt (eqw f n y p) q))), some (.int (nI q))], [], 0, 0) h2 := fun a KK => by
            refine am_run (am_cK _) 6 (am_obj_in W2.o (M_isWord W2 hL (by omega) (by omega) (by omega) ?_))
            refine am_run (am_cK _) 1 (M_flag _ ?_)
            cases he : eqw f n y p q with
            | true =>
              rw [he, if_pos rfl, nI_succ] at KK
              exact am_run (am_cK _) 4 (KK)
            | false =>
              rw [he, if_neg (by decide), ← nI_add] at KK
              exact am_run (am_cK _) 4 (KK)
          refine am_run (am_cK _) 4 (pk_le p q (fun c => ?_) (fun c => ?_))
          · rw [show (decide (q < p) && eqw f n y p q) = false by rw [decide_eq_false (by omega)]; rfl, if_neg (by decide), ← nI_add] at K2
            exact am_run (am_cK _) 2 (M_flag0 (am_run (am_cK _) 2 (sec _ K2)))
          · refine am_run (am_cK _) 5 (am_obj_in W2.o ((M_isWord W2 hL (by omega) (by omega) (by omega) ?_)))
            cases he : eqw f n y p q with
            | true =>
              rw [show (decide (q < p) && eqw f n y p q) = true by rw [decide_eq_true c, he]; rfl, if_pos rfl, nI_succ (cnt (fun q => decide (q < p) && eqw f n y p q) q)] at K2
              exact am_run (am_cK _) 1 (⟨fun z => absurd z n10, fun _ => am_run (am_cK _) 3 (M_flag1 (am_run (am_cK _) 2 (sec _ K2)))⟩)
            | false =>
              rw [show (decide (q < p) && eqw f n y p q) = false by rw [he, Bool.and_false], if_neg (by decide), ← nI_add (cnt (fun q => decide (q < p) && eqw f n y p q) q)] at K2
              exact am_run (am_cK _) 1 (⟨fun _ => am_run (am_cK _) 2 (M_flag0 (am_run (am_cK _) 2 (sec _ K2))), fun z => absurd rfl z⟩)
        · refine am_run (am_cK _) 3 (am_obj_in W2.o (am_run (am_cK _) 1 (pk_le n n (fun _ => ?_) (fun c => by omega) (hx := hl))))
          have et : cnt (eqw f n y p) n = tms f n y p := cnt_congr (fun i _ => by
            unfold eqw plc
            rw [Bool.eq_iff_iff, beq_iff_eq, beq_iff_eq]
            exact ⟨fun z => z.symm, fun z => z.symm⟩)
          have ea : (cnt (fun q => decide (q < p) && eqw f n y p q) n = 0) ↔ nwW f n y p = true := by
            rw [cnt_ext n (by omega)]
            unfold nwW
            rw [beq_iff_eq, bts_0]
            have key : ∀ m, cnt (eqw f n y p) m = 0 ↔ ∀ i, i < m → plc f n (rk (rol f n p) y) y i = false := fun m => by
              induction m with
              | zero => exact ⟨fun _ i hi => by omega, fun _ => rfl⟩
              | succ m ih =>
                rw [cnt]
                have e2 : eqw f n y p m = plc f n (rk (rol f n p) y) y m := by
                  unfold eqw plc
                  rw [Bool.eq_iff_iff, beq_iff_eq, beq_iff_eq]
                  exact ⟨fun z => z.symm, fun z => z.symm⟩
                cases he : eqw f n y p m with
                | true =>
                  rw [if_pos rfl]
                  exact ⟨fun z => by omega, fun z => by have := z m (by omega); rw [← e2, he] at this; cases this⟩
                | false =>
                  rw [if_neg (by decide), Nat.add_zero, ih]
                  exact ⟨fun z i hi => (if q : i = m then (by rw [q, ← e2]; exact he) else z i (by omega)), fun z i hi => z i (by omega)⟩
            exact key p
          have hca := cnt_le (fun q => decide (q < p) && eqw f n y p q) n
          have hm := wM_le f n y p
          have ht : tms f n y p ≤ n := cnt_le _ _
          rw [et]
          generalize hah : cnt (fun q => decide (q < p) && eqw f n y p q) n = ah at *
          have K3 := K (some (.int (nI ah)), some (.int (nI (tms f n y p))), some (.int (nI n))) trivial
          simp only at K3
          rw [wM, cnt, nI_succ p] at K3
          have sec : ∀ D : Int32, am_wp (am_call (d + 19)) (0, 0) cm_X11_words Q (fun _ => False) (51, [some (.ref 152), some (.int (nI j)), some (.int (nI y)), some (.int D), some (.int (nI (if (wM f n y p).1 < tms f n y p then (tms f n y p, p) else wM f n y p).1)), some (.int (nI (if (wM f n y p).1 < tms f n y p then (tms f n y p, p) else wM f n y p).2)), some (.int (nI p + 1)), some (.int (nI ah)), some (.int (nI (tms f n y p))), some (.int (nI n))], [], 0, 0) h2 → am_wp (am_call (d + 19)) (0, 0) cm_X11_words Q (fun _ => False) (149, [some (.ref 152), some (.int (nI j)), some (.int (nI y)), some (.int D), some (.int (nI (wM f n y p).1)), some (.int (nI (wM f n y p).2)), some (.int (nI p)), some (.int (nI ah)), some (.int (nI (tms f n y p))), some (.int (nI n))], [], 0, 0) h2 := fun D KK => by
            refine am_run (am_cK _) 3 (pk_le (tms f n y p) (wM f n y p).1 (fun c => ?_) (fun c => ?_))
            · rw [if_neg (by omega)] at KK
              refine am_run (am_cK _) 5 (J_max (a := (wM f n y p).1) (b := tms f n y p) (by omega) (by omega) ?_)
              rw [show Nat.max (wM f n y p).1 (tms f n y p) = (wM f n y p).1 from Nat.max_eq_left c]
              exact am_run (am_cK _) 3 (KK)
            · rw [if_pos c] at KK
              refine am_run (am_cK _) 6 (J_max (a := (wM f n y p).1) (b := tms f n y p) (by omega) (by omega) ?_)
              rw [show Nat.max (wM f n y p).1 (tms f n y p) = tms f n y p from Nat.max_eq_right (Nat.le_of_lt c)]
              exact am_run (am_cK _) 3 (KK)
          refine am_run (am_cK _) 3 (⟨fun c => ?_, fun c => ?_⟩)
          · rw [if_neg (fun z => c (by rw [ea.mpr z]; rfl)), ← nI_add] at K3
            exact am_run (am_cK _) 2 (M_flag0 (am_run (am_cK _) 2 (sec _ K3)))
          · have a0 : ah = 0 := (nI_eq (b := 0) (by omega) (by omega)).mp (Classical.not_not.mp c)
            rw [if_pos (ea.mp a0), nI_succ (cnt (nwW f n y) p)] at K3
            exact am_run (am_cK _) 3 (M_flag1 (am_run (am_cK _) 2 (sec _ K3)))
      · refine am_run (am_cK _) 3 (am_obj_in W2.o (am_run (am_cK _) 1 (pk_le n n (fun _ => ?_) (fun c => by omega) (hx := hl))))
        refine am_run (am_cK _) 3 (am_putI W2 rfl (by decide) (fun h3 W3 => ?_))
        refine am_run (am_cK _) 4 (am_obj_in W3.o ((M_enters W3 (m := 0) rfl (by omega) _ (fun h4 W4 => ?_))))
        refine am_run (am_cK _) 4 (am_obj_in W4.o ((M_enters W4 (m := 1) rfl (by omega) _ (fun h5 W5 => ?_))))
        exact am_run (am_cK _) 2 (hQ h5 W5.y ⟨_, _, _, W5.re, iv.s, iv.u, iv.k, iv.t, ⟨rfl, by show 2 ≤ 16; omega, fun i hi => i_lt2 (P := fun q => vp_updL (vp_updL R 0 (nI (wM f n y n).1).toInt64) 1 (nI (wM f n y n).2).toInt64 q = (w2 (nI (wM f n y n).1) (nI (wM f n y n).2) q).toInt64) hi rfl rfl⟩, iv.f, iv.hr, iv.l⟩)
    · rw [if_pos (show w < 1 ∨ nI (sZ (mS M) j) < w from c)] at hQ
      exact am_run (am_cK _) 1 (⟨fun z => absurd rfl z, fun _ => am_run (am_cK _) 2 (hQ h1 W1.y ⟨_, _, _, W1.re, iv⟩)⟩)
  · rw [if_pos c] at hQ
    exact am_run (am_cK _) 1 (⟨fun _ => am_run (am_cK _) 2 (hQ h1 W1.y ⟨_, _, _, W1.re, iv⟩), fun z => absurd rfl z⟩)
end
