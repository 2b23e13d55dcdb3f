section
variable {d : Nat} {h : am_H} {Q : Option Value → am_H → Prop} {M : Ms}
theorem Z_strings (hY : RY h M) (hQ : ∀ h', Fy h h' → RY h' (oStrings M).2 → Q (some (.int (oStrings M).1)) h') : am_call (d + 10) 246 [.ref 152] h Q := by
  obtain ⟨F, A, R, W, iv⟩ := hY
  obtain ⟨t1, t2, t3⟩ := id iv.t
  have hs := iv.s.2
  have hN := hs.1
  unfold oStrings at hQ
  refine en_X11_strings (Nat.le_of_ble_eq_true rfl) ?_
  refine am_run (am_cK _) 3 (am_putI W rfl (by decide) (fun h1 W1 => ?_))
  refine am_run (am_cK _) 2 (am_obj_in W1.o ((M_readsWord W1 t1 t2 t3 (fun h2 gw W2 hg hw10 => ?_))))
  have ivT : Iv (upd (upd (bgF (upd F 0 0) (mT M).1) 11 (nI (wPl (mT M).2 (mT M).1))) 7 (nI (wPl (mT M).2 (mT M).1))) (va_up A 157 gw) R (pT M (0, (mT M).2)) := ⟨iv.s, iv.u, iv.k, ⟨rfl, Nat.zero_le _, fun i hi => absurd hi (Nat.not_lt_zero i)⟩, iv.d, iv.f, iv.hr, iv.l⟩
  by_cases hw : wFl (mT M).2 (mT M).1 = 0
  · rw [if_pos hw] at hQ
    have en : wPl (mT M).2 (mT M).1 = (mT M).1 ∧ 0 < (mT M).1 ∧ (mT M).1 ≤ 10 := by
      unfold wFl at hw
      have hle : wPl (mT M).2 (mT M).1 ≤ Nat.min (mT M).1 10 := by
        have := (fnd_le (nlt (mT M).2) (Nat.min (mT M).1 10) 0).2
        unfold wPl
        omega
      by_cases c1 : wPl (mT M).2 (mT M).1 < Nat.min (mT M).1 10
      · rw [if_pos c1] at hw
        exact absurd hw (by
          have : ∀ k, k < 11 → ¬ (-1 - nI k = 0) := by decide
          exact this _ (by have : Nat.min (mT M).1 10 ≤ 10 := Nat.min_le_right _ _; omega))
      · rw [if_neg c1] at hw
        by_cases c2 : (mT M).1 = 0
        · rw [if_pos c2] at hw; exact absurd hw (by decide)
        · rw [if_neg c2] at hw
          by_cases c3 : 10 < (mT M).1
          · rw [if_pos c3] at hw; exact absurd hw (by decide)
          · have : Nat.min (mT M).1 10 = (mT M).1 := Nat.min_eq_left (by omega)
            omega
    obtain ⟨ew, hn0, hn10⟩ := en
    rw [hw]
    rw [ew] at W2 hg ivT
    generalize hf : wBd (mT M).2 = f at *
    generalize hn : (mT M).1 = n at *
    have hf4 : ∀ i, i < n → f i < 4 := fun i hi => (hg i hi).2
    have r11 : upd (upd (bgF (upd F 0 0) n) 11 (nI n)) 7 (nI n) 11 = nI n := rfl
    generalize hF2 : upd (upd (bgF (upd F 0 0) n) 11 (nI n)) 7 (nI n) = F2 at *
    refine am_run (am_cK _) 3 (⟨fun _ => ?_, fun z => absurd (show (0 : Int32) ≤ 0 by decide) z⟩)
    have fin : ∀ a : Int32, a < 0 → sStr (mS M) f n = (a, mS M) → Q (some (.int a)) h2 := fun a ha e => by
      have eo : oAct (pT M (0, (mT M).2)) (a, mS M) = (a, pT M (0, (mT M).2)) := by
        unfold oAct
        rw [if_pos ha]
      rw [e, eo] at hQ
      exact hQ h2 W2.y ⟨_, _, _, W2.re, ivT⟩
    refine am_run (am_cK _) 2 (am_obj_in W2.o (am_run (am_cK _) 2 (am_ld W2.a154 60 (by omega) ?_)))
    rw [pk_cl (x := 60) 60, show va_up A 157 gw 154 60 = nI (sN (mS M)) from iv.s.1.1]
    refine am_run (am_cK _) 2 (⟨fun z => ?_, fun z => ?_⟩)
    · have h5 : ¬ 5 ≤ sN (mS M) := fun w => z (congrArg nI (show sN (mS M) = 5 by omega))
      refine am_run (am_cK _) 2 ?_
      refine am_loopP (α := Unit) (fun i _ => (32, [some (.ref 152), some (.int 0), some (.int (nI i)), none], [], 0, 0)) (fun i _ => ∀ c, c < i → num f n c ≤ sK (mS M) c) 4 (fun i _ hi P K => ?_) (fun _ P => ?_) 0 () (Nat.zero_le _) (fun c hc => by omega)
      · refine am_run (am_cK _) 3 (pk_le 4 i (fun c => by omega) (fun _ => ?_))
        have hk := hs.2.2.1 i hi
        have hnm := num_le f n i
        refine am_run (am_cK _) 3 (am_obj_in W2.o ((M_ofWord W2 r11 hn10 (fun j hj => ⟨(hg j hj).1, hf4 j hj⟩) (by omega) ?_)))
        refine am_run (am_cK _) 2 (am_obj_in W2.o (am_run (am_cK _) 4 (am_ld W2.a154 (55 + i) (by omega) ?_ (st_ix i))))
        rw [st_ix, nI_clamp (by omega), show va_up A 157 gw 154 (55 + i) = nI (sK (mS M) i) from iv.s.1.2.2.1 i hi]
        refine am_run (am_cK _) 1 (pk_le (num f n i) (sK (mS M) i) (fun c => ?_) (fun c => ?_))
        · have K2 := K () (fun c' hc' => (if e : c' = i then e ▸ c else P c' (by omega)))
          rw [nI_succ] at K2
          exact am_run (am_cK _) 2 (K2)
        · refine am_run (am_cK _) 2 (fin (-101) (by decide) ?_)
          unfold sStr
          rw [if_neg h5]
          have : hsB (mS M) f n = i := fnd_eq (Nat.zero_le _) (by omega) (fun c' _ c2 => decide_eq_false (by have := P c' c2; omega)) (Or.inr (decide_eq_true c))
          rw [if_pos (by omega)]
      · have hsB4 : hsB (mS M) f n = 4 := fnd_eq (Nat.zero_le _) (by omega) (fun c' _ c2 => decide_eq_false (by have := P c' c2; omega)) (Or.inl rfl)
        have es : sStr (mS M) f n = (nI (sN (mS M)), sApp (mS M) f n) := by
          unfold sStr
          rw [if_neg h5, if_neg (by omega)]
        rw [es] at hQ
        refine am_run (am_cK _) 3 (pk_le 4 4 (fun _ => ?_) (fun c => by omega))
        refine am_run (am_cK _) 2 (am_obj_in W2.o ((M_putsBy W2 (σ := mS M) (U := mU M) iv.s.1 hs ivT.u (fun h3 u W3 iu hm => ?_))))
        refine am_run (am_cK _) 2 (am_obj_in W3.o (am_run (am_cK _) 2 (am_ld W3.a154 60 (by omega) ?_)))
        rw [pk_cl (x := 60) 60, show va_up (va_up A 157 gw) 163 u 154 60 = nI (sN (mS M)) from iv.s.1.1]
        refine am_run (am_cK _) 3 (am_obj_in W3.o (am_run (am_cK _) 3 (am_obj_in W3.o (am_run (am_cK _) 1 (am_stI (p := 154) W3 (j := sN (mS M)) rfl (show sN (mS M) < 61 by omega) rfl (fun h4 W4 => ?_))))))
        rw [r11] at W4
        refine am_run (am_cK _) 2 ?_
        have cl : ∀ q c, q ≤ n → c < 4 → cnt (fun i => f i == c) q ≤ sK (mS M) c := fun q c hq hc => by
          have mono : ∀ a k, cnt (fun i => f i == c) a ≤ cnt (fun i => f i == c) (a + k) := fun a k => by
            induction k with
            | zero => exact Nat.le_refl _
            | succ k ih => rw [← Nat.add_assoc, cnt]; omega
          have m1 := mono q (n - q)
          rw [show q + (n - q) = n by omega] at m1
          have m2 := P c hc
          unfold num at m2
          omega
        refine am_lp (α := Nat → Int32) (fun q _ => (87, [some (.ref 152), some (.int 0), some (.int (nI (sN (mS M)))), some (.int (nI q))], [], 0, 0)) (fun q g h' => RM h h' F2 (va_up (va_up (va_up A 157 gw) 163 u) 154 g) R ∧ (∀ x, x < 55 → ¬ x = sN (mS M) → (x < 5 + 10 * sN (mS M) ∨ 15 + 10 * sN (mS M) ≤ x) → g x = A 154 x) ∧ g 59 = A 154 59 ∧ g 60 = A 154 60 ∧ g (sN (mS M)) = nI n ∧ (∀ i, i < q → g (5 + 10 * sN (mS M) + i) = nI (f i)) ∧ ∀ c, c < 4 → g (55 + c) = nI (sK (mS M) c - cnt (fun i => f i == c) q)) n (fun q g h5' hq P2 K => ?_) (fun g h5' P2 => ?_) 0 _ h4 (Nat.zero_le _) ⟨W4, fun x _ hx _ => upd_n hx, upd_n (by omega), upd_n (by omega), upd_s, fun i hi => by omega, fun c hc => by
          rw [show (upd (va_up (va_up A 157 gw) 163 u 154) (sN (mS M)) (nI n)) (55 + c) = A 154 (55 + c) from upd_n (by omega)]
          exact iv.s.1.2.2.1 c hc⟩
        · obtain ⟨W5, p1, p2, p3, p4, p5, p6⟩ := P2
          have hfq := hf4 q hq
          have hgw : va_up (va_up (va_up A 157 gw) 163 u) 154 g 157 q = nI (f q) := (hg q hq).1
          refine am_run (am_cK _) 3 (am_obj_in W5.o (am_run (am_cK _) 1 (pk_le n q (fun c => by omega) (fun _ => ?_) (hx := r11))))
          refine am_run (am_cK _) 2 (am_obj_in W5.o (am_run (am_cK _) 4 (am_obj_in W5.o (am_run (am_cK _) 2 (am_ld W5.a157 q (by omega) ?_)))))
          rw [nI_clamp (by omega), hgw]
          refine am_run (am_cK _) 1 (M_laysBead W5 (Or.inl rfl) (by omega) (by omega) _ (fun h6 W6 => ?_))
          refine am_run (am_cK _) 2 (am_obj_in W6.o (am_run (am_cK _) 3 (am_obj_in W6.o (am_run (am_cK _) 2 (am_ld W6.a157 q (by omega) ?_)))))
          rw [nI_clamp (by omega), show va_up (va_up (va_up A 157 gw) 163 u) 154 (upd g (5 + 10 * sN (mS M) + q) (nI (f q))) 157 q = nI (f q) from (hg q hq).1]
          refine am_run (am_cK _) 3 (am_ld W6.a154 (55 + f q) (by omega) ?_ (st_ix _))
          rw [st_ix, nI_clamp (by omega), am_up_s, upd_n (by omega), p6 _ hfq]
          refine am_run (am_cK _) 3 (am_stI (p := 154) W6 rfl (show 55 + f q < 61 by omega) rfl (fun h7 W7 => ?_))
          have hc1 := cl (q + 1) (f q) (by omega) hfq
          have hcn : cnt (fun i => f i == f q) (q + 1) = cnt (fun i => f i == f q) q + 1 := by rw [cnt, if_pos (by simp)]
          rw [am_up_s, va_up2, show nI (sK (mS M) (f q) - cnt (fun i => f i == f q) q) - 1 = nI (sK (mS M) (f q) - cnt (fun i => f i == f q) (q + 1)) by
            rw [hcn]
            exact (pk_sub (a := sK (mS M) (f q) - cnt (fun i => f i == f q) q) (b := 1) (by omega)).trans (by congr 1)] at W7
          have K2 := K _ h7 ⟨W7, fun x x1 x2 x3 => (upd_n (by omega)).trans ((upd_n (by omega)).trans (p1 x x1 x2 x3)), (upd_n (by omega)).trans ((upd_n (by omega)).trans p2), (upd_n (by omega)).trans ((upd_n (by omega)).trans p3), (upd_n (by omega)).trans ((upd_n (by omega)).trans p4), fun i hi => (by
            rw [upd_n (by omega)]
            by_cases e : i = q
            · subst e; exact upd_s
            · exact (upd_n (by omega)).trans (p5 i (by omega))), fun c hc => (by
            by_cases e : c = f q
            · subst e; exact upd_s
            · rw [upd_n (by omega), upd_n (by omega), p6 c hc, cnt, if_neg (by rw [beq_iff_eq]; exact fun w => e w.symm), Nat.add_zero])⟩
          rw [nI_succ] at K2
          exact am_run (am_cK _) 2 (K2)
        · obtain ⟨W5, p1, p2, p3, p4, p5, p6⟩ := P2
          refine am_run (am_cK _) 3 (am_obj_in W5.o (am_run (am_cK _) 1 (pk_le n n (fun _ => ?_) (fun c => by omega) (hx := r11))))
          refine am_run (am_cK _) 2 (am_obj_in W5.o (am_run (am_cK _) 3 (am_ld W5.a154 60 (by omega) ?_)))
          rw [pk_cl (x := 60) 60, am_up_s, p3, iv.s.1.1]
          refine am_run (am_cK _) 3 (am_stI (p := 154) W5 (j := 60) rfl (show 60 < 61 by omega) rfl (fun h6 W6 => ?_))
          rw [am_up_s, va_up2, nI_1] at W6
          refine am_run (am_cK _) 3 (am_obj_in W6.o ((M_adds W6 (U := mU M) (σ := mS M) iu hm hs _ (fun h7 x7 u7 W7 iu7 => ?_))))
          have hS : RSm (upd g 60 (nI (sN (mS M) + 1))) (sApp (mS M) f n) := by
            refine ⟨upd_s, (upd_n (by omega)).trans (p2.trans iv.s.1.2.1), fun c hc => ?_, fun b hb => ?_⟩
            · rw [upd_n (by omega)]
              show _ = nI (if c < 4 then sK (mS M) c - num f n c else sK (mS M) c)
              rw [if_pos hc]
              exact p6 c hc
            · show upd g 60 (nI (sN (mS M) + 1)) b = nI (va_up (sZ (mS M)) (sN (mS M)) n b) ∧ ∀ i, i < va_up (sZ (mS M)) (sN (mS M)) n b → upd g 60 (nI (sN (mS M) + 1)) (5 + 10 * b + i) = nI (va_up (sB (mS M)) (sN (mS M)) f b i)
              have hb5 : b < sN (mS M) + 1 := hb
              by_cases e : b = sN (mS M)
              · rw [e, am_up_s, am_up_s, upd_n (by omega)]
                exact ⟨p4, fun i hi => by rw [upd_n (by omega)]; exact p5 i hi⟩
              · rw [am_up_n e, am_up_n e, upd_n (by omega)]
                have hz := hs.2.1 b (by omega)
                have hr := iv.s.1.2.2.2 b (by omega)
                exact ⟨(p1 b (by omega) e (by omega)).trans hr.1, fun i hi => by
                  rw [upd_n (by omega)]
                  exact (p1 _ (by omega) (by omega) (by omega)).trans (hr.2 i hi)⟩
          have hok : Sok (sApp (mS M) f n) := by
            have := sStr_ok (f := f) (n := n) hs hn0 hn10 hf4
            rw [es] at this
            exact this
          have eo : oAct (pT M (0, (mT M).2)) (nI (sN (mS M)), sApp (mS M) f n) = (nI (sN (mS M)), pU (pS (pT M (0, (mT M).2)) (sApp (mS M) f n)) ((mS M :: mU M).take 15)) := by
            unfold oAct
            rw [if_neg (nI_pos (by omega))]
          rw [eo] at hQ
          exact am_run (am_cK _) 1 (hQ h7 W7.y ⟨_, _, _, W7.re, ⟨hS, hok⟩, iu7, ivT.k, ivT.t, ivT.d, ivT.f, ivT.hr, ivT.l⟩)
    · refine am_run (am_cK _) 2 (fin (-100) (by decide) ?_)
      have z2 : sN (mS M) = 5 := (nI_eq (b := 5) (by omega) (by omega)).mp (Classical.not_not.mp z)
      unfold sStr
      rw [if_pos (by omega)]
  · rw [if_neg hw] at hQ
    exact am_run (am_cK _) 3 (⟨fun z => absurd (wFl_neg hw) (Int32.not_lt.mpr z), fun _ => am_run (am_cK _) 2 (hQ h2 W2.y ⟨_, _, _, W2.re, ivT⟩)⟩)
end
