theorem hi_lo : ∀ w, w < 4 → (if w = 1 then 0 else 1) ≤ (if w = 1 then 3 else 9) ∧ (if w = 1 then 3 else 9) ≤ 9 ∧ (w = 0 ∨ w = 1 ∨ w = 2 ∨ w = 3) := by decide
theorem vq_at : ∀ w, w < 4 → ∀ v, v < 10 → (vq (10 * w + v) = (decide ((if w = 1 then 0 else 1) ≤ v) && decide (v ≤ (if w = 1 then 3 else 9)))) := by decide +kernel
theorem aS_skip (M : Ms) (q : Nat) : ∀ k, (∀ i, i < k → vq (q + i) = false) → aS M (q + k) = aS M q
  | 0, _ => rfl
  | k + 1, h => by
    rw [← Nat.add_assoc, aS, h k (by omega), if_neg (fun z => absurd z.1 (by decide)), aS_skip M q k (fun i hi => h i (by omega))]
section
variable {d : Nat} {h0 h : am_H} {Q : Option Value → am_H → Prop} {F : Nat → Int32} {A : Nat → Nat → Int32} {R : Nat → Int64} {M : Ms}
theorem Z_asks (hY : RY h M) (hQ : ∀ h', Fy h h' → RY h' (oAsks M).2 → Q (some (.int (oAsks M).1)) h') : am_call (d + 20) 307 [.ref 152] h Q := by
  obtain ⟨F, A, R, W, iv⟩ := hY
  have hs := iv.s.2
  have hN := hs.1
  unfold oAsks at hQ
  have hb : fTb M < 2 ^ 10 := Nat.lt_of_lt_of_le (bts_lt _ _) (Nat.pow_le_pow_right (by decide) (by omega))
  have hcl := cnt_le (fTp M) (sN (mS M))
  refine en_X11_asks (Nat.le_of_ble_eq_true rfl) ?_
  refine am_run (am_cK _) 3 (am_putI W rfl (by decide) (fun h1 W1 => ?_))
  refine am_run (am_cK _) 2 (am_obj_in W1.o ((M_fitting W1 iv (fun h2 y2 g2 W2 => ?_))))
  refine am_run (am_cK _) 3 (⟨fun c => ?_, fun c => ?_⟩)
  · rw [if_neg (fun z => c (by rw [z]; rfl))] at hQ
    refine am_run (am_cK _) 6 (show am_wp (am_call (d + 19)) (0, 0) cm_X11_asks Q (fun _ => False) (26, [some (.ref 152), some (.int (nI (fTb M))), some (.int (-1)), some (.int (nI 1000000)), some (.int (nI 0)), none, none, none], [], 0, 0) h2 from ?_)
    refine am_lp (α := ((Int32 × Nat) × Int32 × (Nat → Int32)) × Option Value × Option Value × Option Value) (fun w x => (26, [some (.ref 152), some (.int (nI (fTb M))), some (.int x.1.1.1), some (.int (nI x.1.1.2)), some (.int (nI w)), x.2.1, x.2.2.1, x.2.2.2], [], 0, 0)) (fun w x h' => RM h h' (upd (upd F 0 0) 13 x.1.2.1) (va_up A 158 x.1.2.2) R ∧ ((w = 0 ∧ x.1.1.1 = -1 ∧ x.1.1.2 = 1000000) ∨ (0 < w ∧ x.1.1.1 = nI (aS M (10 * w)).2 ∧ x.1.1.2 = (aS M (10 * w)).1))) 4 (fun w x h3 hw P K => ?_) (fun x h3 P => ?_) 0 (((-1, 1000000), y2, g2), none, none, none) h2 (Nat.zero_le _) ⟨W2, Or.inl ⟨rfl, rfl, rfl⟩⟩
    · obtain ⟨⟨⟨bs, ls⟩, y3, g3⟩, x1, x2, x3⟩ := x
      obtain ⟨W3, p3⟩ := P
      replace W3 : RM h h3 (upd (upd F 0 0) 13 y3) (va_up A 158 g3) R := W3
      replace p3 : (w = 0 ∧ bs = -1 ∧ ls = 1000000) ∨ (0 < w ∧ bs = nI (aS M (10 * w)).2 ∧ ls = (aS M (10 * w)).1) := p3
      have hh := hi_lo w hw
      refine am_run (am_cK _) 3 (pk_le 4 w (fun c => by omega) (fun _ => ?_))
      refine am_run (am_cK _) 2 (M_lowest (by omega) ?_)
      refine am_run (am_cK _) 1 (show am_wp (am_call (d + 19)) (0, 0) cm_X11_asks Q (fun _ => False) (39, [some (.ref 152), some (.int (nI (fTb M))), some (.int bs), some (.int (nI ls)), some (.int (nI w)), some (.int (nI (if w = 1 then 0 else 1))), x2, x3], [], 0, 0) h3 from ?_)
      generalize hlo : (if w = 1 then 0 else 1) = lo at *
      generalize hhi : (if w = 1 then 3 else 9) = hi at *
      -- v from lo on; what stands before it asks nothing
      have sk0 : aS M (10 * w + lo) = aS M (10 * w) := aS_skip M (10 * w) lo (fun i hi' => by rw [vq_at w hw i (by omega), hlo, hhi, decide_eq_false (by omega)]; rfl)
      have sk1 : aS M (10 * (w + 1)) = aS M (10 * w + (hi + 1)) := by
        have := aS_skip M (10 * w + (hi + 1)) (10 - (hi + 1)) (fun i hi' => by
          rw [Nat.add_assoc, vq_at w hw (hi + 1 + i) (by omega), hlo, hhi, decide_eq_false (by omega : ¬ hi + 1 + i ≤ hi), Bool.and_false])
        rw [← this]
        congr 1
        omega
      refine am_lp (α := ((Int32 × Nat) × Int32 × (Nat → Int32)) × Option Value × Option Value) (fun v x => (39, [some (.ref 152), some (.int (nI (fTb M))), some (.int x.1.1.1), some (.int (nI x.1.1.2)), some (.int (nI w)), some (.int (nI v)), x.2.1, x.2.2], [], 0, 0)) (fun v x h' => RM h h' (upd (upd F 0 0) 13 x.1.2.1) (va_up A 158 x.1.2.2) R ∧ lo ≤ v ∧ ((10 * w + v ≤ 1 ∧ x.1.1.1 = -1 ∧ x.1.1.2 = 1000000) ∨ (1 < 10 * w + v ∧ x.1.1.1 = nI (aS M (10 * w + v)).2 ∧ x.1.1.2 = (aS M (10 * w + v)).1))) (hi + 1) (fun v x h4 hv P4 K4 => ?_) (fun x h4 P4 => ?_) lo (((bs, ls), y3, g3), x2, x3) h3 (by omega) ⟨W3, Nat.le_refl _, ?_⟩
      · obtain ⟨⟨⟨bs, ls⟩, y4, g4⟩, z2, z3⟩ := x
        obtain ⟨W4, hlv, p4⟩ := P4
        replace W4 : RM h h4 (upd (upd F 0 0) 13 y4) (va_up A 158 g4) R := W4
        replace p4 : (10 * w + v ≤ 1 ∧ bs = -1 ∧ ls = 1000000) ∨ (1 < 10 * w + v ∧ bs = nI (aS M (10 * w + v)).2 ∧ ls = (aS M (10 * w + v)).1) := p4
        have hvq : vq (10 * w + v) = true := by
          rw [vq_at w hw v (by omega), hlo, hhi, decide_eq_true hlv, decide_eq_true (by omega : v ≤ hi)]; rfl
        have ed : (10 * w + v) / 10 = w ∧ (10 * w + v) % 10 = v := by omega
        refine am_run (am_cK _) 3 (M_highest (by omega) ?_)
        rw [hhi]
        refine am_run (am_cK _) 1 (pk_lt hi v (fun c => by omega) (fun _ => ?_))
        refine am_run (am_cK _) 4 (show am_wp (am_call (d + 19)) (0, 0) cm_X11_asks Q (fun _ => False) (55, [some (.ref 152), some (.int (nI (fTb M))), some (.int bs), some (.int (nI ls)), some (.int (nI w)), some (.int (nI v)), some (.int (nI 0)), some (.int (nI 0))], [], 0, 0) h4 from ?_)
        refine am_lp (α := Int32 × (Nat → Int32)) (fun b _ => (55, [some (.ref 152), some (.int (nI (fTb M))), some (.int bs), some (.int (nI ls)), some (.int (nI w)), some (.int (nI v)), some (.int (nI (cnt (fun b => fTp M b && iSo w v (sB (mS M) b) (sZ (mS M) b)) b))), some (.int (nI b))], [], 0, 0)) (fun b x h' => RM h h' (upd (upd F 0 0) 13 x.1) (va_up A 158 x.2) R) (sN (mS M)) (fun b x h5 hb5 W5 K5 => ?_) (fun x h5 W5 => ?_) 0 (y4, g4) h4 (Nat.zero_le _) W4
        · obtain ⟨y5, g5⟩ := x
          replace W5 : RM h h5 (upd (upd F 0 0) 13 y5) (va_up A 158 g5) R := W5
          have hz := hs.2.1 b hb5
          have hr := iv.s.1.2.2.2 b hb5
          refine am_run (am_cK _) 3 (am_obj_in W5.o (am_run (am_cK _) 2 (am_ld W5.a154 60 (by omega) ?_)))
          rw [pk_cl (x := 60) 60, show va_up A 158 g5 154 60 = nI (sN (mS M)) from iv.s.1.1]
          refine am_run (am_cK _) 1 (pk_le (sN (mS M)) b (fun c => by omega) (fun _ => ?_))
          refine am_run (am_cK _) 3 (am_obj_in W5.o (am_run (am_cK _) 2 (am_obj_in W5.o ((M_looksAt W5 (Or.inl rfl) (by omega) (by omega) hz.2.1 hr.1 hr.2 hz.2.2 (fun h6 g6 W6 hL => ?_))))))
          rw [upd_upd, va_up2] at W6 hL
          have K6 := K5 (nI (sZ (mS M) b), g6) h6 W6
          rw [cnt, nI_succ b] at K6
          have etb : (fTb M).testBit b = fTp M b := by
            unfold fTb
            rw [bts_bit, decide_eq_true hb5]
            rfl
          have zero : (fTp M b && iSo w v (sB (mS M) b) (sZ (mS M) b)) = false → am_wp (am_call (d + 19)) (0, 0) cm_X11_asks Q (fun _ => False) (103, [some (.ref 152), some (.int (nI (fTb M))), some (.int bs), some (.int (nI ls)), some (.int (nI w)), some (.int (nI v)), some (.int (nI (cnt (fun b => fTp M b && iSo w v (sB (mS M) b) (sZ (mS M) b)) b))), some (.int (nI b))], [.int (nI (cnt (fun b => fTp M b && iSo w v (sB (mS M) b) (sZ (mS M) b)) b))], 0, 0) h6 := fun e => by
            rw [e, if_neg (by decide), ← nI_add] at K6
            exact am_run (am_cK _) 2 (M_flag0 (am_run (am_cK _) 4 (K6)))
          refine am_run (am_cK _) 4 (M_has (by omega) (by omega) ?_)
          rw [etb]
          cases e1 : fTp M b with
          | false => exact am_run (am_cK _) 1 (⟨fun _ => zero (by rw [e1]; rfl), fun z => absurd rfl z⟩)
          | true =>
            refine am_run (am_cK _) 1 (⟨fun z => absurd z n10, fun _ => ?_⟩)
            refine am_run (am_cK _) 4 (am_obj_in W6.o ((M_isSo W6 hL (by omega) (by omega) ?_)))
            cases e2 : iSo w v (sB (mS M) b) (sZ (mS M) b) with
            | false => exact am_run (am_cK _) 1 (⟨fun _ => zero (by rw [e1, e2]; rfl), fun z => absurd rfl z⟩)
            | true =>
              rw [show (fTp M b && iSo w v (sB (mS M) b) (sZ (mS M) b)) = true by rw [e1, e2]; rfl, if_pos rfl, nI_succ (cnt (fun b => fTp M b && iSo w v (sB (mS M) b) (sZ (mS M) b)) b)] at K6
              exact am_run (am_cK _) 1 (⟨fun z => absurd z n10, fun _ => am_run (am_cK _) 3 (M_flag1 (am_run (am_cK _) 4 (K6)))⟩)
        · obtain ⟨y5, g5⟩ := x
          replace W5 : RM h h5 (upd (upd F 0 0) 13 y5) (va_up A 158 g5) R := W5
          refine am_run (am_cK _) 3 (am_obj_in W5.o (am_run (am_cK _) 2 (am_ld W5.a154 60 (by omega) ?_)))
          rw [pk_cl (x := 60) 60, show va_up A 158 g5 154 60 = nI (sN (mS M)) from iv.s.1.1]
          refine am_run (am_cK _) 1 (pk_le (sN (mS M)) (sN (mS M)) (fun _ => ?_) (fun c => by omega))
          have esq : cnt (fun b => fTp M b && iSo w v (sB (mS M) b) (sZ (mS M) b)) (sN (mS M)) = sq M (10 * w + v) := by
            unfold sq
            rw [ed.1, ed.2]
          rw [esq]
          have hsq := sq_le M (10 * w + v)
          have hav := av_le hs (10 * w + v)
          refine am_run (am_cK _) 3 (J_bitCount _ ?_)
          rw [show bcI (nI (fTb M)) = nI (cnt (fTp M) (sN (mS M))) from bc_bts (fTp M) (by omega)]
          refine am_run (am_cK _) 3 (J_maxE (sq M (10 * w + v)) (cnt (fTp M) (sN (mS M)) - sq M (10 * w + v)) rfl (pk_sub hsq) (by omega) (by omega) ?_)
          rw [show Nat.max (sq M (10 * w + v)) (cnt (fTp M) (sN (mS M)) - sq M (10 * w + v)) = av M (10 * w + v) from rfl]
          have hls : ls ≤ 1000000 := by
            rcases p4 with p4 | p4
            · omega
            · have := (aS_le hs (10 * w + v)).1; omega
          refine am_run (am_cK _) 1 (show am_wp (am_call (d + 19)) (0, 0) cm_X11_asks Q (fun _ => False) (130, [some (.ref 152), some (.int (nI (fTb M))), some (.int bs), some (.int (nI ls)), some (.int (nI w)), some (.int (nI v)), some (.int (nI (sq M (10 * w + v)))), some (.int (nI (av M (10 * w + v))))], [], 0, 0) h5 from ?_)
          have K5 := fun bs' ls' => K4 (((bs', ls'), y5, g5), some (.int (nI (sq M (10 * w + v)))), some (.int (nI (av M (10 * w + v))))) h5
          refine am_run (am_cK _) 3 (pk_le ls (av M (10 * w + v)) (fun c => ?_) (fun c => ?_))
          · have p5 := p4.resolve_left (fun z => by omega)
            refine am_run (am_cK _) 5 (J_min (a := ls) (b := av M (10 * w + v)) (by omega) (by omega) ?_)
            rw [show Nat.min ls (av M (10 * w + v)) = ls from Nat.min_eq_left c]
            have K6 := K5 bs ls ⟨W5, by omega, Or.inr ⟨by omega, by
              show bs = nI (aS M (10 * w + v + 1)).2
              rw [aS, if_neg (fun z => by omega)]; exact p5.2.1, by
              show ls = (aS M (10 * w + v + 1)).1
              rw [aS, if_neg (fun z => by omega)]; exact p5.2.2⟩⟩
            simp only at K6
            rw [nI_succ v] at K6
            exact am_run (am_cK _) 3 (K6)
          · have eas : aS M (10 * w + v + 1) = (av M (10 * w + v), 10 * w + v) := by
              have hlt : av M (10 * w + v) < (aS M (10 * w + v)).1 := by
                rcases p4 with p4 | p4
                · have e0 : aS M (10 * w + v) = (6, 0) := by
                    rcases (by omega : 10 * w + v = 0 ∨ 10 * w + v = 1) with e | e
                    · rw [e]; rfl
                    · rw [e, show (1 : Nat) = 0 + 1 from rfl, aS, if_neg (fun z => absurd z.1 (by decide))]; rfl
                  rw [e0]
                  show av M (10 * w + v) < 6
                  omega
                · omega
              rw [aS, if_pos ⟨hvq, hlt⟩]
            have e10 : (10 : Int32) * nI w + nI v = nI (10 * w + v) := by
              rw [show (10 : Int32) * nI w = nI (10 * w) from pk_mul 10 w, nI_add]
            have hne : 1 < 10 * w + v + 1 := by
              have : ¬ 10 * w + v = 0 := fun z => by rw [z] at hvq; exact absurd hvq (by decide)
              omega
            refine am_run (am_cK _) 7 (show am_wp (am_call (d + 19)) (0, 0) cm_X11_asks Q (fun _ => False) (149, [some (.ref 152), some (.int (nI (fTb M))), some (.int (10 * nI w + nI v)), some (.int (nI ls)), some (.int (nI w)), some (.int (nI v)), some (.int (nI (sq M (10 * w + v)))), some (.int (nI (av M (10 * w + v))))], [], 0, 0) h5 from ?_)
            rw [e10]
            refine am_run (am_cK _) 3 (J_min (a := ls) (b := av M (10 * w + v)) (by omega) (by omega) ?_)
            rw [show Nat.min ls (av M (10 * w + v)) = av M (10 * w + v) from Nat.min_eq_right (Nat.le_of_lt c)]
            have K6 := K5 (nI (10 * w + v)) (av M (10 * w + v)) ⟨W5, by omega, Or.inr ⟨hne, by
              show nI (10 * w + v) = nI (aS M (10 * w + v + 1)).2
              rw [eas], by
              show av M (10 * w + v) = (aS M (10 * w + v + 1)).1
              rw [eas]⟩⟩
            simp only at K6
            rw [nI_succ v] at K6
            exact am_run (am_cK _) 3 (K6)
      · obtain ⟨⟨⟨bs, ls⟩, y4, g4⟩, z2, z3⟩ := x
        obtain ⟨W4, hlv, p4⟩ := P4
        replace W4 : RM h h4 (upd (upd F 0 0) 13 y4) (va_up A 158 g4) R := W4
        replace p4 : (10 * w + (hi + 1) ≤ 1 ∧ bs = -1 ∧ ls = 1000000) ∨ (1 < 10 * w + (hi + 1) ∧ bs = nI (aS M (10 * w + (hi + 1))).2 ∧ ls = (aS M (10 * w + (hi + 1))).1) := p4
        have p5 := p4.resolve_left (fun z => by rcases hh.2.2 with e | e | e | e <;> subst e <;> simp at hhi <;> omega)
        refine am_run (am_cK _) 3 (M_highest (by omega) ?_)
        rw [hhi]
        refine am_run (am_cK _) 1 (pk_lt hi (hi + 1) (fun _ => ?_) (fun c => by omega))
        have K6 := K (((bs, ls), y4, g4), some (.int (nI (hi + 1))), z2, z3) h4 ⟨W4, Or.inr ⟨by omega, by
          show bs = nI (aS M (10 * (w + 1))).2
          rw [sk1]; exact p5.2.1, by
          show ls = (aS M (10 * (w + 1))).1
          rw [sk1]; exact p5.2.2⟩⟩
        simp only at K6
        rw [nI_succ w] at K6
        exact am_run (am_cK _) 2 (K6)
      · rcases p3 with p3 | p3
        · obtain ⟨rfl, e1, e2⟩ := p3
          have : lo = 1 := by rw [← hlo]; rfl
          exact Or.inl ⟨by omega, e1, e2⟩
        · refine Or.inr ⟨by omega, ?_, ?_⟩
          · show bs = nI (aS M (10 * w + lo)).2
            rw [sk0]; exact p3.2.1
          · show ls = (aS M (10 * w + lo)).1
            rw [sk0]; exact p3.2.2
    · obtain ⟨⟨⟨bs, ls⟩, y3, g3⟩, x1, x2, x3⟩ := x
      obtain ⟨W3, p3⟩ := P
      replace W3 : RM h h3 (upd (upd F 0 0) 13 y3) (va_up A 158 g3) R := W3
      replace p3 : (4 = 0 ∧ bs = -1 ∧ ls = 1000000) ∨ (0 < 4 ∧ bs = nI (aS M 40).2 ∧ ls = (aS M 40).1) := p3
      have p4 := p3.resolve_left (fun z => by omega)
      refine am_run (am_cK _) 3 (pk_le 4 4 (fun _ => ?_) (fun c => by omega))
      refine am_run (am_cK _) 3 (am_putI W3 rfl (by decide) (fun h4 W4 => ?_))
      refine am_run (am_cK _) 4 (am_obj_in W4.o ((M_enters W4 (m := 0) rfl (by omega) _ (fun h5 W5 => ?_))))
      rw [← p4.2.2, ← p4.2.1] at hQ
      exact am_run (am_cK _) 2 (hQ h5 W5.y ⟨_, _, _, W5.re, iv.s, iv.u, iv.k, iv.t, ⟨rfl, by show 1 ≤ 16; omega, fun i hi => i_lt1 (P := fun q => vp_updL R 0 (nI ls).toInt64 q = (w1 (nI ls) q).toInt64) hi rfl⟩, iv.f, iv.hr, iv.l⟩)
  · rw [if_pos ((nI_eq (b := 0) (by omega) (by omega)).mp (Classical.not_not.mp c))] at hQ
    exact am_run (am_cK _) 2 (hQ h2 W2.y ⟨_, _, _, W2.re, iv⟩)
end
