/-! a code that was read can be worked through -/
def nbo (W : List Nat) : Nat := W.countP (fun w => w != 40 && w != 126)
def shL (L : List Nat) : Option Nat := shp L.reverse 0
theorem shp_app : ∀ (xs ys : List Nat) (k : Nat), shp (xs ++ ys) k = (shp xs k).bind (shp ys)
  | [], ys, k => rfl
  | c :: xs, ys, k => by
    rw [List.cons_append, shp, shp]
    split
    · exact shp_app xs ys _
    · split
      · exact shp_app xs ys _
      · split
        · rfl
        · split
          · split
            · exact shp_app xs ys _
            · rfl
          · split
            · split
              · exact shp_app xs ys _
              · rfl
            · rfl
theorem shL_cons (c : Nat) (L : List Nat) : shL (c :: L) = (shL L).bind (shp [c]) := by
  unfold shL
  rw [List.reverse_cons, shp_app]
theorem shp_num {c k : Nat} (h : c < 1007) : shp [c] k = some (k + 1) := by
  rw [shp]
  split
  · rfl
  · rfl
theorem opc_bin : ∀ w, w < 256 → 1 ≤ bnd w → w ≠ 126 → 2000 ≤ opc w ∧ opc w < 2007 := by decide +kernel
theorem shp_bin {c k : Nat} (h1 : 2000 ≤ c) (h2 : c < 2007) (hk : 2 ≤ k) : shp [c] k = some (k - 1) := by
  rw [shp, if_neg (by omega), if_neg (by omega), if_neg (by omega), if_pos h2, if_pos hk]; rfl
theorem shp_neg {k : Nat} (hk : 1 ≤ k) : shp [3000] k = some k := by
  rw [shp, if_neg (by omega), if_neg (by omega), if_neg (by omega), if_neg (by omega), if_pos rfl, if_pos hk]; rfl
theorem stl_sh {b : Nat} (hb : 1 ≤ b) : ∀ (W L : List Nat), (∀ w ∈ W, w < 256 ∧ (w = 40 ∨ 1 ≤ bnd w)) → shL L = some (nbo W + 1) → shL (stl b L W).1 = some (nbo (stl b L W).2 + 1)
  | [], L, _, h => h
  | w :: W, L, hW, h => by
    rw [stl]
    split
    · rename_i hbw
      have hw := hW w List.mem_cons_self
      have h40 : w ≠ 40 := fun e => by rw [e] at hbw; exact absurd (Nat.le_trans hb hbw) (by decide)
      refine stl_sh hb W (opc w :: L) (fun w' hw' => hW w' (List.mem_cons_of_mem _ hw')) ?_
      rw [shL_cons, h]
      show shp [opc w] (nbo (w :: W) + 1) = some (nbo W + 1)
      by_cases e126 : w = 126
      · rw [e126]
        show shp [3000] _ = _
        rw [show nbo (126 :: W) = nbo W from rfl]
        exact shp_neg (by omega)
      · have ho := opc_bin w hw.1 (by omega) e126
        have en : nbo (w :: W) = nbo W + 1 := by
          unfold nbo
          rw [List.countP_cons_of_pos]
          simp [h40, e126]
        rw [en, shp_bin ho.1 ho.2 (by omega)]
        rfl
    · exact h
def Vok (s : Ru) : Prop := shL s.1 = some (nbo s.2.1 + (if s.2.2.2.2.2 then 0 else 1))
theorem trX_lt : ∀ x, x < 256 → trX x < 7 := by decide +kernel
theorem tk_v {s s' : Ru} {k x : Nat} (hx : x < 256) (hk : Uok s k) (hv : Vok s) (ht : tk s x = some s') : Vok s' := by
  obtain ⟨L, W, dep, dig, cmp, wt⟩ := s
  obtain ⟨a1, a2, a3, a4, a5, a6, a7, a8⟩ := hk
  simp only at a1 a2 a3 a4 a5 a6 a7 a8
  unfold Vok at hv
  simp only at hv
  unfold tk at ht
  split at ht
  · unfold tkD at ht
    simp only at ht
    split at ht
    · rename_i hx2 hw
      cases ht
      rw [hw] at hv
      show shL ((x - 48) :: L) = some (nbo W + 1)
      rw [shL_cons, hv]
      exact shp_num (by omega)
    · split at ht
      · rename_i hx2 hw hd
        split at ht
        · cases ht
          rename_i v L'
          have hwf : wt = false := by simpa using hw
          obtain ⟨v', L2, e, hv'⟩ := a7 (by omega)
          have ev := (List.cons.inj e).1
          rw [hwf, shL_cons] at hv
          show shL ((v * 10 + (x - 48)) :: L') = some (nbo W + 1)
          have hv100 : v < 100 := by rw [ev]; rcases hd with e | e <;> rw [e] at hv' <;> omega
          rw [shL_cons]
          cases hs : shL L' with
          | none => rw [hs] at hv; cases hv
          | some q =>
            rw [hs] at hv
            have hv2 : shp [v] q = some (nbo W + 1) := hv
            rw [shp_num (by omega)] at hv2
            show shp [v * 10 + (x - 48)] q = _
            rw [shp_num (by omega)]
            exact hv2
        · cases ht
      · cases ht
  · simp only at ht
    split at ht
    · rename_i hno hw
      have hwt : wt = true := hw
      rw [hwt] at hv
      unfold tkT at ht
      simp only at ht
      split at ht
      · cases ht
        exact hv
      · split at ht
        · split at ht
          · cases ht
          · cases ht
            exact hv
        · split at ht
          · cases ht
            show shL ((1000 + trX x) :: L) = some (nbo W + 1)
            rw [shL_cons, hv]
            have := trX_lt x hx
            exact shp_num (by omega)
          · cases ht
    · rename_i hno hw
      have hwt : wt = false := by simpa using hw
      rw [hwt] at hv
      unfold tkO at ht
      simp only at ht
      split at ht
      · split at ht
        · cases ht
        · rename_i hd
          cases ht
          obtain ⟨W', e⟩ := stl_par (L := L) a5 (by omega)
          have hs := stl_sh (b := 1) (Nat.le_refl _) W L a5 hv
          rw [e] at hs
          show shL (stl 1 L W).1 = some (nbo (stl 1 L W).2.tail + 1)
          rw [e, List.tail_cons, hs]
          rfl
      · rename_i h41
        have push : ∀ b, 1 ≤ b → ∀ cmp', 1 ≤ bnd x → bnd x ≠ 4 → Vok ((stl b L W).1, x :: (stl b L W).2, dep, 0, cmp', true) := by
          intro b hb cmp' hxb h4
          have hs := stl_sh hb W L a5 hv
          have hne : x ≠ 40 := fun e => by rw [e] at hxb; exact absurd hxb (by decide)
          have hne2 : x ≠ 126 := fun e => by rw [e] at h4; exact absurd rfl h4
          show shL (stl b L W).1 = some (nbo (x :: (stl b L W).2) + 0)
          have en : nbo (x :: (stl b L W).2) = nbo (stl b L W).2 + 1 := by
            unfold nbo
            rw [List.countP_cons_of_pos]
            simp [hne, hne2]
          rw [en]
          exact hs
        split at ht
        · cases ht
        · rename_i hb
          split at ht
          · rename_i hb1
            split at ht
            · cases ht
            · cases ht
              exact push 1 (Nat.le_refl _) _ (by omega) (by omega)
          · cases ht
            exact push (bnd x) (by omega) _ (by omega) (by omega)
theorem rdL_inv {tx : Nat → Nat} : ∀ (k i : Nat) {s s' : Ru} {j : Nat}, (∀ q, q < i + k → tx q < 256) → Uok s i → Vok s → rdL tx k i s = (j, some s') → Uok s' (i + k) ∧ Vok s'
  | 0, i, s, s', j, _, hu, hv, h => by cases h; exact ⟨hu, hv⟩
  | k + 1, i, s, s', j, htx, hu, hv, h => by
    rw [rdL] at h
    cases ht : tk s (tx i) with
    | none => rw [ht] at h; cases h
    | some s2 =>
      rw [ht] at h
      have z := rdL_inv k (i + 1) (fun q hq => htx q (by omega)) (tk_ok (htx i (by omega)) hu ht) (tk_v (htx i (by omega)) hu hv ht) h
      rw [show i + 1 + k = i + (k + 1) by omega] at z
      exact z
theorem ru0_ok : Uok ru0 0 ∧ Vok ru0 := ⟨⟨Nat.le_refl _, Nat.zero_le _, by decide, rfl, (fun w hw => by cases hw), Nat.zero_le _, fun z => absurd z (show ¬ 1 ≤ 0 by decide), fun _ => rfl⟩, rfl⟩
theorem rdC_ok {tx : Nat → Nat} {n : Nat} (htx : ∀ i, i < n → tx i < 256) (hF : rdF tx n = none) : Cok (rdC tx n) := by
  have hmin : Nat.min n 40 ≤ n ∧ Nat.min n 40 ≤ 40 := ⟨Nat.min_le_left _ _, Nat.min_le_right _ _⟩
  unfold rdF at hF
  unfold rdC
  cases hE : rdE tx n with
  | mk j o =>
    cases o with
    | none => rw [hE] at hF; cases hF
    | some s =>
      rw [hE] at hF
      have hE2 : rdL tx (Nat.min n 40) 0 ru0 = (j, some s) := hE
      have hi := rdL_inv (Nat.min n 40) 0 (fun q hq => htx q (by omega)) ru0_ok.1 ru0_ok.2 hE2
      obtain ⟨L, W, dep, dig, cmp, wt⟩ := s
      obtain ⟨⟨a1, a2, a3, a4, a5, a6, a7, a8⟩, hv⟩ := hi
      simp only at a1 a2 a3 a4 a5 a6 a7 a8
      have hl := stl_len 1 W L
      simp only at hF ⊢
      refine ⟨by omega, ?_⟩
      split at hF
      · cases hF
      · split at hF
        · cases hF
        · rename_i hno
          by_cases hn : n = 0
          · left
            subst hn
            have : (0, some ru0) = (j, some (L, W, dep, dig, cmp, wt)) := hE2
            cases this
            rfl
          · right
            have hw : wt = false := by
              cases hwt : wt with
              | true => exact absurd ⟨by omega, Or.inl hwt⟩ hno
              | false => rfl
            have hd : dep = 0 := Nat.le_zero.mp (Nat.le_of_not_lt (fun z => hno ⟨by omega, Or.inr z⟩))
            unfold Vok at hv
            rw [show (L, W, dep, dig, cmp, wt).2.2.2.2.2 = false from hw] at hv
            have hs := stl_sh (b := 1) (Nat.le_refl _) W L a5 hv
            have he : (stl 1 L W).2 = [] := by
              cases e : (stl 1 L W).2 with
              | nil => rfl
              | cons w W' =>
                have h1 := stl_head W L e
                have hm := stl_mem 1 W L w (by rw [e]; exact List.mem_cons_self)
                rcases (a5 w hm).2 with h2 | h2
                · have : 0 < W.count 40 := List.count_pos_iff.mpr (by rw [← h2]; exact hm)
                  omega
                · omega
            rw [he] at hs
            exact hs
/-! two numbers told -/
def w1 (x : Int32) : Nat → Int32 := fun _ => x
def w2 (x y : Int32) : Nat → Int32 := fun i => if i = 0 then x else y
def oRule (M : Ms) : Int32 × Ms := match rdF (mT M).2 (mT M).1 with
  | some f => (-1 - nI f, pT M (0, (mT M).2))
  | none => (0, pL (pT M (0, (mT M).2)) (rdC (mT M).2 (mT M).1))
def oLaw (M : Ms) : Int32 × Ms := match rdF (mT M).2 (mT M).1 with
  | some f => (-10000 - nI f, pT M (0, (mT M).2))
  | none => (nI (sPrs (rdC (mT M).2 (mT M).1) (mS M)) - nI (sPrs (mL M) (mS M)), pD (pT M (0, (mT M).2)) (2, w2 (nI (sPrs (rdC (mT M).2 (mT M).1) (mS M))) (nI (sPrs (mL M) (mS M)))))
section
variable {d : Nat} {h : am_H} {Q : Option Value → am_H → Prop} {M : Ms} {a b : Nat} {dr : Int32}
theorem RXc.htx (hX : RXc h M a b dr) : ∀ i, i < (mT M).1 → (mT M).2 i < 256 := by
  obtain ⟨wd, wz, _, _, g, _, z⟩ := hX.t
  exact fun i hi => (z i hi).2
theorem X_begin (hX : RXc h M a b dr) (hQ : ∀ h', AgN 131 2 h h' → RXc h' (pD M (0, (mD M).2)) a b dr → Q none h') : am_call (d + 1) 111 [.ref 131] h Q :=
  D_begin hX.d.1 (fun h' ha hR' => hQ h' ha (hX.pD hR' (by omega) (fun x hx => ha.2 x (by omega))))
theorem X_add (hX : RXc h M a b dr) (hm : (mD M).1 < 16) (v : Int32) (hQ : ∀ h', AgN 131 2 h h' → RXc h' (pD M ((mD M).1 + 1, upd (mD M).2 (mD M).1 v)) a b dr → Q none h') : am_call (d + 1) 112 [.ref 131, .int v] h Q :=
  D_add hX.d.1 hm v (fun h' ha hR' => hQ h' ha (hX.pD hR' (by omega) (fun x hx => ha.2 x (by omega))))
theorem X_addRow (hX : RXc h M a b dr) {f : Nat → Nat} {n : Nat} (hm : (mD M).1 = 0) (hn : n ≤ 10) (hf : ∀ i, i < n → f i < 4) (hQ : ∀ h', AgN 131 2 h h' → RXc h' (pD M (n, fun i => nI (f i))) a b dr → Q none h') : am_call (d + 2) 113 [.ref 131, .int (nI (rk f n)), .int (nI n)] h Q :=
  D_addRow hX.d.1 (by omega) hn hf (fun h' ha hR' => hQ h' ha (hX.pD (m := n) (w := fun i => nI (f i)) (by
    rw [hm, Nat.zero_add] at hR'
    exact RD_congr (fun i hi => by unfold wApp; rw [if_neg (by omega), Nat.sub_zero]) hR') (by omega) (fun x hx => ha.2 x (by omega))))
/-- the same row told otherwise -/
theorem RX_dc {w : Nat → Int32} (hX : RXc h M a b dr) (hw : ∀ i, i < (mD M).1 → (mD M).2 i = w i) : RXc h (pD M ((mD M).1, w)) a b dr := hX.pD (RD_congr hw hX.d.1) hX.d.2 (fun _ _ => rfl)
theorem X_rule (hX : RX h M) (hQ : ∀ h', Fx h h' → RX h' (oRule M).2 → Q (some (.int (oRule M).1)) h') : am_call (d + 10) 118 [.ref 40] h Q := by
  obtain ⟨a, b, dr, hX⟩ := hX
  obtain ⟨wd, wz, hT⟩ := hX.t
  have hab := hX.o.2
  unfold oRule at hQ
  obtain ⟨_, _, _, _, _, _, _, _, _, u0, _⟩ := id hX.u
  refine en_X10_rule (Nat.le_of_ble_eq_true rfl) (am_run (am_cK _) 2 (am_obj_in hX.o.1 (am_run (am_cK _) 2 (am_obj_in hX.o.1 (am_run (am_cK _) 1 (am_obj_in u0 (U_read hX.u hT (by omega) (fun f ef hf40 h1 a1 r1 => ?_) (fun ef hl h1 a1 r1 => ?_))))))))
  · have hX1 := hX.pU0 r1 (fun x hx => a1.2 x (by omega))
    obtain ⟨wd1, wz1, hT1⟩ := hX1.t
    refine am_run (am_cK _) 3 (am_obj_in hX1.o.1 (am_run (am_cK _) 1 (am_obj_in hT1.1 (T_empty hT1 (fun h2 a2 t2 => ?_)))))
    rw [ef] at hQ
    exact am_run (am_cK _) 2 ⟨fun c => absurd c (nI_pos (by omega)), fun _ => am_run (am_cK _) 4 (hQ h2 ((a1.fx (by omega) (by omega)).tr (a2.fx (by omega) (by omega))) ⟨a, b, dr, hX1.pT t2 (fun x hx => a2.2 x (by omega))⟩)⟩
  · have hX1 := hX.pU0 r1.z (fun x hx => a1.2 x (by omega))
    obtain ⟨wd1, wz1, hT1⟩ := hX1.t
    refine am_run (am_cK _) 3 (am_obj_in hX1.o.1 (am_run (am_cK _) 1 (am_obj_in hT1.1 (T_empty hT1 (fun h2 a2 t2 => ?_)))))
    rw [ef] at hQ
    have hX2 := hX1.pT t2 (fun x hx => a2.2 x (by omega))
    have r2 : RF h2 b (rdC (mT M).2 (mT M).1) := RF_fr r1 (fun x _ _ => a2.2 x (by omega))
    refine am_run (am_cK _) 2 ⟨fun _ => ?_, fun c => absurd (show (-1 : Int32) < 0 by decide) c⟩
    refine am_run (am_cK _) 2 (am_obj_in hX2.o.1 (am_run (am_cK _) 4 (am_obj_in hX2.o.1 (am_run (am_cK _) 1 (am_obj_in hX2.o.1 ?_)))))
    have k0 : (am_set h2 40 (cX b b dr)).2 40 = cX b b dr := as_s
    refine (show am_wp (am_call (d + 9)) (0, 0) cm_X10_rule Q (fun _ => False) (40, [some (.ref 40), some (.int (-1)), some (.ref a)], [], 0, 0) (am_set h2 40 (cX b b dr)) from ?_)
    have kx : ∀ x, ¬ x = 40 → (am_set h2 40 (cX b b dr)).2 x = h2.2 x := fun x hx => as_n hx
    have k1 : (am_set h2 40 (cX b b dr)).1 = h2.1 := rfl
    generalize am_set h2 40 (cX b b dr) = h3 at k0 kx k1 ⊢
    have kf : ∀ x, ¬ x = 40 → (am_set h3 40 (cX b a dr)).2 x = h2.2 x := fun x hx => (as_n hx).trans (kx x hx)
    refine am_run (am_cK _) 3 (am_obj_in k0 (am_run (am_cK _) 2 ?_))
    exact hQ (am_set h3 40 (cX b a dr)) ((a1.fx (by omega) (by omega)).tr ((a2.fx (by omega) (by omega)).tr ⟨k1, fun x hx => kf x (by omega)⟩)) ⟨b, a, dr, ⟨as_s, by omega⟩, ⟨RS_fr hX2.s.1 (fun x _ _ => kf x (by omega)), hX2.s.2⟩, ⟨hX2.z.choose, RS_fr hX2.z.choose_spec (fun x _ _ => kf x (by omega))⟩, RPm_fr hX2.p (fun x _ _ => kf x (by omega)), ⟨hX2.t.choose, hX2.t.choose_spec.choose, RT_fr hX2.t.choose_spec.choose_spec (fun x _ _ => kf x (by omega))⟩, ⟨RD_fr hX2.d.1 (fun x _ _ => kf x (by omega)), hX2.d.2⟩, RK_fr hX2.k (fun x _ _ => kf x (by omega)), ⟨RC_fr hX2.f.1 (fun x _ _ => kf x (by omega)), hX2.f.2⟩, ⟨RC_fr hX2.hr.1 (fun x _ _ => kf x (by omega)), hX2.hr.2⟩, ⟨hX2.y.choose, (kf 142 (by omega)).trans hX2.y.choose_spec⟩, ⟨hX2.l.choose, (kf 143 (by omega)).trans hX2.l.choose_spec⟩, ⟨RF_fr r2 (fun x _ _ => kf x (by omega)), rdC_ok hX.htx ef⟩, RU0_fr hX2.r.1.z (fun x _ _ => kf x (by omega)), RO_fr hX2.c (fun x _ => kf x (by omega))⟩
theorem X_law (hX : RX h M) (hQ : ∀ h', Fx h h' → RX h' (oLaw M).2 → Q (some (.int (oLaw M).1)) h') : am_call (d + 10) 160 [.ref 40] h Q := by
  obtain ⟨a, b, dr, hX⟩ := hX
  obtain ⟨wd, wz, hT⟩ := hX.t
  have hab := hX.o.2
  unfold oLaw at hQ
  obtain ⟨_, _, _, _, _, _, _, _, _, u0, _⟩ := id hX.u
  refine en_X10_law (Nat.le_of_ble_eq_true rfl) (am_run (am_cK _) 2 (am_obj_in hX.o.1 (am_run (am_cK _) 2 (am_obj_in hX.o.1 (am_run (am_cK _) 1 (am_obj_in u0 (U_read hX.u hT (by omega) (fun f ef hf40 h1 a1 r1 => ?_) (fun ef hl h1 a1 r1 => ?_))))))))
  · have hX1 := hX.pU0 r1 (fun x hx => a1.2 x (by omega))
    obtain ⟨wd1, wz1, hT1⟩ := hX1.t
    refine am_run (am_cK _) 3 (am_obj_in hX1.o.1 (am_run (am_cK _) 1 (am_obj_in hT1.1 (T_empty hT1 (fun h2 a2 t2 => ?_)))))
    rw [ef] at hQ
    exact am_run (am_cK _) 2 ⟨fun c => absurd c (nI_pos (by omega)), fun _ => am_run (am_cK _) 4 (hQ h2 ((a1.fx (by omega) (by omega)).tr (a2.fx (by omega) (by omega))) ⟨a, b, dr, hX1.pT t2 (fun x hx => a2.2 x (by omega))⟩)⟩
  · have hX1 := hX.pU0 r1.z (fun x hx => a1.2 x (by omega))
    obtain ⟨wd1, wz1, hT1⟩ := hX1.t
    refine am_run (am_cK _) 3 (am_obj_in hX1.o.1 (am_run (am_cK _) 1 (am_obj_in hT1.1 (T_empty hT1 (fun h2 a2 t2 => ?_)))))
    rw [ef] at hQ
    have hX2 := hX1.pT t2 (fun x hx => a2.2 x (by omega))
    have r2 : RF h2 b (rdC (mT M).2 (mT M).1) := RF_fr r1 (fun x _ _ => a2.2 x (by omega))
    refine am_run (am_cK _) 2 ⟨fun _ => ?_, fun c => absurd (show (-1 : Int32) < 0 by decide) c⟩
    refine am_run (am_cK _) 2 (am_obj_in hX2.o.1 (am_run (am_cK _) 2 (am_obj_in hX2.o.1 (am_run (am_cK _) 1 (am_obj_in hX2.so (S_pricesOfAll hX2.s.1 hX2.s.2 r2 (rdC_ok hX.htx ef) (by omega) (fun h3 a3 r3 => ?_)))))))
    have hX3 := hX2.pU0 r3.z (fun x hx => a3.2 x (by omega))
    refine am_run (am_cK _) 3 (am_obj_in hX3.o.1 (am_run (am_cK _) 2 (am_obj_in hX3.o.1 (am_run (am_cK _) 1 (am_obj_in hX3.so (S_pricesOfAll hX3.s.1 hX3.s.2 hX3.r.1 hX3.r.2 (by omega) (fun h4 a4 r4 => ?_)))))))
    have hX4 := hX3.pR r4 (fun x hx => a4.2 x (by omega))
    refine am_run (am_cK _) 3 (am_obj_in hX4.o.1 (am_run (am_cK _) 1 (am_obj_in hX4.d.1.1 (X_begin hX4 (fun h5 a5 hX5 => ?_)))))
    refine am_run (am_cK _) 2 (am_obj_in hX5.o.1 (am_run (am_cK _) 2 (am_obj_in hX5.d.1.1 (X_add hX5 (by show 0 < 16; omega) _ (fun h6 a6 hX6 => ?_)))))
    refine am_run (am_cK _) 2 (am_obj_in hX6.o.1 (am_run (am_cK _) 2 (am_obj_in hX6.d.1.1 (X_add hX6 (by show 0 + 1 < 16; omega) _ (fun h7 a7 hX7 => ?_)))))
    refine am_run (am_cK _) 4 (hQ h7 ((a1.fx (by omega) (by omega)).tr ((a2.fx (by omega) (by omega)).tr ((a3.fx (by omega) (by omega)).tr ((a4.fx (by omega) (by omega)).tr ((a5.fx (by omega) (by omega)).tr ((a6.fx (by omega) (by omega)).tr (a7.fx (by omega) (by omega)))))))) ⟨a, b, dr, RX_dc hX7 (fun i hi => ?_)⟩)
    have hi2 : i < 2 := hi
    rcases (by omega : i = 0 ∨ i = 1) with e | e <;> subst e <;> rfl
end
