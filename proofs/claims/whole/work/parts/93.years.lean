/-! years drawn by a seed -/
def rnd (x : Int32) : Int32 := x * 1103515245 + 12345
def hvN (x : Int32) : Nat := x.toBitVec.toNat / 65536
theorem hvN_lt (x : Int32) : hvN x < 65536 := by
  have := x.toBitVec.isLt
  unfold hvN
  omega
theorem hvN_eq (x : Int32) : (x.toUInt32 >>> ((16 : Int32).toUInt32 &&& Int32.toUInt32 31)).toInt32 = nI (hvN x) := by
  refine q_ext ?_
  rw [pk_ushr x 16 16 (by decide), Nat.mod_eq_of_lt (by have := hvN_lt x; unfold hvN at *; omega)]
  rfl
def yAct (a b m : Nat) (σ : Sg) : Sg := if a = 0 then (sRoll σ (nI b) (nI m)).2 else if a = 1 then (sSwap σ (nI b) (nI (m % sZ σ b))).2 else if a = 2 then (sThread σ (nI b) (nI 0) (nI (m % 4))).2 else (sCut σ (nI b) (nI (m % sZ σ b))).2
theorem yAct0 (j m : Nat) (σ : Sg) : yAct 0 j m σ = (sRoll σ (nI j) (nI m)).2 := if_pos rfl
theorem yAct1 (j m : Nat) (σ : Sg) : yAct 1 j m σ = (sSwap σ (nI j) (nI (m % sZ σ j))).2 := (if_neg (by omega)).trans (if_pos rfl)
theorem yAct2 (j m : Nat) (σ : Sg) : yAct 2 j m σ = (sThread σ (nI j) (nI 0) (nI (m % 4))).2 := (if_neg (by omega)).trans ((if_neg (by omega)).trans (if_pos rfl))
theorem yAct3 (j m : Nat) (σ : Sg) : yAct 3 j m σ = (sCut σ (nI j) (nI (m % sZ σ j))).2 := (if_neg (by omega)).trans ((if_neg (by omega)).trans (if_neg (by omega)))
def yS (x : Int32) (σ : Sg) : Int32 × Sg := if sN σ = 0 then (rnd x, σ) else (rnd (rnd (rnd x)), yAct (hvN (rnd x) % 4) (hvN (rnd (rnd x)) % sN σ) (hvN (rnd (rnd (rnd x))) % 10) σ)
def yrs : Nat → Int32 → Sg → Int32 × Sg
  | 0, x, σ => (x, σ)
  | n + 1, x, σ => yS (yrs n x σ).1 (yrs n x σ).2
theorem yAct_ok {a b m : Nat} {σ : Sg} (hs : Sok σ) : Sok (yAct a b m σ) := by
  unfold yAct
  split
  · exact sRoll_ok hs _ _
  · split
    · exact sSwap_ok hs _ _
    · split
      · exact sThread_ok hs _ _ _
      · exact sCut_ok hs _ _
theorem yS_ok {x : Int32} {σ : Sg} (hs : Sok σ) : Sok (yS x σ).2 := by
  unfold yS
  split
  · exact hs
  · exact yAct_ok hs
theorem yrs_ok {x : Int32} {σ : Sg} (hs : Sok σ) : ∀ n, Sok (yrs n x σ).2
  | 0 => hs
  | n + 1 => yS_ok (yrs_ok hs n)
def oYearsN (M : Ms) (seed : Int32) (n : Nat) : Int32 × Ms := (nI (smf (sZ (yrs n seed (mS M)).2) (sN (yrs n seed (mS M)).2)), pD M (2, w2 (nI (kNo (yrs n seed (mS M)).2)) (nI (smf (sK (yrs n seed (mS M)).2) 4))))
def oYears (M : Ms) (seed n : Int32) : Int32 × Ms := if n < 1 ∨ 60 < n then (-1, M) else oYearsN M seed n.toNatClampNeg
theorem ysw : ∀ i, i < 4 → am_tsw 54 69 0 2 #[26, 39, 53] (nI i) = [80, 93, 107, 123].getD i 0 := by decide +kernel
theorem mysw : ∀ i, i < 4 → am_tsw 20 80 0 2 #[28, 42, 63] (nI i) = [48, 62, 83, 100].getD i 0 := by decide +kernel
section
variable {d : Nat} {h0 h : am_H} {Q : Option Value → am_H → Prop} {F : Nat → Int32} {A : Nat → Nat → Int32} {R : Nat → Int64} {M : Ms} {a b : Nat} {dr : Int32} {τ σ : Sg}
theorem RS.o {p : Nat} (hR : RS h p σ) : h.2 p = cS p (sN σ) (sP σ) := hR.choose_spec.choose_spec.choose_spec.1
theorem X_draw (hX : RXc h M a b dr) {n : Nat} (hn : 0 < n) (hn2 : n < 2 ^ 31) (hQ : ∀ h', h'.1 = h.1 → (∀ x, ¬ x = 40 → h'.2 x = h.2 x) → RXc h' M a b (rnd dr) → Q (some (.int (nI (hvN (rnd dr) % n)))) h') : am_call (d + 1) 173 [.ref 40, .int (nI n)] h Q := by
  refine en_X10_draw (Nat.le_of_ble_eq_true rfl) ?_
  refine am_run (am_cK _) 3 (am_obj_in hX.o.1 (am_run (am_cK _) 5 (am_obj_in hX.o.1 (show am_steps (am_call d) (0, 0) cm_X10_draw Q (fun _ => False) (am_wp (am_call d) (0, 0) cm_X10_draw Q (fun _ => False)) 0 (16, [some (.ref 40), some (.int (nI n))], [], 0, 0) (am_set h 40 (cX a b (rnd dr))) from ?_))))
  have hX1 : RXc (am_set h 40 (cX a b (rnd dr))) M a b (rnd dr) := hX.pDr as_s (fun x hx => as_n hx)
  have q := hQ (am_set h 40 (cX a b (rnd dr))) rfl (fun x hx => as_n hx) hX1
  clear hX
  generalize am_set h 40 (cX a b (rnd dr)) = h1 at hX1 q ⊢
  generalize rnd dr = x1 at hX1 q ⊢
  refine am_run (am_cK _) 2 (pk_le n 0 (fun c => by omega) (fun _ => ?_))
  have hh := hvN_lt x1
  refine am_run (am_cK _) 2 (am_obj_in hX1.o.1 (am_run (am_cK _) 4 (show ¬ nI n = 0 ∧ am_steps (am_call d) (0, 0) cm_X10_draw Q (fun _ => False) (am_wp (am_call d) (0, 0) cm_X10_draw Q (fun _ => False)) 0 (29, [some (.ref 40), some (.int (nI n))], [.int ((x1.toUInt32 >>> ((16 : Int32).toUInt32 &&& Int32.toUInt32 31)).toInt32 - (x1.toUInt32 >>> ((16 : Int32).toUInt32 &&& Int32.toUInt32 31)).toInt32 / nI n * nI n)], 0, 0) h1 from ⟨nI_ne0 hn hn2, ?_⟩)))
  rw [hvN_eq, show nI (hvN x1) - nI (hvN x1) / nI n * nI n = nI (hvN x1 % n) from pk_rem (by omega) hn hn2]
  exact am_run (am_cK _) 2 (q)
theorem X_pyT (hX3 : RXc h M a b dr) (hz3 : RS h 45 τ) (hs : Sok τ) {j m ac : Nat} (hbl : j < sN τ) (hml : m < 10) (hal : ac < 4) (hQ : ∀ h', Fx h h' → RXc h' M a b dr → RS h' 45 (yAct ac j m τ) → Q none h') : am_wp (am_call (d + 4)) (0, 0) cm_X10_passYear Q (fun _ => False) (36, [some (.ref 40), some (.int (nI ac)), some (.int (nI j)), some (.int (nI m)), none], [], 0, 0) h := by
  have hN := hs.1
  obtain ⟨r, z, kk, e0, e1, e2, e3, e4, e5⟩ := id hz3
  have hzj := hs.2.1 j hbl
  refine am_run (am_cK _) 4 (am_obj_in hX3.o.1 (am_run (am_cK _) 1 (am_obj_in hz3.o (am_run (am_cK _) 2 (am_ld e2 j (by omega) ?_)))))
  rw [nI_clamp (by omega), (e4 j hbl).2]
  refine am_run (am_cK _) 1 (J_max (a := 1) (b := sZ τ j) (by omega) (by omega) ?_)
  rw [show Nat.max 1 (sZ τ j) = sZ τ j from Nat.max_eq_right hzj.1]
  refine am_run (am_cK _) 1 (⟨nI_ne0 (by omega) (by omega), ?_⟩)
  rw [show nI m - nI m / nI (sZ τ j) * nI (sZ τ j) = nI (m % sZ τ j) from pk_rem (by omega) (by omega) (by omega)]
  refine am_run (am_cK _) 3 (show am_wp (am_call (d + 4)) (0, 0) cm_X10_passYear Q (fun _ => False) (am_tsw 54 69 0 2 #[26, 39, 53] (nI ac), [some (.ref 40), some (.int (nI ac)), some (.int (nI j)), some (.int (nI m)), some (.int (nI (m % sZ τ j)))], [], 0, 0) h from ?_)
  rw [ysw ac hal]
  have fin : ∀ {h4 : am_H} {σ' : Sg}, Ag 45 h h4 → RS h4 45 σ' → Fx h h4 ∧ RXc h4 M a b dr := fun {h4} {σ'} a4 s4 => ⟨a4.fx (by omega) (by omega), hX3.pZ s4 (fun x hx => a4.2 x (by omega))⟩
  have hc : ac = 0 ∨ ac = 1 ∨ ac = 2 ∨ ac = 3 := by omega
  clear hal
  obtain rfl | rfl | rfl | rfl := hc
  · rw [yAct0] at hQ
    show am_wp (am_call (d + 4)) (0, 0) cm_X10_passYear Q (fun _ => False) (80, [some (.ref 40), some (.int (nI 0)), some (.int (nI j)), some (.int (nI m)), some (.int (nI (m % sZ τ j)))], [], 0, 0) h
    refine am_run (am_cK _) 2 (am_obj_in hX3.o.1 (am_run (am_cK _) 3 (am_obj_in hz3.o (S_roll hz3 hs _ _ (fun h4 a4 s4 => ?_)))))
    exact am_run (am_cK _) 3 (hQ h4 (fin a4 s4).1 (fin a4 s4).2 s4)
  · rw [yAct1] at hQ
    show am_wp (am_call (d + 4)) (0, 0) cm_X10_passYear Q (fun _ => False) (93, [some (.ref 40), some (.int (nI 1)), some (.int (nI j)), some (.int (nI m)), some (.int (nI (m % sZ τ j)))], [], 0, 0) h
    refine am_run (am_cK _) 2 (am_obj_in hX3.o.1 (am_run (am_cK _) 3 (am_obj_in hz3.o (S_swap hz3 hs _ _ (fun h4 a4 s4 => ?_)))))
    exact am_run (am_cK _) 3 (hQ h4 (fin a4 s4).1 (fin a4 s4).2 s4)
  · rw [yAct2] at hQ
    show am_wp (am_call (d + 4)) (0, 0) cm_X10_passYear Q (fun _ => False) (107, [some (.ref 40), some (.int (nI 2)), some (.int (nI j)), some (.int (nI m)), some (.int (nI (m % sZ τ j)))], [], 0, 0) h
    refine am_run (am_cK _) 2 (am_obj_in hX3.o.1 (am_run (am_cK _) 5 ⟨show ¬ (4 : Int32) = 0 by decide, ?_⟩))
    rw [show nI m - nI m / 4 * 4 = nI (m % 4) from pk_rem (a := m) (d := 4) (by omega) (by omega) (by omega)]
    refine am_run (am_cK _) 1 (am_obj_in hz3.o (S_thread hz3 hs _ _ _ (fun h4 a4 s4 => ?_)))
    exact am_run (am_cK _) 3 (hQ h4 (fin a4 s4).1 (fin a4 s4).2 s4)
  · rw [yAct3] at hQ
    show am_wp (am_call (d + 4)) (0, 0) cm_X10_passYear Q (fun _ => False) (123, [some (.ref 40), some (.int (nI 3)), some (.int (nI j)), some (.int (nI m)), some (.int (nI (m % sZ τ j)))], [], 0, 0) h
    refine am_run (am_cK _) 2 (am_obj_in hX3.o.1 (am_run (am_cK _) 3 (am_obj_in hz3.o (S_cut hz3 hs _ _ (fun h4 a4 s4 => ?_)))))
    exact am_run (am_cK _) 2 (hQ h4 (fin a4 s4).1 (fin a4 s4).2 s4)
theorem X_passYear (hX : RXc h M a b dr) (hz : RS h 45 τ) (hs : Sok τ) (hQ : ∀ h', Fx h h' → RXc h' M a b (yS dr τ).1 → RS h' 45 (yS dr τ).2 → Q none h') : am_call (d + 5) 172 [.ref 40] h Q := by
  have hN := hs.1
  unfold yS at hQ
  refine en_X10_passYear (Nat.le_of_ble_eq_true rfl) ?_
  refine am_run (am_cK _) 3 (am_obj_in hX.o.1 ((X_draw (n := 4) hX (by omega) (by omega) (fun h1 e1 f1 hX1 => ?_))))
  have hz1 : RS h1 45 τ := RS_fr hz (fun x _ _ => f1 x (by omega))
  have F1 : Fx h h1 := ⟨e1, fun x hx => f1 x (by omega)⟩
  refine am_run (am_cK _) 3 (am_obj_in hX1.o.1 (am_run (am_cK _) 1 (am_obj_in hz1.o (am_run (am_cK _) 1 ⟨fun c => ?_, fun c => ?_⟩))))
  · have n0 : ¬ sN τ = 0 := fun z => c (show nI (sN τ) = 0 by rw [z]; rfl)
    rw [if_neg n0] at hQ
    have hal : hvN (rnd dr) % 4 < 4 := Nat.mod_lt _ (by omega)
    generalize hvN (rnd dr) % 4 = ac at hal hQ ⊢
    generalize rnd dr = x1 at hX1 hQ ⊢
    refine am_run (am_cK _) 3 (am_obj_in hX1.o.1 (am_run (am_cK _) 1 (am_obj_in hz1.o (am_run (am_cK _) 1 (am_obj_in hX1.o.1 (X_draw (n := sN τ) hX1 (by omega) (by omega) (fun h2 e2 f2 hX2 => ?_)))))))
    have hz2 : RS h2 45 τ := RS_fr hz1 (fun x _ _ => f2 x (by omega))
    have F2 : Fx h h2 := F1.tr ⟨e2, fun x hx => f2 x (by omega)⟩
    have hbl : hvN (rnd x1) % sN τ < sN τ := Nat.mod_lt _ (by omega)
    generalize hvN (rnd x1) % sN τ = j at hbl hQ ⊢
    generalize rnd x1 = x2 at hX2 hQ ⊢
    refine am_run (am_cK _) 4 (am_obj_in hX2.o.1 (X_draw (n := 10) hX2 (by omega) (by omega) (fun h3 e3' f3 hX3 => ?_)))
    have hz3 : RS h3 45 τ := RS_fr hz2 (fun x _ _ => f3 x (by omega))
    have F3 : Fx h h3 := F2.tr ⟨e3', fun x hx => f3 x (by omega)⟩
    have hml : hvN (rnd x2) % 10 < 10 := Nat.mod_lt _ (by omega)
    generalize hvN (rnd x2) % 10 = m at hml hQ ⊢
    generalize rnd x2 = x3 at hX3 hQ ⊢
    exact am_run (am_cK _) 1 (show am_wp (am_call (d + 4)) (0, 0) cm_X10_passYear Q (fun _ => False) (36, [some (.ref 40), some (.int (nI ac)), some (.int (nI j)), some (.int (nI m)), none], [], 0, 0) h3 from X_pyT hX3 hz3 hs hbl hml hal (fun h4 f4 r4 s4 => hQ h4 (F3.tr f4) r4 s4))
  · have n0 : sN τ = 0 := (nI_eq (b := 0) (by omega) (by omega)).mp (Classical.not_not.mp c)
    rw [if_pos n0] at hQ
    exact am_run (am_cK _) 1 (hQ h1 F1 hX1 hz1)
theorem X_years (hX : RX h M) (seed n : Int32) (hQ : ∀ h', Fx h h' → RX h' (oYears M seed n).2 → Q (some (.int (oYears M seed n).1)) h') : am_call (d + 20) 162 [.ref 40, .int seed, .int n] h Q := by
  obtain ⟨a, b', dr, hX⟩ := hX
  have hs := hX.s.2
  unfold oYears at hQ
  have no : (n < 1 ∨ 60 < n) → Q (some (.int (-1))) h := fun c => by
    rw [if_pos c] at hQ
    exact hQ h Fx.rf ⟨a, b', dr, hX⟩
  refine en_X10_years (Nat.le_of_ble_eq_true rfl) ?_
  refine am_run (am_cK _) 3 (⟨fun c => am_run (am_cK _) 2 (no (Or.inl c)), fun c1 => am_run (am_cK _) 3 (⟨fun c2 => ?_, fun c2 => am_run (am_cK _) 2 (no (Or.inr (Int32.not_le.mp c2)))⟩)⟩)
  obtain ⟨m, m1, m60, rfl⟩ := num_in (a := 1) (b := 60) (by omega) (by omega) c1 (Int32.not_lt.mpr c2)
  rw [if_neg (fun z => z.elim c1 (fun w => Int32.not_lt.mpr c2 w)), nI_clamp (by omega)] at hQ
  unfold oYearsN at hQ
  obtain ⟨τ, hz⟩ := hX.z
  refine am_run (am_cK _) 2 (am_obj_in hX.o.1 (am_run (am_cK _) 2 (am_obj_in hX.o.1 (am_run (am_cK _) 1 (am_obj_in hz.o (S_copyFrom (by omega) hz hX.s.1 hs (fun h1 a1 hz1 => ?_)))))))
  have hX1 := hX.pZ hz1 (fun x hx => a1.2 x (by omega))
  refine am_run (am_cK _) 3 (am_obj_in hX1.o.1 (show am_steps (am_call (d + 19)) (0, 0) cm_X10_years Q (fun _ => False) (am_wp (am_call (d + 19)) (0, 0) cm_X10_years Q (fun _ => False)) 0 (29, [some (.ref 40), some (.int seed), some (.int (nI m)), none], [], 0, 0) (am_set h1 40 (cX a b' seed)) from ?_))
  have hX2 : RXc (am_set h1 40 (cX a b' seed)) M a b' seed := hX1.pDr as_s (fun x hx => as_n hx)
  have hz2 : RS (am_set h1 40 (cX a b' seed)) 45 (mS M) := RS_fr hz1 (fun x _ _ => as_n (by omega))
  have F2 : Fx h (am_set h1 40 (cX a b' seed)) := (a1.fx (by omega) (by omega)).tr ⟨rfl, fun x hx => as_n (by omega)⟩
  refine am_run (am_cK _) 2 ?_
  refine am_lp (α := Unit) (fun i _ => (31, [some (.ref 40), some (.int seed), some (.int (nI m)), some (.int (nI i))], [], 0, 0)) (fun i _ h' => Fx h h' ∧ RXc h' M a b' (yrs i seed (mS M)).1 ∧ RS h' 45 (yrs i seed (mS M)).2) m (fun i _ h3 hi P K => ?_) (fun _ h3 P => ?_) 0 () _ (Nat.zero_le _) ⟨F2, hX2, hz2⟩
  · obtain ⟨F3, hX3, hz3⟩ := P
    refine am_run (am_cK _) 3 (pk_le m i (fun c => by omega) (fun _ => ?_))
    refine am_run (am_cK _) 2 (am_obj_in hX3.o.1 ((X_passYear hX3 hz3 (yrs_ok hs i) (fun h4 f4 hX4 hz4 => ?_))))
    have K2 := K () h4 ⟨F3.tr f4, hX4, hz4⟩
    rw [nI_succ i] at K2
    exact am_run (am_cK _) 2 (K2)
  · obtain ⟨F3, hX3, hz3⟩ := P
    have ho := yrs_ok (x := seed) hs m
    refine am_run (am_cK _) 3 (pk_le m m (fun _ => ?_) (fun c => by omega))
    refine am_run (am_cK _) 2 (am_obj_in hX3.o.1 (am_run (am_cK _) 1 (am_obj_in hX3.d.1.1 ((X_begin hX3 (fun h4 a4 hX4 => ?_))))))
    have hz4 : RS h4 45 (yrs m seed (mS M)).2 := RS_fr hz3 (fun x _ _ => a4.2 x (by omega))
    refine am_run (am_cK _) 2 (am_obj_in hX4.o.1 (am_run (am_cK _) 2 (am_obj_in hX4.o.1 (am_run (am_cK _) 1 (am_obj_in hz4.o (S_kindNumber hz4 ho ?_))))))
    refine am_run (am_cK _) 1 (am_obj_in hX4.d.1.1 ((X_add hX4 (show 0 < 16 by omega) _ (fun h5 a5 hX5 => ?_))))
    have hz5 : RS h5 45 (yrs m seed (mS M)).2 := RS_fr hz4 (fun x _ _ => a5.2 x (by omega))
    refine am_run (am_cK _) 2 (am_obj_in hX5.o.1 (am_run (am_cK _) 2 (am_obj_in hX5.o.1 (am_run (am_cK _) 1 (am_obj_in hz5.o (S_stockOfAll hz5 ?_))))))
    refine am_run (am_cK _) 1 (am_obj_in hX5.d.1.1 ((X_add hX5 (show 0 + 1 < 16 by omega) _ (fun h6 a6 hX6 => ?_))))
    have hz6 : RS h6 45 (yrs m seed (mS M)).2 := RS_fr hz5 (fun x _ _ => a6.2 x (by omega))
    refine am_run (am_cK _) 2 (am_obj_in hX6.o.1 (am_run (am_cK _) 1 (am_obj_in hz6.o (S_beadsOfAll hz6 ho ?_))))
    exact am_run (am_cK _) 1 (hQ h6 (F3.tr ((Fx2 a4 a5).tr (a6.fx (by omega) (by omega)))) ⟨a, b', _, RX_dc hX6 (fun i hi => i_lt2 (P := fun i => upd (upd (mD M).2 0 (nI (kNo (yrs m seed (mS M)).2))) (0 + 1) (nI (smf (sK (yrs m seed (mS M)).2) 4)) i = w2 (nI (kNo (yrs m seed (mS M)).2)) (nI (smf (sK (yrs m seed (mS M)).2) 4)) i) hi rfl rfl)⟩)
theorem M_draws (W : RM h0 h F A R) {n : Nat} {x : Int32} (hx : F 42 = x) (hn : 0 < n) (hn2 : n < 2 ^ 31) (hQ : ∀ h', RM h0 h' (upd F 42 (rnd x)) A R → Q (some (.int (nI (hvN (rnd x) % n)))) h') : am_call (d + 1) 314 [.ref 152, .int (nI n)] h Q := by
  subst hx
  refine en_X11_draws (Nat.le_of_ble_eq_true rfl) ?_
  refine am_run (am_cK _) 3 (am_obj_in W.o (am_run (am_cK _) 5 (am_putI W rfl (by decide) (fun h1 W1 => ?_))))
  have hh := hvN_lt (rnd (F 42))
  refine am_run (am_cK _) 2 (am_obj_in W1.o (am_run (am_cK _) 4 (show ¬ nI n = 0 ∧ am_steps (am_call d) (0, 0) cm_X11_draws Q (fun _ => False) (am_wp (am_call d) (0, 0) cm_X11_draws Q (fun _ => False)) 0 (25, [some (.ref 152), some (.int (nI n))], [.int (((rnd (F 42)).toUInt32 >>> ((16 : Int32).toUInt32 &&& Int32.toUInt32 31)).toInt32 - ((rnd (F 42)).toUInt32 >>> ((16 : Int32).toUInt32 &&& Int32.toUInt32 31)).toInt32 / nI n * nI n)], 0, 0) h1 from ⟨nI_ne0 hn hn2, ?_⟩)))
  rw [hvN_eq, show nI (hvN (rnd (F 42))) - nI (hvN (rnd (F 42))) / nI n * nI n = nI (hvN (rnd (F 42)) % n) from pk_rem (by omega) hn hn2]
  exact am_run (am_cK _) 1 (hQ h1 W1)
theorem M_ddT {g : Nat → Int32} (W2 : RM h0 h F (va_up A 155 g) R) (hS : RSm g σ) (hs : Sok σ) {j m ac : Nat} (hbl : j < sN σ) (hml : m < 10) (hac : ac < 4) (hQ : ∀ h' s g', RM h0 h' F (va_up (va_up A 164 s) 155 g') R → RSm g' (yAct ac j m σ) → Q none h') : am_wp (am_call (d + 4)) (0, 0) cm_X11_drawnDay Q (fun _ => False) (19, [some (.ref 152), some (.int (nI ac)), some (.int (nI j)), some (.int (nI m))], [], 0, 0) h := by
  have hN := hs.1
  have hz := hs.2.1 j hbl
  have hr := hS.2.2.2 j hbl
  refine am_run (am_cK _) 2 (show am_wp (am_call (d + 4)) (0, 0) cm_X11_drawnDay Q (fun _ => False) (am_tsw 20 80 0 2 #[28, 42, 63] (nI ac), [some (.ref 152), some (.int (nI ac)), some (.int (nI j)), some (.int (nI m))], [], 0, 0) h from ?_)
  rw [mysw ac hac]
  have W2' : ∀ {g' : Nat → Int32} {h' : am_H}, RM h0 h' F (va_up A 155 g') R → RM h0 h' F (va_up (va_up A 164 (A 164)) 155 g') R := fun w => by rw [va_same rfl]; exact w
  have hc : ac = 0 ∨ ac = 1 ∨ ac = 2 ∨ ac = 3 := by omega
  clear hac
  obtain rfl | rfl | rfl | rfl := hc
  · rw [yAct0] at hQ
    show am_wp (am_call (d + 4)) (0, 0) cm_X11_drawnDay Q (fun _ => False) (48, [some (.ref 152), some (.int (nI 0)), some (.int (nI j)), some (.int (nI m))], [], 0, 0) h
    refine am_run (am_cK _) 3 (am_obj_in W2.o (am_run (am_cK _) 3 (am_obj_in W2.o ((M_rollsOne W2 (Or.inr rfl) hS hs _ _ (fun h3 s g3 W3 hS3 => ?_))))))
    exact am_run (am_cK _) 3 (hQ h3 s g3 W3 hS3)
  · rw [yAct1] at hQ
    show am_wp (am_call (d + 4)) (0, 0) cm_X11_drawnDay Q (fun _ => False) (62, [some (.ref 152), some (.int (nI 1)), some (.int (nI j)), some (.int (nI m))], [], 0, 0) h
    refine am_run (am_cK _) 3 (am_obj_in W2.o (am_run (am_cK _) 4 (am_obj_in W2.o (am_run (am_cK _) 2 (am_ld W2.a155 j (by omega) ?_)))))
    rw [nI_clamp (by omega), am_up_s, hr.1]
    refine am_run (am_cK _) 1 (⟨nI_ne0 (by omega) (by omega), ?_⟩)
    rw [show nI m - nI m / nI (sZ σ j) * nI (sZ σ j) = nI (m % sZ σ j) from pk_rem (by omega) (by omega) (by omega)]
    refine am_run (am_cK _) 1 (am_obj_in W2.o ((M_swapsOne W2 (Or.inr rfl) hS hs _ _ (fun h3 g3 W3 hS3 => ?_))))
    exact am_run (am_cK _) 3 (hQ h3 _ g3 (W2' W3) hS3)
  · rw [yAct2] at hQ
    show am_wp (am_call (d + 4)) (0, 0) cm_X11_drawnDay Q (fun _ => False) (83, [some (.ref 152), some (.int (nI 2)), some (.int (nI j)), some (.int (nI m))], [], 0, 0) h
    refine am_run (am_cK _) 3 (am_obj_in W2.o (am_run (am_cK _) 5 (⟨show ¬ (4 : Int32) = 0 by decide, ?_⟩)))
    rw [show nI m - nI m / 4 * 4 = nI (m % 4) from pk_rem (a := m) (d := 4) (by omega) (by omega) (by omega)]
    refine am_run (am_cK _) 1 (am_obj_in W2.o ((M_threadsOne W2 (Or.inr rfl) hS hs _ _ _ (fun h3 g3 W3 hS3 => ?_))))
    exact am_run (am_cK _) 3 (hQ h3 _ g3 (W2' W3) hS3)
  · rw [yAct3] at hQ
    show am_wp (am_call (d + 4)) (0, 0) cm_X11_drawnDay Q (fun _ => False) (100, [some (.ref 152), some (.int (nI 3)), some (.int (nI j)), some (.int (nI m))], [], 0, 0) h
    refine am_run (am_cK _) 3 (am_obj_in W2.o (am_run (am_cK _) 4 (am_obj_in W2.o (am_run (am_cK _) 2 (am_ld W2.a155 j (by omega) ?_)))))
    rw [nI_clamp (by omega), am_up_s, hr.1]
    refine am_run (am_cK _) 1 (⟨nI_ne0 (by omega) (by omega), ?_⟩)
    rw [show nI m - nI m / nI (sZ σ j) * nI (sZ σ j) = nI (m % sZ σ j) from pk_rem (by omega) (by omega) (by omega)]
    refine am_run (am_cK _) 1 (am_obj_in W2.o ((M_cutsOne W2 (Or.inr rfl) hS hs _ _ (fun h3 g3 W3 hS3 => ?_))))
    exact am_run (am_cK _) 2 (hQ h3 _ g3 (W2' W3) hS3)
theorem M_drawnDay {g : Nat → Int32} (W : RM h0 h F (va_up A 155 g) R) (hS : RSm g σ) (hs : Sok σ) (hN0 : 0 < sN σ) {x : Int32} (hx : F 42 = x) {ac : Nat} (hac : ac < 4) (hQ : ∀ h' s g', RM h0 h' (upd F 42 (rnd (rnd x))) (va_up (va_up A 164 s) 155 g') R → RSm g' (yAct ac (hvN (rnd x) % sN σ) (hvN (rnd (rnd x)) % 10) σ) → Q none h') : am_call (d + 5) 315 [.ref 152, .int (nI ac)] h Q := by
  have hN := hs.1
  refine en_X11_drawnDay (Nat.le_of_ble_eq_true rfl) ?_
  refine am_run (am_cK _) 3 (am_obj_in W.o (am_run (am_cK _) 2 (am_ld W.a155 60 (by omega) ?_)))
  rw [pk_cl (x := 60) 60, am_up_s, hS.1]
  refine am_run (am_cK _) 1 (am_obj_in W.o ((M_draws W hx hN0 (by omega) (fun h1 W1 => ?_))))
  have hbl : hvN (rnd x) % sN σ < sN σ := Nat.mod_lt _ hN0
  generalize hvN (rnd x) % sN σ = j at hbl hQ ⊢
  generalize rnd x = x1 at W1 hQ ⊢
  refine am_run (am_cK _) 4 (am_obj_in W1.o ((M_draws (n := 10) (x := x1) W1 upd_s (by omega) (by omega) (fun h2 W2 => ?_))))
  rw [upd_upd] at W2
  have hml : hvN (rnd x1) % 10 < 10 := Nat.mod_lt _ (by omega)
  generalize hvN (rnd x1) % 10 = m at hml hQ ⊢
  generalize rnd x1 = x2 at W2 hQ ⊢
  exact am_run (am_cK _) 1 (show am_wp (am_call (d + 4)) (0, 0) cm_X11_drawnDay Q (fun _ => False) (19, [some (.ref 152), some (.int (nI ac)), some (.int (nI j)), some (.int (nI m))], [], 0, 0) h2 from M_ddT W2 hS hs hbl hml hac hQ)
theorem Z_years (hY : RY h M) (seed n : Int32) (hQ : ∀ h', Fy h h' → RY h' (oYears M seed n).2 → Q (some (.int (oYears M seed n).1)) h') : am_call (d + 20) 316 [.ref 152, .int seed, .int n] h Q := by
  obtain ⟨F, A, R, W, iv⟩ := hY
  have hs := iv.s.2
  unfold oYears at hQ
  refine en_X11_years (Nat.le_of_ble_eq_true rfl) ?_
  refine am_run (am_cK _) 3 (am_putI W rfl (by decide) (fun h1 W1 => ?_))
  refine am_run (am_cK _) 5 (M_inN n 1 60 (by omega) (by omega) (fun m m1 m60 e => ?_) (fun c => ?_))
  · subst e
    rw [if_neg (by
      rintro (z | z)
      · exact nI_nlt (a := m) (b := 1) m1 (by omega) z
      · exact nI_nlt (a := 60) (b := m) m60 (by omega) z), nI_clamp (by omega)] at hQ
    unfold oYearsN at hQ
    refine am_run (am_cK _) 1 (⟨fun _ => ?_, fun z => absurd n10 z⟩)
    refine am_run (am_cK _) 3 (am_putI W1 rfl (by decide) (fun h2 W2 => ?_))
    refine am_run (am_cK _) 2 (show am_wp (am_call (d + 19)) (0, 0) cm_X11_years Q (fun _ => False) (26, [some (.ref 152), some (.int seed), some (.int (nI m)), some (.int (nI 0)), none], [], 0, 0) h2 from ?_)
    refine am_lp (α := Nat → Int32) (fun q _ => (26, [some (.ref 152), some (.int seed), some (.int (nI m)), some (.int (nI q)), none], [], 0, 0)) (fun q g h' => RM h h' (upd (upd F 0 0) 42 seed) (va_up A 155 g) R ∧ ∀ k, k < q → g k = A 154 k) 61 (fun q g h3 hq P K => ?_) (fun g h3 P => ?_) 0 (A 155) h2 (Nat.zero_le _) ⟨by rw [va_same rfl]; exact W2, fun k hk => by omega⟩
    · obtain ⟨W3, p3⟩ := P
      refine am_run (am_cK _) 3 (pk_le 61 q (fun c => by omega) (fun _ => ?_))
      refine am_run (am_cK _) 2 (am_obj_in W3.o (am_run (am_cK _) 3 (am_obj_in W3.o (am_run (am_cK _) 2 (am_ld W3.a154 q (by omega) ?_)))))
      rw [nI_clamp (by omega)]
      refine am_run (am_cK _) 1 (am_stI (p := 155) W3 (j := q) rfl (show q < 61 by omega) rfl (fun h4 W4 => ?_))
      rw [am_up_s, va_up2] at W4
      have K2 := K _ h4 ⟨W4, fun k hk => (by
        by_cases e : k = q
        · subst e; exact upd_s
        · exact (upd_n e).trans (p3 k (by omega)))⟩
      rw [nI_succ q] at K2
      exact am_run (am_cK _) 2 (K2)
    · obtain ⟨W3, p3⟩ := P
      have hS3 : RSm g (mS M) := RSm_congr hs (fun x hx => p3 x hx) iv.s.1
      refine am_run (am_cK _) 3 (pk_le 61 61 (fun _ => ?_) (fun c => by omega))
      refine am_run (am_cK _) 2 (show am_wp (am_call (d + 19)) (0, 0) cm_X11_years Q (fun _ => False) (52, [some (.ref 152), some (.int seed), some (.int (nI m)), some (.int (nI 0)), none], [], 0, 0) h3 from ?_)
      refine am_lp (α := (Nat → Int32) × (Nat → Int32) × Option Value) (fun i y => (52, [some (.ref 152), some (.int seed), some (.int (nI m)), some (.int (nI i)), y.2.2], [], 0, 0)) (fun i y h' => RM h h' (upd (upd F 0 0) 42 (yrs i seed (mS M)).1) (va_up (va_up A 164 y.1) 155 y.2.1) R ∧ RSm y.2.1 (yrs i seed (mS M)).2) m (fun i y h4 hi P K => ?_) (fun y h4 P => ?_) 0 (A 164, g, none) h3 (Nat.zero_le _) ⟨by
        simp only
        rw [va_same (A := A) (p := 164) rfl]
        exact W3, hS3⟩
      · obtain ⟨s4, g4, jv⟩ := y
        obtain ⟨W4, hS4⟩ := P
        replace W4 : RM h h4 (upd (upd F 0 0) 42 (yrs i seed (mS M)).1) (va_up (va_up A 164 s4) 155 g4) R := W4
        replace hS4 : RSm g4 (yrs i seed (mS M)).2 := hS4
        have ho := yrs_ok (x := seed) hs i
        have hN := ho.1
        have eS : yrs (i + 1) seed (mS M) = yS (yrs i seed (mS M)).1 (yrs i seed (mS M)).2 := rfl
        generalize hx : (yrs i seed (mS M)).1 = x at *
        generalize hσ : (yrs i seed (mS M)).2 = σ at *
        unfold yS at eS
        refine am_run (am_cK _) 3 (pk_le m i (fun c => by omega) (fun _ => ?_))
        refine am_run (am_cK _) 3 (am_obj_in W4.o ((M_draws (n := 4) W4 rfl (by omega) (by omega) (fun h5 W5 => ?_))))
        rw [upd_upd, show upd (upd F 0 0) 42 x 42 = x from upd_s] at W5
        rw [show upd (upd F 0 0) 42 x 42 = x from upd_s]
        have hal : hvN (rnd x) % 4 < 4 := Nat.mod_lt _ (by omega)
        refine am_run (am_cK _) 1 (show am_wp (am_call (d + 19)) (0, 0) cm_X11_years Q (fun _ => False) (64, [some (.ref 152), some (.int seed), some (.int (nI m)), some (.int (nI i)), some (.int (nI (hvN (rnd x) % 4)))], [], 0, 0) h5 from ?_)
        refine am_run (am_cK _) 2 (am_obj_in W5.o (am_run (am_cK _) 2 (am_ld W5.a155 60 (by omega) ?_)))
        rw [pk_cl (x := 60) 60, am_up_s, hS4.1]
        refine am_run (am_cK _) 1 (pk_le (sN σ) 0 (fun c => ?_) (fun c => ?_))
        · rw [if_pos (by omega)] at eS
          have K2 := K (s4, g4, some (.int (nI (hvN (rnd x) % 4)))) h5 ⟨by rw [eS]; exact W5, by rw [eS]; exact hS4⟩
          simp only at K2
          rw [nI_succ i] at K2
          exact am_run (am_cK _) 2 (K2)
        · rw [if_neg (by omega)] at eS
          refine am_run (am_cK _) 3 (am_obj_in W5.o ((M_drawnDay W5 hS4 ho c (x := rnd x) rfl hal (fun h6 s6 g6 W6 hS6 => ?_))))
          rw [upd_upd, va_up2] at W6
          have K2 := K (s6, g6, some (.int (nI (hvN (rnd x) % 4)))) h6 ⟨by rw [eS]; exact W6, by rw [eS]; exact hS6⟩
          simp only at K2
          rw [nI_succ i] at K2
          exact am_run (am_cK _) 2 (K2)
      · obtain ⟨s4, g4, jv⟩ := y
        obtain ⟨W4, hS4⟩ := P
        replace W4 : RM h h4 (upd (upd F 0 0) 42 (yrs m seed (mS M)).1) (va_up (va_up A 164 s4) 155 g4) R := W4
        replace hS4 : RSm g4 (yrs m seed (mS M)).2 := hS4
        have ho := yrs_ok (x := seed) hs m
        generalize hσ : (yrs m seed (mS M)).2 = σ at *
        refine am_run (am_cK _) 3 (pk_le m m (fun _ => ?_) (fun c => by omega))
        refine am_run (am_cK _) 3 (am_putI W4 rfl (by decide) (fun h5 W5 => ?_))
        refine am_run (am_cK _) 4 (am_obj_in W5.o (am_run (am_cK _) 1 (am_obj_in W5.o ((M_kindsOf (σ := σ) W5 (Or.inr rfl) hS4 ho (fun h6 y6 g6 W6 => ?_))))))
        refine am_run (am_cK _) 2 (am_obj_in W6.o ((M_enters W6 (m := 0) rfl (by omega) _ (fun h7 W7 => ?_))))
        refine am_run (am_cK _) 3 (am_obj_in W7.o (am_run (am_cK _) 1 (M_stockOf W7.a155 (k := sK σ) hS4.2.2.1 ?_)))
        refine am_run (am_cK _) 2 (am_obj_in W7.o ((M_enters W7 (m := 1) rfl (by omega) _ (fun h8 W8 => ?_))))
        refine am_run (am_cK _) 2 (am_obj_in W8.o (am_run (am_cK _) 1 (M_beadsOf W8.a155 hS4 ho ?_)))
        exact am_run (am_cK _) 1 (hQ h8 W8.y ⟨_, _, _, W8.re, iv.s, iv.u, iv.k, iv.t, ⟨rfl, by show 2 ≤ 16; omega, fun i hi => i_lt2 (P := fun q => vp_updL (vp_updL R 0 (nI (kNo σ)).toInt64) 1 (nI (smf (sK σ) 4)).toInt64 q = (w2 (nI (kNo σ)) (nI (smf (sK σ) 4)) q).toInt64) hi rfl rfl⟩, iv.f, iv.hr, iv.l⟩)
  · rw [if_pos (show n < 1 ∨ 60 < n from c)] at hQ
    exact am_run (am_cK _) 1 (⟨fun z => absurd rfl z, fun _ => am_run (am_cK _) 2 (hQ h1 W1.y ⟨_, _, _, W1.re, iv⟩)⟩)
end
