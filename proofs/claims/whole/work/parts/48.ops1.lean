/-! what the calls do -/
def oAct (M : Ms) (r : Int32 × Sg) : Int32 × Ms := if r.1 < 0 then (r.1, pS M r.2) else (r.1, pU (pS M r.2) ((mS M :: mU M).take 15))
def oSign (M : Ms) (v : Int32) : Int32 × Ms := if 80 < (mT M).1 + 4 then (-1, M) else (nI ((mT M).1 + 4), pT M ((mT M).1 + 4, tApp (mT M).2 (mT M).1 v))
def oEnd (M : Ms) (i : Int32) : Int32 × Ms := if i < 0 ∨ nI (mT M).1 < i then (0, M) else (1, pT M (i.toNatClampNeg, (mT M).2))
def oStrings (M : Ms) : Int32 × Ms := if wFl (mT M).2 (mT M).1 = 0 then oAct (pT M (0, (mT M).2)) (sStr (mS M) (wBd (mT M).2) (mT M).1) else (wFl (mT M).2 (mT M).1, pT M (0, (mT M).2))
def oSheet (M : Ms) (kind n f step : Int32) : Int32 × Ms := if kind < 0 ∨ 3 < kind ∨ 4 < n then (-1, M) else if kind = 3 then (-3, pS M (sSheet (mS M) kind 0 0 0)) else if n < 0 then (-2, M) else (nI (smf (sK (sSheet (mS M) kind n f step)) 4), pS M (sSheet (mS M) kind n f step))
def oUndo (M : Ms) : Int32 × Ms := match mU M with
  | [] => (-1, M)
  | σ :: U => (nI U.length, pU (pS M σ) U)
def oKeep (M : Ms) (i : Int32) : Int32 × Ms := if i < 0 ∨ 3 ≤ i then (0, M) else (1, pK M (va_up (mK M) i.toNatClampNeg (some (mS M))))
def oAgain (M : Ms) (i : Int32) : Int32 × Ms := if i < 0 ∨ 3 ≤ i then (0, M) else match mK M i.toNatClampNeg with
  | none => (0, M)
  | some σ => (1, pU (pS M σ) [])
def oFelt (M : Ms) (a c : Int32) : Int32 × Ms := if (a < 0 ∨ 9 < a ∨ c < 0 ∨ 4 ≤ c) ∨ (mF M).1 = 10 then (-1, M) else (nI ((mF M).1 + 1), pF M ((mF M).1 + 1, va_up (mF M).2.1 (mF M).1 a.toNatClampNeg, va_up (mF M).2.2 (mF M).1 c.toNatClampNeg))
def oForget (M : Ms) : Int32 × Ms := (nI (mF M).1, pF M (0, (mF M).2.1, (mF M).2.2))
def hOKb (w v : Int32) : Bool := decide ((w = 1 ∧ ¬ (v < 0 ∨ 4 ≤ v)) ∨ (¬ w = 1 ∧ ¬ w < 0 ∧ ¬ 3 < w ∧ ¬ v < 1 ∧ ¬ 9 < v))
def oHeard (M : Ms) (a c : Int32) : Int32 × Ms := if hOKb a c = false ∨ (mH M).1 = 12 then (-1, M) else (nI ((mH M).1 + 1), pH M ((mH M).1 + 1, va_up (mH M).2.1 (mH M).1 a.toNatClampNeg, va_up (mH M).2.2 (mH M).1 c.toNatClampNeg))
def oDenies (M : Ms) : Int32 × Ms := (nI (mH M).1, pH M (0, (mH M).2.1, (mH M).2.2))
section
variable {d : Nat} {h : am_H} {Q : Option Value → am_H → Prop} {M : Ms} {a b : Nat} {dr : Int32}
theorem X_mark (hX : RXc h M a b dr) (hQ : ∀ h1, AgN 49 80 h h1 → RXc h1 M a b dr → RPk h1 (mS M) (mU M) (mK M) → Q none h1) : am_call (d + 3) 58 [.ref 49, .ref 41] h Q :=
  PM_mark hX.p hX.s.1 hX.s.2 (fun h1 a1 p1 => hQ h1 a1 (hX.pP p1.m (fun x hx => a1.2 x (by omega))) p1)
theorem X_settle {h0 : am_H} {r : Int32 × Sg} (hX : RXc h (pS M r.2) a b dr) (p : RPk h (mS M) (mU M) (mK M)) (hF : Fx h0 h) (hQ : ∀ h', Fx h0 h' → RX h' (oAct M r).2 → Q (some (.int (oAct M r).1)) h') : am_call (d + 3) 59 [.ref 49, .int r.1] h Q := by
  refine PM_settle p r.1 (fun c => ?_) (fun c h' a' p' => ?_)
  · have q := hQ h hF
    unfold oAct at q
    rw [if_pos c] at q
    exact q ⟨a, b, dr, hX⟩
  · have q := hQ h' (hF.tr (a'.fx (by omega) (by omega)))
    unfold oAct at q
    rw [if_neg c] at q
    exact q ⟨a, b, dr, hX.pP p' (fun x hx => a'.2 x (by omega))⟩
theorem RXc.so (hX : RXc h M a b dr) : h.2 41 = cS 41 (sN (mS M)) (sP (mS M)) := hX.s.1.choose_spec.choose_spec.choose_spec.1
theorem X_sign (hX : RX h M) (v : Int32) (hQ : ∀ h', Fx h h' → RX h' (oSign M v).2 → Q (some (.int (oSign M v).1)) h') : am_call (d + 10) 115 [.ref 40, .int v] h Q := by
  obtain ⟨a, b, dr, hX⟩ := hX
  obtain ⟨wd, wz, hT⟩ := hX.t
  unfold oSign at hQ
  refine en_X10_sign (Nat.le_of_ble_eq_true rfl) (am_run (am_cK _) 2 (am_obj_in hX.o.1 (am_run (am_cK _) 2 (am_obj_in hT.1 (T_append hT v (fun c => ?_) (fun c h' ha hT' => ?_))))))
  · rw [if_pos c] at hQ
    exact am_run (am_cK _) 1 (hQ h Fx.rf ⟨a, b, dr, hX⟩)
  · rw [if_neg (by omega)] at hQ
    exact am_run (am_cK _) 1 (hQ h' (ha.fx (by omega) (by omega)) ⟨a, b, dr, hX.pT hT' (fun x hx => ha.2 x (by omega))⟩)
theorem X_end (hX : RX h M) (i : Int32) (hQ : ∀ h', Fx h h' → RX h' (oEnd M i).2 → Q (some (.int (oEnd M i).1)) h') : am_call (d + 10) 116 [.ref 40, .int i] h Q := by
  obtain ⟨a, b, dr, hX⟩ := hX
  obtain ⟨wd, wz, hT⟩ := hX.t
  have hn := hT.2.1
  unfold oEnd at hQ
  refine en_X10_end (Nat.le_of_ble_eq_true rfl) (am_run (am_cK _) 2 (am_obj_in hX.o.1 (am_run (am_cK _) 2 (am_obj_in hT.1 (T_shorten hT i (fun c => ?_) (fun j hj ej h' ha hT' => ?_))))))
  · rw [if_pos c] at hQ
    exact am_run (am_cK _) 1 ⟨Or.inl rfl, hQ h Fx.rf ⟨a, b, dr, hX⟩⟩
  · subst ej
    rw [if_neg (by
      rintro (c | c)
      · exact nI_pos (by omega) c
      · exact nI_nlt hj (by omega) c), nI_clamp (by omega)] at hQ
    exact am_run (am_cK _) 1 ⟨Or.inr rfl, hQ h' (ha.fx (by omega) (by omega)) ⟨a, b, dr, hX.pT hT' (fun x hx => ha.2 x (by omega))⟩⟩
theorem wFl_neg {tx : Nat → Nat} {n : Nat} (hw : ¬ wFl tx n = 0) : wFl tx n < 0 := by
  unfold wFl at hw ⊢
  split
  · rename_i hc
    have : Nat.min n 10 ≤ 10 := Nat.min_le_right _ _
    exact (by decide : ∀ i, i < 10 → (-1 : Int32) - nI i < 0) _ (by omega)
  · split
    · decide
    · split
      · decide
      · rename_i h1 h2 h3
        rw [if_neg h1, if_neg h2, if_neg h3] at hw
        exact absurd rfl hw
theorem X_strings (hX : RX h M) (hQ : ∀ h', Fx h h' → RX h' (oStrings M).2 → Q (some (.int (oStrings M).1)) h') : am_call (d + 10) 117 [.ref 40] h Q := by
  obtain ⟨a, b, dr, hX⟩ := hX
  obtain ⟨wd, wz, hT⟩ := hX.t
  unfold oStrings at hQ
  refine en_X10_strings (Nat.le_of_ble_eq_true rfl) (am_run (am_cK _) 2 (am_obj_in hX.o.1 (am_run (am_cK _) 1 (am_obj_in hT.1 (T_takeWord hT (fun h' wd' ha hT' hw => ?_) (fun h' ha hT' hw hn0 hn10 hb => ?_))))))
  · rw [if_neg hw] at hQ
    exact am_run (am_cK _) 3 ⟨fun c => absurd c (Int32.not_le.mpr (wFl_neg hw)), fun _ => am_run (am_cK _) 2 (hQ h' (ha.fx (by omega) (by omega)) ⟨a, b, dr, hX.pT hT' (fun x hx => ha.2 x (by omega))⟩)⟩
  · rw [if_pos hw] at hQ
    have hX1 := hX.pT hT' (fun x hx => ha.2 x (by omega))
    refine am_run (am_cK _) 3 ⟨fun _ => ?_, fun c => absurd (show (0 : Int32) ≤ 0 by decide) c⟩
    obtain ⟨m0, q0⟩ := hX1.p.obj
    refine am_run (am_cK _) 2 (am_obj_in hX1.o.1 (am_run (am_cK _) 2 (am_obj_in hX1.o.1 (am_run (am_cK _) 1 (am_obj_in q0 (X_mark hX1 (fun h2 f2 hX2 p2 => ?_)))))))
    have t2 : h2.2 129 = .inr (5, [.ref 130, .int (nI 0), .int (nI (rk (wBd (mT M).2) (mT M).1)), .int (nI (mT M).1)]) := (f2.2 129 (by omega)).trans hT'.1
    have hs2 := hX2.s
    refine am_run (am_cK _) 2 (am_obj_in hX2.o.1 (am_run (am_cK _) 2 (am_obj_in hX2.o.1 (am_run (am_cK _) 2 (am_obj_in hX2.o.1 (am_run (am_cK _) 1 (am_obj_in t2 (am_run (am_cK _) 2 (am_obj_in hX2.o.1 (am_run (am_cK _) 1 (am_obj_in t2 (am_run (am_cK _) 1 (am_obj_in hX2.so (S_string hs2.1 hs2.2 hn10 hb (fun h3 a3 s3 => ?_)))))))))))))))
    have p3 := RPk_fr p2 (fun x _ _ => a3.2 x (by omega))
    have hX3 := hX2.pS s3 (sStr_ok hs2.2 hn0 hn10 hb) (fun x hx => a3.2 x (by omega))
    obtain ⟨m3, q3⟩ := p3.obj
    exact am_run (am_cK _) 1 (am_obj_in q3 (X_settle hX3 p3 ((ha.fx (by omega) (by omega)).tr ((f2.fx (by omega) (by omega)).tr (a3.fx (by omega) (by omega)))) (fun h4 f4 r4 => am_run (am_cK _) 1 (hQ h4 f4 r4))))
theorem X_sheet (hX : RX h M) (kind n f step : Int32) (hQ : ∀ h', Fx h h' → RX h' (oSheet M kind n f step).2 → Q (some (.int (oSheet M kind n f step).1)) h') : am_call (d + 10) 122 [.ref 40, .int kind, .int n, .int f, .int step] h Q := by
  obtain ⟨a, b, dr, hX⟩ := hX
  unfold oSheet at hQ
  have no : (kind < 0 ∨ 3 < kind ∨ 4 < n) → Q (some (.int (-1))) h := fun c => by
    rw [if_pos c] at hQ
    exact hQ h Fx.rf ⟨a, b, dr, hX⟩
  refine en_X10_sheet (Nat.le_of_ble_eq_true rfl) (am_run (am_cK _) 2 ⟨fun c => am_run (am_cK _) 2 (no (Or.inl c)), fun c1 => ?_⟩)
  refine am_run (am_cK _) 3 ⟨fun c => am_run (am_cK _) 2 (no (Or.inr (Or.inl c))), fun c2 => ?_⟩
  refine am_run (am_cK _) 3 ⟨fun c3 => ?_, fun c => am_run (am_cK _) 2 (no (Or.inr (Or.inr (Int32.not_le.mp c))))⟩
  rw [if_neg (by
    rintro (c | c | c)
    · exact c1 c
    · exact c2 c
    · exact Int32.not_lt.mpr c3 c)] at hQ
  refine am_run (am_cK _) 3 ⟨fun c => ?_, fun c => ?_⟩
  · have c4 : ¬ kind = 3 := c
    rw [if_neg c4] at hQ
    refine am_run (am_cK _) 2 ⟨fun c => ?_, fun c => ?_⟩
    · rw [if_neg (Int32.not_lt.mpr c)] at hQ
      refine am_run (am_cK _) 2 (am_obj_in hX.o.1 (am_run (am_cK _) 5 (am_obj_in hX.so (S_stockFrom hX.s.1 kind n f step (fun h' ha hR' => ?_)))))
      have hX' := hX.pS hR' (sSheet_ok hX.s.2 kind n f step) (fun x hx => ha.2 x (by omega))
      exact am_run (am_cK _) 2 (am_obj_in hX'.o.1 (am_run (am_cK _) 1 (am_obj_in hX'.so (S_stockOfAll hR' (am_run (am_cK _) 1 (hQ h' (ha.fx (by omega) (by omega)) ⟨a, b, dr, hX'⟩))))))
    · rw [if_pos (Int32.not_le.mp c)] at hQ
      exact am_run (am_cK _) 2 (hQ h Fx.rf ⟨a, b, dr, hX⟩)
  · have c4 : kind = 3 := Classical.not_not.mp c
    rw [if_pos c4] at hQ
    refine am_run (am_cK _) 2 (am_obj_in hX.o.1 (am_run (am_cK _) 5 (am_obj_in hX.so (S_stockFrom hX.s.1 kind 0 0 0 (fun h' ha hR' => ?_)))))
    exact am_run (am_cK _) 2 (hQ h' (ha.fx (by omega) (by omega)) ⟨a, b, dr, hX.pS hR' (sSheet_ok hX.s.2 kind 0 0 0) (fun x hx => ha.2 x (by omega))⟩)
theorem X_undo (hX : RX h M) (hQ : ∀ h', Fx h h' → RX h' (oUndo M).2 → Q (some (.int (oUndo M).1)) h') : am_call (d + 10) 133 [.ref 40] h Q := by
  obtain ⟨a, b, dr, hX⟩ := hX
  unfold oUndo at hQ
  obtain ⟨m0, q0⟩ := hX.p.obj
  refine en_X10_undo (Nat.le_of_ble_eq_true rfl) (am_run (am_cK _) 2 (am_obj_in hX.o.1 (am_run (am_cK _) 2 (am_obj_in hX.o.1 (am_run (am_cK _) 1 (am_obj_in q0 (PM_bringBack hX.p hX.s.1 (fun c => ?_) (fun σ U' e hs h' h1 hf hS' hP' => ?_))))))))
  · rw [c] at hQ
    exact am_run (am_cK _) 1 (hQ h Fx.rf ⟨a, b, dr, hX⟩)
  · rw [e] at hQ
    have hab := hX.o.2
    exact am_run (am_cK _) 1 (hQ h' ⟨h1, fun x hx => hf x (by omega)⟩ ⟨a, b, dr, ⟨(hf 40 (by omega)).trans hX.o.1, hX.o.2⟩, ⟨hS', hs⟩, ⟨hX.z.choose, RS_fr hX.z.choose_spec (fun x _ _ => hf x (by omega))⟩, hP', ⟨hX.t.choose, hX.t.choose_spec.choose, RT_fr hX.t.choose_spec.choose_spec (fun x _ _ => hf x (by omega))⟩, ⟨RD_fr hX.d.1 (fun x _ _ => hf x (by omega)), hX.d.2⟩, RK_fr hX.k (fun x _ _ => hf x (by omega)), ⟨RC_fr hX.f.1 (fun x _ _ => hf x (by omega)), hX.f.2⟩, ⟨RC_fr hX.hr.1 (fun x _ _ => hf x (by omega)), hX.hr.2⟩, ⟨hX.y.choose, (hf 142 (by omega)).trans hX.y.choose_spec⟩, ⟨hX.l.choose, (hf 143 (by omega)).trans hX.l.choose_spec⟩, ⟨RF_fr hX.r.1 (fun x _ _ => hf x (by omega)), hX.r.2⟩, RU0_fr hX.u (fun x _ _ => hf x (by omega)), RO_fr hX.c (fun x _ => hf x (by omega))⟩)
theorem X_keep (hX : RX h M) (i : Int32) (hQ : ∀ h', Fx h h' → RX h' (oKeep M i).2 → Q (some (.int (oKeep M i).1)) h') : am_call (d + 10) 163 [.ref 40, .int i] h Q := by
  obtain ⟨a, b, dr, hX⟩ := hX
  unfold oKeep at hQ
  obtain ⟨m0, q0⟩ := hX.p.obj
  refine en_X10_keep (Nat.le_of_ble_eq_true rfl) (am_run (am_cK _) 2 (am_obj_in hX.o.1 (am_run (am_cK _) 3 (am_obj_in hX.o.1 (am_run (am_cK _) 1 (am_obj_in q0 (PM_keepUnder hX.p hX.s.1 hX.s.2 i (fun c => ?_) (fun j hj ej h' ha hP' => ?_))))))))
  · rw [if_pos c] at hQ
    exact am_run (am_cK _) 1 ⟨Or.inl rfl, hQ h Fx.rf ⟨a, b, dr, hX⟩⟩
  · subst ej
    rw [if_neg (by
      rintro (c | c)
      · exact nI_pos (by omega) c
      · exact nI_ge (b := 3) hj (by omega) c), nI_clamp (by omega)] at hQ
    exact am_run (am_cK _) 1 ⟨Or.inr rfl, hQ h' (ha.fx (by omega) (by omega)) ⟨a, b, dr, hX.pP hP' (fun x hx => ha.2 x (by omega))⟩⟩
theorem X_again (hX : RX h M) (i : Int32) (hQ : ∀ h', Fx h h' → RX h' (oAgain M i).2 → Q (some (.int (oAgain M i).1)) h') : am_call (d + 10) 164 [.ref 40, .int i] h Q := by
  obtain ⟨a, b, dr, hX⟩ := hX
  unfold oAgain at hQ
  obtain ⟨m0, q0⟩ := hX.p.obj
  have yes : ∀ j, j < 3 → ¬ (nI j < 0 ∨ 3 ≤ nI j) := fun j hj => by
    rintro (c | c)
    · exact nI_pos (by omega) c
    · exact nI_ge (b := 3) hj (by omega) c
  refine en_X10_again (Nat.le_of_ble_eq_true rfl) (am_run (am_cK _) 2 (am_obj_in hX.o.1 (am_run (am_cK _) 3 (am_obj_in hX.o.1 (am_run (am_cK _) 1 (am_obj_in q0 (PM_takeKept hX.p hX.s.1 i (fun c => ?_) (fun j hj ej ek => ?_) (fun j σ hj ej ek hs h' h1 hf hS' hP' => ?_))))))))
  · rw [if_pos c] at hQ
    exact am_run (am_cK _) 1 ⟨Or.inl rfl, hQ h Fx.rf ⟨a, b, dr, hX⟩⟩
  · subst ej
    rw [if_neg (yes j hj), nI_clamp (by omega), ek] at hQ
    exact am_run (am_cK _) 1 ⟨Or.inl rfl, hQ h Fx.rf ⟨a, b, dr, hX⟩⟩
  · subst ej
    rw [if_neg (yes j hj), nI_clamp (by omega), ek] at hQ
    have hab := hX.o.2
    exact am_run (am_cK _) 1 ⟨Or.inr rfl, hQ h' ⟨h1, fun x hx => hf x (by omega)⟩ ⟨a, b, dr, ⟨(hf 40 (by omega)).trans hX.o.1, hX.o.2⟩, ⟨hS', hs⟩, ⟨hX.z.choose, RS_fr hX.z.choose_spec (fun x _ _ => hf x (by omega))⟩, hP', ⟨hX.t.choose, hX.t.choose_spec.choose, RT_fr hX.t.choose_spec.choose_spec (fun x _ _ => hf x (by omega))⟩, ⟨RD_fr hX.d.1 (fun x _ _ => hf x (by omega)), hX.d.2⟩, RK_fr hX.k (fun x _ _ => hf x (by omega)), ⟨RC_fr hX.f.1 (fun x _ _ => hf x (by omega)), hX.f.2⟩, ⟨RC_fr hX.hr.1 (fun x _ _ => hf x (by omega)), hX.hr.2⟩, ⟨hX.y.choose, (hf 142 (by omega)).trans hX.y.choose_spec⟩, ⟨hX.l.choose, (hf 143 (by omega)).trans hX.l.choose_spec⟩, ⟨RF_fr hX.r.1 (fun x _ _ => hf x (by omega)), hX.r.2⟩, RU0_fr hX.u (fun x _ _ => hf x (by omega)), RO_fr hX.c (fun x _ => hf x (by omega))⟩⟩
theorem X_felt (hX : RX h M) (x y : Int32) (hQ : ∀ h', Fx h h' → RX h' (oFelt M x y).2 → Q (some (.int (oFelt M x y).1)) h') : am_call (d + 10) 151 [.ref 40, .int x, .int y] h Q := by
  obtain ⟨a, b, dr, hX⟩ := hX
  unfold oFelt at hQ
  have no : ((x < 0 ∨ 9 < x ∨ y < 0 ∨ 4 ≤ y) ∨ (mF M).1 = 10) → Q (some (.int (-1))) h := fun c => by
    rw [if_pos c] at hQ
    exact hQ h Fx.rf ⟨a, b, dr, hX⟩
  refine en_X10_felt (Nat.le_of_ble_eq_true rfl) (am_run (am_cK _) 3 (C_canBeFelt x y (fun c => ?_) (fun c => ?_)))
  · exact am_run (am_cK _) 1 ⟨fun _ => am_run (am_cK _) 2 (no (Or.inl c)), fun w => absurd rfl w⟩
  · obtain ⟨i, hi, rfl⟩ := nI_of (fun z => c (Or.inl z))
    have hi9 : i ≤ 9 := Nat.le_of_not_lt (fun z => c (Or.inr (Or.inl ((nI_ltI (a := 9) (by omega) hi).mpr z))))
    obtain ⟨j, hj, rfl⟩ := S_num2 (n := 4) (by omega) (fun z => c (Or.inr (Or.inr z)))
    refine am_run (am_cK _) 1 ⟨fun w => absurd w n10, fun _ => ?_⟩
    have hle := hX.f.1.2.1
    refine am_run (am_cK _) 2 (am_obj_in hX.o.1 (am_run (am_cK _) 3 (am_obj_in hX.f.1.1 (C_add hX.f.1 i j (fun e => ?_) (fun e h' ha hC' => ?_)))))
    · exact am_run (am_cK _) 2 (no (Or.inr e))
    · rw [if_neg (fun z => z.elim c (fun z => by omega)), nI_clamp hi, nI_clamp (by omega)] at hQ
      refine am_run (am_cK _) 2 (hQ h' (ha.fx (by omega) (by omega)) ⟨a, b, dr, hX.pF hC' (fun k hk => ?_) (fun x hx => ha.2 x (by omega))⟩)
      by_cases ek : k = (mF M).1
      · rw [ek, am_up_s, am_up_s]; omega
      · rw [am_up_n ek, am_up_n ek]; exact hX.f.2 k (by omega)
theorem X_forget (hX : RX h M) (hQ : ∀ h', Fx h h' → RX h' (oForget M).2 → Q (some (.int (oForget M).1)) h') : am_call (d + 10) 152 [.ref 40] h Q := by
  obtain ⟨a, b, dr, hX⟩ := hX
  exact en_X10_forget (Nat.le_of_ble_eq_true rfl) (am_run (am_cK _) 2 (am_obj_in hX.o.1 (am_run (am_cK _) 1 (am_obj_in hX.f.1.1 (C_empty hX.f.1 (fun h' ha hC' => am_run (am_cK _) 1 (hQ h' (ha.fx (by omega) (by omega)) ⟨a, b, dr, hX.pF hC' (fun k hk => absurd hk (Nat.not_lt_zero k)) (fun x hx => ha.2 x (by omega))⟩)))))))
theorem X_heard (hX : RX h M) (x y : Int32) (hQ : ∀ h', Fx h h' → RX h' (oHeard M x y).2 → Q (some (.int (oHeard M x y).1)) h') : am_call (d + 10) 155 [.ref 40, .int x, .int y] h Q := by
  obtain ⟨a, b, dr, hX⟩ := hX
  unfold oHeard at hQ
  have no : (hOKb x y = false ∨ (mH M).1 = 12) → Q (some (.int (-1))) h := fun c => by
    rw [if_pos c] at hQ
    exact hQ h Fx.rf ⟨a, b, dr, hX⟩
  refine en_X10_heard (Nat.le_of_ble_eq_true rfl) (am_run (am_cK _) 3 (C_canBeHeard x y (fun c => ?_) (fun c => ?_)))
  · exact am_run (am_cK _) 1 ⟨fun _ => am_run (am_cK _) 2 (no (Or.inl (decide_eq_false c))), fun w => absurd rfl w⟩
  · obtain ⟨i, j, hi, hj, hij, rfl, rfl⟩ := hOK_nat c
    refine am_run (am_cK _) 1 ⟨fun w => absurd w n10, fun _ => ?_⟩
    have hle := hX.hr.1.2.1
    refine am_run (am_cK _) 2 (am_obj_in hX.o.1 (am_run (am_cK _) 3 (am_obj_in hX.hr.1.1 (C_add hX.hr.1 i j (fun e => ?_) (fun e h' ha hC' => ?_)))))
    · exact am_run (am_cK _) 2 (no (Or.inr e))
    · have hy : hOKb (nI i) (nI j) = true := decide_eq_true c
      rw [if_neg (fun z => z.elim (fun z => by rw [hy] at z; cases z) (fun z => by omega)), nI_clamp (by omega), nI_clamp (by omega)] at hQ
      refine am_run (am_cK _) 2 (hQ h' (ha.fx (by omega) (by omega)) ⟨a, b, dr, hX.pH hC' (fun k hk => ?_) (fun x hx => ha.2 x (by omega))⟩)
      by_cases ek : k = (mH M).1
      · rw [ek, am_up_s, am_up_s]; exact ⟨hi, hj, hij⟩
      · rw [am_up_n ek, am_up_n ek]; exact hX.hr.2 k (by omega)
theorem X_denies (hX : RX h M) (hQ : ∀ h', Fx h h' → RX h' (oDenies M).2 → Q (some (.int (oDenies M).1)) h') : am_call (d + 10) 156 [.ref 40] h Q := by
  obtain ⟨a, b, dr, hX⟩ := hX
  exact en_X10_denies (Nat.le_of_ble_eq_true rfl) (am_run (am_cK _) 2 (am_obj_in hX.o.1 (am_run (am_cK _) 1 (am_obj_in hX.hr.1.1 (C_empty hX.hr.1 (fun h' ha hC' => am_run (am_cK _) 1 (hQ h' (ha.fx (by omega) (by omega)) ⟨a, b, dr, hX.pH hC' (fun k hk => absurd hk (Nat.not_lt_zero k)) (fun x hx => ha.2 x (by omega))⟩)))))))
theorem X_rolls (hX : RX h M) (x y : Int32) (hQ : ∀ h', Fx h h' → RX h' (oAct M (sRoll (mS M) x y)).2 → Q (some (.int (oAct M (sRoll (mS M) x y)).1)) h') : am_call (d + 10) 123 [.ref 40, .int x, .int y] h Q := by
  obtain ⟨a, b, dr, hX⟩ := hX
  obtain ⟨m0, q0⟩ := hX.p.obj
  refine en_X10_rolls (Nat.le_of_ble_eq_true rfl) (am_run (am_cK _) 2 (am_obj_in hX.o.1 (am_run (am_cK _) 2 (am_obj_in hX.o.1 (am_run (am_cK _) 1 (am_obj_in q0 (X_mark hX (fun h2 f2 hX2 p2 => ?_))))))))
  refine am_run (am_cK _) 2 (am_obj_in hX2.o.1 (am_run (am_cK _) 2 (am_obj_in hX2.o.1 (am_run (am_cK _) 3 (am_obj_in hX2.so (S_roll hX2.s.1 hX2.s.2 x y (fun h3 a3 s3 => ?_)))))))
  have p3 := RPk_fr p2 (fun x _ _ => a3.2 x (by omega))
  have hX3 := hX2.pS s3 (sRoll_ok hX2.s.2 x y) (fun x hx => a3.2 x (by omega))
  obtain ⟨m3, q3⟩ := p3.obj
  exact am_run (am_cK _) 1 (am_obj_in q3 (X_settle hX3 p3 ((f2.fx (by omega) (by omega)).tr (a3.fx (by omega) (by omega))) (fun h4 f4 r4 => am_run (am_cK _) 1 (hQ h4 f4 r4))))
theorem X_flips (hX : RX h M) (x : Int32) (hQ : ∀ h', Fx h h' → RX h' (oAct M (sFlip (mS M) x)).2 → Q (some (.int (oAct M (sFlip (mS M) x)).1)) h') : am_call (d + 10) 124 [.ref 40, .int x] h Q := by
  obtain ⟨a, b, dr, hX⟩ := hX
  obtain ⟨m0, q0⟩ := hX.p.obj
  refine en_X10_flips (Nat.le_of_ble_eq_true rfl) (am_run (am_cK _) 2 (am_obj_in hX.o.1 (am_run (am_cK _) 2 (am_obj_in hX.o.1 (am_run (am_cK _) 1 (am_obj_in q0 (X_mark hX (fun h2 f2 hX2 p2 => ?_))))))))
  refine am_run (am_cK _) 2 (am_obj_in hX2.o.1 (am_run (am_cK _) 2 (am_obj_in hX2.o.1 (am_run (am_cK _) 2 (am_obj_in hX2.so (S_flip hX2.s.1 hX2.s.2 x (fun h3 a3 s3 => ?_)))))))
  have p3 := RPk_fr p2 (fun x _ _ => a3.2 x (by omega))
  have hX3 := hX2.pS s3 (sFlip_ok hX2.s.2 x) (fun x hx => a3.2 x (by omega))
  obtain ⟨m3, q3⟩ := p3.obj
  exact am_run (am_cK _) 1 (am_obj_in q3 (X_settle hX3 p3 ((f2.fx (by omega) (by omega)).tr (a3.fx (by omega) (by omega))) (fun h4 f4 r4 => am_run (am_cK _) 1 (hQ h4 f4 r4))))
theorem X_swaps (hX : RX h M) (x y : Int32) (hQ : ∀ h', Fx h h' → RX h' (oAct M (sSwap (mS M) x y)).2 → Q (some (.int (oAct M (sSwap (mS M) x y)).1)) h') : am_call (d + 10) 125 [.ref 40, .int x, .int y] h Q := by
  obtain ⟨a, b, dr, hX⟩ := hX
  obtain ⟨m0, q0⟩ := hX.p.obj
  refine en_X10_swaps (Nat.le_of_ble_eq_true rfl) (am_run (am_cK _) 2 (am_obj_in hX.o.1 (am_run (am_cK _) 2 (am_obj_in hX.o.1 (am_run (am_cK _) 1 (am_obj_in q0 (X_mark hX (fun h2 f2 hX2 p2 => ?_))))))))
  refine am_run (am_cK _) 2 (am_obj_in hX2.o.1 (am_run (am_cK _) 2 (am_obj_in hX2.o.1 (am_run (am_cK _) 3 (am_obj_in hX2.so (S_swap hX2.s.1 hX2.s.2 x y (fun h3 a3 s3 => ?_)))))))
  have p3 := RPk_fr p2 (fun x _ _ => a3.2 x (by omega))
  have hX3 := hX2.pS s3 (sSwap_ok hX2.s.2 x y) (fun x hx => a3.2 x (by omega))
  obtain ⟨m3, q3⟩ := p3.obj
  exact am_run (am_cK _) 1 (am_obj_in q3 (X_settle hX3 p3 ((f2.fx (by omega) (by omega)).tr (a3.fx (by omega) (by omega))) (fun h4 f4 r4 => am_run (am_cK _) 1 (hQ h4 f4 r4))))
theorem X_threads (hX : RX h M) (x y z : Int32) (hQ : ∀ h', Fx h h' → RX h' (oAct M (sThread (mS M) x y z)).2 → Q (some (.int (oAct M (sThread (mS M) x y z)).1)) h') : am_call (d + 10) 126 [.ref 40, .int x, .int y, .int z] h Q := by
  obtain ⟨a, b, dr, hX⟩ := hX
  obtain ⟨m0, q0⟩ := hX.p.obj
  refine en_X10_threads (Nat.le_of_ble_eq_true rfl) (am_run (am_cK _) 2 (am_obj_in hX.o.1 (am_run (am_cK _) 2 (am_obj_in hX.o.1 (am_run (am_cK _) 1 (am_obj_in q0 (X_mark hX (fun h2 f2 hX2 p2 => ?_))))))))
  refine am_run (am_cK _) 2 (am_obj_in hX2.o.1 (am_run (am_cK _) 2 (am_obj_in hX2.o.1 (am_run (am_cK _) 4 (am_obj_in hX2.so (S_thread hX2.s.1 hX2.s.2 x y z (fun h3 a3 s3 => ?_)))))))
  have p3 := RPk_fr p2 (fun x _ _ => a3.2 x (by omega))
  have hX3 := hX2.pS s3 (sThread_ok hX2.s.2 x y z) (fun x hx => a3.2 x (by omega))
  obtain ⟨m3, q3⟩ := p3.obj
  exact am_run (am_cK _) 1 (am_obj_in q3 (X_settle hX3 p3 ((f2.fx (by omega) (by omega)).tr (a3.fx (by omega) (by omega))) (fun h4 f4 r4 => am_run (am_cK _) 1 (hQ h4 f4 r4))))
theorem X_cuts (hX : RX h M) (x y : Int32) (hQ : ∀ h', Fx h h' → RX h' (oAct M (sCut (mS M) x y)).2 → Q (some (.int (oAct M (sCut (mS M) x y)).1)) h') : am_call (d + 10) 127 [.ref 40, .int x, .int y] h Q := by
  obtain ⟨a, b, dr, hX⟩ := hX
  obtain ⟨m0, q0⟩ := hX.p.obj
  refine en_X10_cuts (Nat.le_of_ble_eq_true rfl) (am_run (am_cK _) 2 (am_obj_in hX.o.1 (am_run (am_cK _) 2 (am_obj_in hX.o.1 (am_run (am_cK _) 1 (am_obj_in q0 (X_mark hX (fun h2 f2 hX2 p2 => ?_))))))))
  refine am_run (am_cK _) 2 (am_obj_in hX2.o.1 (am_run (am_cK _) 2 (am_obj_in hX2.o.1 (am_run (am_cK _) 3 (am_obj_in hX2.so (S_cut hX2.s.1 hX2.s.2 x y (fun h3 a3 s3 => ?_)))))))
  have p3 := RPk_fr p2 (fun x _ _ => a3.2 x (by omega))
  have hX3 := hX2.pS s3 (sCut_ok hX2.s.2 x y) (fun x hx => a3.2 x (by omega))
  obtain ⟨m3, q3⟩ := p3.obj
  exact am_run (am_cK _) 1 (am_obj_in q3 (X_settle hX3 p3 ((f2.fx (by omega) (by omega)).tr (a3.fx (by omega) (by omega))) (fun h4 f4 r4 => am_run (am_cK _) 1 (hQ h4 f4 r4))))
theorem X_joins (hX : RX h M) (x y : Int32) (hQ : ∀ h', Fx h h' → RX h' (oAct M (sJoin (mS M) x y)).2 → Q (some (.int (oAct M (sJoin (mS M) x y)).1)) h') : am_call (d + 10) 128 [.ref 40, .int x, .int y] h Q := by
  obtain ⟨a, b, dr, hX⟩ := hX
  obtain ⟨m0, q0⟩ := hX.p.obj
  refine en_X10_joins (Nat.le_of_ble_eq_true rfl) (am_run (am_cK _) 2 (am_obj_in hX.o.1 (am_run (am_cK _) 2 (am_obj_in hX.o.1 (am_run (am_cK _) 1 (am_obj_in q0 (X_mark hX (fun h2 f2 hX2 p2 => ?_))))))))
  refine am_run (am_cK _) 2 (am_obj_in hX2.o.1 (am_run (am_cK _) 2 (am_obj_in hX2.o.1 (am_run (am_cK _) 3 (am_obj_in hX2.so (S_join hX2.s.1 hX2.s.2 x y (fun h3 a3 s3 => ?_)))))))
  have p3 := RPk_fr p2 (fun x _ _ => a3.2 x (by omega))
  have hX3 := hX2.pS s3 (sJoin_ok hX2.s.2 x y) (fun x hx => a3.2 x (by omega))
  obtain ⟨m3, q3⟩ := p3.obj
  exact am_run (am_cK _) 1 (am_obj_in q3 (X_settle hX3 p3 ((f2.fx (by omega) (by omega)).tr (a3.fx (by omega) (by omega))) (fun h4 f4 r4 => am_run (am_cK _) 1 (hQ h4 f4 r4))))
theorem X_parts (hX : RX h M) (x : Int32) (hQ : ∀ h', Fx h h' → RX h' (oAct M (sPart (mS M) x)).2 → Q (some (.int (oAct M (sPart (mS M) x)).1)) h') : am_call (d + 10) 129 [.ref 40, .int x] h Q := by
  obtain ⟨a, b, dr, hX⟩ := hX
  obtain ⟨m0, q0⟩ := hX.p.obj
  refine en_X10_parts (Nat.le_of_ble_eq_true rfl) (am_run (am_cK _) 2 (am_obj_in hX.o.1 (am_run (am_cK _) 2 (am_obj_in hX.o.1 (am_run (am_cK _) 1 (am_obj_in q0 (X_mark hX (fun h2 f2 hX2 p2 => ?_))))))))
  refine am_run (am_cK _) 2 (am_obj_in hX2.o.1 (am_run (am_cK _) 2 (am_obj_in hX2.o.1 (am_run (am_cK _) 2 (am_obj_in hX2.so (S_part hX2.s.1 hX2.s.2 x (fun h3 a3 s3 => ?_)))))))
  have p3 := RPk_fr p2 (fun x _ _ => a3.2 x (by omega))
  have hX3 := hX2.pS s3 (sPart_ok hX2.s.2 x) (fun x hx => a3.2 x (by omega))
  obtain ⟨m3, q3⟩ := p3.obj
  exact am_run (am_cK _) 1 (am_obj_in q3 (X_settle hX3 p3 ((f2.fx (by omega) (by omega)).tr (a3.fx (by omega) (by omega))) (fun h4 f4 r4 => am_run (am_cK _) 1 (hQ h4 f4 r4))))
theorem X_buys (hX : RX h M) (x y : Int32) (hQ : ∀ h', Fx h h' → RX h' (oAct M (sBuy (mS M) x y)).2 → Q (some (.int (oAct M (sBuy (mS M) x y)).1)) h') : am_call (d + 10) 131 [.ref 40, .int x, .int y] h Q := by
  obtain ⟨a, b, dr, hX⟩ := hX
  obtain ⟨m0, q0⟩ := hX.p.obj
  refine en_X10_buys (Nat.le_of_ble_eq_true rfl) (am_run (am_cK _) 2 (am_obj_in hX.o.1 (am_run (am_cK _) 2 (am_obj_in hX.o.1 (am_run (am_cK _) 1 (am_obj_in q0 (X_mark hX (fun h2 f2 hX2 p2 => ?_))))))))
  refine am_run (am_cK _) 2 (am_obj_in hX2.o.1 (am_run (am_cK _) 2 (am_obj_in hX2.o.1 (am_run (am_cK _) 3 (am_obj_in hX2.so (S_buy hX2.s.1 hX2.s.2 x y (fun h3 a3 s3 => ?_)))))))
  have p3 := RPk_fr p2 (fun x _ _ => a3.2 x (by omega))
  have hX3 := hX2.pS s3 (sBuy_ok hX2.s.2 x y) (fun x hx => a3.2 x (by omega))
  obtain ⟨m3, q3⟩ := p3.obj
  exact am_run (am_cK _) 1 (am_obj_in q3 (X_settle hX3 p3 ((f2.fx (by omega) (by omega)).tr (a3.fx (by omega) (by omega))) (fun h4 f4 r4 => am_run (am_cK _) 1 (hQ h4 f4 r4))))
theorem X_sells (hX : RX h M) (x : Int32) (hQ : ∀ h', Fx h h' → RX h' (oAct M (sSell (mL M) (mS M) x)).2 → Q (some (.int (oAct M (sSell (mL M) (mS M) x)).1)) h') : am_call (d + 10) 130 [.ref 40, .int x] h Q := by
  obtain ⟨a, b, dr, hX⟩ := hX
  obtain ⟨m0, q0⟩ := hX.p.obj
  have hab := hX.o.2
  refine en_X10_sells (Nat.le_of_ble_eq_true rfl) (am_run (am_cK _) 2 (am_obj_in hX.o.1 (am_run (am_cK _) 2 (am_obj_in hX.o.1 (am_run (am_cK _) 1 (am_obj_in q0 (X_mark hX (fun h2 f2 hX2 p2 => ?_))))))))
  refine am_run (am_cK _) 2 (am_obj_in hX2.o.1 (am_run (am_cK _) 2 (am_obj_in hX2.o.1 (am_run (am_cK _) 3 (am_obj_in hX2.o.1 (am_run (am_cK _) 1 (am_obj_in hX2.so (S_sell hX2.s.1 hX2.s.2 hX2.r.1 hX2.r.2 (by omega) x (fun h3 a3 s3 r3 => ?_)))))))))
  have p3 := RPk_fr p2 (fun x _ _ => a3.2 x (by omega) (by omega))
  have hX3 : RXc h3 (pS M (sSell (mL M) (mS M) x).2) a b dr := ⟨⟨(a3.2 40 (by omega) (by omega)).trans hX2.o.1, hX.o.2⟩, ⟨s3, sSell_ok hX2.s.2 _ x⟩, ⟨hX2.z.choose, RS_fr hX2.z.choose_spec (fun x _ _ => a3.2 x (by omega) (by omega))⟩, p3.m, ⟨hX2.t.choose, hX2.t.choose_spec.choose, RT_fr hX2.t.choose_spec.choose_spec (fun x _ _ => a3.2 x (by omega) (by omega))⟩, ⟨RD_fr hX2.d.1 (fun x _ _ => a3.2 x (by omega) (by omega)), hX2.d.2⟩, RK_fr hX2.k (fun x _ _ => a3.2 x (by omega) (by omega)), ⟨RC_fr hX2.f.1 (fun x _ _ => a3.2 x (by omega) (by omega)), hX2.f.2⟩, ⟨RC_fr hX2.hr.1 (fun x _ _ => a3.2 x (by omega) (by omega)), hX2.hr.2⟩, ⟨hX2.y.choose, (a3.2 142 (by omega) (by omega)).trans hX2.y.choose_spec⟩, ⟨hX2.l.choose, (a3.2 143 (by omega) (by omega)).trans hX2.l.choose_spec⟩, ⟨r3, hX2.r.2⟩, RU0_fr hX2.u (fun x _ _ => a3.2 x (by omega) (by omega)), RO_fr hX2.c (fun x _ => a3.2 x (by omega) (by omega))⟩
  obtain ⟨m3, q3⟩ := p3.obj
  exact am_run (am_cK _) 1 (am_obj_in q3 (X_settle hX3 p3 ((f2.fx (by omega) (by omega)).tr ⟨a3.1, fun x hx => a3.2 x (by omega) (by omega)⟩) (fun h4 f4 r4 => am_run (am_cK _) 1 (hQ h4 f4 r4))))
end
