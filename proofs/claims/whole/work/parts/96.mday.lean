/-! THE MODEL's day -/
theorem neg60 : ∀ f, f < 61 → (-1 - nI f) < 0 := by decide +kernel
section
variable {tx : Nat → Nat} {n b fm : Nat} {o : Option (Nat × Nat)}
theorem dyF_bad (e : dyL tx (Nat.min n 60) 0 0 0 = (b, o)) (hb : b ≤ Nat.min n 60) (h1 : b < Nat.min n 60 → o = none) (h2 : b = Nat.min n 60 → ∃ f q, o = some (f, q) ∧ q < ftl f) : ∃ f, f < 61 ∧ dyF tx n = some f ∧ fOf n 60 b (Nat.min n 60) false = -1 - nI f := by
  have m1 : Nat.min n 60 ≤ 60 := Nat.min_le_right _ _
  have m2 : Nat.min n 60 ≤ n := Nat.min_le_left _ _
  unfold dyF fOf
  rw [e]
  by_cases c : b < Nat.min n 60
  · rw [h1 c]
    refine ⟨b, by omega, rfl, ?_⟩
    rw [if_neg (by rintro ⟨_, z | z⟩; exact absurd z.1 Bool.false_ne_true; omega), if_neg (fun z => absurd z.1 Bool.false_ne_true)]
  · have hbe : b = Nat.min n 60 := by omega
    obtain ⟨f, q, rfl, hq⟩ := h2 hbe
    by_cases c6 : 60 < n
    · have m3 : Nat.min n 60 = 60 := Nat.min_eq_right (by omega)
      refine ⟨60, by omega, if_pos c6, ?_⟩
      rw [if_pos ⟨c6, Or.inr (by omega)⟩]
    · refine ⟨Nat.min n 60, by omega, (if_neg c6).trans (if_pos hq), ?_⟩
      rw [if_neg (fun z => c6 z.1), if_neg (fun z => absurd z.1 Bool.false_ne_true), hbe]
theorem dyF_done (e : dyL tx (Nat.min n 60) 0 0 0 = (Nat.min n 60, some (fm, ftl fm))) : (60 < n ∧ dyF tx n = some 60 ∧ fOf n 60 (Nat.min n 60) (Nat.min n 60) true = -1 - nI 60) ∨ (n ≤ 60 ∧ dyF tx n = none ∧ fOf n 60 (Nat.min n 60) (Nat.min n 60) true = 0) := by
  unfold dyF fOf
  rw [e]
  by_cases c6 : 60 < n
  · refine Or.inl ⟨c6, if_pos c6, ?_⟩
    rw [if_pos ⟨c6, Or.inl ⟨rfl, rfl⟩⟩]
  · refine Or.inr ⟨by omega, (if_neg c6).trans (if_neg (Nat.lt_irrefl _)), ?_⟩
    rw [if_neg (fun z => c6 z.1), if_pos ⟨rfl, rfl⟩]
/-- one more act is read -/
theorem rA_t {t a b : Nat} (hat : a < t) (e : (b, true) = rA tx t a) : ¬ frm (tx a) = 0 ∧ b = a + 1 + ftl (frm (tx a)) ∧ b ≤ t ∧ ∀ fm, dyL tx (t - a) a fm (ftl fm) = dyL tx (t - b) b (frm (tx a)) (ftl (frm (tx a))) := by
  unfold rA at e
  by_cases c : frm (tx a) = 0
  · rw [if_pos c] at e
    exact absurd (congrArg Prod.snd e).symm Bool.false_ne_true
  · rw [if_neg c] at e
    have e1 : b = (stp tx t (a + 1) (frm (tx a)) (ftl (frm (tx a))) 0).1 := congrArg Prod.fst e
    have e2 : (stp tx t (a + 1) (frm (tx a)) (ftl (frm (tx a))) 0).2 = true := (congrArg Prod.snd e).symm
    have l := (stp_le (tx := tx) (t := t) (p := a + 1) (fm := frm (tx a)) (ftl (frm (tx a))) 0 (by omega)).2
    have l2 := stp_t (ftl (frm (tx a))) 0 e2
    refine ⟨c, by omega, by omega, fun fm => ?_⟩
    have z := (dyL_stp (tx := tx) (t := t) (p := a + 1) (fm := frm (tx a)) (ftl (frm (tx a))) 0 (by omega) (by omega)).1
    rw [if_pos e2, ← e1] at z
    rw [show t - a = (t - (a + 1 + 0)) + 1 by omega, dyL, if_neg (Nat.lt_irrefl _), if_neg c]
    exact z
theorem rA_f {t a b : Nat} (hat : a < t) (e : (b, false) = rA tx t a) (fm : Nat) : b ≤ t ∧ ∃ o, dyL tx (t - a) a fm (ftl fm) = (b, o) ∧ (b < t → o = none) ∧ (b = t → ∃ f q, o = some (f, q) ∧ q < ftl f) := by
  unfold rA at e
  rw [show t - a = (t - (a + 1 + 0)) + 1 by omega, dyL, if_neg (Nat.lt_irrefl _)]
  by_cases c : frm (tx a) = 0
  · rw [if_pos c] at e
    have e1 : b = a := congrArg Prod.fst e
    rw [if_pos c]
    exact ⟨by omega, none, by rw [e1], fun _ => rfl, fun z => by omega⟩
  · rw [if_neg c] at e ⊢
    have e1 : b = (stp tx t (a + 1) (frm (tx a)) (ftl (frm (tx a))) 0).1 := congrArg Prod.fst e
    have e2 : (stp tx t (a + 1) (frm (tx a)) (ftl (frm (tx a))) 0).2 = false := (congrArg Prod.snd e).symm
    have l := (stp_le (tx := tx) (t := t) (p := a + 1) (fm := frm (tx a)) (ftl (frm (tx a))) 0 (by omega)).2
    have z := dyL_stp (tx := tx) (t := t) (p := a + 1) (fm := frm (tx a)) (ftl (frm (tx a))) 0 (by omega) (by omega)
    have z2 := z.2 e2
    have z1 := z.1
    rw [if_neg (by rw [e2]; exact Bool.false_ne_true), ← e1] at z1
    rw [← e1] at z2
    refine ⟨by omega, ?_⟩
    by_cases c1 : b < t
    · rw [if_pos c1] at z1
      exact ⟨none, z1, fun _ => rfl, fun w => by omega⟩
    · rw [if_neg c1] at z1
      exact ⟨_, z1, fun w => absurd w c1, fun _ => ⟨_, _, rfl, z2⟩⟩
end
/-- what was read -/
def RdA (tx : Nat → Nat) (t K a : Nat) (x y z w : Nat → Int32) (pos : Nat → Nat) : Prop := pos 0 = 0 ∧ pos K = a ∧ ∀ i, i < K → aOK tx (pos i) (x i) (y i) (z i) (w i) ∧ pos (i + 1) = pos i + 1 + ftl (frm (tx (pos i))) ∧ pos (i + 1) ≤ t
theorem RdA.ge {tx : Nat → Nat} {t K a : Nat} {x y z w : Nat → Int32} {pos : Nat → Nat} (r : RdA tx t K a x y z w pos) : ∀ i, i ≤ K → i ≤ pos i
  | 0, _ => Nat.zero_le _
  | i + 1, h => by
    have := RdA.ge r i (by omega)
    have := (r.2.2 i (by omega)).2.1
    omega
section
variable {d : Nat} {h : am_H} {Q : Option Value → am_H → Prop} {F : Nat → Int32} {A : Nat → Nat → Int32} {R : Nat → Int64} {M : Ms}
theorem Z_day (hY : RY h M) (hQ : ∀ h', Fy h h' → RY h' (oDay M).2 → Q (some (.int (oDay M).1)) h') : am_call (d + 20) 258 [.ref 152] h Q := by
  obtain ⟨F, A, R, W, iv⟩ := hY
  obtain ⟨t1, t2, t3⟩ := id iv.t
  have hs := iv.s.2
  unfold oDay at hQ
  refine en_X11_day (Nat.le_of_ble_eq_true rfl) ?_
  refine am_run (am_cK _) 3 (am_putI W rfl (by decide) (fun h1 W1 => ?_))
  refine am_run (am_cK _) 3 (am_obj_in W1.o ((M_begins (m := 60) W1 t1 t2 (by omega) (fun h2 W2 => ?_))))
  refine am_run (am_cK _) 4 (am_putI W2 rfl (by decide) (fun h3 W3 => ?_))
  have ht60 : Nat.min (mT M).1 60 ≤ 60 := Nat.min_le_right _ _
  have htn : Nat.min (mT M).1 60 ≤ (mT M).1 := Nat.min_le_left _ _
  have hx : TX A (mT M).2 (Nat.min (mT M).1 60) := fun i hi => t3 i (by omega)
  have ivT : ∀ K b x y z w, Iv (upd (upd (bgF (upd F 0 0) (Nat.min (mT M).1 60)) 27 (nI K)) 7 (nI b)) (V4 A x y z w) R (pT M (0, (mT M).2)) := fun K b x y z w => ⟨iv.s, iv.u, iv.k, ⟨rfl, Nat.zero_le _, fun i hi => absurd hi (Nat.not_lt_zero i)⟩, iv.d, iv.f, iv.hr, iv.l⟩
  have hn80 := t2
  have r8 : ∀ K b, upd (upd (bgF (upd F 0 0) (Nat.min (mT M).1 60)) 27 (nI K)) 7 (nI b) 8 = nI (Nat.min (mT M).1 60) := fun _ _ => rfl
  have bad : ∀ h' K b x y z w, RM h h' (upd (upd (bgF (upd F 0 0) (Nat.min (mT M).1 60)) 27 (nI K)) 7 (nI b)) (V4 A x y z w) R → b ≤ Nat.min (mT M).1 60 → (∃ o, dyL (mT M).2 (Nat.min (mT M).1 60) 0 0 0 = (b, o) ∧ (b < Nat.min (mT M).1 60 → o = none) ∧ (b = Nat.min (mT M).1 60 → ∃ f q, o = some (f, q) ∧ q < ftl f)) → am_wp (am_call (d + 19)) (0, 0) cm_X11_day Q (fun _ => False) (42, [some (.ref 152), some (.int (nI (mT M).1)), some (.int 0), none, none], [], 0, 0) h' := by
    intro h' K b x y z w W' hb ho
    obtain ⟨o, e1, e2, e3⟩ := ho
    obtain ⟨f, f1, f2, f3⟩ := dyF_bad e1 hb e2 e3
    rw [f2] at hQ
    refine am_run (am_cK _) 5 (am_obj_in W'.o ((M_faultOf (n := (mT M).1) (m := 60) W' upd_s (r8 K b) (by omega) (by omega) (by omega) (by omega) false ?_)))
    rw [f3]
    exact am_run (am_cK _) 3 (⟨fun c => absurd (neg60 f f1) (Int32.not_lt.mpr c), fun _ => am_run (am_cK _) 2 (hQ h' W'.y ⟨_, _, _, W'.re, ivT K b x y z w⟩)⟩)
  have done : ∀ h' K x y z w pos, RM h h' (upd (upd (bgF (upd F 0 0) (Nat.min (mT M).1 60)) 27 (nI K)) 7 (nI (Nat.min (mT M).1 60))) (V4 A x y z w) R → RdA (mT M).2 (Nat.min (mT M).1 60) K (Nat.min (mT M).1 60) x y z w pos → (∃ fm, dyL (mT M).2 (Nat.min (mT M).1 60) 0 0 0 = (Nat.min (mT M).1 60, some (fm, ftl fm))) → am_wp (am_call (d + 19)) (0, 0) cm_X11_day Q (fun _ => False) (42, [some (.ref 152), some (.int (nI (mT M).1)), some (.int 1), none, none], [], 0, 0) h' := by
    intro h' K x y z w pos W' rd ho
    obtain ⟨fm, e1⟩ := ho
    have hK60 : K ≤ 60 := by
      have := rd.ge K (Nat.le_refl _)
      have := rd.2.1
      omega
    refine am_run (am_cK _) 5 (am_obj_in W'.o ((M_faultOf (n := (mT M).1) (m := 60) W' upd_s (r8 K _) (by omega) (by omega) (by omega) (by omega) true ?_)))
    rcases dyF_done e1 with ⟨_, f2, f3⟩ | ⟨n60, f2, f3⟩
    · rw [f2] at hQ
      rw [f3]
      exact am_run (am_cK _) 3 (⟨fun c => absurd (neg60 60 (by omega)) (Int32.not_lt.mpr c), fun _ => am_run (am_cK _) 2 (hQ h' W'.y ⟨_, _, _, W'.re, ivT K _ x y z w⟩)⟩)
    · rw [f2] at hQ
      simp only at hQ
      rw [f3]
      have em : Nat.min (mT M).1 60 = (mT M).1 := Nat.min_eq_left n60
      have ivD := ivT K (Nat.min (mT M).1 60) x y z w
      refine am_run (am_cK _) 3 (⟨fun _ => ?_, fun c => absurd (show (0 : Int32) ≤ 0 by decide) c⟩)
      have e16 : upd (upd (bgF (upd F 0 0) (Nat.min (mT M).1 60)) 27 (nI K)) 7 (nI (Nat.min (mT M).1 60)) 16 = F 16 := rfl
      have e27 : upd (upd (bgF (upd F 0 0) (Nat.min (mT M).1 60)) 27 (nI K)) 7 (nI (Nat.min (mT M).1 60)) 27 = nI K := rfl
      generalize upd (upd (bgF (upd F 0 0) (Nat.min (mT M).1 60)) 27 (nI K)) 7 (nI (Nat.min (mT M).1 60)) = F1 at W' ivD e16 e27
      refine am_run (am_cK _) 2 (am_obj_in W'.o ((M_putsBy W' (σ := mS M) (U := mU M) iv.s.1 hs ivD.u (fun h2 u W2 iu hm => ?_))))
      have W3 : RM h h2 F1 (va_up (va_up (V4 A x y z w) 163 u) 154 (A 154)) R := by
        rw [va_same (A := va_up (V4 A x y z w) 163 u) (p := 154) (x := A 154) rfl]
        exact W2
      have eL : IL (F1 16) (va_up (V4 A x y z w) 163 u 159) (mL M) := ivD.l
      have q5 : ∀ i, i < 60 → va_up (V4 A x y z w) 163 u 165 i = x i ∧ va_up (V4 A x y z w) 163 u 166 i = y i ∧ va_up (V4 A x y z w) 163 u 167 i = z i ∧ va_up (V4 A x y z w) 163 u 168 i = w i := fun i _ => ⟨rfl, rfl, rfl, rfl⟩
      have fin : ∀ i rf h' F' A' g' σ', dRs M = (i, rf, σ') → i ≤ K → rf = decide (i < K) → RM h h' F' (va_up A' 154 g') R → AgF F1 F' → AgA (va_up (V4 A x y z w) 163 u) A' → RSm g' σ' → Sok σ' → am_wp (am_call (d + 19)) (0, 0) cm_X11_day Q (fun _ => False) (88, [some (.ref 152), some (.int (nI (mT M).1)), some (.int 1), some (.int 0), some (.int (nI i))], [], 0, 0) h' := by
        intro i rf h' F' A' g' σ' ed hi erf W4 aF aA hS4 hs4
        rw [ed] at hQ
        simp only at hQ
        refine am_run (am_cK _) 3 (am_putI W4 rfl (by decide) (fun h5 W5 => ?_))
        have x27 : upd F' 1 0 27 = nI K := (aF 27 (by decide)).trans e27
        have out : am_wp (am_call (d + 19)) (0, 0) cm_X11_day Q (fun _ => False) (111, [some (.ref 152), some (.int (nI (mT M).1)), some (.int 1), some (.int 0), some (.int (nI i))], [.int (bI rf), .ref 152], 0, 0) h5 := by
          refine am_run (am_cK _) 2 (am_obj_in W5.o ((M_enters W5 (m := 0) rfl (by omega) _ (fun h6 W6 => ?_))))
          refine am_run (am_cK _) 3 (am_obj_in W6.o (am_run (am_cK _) 2 (am_ld W6.a154 60 (by omega) ?_)))
          rw [pk_cl (x := 60) 60, am_up_s, hS4.1]
          refine am_run (am_cK _) 2 (am_obj_in W6.o ((M_enters W6 (m := 1) rfl (by omega) _ (fun h7 W7 => ?_))))
          have iu7 : IU (upd (upd (upd F' 1 0) 1 (nI (0 + 1))) 1 (nI (1 + 1)) 20) (va_up A' 154 g' 163) (mU M) := by
            rw [show upd (upd (upd F' 1 0) 1 (nI (0 + 1))) 1 (nI (1 + 1)) 20 = F1 20 from aF 20 (by decide), show va_up A' 154 g' 163 = u from aA 163 (by decide) (by decide) (by decide) (by decide)]
            exact iu
          have hm7 : RSm (fun k => va_up A' 154 g' 163 (61 * (mU M).length + k)) (mS M) := by
            rw [show va_up A' 154 g' 163 = u from aA 163 (by decide) (by decide) (by decide) (by decide)]
            exact hm
          have ivE : Iv (upd F1 1 (nI 2)) (V4 A x y z w) (vp_updL (vp_updL R 0 (bI rf).toInt64) 1 (nI (sN σ')).toInt64) (pD (pT M (0, (mT M).2)) (2, w2 (bI rf) (nI (sN σ')))) := ⟨ivD.s, ivD.u, ivD.k, ivD.t, ⟨rfl, by show 2 ≤ 16; omega, fun i hi => i_lt2 (P := fun q => vp_updL (vp_updL R 0 (bI rf).toInt64) 1 (nI (sN σ')).toInt64 q = (w2 (bI rf) (nI (sN σ')) q).toInt64) hi rfl rfl⟩, ivD.f, ivD.hr, ivD.l⟩
          have kf : ∀ v, KF (upd F1 1 (nI 2)) (upd (upd (upd (upd F' 1 0) 1 (nI (0 + 1))) 1 (nI (1 + 1))) 20 v) := fun v => ⟨rfl, aF 6 (by decide), aF 16 (by decide), aF 33 (by decide), aF 36 (by decide)⟩
          have kf0 : KF (upd F1 1 (nI 2)) (upd (upd (upd F' 1 0) 1 (nI (0 + 1))) 1 (nI (1 + 1))) := ⟨rfl, aF 6 (by decide), aF 16 (by decide), aF 33 (by decide), aF 36 (by decide)⟩
          have ka : ∀ u5, KA (V4 A x y z w) (va_up (va_up A' 154 g') 163 u5) := fun u5 => ⟨aA 156 (by decide) (by decide) (by decide) (by decide), aA 159 (by decide) (by decide) (by decide) (by decide), aA 172 (by decide) (by decide) (by decide) (by decide), aA 173 (by decide) (by decide) (by decide) (by decide), aA 174 (by decide) (by decide) (by decide) (by decide), aA 175 (by decide) (by decide) (by decide) (by decide), aA 179 (by decide) (by decide) (by decide) (by decide), aA 180 (by decide) (by decide) (by decide) (by decide)⟩
          have ka0 : KA (V4 A x y z w) (va_up A' 154 g') := ⟨aA 156 (by decide) (by decide) (by decide) (by decide), aA 159 (by decide) (by decide) (by decide) (by decide), aA 172 (by decide) (by decide) (by decide) (by decide), aA 173 (by decide) (by decide) (by decide) (by decide), aA 174 (by decide) (by decide) (by decide) (by decide), aA 175 (by decide) (by decide) (by decide) (by decide), aA 179 (by decide) (by decide) (by decide) (by decide), aA 180 (by decide) (by decide) (by decide) (by decide)⟩
          refine am_run (am_cK _) 2 (pk_le i 0 (fun c => ?_) (fun c => ?_))
          · rw [if_neg (by omega), show nI i = 0 by rw [show i = 0 by omega]; rfl] at hQ
            exact am_run (am_cK _) 2 (hQ h7 W7.y ⟨_, _, _, W7.re, Iv_su ivE kf0 ka0 (σ := σ') (U := mU M) hS4 hs4 iu7⟩)
          · rw [if_pos c] at hQ
            refine am_run (am_cK _) 3 (am_obj_in W7.o ((M_adds W7 (U := mU M) (σ := mS M) iu7 hm7 hs _ (fun h8 x8 u8 W8 iu8 => ?_))))
            exact am_run (am_cK _) 2 (hQ h8 W8.y ⟨_, _, _, W8.re, Iv_su ivE (kf x8) (ka u8) (σ := σ') (U := (mS M :: mU M).take 15) hS4 hs4 iu8⟩)
        refine am_run (am_cK _) 4 (am_obj_in W5.o (am_run (am_cK _) 1 (pk_le K i (fun c => ?_) (fun c => ?_) (hx := x27))))
        · rw [erf, decide_eq_false (by omega)] at out
          exact am_run (am_cK _) 2 (M_flag0 out)
        · rw [erf, decide_eq_true c] at out
          exact am_run (am_cK _) 3 (M_flag1 out)
      refine am_run (am_cK _) 2 (show am_wp (am_call (d + 19)) (0, 0) cm_X11_day Q (fun _ => False) (64, [some (.ref 152), some (.int (nI (mT M).1)), some (.int 1), some (.int 0), some (.int (nI 0))], [], 0, 0) h2 from ?_)
      refine am_lp (α := (Nat → Int32) × (Nat → Nat → Int32) × (Nat → Int32) × Sg) (fun i _ => (64, [some (.ref 152), some (.int (nI (mT M).1)), some (.int 1), some (.int 0), some (.int (nI i))], [], 0, 0)) (fun i q h' => RM h h' q.1 (va_up q.2.1 154 q.2.2.1) R ∧ AgF F1 q.1 ∧ AgA (va_up (V4 A x y z w) 163 u) q.2.1 ∧ RSm q.2.2.1 q.2.2.2 ∧ Sok q.2.2.2 ∧ dRs M = dRn (mL M) (mT M).2 (mT M).1 ((mT M).1 + 1 - i) (pos i) i q.2.2.2) K (fun i q h4 hi P Kn => ?_) (fun q h4 P => ?_) 0 (F1, va_up (V4 A x y z w) 163 u, A 154, mS M) h2 (Nat.zero_le _) ⟨W3, AgF.rf, AgA.rf, iv.s.1, hs, by rw [rd.1]; rfl⟩
      · obtain ⟨F4, A4, g4, σ4⟩ := q
        obtain ⟨W4, aF, aA, hS4, hs4, ed⟩ := P
        replace W4 : RM h h4 F4 (va_up A4 154 g4) R := W4
        replace aF : AgF F1 F4 := aF
        replace aA : AgA (va_up (V4 A x y z w) 163 u) A4 := aA
        replace hS4 : RSm g4 σ4 := hS4
        replace hs4 : Sok σ4 := hs4
        replace ed : dRs M = dRn (mL M) (mT M).2 (mT M).1 ((mT M).1 + 1 - i) (pos i) i σ4 := ed
        obtain ⟨ra, rb, rc⟩ := rd.2.2 i hi
        have hge := rd.ge i (by omega)
        have hpn : pos i + ftl (frm ((mT M).2 (pos i))) < (mT M).1 := by omega
        have x27 : F4 27 = nI K := (aF 27 (by decide)).trans e27
        have l4 : IL (F4 16) (A4 159) (mL M) := by
          rw [aF 16 (by decide), aA 159 (by decide) (by decide) (by decide) (by decide)]
          exact eL
        have ok4 : aOK (mT M).2 (pos i) (A4 165 i) (A4 166 i) (A4 167 i) (A4 168 i) := by
          rw [aA 165 (by decide) (by decide) (by decide) (by decide), aA 166 (by decide) (by decide) (by decide) (by decide), aA 167 (by decide) (by decide) (by decide) (by decide), aA 168 (by decide) (by decide) (by decide) (by decide)]
          exact ra
        rw [show (mT M).1 + 1 - i = ((mT M).1 + 1 - (i + 1)) + 1 by omega, dRn, if_pos (show pos i < (mT M).1 by omega)] at ed
        refine am_run (am_cK _) 3 (am_obj_in W4.o (am_run (am_cK _) 1 (pk_le K i (fun c => by omega) (fun _ => ?_) (hx := x27))))
        refine am_run (am_cK _) 3 (am_obj_in W4.o ((M_does (n := (mT M).1) W4 (by omega) hS4 hs4 l4 ok4 hpn (fun h5 F5 A5 g5 W5 bF bA hS5 c => ?_) (fun h5 F5 A5 g5 W5 bF bA hS5 c => ?_))))
        · rw [if_neg c, show sgn (mT M).2 (mT M).1 (pos i) = (mT M).2 (pos i) from if_pos (by omega), show pos i + (1 + ftl (frm ((mT M).2 (pos i)))) = pos (i + 1) by omega] at ed
          have K2 := Kn (F5, A5, g5, _) h5 ⟨W5, fun j hj => (bF j hj).trans (aF j hj), fun j j1 j2 j3 j4 => (bA j j1 j2 j3 j4).trans (aA j j1 j2 j3 j4), hS5, dAct_ok hs4, ed⟩
          rw [nI_succ i] at K2
          exact am_run (am_cK _) 1 (⟨fun q => absurd q n10, fun _ => am_run (am_cK _) 2 (K2)⟩)
        · rw [if_pos c] at ed
          exact am_run (am_cK _) 1 (⟨fun _ => fin i true h5 F5 A5 g5 _ ed (by omega) (decide_eq_true hi).symm W5 (fun j hj => (bF j hj).trans (aF j hj)) (fun j j1 j2 j3 j4 => (bA j j1 j2 j3 j4).trans (aA j j1 j2 j3 j4)) hS5 (dAct_ok hs4), fun q => absurd rfl q⟩)
      · obtain ⟨F4, A4, g4, σ4⟩ := q
        obtain ⟨W4, aF, aA, hS4, hs4, ed⟩ := P
        replace W4 : RM h h4 F4 (va_up A4 154 g4) R := W4
        replace aF : AgF F1 F4 := aF
        replace ed : dRs M = dRn (mL M) (mT M).2 (mT M).1 ((mT M).1 + 1 - K) (pos K) K σ4 := ed
        have hge := rd.ge K (Nat.le_refl _)
        have hpk := rd.2.1
        have x27 : F4 27 = nI K := (aF 27 (by decide)).trans e27
        rw [show (mT M).1 + 1 - K = ((mT M).1 - K) + 1 by omega, dRn, if_neg (by omega)] at ed
        exact am_run (am_cK _) 3 (am_obj_in W4.o (am_run (am_cK _) 1 (pk_le K K (fun _ => fin K false h4 F4 A4 g4 σ4 ed (Nat.le_refl _) (decide_eq_false (Nat.lt_irrefl _)).symm W4 aF aA hS4 hs4) (fun c => by omega) (hx := x27))))
  have W3' : RM h h3 (upd (upd (bgF (upd F 0 0) (Nat.min (mT M).1 60)) 27 (nI 0)) 7 (nI 0)) (V4 A (A 165) (A 166) (A 167) (A 168)) R := by
    rw [V_0, upd_same (F := upd (bgF (upd F 0 0) (Nat.min (mT M).1 60)) 27 (nI 0)) (i := 7) (x := nI 0) rfl]
    exact W3
  refine am_run (am_cK _) 2 (show am_wp (am_call (d + 19)) (0, 0) cm_X11_day Q (fun _ => False) (19, [some (.ref 152), some (.int (nI (mT M).1)), some (.int 1), none, none], [], 0, 0) h3 from ?_)
  suffices H : ∀ m K a h' x y z w pos fm, Nat.min (mT M).1 60 - a = m → a ≤ Nat.min (mT M).1 60 → RM h h' (upd (upd (bgF (upd F 0 0) (Nat.min (mT M).1 60)) 27 (nI K)) 7 (nI a)) (V4 A x y z w) R → RdA (mT M).2 (Nat.min (mT M).1 60) K a x y z w pos → dyL (mT M).2 (Nat.min (mT M).1 60) 0 0 0 = dyL (mT M).2 (Nat.min (mT M).1 60 - a) a fm (ftl fm) → am_wp (am_call (d + 19)) (0, 0) cm_X11_day Q (fun _ => False) (19, [some (.ref 152), some (.int (nI (mT M).1)), some (.int 1), none, none], [], 0, 0) h' from
    H _ 0 0 h3 _ _ _ _ (fun _ => 0) 0 rfl (Nat.zero_le _) W3' ⟨rfl, rfl, fun i hi => absurd hi (Nat.not_lt_zero i)⟩ rfl
  intro m
  induction m using Nat.strongRecOn with
  | ind m ih =>
    intro K a h' x y z w pos fm em ha W' rd ed
    have hKa : K ≤ a := by
      have := rd.ge K (Nat.le_refl _)
      have := rd.2.1
      omega
    refine am_run (am_cK _) 2 (⟨fun q => absurd q n10, fun _ => ?_⟩)
    by_cases c : a < Nat.min (mT M).1 60
    · refine am_run (am_cK _) 2 (am_obj_in W'.o (am_run (am_cK _) 2 (am_obj_in W'.o (am_run (am_cK _) 1 (pk_le (Nat.min (mT M).1 60) a (fun q => by omega) (fun _ => ?_))))))
      refine am_run (am_cK _) 2 (am_obj_in W'.o ((M_readsAct (k := K) (a := a) (t := Nat.min (mT M).1 60) (tx := (mT M).2) W' rfl (by omega) upd_s (r8 K a) (by omega) c hx (fun h4 x' y' z' w' b ok W4 o4 e4 p4 => ?_))))
      rw [upd_sw (i := 7) (j := 27) (by decide), upd_upd, upd_upd] at W4
      cases ok with
      | true =>
        obtain ⟨s1, s2, s3, s4⟩ := rA_t c e4
        rw [s4 fm] at ed
        have hz := ih (Nat.min (mT M).1 60 - b) (by omega) (K + 1) b h4 x' y' z' w' (fun i => if i = K + 1 then b else pos i) _ rfl s3 W4 ⟨(if_neg (by omega)).trans rd.1, if_pos rfl, fun i hi => (by
          show aOK (mT M).2 (if i = K + 1 then b else pos i) (x' i) (y' i) (z' i) (w' i) ∧ (if i + 1 = K + 1 then b else pos (i + 1)) = (if i = K + 1 then b else pos i) + 1 + ftl (frm ((mT M).2 (if i = K + 1 then b else pos i))) ∧ (if i + 1 = K + 1 then b else pos (i + 1)) ≤ Nat.min (mT M).1 60
          by_cases e : i = K
          · subst e
            rw [if_neg (by omega), if_pos rfl, rd.2.1]
            exact ⟨p4 rfl, s2, s3⟩
          · rw [if_neg (by omega), if_neg (by omega)]
            obtain ⟨u1, u2, u3⟩ := rd.2.2 i (by omega)
            obtain ⟨o1, o2, o3, o5⟩ := o4 i e
            rw [o1, o2, o3, o5]
            exact ⟨u1, u2, u3⟩)⟩ ed
        exact am_run (am_cK _) 2 hz
      | false =>
        obtain ⟨s1, o, s2, s3, s4⟩ := rA_f c e4 fm
        rw [s2] at ed
        refine am_run (am_cK _) 2 (show am_wp (am_call (d + 19)) (0, 0) cm_X11_day Q (fun _ => False) (19, [some (.ref 152), some (.int (nI (mT M).1)), some (.int 0), none, none], [], 0, 0) h4 from ?_)
        exact am_run (am_cK _) 2 (⟨fun _ => bad h4 (K + 1) b x' y' z' w' W4 s1 ⟨o, ed, s3, s4⟩, fun q => absurd rfl q⟩)
    · have ea : a = Nat.min (mT M).1 60 := by omega
      subst ea
      rw [Nat.sub_self] at ed
      exact am_run (am_cK _) 2 (am_obj_in W'.o (am_run (am_cK _) 2 (am_obj_in W'.o (am_run (am_cK _) 1 (pk_le (Nat.min (mT M).1 60) (Nat.min (mT M).1 60) (fun _ => done h' K x y z w pos W' rd ⟨fm, ed⟩) (fun q => by omega))))))
end
