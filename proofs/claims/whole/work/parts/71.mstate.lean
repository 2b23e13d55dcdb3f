/-! THE MODEL's state -/
def IU (u : Int32) (a : Nat → Int32) (U : List Sg) : Prop := u = nI U.length ∧ U.length ≤ 15 ∧ ∀ j σ, U[j]? = some σ → RSm (fun k => a (61 * (U.length - 1 - j) + k)) σ ∧ Sok σ
def IK (ik a : Nat → Int32) (K : Nat → Option Sg) : Prop := ∀ i, i < 3 → (K i = none ∧ ik i = 0) ∨ (∃ σ, K i = some σ ∧ ik i = 1 ∧ RSm (fun k => a (61 * i + k)) σ ∧ Sok σ)
def IT (u : Int32) (a : Nat → Int32) (T : Nat × (Nat → Nat)) : Prop := u = nI T.1 ∧ T.1 ≤ 80 ∧ ∀ i, i < T.1 → a i = nI (T.2 i) ∧ T.2 i < 256
def ID (u : Int32) (r : Nat → Int64) (D : Nat × (Nat → Int32)) : Prop := u = nI D.1 ∧ D.1 ≤ 16 ∧ ∀ i, i < D.1 → r i = (D.2 i).toInt64
def IF (u : Int32) (a b : Nat → Int32) (C : Nat × (Nat → Nat) × (Nat → Nat)) : Prop := u = nI C.1 ∧ C.1 ≤ 10 ∧ ∀ i, i < C.1 → a i = nI (C.2.1 i) ∧ b i = nI (C.2.2 i) ∧ C.2.1 i < 10 ∧ C.2.2 i < 4
def IH (u : Int32) (a b : Nat → Int32) (C : Nat × (Nat → Nat) × (Nat → Nat)) : Prop := u = nI C.1 ∧ C.1 ≤ 12 ∧ ∀ i, i < C.1 → a i = nI (C.2.1 i) ∧ b i = nI (C.2.2 i) ∧ C.2.1 i ≤ 3 ∧ C.2.2 i ≤ 9 ∧ (C.2.1 i = 1 → C.2.2 i < 4)
def Iv (F : Nat → Int32) (A : Nat → Nat → Int32) (R : Nat → Int64) (M : Ms) : Prop := (RSm (A 154) (mS M) ∧ Sok (mS M)) ∧ IU (F 20) (A 163) (mU M) ∧ IK (A 179) (A 180) (mK M) ∧ IT (F 6) (A 156) (mT M) ∧ ID (F 1) R (mD M) ∧ IF (F 33) (A 172) (A 173) (mF M) ∧ IH (F 36) (A 174) (A 175) (mH M) ∧ IL (F 16) (A 159) (mL M)
section
variable {F F' : Nat → Int32} {A A' : Nat → Nat → Int32} {R R' : Nat → Int64} {M : Ms} {h h0 h1 h2 : am_H}
theorem Iv.s (v : Iv F A R M) : RSm (A 154) (mS M) ∧ Sok (mS M) := v.1
theorem Iv.u (v : Iv F A R M) : IU (F 20) (A 163) (mU M) := v.2.1
theorem Iv.k (v : Iv F A R M) : IK (A 179) (A 180) (mK M) := v.2.2.1
theorem Iv.t (v : Iv F A R M) : IT (F 6) (A 156) (mT M) := v.2.2.2.1
theorem Iv.d (v : Iv F A R M) : ID (F 1) R (mD M) := v.2.2.2.2.1
theorem Iv.f (v : Iv F A R M) : IF (F 33) (A 172) (A 173) (mF M) := v.2.2.2.2.2.1
theorem Iv.hr (v : Iv F A R M) : IH (F 36) (A 174) (A 175) (mH M) := v.2.2.2.2.2.2.1
theorem Iv.l (v : Iv F A R M) : IL (F 16) (A 159) (mL M) := v.2.2.2.2.2.2.2
/-- nothing but what is thought of has changed -/
def KF (F F' : Nat → Int32) : Prop := F' 1 = F 1 ∧ F' 6 = F 6 ∧ F' 16 = F 16 ∧ F' 33 = F 33 ∧ F' 36 = F 36
def KA (A A' : Nat → Nat → Int32) : Prop := A' 156 = A 156 ∧ A' 159 = A 159 ∧ A' 172 = A 172 ∧ A' 173 = A 173 ∧ A' 174 = A 174 ∧ A' 175 = A 175 ∧ A' 179 = A 179 ∧ A' 180 = A 180
theorem Iv_su (v : Iv F A R M) (hF : KF F F') (hA : KA A A') {σ : Sg} {U : List Sg} (hS : RSm (A' 154) σ) (hs : Sok σ) (hU : IU (F' 20) (A' 163) U) : Iv F' A' R (pU (pS M σ) U) := by
  obtain ⟨f1, f2, f3, f4, f5⟩ := hF
  obtain ⟨a1, a2, a3, a4, a5, a6, a7, a8⟩ := hA
  refine ⟨⟨hS, hs⟩, hU, ?_, ?_, ?_, ?_, ?_, ?_⟩
  · rw [a7, a8]; exact v.k
  · rw [f2, a1]; exact v.t
  · rw [f1]; exact v.d
  · rw [f4, a3, a4]; exact v.f
  · rw [f5, a5, a6]; exact v.hr
  · rw [f3, a2]; exact v.l
theorem RM.re (W : RM h0 h F A R) : RM h h F A R := ⟨Fy.rf, W.2⟩
theorem RM.bs (W : RM h1 h F A R) (y : Fy h0 h1) : RM h0 h F A R := ⟨y.tr W.1, W.2⟩
def RY (h : am_H) (M : Ms) : Prop := ∃ F A R, RM h h F A R ∧ Iv F A R M
/-- and the last call threw, or not -/
def RYt (h : am_H) (M : Ms) (t : Int32) : Prop := ∃ F A R, RM h h F A R ∧ Iv F A R M ∧ F 0 = t
theorem RYt.y {t : Int32} (x : RYt h M t) : RY h M := by
  obtain ⟨F, A, R, a, b, _⟩ := x
  exact ⟨F, A, R, a, b⟩
theorem RSm_congr {g g' : Nat → Int32} {σ : Sg} (hs : Sok σ) (h : ∀ x, x < 61 → g' x = g x) (hS : RSm g σ) : RSm g' σ := by
  have hN := hs.1
  refine ⟨(h 60 (by omega)).trans hS.1, (h 59 (by omega)).trans hS.2.1, fun c hc => (h _ (by omega)).trans (hS.2.2.1 c hc), fun b hb => ?_⟩
  have hz := hs.2.1 b hb
  have hr := hS.2.2.2 b hb
  exact ⟨(h _ (by omega)).trans hr.1, fun i hi => (h _ (by have h9 : i < sZ σ b := hi; omega)).trans (hr.2 i hi)⟩
end
theorem ix61 (u k : Nat) : (61 : Int32) * nI u + nI k = nI (61 * u + k) := by
  rw [show (61 : Int32) * nI u = nI (61 * u) from pk_mul 61 u, nI_add]
section
variable {d : Nat} {h0 h : am_H} {Q : Option Value → am_H → Prop} {F : Nat → Int32} {A : Nat → Nat → Int32} {R : Nat → Int64} {σ : Sg} {U : List Sg}
theorem M_putsBy (W : RM h0 h F A R) (hS : RSm (A 154) σ) (hs : Sok σ) (hU : IU (F 20) (A 163) U) (hQ : ∀ h' u, RM h0 h' F (va_up A 163 u) R → IU (F 20) u U → RSm (fun k => u (61 * U.length + k)) σ → Q none h') : am_call (d + 1) 228 [.ref 152] h Q := by
  obtain ⟨hu, h15, hr⟩ := hU
  refine en_X11_putsBy (Nat.le_of_ble_eq_true rfl) (am_run (am_cK _) 2 ?_)
  refine am_lp (α := Nat → Int32) (fun q _ => (2, [some (.ref 152), some (.int (nI q))], [], 0, 0)) (fun q u h' => RM h0 h' F (va_up A 163 u) R ∧ (∀ x, x < 61 * U.length → u x = A 163 x) ∧ ∀ k, k < q → u (61 * U.length + k) = A 154 k) 61 (fun q u h1 hq P K => ?_) (fun u h1 P => ?_) 0 (A 163) h (Nat.zero_le _) ⟨by rw [va_same rfl]; exact W, fun _ _ => rfl, fun k hk => by omega⟩
  · obtain ⟨W1, p1, p2⟩ := P
    refine am_run (am_cK _) 3 (pk_le 61 q (fun c => by omega) (fun _ => ?_))
    refine am_run (am_cK _) 2 (am_obj_in W1.o (am_run (am_cK _) 3 (am_obj_in W1.o (am_run (am_cK _) 5 (am_obj_in W1.o (am_run (am_cK _) 2 ?_))))))
    rw [hu]
    refine am_ld W1.a154 q (by omega) ?_
    rw [nI_clamp (by omega)]
    refine am_run (am_cK _) 1 (am_stI (p := 163) W1 (ix61 _ _) (show 61 * U.length + q < 976 by omega) rfl (fun h2 W2 => ?_))
    rw [am_up_s, va_up2] at W2
    have K2 := K _ h2 ⟨W2, fun x hx => (upd_n (by omega)).trans (p1 x hx), fun k hk => (by
      by_cases e : k = q
      · subst e; exact upd_s
      · exact (upd_n (by omega)).trans (p2 k (by omega)))⟩
    rw [nI_succ] at K2
    exact am_run (am_cK _) 2 (K2)
  · obtain ⟨W1, p1, p2⟩ := P
    refine am_run (am_cK _) 3 (pk_le 61 61 (fun _ => ?_) (fun c => by omega))
    refine am_run (am_cK _) 1 (hQ h1 u W1 ⟨hu, h15, fun j x hx => ?_⟩ (RSm_congr hs (fun x hx => p2 x hx) hS))
    have hj : j < U.length := (List.getElem?_eq_some_iff.mp hx).1
    have z := hr j x hx
    exact ⟨RSm_congr z.2 (fun y hy => p1 _ (by omega)) z.1, z.2⟩
theorem M_adds (W : RM h0 h F A R) (hU : IU (F 20) (A 163) U) (hm : RSm (fun k => A 163 (61 * U.length + k)) σ) (hs : Sok σ) (ans : Int32) (hQ : ∀ h' x u, RM h0 h' (upd F 20 x) (va_up A 163 u) R → IU x u ((σ :: U).take 15) → Q (some (.int ans)) h') : am_call (d + 1) 229 [.ref 152, .int ans] h Q := by
  obtain ⟨hu, h15, hr⟩ := hU
  refine en_X11_adds (Nat.le_of_ble_eq_true rfl) ?_
  refine am_run (am_cK _) 3 (am_obj_in W.o (am_run (am_cK _) 3 (am_putI W rfl (by decide) (fun h1 W1 => ?_))))
  rw [hu, nI_1] at W1
  refine am_run (am_cK _) 2 (am_obj_in W1.o (am_run (am_cK _) 2 (pk_le (U.length + 1) 15 (fun c => ?_) (fun c => ?_) (hx := rfl))))
  · refine am_run (am_cK _) 2 (hQ h1 _ (A 163) (by rw [va_same rfl]; exact W1) ⟨?_, ?_, fun j x hx => ?_⟩)
    · rw [List.length_take, List.length_cons]; congr 1; omega
    · rw [List.length_take]; omega
    · rw [List.getElem?_take] at hx
      split at hx
      · rename_i hj
        rw [List.length_take, List.length_cons, show min 15 (U.length + 1) - 1 - j = U.length - j by omega]
        cases j with
        | zero =>
          have ex : σ = x := by simpa using hx
          subst ex
          exact ⟨hm, hs⟩
        | succ j =>
          have hx' : U[j]? = some x := by simpa using hx
          rw [show U.length - (j + 1) = U.length - 1 - j by omega]
          exact hr j x hx'
      · cases hx
  · have h15' : U.length = 15 := by omega
    refine am_run (am_cK _) 2 ?_
    refine am_lp (α := Nat → Int32) (fun q _ => (21, [some (.ref 152), some (.int ans), some (.int (nI q))], [], 0, 0)) (fun q u h' => RM h0 h' (upd F 20 (nI (U.length + 1))) (va_up A 163 u) R ∧ (∀ x, x < q → u x = A 163 (x + 61)) ∧ ∀ x, q ≤ x → u x = A 163 x) 915 (fun q u h2 hq P K => ?_) (fun u h2 P => ?_) 0 (A 163) h1 (Nat.zero_le _) ⟨by rw [va_same rfl]; exact W1, fun x hx => by omega, fun _ _ => rfl⟩
    · obtain ⟨W2, p1, p2⟩ := P
      refine am_run (am_cK _) 3 (pk_le 915 q (fun c => by omega) (fun _ => ?_))
      have e61 : nI q + 61 = nI (q + 61) := nI_add q 61
      refine am_run (am_cK _) 2 (am_obj_in W2.o (am_run (am_cK _) 3 (am_obj_in W2.o (am_run (am_cK _) 4 (am_ld W2.a163 (q + 61) (by omega) ?_ e61)))))
      rw [e61, nI_clamp (by omega), am_up_s, p2 (q + 61) (by omega)]
      refine am_run (am_cK _) 1 (am_stI (p := 163) W2 (j := q) rfl (show q < 976 by omega) rfl (fun h3 W3 => ?_))
      rw [am_up_s, va_up2] at W3
      have K2 := K _ h3 ⟨W3, fun x hx => (by
        by_cases e : x = q
        · subst e; exact upd_s
        · exact (upd_n e).trans (p1 x (by omega))), fun x hx => (upd_n (by omega)).trans (p2 x (by omega))⟩
      rw [nI_succ] at K2
      exact am_run (am_cK _) 2 (K2)
    · obtain ⟨W2, p1, p2⟩ := P
      refine am_run (am_cK _) 3 (pk_le 915 915 (fun _ => ?_) (fun c => by omega))
      refine am_run (am_cK _) 3 (am_obj_in W2.o (am_run (am_cK _) 3 (am_putI W2 rfl (by decide) (fun h3 W3 => ?_))))
      rw [upd_upd, show upd F 20 (nI (U.length + 1)) 20 = nI (U.length + 1) from rfl, nI_pred] at W3
      refine am_run (am_cK _) 2 (hQ h3 _ u W3 ⟨?_, ?_, fun j x hx => ?_⟩)
      · rw [List.length_take, List.length_cons]; congr 1; omega
      · rw [List.length_take]; omega
      · rw [List.getElem?_take] at hx
        split at hx
        · rename_i hj
          rw [List.length_take, List.length_cons, show min 15 (U.length + 1) - 1 - j = 14 - j by omega]
          cases j with
          | zero =>
            have ex : σ = x := by simpa using hx
            subst ex
            refine ⟨RSm_congr hs (fun y hy => ?_) hm, hs⟩
            show u (61 * (14 - 0) + y) = A 163 (61 * U.length + y)
            rw [p1 _ (by omega)]
            congr 1
            omega
          | succ j =>
            have hx' : U[j]? = some x := by simpa using hx
            have z := hr j x hx'
            refine ⟨RSm_congr z.2 (fun y hy => ?_) z.1, z.2⟩
            show u (61 * (14 - (j + 1)) + y) = A 163 (61 * (U.length - 1 - j) + y)
            rw [p1 _ (by omega)]
            congr 1
            omega
        · cases hx
theorem M_counted (W : RM h0 h F A R) (hU : IU (F 20) (A 163) U) (hm : RSm (fun k => A 163 (61 * U.length + k)) σ) (hs : Sok σ) (ans : Int32) (h1 : ans < 0 → Q (some (.int ans)) h) (h2 : ¬ ans < 0 → ∀ h' x u, RM h0 h' (upd F 20 x) (va_up A 163 u) R → IU x u ((σ :: U).take 15) → Q (some (.int ans)) h') : am_call (d + 2) 230 [.ref 152, .int ans] h Q := by
  refine en_X11_counted (Nat.le_of_ble_eq_true rfl) ?_
  refine am_run (am_cK _) 2 (⟨fun c => ?_, fun c => ?_⟩)
  · exact am_run (am_cK _) 3 (am_obj_in W.o ((M_adds W hU hm hs ans (fun h' x u W' iu => am_run (am_cK _) 1 (h2 (Int32.not_lt.mpr c) h' x u W' iu)))))
  · exact am_run (am_cK _) 3 (h1 (Int32.not_le.mp c))
theorem M_price (W : RM h0 h F A R) {p b : Nat} {L : List Nat} (hp : p = 154 ∨ p = 155) (hS : RSm (A p) σ) (hs : Sok σ) (hI : IL (F 16) (A 159) L) (hb : b < sN σ) (hQ : ∀ h' g a s, RM h0 h' (upd F 13 (nI (sZ σ b))) (va_up (va_up (va_up A 158 g) 162 a) 161 s) R → Q (some (.int (nI (sPrc L σ b)))) h') : am_call (d + 6) 222 [.ref 152, .ref p, .int (nI b)] h Q := by
  have hN := hs.1
  have hz := hs.2.1 b hb
  have hr := hS.2.2.2 b hb
  refine en_X11_price (Nat.le_of_ble_eq_true rfl) ?_
  refine am_run (am_cK _) 4 (am_obj_in W.o ((M_looksAt W hp (by omega) (by omega) hz.2.1 hr.1 hr.2 hz.2.2 (fun h1 g W1 hL => ?_))))
  refine am_run (am_cK _) 4 (am_obj_in W1.o ((M_priceOfLook W1 hL hp (by rw [am_up_n (by omega)]; exact hS) hs hI (nI b) (fun h2 a s W2 => ?_))))
  have q := hQ h2 g a s W2
  unfold sPrc at q
  rw [alN_oAl hs hb]
  exact am_run (am_cK _) 1 (q)
def AgF (F F' : Nat → Int32) : Prop := ∀ i, i ≠ 13 → F' i = F i
def AgA (A A' : Nat → Nat → Int32) : Prop := ∀ k, k ≠ 158 → k ≠ 161 → k ≠ 162 → k ≠ 164 → A' k = A k
theorem AgF.rf : AgF F F := fun _ _ => rfl
theorem AgA.rf : AgA A A := fun _ _ _ _ _ => rfl
theorem AgF.up {x : Int32} : AgF F (upd F 13 x) := fun _ h => upd_n h
theorem M_prices (W : RM h0 h F A R) {L : List Nat} (hS : RSm (A 154) σ) (hs : Sok σ) (hI : IL (F 16) (A 159) L) (hQ : ∀ h' F' A', RM h0 h' F' A' R → AgF F F' → AgA A A' → Q (some (.int (nI (sPrs L σ)))) h') : am_call (d + 7) 223 [.ref 152] h Q := by
  have hN := hs.1
  refine en_X11_prices (Nat.le_of_ble_eq_true rfl) (am_run (am_cK _) 4 ?_)
  refine am_lp (α := (Nat → Int32) × (Nat → Nat → Int32)) (fun q _ => (4, [some (.ref 152), some (.int (nI (smf (sPrc L σ) q))), some (.int (nI q))], [], 0, 0)) (fun q j h' => RM h0 h' j.1 j.2 R ∧ AgF F j.1 ∧ AgA A j.2) (sN σ) (fun q j h1 hq P K => ?_) (fun j h1 P => ?_) 0 (F, A) h (Nat.zero_le _) ⟨W, AgF.rf, AgA.rf⟩
  · obtain ⟨F1, A1⟩ := j
    obtain ⟨W1, p1, p2⟩ := P
    replace W1 : RM h0 h1 F1 A1 R := W1
    replace p1 : AgF F F1 := p1
    replace p2 : AgA A A1 := p2
    have e154 : A1 154 = A 154 := p2 154 (by decide) (by decide) (by decide) (by decide)
    have hS1 : RSm (A1 154) σ := by rw [e154]; exact hS
    have hI1 : IL (F1 16) (A1 159) L := by rw [p1 16 (by decide), p2 159 (by decide) (by decide) (by decide) (by decide)]; exact hI
    refine am_run (am_cK _) 3 (am_obj_in W1.o (am_run (am_cK _) 2 (am_ld W1.a154 60 (by omega) ?_)))
    rw [pk_cl (x := 60) 60, hS1.1]
    refine am_run (am_cK _) 1 (pk_le (sN σ) q (fun c => by omega) (fun _ => ?_))
    refine am_run (am_cK _) 4 (am_obj_in W1.o (am_run (am_cK _) 2 (am_obj_in W1.o ((M_price W1 (Or.inl rfl) hS1 hs hI1 hq (fun h2 g a s W2 => ?_))))))
    have K2 := K (upd F1 13 (nI (sZ σ q)), va_up (va_up (va_up A1 158 g) 162 a) 161 s) h2 ⟨W2, fun i hi => (upd_n hi).trans (p1 i hi), fun k k1 k2 k3 k4 => (am_up_n k2).trans ((am_up_n k3).trans ((am_up_n k1).trans (p2 k k1 k2 k3 k4)))⟩
    rw [smf, ← nI_add, nI_succ] at K2
    exact am_run (am_cK _) 4 (K2)
  · obtain ⟨F1, A1⟩ := j
    obtain ⟨W1, p1, p2⟩ := P
    replace W1 : RM h0 h1 F1 A1 R := W1
    replace p1 : AgF F F1 := p1
    replace p2 : AgA A A1 := p2
    have e154 : A1 154 = A 154 := p2 154 (by decide) (by decide) (by decide) (by decide)
    refine am_run (am_cK _) 3 (am_obj_in W1.o (am_run (am_cK _) 2 (am_ld W1.a154 60 (by omega) ?_)))
    rw [pk_cl (x := 60) 60, e154, hS.1]
    exact am_run (am_cK _) 1 (pk_le (sN σ) (sN σ) (fun _ => am_run (am_cK _) 2 (hQ h1 F1 A1 W1 p1 p2)) (fun c => by omega))
theorem M_sellsOne {p : Nat} {g : Nat → Int32} {L : List Nat} (W : RM h0 h F (va_up A p g) R) (hp : p = 154 ∨ p = 155) (hS : RSm g σ) (hs : Sok σ) (hI : IL (F 16) (A 159) L) (b : Int32) (hQ : ∀ h' F' A' g', RM h0 h' F' (va_up A' p g') R → AgF F F' → AgA A A' → RSm g' (sSell L σ b).2 → Q (some (.int (sSell L σ b).1)) h') : am_call (d + 7) 244 [.ref 152, .ref p, .int b] h Q := by
  have hN := hs.1
  refine en_X11_sellsOne (Nat.le_of_ble_eq_true rfl) ?_
  refine am_run (am_cK _) 3 (M_isOf (W.pp hp) hS.1 hN b (fun j hj e => ?_) (fun z => ?_))
  · subst e
    have hz := hs.2.1 j hj
    have hpl : sPrc L σ j ≤ 99 := prc_le L hz.2.1
    have hP := hs.2.2.2
    have esp := sSell_at (L := L) hs hj
    rw [esp] at hQ
    refine am_run (am_cK _) 1 (⟨fun _ => ?_, fun z => absurd n10 z⟩)
    refine am_run (am_cK _) 4 (am_obj_in W.o ((M_price W hp (by rw [am_up_s]; exact hS) hs (by rw [am_up_n (by omega)]; exact hI) hj (fun h1 g1 a s W1 => ?_))))
    have W2 : RM h0 h1 (upd F 13 (nI (sZ σ j))) (va_up (va_up (va_up (va_up A 158 g1) 162 a) 161 s) p g) R := by
      rw [va_sw (i := p) (j := 158) (by omega), va_sw (i := p) (j := 162) (by omega), va_sw (i := p) (j := 161) (by omega)] at W1
      exact W1
    refine am_run (am_cK _) 7 (am_ld (W2.pp hp) 59 (by omega) ?_)
    rw [pk_cl (x := 59) 59, hS.2.1]
    refine am_run (am_cK _) 3 (J_minE 9999 (sP σ + sPrc L σ j) rfl (nI_add _ _) (by omega) (by omega) ?_)
    refine am_run (am_cK _) 1 (am_stG W2 hp (j := 59) rfl (by omega) (fun h3 W3 => ?_))
    have hS3 : RSm (upd g 59 (nI (Nat.min 9999 (sP σ + sPrc L σ j)))) (sN σ, sZ σ, sB σ, sK σ, Nat.min 9999 (sP σ + sPrc L σ j)) := by
      refine ⟨(upd_n (by omega)).trans hS.1, upd_s, fun c hc => (upd_n (by omega)).trans (hS.2.2.1 c hc), fun b hb => ?_⟩
      have hb5 : b < sN σ := hb
      have hz := hs.2.1 b hb
      have hr := hS.2.2.2 b hb
      exact ⟨(upd_n (by omega)).trans hr.1, fun i hi => (upd_n (by have h9 : i < sZ σ b := hi; omega)).trans (hr.2 i hi)⟩
    refine am_run (am_cK _) 3 (M_goes W3 hp hS3 ⟨hs.1, hs.2.1, hs.2.2.1, Nat.min_le_left _ _⟩ hj (fun h4 g4 W4 hS4 => ?_))
    exact am_run (am_cK _) 2 (hQ h4 _ _ g4 W4 AgF.up (fun k k1 k2 k3 k4 => (am_up_n k2).trans ((am_up_n k3).trans (am_up_n k1))) hS4)
  · have e : sSell L σ b = (-1, σ) := by unfold sSell; rw [if_pos z]
    rw [e] at hQ
    exact am_run (am_cK _) 1 (⟨fun w => absurd rfl w, fun _ => am_run (am_cK _) 2 (hQ h F A g W AgF.rf AgA.rf hS)⟩)
end
