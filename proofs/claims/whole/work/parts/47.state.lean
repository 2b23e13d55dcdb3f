/-! THE STATE: stall, what can be undone (the last first), what is kept, text, THE ROW, felt, heard, the rule's code -/
abbrev Ms : Type := Sg × List Sg × (Nat → Option Sg) × (Nat × (Nat → Nat)) × (Nat × (Nat → Int32)) × (Nat × (Nat → Nat) × (Nat → Nat)) × (Nat × (Nat → Nat) × (Nat → Nat)) × List Nat
abbrev mS (M : Ms) : Sg := M.1
abbrev mU (M : Ms) : List Sg := M.2.1
abbrev mK (M : Ms) : Nat → Option Sg := M.2.2.1
abbrev mT (M : Ms) : Nat × (Nat → Nat) := M.2.2.2.1
abbrev mD (M : Ms) : Nat × (Nat → Int32) := M.2.2.2.2.1
abbrev mF (M : Ms) : Nat × (Nat → Nat) × (Nat → Nat) := M.2.2.2.2.2.1
abbrev mH (M : Ms) : Nat × (Nat → Nat) × (Nat → Nat) := M.2.2.2.2.2.2.1
abbrev mL (M : Ms) : List Nat := M.2.2.2.2.2.2.2
abbrev pS (M : Ms) (x : Sg) : Ms := (x, M.2)
abbrev pU (M : Ms) (x : List Sg) : Ms := (M.1, x, M.2.2)
abbrev pK (M : Ms) (x : Nat → Option Sg) : Ms := (M.1, M.2.1, x, M.2.2.2)
abbrev pT (M : Ms) (x : Nat × (Nat → Nat)) : Ms := (M.1, M.2.1, M.2.2.1, x, M.2.2.2.2)
abbrev pD (M : Ms) (x : Nat × (Nat → Int32)) : Ms := (M.1, M.2.1, M.2.2.1, M.2.2.2.1, x, M.2.2.2.2.2)
abbrev pF (M : Ms) (x : Nat × (Nat → Nat) × (Nat → Nat)) : Ms := (M.1, M.2.1, M.2.2.1, M.2.2.2.1, M.2.2.2.2.1, x, M.2.2.2.2.2.2)
abbrev pH (M : Ms) (x : Nat × (Nat → Nat) × (Nat → Nat)) : Ms := (M.1, M.2.1, M.2.2.1, M.2.2.2.1, M.2.2.2.2.1, M.2.2.2.2.2.1, x, M.2.2.2.2.2.2.2)
abbrev pL (M : Ms) (x : List Nat) : Ms := (M.1, M.2.1, M.2.2.1, M.2.2.2.1, M.2.2.2.2.1, M.2.2.2.2.2.1, M.2.2.2.2.2.2.1, x)
def RPm (h : am_H) (U : List Sg) (Kk : Nat → Option Sg) : Prop := ∃ (S K : Nat → Sg) (ik : Nat → Bool) (m : Nat), RP h 49 S K ik m U.length ∧ (∀ j x, U[j]? = some x → S ((m + 15 - j) % 16) = x) ∧ ∀ i, i < 3 → Kk i = if ik i then some (K i) else none
/-- the stall is marked -/
def RPk (h : am_H) (σ : Sg) (U : List Sg) (Kk : Nat → Option Sg) : Prop := ∃ (S K : Nat → Sg) (ik : Nat → Bool) (m : Nat), RP h 49 S K ik m U.length ∧ S m = σ ∧ (∀ j x, U[j]? = some x → S ((m + 15 - j) % 16) = x) ∧ ∀ i, i < 3 → Kk i = if ik i then some (K i) else none
abbrev cX (a b : Nat) (dr : Int32) : am_C := .inr (7, [.ref 41, .ref 45, .ref 49, .ref 129, .ref 131, .ref 133, .ref 136, .ref 139, .ref 142, .ref 143, .ref a, .ref b, .int dr])
def RXc (h : am_H) (M : Ms) (a b : Nat) (dr : Int32) : Prop := (h.2 40 = cX a b dr ∧ ((a = 144 ∧ b = 148) ∨ (a = 148 ∧ b = 144))) ∧ (RS h 41 (mS M) ∧ Sok (mS M)) ∧ (∃ τ, RS h 45 τ) ∧ RPm h (mU M) (mK M) ∧ (∃ wd wz, RT h 129 (mT M).1 (mT M).2 wd wz) ∧ (RD h 131 (mD M).1 (mD M).2 ∧ (mD M).1 ≤ 16) ∧ RK h 133 ∧ (RC h 136 10 (mF M).1 (mF M).2.1 (mF M).2.2 ∧ ∀ i, i < (mF M).1 → (mF M).2.1 i < 10 ∧ (mF M).2.2 i < 4) ∧ (RC h 139 12 (mH M).1 (mH M).2.1 (mH M).2.2 ∧ ∀ i, i < (mH M).1 → (mH M).2.1 i ≤ 3 ∧ (mH M).2.2 i ≤ 9 ∧ ((mH M).2.1 i = 1 → (mH M).2.2 i < 4)) ∧ (∃ t, h.2 142 = aI 4 t) ∧ (∃ t, h.2 143 = aI 5 t) ∧ (RF h a (mL M) ∧ Cok (mL M)) ∧ RU0 h b ∧ RO h
def RX (h : am_H) (M : Ms) : Prop := ∃ a b dr, RXc h M a b dr
/-- nothing but the class's own has changed -/
def Fx (h h' : am_H) : Prop := h'.1 = h.1 ∧ ∀ x, (x < 40 ∨ 152 ≤ x) → h'.2 x = h.2 x
theorem Fx.rf {h : am_H} : Fx h h := ⟨rfl, fun _ _ => rfl⟩
theorem Fx.tr {h h1 h2 : am_H} (x : Fx h h1) (y : Fx h1 h2) : Fx h h2 := ⟨y.1.trans x.1, fun q hq => (y.2 q hq).trans (x.2 q hq)⟩
theorem AgN.fx {p n : Nat} {h h' : am_H} (hp : 40 ≤ p) (hn : p + n ≤ 152) (x : AgN p n h h') : Fx h h' := ⟨x.1, fun q hq => x.2 q (by omega)⟩
theorem Ag.fx {p : Nat} {h h' : am_H} (hp : 40 ≤ p) (hn : p + 4 ≤ 152) (x : Ag p h h') : Fx h h' := ⟨x.1, fun q hq => x.2 q (by omega)⟩
section
variable {h h' : am_H} {M : Ms} {a b : Nat} {dr : Int32}
theorem RPm_fr {U : List Sg} {Kk : Nat → Option Sg} (hR : RPm h U Kk) (hf : ∀ x, 49 ≤ x → x < 129 → h'.2 x = h.2 x) : RPm h' U Kk := by
  obtain ⟨S, K, ik, m, e0, e1⟩ := hR
  exact ⟨S, K, ik, m, RP_fr e0 hf, e1⟩
theorem RPk_fr {σ : Sg} {U : List Sg} {Kk : Nat → Option Sg} (hR : RPk h σ U Kk) (hf : ∀ x, 49 ≤ x → x < 129 → h'.2 x = h.2 x) : RPk h' σ U Kk := by
  obtain ⟨S, K, ik, m, e0, e1⟩ := hR
  exact ⟨S, K, ik, m, RP_fr e0 hf, e1⟩
theorem RXc.o (hX : RXc h M a b dr) : (h.2 40 = cX a b dr ∧ ((a = 144 ∧ b = 148) ∨ (a = 148 ∧ b = 144))) := hX.1
theorem RXc.s (hX : RXc h M a b dr) : (RS h 41 (mS M) ∧ Sok (mS M)) := hX.2.1
theorem RXc.z (hX : RXc h M a b dr) : (∃ τ, RS h 45 τ) := hX.2.2.1
theorem RXc.p (hX : RXc h M a b dr) : RPm h (mU M) (mK M) := hX.2.2.2.1
theorem RXc.t (hX : RXc h M a b dr) : (∃ wd wz, RT h 129 (mT M).1 (mT M).2 wd wz) := hX.2.2.2.2.1
theorem RXc.d (hX : RXc h M a b dr) : (RD h 131 (mD M).1 (mD M).2 ∧ (mD M).1 ≤ 16) := hX.2.2.2.2.2.1
theorem RXc.k (hX : RXc h M a b dr) : RK h 133 := hX.2.2.2.2.2.2.1
theorem RXc.f (hX : RXc h M a b dr) : (RC h 136 10 (mF M).1 (mF M).2.1 (mF M).2.2 ∧ ∀ i, i < (mF M).1 → (mF M).2.1 i < 10 ∧ (mF M).2.2 i < 4) := hX.2.2.2.2.2.2.2.1
theorem RXc.hr (hX : RXc h M a b dr) : (RC h 139 12 (mH M).1 (mH M).2.1 (mH M).2.2 ∧ ∀ i, i < (mH M).1 → (mH M).2.1 i ≤ 3 ∧ (mH M).2.2 i ≤ 9 ∧ ((mH M).2.1 i = 1 → (mH M).2.2 i < 4)) := hX.2.2.2.2.2.2.2.2.1
theorem RXc.y (hX : RXc h M a b dr) : (∃ t, h.2 142 = aI 4 t) := hX.2.2.2.2.2.2.2.2.2.1
theorem RXc.l (hX : RXc h M a b dr) : (∃ t, h.2 143 = aI 5 t) := hX.2.2.2.2.2.2.2.2.2.2.1
theorem RXc.r (hX : RXc h M a b dr) : (RF h a (mL M) ∧ Cok (mL M)) := hX.2.2.2.2.2.2.2.2.2.2.2.1
theorem RXc.u (hX : RXc h M a b dr) : RU0 h b := hX.2.2.2.2.2.2.2.2.2.2.2.2.1
theorem RXc.c (hX : RXc h M a b dr) : RO h := hX.2.2.2.2.2.2.2.2.2.2.2.2.2
theorem RXc.pS (hX : RXc h M a b dr) {σ : Sg} (hn : RS h' 41 σ) (hs : Sok σ) (hf : ∀ x, (x < 41 ∨ 45 ≤ x) → h'.2 x = h.2 x) : RXc h' (pS M σ) a b dr := by
  have hab := hX.o.2
  exact ⟨⟨(hf 40 (by omega)).trans hX.o.1, hX.o.2⟩, ⟨hn, hs⟩, ⟨hX.z.choose, RS_fr hX.z.choose_spec (fun x _ _ => hf x (by omega))⟩, RPm_fr hX.p (fun x _ _ => hf x (by omega)), ⟨hX.t.choose, hX.t.choose_spec.choose, RT_fr hX.t.choose_spec.choose_spec (fun x _ _ => hf x (by omega))⟩, ⟨RD_fr hX.d.1 (fun x _ _ => hf x (by omega)), hX.d.2⟩, RK_fr hX.k (fun x _ _ => hf x (by omega)), ⟨RC_fr hX.f.1 (fun x _ _ => hf x (by omega)), hX.f.2⟩, ⟨RC_fr hX.hr.1 (fun x _ _ => hf x (by omega)), hX.hr.2⟩, ⟨hX.y.choose, (hf 142 (by omega)).trans hX.y.choose_spec⟩, ⟨hX.l.choose, (hf 143 (by omega)).trans hX.l.choose_spec⟩, ⟨RF_fr hX.r.1 (fun x _ _ => hf x (by omega)), hX.r.2⟩, RU0_fr hX.u (fun x _ _ => hf x (by omega)), RO_fr hX.c (fun x _ => hf x (by omega))⟩
theorem RXc.pZ (hX : RXc h M a b dr) {τ : Sg} (hn : RS h' 45 τ) (hf : ∀ x, (x < 45 ∨ 49 ≤ x) → h'.2 x = h.2 x) : RXc h' M a b dr := by
  have hab := hX.o.2
  exact ⟨⟨(hf 40 (by omega)).trans hX.o.1, hX.o.2⟩, ⟨RS_fr hX.s.1 (fun x _ _ => hf x (by omega)), hX.s.2⟩, ⟨τ, hn⟩, RPm_fr hX.p (fun x _ _ => hf x (by omega)), ⟨hX.t.choose, hX.t.choose_spec.choose, RT_fr hX.t.choose_spec.choose_spec (fun x _ _ => hf x (by omega))⟩, ⟨RD_fr hX.d.1 (fun x _ _ => hf x (by omega)), hX.d.2⟩, RK_fr hX.k (fun x _ _ => hf x (by omega)), ⟨RC_fr hX.f.1 (fun x _ _ => hf x (by omega)), hX.f.2⟩, ⟨RC_fr hX.hr.1 (fun x _ _ => hf x (by omega)), hX.hr.2⟩, ⟨hX.y.choose, (hf 142 (by omega)).trans hX.y.choose_spec⟩, ⟨hX.l.choose, (hf 143 (by omega)).trans hX.l.choose_spec⟩, ⟨RF_fr hX.r.1 (fun x _ _ => hf x (by omega)), hX.r.2⟩, RU0_fr hX.u (fun x _ _ => hf x (by omega)), RO_fr hX.c (fun x _ => hf x (by omega))⟩
theorem RXc.pP (hX : RXc h M a b dr) {U : List Sg} {Kk : Nat → Option Sg} (hn : RPm h' U Kk) (hf : ∀ x, (x < 49 ∨ 129 ≤ x) → h'.2 x = h.2 x) : RXc h' (pK (pU M U) Kk) a b dr := by
  have hab := hX.o.2
  exact ⟨⟨(hf 40 (by omega)).trans hX.o.1, hX.o.2⟩, ⟨RS_fr hX.s.1 (fun x _ _ => hf x (by omega)), hX.s.2⟩, ⟨hX.z.choose, RS_fr hX.z.choose_spec (fun x _ _ => hf x (by omega))⟩, hn, ⟨hX.t.choose, hX.t.choose_spec.choose, RT_fr hX.t.choose_spec.choose_spec (fun x _ _ => hf x (by omega))⟩, ⟨RD_fr hX.d.1 (fun x _ _ => hf x (by omega)), hX.d.2⟩, RK_fr hX.k (fun x _ _ => hf x (by omega)), ⟨RC_fr hX.f.1 (fun x _ _ => hf x (by omega)), hX.f.2⟩, ⟨RC_fr hX.hr.1 (fun x _ _ => hf x (by omega)), hX.hr.2⟩, ⟨hX.y.choose, (hf 142 (by omega)).trans hX.y.choose_spec⟩, ⟨hX.l.choose, (hf 143 (by omega)).trans hX.l.choose_spec⟩, ⟨RF_fr hX.r.1 (fun x _ _ => hf x (by omega)), hX.r.2⟩, RU0_fr hX.u (fun x _ _ => hf x (by omega)), RO_fr hX.c (fun x _ => hf x (by omega))⟩
theorem RXc.pT (hX : RXc h M a b dr) {n : Nat} {tx : Nat → Nat} {wd wz : Int32} (hn : RT h' 129 n tx wd wz) (hf : ∀ x, (x < 129 ∨ 131 ≤ x) → h'.2 x = h.2 x) : RXc h' (pT M (n, tx)) a b dr := by
  have hab := hX.o.2
  exact ⟨⟨(hf 40 (by omega)).trans hX.o.1, hX.o.2⟩, ⟨RS_fr hX.s.1 (fun x _ _ => hf x (by omega)), hX.s.2⟩, ⟨hX.z.choose, RS_fr hX.z.choose_spec (fun x _ _ => hf x (by omega))⟩, RPm_fr hX.p (fun x _ _ => hf x (by omega)), ⟨wd, wz, hn⟩, ⟨RD_fr hX.d.1 (fun x _ _ => hf x (by omega)), hX.d.2⟩, RK_fr hX.k (fun x _ _ => hf x (by omega)), ⟨RC_fr hX.f.1 (fun x _ _ => hf x (by omega)), hX.f.2⟩, ⟨RC_fr hX.hr.1 (fun x _ _ => hf x (by omega)), hX.hr.2⟩, ⟨hX.y.choose, (hf 142 (by omega)).trans hX.y.choose_spec⟩, ⟨hX.l.choose, (hf 143 (by omega)).trans hX.l.choose_spec⟩, ⟨RF_fr hX.r.1 (fun x _ _ => hf x (by omega)), hX.r.2⟩, RU0_fr hX.u (fun x _ _ => hf x (by omega)), RO_fr hX.c (fun x _ => hf x (by omega))⟩
theorem RXc.pD (hX : RXc h M a b dr) {m : Nat} {w : Nat → Int32} (hn : RD h' 131 m w) (hm : m ≤ 16) (hf : ∀ x, (x < 131 ∨ 133 ≤ x) → h'.2 x = h.2 x) : RXc h' (pD M (m, w)) a b dr := by
  have hab := hX.o.2
  exact ⟨⟨(hf 40 (by omega)).trans hX.o.1, hX.o.2⟩, ⟨RS_fr hX.s.1 (fun x _ _ => hf x (by omega)), hX.s.2⟩, ⟨hX.z.choose, RS_fr hX.z.choose_spec (fun x _ _ => hf x (by omega))⟩, RPm_fr hX.p (fun x _ _ => hf x (by omega)), ⟨hX.t.choose, hX.t.choose_spec.choose, RT_fr hX.t.choose_spec.choose_spec (fun x _ _ => hf x (by omega))⟩, ⟨hn, hm⟩, RK_fr hX.k (fun x _ _ => hf x (by omega)), ⟨RC_fr hX.f.1 (fun x _ _ => hf x (by omega)), hX.f.2⟩, ⟨RC_fr hX.hr.1 (fun x _ _ => hf x (by omega)), hX.hr.2⟩, ⟨hX.y.choose, (hf 142 (by omega)).trans hX.y.choose_spec⟩, ⟨hX.l.choose, (hf 143 (by omega)).trans hX.l.choose_spec⟩, ⟨RF_fr hX.r.1 (fun x _ _ => hf x (by omega)), hX.r.2⟩, RU0_fr hX.u (fun x _ _ => hf x (by omega)), RO_fr hX.c (fun x _ => hf x (by omega))⟩
theorem RXc.pKL (hX : RXc h M a b dr) (hn : RK h' 133) (hf : ∀ x, (x < 133 ∨ 136 ≤ x) → h'.2 x = h.2 x) : RXc h' M a b dr := by
  have hab := hX.o.2
  exact ⟨⟨(hf 40 (by omega)).trans hX.o.1, hX.o.2⟩, ⟨RS_fr hX.s.1 (fun x _ _ => hf x (by omega)), hX.s.2⟩, ⟨hX.z.choose, RS_fr hX.z.choose_spec (fun x _ _ => hf x (by omega))⟩, RPm_fr hX.p (fun x _ _ => hf x (by omega)), ⟨hX.t.choose, hX.t.choose_spec.choose, RT_fr hX.t.choose_spec.choose_spec (fun x _ _ => hf x (by omega))⟩, ⟨RD_fr hX.d.1 (fun x _ _ => hf x (by omega)), hX.d.2⟩, hn, ⟨RC_fr hX.f.1 (fun x _ _ => hf x (by omega)), hX.f.2⟩, ⟨RC_fr hX.hr.1 (fun x _ _ => hf x (by omega)), hX.hr.2⟩, ⟨hX.y.choose, (hf 142 (by omega)).trans hX.y.choose_spec⟩, ⟨hX.l.choose, (hf 143 (by omega)).trans hX.l.choose_spec⟩, ⟨RF_fr hX.r.1 (fun x _ _ => hf x (by omega)), hX.r.2⟩, RU0_fr hX.u (fun x _ _ => hf x (by omega)), RO_fr hX.c (fun x _ => hf x (by omega))⟩
theorem RXc.pF (hX : RXc h M a b dr) {k : Nat} {F G : Nat → Nat} (hn : RC h' 136 10 k F G) (hk : ∀ i, i < k → F i < 10 ∧ G i < 4) (hf : ∀ x, (x < 136 ∨ 139 ≤ x) → h'.2 x = h.2 x) : RXc h' (pF M (k, F, G)) a b dr := by
  have hab := hX.o.2
  exact ⟨⟨(hf 40 (by omega)).trans hX.o.1, hX.o.2⟩, ⟨RS_fr hX.s.1 (fun x _ _ => hf x (by omega)), hX.s.2⟩, ⟨hX.z.choose, RS_fr hX.z.choose_spec (fun x _ _ => hf x (by omega))⟩, RPm_fr hX.p (fun x _ _ => hf x (by omega)), ⟨hX.t.choose, hX.t.choose_spec.choose, RT_fr hX.t.choose_spec.choose_spec (fun x _ _ => hf x (by omega))⟩, ⟨RD_fr hX.d.1 (fun x _ _ => hf x (by omega)), hX.d.2⟩, RK_fr hX.k (fun x _ _ => hf x (by omega)), ⟨hn, hk⟩, ⟨RC_fr hX.hr.1 (fun x _ _ => hf x (by omega)), hX.hr.2⟩, ⟨hX.y.choose, (hf 142 (by omega)).trans hX.y.choose_spec⟩, ⟨hX.l.choose, (hf 143 (by omega)).trans hX.l.choose_spec⟩, ⟨RF_fr hX.r.1 (fun x _ _ => hf x (by omega)), hX.r.2⟩, RU0_fr hX.u (fun x _ _ => hf x (by omega)), RO_fr hX.c (fun x _ => hf x (by omega))⟩
theorem RXc.pH (hX : RXc h M a b dr) {k : Nat} {F G : Nat → Nat} (hn : RC h' 139 12 k F G) (hk : ∀ i, i < k → F i ≤ 3 ∧ G i ≤ 9 ∧ (F i = 1 → G i < 4)) (hf : ∀ x, (x < 139 ∨ 142 ≤ x) → h'.2 x = h.2 x) : RXc h' (pH M (k, F, G)) a b dr := by
  have hab := hX.o.2
  exact ⟨⟨(hf 40 (by omega)).trans hX.o.1, hX.o.2⟩, ⟨RS_fr hX.s.1 (fun x _ _ => hf x (by omega)), hX.s.2⟩, ⟨hX.z.choose, RS_fr hX.z.choose_spec (fun x _ _ => hf x (by omega))⟩, RPm_fr hX.p (fun x _ _ => hf x (by omega)), ⟨hX.t.choose, hX.t.choose_spec.choose, RT_fr hX.t.choose_spec.choose_spec (fun x _ _ => hf x (by omega))⟩, ⟨RD_fr hX.d.1 (fun x _ _ => hf x (by omega)), hX.d.2⟩, RK_fr hX.k (fun x _ _ => hf x (by omega)), ⟨RC_fr hX.f.1 (fun x _ _ => hf x (by omega)), hX.f.2⟩, ⟨hn, hk⟩, ⟨hX.y.choose, (hf 142 (by omega)).trans hX.y.choose_spec⟩, ⟨hX.l.choose, (hf 143 (by omega)).trans hX.l.choose_spec⟩, ⟨RF_fr hX.r.1 (fun x _ _ => hf x (by omega)), hX.r.2⟩, RU0_fr hX.u (fun x _ _ => hf x (by omega)), RO_fr hX.c (fun x _ => hf x (by omega))⟩
theorem RXc.pY (hX : RXc h M a b dr) {t : Nat → Int32} (hn : h'.2 142 = aI 4 t) (hf : ∀ x, ¬ x = 142 → h'.2 x = h.2 x) : RXc h' M a b dr := by
  have hab := hX.o.2
  exact ⟨⟨(hf 40 (by omega)).trans hX.o.1, hX.o.2⟩, ⟨RS_fr hX.s.1 (fun x _ _ => hf x (by omega)), hX.s.2⟩, ⟨hX.z.choose, RS_fr hX.z.choose_spec (fun x _ _ => hf x (by omega))⟩, RPm_fr hX.p (fun x _ _ => hf x (by omega)), ⟨hX.t.choose, hX.t.choose_spec.choose, RT_fr hX.t.choose_spec.choose_spec (fun x _ _ => hf x (by omega))⟩, ⟨RD_fr hX.d.1 (fun x _ _ => hf x (by omega)), hX.d.2⟩, RK_fr hX.k (fun x _ _ => hf x (by omega)), ⟨RC_fr hX.f.1 (fun x _ _ => hf x (by omega)), hX.f.2⟩, ⟨RC_fr hX.hr.1 (fun x _ _ => hf x (by omega)), hX.hr.2⟩, ⟨t, hn⟩, ⟨hX.l.choose, (hf 143 (by omega)).trans hX.l.choose_spec⟩, ⟨RF_fr hX.r.1 (fun x _ _ => hf x (by omega)), hX.r.2⟩, RU0_fr hX.u (fun x _ _ => hf x (by omega)), RO_fr hX.c (fun x _ => hf x (by omega))⟩
theorem RXc.pLR (hX : RXc h M a b dr) {t : Nat → Int32} (hn : h'.2 143 = aI 5 t) (hf : ∀ x, ¬ x = 143 → h'.2 x = h.2 x) : RXc h' M a b dr := by
  have hab := hX.o.2
  exact ⟨⟨(hf 40 (by omega)).trans hX.o.1, hX.o.2⟩, ⟨RS_fr hX.s.1 (fun x _ _ => hf x (by omega)), hX.s.2⟩, ⟨hX.z.choose, RS_fr hX.z.choose_spec (fun x _ _ => hf x (by omega))⟩, RPm_fr hX.p (fun x _ _ => hf x (by omega)), ⟨hX.t.choose, hX.t.choose_spec.choose, RT_fr hX.t.choose_spec.choose_spec (fun x _ _ => hf x (by omega))⟩, ⟨RD_fr hX.d.1 (fun x _ _ => hf x (by omega)), hX.d.2⟩, RK_fr hX.k (fun x _ _ => hf x (by omega)), ⟨RC_fr hX.f.1 (fun x _ _ => hf x (by omega)), hX.f.2⟩, ⟨RC_fr hX.hr.1 (fun x _ _ => hf x (by omega)), hX.hr.2⟩, ⟨hX.y.choose, (hf 142 (by omega)).trans hX.y.choose_spec⟩, ⟨t, hn⟩, ⟨RF_fr hX.r.1 (fun x _ _ => hf x (by omega)), hX.r.2⟩, RU0_fr hX.u (fun x _ _ => hf x (by omega)), RO_fr hX.c (fun x _ => hf x (by omega))⟩
theorem RXc.pR (hX : RXc h M a b dr) (hn : RF h' a (mL M)) (hf : ∀ x, (x < a ∨ a + 4 ≤ x) → h'.2 x = h.2 x) : RXc h' M a b dr := by
  have hab := hX.o.2
  exact ⟨⟨(hf 40 (by omega)).trans hX.o.1, hX.o.2⟩, ⟨RS_fr hX.s.1 (fun x _ _ => hf x (by omega)), hX.s.2⟩, ⟨hX.z.choose, RS_fr hX.z.choose_spec (fun x _ _ => hf x (by omega))⟩, RPm_fr hX.p (fun x _ _ => hf x (by omega)), ⟨hX.t.choose, hX.t.choose_spec.choose, RT_fr hX.t.choose_spec.choose_spec (fun x _ _ => hf x (by omega))⟩, ⟨RD_fr hX.d.1 (fun x _ _ => hf x (by omega)), hX.d.2⟩, RK_fr hX.k (fun x _ _ => hf x (by omega)), ⟨RC_fr hX.f.1 (fun x _ _ => hf x (by omega)), hX.f.2⟩, ⟨RC_fr hX.hr.1 (fun x _ _ => hf x (by omega)), hX.hr.2⟩, ⟨hX.y.choose, (hf 142 (by omega)).trans hX.y.choose_spec⟩, ⟨hX.l.choose, (hf 143 (by omega)).trans hX.l.choose_spec⟩, ⟨hn, hX.r.2⟩, RU0_fr hX.u (fun x _ _ => hf x (by omega)), RO_fr hX.c (fun x _ => hf x (by omega))⟩
theorem RXc.pU0 (hX : RXc h M a b dr) (hn : RU0 h' b) (hf : ∀ x, (x < b ∨ b + 4 ≤ x) → h'.2 x = h.2 x) : RXc h' M a b dr := by
  have hab := hX.o.2
  exact ⟨⟨(hf 40 (by omega)).trans hX.o.1, hX.o.2⟩, ⟨RS_fr hX.s.1 (fun x _ _ => hf x (by omega)), hX.s.2⟩, ⟨hX.z.choose, RS_fr hX.z.choose_spec (fun x _ _ => hf x (by omega))⟩, RPm_fr hX.p (fun x _ _ => hf x (by omega)), ⟨hX.t.choose, hX.t.choose_spec.choose, RT_fr hX.t.choose_spec.choose_spec (fun x _ _ => hf x (by omega))⟩, ⟨RD_fr hX.d.1 (fun x _ _ => hf x (by omega)), hX.d.2⟩, RK_fr hX.k (fun x _ _ => hf x (by omega)), ⟨RC_fr hX.f.1 (fun x _ _ => hf x (by omega)), hX.f.2⟩, ⟨RC_fr hX.hr.1 (fun x _ _ => hf x (by omega)), hX.hr.2⟩, ⟨hX.y.choose, (hf 142 (by omega)).trans hX.y.choose_spec⟩, ⟨hX.l.choose, (hf 143 (by omega)).trans hX.l.choose_spec⟩, ⟨RF_fr hX.r.1 (fun x _ _ => hf x (by omega)), hX.r.2⟩, hn, RO_fr hX.c (fun x _ => hf x (by omega))⟩
theorem RXc.pDr (hX : RXc h M a b dr) {dr' : Int32} (hn : h'.2 40 = cX a b dr') (hf : ∀ x, ¬ x = 40 → h'.2 x = h.2 x) : RXc h' M a b dr' := by
  have hab := hX.o.2
  exact ⟨⟨hn, hX.o.2⟩, ⟨RS_fr hX.s.1 (fun x _ _ => hf x (by omega)), hX.s.2⟩, ⟨hX.z.choose, RS_fr hX.z.choose_spec (fun x _ _ => hf x (by omega))⟩, RPm_fr hX.p (fun x _ _ => hf x (by omega)), ⟨hX.t.choose, hX.t.choose_spec.choose, RT_fr hX.t.choose_spec.choose_spec (fun x _ _ => hf x (by omega))⟩, ⟨RD_fr hX.d.1 (fun x _ _ => hf x (by omega)), hX.d.2⟩, RK_fr hX.k (fun x _ _ => hf x (by omega)), ⟨RC_fr hX.f.1 (fun x _ _ => hf x (by omega)), hX.f.2⟩, ⟨RC_fr hX.hr.1 (fun x _ _ => hf x (by omega)), hX.hr.2⟩, ⟨hX.y.choose, (hf 142 (by omega)).trans hX.y.choose_spec⟩, ⟨hX.l.choose, (hf 143 (by omega)).trans hX.l.choose_spec⟩, ⟨RF_fr hX.r.1 (fun x _ _ => hf x (by omega)), hX.r.2⟩, RU0_fr hX.u (fun x _ _ => hf x (by omega)), RO_fr hX.c (fun x _ => hf x (by omega))⟩
end
