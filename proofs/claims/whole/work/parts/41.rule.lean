/-! RULES: codes 0 .. 999 numbers, 1000 + i what is asked, 2000 + i what joins, 3000 less -/
def bnd (s : Nat) : Nat := if s = 60 ∨ s = 61 ∨ s = 62 then 1 else if s = 43 ∨ s = 45 then 2 else if s = 42 ∨ s = 47 then 3 else if s = 126 then 4 else 0
def trS (i : Nat) : Nat := [110, 99, 116, 102, 109, 100, 104].getD i 0
def trX (s : Nat) : Nat := if s = 110 then 0 else if s = 99 then 1 else if s = 116 then 2 else if s = 102 then 3 else if s = 109 then 4 else if s = 100 then 5 else 6
def trt (s : Nat) : Bool := s == 110 || s == 99 || s == 116 || s == 102 || s == 109 || s == 100 || s == 104
def opS (i : Nat) : Nat := [60, 62, 61, 43, 45, 42, 47].getD i 0
def opc (w : Nat) : Nat := if w = 60 then 2000 else if w = 62 then 2001 else if w = 61 then 2002 else if w = 43 then 2003 else if w = 45 then 2004 else if w = 42 then 2005 else if w = 47 then 2006 else 3000
/-- the class's step of a code -/
def stc (c : Nat) : Int32 := if c < 1000 then nI c else if c < 2000 then -(nI (trS (c - 1000))) else if c < 3000 then -(nI (opS (c - 2000))) else -126
/-- what waits and binds no less goes to the steps -/
def stl (b : Nat) : List Nat → List Nat → List Nat × List Nat
  | L, [] => (L, [])
  | L, w :: W => if b ≤ bnd w then stl b (opc w :: L) W else (L, w :: W)
abbrev Ru : Type := List Nat × List Nat × Nat × Nat × Nat × Bool
def clB (m k : Nat) : Nat := if m.testBit k then m - 2 ^ k else m
def stB (m k : Nat) : Nat := if m.testBit k then m else m + 2 ^ k
def tkD (s : Ru) (x : Nat) : Option Ru := match s with
  | (L, W, dep, dig, cmp, wt) => if wt then some (x :: L, W, dep, dig + 1, cmp, false) else if dig = 1 ∨ dig = 2 then (match L with
    | v :: L' => some ((v * 10 + x) :: L', W, dep, dig + 1, cmp, false)
    | [] => none) else none
def tkT (s : Ru) (x : Nat) : Option Ru := match s with
  | (L, W, dep, _, cmp, _) => if x = 45 then some (L, 126 :: W, dep, 0, cmp, true) else if x = 40 then (if 4 ≤ dep then none else some (L, 40 :: W, dep + 1, 0, clB cmp (dep + 1), true)) else if trt x then some ((1000 + trX x) :: L, W, dep, 0, cmp, false) else none
def tkO (s : Ru) (x : Nat) : Option Ru := match s with
  | (L, W, dep, _, cmp, _) => if x = 41 then (if dep = 0 then none else some ((stl 1 L W).1, (stl 1 L W).2.tail, dep - 1, 0, cmp, false)) else if bnd x = 0 ∨ bnd x = 4 then none else if bnd x = 1 then (if cmp.testBit dep then none else some ((stl 1 L W).1, x :: (stl 1 L W).2, dep, 0, stB cmp dep, true)) else some ((stl (bnd x) L W).1, x :: (stl (bnd x) L W).2, dep, 0, cmp, true)
def tk (s : Ru) (x : Nat) : Option Ru := if 48 ≤ x ∧ x ≤ 57 then tkD s (x - 48) else if s.2.2.2.2.2 then tkT s x else tkO s x
def Uok (s : Ru) (k : Nat) : Prop := s.1.length + s.2.1.length ≤ k ∧ s.2.2.1 ≤ 4 ∧ s.2.2.2.2.1 < 32 ∧ s.2.1.count 40 = s.2.2.1 ∧ (∀ w ∈ s.2.1, w < 256 ∧ (w = 40 ∨ 1 ≤ bnd w)) ∧ s.2.2.2.1 ≤ 3 ∧ (1 ≤ s.2.2.2.1 → ∃ v L', s.1 = v :: L' ∧ v < 10 ^ s.2.2.2.1) ∧ (s.2.2.2.2.2 = true → s.2.2.2.1 = 0)
/-- a list, its first one on top, in an array -/
def Ar {α : Type} (g : Nat → Int32) (v : α → Int32) (L : List α) : Prop := ∀ j x, L[j]? = some x → g (L.length - 1 - j) = v x
theorem Ar_nil {α : Type} {g : Nat → Int32} {v : α → Int32} : Ar g v [] := fun j x h => by cases j <;> cases h
theorem Ar_pop {α : Type} {g : Nat → Int32} {v : α → Int32} {x : α} {L : List α} (h : Ar g v (x :: L)) : Ar g v L := fun j y hy => by
  have := h (j + 1) y hy
  rw [List.length_cons, show L.length + 1 - 1 - (j + 1) = L.length - 1 - j by omega] at this
  exact this
theorem Ar_top {α : Type} {g : Nat → Int32} {v : α → Int32} {x : α} {L : List α} (h : Ar g v (x :: L)) : g L.length = v x := by
  have := h 0 x rfl
  rw [List.length_cons, show L.length + 1 - 1 - 0 = L.length by omega] at this
  exact this
theorem Ar_push {α : Type} {g : Nat → Int32} {v : α → Int32} {x : α} {L : List α} {y : Int32} (h : Ar g v L) (hy : y = v x) : Ar (upd g L.length y) v (x :: L) := fun j z hz => by
  rw [List.length_cons]
  cases j with
  | zero =>
    have e : x = z := by simpa using hz
    rw [show L.length + 1 - 1 - 0 = L.length by omega, upd_s, hy, e]
  | succ j =>
    have hj : L[j]? = some z := by simpa using hz
    have hl : j < L.length := by
      rw [List.getElem?_eq_some_iff] at hj
      exact hj.1
    rw [show L.length + 1 - 1 - (j + 1) = L.length - 1 - j by omega, upd_n (by omega)]
    exact h j z hj
abbrev aC (n : Nat) (g : Nat → Int32) : am_C := .inl (.char, n, .inl g)
abbrev cU (p : Nat) (a b c d e z f : Int32) : am_C := .inr (3, [.ref (p + 1), .ref (p + 2), .ref (p + 3), .int a, .int b, .int c, .int d, .int e, .int z, .int f])
def bI (b : Bool) : Int32 := if b then 1 else 0
/-- g2: the stack and its height -/
def RU (h : am_H) (p : Nat) (s : Ru) : Prop := ∃ (g1 : Nat → Int32) (g2 : (Nat → Int32) × Int32) (g3 : Nat → Int32), h.2 p = cU p (nI s.1.length) (nI s.2.1.length) (nI s.2.2.1) (nI s.2.2.2.1) (nI s.2.2.2.2.1) g2.2 (bI s.2.2.2.2.2) ∧ h.2 (p + 1) = aI 40 g1 ∧ h.2 (p + 2) = aI 40 g2.1 ∧ h.2 (p + 3) = aC 40 g3 ∧ Ar g1 stc s.1 ∧ Ar g3 nI s.2.1
/-- a rule in force: its steps -/
def RF (h : am_H) (p : Nat) (L : List Nat) : Prop := ∃ (g1 : Nat → Int32) (g2 : (Nat → Int32) × Int32) (g3 : Nat → Int32) (b c d e f : Int32), h.2 p = cU p (nI L.length) b c d e g2.2 f ∧ h.2 (p + 1) = aI 40 g1 ∧ h.2 (p + 2) = aI 40 g2.1 ∧ h.2 (p + 3) = aC 40 g3 ∧ Ar g1 stc L
/-- some rule -/
def RU0 (h : am_H) (p : Nat) : Prop := ∃ (g1 : Nat → Int32) (g2 : (Nat → Int32) × Int32) (g3 : Nat → Int32) (a b c d e f : Int32), h.2 p = cU p a b c d e g2.2 f ∧ h.2 (p + 1) = aI 40 g1 ∧ h.2 (p + 2) = aI 40 g2.1 ∧ h.2 (p + 3) = aC 40 g3
theorem RU.f {h : am_H} {p : Nat} {s : Ru} (hR : RU h p s) : RF h p s.1 := by
  obtain ⟨g1, g2, g3, e0, e1, e2, e3, e4, e5⟩ := hR
  exact ⟨g1, g2, g3, _, _, _, _, _, e0, e1, e2, e3, e4⟩
theorem RF.z {h : am_H} {p : Nat} {L : List Nat} (hR : RF h p L) : RU0 h p := by
  obtain ⟨g1, g2, g3, b, c, d, e, f, e0, e1, e2, e3, e4⟩ := hR
  exact ⟨g1, g2, g3, _, _, _, _, _, _, e0, e1, e2, e3⟩
theorem bnd_sw : ∀ s, s < 256 → am_lsw 1 83 #[(42, 79), (43, 77), (45, 77), (47, 79), (60, 75), (61, 75), (62, 75), (126, 81)] (nI s) = if bnd s = 0 then 84 else 74 + 2 * bnd s := by decide +kernel
theorem bnd_le : ∀ s, s < 256 → bnd s ≤ 4 := by decide +kernel
section
variable {d : Nat} {h : am_H} {Q : Option Value → am_H → Prop} {p : Nat}
theorem RF_fr {L : List Nat} {h' : am_H} (hR : RF h p L) (hf : ∀ x, p ≤ x → x < p + 4 → h'.2 x = h.2 x) : RF h' p L := by
  obtain ⟨g1, g2, g3, b, c, d, e, f, e0, e1, e2, e3, e4⟩ := hR
  exact ⟨g1, g2, g3, b, c, d, e, f, (hf _ (by omega) (by omega)).trans e0, (hf _ (by omega) (by omega)).trans e1, (hf _ (by omega) (by omega)).trans e2, (hf _ (by omega) (by omega)).trans e3, e4⟩
theorem RU0_fr {h' : am_H} (hR : RU0 h p) (hf : ∀ x, p ≤ x → x < p + 4 → h'.2 x = h.2 x) : RU0 h' p := by
  obtain ⟨g1, g2, g3, a, b, c, d, e, f, e0, e1, e2, e3⟩ := hR
  exact ⟨g1, g2, g3, a, b, c, d, e, f, (hf _ (by omega) (by omega)).trans e0, (hf _ (by omega) (by omega)).trans e1, (hf _ (by omega) (by omega)).trans e2, (hf _ (by omega) (by omega)).trans e3⟩
theorem U_binding {s : Nat} (hs : s < 256) (hQ : Q (some (.int (nI (bnd s)))) h) : am_call (d + 1) 72 [.int (nI s)] h Q := by
  refine en_X6_binding (Nat.le_of_ble_eq_true rfl) (am_run (am_cK _) 2 ?_)
  refine (show am_wp _ _ cm_X6_binding _ _ (am_lsw 1 83 #[(42, 79), (43, 77), (45, 77), (47, 79), (60, 75), (61, 75), (62, 75), (126, 81)] (nI s), _, _, _, _) h from ?_)
  rw [bnd_sw s hs]
  have hb := bnd_le s hs
  generalize bnd s = b at hb hQ ⊢
  rcases (by omega : b = 0 ∨ b = 1 ∨ b = 2 ∨ b = 3 ∨ b = 4) with e | e | e | e | e <;> subst e <;> exact am_run (am_cK _) 2 hQ
theorem U_isTrait {s : Nat} (hs : s < 256) (hQ : Q (some (.int (bI (trt s)))) h) : am_call (d + 1) 73 [.int (nI s)] h Q := by
  have step : ∀ k, k < 256 → ∀ {a b : Prop}, (s = k → a) → (¬ s = k → b) → (nI s = nI k → a) ∧ (¬ nI s = nI k → b) := fun k hk a b h1 h2 => ⟨fun c => h1 ((nI_eq (by omega) (by omega)).mp c), fun c => h2 (fun z => c (by rw [z]))⟩
  have yes : trt s = true → am_wp (am_call d) (0, 0) cm_X6_isTrait Q (fun _ => False) (42, [some (.int (nI s))], [], 0, 0) h := fun z => by
    rw [z] at hQ
    exact am_run (am_cK _) 3 ⟨Or.inr rfl, hQ⟩
  refine en_X6_isTrait (Nat.le_of_ble_eq_true rfl) (am_run (am_cK _) 3 (step 110 (by omega) (fun e => yes (by rw [e]; decide)) (fun c1 => ?_)))
  refine am_run (am_cK _) 3 (step 99 (by omega) (fun e => yes (by rw [e]; decide)) (fun c2 => ?_))
  refine am_run (am_cK _) 3 (step 116 (by omega) (fun e => yes (by rw [e]; decide)) (fun c3 => ?_))
  refine am_run (am_cK _) 3 (step 102 (by omega) (fun e => yes (by rw [e]; decide)) (fun c4 => ?_))
  refine am_run (am_cK _) 3 (step 109 (by omega) (fun e => yes (by rw [e]; decide)) (fun c5 => ?_))
  refine am_run (am_cK _) 3 (step 100 (by omega) (fun e => yes (by rw [e]; decide)) (fun c6 => ?_))
  refine am_run (am_cK _) 3 ⟨fun c => ?_, fun c => ?_⟩
  · have c7 : ¬ s = 104 := fun z => c (by rw [z]; rfl)
    have hno : trt s = false := by
      unfold trt
      simp [c1, c2, c3, c4, c5, c6, c7]
    rw [hno] at hQ
    exact am_run (am_cK _) 2 ⟨Or.inl rfl, hQ⟩
  · have c7 : s = 104 := (nI_eq (by omega) (by omega)).mp (Classical.not_not.mp c)
    exact yes (by rw [c7]; decide)
theorem U_addStep {L W : List Nat} {dep dig cmp : Nat} {wt : Bool} {c : Nat} (hR : RU h p (L, W, dep, dig, cmp, wt)) (hl : L.length < 40) {y : Int32} (hy : y = stc c) (hQ : ∀ h', AgN p 4 h h' → RU h' p (c :: L, W, dep, dig, cmp, wt) → Q none h') : am_call (d + 1) 70 [.ref p, .int y] h Q := by
  obtain ⟨g1, g2, g3, e0, e1, e2, e3, e4, e5⟩ := hR
  refine en_X6_addStep (Nat.le_of_ble_eq_true rfl) (am_run (am_cK _) 2 (am_obj_in e0 (am_run (am_cK _) 2 ⟨fun c => absurd c (nI_ge (b := 40) hl (by omega)), fun _ => ?_⟩)))
  refine am_run (am_cK _) 2 (am_obj_in e0 (am_run (am_cK _) 2 (am_obj_in e0 (am_run (am_cK _) 2 (am_ari_in e1 ⟨vp_in_nI hl (by omega), ?_⟩)))))
  rw [show (nI (L, W, dep, dig, cmp, wt).1.length).toNatClampNeg = L.length from (nI_clamp (show L.length < 2 ^ 31 by omega))]
  have f0 := (as_n (h := h) (p := p + 1) (q := p) (c := aI 40 (upd g1 L.length y)) (by omega)).trans e0
  refine am_run (am_cK _) 3 (am_obj_in f0 (am_run (am_cK _) 3 (am_obj_in f0 (am_run (am_cK _) 1 ?_))))
  refine hQ _ ((AgN.set (by omega)).trans (AgN.set (by omega))) ⟨upd g1 L.length y, g2, g3, ?_, (as_n (by omega)).trans as_s, (as_n (by omega)).trans ((as_n (by omega)).trans e2), (as_n (by omega)).trans ((as_n (by omega)).trans e3), Ar_push e4 hy, e5⟩
  rw [as_s]
  show _ = cU p (nI (L.length + 1)) _ _ _ _ _ _
  unfold cU
  rw [nI_succ]
  rfl
theorem U_addWaiting {L W : List Nat} {dep dig cmp : Nat} {wt : Bool} {c : Nat} (hR : RU h p (L, W, dep, dig, cmp, wt)) (hl : W.length < 40) (hc : c < 256) (hQ : ∀ h', AgN p 4 h h' → RU h' p (L, c :: W, dep, dig, cmp, wt) → Q none h') : am_call (d + 1) 71 [.ref p, .int (nI c)] h Q := by
  obtain ⟨g1, g2, g3, e0, e1, e2, e3, e4, e5⟩ := hR
  refine en_X6_addWaiting (Nat.le_of_ble_eq_true rfl) (am_run (am_cK _) 2 (am_obj_in e0 (am_run (am_cK _) 2 ⟨fun c => absurd c (nI_ge (b := 40) hl (by omega)), fun _ => ?_⟩)))
  refine am_run (am_cK _) 2 (am_obj_in e0 (am_run (am_cK _) 2 (am_obj_in e0 (am_run (am_cK _) 2 (am_ari_in e3 ⟨vp_in_nI hl (by omega), ?_⟩)))))
  have e9 : vp_nar .char (nI c) = nI c := (by decide +kernel : ∀ c, c < 256 → vp_nar .char (nI c) = nI c) c hc
  rw [show (nI (L, W, dep, dig, cmp, wt).2.1.length).toNatClampNeg = W.length from (nI_clamp (show W.length < 2 ^ 31 by omega)), e9]
  have f0 := (as_n (h := h) (p := p + 3) (q := p) (c := aC 40 (upd g3 W.length (nI c))) (by omega)).trans e0
  refine am_run (am_cK _) 3 (am_obj_in f0 (am_run (am_cK _) 3 (am_obj_in f0 (am_run (am_cK _) 1 ?_))))
  refine hQ _ ((AgN.set (by omega)).trans (AgN.set (by omega))) ⟨g1, g2, upd g3 W.length (nI c), ?_, (as_n (by omega)).trans ((as_n (by omega)).trans e1), (as_n (by omega)).trans ((as_n (by omega)).trans e2), (as_n (by omega)).trans as_s, e4, Ar_push e5 rfl⟩
  rw [as_s]
  show _ = cU p _ (nI (W.length + 1)) _ _ _ _ _
  unfold cU
  rw [nI_succ]
  rfl
theorem opc_stc : ∀ w, w < 256 → 1 ≤ bnd w → stc (opc w) = -(nI w) := by decide +kernel
theorem nar_c : ∀ c, c < 256 → vp_nar .char (nI c) = nI c := by decide +kernel
theorem U_settleDownTo {b : Nat} (hb1 : 1 ≤ b) (hb : b ≤ 4) {dep dig cmp : Nat} {wt : Bool} : ∀ {L W : List Nat} {Q : Option Value → am_H → Prop} {h : am_H}, RU h p (L, W, dep, dig, cmp, wt) → L.length + W.length ≤ 40 → (∀ w ∈ W, w < 256) → (∀ h', AgN p 4 h h' → RU h' p ((stl b L W).1, (stl b L W).2, dep, dig, cmp, wt) → Q none h') → am_call (d + 2) 69 [.ref p, .int (nI b)] h Q := by
  intro L W Q h hR hl hW hQ
  obtain ⟨g1, g2, g3, e0, e1, e2, e3, e4, e5⟩ := id hR
  refine en_X6_settleDownTo (Nat.le_of_ble_eq_true rfl) (am_run (am_cK _) 2 (am_obj_in e0 (am_run (am_cK _) 3 ?_)))
  clear e0 e1 e2 e3 e4 e5
  refine (show am_wp (am_call (d + 1)) (0, 0) cm_X6_settleDownTo Q (fun _ => False) (7, [some (.ref p), some (.int (nI b)), some (.int (nI W.length - 1))], [], 0, 0) h from ?_)
  clear g1 g2 g3
  suffices H : ∀ W L h', AgN p 4 h h' → RU h' p (L, W, dep, dig, cmp, wt) → L.length + W.length ≤ 40 → (∀ w ∈ W, w < 256) → (∀ h', AgN p 4 h h' → RU h' p ((stl b L W).1, (stl b L W).2, dep, dig, cmp, wt) → Q none h') → am_wp (am_call (d + 1)) (0, 0) cm_X6_settleDownTo Q (fun _ => False) (7, [some (.ref p), some (.int (nI b)), some (.int (nI W.length - 1))], [], 0, 0) h' from H W L h AgN.rf hR hl hW hQ
  clear hR hl hW hQ L W
  intro W
  induction W with
  | nil =>
    intro L h' ha hR hl hW hQ
    exact am_run (am_cK _) 2 ⟨fun _ => am_run (am_cK _) 1 (hQ h' ha hR), fun c => absurd (show nI 0 - 1 < 0 by decide) c⟩
  | cons w W ih =>
    intro L h' ha hR hl hW hQ
    obtain ⟨g1, g2, g3, e0, e1, e2, e3, e4, e5⟩ := id hR
    have hw : w < 256 := hW w List.mem_cons_self
    have hlen : L.length + (W.length + 1) ≤ 40 := hl
    have hbw := bnd_le w hw
    have e9 : nI (w :: W).length - 1 = nI W.length := pk_sub (a := W.length + 1) (b := 1) (by omega)
    rw [e9]
    rw [stl] at hQ
    refine am_run (am_cK _) 2 ⟨fun c => absurd c (nI_pos (by omega)), fun _ => ?_⟩
    refine am_run (am_cK _) 2 (am_obj_in e0 (am_run (am_cK _) 2 (am_ari_in e3 ⟨vp_in_nI (by omega) (by omega), ?_⟩)))
    rw [nI_clamp (by omega), Ar_top e5]
    refine am_run (am_cK _) 1 (U_binding hw ?_)
    refine am_run (am_cK _) 2 ⟨fun c => ?_, fun c => ?_⟩
    · have hc : ¬ b ≤ bnd w := fun z => nI_nlt z (by omega) c
      rw [if_neg hc] at hQ
      exact am_run (am_cK _) 1 (hQ h' ha hR)
    · have hc : b ≤ bnd w := Nat.le_of_not_lt (fun z => c ((nI_ltI (by omega) (by omega)).mpr z))
      rw [if_pos hc] at hQ
      refine am_run (am_cK _) 3 (am_obj_in e0 (am_run (am_cK _) 2 (am_ari_in e3 ⟨vp_in_nI (by omega) (by omega), ?_⟩)))
      rw [nI_clamp (by omega), Ar_top e5]
      refine am_run (am_cK _) 2 (am_obj_in e0 (U_addStep hR (by omega) (c := opc w) (opc_stc w hw (by omega)).symm (fun h2 ha2 hR2 => ?_)))
      obtain ⟨k1, k2, k3, f0, f1, f2, f3, f4, f5⟩ := hR2
      refine am_run (am_cK _) 3 (am_obj_in f0 (am_run (am_cK _) 3 (am_obj_in f0 ?_)))
      have zz := ih (opc w :: L) (am_set h2 p (cU p (nI (L.length + 1)) (nI W.length) (nI dep) (nI dig) (nI cmp) k2.2 (bI wt))) (ha.trans (ha2.trans (AgN.set (by omega)))) ⟨k1, k2, k3, as_s, (as_n (by omega)).trans f1, (as_n (by omega)).trans f2, (as_n (by omega)).trans f3, f4, Ar_pop f5⟩ (by rw [List.length_cons]; omega) (fun w' hw' => hW w' (List.mem_cons_of_mem _ hw')) hQ
      refine am_run (am_cK _) 2 (show am_wp (am_call (d + 1)) (0, 0) cm_X6_settleDownTo Q (fun _ => False) (7, [some (.ref p), some (.int (nI b)), some (.int (nI W.length + (-1)))], [], 0, 0) (am_set h2 p (cU p (nI (L.length + 1)) (nI (w :: W).length - 1) (nI dep) (nI dig) (nI cmp) k2.2 (bI wt))) from ?_)
      rw [e9, show nI W.length + (-1) = nI W.length - 1 from (Int32.sub_eq_add_neg _ _).symm]
      exact zz
end
