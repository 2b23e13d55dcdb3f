theorem n10 : ¬ (1 : Int32) = 0 := by decide
/-! a stall: how many bracelets, their sizes, their beads, the stock, the purse -/
abbrev Sg : Type := Nat × (Nat → Nat) × (Nat → Nat → Nat) × (Nat → Nat) × Nat
abbrev sN (σ : Sg) : Nat := σ.1
abbrev sZ (σ : Sg) : Nat → Nat := σ.2.1
abbrev sB (σ : Sg) : Nat → Nat → Nat := σ.2.2.1
abbrev sK (σ : Sg) : Nat → Nat := σ.2.2.2.1
abbrev sP (σ : Sg) : Nat := σ.2.2.2.2
def Sok (σ : Sg) : Prop := sN σ ≤ 5 ∧ (∀ b, b < sN σ → 1 ≤ sZ σ b ∧ sZ σ b ≤ 10 ∧ ∀ i, i < sZ σ b → sB σ b i < 4) ∧ (∀ c, c < 4 → sK σ c ≤ 99) ∧ sP σ ≤ 9999
abbrev cS (p N P : Nat) : am_C := .inr (4, [.ref (p + 1), .ref (p + 2), .ref (p + 3), .int (nI N), .int (nI P)])
/-- the class's stall at p is σ -/
def RS (h : am_H) (p : Nat) (σ : Sg) : Prop := ∃ (r z k : Nat → Int32), h.2 p = cS p (sN σ) (sP σ) ∧ h.2 (p + 1) = aI 5 r ∧ h.2 (p + 2) = aI 5 z ∧ h.2 (p + 3) = aI 4 k ∧ (∀ b, b < sN σ → r b = nI (rk (sB σ b) (sZ σ b)) ∧ z b = nI (sZ σ b)) ∧ ∀ c, c < 4 → k c = nI (sK σ c)
/-- nothing but p .. p + 3 has changed -/
def Ag (p : Nat) (h h' : am_H) : Prop := h'.1 = h.1 ∧ ∀ q, (q < p ∨ p + 4 ≤ q) → h'.2 q = h.2 q
theorem Ag.rf {p : Nat} {h : am_H} : Ag p h h := ⟨rfl, fun _ _ => rfl⟩
theorem Ag.trans {p : Nat} {h h1 h2 : am_H} (a : Ag p h h1) (b : Ag p h1 h2) : Ag p h h2 := ⟨b.1.trans a.1, fun q hq => (b.2 q hq).trans (a.2 q hq)⟩
theorem Ag.set {p k : Nat} {h : am_H} {c : am_C} (hk : p ≤ k ∧ k < p + 4) : Ag p h (am_set h k c) := ⟨rfl, fun q hq => as_n (by omega)⟩
/-- one bracelet is another one -/
def setB (σ : Sg) (b n : Nat) (f : Nat → Nat) : Sg := (σ.1, va_up (sZ σ) b n, va_up (sB σ) b f, σ.2.2.2.1, σ.2.2.2.2)
def setK (σ : Sg) (k : Nat → Nat) : Sg := (σ.1, σ.2.1, σ.2.2.1, k, σ.2.2.2.2)
theorem setB_ok {σ : Sg} {b n : Nat} {f : Nat → Nat} (h : Sok σ) (h1 : 1 ≤ n) (h2 : n ≤ 10) (h3 : ∀ i, i < n → f i < 4) : Sok (setB σ b n f) := by
  refine ⟨h.1, fun b' hb' => ?_, h.2.2.1, h.2.2.2⟩
  show 1 ≤ va_up (sZ σ) b n b' ∧ va_up (sZ σ) b n b' ≤ 10 ∧ ∀ i, i < va_up (sZ σ) b n b' → va_up (sB σ) b f b' i < 4
  by_cases e : b' = b
  · rw [e, am_up_s, am_up_s]; exact ⟨h1, h2, h3⟩
  · rw [am_up_n e, am_up_n e]; exact h.2.1 b' hb'
section
variable {d : Nat} {h : am_H} {Q : Option Value → am_H → Prop} {p : Nat} {σ : Sg}
theorem S_lacks (hR : RS h p σ) (hs : Sok σ) (b : Int32) (h1 : (b < 0 ∨ nI (sN σ) ≤ b) → Q (some (.int 1)) h) (h2 : ∀ j, j < sN σ → b = nI j → Q (some (.int 0)) h) : am_call (d + 1) 79 [.ref p, .int b] h Q := by
  obtain ⟨r, z, k, e0, e1, e2, e3, e4, e5⟩ := hR
  have hN := hs.1
  refine en_X7_lacks (Nat.le_of_ble_eq_true rfl) (am_run (am_cK _) 2 ⟨fun a => ?_, fun a => ?_⟩)
  · exact am_run (am_cK _) 3 ⟨Or.inr rfl, h1 (Or.inl a)⟩
  · refine am_run (am_cK _) 4 (am_obj_in e0 ⟨fun c => ?_, fun c => ?_⟩)
    · obtain ⟨j, hj31, hj⟩ := nI_of a
      subst hj
      have hjN : j < sN σ := (nI_ltI (by omega) (by omega)).mp c
      exact am_run (am_cK _) 2 ⟨Or.inl rfl, h2 j hjN rfl⟩
    · exact am_run (am_cK _) 3 ⟨Or.inr rfl, h1 (Or.inr (Int32.not_lt.mp c))⟩
theorem S_lacksBead (hR : RS h p σ) (hs : Sok σ) (b i : Int32) (h1 : (b < 0 ∨ nI (sN σ) ≤ b) → Q (some (.int 1)) h) (h2 : ∀ j, j < sN σ → b = nI j → (i < 0 ∨ nI (sZ σ j) ≤ i) → Q (some (.int 1)) h) (h3 : ∀ j, j < sN σ → b = nI j → ∀ k, k < sZ σ j → i = nI k → Q (some (.int 0)) h) : am_call (d + 2) 80 [.ref p, .int b, .int i] h Q := by
  have hR0 := hR
  obtain ⟨r, z, k, e0, e1, e2, e3, e4, e5⟩ := hR
  have hN := hs.1
  refine en_X7_lacksBead (Nat.le_of_ble_eq_true rfl) (am_run (am_cK _) 3 (am_obj_in e0 (S_lacks hR0 hs b (fun c => ?_) (fun j hj e => ?_))))
  · exact am_run (am_cK _) 1 ⟨fun _ => am_run (am_cK _) 3 ⟨Or.inr rfl, h1 c⟩, fun c => absurd n10 c⟩
  · subst e
    have hz := hs.2.1 j hj
    refine am_run (am_cK _) 1 ⟨fun c => absurd rfl c, fun _ => ?_⟩
    refine am_run (am_cK _) 2 ⟨fun c => am_run (am_cK _) 3 ⟨Or.inr rfl, h2 j hj rfl (Or.inl c)⟩, fun c => ?_⟩
    refine am_run (am_cK _) 3 (am_obj_in e0 (am_run (am_cK _) 2 (am_rdi_in e2 ⟨vp_in_nI (by omega) (by omega), ?_⟩)))
    rw [nI_clamp (by omega), (e4 j hj).2]
    refine am_run (am_cK _) 1 ⟨fun c2 => ?_, fun c2 => ?_⟩
    · obtain ⟨x, hx31, hx⟩ := nI_of c
      subst hx
      exact am_run (am_cK _) 2 ⟨Or.inl rfl, h3 j hj rfl x ((nI_ltI (by omega) (by omega)).mp c2) rfl⟩
    · exact am_run (am_cK _) 3 ⟨Or.inr rfl, h2 j hj rfl (Or.inr (Int32.not_lt.mp c2))⟩
/-- rolled -/
def sRoll (σ : Sg) (b k : Int32) : Int32 × Sg := if b < 0 ∨ nI (sN σ) ≤ b ∨ k < 0 ∨ 99 < k then (-1, σ) else
  (nI (rol (sB σ b.toNatClampNeg) (sZ σ b.toNatClampNeg) k.toNatClampNeg 0), setB σ b.toNatClampNeg (sZ σ b.toNatClampNeg) (rol (sB σ b.toNatClampNeg) (sZ σ b.toNatClampNeg) k.toNatClampNeg))
/-- the row at b is written anew -/
theorem RS_row {r z k : Nat → Int32} {b n : Nat} {f : Nat → Nat} (e0 : h.2 p = cS p (sN σ) (sP σ)) (e2 : h.2 (p + 2) = aI 5 z) (e3 : h.2 (p + 3) = aI 4 k) (e4 : ∀ b, b < sN σ → r b = nI (rk (sB σ b) (sZ σ b)) ∧ z b = nI (sZ σ b)) (e5 : ∀ c, c < 4 → k c = nI (sK σ c)) (hn : sZ σ b = n) : RS (am_set h (p + 1) (aI 5 (upd r b (nI (rk f n))))) p (setB σ b n f) := by
  refine ⟨upd r b (nI (rk f n)), z, k, (as_n (by omega)).trans e0, as_s, (as_n (by omega)).trans e2, (as_n (by omega)).trans e3, fun b' hb' => ?_, e5⟩
  show upd r b (nI (rk f n)) b' = nI (rk (va_up (sB σ) b f b') (va_up (sZ σ) b n b')) ∧ z b' = nI (va_up (sZ σ) b n b')
  by_cases e : b' = b
  · subst e; rw [upd_s, am_up_s, am_up_s, (e4 b' hb').2, hn]; exact ⟨rfl, rfl⟩
  · rw [upd_n e, am_up_n e, am_up_n e]; exact e4 b' hb'
theorem S_roll (hR : RS h p σ) (hs : Sok σ) (b k : Int32) (hQ : ∀ h', Ag p h h' → RS h' p (sRoll σ b k).2 → Q (some (.int (sRoll σ b k).1)) h') : am_call (d + 3) 85 [.ref p, .int b, .int k] h Q := by
  have hR0 := hR
  obtain ⟨r, z, kk, e0, e1, e2, e3, e4, e5⟩ := hR
  have hN := hs.1
  have hno : (b < 0 ∨ nI (sN σ) ≤ b ∨ k < 0 ∨ 99 < k) → Q (some (.int (-1))) h := fun c => by
    have q := hQ h Ag.rf (by unfold sRoll; rw [if_pos c]; exact hR0)
    unfold sRoll at q
    rw [if_pos c] at q
    exact q
  refine en_X7_roll (Nat.le_of_ble_eq_true rfl) (am_run (am_cK _) 3 (am_obj_in e0 (S_lacks hR0 hs b (fun c => ?_) (fun j hj e => ?_))))
  · exact am_run (am_cK _) 1 ⟨fun _ => am_run (am_cK _) 2 (hno (c.elim Or.inl (fun z => Or.inr (Or.inl z)))), fun c => absurd n10 c⟩
  · subst e
    have hz := hs.2.1 j hj
    refine am_run (am_cK _) 1 ⟨fun c => absurd rfl c, fun _ => ?_⟩
    refine am_run (am_cK _) 2 ⟨fun c => am_run (am_cK _) 2 (hno (Or.inr (Or.inr (Or.inl c)))), fun c1 => ?_⟩
    refine am_run (am_cK _) 3 ⟨fun c2 => ?_, fun c2 => am_run (am_cK _) 2 (hno (Or.inr (Or.inr (Or.inr (Int32.not_le.mp c2)))))⟩
    obtain ⟨x, hx1, hx⟩ := nI_of c1
    subst hx
    have hx99 : x ≤ 99 := (nI_leI (b := 99) (by omega) (by omega)).mp c2
    have hyes : ¬ (nI j < 0 ∨ nI (sN σ) ≤ nI j ∨ nI x < 0 ∨ 99 < nI x) := by
      rintro (c | c | c | c)
      · exact nI_pos (by omega) c
      · exact nI_ge hj (by omega) c
      · exact nI_pos (by omega) c
      · exact nI_nlt (a := 99) (b := x) hx99 (by omega) c
    have q := hQ
    unfold sRoll at q
    rw [if_neg hyes, nI_clamp (by omega), nI_clamp (by omega)] at q
    refine am_run (am_cK _) 2 (am_obj_in e0 ?_)
    refine am_run (am_cK _) 3 (am_obj_in e0 ?_)
    refine am_run (am_cK _) 2 (am_rdi_in e1 ⟨vp_in_nI (by omega) (by omega), ?_⟩)
    rw [nI_clamp (by omega), (e4 j hj).1]
    refine am_run (am_cK _) 2 (am_obj_in e0 ?_)
    refine am_run (am_cK _) 2 (am_rdi_in e2 ⟨vp_in_nI (by omega) (by omega), ?_⟩)
    rw [nI_clamp (by omega), (e4 j hj).2]
    refine am_run (am_cK _) 2 (B_rolled (by omega) hz.2.1 (by omega) hz.2.2 ?_)
    refine am_run (am_cK _) 1 (am_ari_in e1 ⟨vp_in_nI (by omega) (by omega), ?_⟩)
    rw [nI_clamp (by omega)]
    have e0' : (am_set h (p + 1) (aI 5 (upd r j (nI (rk (rol (sB σ j) (sZ σ j) x) (sZ σ j)))))).2 p = cS p (sN σ) (sP σ) := (as_n (by omega)).trans e0
    refine am_run (am_cK _) 2 (am_obj_in e0' ?_)
    refine am_run (am_cK _) 2 (am_rdi_in as_s ⟨vp_in_nI (by omega) (by omega), ?_⟩)
    rw [nI_clamp (by omega), upd_s]
    refine am_run (am_cK _) 2 (am_obj_in e0' ?_)
    refine am_run (am_cK _) 2 (am_rdi_in ((as_n (by omega)).trans e2) ⟨vp_in_nI (by omega) (by omega), ?_⟩)
    rw [nI_clamp (by omega), (e4 j hj).2]
    refine am_run (am_cK _) 2 (B_colourAt (i := 0) hz.2.1 (rol_lt hz.2.2) (by omega) ?_)
    exact am_run (am_cK _) 1 (q _ (Ag.set (by omega)) (RS_row e0 e2 e3 e4 e5 rfl))
end
