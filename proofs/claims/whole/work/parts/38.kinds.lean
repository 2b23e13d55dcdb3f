/-- the digits of a row's number -/
def dg (s m : Nat) : Nat → Nat := fun i => s / 4 ^ (m - 1 - i) % 4
theorem dg_lt (s m i : Nat) : dg s m i < 4 := Nat.mod_lt _ (by decide)
theorem rk_dg : ∀ {m s : Nat}, s < 4 ^ m → rk (dg s m) m = s
  | 0, s, h => by
    have : s = 0 := by simpa using h
    rw [this]; rfl
  | m + 1, s, h => by
    rw [rk]
    have e1 : rk (dg s (m + 1)) m = rk (dg (s / 4) m) m := rk_congr (fun i hi => by
      show s / 4 ^ (m + 1 - 1 - i) % 4 = s / 4 / 4 ^ (m - 1 - i) % 4
      rw [Nat.div_div_eq_div_mul, ← Nat.pow_succ', show m + 1 - 1 - i = (m - 1 - i).succ by omega])
    have e2 : dg s (m + 1) m = s % 4 := by
      show s / 4 ^ (m + 1 - 1 - m) % 4 = s % 4
      rw [show m + 1 - 1 - m = 0 by omega, Nat.pow_zero, Nat.div_one]
    rw [e1, e2, rk_dg (m := m) (s := s / 4) (by rw [Nat.pow_succ] at h; omega)]
    omega
def cat (g : Nat → List Nat) (a : Nat) : Nat → List Nat
  | 0 => []
  | k + 1 => cat g a k ++ g (a + k)
/-- the colour a period ahead -/
def smq (s q : Nat) : Nat := s / 4 ^ (q - 1) % 4
/-- what grows out of a start: leaves that are kinds, in order -/
def grN (n : Nat) (lf : Nat → Bool) : Nat → Nat → Nat → Nat → List Nat
  | 0, s, _, q => if n % q = 0 ∧ lf s = false then [s] else []
  | f + 1, s, z, q => cat (fun c => grN n lf f (4 * s + c) (z + 1) (if c = smq s q then q else z + 1)) (smq s q) (4 - smq s q)
def isLF (n s : Nat) : Bool := decide (ilf (dg s n) n < n)
def kL (n : Nat) : List Nat := cat (fun c => grN n (isLF n) (n - 1) c 1 1) 0 4
def sT (n : Nat) : Nat := [0, 0, 4, 14, 34, 89, 225, 655, 1955].getD n 0
theorem roSt_eq : ∀ n, n < 9 → roSt n = nI (sT n) := by decide
/-- L was written at fl -/
def Wr (g g' : Nat → Int32) (fl : Nat) (L : List Nat) : Prop := (∀ i, (i < fl ∨ fl + L.length ≤ i) → g' i = g i) ∧ ∀ i, i < L.length → g' (fl + i) = nI (L.getD i 0)
theorem Wr_nil {g : Nat → Int32} {fl : Nat} : Wr g g fl [] := ⟨fun _ _ => rfl, fun i hi => absurd hi (Nat.not_lt_zero i)⟩
theorem Wr_app {g g1 g2 : Nat → Int32} {fl : Nat} {L1 L2 : List Nat} (a : Wr g g1 fl L1) (b : Wr g1 g2 (fl + L1.length) L2) : Wr g g2 fl (L1 ++ L2) := by
  refine ⟨fun i hi => ?_, fun i hi => ?_⟩
  · rw [List.length_append] at hi
    rw [b.1 i (by omega), a.1 i (by omega)]
  · rw [List.length_append] at hi
    by_cases h : i < L1.length
    · rw [b.1 _ (by omega), a.2 i h, List.getD_eq_getElem?_getD, List.getD_eq_getElem?_getD, List.getElem?_append_left h]
    · have e : fl + i = fl + L1.length + (i - L1.length) := by omega
      rw [e, b.2 _ (by omega), List.getD_eq_getElem?_getD, List.getD_eq_getElem?_getD, List.getElem?_append_right (by omega)]
abbrev cK (p fl : Nat) : am_C := .inr (1, [.ref (p + 1), .ref (p + 2), .int (nI fl)])
section
variable {d : Nat} {h : am_H} {Q : Option Value → am_H → Prop} {p : Nat}
theorem K_lacks (n : Int32) (h1 : (n < 1 ∨ 7 < n) → Q (some (.int 1)) h) (h2 : ¬ (n < 1 ∨ 7 < n) → Q (some (.int 0)) h) : am_call (d + 1) 50 [.int n] h Q := by
  refine en_X4_lacks (Nat.le_of_ble_eq_true rfl) (am_run (am_cK _) 3 ⟨fun c => am_run (am_cK _) 3 ⟨Or.inr rfl, h1 (Or.inl c)⟩, fun c => am_run (am_cK _) 3 ⟨fun c2 => am_run (am_cK _) 2 ⟨Or.inl rfl, h2 (fun z => z.elim c (Int32.not_lt.mpr c2))⟩, fun c2 => am_run (am_cK _) 3 ⟨Or.inr rfl, h1 (Or.inr (Int32.not_le.mp c2))⟩⟩⟩)
theorem K_grow {n : Nat} (hn0 : 1 ≤ n) (hn : n ≤ 7) (h40 : 40 ≤ p) : ∀ (f z : Nat) {s q fl : Nat} {h : am_H} {g : Nat → Int32} {Q : Option Value → am_H → Prop}, z + f = n → s < 4 ^ z → 1 ≤ q → q ≤ z → RO h → h.2 p = cK p fl → h.2 (p + 1) = aI 1955 g → fl + (grN n (isLF n) f s z q).length ≤ sT (n + 1) →
    (∀ h' g', AgN p 2 h h' → h'.2 p = cK p (fl + (grN n (isLF n) f s z q).length) → h'.2 (p + 1) = aI 1955 g' → Wr g g' fl (grN n (isLF n) f s z q) → Q none h') → am_call (d + f + 4) 53 [.ref p, .int (nI s), .int (nI z), .int (nI q), .int (nI n)] h Q
  | 0, z, s, q, fl, h, g, Q, hz, hs, hq0, hq, hR, e0, e1, hlen, hQ => by
    have e : z = n := by omega
    subst e
    have hsT : sT (z + 1) ≤ 1955 := (by decide : ∀ n, n < 9 → sT n ≤ 1955) _ (by omega)
    have hsm : s < 2 ^ 20 := Nat.lt_of_lt_of_le hs (Nat.le_trans (Nat.pow_le_pow_right (by decide) (by omega : z ≤ 10)) (by decide))
    refine en_X4_grow (Nat.le_of_ble_eq_true rfl) (am_run (am_cK _) 3 ⟨fun c => absurd c (nI_nlt (Nat.le_refl _) (by omega)), fun _ => ?_⟩)
    refine am_run (am_cK _) 2 ⟨fun c => absurd c (nI_nle (n := q) (by omega) (by omega)), fun _ => ?_⟩
    refine am_run (am_cK _) 3 ⟨nI_ne0 (by omega) (by omega), ?_⟩
    rw [show nI z - nI z / nI q * nI q = nI (z % q) from pk_rem (by omega) (by omega) (by omega)]
    have hm := Nat.mod_lt z (show q > 0 by omega)
    have no : ¬ (z % q = 0 ∧ isLF z s = false) → Q none h := fun c => by
      have e : grN z (isLF z) 0 s z q = [] := by rw [grN, if_neg c]
      rw [e] at hQ
      exact hQ h g AgN.rf e0 e1 Wr_nil
    refine am_run (am_cK _) 1 ⟨fun c => am_run (am_cK _) 1 (no (fun w => c (show nI (z % q) = 0 by rw [w.1]; rfl))), fun c => ?_⟩
    have hq0' : z % q = 0 := (nI_eq (b := 0) (by omega) (by omega)).mp (Classical.not_not.mp c)
    refine am_run (am_cK _) 3 (show am_call (d + 3) 9 [.int (nI s), .int (nI z)] h _ from ?_)
    rw [← rk_dg hs]
    refine B_isLessFlipped (by omega) (by omega) (fun i _ => dg_lt _ _ i) (fun c => ?_) (fun c => ?_)
    · have hl : isLF z s = true := decide_eq_true c
      exact am_run (am_cK _) 1 ⟨fun _ => am_run (am_cK _) 1 (no (fun w => by rw [hl] at w; exact absurd w.2 (by decide))), fun z => absurd n10 z⟩
    · have hl : isLF z s = false := decide_eq_false (by omega)
      have e : grN z (isLF z) 0 s z q = [s] := by rw [grN, if_pos ⟨hq0', hl⟩]
      rw [e] at hQ hlen
      have hlen' : fl + 1 ≤ sT (z + 1) := hlen
      refine am_run (am_cK _) 1 ⟨fun z => absurd rfl z, fun _ => ?_⟩
      refine am_run (am_cK _) 2 (am_obj_in e0 (am_run (am_cK _) 5 (am_rdi_ro hR.1 ?_)))
      rw [← nI_succ]
      refine ⟨vp_in_nI (by omega) (by omega), ?_⟩
      rw [nI_clamp (by omega), roSt_eq _ (by omega)]
      refine am_run (am_cK _) 1 ⟨fun c => absurd c (nI_ge (by omega) (by omega)), fun _ => ?_⟩
      refine am_run (am_cK _) 2 (am_obj_in e0 (am_run (am_cK _) 2 (am_obj_in e0 (am_run (am_cK _) 2 (am_ari_in e1 ⟨vp_in_nI (by omega) (by omega), ?_⟩)))))
      rw [nI_clamp (by omega), rk_dg hs]
      have k0 : (am_set h (p + 1) (aI 1955 (upd g fl (nI s)))).2 p = cK p fl := (as_n (by omega)).trans e0
      refine am_run (am_cK _) 3 (am_obj_in k0 (am_run (am_cK _) 3 (am_obj_in k0 (am_run (am_cK _) 1 ?_))))
      refine hQ _ (upd g fl (nI s)) ((AgN.set (by omega)).trans (AgN.set (by omega))) ?_ ((as_n (by omega)).trans as_s) ⟨fun i hi => upd_n (by have : [s].length = 1 := rfl; omega), fun i hi => ?_⟩
      · rw [as_s]; show _ = cK p (fl + 1); unfold cK; rw [nI_succ]; rfl
      · have : i = 0 := by have : [s].length = 1 := rfl; omega
        subst this
        exact upd_s
  | f + 1, z, s, q, fl, h, g, Q, hz, hs, hq0, hq, hR, e0, e1, hlen, hQ => by
    have hsT : sT (n + 1) ≤ 1955 := (by decide : ∀ n, n < 9 → sT n ≤ 1955) _ (by omega)
    have hsm : s < 2 ^ 20 := Nat.lt_of_lt_of_le hs (Nat.le_trans (Nat.pow_le_pow_right (by decide) (by omega : z ≤ 10)) (by decide))
    have hsq : smq s q < 4 := Nat.mod_lt _ (by decide)
    refine en_X4_grow (Nat.le_of_ble_eq_true rfl) (am_run (am_cK _) 3 ⟨fun _ => ?_, fun c => absurd ((nI_ltI (by omega) (by omega)).mpr (by omega)) c⟩)
    have e5 : nI s >>> ((2 * (nI q - 1)) &&& 31) &&& 3 = nI (smq s q) := by
      have a1 : nI q - 1 = nI (q - 1) := pk_sub (a := q) (b := 1) (by omega)
      have a2 : (2 : Int32) * nI (q - 1) = nI (2 * (q - 1)) := pk_mul 2 _
      rw [a1, a2, q_shr (by omega) (by omega), q_and3, ← p4]
      rfl
    refine am_run (am_cK _) 12 (show am_wp (am_call (d + f + 4)) (0, 0) cm_X4_grow Q (fun _ => False) (77, [some (.ref p), some (.int (nI s)), some (.int (nI z)), some (.int (nI q)), some (.int (nI n)), some (.int (nI s >>> ((2 * (nI q - 1)) &&& 31) &&& 3)), some (.int (nI s >>> ((2 * (nI q - 1)) &&& 31) &&& 3))], [], 0, 0) h from ?_)
    rw [e5]
    rw [grN] at hlen hQ
    generalize hG : (fun c => grN n (isLF n) f (4 * s + c) (z + 1) (if c = smq s q then q else z + 1)) = G at hlen hQ
    have hGc : ∀ c, G c = grN n (isLF n) f (4 * s + c) (z + 1) (if c = smq s q then q else z + 1) := fun c => by rw [← hG]
    have hmono : ∀ k, k ≤ 4 - smq s q → fl + (cat G (smq s q) k).length ≤ sT (n + 1) := by
      have : ∀ j k, (cat G (smq s q) k).length ≤ (cat G (smq s q) (k + j)).length := fun j => by
        induction j with
        | zero => exact fun k => Nat.le_refl _
        | succ j ih => exact fun k => Nat.le_trans (ih k) (by rw [← Nat.add_assoc, cat, List.length_append]; omega)
      intro k hk
      have h1 := this (4 - smq s q - k) k
      rw [show k + (4 - smq s q - k) = 4 - smq s q by omega] at h1
      omega
    suffices H : ∀ r k h' g', k + r = 4 - smq s q → AgN p 2 h h' → h'.2 p = cK p (fl + (cat G (smq s q) k).length) → h'.2 (p + 1) = aI 1955 g' → Wr g g' fl (cat G (smq s q) k) → am_wp (am_call (d + f + 4)) (0, 0) cm_X4_grow Q (fun _ => False) (77, [some (.ref p), some (.int (nI s)), some (.int (nI z)), some (.int (nI q)), some (.int (nI n)), some (.int (nI (smq s q))), some (.int (nI (smq s q + k)))], [], 0, 0) h' from
      H (4 - smq s q) 0 h g (by omega) AgN.rf e0 e1 Wr_nil
    intro r
    induction r with
    | zero =>
      intro k h' g' hk ha f0 f1 hw
      have e : k = 4 - smq s q := by omega
      subst e
      rw [show smq s q + (4 - smq s q) = 4 by omega]
      exact am_run (am_cK _) 3 ⟨fun _ => am_run (am_cK _) 1 (hQ h' g' ha f0 f1 hw), fun c => absurd (nI_le (a := 4) (b := 4) (Nat.le_refl _) (by omega)) c⟩
    | succ r ih =>
      intro k h' g' hk ha f0 f1 hw
      have hc4 : smq s q + k < 4 := by omega
      refine am_run (am_cK _) 3 ⟨fun c => absurd c (nI_ge (b := 4) (by omega) (by omega)), fun _ => ?_⟩
      have e6 : nI s <<< ((2 : Int32) &&& 31) ||| nI (smq s q + k) = nI (4 * s + (smq s q + k)) := by
        have a1 : nI s <<< ((2 : Int32) &&& 31) = nI (s * 2 ^ 2) := q_shl _ (k := 2) (by omega)
        rw [a1, q_or, q_orAdd (by omega)]
        congr 1
        omega
      have hlen2 : fl + (cat G (smq s q) k).length + (G (smq s q + k)).length ≤ sT (n + 1) := by
        have := hmono (k + 1) (by omega)
        rw [cat, List.length_append] at this
        omega
      have hcont : ∀ h2 g2, AgN p 2 h' h2 → h2.2 p = cK p (fl + (cat G (smq s q) k).length + (G (smq s q + k)).length) → h2.2 (p + 1) = aI 1955 g2 → Wr g' g2 (fl + (cat G (smq s q) k).length) (G (smq s q + k)) → am_wp (am_call (d + f + 4)) (0, 0) cm_X4_grow Q (fun _ => False) (112, [some (.ref p), some (.int (nI s)), some (.int (nI z)), some (.int (nI q)), some (.int (nI n)), some (.int (nI (smq s q))), some (.int (nI (smq s q + k)))], [], 0, 0) h2 := by
        intro h2 g2 ha2 k0 k1 hw2
        have zz := ih (k + 1) h2 g2 (by omega) (ha.trans ha2) (by rw [cat, List.length_append, ← Nat.add_assoc]; exact k0) k1 (Wr_app hw hw2)
        rw [← Nat.add_assoc, nI_succ] at zz
        exact am_run (am_cK _) 2 zz
      have hs4 : 4 * s + (smq s q + k) < 4 ^ (z + 1) := by rw [Nat.pow_succ]; omega
      have hRO : RO h' := RO_fr hR (fun x hx => ha.2 x (by omega))
      rw [hGc] at hlen2 hcont
      refine am_run (am_cK _) 12 ⟨fun c => ?_, fun c => ?_⟩
      · have hne : ¬ smq s q + k = smq s q := fun w => c (by rw [w])
        rw [if_neg hne] at hlen2 hcont
        refine am_run (am_cK _) 5 (am_obj_in f0 (show am_call (d + f + 4) 53 [.ref p, .int (nI s <<< ((2 : Int32) &&& 31) ||| nI (smq s q + k)), .int (nI z + 1), .int (nI z + 1), .int (nI n)] h' _ from ?_))
        rw [e6, ← nI_succ]
        exact K_grow hn0 hn h40 f (z + 1) (by omega) hs4 (by omega) (by omega) hRO f0 f1 hlen2 (fun h2 g2 a b c d => hcont h2 g2 a b c d)
      · have heq : smq s q + k = smq s q := (nI_eq (by omega) (by omega)).mp (Classical.not_not.mp c)
        rw [if_pos heq] at hlen2 hcont
        refine am_run (am_cK _) 4 (am_obj_in f0 (show am_call (d + f + 4) 53 [.ref p, .int (nI s <<< ((2 : Int32) &&& 31) ||| nI (smq s q + k)), .int (nI z + 1), .int (nI q), .int (nI n)] h' _ from ?_))
        rw [e6, ← nI_succ]
        exact K_grow hn0 hn h40 f (z + 1) (by omega) hs4 (by omega) (by omega) hRO f0 f1 hlen2 (fun h2 g2 a b c d => hcont h2 g2 a b c d)
end
