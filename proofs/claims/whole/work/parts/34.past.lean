section
variable {d : Nat} {h : am_H} {Q : Option Value → am_H → Prop} {p : Nat} {σ : Sg}
theorem RS_fr {h' : am_H} (hR : RS h p σ) (hf : ∀ x, p ≤ x → x < p + 4 → h'.2 x = h.2 x) : RS h' p σ := by
  obtain ⟨r, z, k, e0, e1, e2, e3, e4, e5⟩ := hR
  exact ⟨r, z, k, (hf _ (by omega) (by omega)).trans e0, (hf _ (by omega) (by omega)).trans e1, (hf _ (by omega) (by omega)).trans e2, (hf _ (by omega) (by omega)).trans e3, e4, e5⟩
theorem S_stockFrom (hR : RS h p σ) (kind n f step : Int32) (hQ : ∀ h', Ag p h h' → RS h' p (sSheet σ kind n f step) → Q none h') : am_call (d + 2) 83 [.ref p, .int kind, .int n, .int f, .int step] h Q := by
  refine en_X7_stockFrom (Nat.le_of_ble_eq_true rfl) (am_run (am_cK _) 2 ?_)
  suffices H : ∀ k i h' x, i + k = 4 → Ag p h h' → RS h' p (setK σ (fun c => if c < i then (if nI c < n then clp 99 (shE kind f step c) else 0) else sK σ c)) → am_wp (am_call (d + 1)) (0, 0) cm_X7_stockFrom Q (fun _ => False) (3, [some (.ref p), some (.int kind), some (.int n), some (.int f), some (.int step), some (.int (nI i)), x], [], 0, 0) h' from
    H 4 0 h none (by omega) Ag.rf (RS_k2 (k := sK σ) (fun c _ => (if_neg (Nat.not_lt_zero c)).symm) hR)
  intro k
  induction k with
  | zero =>
    intro i h' x hi ha hR'
    have e : i = 4 := by omega
    subst e
    exact am_run (am_cK _) 3 ⟨fun _ => am_run (am_cK _) 1 (hQ h' ha (RS_k2 (fun c hc => if_pos hc) hR')), fun c => absurd (nI_le (a := 4) (b := 4) (Nat.le_refl _) (by omega)) c⟩
  | succ k ih =>
    intro i h' x hi ha hR'
    obtain ⟨r, z, kk, e0, e1, e2, e3, e4, e5⟩ := hR'
    refine am_run (am_cK _) 3 ⟨fun c => absurd c (nI_ge (b := 4) (by omega) (by omega)), fun _ => ?_⟩
    have tail : ∀ e, e = shE kind f step i → am_wp (am_call (d + 1)) (0, 0) cm_X7_stockFrom Q (fun _ => False) (44, [some (.ref p), some (.int kind), some (.int n), some (.int f), some (.int step), some (.int (nI i)), some (.int e)], [.ref (p + 3)], 0, 0) h' := by
      intro e he
      have fin : ∀ v, v = nI (if nI i < n then clp 99 (shE kind f step i) else 0) → am_wp (am_call (d + 1)) (0, 0) cm_X7_stockFrom Q (fun _ => False) (67, [some (.ref p), some (.int kind), some (.int n), some (.int f), some (.int step), some (.int (nI i)), some (.int e)], [.int v, .int (nI i), .ref (p + 3)], 0, 0) h' := by
        intro v hv
        refine am_run (am_cK _) 1 (am_ari_in e3 ⟨vp_in_nI (by omega) (by omega), ?_⟩)
        rw [nI_clamp (by omega)]
        have zz := ih (i + 1) (am_set h' (p + 3) (aI 4 (upd kk i v))) (some (.int e)) (by omega) (ha.trans (Ag.set (by omega))) ⟨r, z, upd kk i v, (as_n (by omega)).trans e0, (as_n (by omega)).trans e1, (as_n (by omega)).trans e2, as_s, e4, fun c hc => by
          by_cases ec : c = i
          · subst ec
            rw [upd_s, hv]
            show _ = nI (if c < c + 1 then _ else _)
            rw [if_pos (Nat.lt_succ_self c)]
          · rw [upd_n ec, e5 c hc]
            show nI (if c < i then _ else _) = nI (if c < i + 1 then _ else _)
            by_cases hlt : c < i
            · rw [if_pos hlt, if_pos (show c < i + 1 by omega)]
            · rw [if_neg hlt, if_neg (show ¬ c < i + 1 by omega)]⟩
        rw [nI_succ] at zz
        exact am_run (am_cK _) 2 zz
      refine am_run (am_cK _) 4 ⟨fun c => ?_, fun c => ?_⟩
      · have c' : n ≤ nI i := c
        exact am_run (am_cK _) 1 (fin 0 (by rw [if_neg (Int32.not_lt.mpr c')]; rfl))
      · have c' : nI i < n := Int32.not_le.mp c
        refine am_run (am_cK _) 4 (J_minI 99 e ?_)
        refine am_run (am_cK _) 1 (J_maxI 0 _ ?_)
        exact am_run (am_cK _) 1 (fin _ (by rw [if_pos c', ← he]; exact clp_eq (m := 99) (by omega) e))
    refine am_run (am_cK _) 8 ⟨fun c => ?_, fun c => ?_⟩
    · have c0 : ¬ kind = 0 := c
      refine am_run (am_cK _) 3 ⟨fun c1 => ?_, fun c1 => ?_⟩
      · have c1' : ¬ kind = 1 := c1
        exact am_run (am_cK _) 2 (am_obj_in e0 (tail _ (by unfold shE; rw [if_neg c0, if_neg c1'])))
      · have c1' : kind = 1 := Classical.not_not.mp c1
        exact am_run (am_cK _) 5 (am_obj_in e0 (tail _ (by unfold shE; rw [if_neg c0, if_pos c1'])))
    · have c0 : kind = 0 := Classical.not_not.mp c
      exact am_run (am_cK _) 6 (am_obj_in e0 (tail _ (by unfold shE; rw [if_pos c0])))
end
/-! what can be undone, what is kept -/
abbrev aR (n : Nat) (g : Nat → Option Nat) : am_C := .inl (.object RX7, n, .inr (.inr (.inr (.inr g))))
abbrev aB (n : Nat) (g : Nat → Int32) : am_C := .inl (.boolean, n, .inl g)
abbrev cP (p m u : Nat) : am_C := .inr (2, [.ref (p + 1), .ref (p + 2), .ref (p + 3), .int (nI m), .int (nI u)])
def RP (h : am_H) (p : Nat) (S K : Nat → Sg) (ik : Nat → Bool) (m u : Nat) : Prop := ∃ (g1 g2 : Nat → Option Nat) (g3 : Nat → Int32), h.2 p = cP p m u ∧ h.2 (p + 1) = aR 16 g1 ∧ h.2 (p + 2) = aR 3 g2 ∧ h.2 (p + 3) = aB 3 g3 ∧ (∀ i, i < 16 → g1 i = some (p + 4 + 4 * i) ∧ RS h (p + 4 + 4 * i) (S i) ∧ Sok (S i)) ∧ (∀ i, i < 3 → g2 i = some (p + 68 + 4 * i) ∧ RS h (p + 68 + 4 * i) (K i) ∧ Sok (K i) ∧ g3 i = if ik i then 1 else 0) ∧ m < 16 ∧ u ≤ 15
section
variable {d : Nat} {h : am_H} {Q : Option Value → am_H → Prop} {p q m u : Nat} {σ : Sg} {S K : Nat → Sg} {ik : Nat → Bool}
theorem RP_fr {h' : am_H} (hR : RP h p S K ik m u) (hf : ∀ x, p ≤ x → x < p + 80 → h'.2 x = h.2 x) : RP h' p S K ik m u := by
  obtain ⟨g1, g2, g3, e0, e1, e2, e3, e4, e5, e6⟩ := hR
  exact ⟨g1, g2, g3, (hf _ (by omega) (by omega)).trans e0, (hf _ (by omega) (by omega)).trans e1, (hf _ (by omega) (by omega)).trans e2, (hf _ (by omega) (by omega)).trans e3, fun i hi => ⟨(e4 i hi).1, RS_fr (e4 i hi).2.1 (fun x _ _ => hf x (by omega) (by omega)), (e4 i hi).2.2⟩, fun i hi => ⟨(e5 i hi).1, RS_fr (e5 i hi).2.1 (fun x _ _ => hf x (by omega) (by omega)), (e5 i hi).2.2⟩, e6⟩
theorem P_mark (hR : RP h p S K ik m u) (hS : RS h q σ) (hs : Sok σ) (hq : q + 4 ≤ p ∨ p + 80 ≤ q) (hQ : ∀ h', AgN p 80 h h' → RP h' p (va_up S m σ) K ik m u → Q none h') : am_call (d + 3) 58 [.ref p, .ref q] h Q := by
  obtain ⟨g1, g2, g3, e0, e1, e2, e3, e4, e5, e6⟩ := hR
  have hm := e6.1
  obtain ⟨a1, a2, a3⟩ := e4 m hm
  refine en_X5_mark (Nat.le_of_ble_eq_true rfl) (am_run (am_cK _) 2 (am_obj_in e0 (am_run (am_cK _) 2 (am_obj_in e0 (am_run (am_cK _) 1 (am_arr_in e1 ⟨vp_in_nI hm (by omega), p + 4 + 4 * m, ?_, ?_⟩))))))
  · rw [nI_clamp (by omega)]; exact a1
  have a2' := a2
  obtain ⟨r, z, k, f0, _⟩ := a2'
  refine am_run (am_cK _) 2 (am_obj_in f0 (S_copyFrom (by omega) a2 hS hs (fun h' ha hR' => ?_)))
  refine am_run (am_cK _) 1 (hQ h' ⟨ha.1, fun x hx => ha.2 x (by omega)⟩ ⟨g1, g2, g3, (ha.2 _ (by omega)).trans e0, (ha.2 _ (by omega)).trans e1, (ha.2 _ (by omega)).trans e2, (ha.2 _ (by omega)).trans e3, fun i hi => ?_, fun i hi => ⟨(e5 i hi).1, RS_fr (e5 i hi).2.1 (fun x _ _ => ha.2 x (by omega)), (e5 i hi).2.2⟩, e6⟩)
  by_cases e : i = m
  · subst e; rw [am_up_s]; exact ⟨a1, hR', hs⟩
  · rw [am_up_n e]; exact ⟨(e4 i hi).1, RS_fr (e4 i hi).2.1 (fun x _ _ => ha.2 x (by omega)), (e4 i hi).2.2⟩
/-- the slot behind, the slot ahead -/
def mUp (m : Nat) : Nat := if m < 15 then m + 1 else 0
def mDn (m : Nat) : Nat := if 0 < m then m - 1 else 15
theorem RP_set {m' u' : Nat} {h' : am_H} (hR : RP h p S K ik m u) (h0 : h'.2 p = cP p m' u') (hf : ∀ x, p < x → x < p + 80 → h'.2 x = h.2 x) (hm : m' < 16) (hu : u' ≤ 15) : RP h' p S K ik m' u' := by
  obtain ⟨g1, g2, g3, e0, e1, e2, e3, e4, e5, e6⟩ := hR
  exact ⟨g1, g2, g3, h0, (hf _ (by omega) (by omega)).trans e1, (hf _ (by omega) (by omega)).trans e2, (hf _ (by omega) (by omega)).trans e3, fun i hi => ⟨(e4 i hi).1, RS_fr (e4 i hi).2.1 (fun x _ _ => hf x (by omega) (by omega)), (e4 i hi).2.2⟩, fun i hi => ⟨(e5 i hi).1, RS_fr (e5 i hi).2.1 (fun x _ _ => hf x (by omega) (by omega)), (e5 i hi).2.2⟩, hm, hu⟩
theorem P_settle (hR : RP h p S K ik m u) (a : Int32) (h1 : a < 0 → Q (some (.int a)) h) (h2 : ¬ a < 0 → ∀ h', AgN p 80 h h' → RP h' p S K ik (mUp m) (Nat.min 15 (u + 1)) → Q (some (.int a)) h') : am_call (d + 3) 59 [.ref p, .int a] h Q := by
  have hR0 := hR
  obtain ⟨g1, g2, g3, e0, e1, e2, e3, e4, e5, hm, hu⟩ := hR
  refine en_X5_settle (Nat.le_of_ble_eq_true rfl) (am_run (am_cK _) 2 ⟨fun c => am_run (am_cK _) 2 (h1 c), fun c => ?_⟩)
  have fin : ∀ h', h'.1 = h.1 → h'.2 p = cP p (mUp m) u → (∀ x, ¬ x = p → h'.2 x = h.2 x) → am_wp (am_call (d + 2)) (0, 0) cm_X5_settle Q (fun _ => False) (27, [some (.ref p), some (.int a)], [], 0, 0) h' := by
    intro h' hh f0 fx
    refine am_run (am_cK _) 4 (am_obj_in f0 (am_run (am_cK _) 3 (show am_call (d + 2) 325 [.int 15, .int (nI u + 1)] h' _ from ?_)))
    rw [← nI_succ]
    refine J_min (a := 15) (by omega) (by omega) ?_
    refine am_run (am_cK _) 1 (am_obj_in f0 (am_run (am_cK _) 2 (h2 c _ ⟨hh, fun x hx => (as_n (by omega)).trans (fx x (by omega))⟩ (RP_set hR0 as_s (fun x hx _ => (as_n (by omega)).trans (fx x (by omega))) ?_ (Nat.min_le_left _ _)))))
    unfold mUp; split <;> omega
  refine am_run (am_cK _) 3 (am_obj_in e0 (am_run (am_cK _) 2 ⟨fun c2 => ?_, fun c2 => ?_⟩))
  · have hc : 15 ≤ m := (nI_leI (a := 15) (by omega) (by omega)).mp c2
    refine am_run (am_cK _) 2 (am_obj_in e0 (fin _ rfl (by rw [as_s]; unfold mUp; rw [if_neg (by omega)]; rfl) (fun x hx => as_n hx)))
  · have hc : ¬ 15 ≤ m := fun z => c2 ((nI_leI (a := 15) (by omega) (by omega)).mpr z)
    refine am_run (am_cK _) 2 (am_obj_in e0 (am_run (am_cK _) 4 (am_obj_in e0 (fin _ rfl (by rw [as_s]; unfold mUp; rw [if_pos (by omega)]; unfold cP; rw [nI_succ]; rfl) (fun x hx => as_n hx)))))
theorem P_bringBack {τ : Sg} (hR : RP h p S K ik m u) (hS : RS h q τ) (hq : q + 4 ≤ p ∨ p + 80 ≤ q) (h1 : u = 0 → Q (some (.int (-1))) h) (h2 : 0 < u → ∀ h', h'.1 = h.1 → (∀ x, ¬ x = p → (x < q ∨ q + 4 ≤ x) → h'.2 x = h.2 x) → RS h' q (S (mDn m)) → RP h' p S K ik (mDn m) (u - 1) → Q (some (.int (nI (u - 1)))) h') : am_call (d + 3) 60 [.ref p, .ref q] h Q := by
  have hR0 := hR
  obtain ⟨g1, g2, g3, e0, e1, e2, e3, e4, e5, hm, hu⟩ := hR
  refine en_X5_bringBack (Nat.le_of_ble_eq_true rfl) (am_run (am_cK _) 2 (am_obj_in e0 (am_run (am_cK _) 1 ⟨fun c => ?_, fun c => ?_⟩)))
  · have hu0 : 0 < u := Nat.pos_of_ne_zero (fun z => c (by rw [z]; rfl))
    have fin : ∀ h', h'.1 = h.1 → h'.2 p = cP p (mDn m) u → (∀ x, ¬ x = p → h'.2 x = h.2 x) → am_wp (am_call (d + 2)) (0, 0) cm_X5_bringBack Q (fun _ => False) (31, [some (.ref p), some (.ref q)], [], 0, 0) h' := by
      intro h' hh f0 fx
      have hd : mDn m < 16 := by unfold mDn; split <;> omega
      have hRS : RS h' q τ := RS_fr hS (fun x _ _ => fx x (by omega))
      have hSl : RS h' (p + 4 + 4 * mDn m) (S (mDn m)) := RS_fr (e4 _ hd).2.1 (fun x _ _ => fx x (by omega))
      refine am_run (am_cK _) 3 (am_obj_in f0 (am_run (am_cK _) 2 (am_obj_in f0 (am_run (am_cK _) 1 (am_arr_in ((fx _ (by omega)).trans e1) ⟨vp_in_nI hd (by omega), p + 4 + 4 * mDn m, ?_, ?_⟩)))))
      · rw [nI_clamp (by omega)]; exact (e4 _ hd).1
      have hRS' := hRS
      obtain ⟨r, z, k, z0, _⟩ := hRS'
      refine am_run (am_cK _) 1 (am_obj_in z0 (S_copyFrom (by omega) hRS hSl (e4 _ hd).2.2 (fun h2' ha hR2 => ?_)))
      have f0' : h2'.2 p = cP p (mDn m) u := (ha.2 _ (by omega)).trans f0
      refine am_run (am_cK _) 3 (am_obj_in f0' (am_run (am_cK _) 3 (am_obj_in f0' ?_)))
      have e9 : nI u - 1 = nI (u - 1) := pk_sub (a := u) (b := 1) (by omega)
      refine am_run (am_cK _) 2 (am_obj_in as_s (am_run (am_cK _) 1 ?_))
      show Q (some (.int (nI u - 1))) _
      have qq := h2 hu0 (am_set h2' p (cP p (mDn m) (u - 1))) (ha.1.trans hh) (fun x hx hx2 => (as_n hx).trans ((ha.2 x (by omega)).trans (fx x hx))) (RS_fr hR2 (fun x _ _ => as_n (by omega))) (RP_set hR0 as_s (fun x hx _ => (as_n (by omega)).trans ((ha.2 x (by omega)).trans (fx x (by omega)))) hd (by omega))
      have e10 : cP p (mDn m) (u - 1) = Sum.inr (2, [.ref (p + 1), .ref (p + 2), .ref (p + 3), .int (nI (mDn m)), .int (nI u - 1)]) := by unfold cP; rw [e9]
      rw [e10, ← e9] at qq
      exact qq
    refine am_run (am_cK _) 3 (am_obj_in e0 (am_run (am_cK _) 1 ⟨fun c2 => ?_, fun c2 => ?_⟩))
    · have hc : m = 0 := by
        have := (nI_leI (b := 0) (by omega) (by omega)).mp c2
        omega
      refine am_run (am_cK _) 2 (am_obj_in e0 (fin _ rfl (by rw [as_s]; unfold mDn; rw [if_neg (by omega)]; rfl) (fun x hx => as_n hx)))
    · have hc : ¬ m = 0 := fun z => c2 (show nI m ≤ 0 by rw [z]; decide)
      have e9 : nI m - 1 = nI (m - 1) := pk_sub (a := m) (b := 1) (by omega)
      refine am_run (am_cK _) 2 (am_obj_in e0 (am_run (am_cK _) 4 (am_obj_in e0 (fin _ rfl (by rw [as_s]; unfold mDn; rw [if_pos (by omega)]; unfold cP; rw [← e9]; rfl) (fun x hx => as_n hx)))))
  · have hu0 : u = 0 := (nI_eq (b := 0) (by omega) (by omega)).mp (Classical.not_not.mp c)
    exact am_run (am_cK _) 2 (h1 hu0)
theorem P_keepUnder (hR : RP h p S K ik m u) (hS : RS h q σ) (hs : Sok σ) (hq : q + 4 ≤ p ∨ p + 80 ≤ q) (i : Int32) (h1 : (i < 0 ∨ 3 ≤ i) → Q (some (.int 0)) h) (h2 : ∀ j, j < 3 → i = nI j → ∀ h', AgN p 80 h h' → RP h' p S (va_up K j σ) (va_up ik j true) m u → Q (some (.int 1)) h') : am_call (d + 3) 61 [.ref p, .int i, .ref q] h Q := by
  have hR0 := hR
  obtain ⟨g1, g2, g3, e0, e1, e2, e3, e4, e5, hm, hu⟩ := hR
  refine en_X5_keepUnder (Nat.le_of_ble_eq_true rfl) (am_run (am_cK _) 2 ⟨fun c => am_run (am_cK _) 2 ⟨Or.inl rfl, h1 (Or.inl c)⟩, fun c => am_run (am_cK _) 3 ⟨fun c2 => ?_, fun c2 => am_run (am_cK _) 2 ⟨Or.inl rfl, h1 (Or.inr (Int32.not_lt.mp c2))⟩⟩⟩)
  obtain ⟨j, hj31, hj⟩ := nI_of c
  subst hj
  have hj3 : j < 3 := (nI_ltI (b := 3) (by omega) (by omega)).mp c2
  obtain ⟨a1, a2, a3, a4⟩ := e5 j hj3
  refine am_run (am_cK _) 2 (am_obj_in e0 (am_run (am_cK _) 2 (am_arr_in e2 ⟨vp_in_nI hj3 (by omega), p + 68 + 4 * j, ?_, ?_⟩)))
  · rw [nI_clamp (by omega)]; exact a1
  have a2' := a2
  obtain ⟨r, z, k, f0, _⟩ := a2'
  refine am_run (am_cK _) 2 (am_obj_in f0 (S_copyFrom (by omega) a2 hS hs (fun h' ha hR' => ?_)))
  have b0 : h'.2 p = cP p m u := (ha.2 _ (by omega)).trans e0
  have b3 : h'.2 (p + 3) = aB 3 g3 := (ha.2 _ (by omega)).trans e3
  refine am_run (am_cK _) 2 (am_obj_in b0 (am_run (am_cK _) 3 (am_ari_in b3 ⟨vp_in_nI hj3 (by omega), ?_⟩)))
  rw [nI_clamp (by omega)]
  refine am_run (am_cK _) 2 ⟨Or.inr rfl, h2 j hj3 rfl _ (AgN.trans ⟨ha.1, fun x hx => ha.2 x (by omega)⟩ (AgN.set (by omega))) ⟨g1, g2, _, (as_n (by omega)).trans b0, (as_n (by omega)).trans ((ha.2 _ (by omega)).trans e1), (as_n (by omega)).trans ((ha.2 _ (by omega)).trans e2), as_s, fun x hx => ⟨(e4 x hx).1, RS_fr (e4 x hx).2.1 (fun y _ _ => (as_n (by omega)).trans (ha.2 y (by omega))), (e4 x hx).2.2⟩, fun x hx => ?_, hm, hu⟩⟩
  by_cases e : x = j
  · subst e
    rw [am_up_s, am_up_s, upd_s]
    exact ⟨a1, RS_fr hR' (fun y _ _ => as_n (by omega)), hs, by decide⟩
  · rw [am_up_n e, am_up_n e, upd_n e]
    exact ⟨(e5 x hx).1, RS_fr (e5 x hx).2.1 (fun y _ _ => (as_n (by omega)).trans (ha.2 y (by omega))), (e5 x hx).2.2⟩
theorem P_takeKept {τ : Sg} (hR : RP h p S K ik m u) (hS : RS h q τ) (hq : q + 4 ≤ p ∨ p + 80 ≤ q) (i : Int32) (h1 : (i < 0 ∨ 3 ≤ i) → Q (some (.int 0)) h) (h2 : ∀ j, j < 3 → i = nI j → ik j = false → Q (some (.int 0)) h) (h3 : ∀ j, j < 3 → i = nI j → ik j = true → ∀ h', h'.1 = h.1 → (∀ x, ¬ x = p → (x < q ∨ q + 4 ≤ x) → h'.2 x = h.2 x) → RS h' q (K j) → RP h' p S K ik m 0 → Q (some (.int 1)) h') : am_call (d + 3) 62 [.ref p, .int i, .ref q] h Q := by
  have hR0 := hR
  obtain ⟨g1, g2, g3, e0, e1, e2, e3, e4, e5, hm, hu⟩ := hR
  refine en_X5_takeKept (Nat.le_of_ble_eq_true rfl) (am_run (am_cK _) 2 ⟨fun c => am_run (am_cK _) 2 ⟨Or.inl rfl, h1 (Or.inl c)⟩, fun c => am_run (am_cK _) 3 ⟨fun c2 => am_run (am_cK _) 2 ⟨Or.inl rfl, h1 (Or.inr c2)⟩, fun c2 => ?_⟩⟩)
  obtain ⟨j, hj31, hj⟩ := nI_of c
  subst hj
  have hj3 : j < 3 := Nat.lt_of_not_le (fun z => c2 ((nI_leI (a := 3) (by omega) (by omega)).mpr z))
  obtain ⟨a1, a2, a3, a4⟩ := e5 j hj3
  refine am_run (am_cK _) 2 (am_obj_in e0 (am_run (am_cK _) 2 (am_ari_in e3 ⟨vp_in_nI hj3 (by omega), ?_⟩)))
  rw [nI_clamp (by omega), a4]
  cases hik : ik j with
  | false => exact am_run (am_cK _) 1 ⟨fun z => absurd rfl z, fun _ => am_run (am_cK _) 2 ⟨Or.inl rfl, h2 j hj3 rfl hik⟩⟩
  | true =>
    refine am_run (am_cK _) 1 ⟨fun _ => ?_, fun z => absurd n10 z⟩
    refine am_run (am_cK _) 3 (am_obj_in e0 (am_run (am_cK _) 2 (am_arr_in e2 ⟨vp_in_nI hj3 (by omega), p + 68 + 4 * j, ?_, ?_⟩)))
    · rw [nI_clamp (by omega)]; exact a1
    have hS' := hS
    obtain ⟨r, z, k, f0, _⟩ := hS'
    refine am_run (am_cK _) 1 (am_obj_in f0 (S_copyFrom (by omega) hS a2 a3 (fun h' ha hR' => ?_)))
    refine am_run (am_cK _) 3 (am_obj_in ((ha.2 _ (by omega)).trans e0) (am_run (am_cK _) 2 ⟨Or.inr rfl, h3 j hj3 rfl hik _ ha.1 (fun x hx hx2 => (as_n hx).trans (ha.2 x (by omega))) (RS_fr hR' (fun y _ _ => as_n (by omega))) (RP_set hR0 as_s (fun x hx _ => (as_n (by omega)).trans (ha.2 x (by omega))) hm (by omega))⟩))
end
