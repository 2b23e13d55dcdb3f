/-- not the letter of a colour -/
def nlt (tx : Nat → Nat) (i : Nat) : Bool := decide (tx i < 97 ∨ 100 < tx i)
/-- the first sign that can't stand in a word -/
def wPl (tx : Nat → Nat) (n : Nat) : Nat := fnd (nlt tx) 0 (Nat.min n 10)
/-- the fault of a word, or 0 -/
def wFl (tx : Nat → Nat) (n : Nat) : Int32 := if wPl tx n < Nat.min n 10 then -1 - nI (wPl tx n) else if n = 0 then -1 else if 10 < n then -11 else 0
def wBd (tx : Nat → Nat) : Nat → Nat := fun i => tx i - 97
section
variable {d : Nat} {h : am_H} {Q : Option Value → am_H → Prop} {p n : Nat} {tx : Nat → Nat} {wd wz : Int32}
theorem fnd_all {q : Nat → Bool} : ∀ {k s : Nat}, fnd q s k = s + k → ∀ c, s ≤ c → c < s + k → q c = false
  | 0, s, _, c, h1, h2 => by omega
  | k + 1, s, hs, c, h1, h2 => by
    rw [fnd] at hs
    by_cases hc : q s = true
    · rw [if_pos hc] at hs; omega
    · rw [if_neg hc] at hs
      by_cases e : c = s
      · subst e; cases hq : q c with | true => exact absurd hq hc | false => rfl
      · exact fnd_all (k := k) (s := s + 1) (by omega) c (by omega) (by omega)
theorem T_takeWord (hR : RT h p n tx wd wz) (h1 : ∀ h' wd', AgN p 2 h h' → RT h' p 0 tx wd' (nI n) → ¬ wFl tx n = 0 → Q (some (.int (wFl tx n))) h') (h2 : ∀ h', AgN p 2 h h' → RT h' p 0 tx (nI (rk (wBd tx) n)) (nI n) → wFl tx n = 0 → 0 < n → n ≤ 10 → (∀ i, i < n → wBd tx i < 4) → Q (some (.int 0)) h') : am_call (d + 2) 109 [.ref p] h Q := by
  obtain ⟨e0, hn, g, e1, e2⟩ := hR
  refine en_X8_takeWord (Nat.le_of_ble_eq_true rfl) (am_run (am_cK _) 2 (am_obj_in e0 (am_run (am_cK _) 4 (am_obj_in e0 ?_))))
  refine am_run (am_cK _) 3 (am_obj_in as_s (am_run (am_cK _) 3 (am_obj_in as_s (am_run (am_cK _) 2 ?_))))
  generalize hH : am_set (am_set (am_set h p _) p _) p _ = h0
  have f0 : h0.2 p = .inr (5, [.ref (p + 1), .int (nI 0), .int (nI 0), .int (nI n)]) := by rw [← hH]; exact as_s
  have f1 : h0.2 (p + 1) = .inl (.char, 80, .inl g) := by rw [← hH]; exact (as_n (by omega)).trans ((as_n (by omega)).trans ((as_n (by omega)).trans e1))
  have ha0 : AgN p 2 h h0 := by rw [← hH]; exact (AgN.set (by omega)).trans ((AgN.set (by omega)).trans (AgN.set (by omega)))
  have hmin : Nat.min n 10 ≤ n ∧ Nat.min n 10 ≤ 10 := ⟨Nat.min_le_left _ _, Nat.min_le_right _ _⟩
  suffices H : ∀ k i h', i + k = Nat.min n 10 → wPl tx n = fnd (nlt tx) i k → AgN p 2 h h' → h'.2 p = .inr (5, [.ref (p + 1), .int (nI 0), .int (nI (rk (wBd tx) i)), .int (nI n)]) → h'.2 (p + 1) = .inl (.char, 80, .inl g) → (∀ j, j < i → wBd tx j < 4) → am_wp (am_call (d + 1)) (0, 0) cm_X8_takeWord Q (fun _ => False) (22, [some (.ref p), some (.int (nI n)), some (.int (nI i)), none], [], 0, 0) h' ∧ ∀ v, am_wp (am_call (d + 1)) (0, 0) cm_X8_takeWord Q (fun _ => False) (22, [some (.ref p), some (.int (nI n)), some (.int (nI i)), some (.int v)], [], 0, 0) h' from
    (H (Nat.min n 10) 0 h0 (by omega) rfl ha0 f0 f1 (fun j hj => by omega)).1
  intro k
  induction k with
  | zero =>
    intro i h' hi hw ha g0 g1 hb
    have hw' : wPl tx n = Nat.min n 10 := by rw [hw]; show i = _; omega
    have last : ∀ x, am_wp (am_call (d + 1)) (0, 0) cm_X8_takeWord Q (fun _ => False) (72, [some (.ref p), some (.int (nI n)), some (.int (nI i)), x], [], 0, 0) h' := by
      intro x
      have hwf : wFl tx n = if n = 0 then -1 else if 10 < n then -11 else 0 := by unfold wFl; rw [if_neg (by omega)]
      refine am_run (am_cK _) 2 ⟨fun c => ?_, fun c => ?_⟩
      · have hn0 : ¬ n = 0 := fun z => c (by rw [z]; rfl)
        rw [if_neg hn0] at hwf
        refine am_run (am_cK _) 3 ⟨fun c2 => ?_, fun c2 => ?_⟩
        · have h10 : n ≤ 10 := (nI_leI (b := 10) (by omega) (by omega)).mp c2
          rw [if_neg (by omega)] at hwf
          have hin : i = n := by
            have : Nat.min n 10 = n := Nat.min_eq_left h10
            omega
          subst hin
          exact am_run (am_cK _) 2 (h2 h' ha ⟨g0, by omega, g, g1, fun i hi => by omega⟩ hwf (by omega) h10 hb)
        · have h10 : 10 < n := Nat.lt_of_not_le (fun z => c2 ((nI_leI (b := 10) (by omega) (by omega)).mpr z))
          rw [if_pos h10] at hwf
          have q := h1 h' _ ha ⟨g0, by omega, g, g1, fun i hi => by omega⟩ (by rw [hwf]; decide)
          rw [hwf] at q
          exact am_run (am_cK _) 3 q
      · have hn0 : n = 0 := (nI_eq (b := 0) (by omega) (by omega)).mp (Classical.not_not.mp c)
        rw [if_pos hn0] at hwf
        have q := h1 h' _ ha ⟨g0, by omega, g, g1, fun i hi => by omega⟩ (by rw [hwf]; decide)
        rw [hwf] at q
        exact am_run (am_cK _) 2 q
    have both : ∀ x, am_wp (am_call (d + 1)) (0, 0) cm_X8_takeWord Q (fun _ => False) (22, [some (.ref p), some (.int (nI n)), some (.int (nI i)), x], [], 0, 0) h' := by
      intro x
      refine am_run (am_cK _) 3 ⟨fun _ => last x, fun c => ?_⟩
      have hc : i < n := Nat.lt_of_not_le (fun z => c ((nI_leI (by omega) (by omega)).mpr z))
      have hi10 : i = 10 := by
        rcases Nat.le_total n 10 with z | z
        · have : Nat.min n 10 = n := Nat.min_eq_left z
          omega
        · have : Nat.min n 10 = 10 := Nat.min_eq_right z
          omega
      subst hi10
      exact am_run (am_cK _) 3 ⟨fun _ => last x, fun c => absurd (nI_le (a := 10) (b := 10) (Nat.le_refl _) (by omega)) c⟩
    exact ⟨both none, fun v => both (some (.int v))⟩
  | succ k ih =>
    intro i h' hi hw ha g0 g1 hb
    have hin : i < n := by omega
    have ht := e2 i hin
    rw [fnd] at hw
    have both : ∀ x, am_wp (am_call (d + 1)) (0, 0) cm_X8_takeWord Q (fun _ => False) (22, [some (.ref p), some (.int (nI n)), some (.int (nI i)), x], [], 0, 0) h' := by
      intro x
      refine am_run (am_cK _) 3 ⟨fun c => absurd c (nI_ge hin (by omega)), fun _ => ?_⟩
      refine am_run (am_cK _) 3 ⟨fun c => absurd c (nI_ge (b := 10) (by omega) (by omega)), fun _ => ?_⟩
      refine am_run (am_cK _) 2 (am_obj_in g0 (am_run (am_cK _) 2 (am_ari_in g1 ⟨vp_in_nI (by omega) (by omega), ?_⟩)))
      rw [nI_clamp (by omega), ht.1]
      refine am_run (am_cK _) 3 (show am_wp (am_call (d + 1)) (0, 0) cm_X8_takeWord Q (fun _ => False) (43, [some (.ref p), some (.int (nI n)), some (.int (nI i)), some (.int (nI (tx i) - 97))], [], 0, 0) h' from ?_)
      refine am_run (am_cK _) 2 (B_isNoColour _ (fun c => ?_) (fun c => ?_))
      · -- no letter of a colour
        have hno : nlt tx i = true := by
          unfold nlt
          refine decide_eq_true ?_
          by_cases h97 : tx i < 97
          · exact Or.inl h97
          · refine Or.inr ?_
            have e : nI (tx i) - 97 = nI (tx i - 97) := pk_sub (a := tx i) (b := 97) (by omega)
            rw [e] at c
            rcases c with c | c
            · exact absurd c (nI_pos (by omega))
            · have := (nI_leI (a := 4) (by omega) (by omega)).mp c
              omega
        rw [if_pos hno] at hw
        have hwf : wFl tx n = -1 - nI i := by unfold wFl; rw [hw, if_pos (by omega)]
        have hne : ¬ wFl tx n = 0 := by
          rw [hwf]
          exact (by decide : ∀ i, i < 10 → ¬ (-1 : Int32) - nI i = 0) i (by omega)
        have q := h1 h' _ ha ⟨g0, by omega, g, g1, fun i hi => by omega⟩ hne
        rw [hwf] at q
        exact am_run (am_cK _) 1 ⟨fun z => absurd z n10, fun _ => am_run (am_cK _) 4 q⟩
      · have hge : 97 ≤ tx i := Nat.le_of_not_lt (fun z => c (Or.inl ((by decide : ∀ t, t < 97 → nI t - 97 < 0) _ z)))
        have e : nI (tx i) - 97 = nI (tx i - 97) := pk_sub (a := tx i) (b := 97) hge
        have hle : tx i - 97 < 4 := Nat.lt_of_not_le (fun z => c (Or.inr (by rw [e]; exact (nI_leI (a := 4) (by omega) (by omega)).mpr z)))
        have hno : nlt tx i = false := by unfold nlt; exact decide_eq_false (by omega)
        rw [hno, if_neg (by decide)] at hw
        refine am_run (am_cK _) 1 ⟨fun _ => ?_, fun z => absurd rfl z⟩
        refine am_run (am_cK _) 3 (am_obj_in g0 (am_run (am_cK _) 5 (am_obj_in g0 ?_)))
        have e9 : nI (rk (wBd tx) i) <<< ((2 : Int32) &&& 31) ||| (nI (tx i) - 97) = nI (rk (wBd tx) (i + 1)) := by
          have e1 : nI (rk (wBd tx) i) <<< ((2 : Int32) &&& 31) = nI (rk (wBd tx) i * 2 ^ 2) := q_shl _ (k := 2) (by omega)
          rw [e, e1, q_or, q_orAdd (by omega)]
          congr 1
          show _ = 4 * rk (wBd tx) i + (tx i - 97)
          omega
        have zz := (ih (i + 1) (am_set h' p (.inr (5, [.ref (p + 1), .int (nI 0), .int (nI (rk (wBd tx) i) <<< ((2 : Int32) &&& 31) ||| (nI (tx i) - 97)), .int (nI n)]))) (by omega) hw (ha.trans (AgN.set (by omega))) (by rw [as_s, e9]) ((as_n (by omega)).trans g1) (fun j hj => by
          by_cases ej : j = i
          · rw [ej]; exact hle
          · exact hb j (by omega))).2 (nI (tx i) - 97)
        rw [nI_succ] at zz
        exact am_run (am_cK _) 2 zz
    exact ⟨both none, fun v => both (some (.int v))⟩
end
