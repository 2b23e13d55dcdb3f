theorem fac_prodB : allB (fun a => allB (fun b => allB (fun c => allB (fun e => decide (10 < a + b + c + e ∨ (1 ≤ fcN a * fcN b * fcN c * fcN e ∧ fcN a * fcN b * fcN c * fcN e ≤ 3628800))) 11) 11) 11) 11 = true := by decide +kernel
theorem fac_prod (a : Nat) (ha : a < 11) (b : Nat) (hb : b < 11) (c : Nat) (hc : c < 11) (e : Nat) (he : e < 11) (hs : a + b + c + e ≤ 10) : 1 ≤ fcN a * fcN b * fcN c * fcN e ∧ fcN a * fcN b * fcN c * fcN e ≤ 3628800 :=
  (of_decide_eq_true ((allB_iff _ _).mp ((allB_iff _ _).mp ((allB_iff _ _).mp ((allB_iff _ _).mp fac_prodB a ha) b hb) c hc) e he)).resolve_left (by omega)
theorem fcN_le : ∀ n, n < 11 → 1 ≤ fcN n ∧ fcN n ≤ 3628800 := by decide
theorem div_sum {t : Nat → Nat} {e : Nat} (ht : smf t 4 ≤ 10) : (∀ c, c < 4 → t c ≤ 10 ∧ t c / e ≤ 10) ∧ t 0 / e + t 1 / e + t 2 / e + t 3 / e ≤ 10 := by
  have h : 0 + t 0 + t 1 + t 2 + t 3 ≤ 10 := ht
  have d0 := Nat.div_le_self (t 0) e
  have d1 := Nat.div_le_self (t 1) e
  have d2 := Nat.div_le_self (t 2) e
  have d3 := Nat.div_le_self (t 3) e
  refine ⟨fun c hc => ?_, by omega⟩
  rcases (by omega : c = 0 ∨ c = 1 ∨ c = 2 ∨ c = 3) with z | z | z | z <;> subst z <;> constructor <;> omega
theorem rwO_parts {t : Nat → Nat} {e : Nat} (ht : smf t 4 ≤ 10) : smf (fun c => t c / e) 4 ≤ 10 ∧ 1 ≤ prf (fun c => fcN (t c / e)) 4 ∧ prf (fun c => fcN (t c / e)) 4 ≤ 3628800 := by
  have h := div_sum (e := e) ht
  have e1 : smf (fun c => t c / e) 4 = 0 + t 0 / e + t 1 / e + t 2 / e + t 3 / e := rfl
  have e2 : prf (fun c => fcN (t c / e)) 4 = 1 * fcN (t 0 / e) * fcN (t 1 / e) * fcN (t 2 / e) * fcN (t 3 / e) := rfl
  rw [e1, e2, Nat.one_mul]
  have := fac_prod _ (Nat.lt_succ_of_le (h.1 0 (by omega)).2) _ (Nat.lt_succ_of_le (h.1 1 (by omega)).2) _ (Nat.lt_succ_of_le (h.1 2 (by omega)).2) _ (Nat.lt_succ_of_le (h.1 3 (by omega)).2) h.2
  exact ⟨by omega, this.1, this.2⟩
section
variable {d : Nat} {h : am_H} {Q : Option Value → am_H → Prop} {p : Nat} {t' : Nat → Int32} {t : Nat → Nat}
theorem N_rowsOf (hR : RO h) (hp : h.2 p = aI 4 t') (ht : ∀ c, c < 4 → t' c = nI (t c)) (hs : smf t 4 ≤ 10) {e : Nat} (he : 1 ≤ e) (he2 : e < 2 ^ 31) (hQ : Q (some (.int (nI (rwO t e)))) h) : am_call (d + 2) 42 [.ref p, .int (nI e)] h Q := by
  have hd := div_sum (e := e) hs
  have hpt := rwO_parts (e := e) hs
  refine en_X2_rowsOf (Nat.le_of_ble_eq_true rfl) (am_run (am_cK _) 3 (J_max (a := 1) (by omega) he2 ?_))
  rw [show Nat.max 1 e = e from Nat.max_eq_right he]
  refine am_run (am_cK _) 7 ?_
  suffices H : ∀ k i, i + k = 4 → allB (fun c => t c % e == 0) i = true → am_wp (am_call (d + 1)) (0, 0) cm_X2_rowsOf Q (fun _ => False) (14, [some (.ref p), some (.int (nI e)), some (.int (nI e)), some (.int (nI (smf (fun c => t c / e) i))), some (.int (nI (prf (fun c => fcN (t c / e)) i))), some (.int (nI i))], [], 0, 0) h from H 4 0 (by omega) rfl
  intro k
  induction k with
  | zero =>
    intro i hi ha
    have e4 : i = 4 := by omega
    subst e4
    unfold rwO at hQ
    rw [ha, if_pos rfl] at hQ
    have hfl := fcN_le _ (Nat.lt_succ_of_le hpt.1)
    refine am_run (am_cK _) 3 ⟨fun _ => ?_, fun c => absurd (nI_le (a := 4) (b := 4) (Nat.le_refl _) (by omega)) c⟩
    refine am_run (am_cK _) 2 (N_factorial hR (by omega) ?_)
    refine am_run (am_cK _) 3 (J_max (a := 1) (by omega) (by omega) ?_)
    rw [show Nat.max 1 (prf (fun c => fcN (t c / e)) 4) = prf (fun c => fcN (t c / e)) 4 from Nat.max_eq_right hpt.2.1]
    refine am_run (am_cK _) 1 ⟨nI_ne0 (by omega) (by omega), ?_⟩
    rw [pk_div (by omega) (by omega) (by omega)]
    exact am_run (am_cK _) 1 hQ
  | succ k ih =>
    intro i hi ha
    have hb := hd.1 i (by omega)
    have hti := ht i (by omega)
    have e1 : nI (t i) - nI (t i) / nI e * nI e = nI (t i % e) := pk_rem (by omega) (by omega) (by omega)
    have e2 : nI (t i) / nI e = nI (t i / e) := pk_div (by omega) (by omega) (by omega)
    have hm := Nat.mod_le (t i) e
    refine am_run (am_cK _) 3 ⟨fun c => absurd c (nI_ge (b := 4) (by omega) (by omega)), fun _ => ?_⟩
    refine am_run (am_cK _) 3 (am_rdi_in hp ⟨vp_in_nI (by omega) (by omega), ?_⟩)
    rw [nI_clamp (by omega), hti]
    refine am_run (am_cK _) 2 ⟨nI_ne0 (by omega) (by omega), ?_⟩
    rw [e1]
    refine am_run (am_cK _) 1 ⟨fun c => ?_, fun c => ?_⟩
    · have hc : t i % e = 0 := (nI_eq (b := 0) (by omega) (by omega)).mp c
      have zz := ih (i + 1) (by omega) (by rw [allB, ha, hc]; rfl)
      rw [nI_succ, smf, prf, ← nI_add, ← pk_mul] at zz
      refine am_run (am_cK _) 4 (am_rdi_in hp ⟨vp_in_nI (by omega) (by omega), ?_⟩)
      rw [nI_clamp (by omega), hti]
      refine am_run (am_cK _) 2 ⟨nI_ne0 (by omega) (by omega), ?_⟩
      rw [e2]
      refine am_run (am_cK _) 6 (am_rdi_in hp ⟨vp_in_nI (by omega) (by omega), ?_⟩)
      rw [nI_clamp (by omega), hti]
      refine am_run (am_cK _) 2 ⟨nI_ne0 (by omega) (by omega), ?_⟩
      rw [e2]
      exact am_run (am_cK _) 1 (N_factorial hR (by omega) (am_run (am_cK _) 4 zz))
    · have hc : ¬ t i % e = 0 := fun z => c (show nI (t i % e) = 0 by rw [z]; rfl)
      have hno : allB (fun c => t c % e == 0) 4 = false := allB_no (q := fun c => t c % e == 0) (i := i) (by omega) (beq_eq_false_iff_ne.mpr hc)
      unfold rwO at hQ
      rw [hno] at hQ
      exact am_run (am_cK _) 2 hQ
theorem upd_back {f : Nat → Int32} {k : Nat} {x y : Int32} (hy : y = f k) : upd (upd f k x) k y = f := by
  funext j
  by_cases e : j = k
  · rw [e, upd_s, hy]
  · rw [upd_n e, upd_n e]
theorem smf_dec {t : Nat → Nat} {c : Nat} (hc : c < 4) : smf (va_up t c (t c - 1)) 4 ≤ smf t 4 := by
  have e1 : smf (va_up t c (t c - 1)) 4 = 0 + va_up t c (t c - 1) 0 + va_up t c (t c - 1) 1 + va_up t c (t c - 1) 2 + va_up t c (t c - 1) 3 := rfl
  have e2 : smf t 4 = 0 + t 0 + t 1 + t 2 + t 3 := rfl
  have le : ∀ i, va_up t c (t c - 1) i ≤ t i := fun i => by
    by_cases e : i = c
    · rw [e, am_up_s]; omega
    · rw [am_up_n e]; omega
  have := le 0; have := le 1; have := le 2; have := le 3
  omega
theorem N_pairedRows : ∀ (s : Nat) {h : am_H} {Q : Option Value → am_H → Prop} {t' : Nat → Int32} {t : Nat → Nat}, s < 2 ^ 31 → RO h → 40 ≤ p → h.2 p = aI 4 t' → (∀ c, c < 4 → t' c = nI (t c)) → smf t 4 ≤ 10 → Q (some (.int (nI (pRw s t)))) h → am_call (d + s + 3) 41 [.ref p, .int (nI s)] h Q
  | 0, h, Q, t', t, _, hR, h40, hp, ht, hs, hQ => en_X2_pairedRows (Nat.le_of_ble_eq_true rfl) (am_run (am_cK _) 2 ⟨fun c => absurd c (show ¬ (0 : Int32) < nI 0 by decide), fun _ => am_run (am_cK _) 3 (N_rowsOf hR hp ht hs (e := 2) (by omega) (by omega) (am_run (am_cK _) 1 hQ))⟩)
  | s + 1, h, Q, t', t, hs31, hR, h40, hp, ht, hs, hQ => by
    have hd := div_sum (e := 1) hs
    have e9 : nI (s + 1) - 1 = nI s := pk_sub (a := s + 1) (b := 1) (by omega)
    refine en_X2_pairedRows (Nat.le_of_ble_eq_true rfl) (am_run (am_cK _) 2 ⟨fun _ => am_run (am_cK _) 4 ?_, fun c => absurd ((nI_ltI (a := 0) (by omega) (by omega)).mpr (by omega)) c⟩)
    suffices H : ∀ k i, i + k = 4 → am_wp (am_call (d + s + 3)) (0, 0) cm_X2_pairedRows Q (fun _ => False) (14, [some (.ref p), some (.int (nI (s + 1))), some (.int (nI (smf (fun c => if 0 < t c then pRw s (va_up t c (t c - 1)) else 0) i))), some (.int (nI i))], [], 0, 0) h from H 4 0 (by omega)
    intro k
    induction k with
    | zero =>
      intro i hi
      have e4 : i = 4 := by omega
      subst e4
      exact am_run (am_cK _) 3 ⟨fun _ => am_run (am_cK _) 2 hQ, fun c => absurd (nI_le (a := 4) (b := 4) (Nat.le_refl _) (by omega)) c⟩
    | succ k ih =>
      intro i hi
      have hb := (hd.1 i (by omega)).1
      have hti := ht i (by omega)
      have zz := ih (i + 1) (by omega)
      rw [nI_succ i, smf, ← nI_add (smf _ i)] at zz
      refine am_run (am_cK _) 3 ⟨fun c => absurd c (nI_ge (b := 4) (by omega) (by omega)), fun _ => ?_⟩
      refine am_run (am_cK _) 3 (am_rdi_in hp ⟨vp_in_nI (by omega) (by omega), ?_⟩)
      rw [nI_clamp (by omega), hti]
      refine am_run (am_cK _) 1 ⟨fun c => ?_, fun c => ?_⟩
      · have hc : ¬ 0 < t i := fun z => nI_nle z (by omega) c
        rw [if_neg hc, show nI 0 = 0 from rfl, Int32.add_zero] at zz
        exact am_run (am_cK _) 2 zz
      · have hc : 0 < t i := Nat.pos_of_ne_zero (fun z => c (show nI (t i) ≤ 0 by rw [z]; decide))
        rw [if_pos hc] at zz
        refine am_run (am_cK _) 4 (am_rdi_in hp ⟨vp_in_nI (by omega) (by omega), ?_⟩)
        rw [nI_clamp (by omega), hti]
        refine am_run (am_cK _) 3 (am_ari_in hp ⟨vp_in_nI (by omega) (by omega), ?_⟩)
        rw [nI_clamp (by omega)]
        have e3 : nI (t i) - 1 = nI (t i - 1) := pk_sub (a := t i) (b := 1) (by omega)
        refine am_run (am_cK _) 6 (show am_call (d + s + 3) 41 [.ref p, .int (nI (s + 1) - 1)] (am_set h p (aI 4 (upd t' i (nI (t i) - 1)))) _ from ?_)
        rw [e9]
        refine N_pairedRows s (t' := upd t' i (nI (t i) - 1)) (t := va_up t i (t i - 1)) (by omega) (RO_fr hR (fun x hx => as_n (by omega))) h40 as_s (fun c hc => by
          by_cases e : c = i
          · rw [e, upd_s, am_up_s, e3]
          · rw [upd_n e, am_up_n e]; exact ht c hc) (Nat.le_trans (smf_dec (by omega)) hs) ?_
        refine am_run (am_cK _) 6 (am_rdi_in as_s ⟨vp_in_nI (by omega) (by omega), ?_⟩)
        rw [nI_clamp (by omega), upd_s]
        refine am_run (am_cK _) 3 (am_ari_in as_s ⟨vp_in_nI (by omega) (by omega), ?_⟩)
        rw [nI_clamp (by omega), as_as, upd_back (show nI (t i) - 1 + 1 = t' i by rw [hti, Int32.sub_add_cancel]), as_id hp]
        exact am_run (am_cK _) 2 zz
/-- rows that rolls keep, that flips keep -/
def tkr (t : Nat → Nat) (n : Nat) : Nat := smf (fun i => rwO t (n / cdv i n)) n
def tkf (t : Nat → Nat) (n : Nat) : Nat := smf (fun i => pRw (bst n i) t) n
theorem cdv_dv : ∀ n, n < 11 → ∀ i, i < n → 1 ≤ n / cdv i n := by decide +kernel
theorem N_toldKeptByRolls (hR : RO h) (hp : h.2 p = aI 4 t') (ht : ∀ c, c < 4 → t' c = nI (t c)) (hs : smf t 4 ≤ 10) {n : Nat} (hn : n ≤ 10) (hQ : Q (some (.int (nI (tkr t n)))) h) : am_call (d + 3) 39 [.ref p, .int (nI n)] h Q := by
  refine en_X2_toldKeptByRolls (Nat.le_of_ble_eq_true rfl) (am_run (am_cK _) 4 ?_)
  suffices H : ∀ r i, i + r = n → am_wp (am_call (d + 2)) (0, 0) cm_X2_toldKeptByRolls Q (fun _ => False) (4, [some (.ref p), some (.int (nI n)), some (.int (nI (smf (fun i => rwO t (n / cdv i n)) i))), some (.int (nI i))], [], 0, 0) h from H n 0 (by omega)
  intro r
  induction r with
  | zero =>
    intro i hi
    have e : i = n := by omega
    subst e
    exact am_run (am_cK _) 3 ⟨fun _ => am_run (am_cK _) 2 hQ, fun c => absurd (nI_le (Nat.le_refl _) (by omega)) c⟩
  | succ r ih =>
    intro i hi
    have hc := cdv_le n (by omega) i (by omega)
    have hv := cdv_dv n (by omega) i (by omega)
    have hv2 := Nat.div_le_self n (cdv i n)
    have zz := ih (i + 1) (by omega)
    rw [nI_succ, smf, ← nI_add] at zz
    refine am_run (am_cK _) 3 ⟨fun c => absurd c (nI_ge (by omega) (by omega)), fun _ => ?_⟩
    refine am_run (am_cK _) 7 (N_commonDivisor (by omega) (by omega) (am_run (am_cK _) 1 (J_max (a := 1) (by omega) (by omega) ?_)))
    rw [show Nat.max 1 (cdv i n) = cdv i n from Nat.max_eq_right hc.1]
    refine am_run (am_cK _) 1 ⟨nI_ne0 (by omega) (by omega), ?_⟩
    rw [pk_div (by omega) (by omega) (by omega)]
    exact am_run (am_cK _) 1 (N_rowsOf hR hp ht hs hv (by omega) (am_run (am_cK _) 4 zz))
theorem N_toldKeptByFlips (hR : RO h) (h40 : 40 ≤ p) (hp : h.2 p = aI 4 t') (ht : ∀ c, c < 4 → t' c = nI (t c)) (hs : smf t 4 ≤ 10) {n : Nat} (hn : n ≤ 10) (hQ : Q (some (.int (nI (tkf t n)))) h) : am_call (d + 6) 40 [.ref p, .int (nI n)] h Q := by
  refine en_X2_toldKeptByFlips (Nat.le_of_ble_eq_true rfl) (am_run (am_cK _) 4 ?_)
  suffices H : ∀ r i, i + r = n → am_wp (am_call (d + 5)) (0, 0) cm_X2_toldKeptByFlips Q (fun _ => False) (4, [some (.ref p), some (.int (nI n)), some (.int (nI (smf (fun i => pRw (bst n i) t) i))), some (.int (nI i))], [], 0, 0) h from H n 0 (by omega)
  intro r
  induction r with
  | zero =>
    intro i hi
    have e : i = n := by omega
    subst e
    exact am_run (am_cK _) 3 ⟨fun _ => am_run (am_cK _) 2 hQ, fun c => absurd (nI_le (Nat.le_refl _) (by omega)) c⟩
  | succ r ih =>
    intro i hi
    have hb := bst_le n i (by omega)
    have zz := ih (i + 1) (by omega)
    rw [nI_succ, smf, ← nI_add] at zz
    refine am_run (am_cK _) 3 ⟨fun c => absurd c (nI_ge (by omega) (by omega)), fun _ => ?_⟩
    refine am_run (am_cK _) 5 (N_beadsThatStay (by omega) (by omega) ?_)
    refine am_run (am_cK _) 1 (am_call_mono (d + bst n i + 3) (d + 5) (by omega) _ _ _ _ _ (fun _ _ z => z) (N_pairedRows (bst n i) (by omega) hR h40 hp ht hs ?_))
    exact am_run (am_cK _) 4 zz
end
