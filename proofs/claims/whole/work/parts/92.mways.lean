theorem rI_le (n its : Nat) : ∀ m, n + m ≤ 10 → rI n its m ≤ its * 10 ^ m
  | 0, _ => by rw [rI, Nat.pow_zero, Nat.mul_one]; exact Nat.le_refl _
  | m + 1, h => by
    have ih := rI_le n its m (by omega)
    rw [rI, Nat.pow_succ, ← Nat.mul_assoc]
    refine Nat.le_trans (Nat.div_le_self _ _) ?_
    exact Nat.mul_le_mul ih (by omega)
theorem rO_le {t : Nat → Nat} {e l : Nat} (he : 1 ≤ e) (ht : smf t 4 ≤ 10) : ∀ c, c ≤ 4 → (rO t e l c).1 ≤ smf t c ∧ (rO t e l c).2 ≤ 10 ^ (rO t e l c).1
  | 0, _ => ⟨Nat.le_refl _, Nat.le_refl _⟩
  | c + 1, hc => by
    have ih := rO_le (t := t) (e := e) (l := l) he ht c (by omega)
    have hm : rMn t e l c ≤ t c := Nat.le_trans (Nat.div_le_self _ _) (Nat.sub_le _ _)
    have mono : ∀ k, smf t (c + 1) ≤ smf t (c + 1 + k) := fun k => by
      induction k with
      | zero => exact Nat.le_refl _
      | succ k ih =>
        rw [show smf t (c + 1 + (k + 1)) = smf t (c + 1 + k) + t (c + 1 + k) from rfl]
        omega
    have h4 := mono (3 - c)
    rw [show c + 1 + (3 - c) = 4 by omega, smf] at h4
    have hr := rI_le (rO t e l c).1 (rO t e l c).2 (rMn t e l c) (by omega)
    rw [rO]
    refine ⟨by show _ + _ ≤ smf t c + t c; omega, ?_⟩
    show rI _ _ _ ≤ 10 ^ (_ + _)
    rw [Nat.pow_add]
    exact Nat.le_trans hr (Nat.mul_le_mul_right _ ih.2)
section
variable {d : Nat} {h0 h : am_H} {Q : Option Value → am_H → Prop} {F : Nat → Int32} {A : Nat → Nat → Int32} {R : Nat → Int64} {M : Ms} {t : Nat → Nat}
theorem M_rowsOf (W : RM h0 h F A R) (hc : ∀ c, c < 4 → A 169 c = nI (t c)) (hs : smf t 4 ≤ 10) {e l : Nat} (he : 1 ≤ e) (he2 : e ≤ 10) {x : Int32} (hx : (x = -1 ∧ l = 4) ∨ (x = nI l ∧ l < 4 ∧ 2 ≤ t l)) (hQ : Q (some (.long (lN (rOv t e l)))) h) : am_call (d + 2) 275 [.ref 152, .int (nI e), .int x, .int x] h Q := by
  have tl : ∀ c, c < 4 → t c ≤ 10 := fun c hc => by
    have h4 : smf t 4 = 0 + t 0 + t 1 + t 2 + t 3 := rfl
    rcases (by omega : c = 0 ∨ c = 1 ∨ c = 2 ∨ c = 3) with q | q | q | q <;> subst q <;> omega
  have ex : ∀ c, c < 4 → (nI c = x ↔ c = l) := fun c hc => by
    rcases hx with ⟨rfl, rfl⟩ | ⟨rfl, h4, _⟩
    · exact ⟨fun z => absurd z (by rcases (by omega : c = 0 ∨ c = 1 ∨ c = 2 ∨ c = 3) with q | q | q | q <;> subst q <;> decide), fun z => by omega⟩
    · exact nI_eq (by omega) (by omega)
  refine en_X11_rowsOf (Nat.le_of_ble_eq_true rfl) ?_
  refine am_run (am_cK _) 6 (show am_wp (am_call (d + 1)) (0, 0) cm_X11_rowsOf Q (fun _ => False) (9, [some (.ref 152), some (.int (nI e)), some (.int x), some (.int x), some (.long (lN 1)), none, some (.int (nI 0)), some (.int (nI 0)), none, none], [], 0, 0) h from ?_)
  refine am_loopP (α := Option Value × Option Value) (fun c y => (9, [some (.ref 152), some (.int (nI e)), some (.int x), some (.int x), some (.long (lN (rO t e l c).2)), none, some (.int (nI (rO t e l c).1)), some (.int (nI c)), y.1, y.2], [], 0, 0)) (fun _ _ => True) 4 (fun c y hc4 _ K => ?_) (fun y _ => ?_) 0 (none, none) (Nat.zero_le _) trivial
  · obtain ⟨y1, y2⟩ := y
    have tc := tl c hc4
    have rl := rO_le (t := t) (e := e) (l := l) he hs c (by omega)
    have rl2 := rO_le (t := t) (e := e) (l := l) he hs (c + 1) (by omega)
    have sm : smf t (c + 1) ≤ 10 := by
      have h4 : smf t 4 = 0 + t 0 + t 1 + t 2 + t 3 := rfl
      have e1 : smf t (c + 1) ≤ smf t 4 := by
        rcases (by omega : c = 0 ∨ c = 1 ∨ c = 2 ∨ c = 3) with q | q | q | q <;> subst q
        · show 0 + t 0 ≤ _; omega
        · show 0 + t 0 + t 1 ≤ _; omega
        · show 0 + t 0 + t 1 + t 2 ≤ _; omega
        · exact Nat.le_refl _
      omega
    have em : (rO t e l (c + 1)).1 = (rO t e l c).1 + rMn t e l c := rfl
    have emv : rMn t e l c = (t c - (if c = l then 2 else 0)) / e := rfl
    refine am_run (am_cK _) 3 (pk_le 4 c (fun c => by omega) (fun _ => ?_))
    refine am_run (am_cK _) 2 (am_obj_in W.o (am_run (am_cK _) 2 (am_ld W.a169 c (by omega) ?_)))
    rw [nI_clamp (by omega), hc c hc4]
    -- the inner loop
    have go : ∀ v : Int32, v = nI (t c - (if c = l then 2 else 0)) → am_wp (am_call (d + 1)) (0, 0) cm_X11_rowsOf Q (fun _ => False) (52, [some (.ref 152), some (.int (nI e)), some (.int x), some (.int x), some (.long (lN (rO t e l c).2)), none, some (.int (nI (rO t e l c).1)), some (.int (nI c)), y1, y2], [.int v], 0, 0) h := fun v hv => by
      subst hv
      refine am_run (am_cK _) 2 ⟨nI_ne0 (by omega) (by omega), ?_⟩
      rw [pk_div (by omega) (by omega) (by omega), ← emv]
      refine am_run (am_cK _) 3 (show am_wp (am_call (d + 1)) (0, 0) cm_X11_rowsOf Q (fun _ => False) (59, [some (.ref 152), some (.int (nI e)), some (.int x), some (.int x), some (.long (lN (rO t e l c).2)), none, some (.int (nI (rO t e l c).1)), some (.int (nI c)), some (.int (nI (rMn t e l c))), some (.int (nI (0 + 1)))], [], 0, 0) h from ?_)
      refine am_loopC (fun m => (59, [some (.ref 152), some (.int (nI e)), some (.int x), some (.int x), some (.long (lN (rI (rO t e l c).1 (rO t e l c).2 m))), none, some (.int (nI ((rO t e l c).1 + m))), some (.int (nI c)), some (.int (nI (rMn t e l c))), some (.int (nI (m + 1)))], [], 0, 0)) (rMn t e l c) (fun m hm K2 => ?_) ?_ 0 (Nat.zero_le _)
      · refine am_run (am_cK _) 3 (pk_lt (rMn t e l c) (m + 1) (fun c => by omega) (fun _ => ?_))
        have b1 := rI_le (rO t e l c).1 (rO t e l c).2 m (by omega)
        have b2 : (rO t e l c).2 * 10 ^ m ≤ 10 ^ 10 := by
          refine Nat.le_trans (Nat.mul_le_mul_right _ rl.2) ?_
          rw [← Nat.pow_add]
          exact Nat.pow_le_pow_right (by decide) (by omega)
        refine am_run (am_cK _) 7 (show am_wp (am_call (d + 1)) (0, 0) cm_X11_rowsOf Q (fun _ => False) (78, [some (.ref 152), some (.int (nI e)), some (.int x), some (.int x), some (.long (lN (rI (rO t e l c).1 (rO t e l c).2 m))), none, some (.int (nI ((rO t e l c).1 + m) + 1)), some (.int (nI c)), some (.int (nI (rMn t e l c))), some (.int (nI (m + 1)))], [.long (nI (m + 1)).toInt64, .long (lN (rI (rO t e l c).1 (rO t e l c).2 m) * (nI ((rO t e l c).1 + m) + 1).toInt64)], 0, 0) h from ?_)
        rw [nI_1, nI_l (by omega), nI_l (by omega), lN_mul]
        have b3 : rI (rO t e l c).1 (rO t e l c).2 m * ((rO t e l c).1 + m + 1) ≤ 10 ^ 10 * 10 := Nat.mul_le_mul (by omega) (by omega)
        refine am_run (am_cK _) 1 ⟨fun z => by have := (lN_eq (b := 0) (by omega) (by omega)).mp z; omega, ?_⟩
        rw [pk_lDiv (Nat.lt_of_le_of_lt b3 (by decide)) (by omega) (by omega)]
        rw [rI, ← Nat.add_assoc, nI_succ (m + 1)] at K2
        exact am_run (am_cK _) 3 (K2)
      · refine am_run (am_cK _) 3 (pk_lt (rMn t e l c) (rMn t e l c + 1) (fun _ => ?_) (fun c => by omega))
        have K3 := K (some (.int (nI (rMn t e l c))), some (.int (nI (rMn t e l c + 1)))) trivial
        simp only at K3
        rw [nI_succ c] at K3
        exact am_run (am_cK _) 2 (K3)
    by_cases cl : c = l
    · have h2 : 2 ≤ t c := by
        rcases hx with ⟨_, q⟩ | ⟨_, _, q⟩
        · omega
        · rw [cl]; exact q
      have ec := (ex c hc4).mpr cl
      refine am_run (am_cK _) 3 (⟨fun z => absurd ec z, fun _ => am_run (am_cK _) 3 (M_flag1 (am_run (am_cK _) 4 ⟨fun z => absurd ec z, fun _ => am_run (am_cK _) 3 (M_flag1 (am_run (am_cK _) 1 (go _ ?_)))⟩))⟩)
      rw [if_pos cl, show nI (t c) - 1 = nI (t c - 1) from pk_sub (a := t c) (b := 1) (by omega)]
      exact (pk_sub (a := t c - 1) (b := 1) (by omega)).trans (congrArg nI (by omega))
    · have ec := fun z => cl ((ex c hc4).mp z)
      refine am_run (am_cK _) 3 (⟨fun _ => am_run (am_cK _) 2 (M_flag0 (am_run (am_cK _) 4 ⟨fun _ => am_run (am_cK _) 2 (M_flag0 (am_run (am_cK _) 1 (go _ ?_))), fun z => absurd (Classical.not_not.mp z) ec⟩)), fun z => absurd (Classical.not_not.mp z) ec⟩)
      rw [if_neg cl, show nI (t c) - 0 = nI (t c) from pk_sub (a := t c) (b := 0) (by omega)]
      exact pk_sub (a := t c) (b := 0) (by omega)
  · exact am_run (am_cK _) 3 (pk_le 4 4 (fun _ => am_run (am_cK _) 2 (hQ)) (fun c => by omega))
theorem M_oddOnes (W : RM h0 h F A R) (hc : ∀ c, c < 4 → A 169 c = nI (t c)) (tl : ∀ c, c < 4 → t c ≤ 10) (hQ : Q (some (.int (nI (odO t)))) h) : am_call (d + 1) 276 [.ref 152] h Q := by
  refine en_X11_oddOnes (Nat.le_of_ble_eq_true rfl) (am_run (am_cK _) 4 ?_)
  refine am_loopC (fun c => (4, [some (.ref 152), some (.int (nI (smf (fun c => t c % 2) c))), some (.int (nI c))], [], 0, 0)) 4 (fun c hc4 K => ?_) ?_ 0 (Nat.zero_le _)
  · have := tl c hc4
    refine am_run (am_cK _) 3 (pk_le 4 c (fun c => by omega) (fun _ => ?_))
    refine am_run (am_cK _) 3 (am_obj_in W.o (am_run (am_cK _) 2 (am_ld W.a169 c (by omega) ?_)))
    rw [nI_clamp (by omega), hc c hc4]
    refine am_run (am_cK _) 2 (⟨show ¬ (2 : Int32) = 0 by decide, ?_⟩)
    rw [show nI (t c) - nI (t c) / 2 * 2 = nI (t c % 2) from pk_rem (a := t c) (d := 2) (by omega) (by omega) (by omega)]
    rw [smf, ← nI_add, nI_succ c] at K
    exact am_run (am_cK _) 4 (K)
  · exact am_run (am_cK _) 3 (pk_le 4 4 (fun _ => am_run (am_cK _) 2 (hQ)) (fun c => by omega))
theorem M_goesInto (W : RM h0 h F A R) (hc : ∀ c, c < 4 → A 169 c = nI (t c)) (tl : ∀ c, c < 4 → t c ≤ 10) {e : Nat} (he : 1 ≤ e) (he2 : e ≤ 10) (hQ : Q (some (.int (bI (allB (fun c => t c % e == 0) 4)))) h) : am_call (d + 1) 277 [.ref 152, .int (nI e)] h Q := by
  refine en_X11_goesInto (Nat.le_of_ble_eq_true rfl) (am_run (am_cK _) 4 ?_)
  refine am_loopC (fun c => (4, [some (.ref 152), some (.int (nI e)), some (.int (bI (allB (fun c => t c % e == 0) c))), some (.int (nI c))], [], 0, 0)) 4 (fun c hc4 K => ?_) ?_ 0 (Nat.zero_le _)
  · have := tl c hc4
    refine am_run (am_cK _) 3 (pk_le 4 c (fun c => by omega) (fun _ => ?_))
    rw [allB, nI_succ c] at K
    cases hb : allB (fun c => t c % e == 0) c with
    | false =>
      rw [hb, Bool.false_and] at K
      exact am_run (am_cK _) 2 (⟨fun _ => am_run (am_cK _) 4 (K), fun c => absurd rfl c⟩)
    | true =>
      rw [hb, Bool.true_and] at K
      refine am_run (am_cK _) 2 (⟨fun c => absurd c n10, fun _ => ?_⟩)
      refine am_run (am_cK _) 2 (am_obj_in W.o (am_run (am_cK _) 2 (am_ld W.a169 c (by omega) ?_)))
      rw [nI_clamp (by omega), hc c hc4]
      refine am_run (am_cK _) 2 (⟨nI_ne0 (by omega) (by omega), ?_⟩)
      rw [show nI (t c) - nI (t c) / nI e * nI e = nI (t c % e) from pk_rem (by omega) (by omega) (by omega)]
      have hml : t c % e < e := Nat.mod_lt _ (by omega)
      refine am_run (am_cK _) 1 (⟨fun z => ?_, fun z => ?_⟩)
      · rw [show (t c % e == 0) = false from beq_eq_false_iff_ne.mpr (fun w => z (by rw [w]; rfl))] at K
        exact am_run (am_cK _) 4 (K)
      · rw [show (t c % e == 0) = true by rw [beq_iff_eq]; exact (nI_eq (b := 0) (by omega) (by omega)).mp (Classical.not_not.mp z)] at K
        exact am_run (am_cK _) 5 (K)
  · exact am_run (am_cK _) 3 (pk_le 4 4 (fun _ => am_run (am_cK _) 2 (⟨bI_fit _, hQ⟩)) (fun c => by omega))
theorem M_flippedRows (W : RM h0 h F A R) (hc : ∀ c, c < 4 → A 169 c = nI (t c)) (hs : smf t 4 ≤ 10) {n : Nat} (hn : n ≤ 10) (two : Bool) (hQ : Q (some (.long (lN (fRw t n two)))) h) : am_call (d + 3) 278 [.ref 152, .int (nI n), .int (bI two)] h Q := by
  have tl : ∀ c, c < 4 → t c ≤ 10 := fun c hc => by
    have h4 : smf t 4 = 0 + t 0 + t 1 + t 2 + t 3 := rfl
    rcases (by omega : c = 0 ∨ c = 1 ∨ c = 2 ∨ c = 3) with q | q | q | q <;> subst q <;> omega
  have od4 : odO t ≤ 4 := by
    show 0 + t 0 % 2 + t 1 % 2 + t 2 % 2 + t 3 % 2 ≤ 4
    omega
  unfold fRw at hQ
  refine en_X11_flippedRows (Nat.le_of_ble_eq_true rfl) ?_
  refine am_run (am_cK _) 3 (⟨show ¬ (2 : Int32) = 0 by decide, ?_⟩)
  rw [show nI n - nI n / 2 * 2 = nI (n % 2) from pk_rem (a := n) (d := 2) (by omega) (by omega) (by omega)]
  refine am_run (am_cK _) 2 (⟨fun c => ?_, fun c => ?_⟩)
  · rw [if_neg (fun z => c (by rw [z]; rfl))] at hQ
    cases two with
    | false =>
      rw [if_pos rfl] at hQ
      refine am_run (am_cK _) 2 (⟨fun z => absurd rfl z, fun _ => ?_⟩)
      refine am_run (am_cK _) 2 (am_obj_in W.o ((M_oddOnes W hc tl ?_)))
      refine am_run (am_cK _) 1 (⟨fun z => ?_, fun z => ?_⟩)
      · rw [if_neg (fun w => z (by rw [w]; rfl))] at hQ
        exact am_run (am_cK _) 2 (hQ)
      · rw [if_pos ((nI_eq (b := 0) (by omega) (by omega)).mp (Classical.not_not.mp z))] at hQ
        exact am_run (am_cK _) 5 (am_obj_in W.o ((M_rowsOf (e := 2) W hc hs (by omega) (by omega) (Or.inl ⟨rfl, rfl⟩) (am_run (am_cK _) 2 (hQ)))))
    | true =>
      rw [if_neg (by decide)] at hQ
      refine am_run (am_cK _) 2 (⟨fun _ => ?_, fun z => absurd n10 z⟩)
      refine am_run (am_cK _) 2 (am_obj_in W.o ((M_oddOnes W hc tl ?_)))
      refine am_run (am_cK _) 2 (⟨fun z => ?_, fun z => ?_⟩)
      · rw [if_neg (fun w => z (by rw [w]; rfl))] at hQ
        refine am_run (am_cK _) 4 (show am_wp (am_call (d + 2)) (0, 0) cm_X11_flippedRows Q (fun _ => False) (75, [some (.ref 152), some (.int (nI n)), some (.int (bI true)), some (.long (lN 0)), none, some (.int (nI 0))], [], 0, 0) h from ?_)
        by_cases o0 : odO t = 0
        · refine am_loopC (fun c => (75, [some (.ref 152), some (.int (nI n)), some (.int (bI true)), some (.long (lN (smf (fun c => if odO t = 0 ∧ 1 < t c then rOv t 2 c else 0) c))), none, some (.int (nI c))], [], 0, 0)) 4 (fun c hc4 K => ?_) ?_ 0 (Nat.zero_le _)
          · have := tl c hc4
            refine am_run (am_cK _) 3 (pk_le 4 c (fun c => by omega) (fun _ => ?_))
            refine am_run (am_cK _) 2 (am_obj_in W.o ((M_oddOnes W hc tl ?_)))
            refine am_run (am_cK _) 1 (⟨fun z => absurd (show nI (odO t) = 0 by rw [o0]; rfl) z, fun _ => ?_⟩)
            refine am_run (am_cK _) 3 (am_obj_in W.o (am_run (am_cK _) 2 (am_ld W.a169 c (by omega) ?_)))
            rw [nI_clamp (by omega), hc c hc4]
            rw [smf, ← lN_add, nI_succ c] at K
            refine am_run (am_cK _) 2 (pk_le (t c) 1 (fun z => ?_) (fun z => ?_))
            · rw [if_neg (by omega)] at K
              exact am_run (am_cK _) 5 (K)
            · rw [if_pos ⟨o0, z⟩] at K
              exact am_run (am_cK _) 5 (am_obj_in W.o ((M_rowsOf (e := 2) W hc hs (by omega) (by omega) (Or.inr ⟨rfl, hc4, z⟩) (am_run (am_cK _) 5 (K)))))
          · exact am_run (am_cK _) 3 (pk_le 4 4 (fun _ => am_run (am_cK _) 2 (hQ)) (fun c => by omega))
        · refine am_run (am_cK _) 3 (pk_le 4 0 (fun c => by omega) (fun _ => ?_))
          refine am_run (am_cK _) 2 (am_obj_in W.o ((M_oddOnes W hc tl ?_)))
          refine am_run (am_cK _) 1 (⟨fun _ => ?_, fun z => absurd ((nI_eq (b := 0) (by omega) (by omega)).mp (Classical.not_not.mp z)) o0⟩)
          have e0 : ∀ m, smf (fun c => if odO t = 0 ∧ 1 < t c then rOv t 2 c else 0) m = 0 := fun m => by
            induction m with
            | zero => rfl
            | succ m ih => rw [smf, ih, if_neg (fun w => o0 w.1)]
          rw [e0] at hQ
          exact am_run (am_cK _) 2 (hQ)
      · rw [if_pos ((nI_eq (b := 2) (by omega) (by omega)).mp (Classical.not_not.mp z))] at hQ
        refine am_run (am_cK _) 6 (am_obj_in W.o ((M_rowsOf (e := 2) W hc hs (by omega) (by omega) (Or.inl ⟨rfl, rfl⟩) ?_)))
        refine am_run (am_cK _) 2 (show Q (some (.long (lN 2 * lN (rOv t 2 4)))) h from ?_)
        rw [lN_mul]
        exact hQ
  · rw [if_pos ((nI_eq (b := 1) (by omega) (by omega)).mp (Classical.not_not.mp c))] at hQ
    refine am_run (am_cK _) 2 (am_obj_in W.o ((M_oddOnes W hc tl ?_)))
    refine am_run (am_cK _) 2 (⟨fun z => ?_, fun z => ?_⟩)
    · rw [if_neg (fun w => z (by rw [w]; rfl))] at hQ
      exact am_run (am_cK _) 2 (hQ)
    · rw [if_pos ((nI_eq (b := 1) (by omega) (by omega)).mp (Classical.not_not.mp z))] at hQ
      exact am_run (am_cK _) 5 (am_obj_in W.o ((M_rowsOf (e := 2) W hc hs (by omega) (by omega) (Or.inl ⟨rfl, rfl⟩) (am_run (am_cK _) 2 (hQ)))))
theorem M_entersFraction (W : RM h0 h F A R) {up dn : Nat} (hu : 1 ≤ up) (hu2 : up ≤ 20) (hd : dn < 2 ^ 30) (hQ : ∀ h', RM h0 h' (upd (upd (upd F 1 0) 1 (nI 1)) 1 (nI 2)) A (vp_updL (vp_updL R 0 (lN (up / Nat.gcd up dn))) 1 (lN (dn / Nat.gcd up dn))) → Q (some (.int 0)) h') : am_call (d + 26) 181 [.ref 152, .long (nI up).toInt64, .long (lN dn)] h Q := by
  have hg1 := Nat.gcd_pos_of_pos_left dn hu
  have hg2 : Nat.gcd up dn ≤ up := Nat.gcd_le_left dn hu
  rw [nI_l (by omega)]
  refine en_X11_entersFraction (Nat.le_of_ble_eq_true rfl) ?_
  have key : ∀ {Q : Option Value → am_H → Prop}, Q (some (.long (lN (Nat.gcd up dn)))) h → am_call (d + 25) 179 [.long (lN up), .long (lN dn)] h Q := fun {Q} q => by
    by_cases c : dn < 25
    · exact M_common (d := d) 25 up dn c (by omega) (by omega) q
    · have hdn : 0 < dn := by omega
      refine en_X11_common (Nat.le_of_ble_eq_true rfl) ?_
      refine am_run (am_cK _) 4 ⟨fun _ => ?_, fun z => ?_⟩
      · refine am_run (am_cK _) 4 ⟨fun z => by have := (lN_eq (b := 0) (by omega) (by omega)).mp z; omega, ?_⟩
        rw [show lN up - lN up / lN dn * lN dn = lN (up % dn) from pk_lRem (by omega) hdn (by omega), Nat.mod_eq_of_lt (by omega)]
        refine am_run (am_cK _) 1 (M_common (d := d) 24 dn up (by omega) (by omega) (by omega) ?_)
        rw [Nat.gcd_comm]
        exact am_run (am_cK _) 1 q
      · have z2 := (lN_eq (b := 0) (by omega) (by omega)).mp ((lg_cmp_eq (lN dn) (lN 0)).mp (Classical.not_not.mp z))
        omega
  have nz : ¬ lN (Nat.gcd up dn) = 0 := fun z => by
    have := (lN_eq (b := 0) (by omega) (by omega)).mp z
    omega
  refine am_run (am_cK _) 3 (key ?_)
  refine am_run (am_cK _) 4 (am_putI W rfl (by decide) (fun h1 W1 => ?_))
  refine am_run (am_cK _) 4 (⟨nz, ?_⟩)
  rw [pk_lDiv (by omega) hg1 (by omega)]
  refine am_run (am_cK _) 1 (am_obj_in W1.o ((M_enters W1 (m := 0) rfl (by omega) _ (fun h2 W2 => ?_))))
  refine am_run (am_cK _) 4 (⟨nz, ?_⟩)
  rw [pk_lDiv (by omega) hg1 (by omega)]
  refine am_run (am_cK _) 1 (am_obj_in W2.o ((M_enters W2 (m := 1) rfl (by omega) _ (fun h3 W3 => ?_))))
  exact am_run (am_cK _) 2 (hQ h3 W3)
theorem Z_ways (hY : RY h M) (hQ : ∀ h', Fy h h' → RY h' (oWays M).2 → Q (some (.int (oWays M).1)) h') : am_call (d + 30) 279 [.ref 152] h Q := by
  obtain ⟨F, A, R, W, iv⟩ := hY
  obtain ⟨t1, t2, t3⟩ := id iv.t
  unfold oWays at hQ
  refine en_X11_ways (Nat.le_of_ble_eq_true rfl) ?_
  refine am_run (am_cK _) 3 (am_putI W rfl (by decide) (fun h1 W1 => ?_))
  refine am_run (am_cK _) 2 (am_obj_in W1.o ((M_readsWord W1 t1 t2 t3 (fun h2 gw W2 hg hw10 => ?_))))
  have ivT : Iv (upd (upd (bgF (upd F 0 0) (mT M).1) 11 (nI (wPl (mT M).2 (mT M).1))) 7 (nI (wPl (mT M).2 (mT M).1))) (va_up A 157 gw) R (pT M (0, (mT M).2)) := ⟨iv.s, iv.u, iv.k, ⟨rfl, Nat.zero_le _, fun i hi => absurd hi (Nat.not_lt_zero i)⟩, iv.d, iv.f, iv.hr, iv.l⟩
  by_cases hw : wFl (mT M).2 (mT M).1 = 0
  · rw [if_pos hw] at hQ
    obtain ⟨ew, hn0, hn10⟩ := wPl_ok hw
    rw [hw]
    rw [ew] at W2 hg ivT
    unfold oWaysN at hQ
    simp only at hQ
    have hg4 : ∀ i, i < (mT M).1 → wBd (mT M).2 i < 4 := fun i hi => (hg i hi).2
    have wo := wok_use (wok_tal hn0 hn10 hg4)
    have ts := tal_smf hg4
    have ta := tal_at (wBd (mT M).2) (mT M).1
    have r11 : upd (upd (bgF (upd F 0 0) (mT M).1) 11 (nI (mT M).1)) 7 (nI (mT M).1) 11 = nI (mT M).1 := rfl
    generalize hF2 : upd (upd (bgF (upd F 0 0) (mT M).1) 11 (nI (mT M).1)) 7 (nI (mT M).1) = F2 at *
    generalize hf : wBd (mT M).2 = wd at *
    generalize hnn : (mT M).1 = n at *
    generalize htt : tal wd n = t at *
    have tl : ∀ c, c < 4 → t c ≤ 10 := fun c hc => by rw [ta c hc]; have := num_le wd n c; omega
    refine am_run (am_cK _) 3 (⟨fun _ => ?_, fun z => absurd (show (0 : Int32) ≤ 0 by decide) z⟩)
    refine am_run (am_cK _) 2 (show am_wp (am_call (d + 29)) (0, 0) cm_X11_ways Q (fun _ => False) (18, [some (.ref 152), some (.int 0), some (.int (nI 0)), none, none, none, none, none, none], [], 0, 0) h2 from ?_)
    refine am_lp (α := Nat → Int32) (fun c _ => (18, [some (.ref 152), some (.int 0), some (.int (nI c)), none, none, none, none, none, none], [], 0, 0)) (fun c ct h' => RM h h' F2 (va_up (va_up A 157 gw) 169 ct) R ∧ ∀ i, i < c → ct i = nI (t i)) 4 (fun c ct h3 hc P K => ?_) (fun ct h3 P => ?_) 0 (A 169) h2 (Nat.zero_le _) ⟨by rw [va_same (A := va_up A 157 gw) (p := 169) (x := A 169) rfl]; exact W2, fun i hi => by omega⟩
    · obtain ⟨W3, p3⟩ := P
      refine am_run (am_cK _) 3 (pk_le 4 c (fun c => by omega) (fun _ => ?_))
      refine am_run (am_cK _) 2 (am_obj_in W3.o (am_run (am_cK _) 4 (am_obj_in W3.o ((M_ofWord (wd := wd) W3 r11 hn10 (fun i hi => ⟨(hg i hi).1, hg4 i hi⟩) (by omega) ?_)))))
      refine am_run (am_cK _) 1 (am_stI (p := 169) W3 (j := c) rfl (show c < 4 by omega) rfl (fun h4 W4 => ?_))
      rw [am_up_s, va_up2] at W4
      have K2 := K _ h4 ⟨W4, fun i hi => (by
        by_cases e : i = c
        · subst e; rw [upd_s, ta i hc]
        · exact (upd_n e).trans (p3 i (by omega)))⟩
      rw [nI_succ c] at K2
      exact am_run (am_cK _) 2 (K2)
    · obtain ⟨W3, p3⟩ := P
      have hct : ∀ c, c < 4 → va_up (va_up A 157 gw) 169 ct 169 c = nI (t c) := p3
      refine am_run (am_cK _) 3 (pk_le 4 4 (fun _ => ?_) (fun c => by omega))
      refine am_run (am_cK _) 2 (am_obj_in W3.o (show am_steps (am_call (d + 29)) (0, 0) cm_X11_ways Q (fun _ => False) (am_wp (am_call (d + 29)) (0, 0) cm_X11_ways Q (fun _ => False)) 0 (44, [some (.ref 152), some (.int 0), some (.int (nI 4)), none, none, none, none, none, none], [.int (F2 11)], 0, 0) h3 from ?_))
      rw [r11]
      refine am_run (am_cK _) 3 (show am_wp (am_call (d + 29)) (0, 0) cm_X11_ways Q (fun _ => False) (47, [some (.ref 152), some (.int 0), some (.int (nI n)), some (.long (lN 0)), none, none, none, none, none], [], 0, 0) h3 from ?_)
      refine am_run (am_cK _) 4 (show am_wp (am_call (d + 29)) (0, 0) cm_X11_ways Q (fun _ => False) (53, [some (.ref 152), some (.int 0), some (.int (nI n)), some (.long (lN 0)), none, some (.long (lN 0)), none, some (.int (nI 0)), none], [], 0, 0) h3 from ?_)
      refine am_loopP (α := Option Value) (fun i y => (53, [some (.ref 152), some (.int 0), some (.int (nI n)), some (.long (lN (smf (wrl t n) i))), none, some (.long (lN (smf (fun i => fRw t n (i % 2 == 1)) i))), none, some (.int (nI i)), y], [], 0, 0)) (fun _ _ => True) n (fun i y hi _ K => ?_) (fun y _ => ?_) 0 none (Nat.zero_le _) trivial
      · have hgl : Nat.gcd n i ≤ n := Nat.gcd_le_left i hn0
        have hgp : 0 < Nat.gcd n i := Nat.gcd_pos_of_pos_left i hn0
        have he1 : 1 ≤ n / Nat.gcd n i := (Nat.one_le_div_iff hgp).mpr hgl
        have he2 : n / Nat.gcd n i ≤ n := Nat.div_le_self _ _
        refine am_run (am_cK _) 3 (pk_le n i (fun c => by omega) (fun _ => ?_))
        refine am_run (am_cK _) 4 (M_ringsOf hn10 (by omega) ?_)
        refine am_run (am_cK _) 1 (⟨nI_ne0 hgp (by omega), ?_⟩)
        rw [pk_div (by omega) hgp (by omega)]
        have K2 := K (some (.int (nI (n / Nat.gcd n i)))) trivial
        rw [smf, smf, nI_succ i, ← lN_add (smf (wrl t n) i), ← lN_add (smf (fun i => fRw t n (i % 2 == 1)) i)] at K2
        have sec : am_wp (am_call (d + 29)) (0, 0) cm_X11_ways Q (fun _ => False) (95, [some (.ref 152), some (.int 0), some (.int (nI n)), some (.long (lN (smf (wrl t n) i) + lN (wrl t n i))), none, some (.long (lN (smf (fun i => fRw t n (i % 2 == 1)) i))), none, some (.int (nI i)), some (.int (nI (n / Nat.gcd n i)))], [.long (lN (smf (fun i => fRw t n (i % 2 == 1)) i))], 0, 0) h3 := by
          refine am_run (am_cK _) 5 ⟨show ¬ (2 : Int32) = 0 by decide, ?_⟩
          rw [show nI i - nI i / 2 * 2 = nI (i % 2) from pk_rem (a := i) (d := 2) (by omega) (by omega) (by omega)]
          refine am_run (am_cK _) 2 (⟨fun z => ?_, fun z => ?_⟩)
          · have e2 : (i % 2 == 1) = false := beq_eq_false_iff_ne.mpr (fun w => z (by rw [w]; rfl))
            rw [e2] at K2
            refine am_run (am_cK _) 2 (am_obj_in W3.o ((M_flippedRows (t := t) W3 hct (by omega) hn10 false ?_)))
            exact am_run (am_cK _) 4 (K2)
          · have e2 : (i % 2 == 1) = true := by rw [beq_iff_eq]; exact (nI_eq (b := 1) (by omega) (by omega)).mp (Classical.not_not.mp z)
            rw [e2] at K2
            refine am_run (am_cK _) 3 (am_obj_in W3.o ((M_flippedRows (t := t) W3 hct (by omega) hn10 true ?_)))
            exact am_run (am_cK _) 4 (K2)
        refine am_run (am_cK _) 1 (show am_wp (am_call (d + 29)) (0, 0) cm_X11_ways Q (fun _ => False) (69, [some (.ref 152), some (.int 0), some (.int (nI n)), some (.long (lN (smf (wrl t n) i))), none, some (.long (lN (smf (fun i => fRw t n (i % 2 == 1)) i))), none, some (.int (nI i)), some (.int (nI (n / Nat.gcd n i)))], [], 0, 0) h3 from ?_)
        refine am_run (am_cK _) 4 (am_obj_in W3.o (M_goesInto (t := t) W3 hct tl he1 (by omega) ?_))
        cases hb : allB (fun c => t c % (n / Nat.gcd n i) == 0) 4 with
        | false =>
          have ewr : wrl t n i = 0 := by unfold wrl; rw [hb]; rfl
          rw [ewr] at sec
          exact am_run (am_cK _) 1 (⟨fun _ => am_run (am_cK _) 4 sec, fun z => absurd rfl z⟩)
        | true =>
          have ewr : wrl t n i = rOv t (n / Nat.gcd n i) 4 := by unfold wrl; rw [hb]; rfl
          rw [ewr] at sec
          refine am_run (am_cK _) 1 (⟨fun z => absurd z n10, fun _ => ?_⟩)
          refine am_run (am_cK _) 5 (am_obj_in W3.o ((M_rowsOf (t := t) W3 hct (by omega) he1 (by omega) (Or.inl ⟨rfl, rfl⟩) ?_)))
          exact am_run (am_cK _) 4 sec
      · refine am_run (am_cK _) 3 (pk_le n n (fun _ => ?_) (fun c => by omega))
        rw [← wo.1, ← wo.2.1]
        refine am_run (am_cK _) 3 (am_putI W3 rfl (by decide) (fun h4 W4 => ?_))
        have nz : ¬ (nI n).toInt64 = 0 := fun z => by
          rw [nI_l (by omega)] at z
          have := (lN_eq (b := 0) (by omega) (by omega)).mp z
          omega
        refine am_run (am_cK _) 5 (⟨nz, ?_⟩)
        rw [show lN (tkr t n) / (nI n).toInt64 = lN (tkr t n / n) by rw [nI_l (by omega)]; exact pk_lDiv (by omega) (by omega) (by omega)]
        refine am_run (am_cK _) 1 (am_obj_in W4.o ((M_enters W4 (m := 0) rfl (by omega) _ (fun h5 W5 => ?_))))
        refine am_run (am_cK _) 6 (am_obj_in W5.o ((M_rowsOf (e := 1) (t := t) W5 hct (by omega) (by omega) (by omega) (Or.inl ⟨rfl, rfl⟩) ?_)))
        rw [← wo.2.2.1]
        refine am_run (am_cK _) 1 (am_obj_in W5.o ((M_enters W5 (m := 1) rfl (by omega) _ (fun h6 W6 => ?_))))
        refine am_run (am_cK _) 7 (show am_wp (am_call (d + 29)) (0, 0) cm_X11_ways Q (fun _ => False) (154, _, [.long ((2 * nI n).toInt64), .long (lN (tkr t n) + lN (tkf t n))], _) h6 from ?_)
        rw [two_n, lN_add, nI_l (by omega)]
        refine am_run (am_cK _) 1 ⟨fun z => by have := (lN_eq (b := 0) (by omega) (by omega)).mp z; omega, ?_⟩
        rw [pk_lDiv (by omega) (by omega) (by omega)]
        refine am_run (am_cK _) 2 (show Q (some (.int (lN ((tkr t n + tkf t n) / (2 * n))).toInt32)) h6 from ?_)
        rw [lN_i]
        refine hQ h6 W6.y ⟨_, _, _, W6.re, ivT.s, ivT.u, ivT.k, ivT.t, ⟨rfl, by show 2 ≤ 16; omega, fun i hi => i_lt2 (P := fun i => vp_updL (vp_updL R 0 (lN (tkr t n / n))) 1 (lN (rwO t 1)) i = (w2 (nI (tkr t n / n)) (nI (rwO t 1)) i).toInt64) hi ?_ ?_⟩, ivT.f, ivT.hr, ivT.l⟩
        · exact (nI_l (Nat.lt_of_le_of_lt (Nat.div_le_self _ _) (by omega))).symm
        · exact (nI_l (by omega)).symm
  · rw [if_neg hw] at hQ
    exact am_run (am_cK _) 3 (⟨fun z => absurd (wFl_neg hw) (Int32.not_lt.mpr z), fun _ => am_run (am_cK _) 2 (hQ h2 W2.y ⟨_, _, _, W2.re, ivT⟩)⟩)
theorem Z_odds (hY : RY h M) (b : Int32) (hQ : ∀ h', Fy h h' → RY h' (oOdds M b).2 → Q (some (.int (oOdds M b).1)) h') : am_call (d + 30) 294 [.ref 152, .int b] h Q := by
  obtain ⟨F, A, R, W, iv⟩ := hY
  have hs := iv.s.2
  have hN := hs.1
  unfold oOdds at hQ
  refine en_X11_odds (Nat.le_of_ble_eq_true rfl) ?_
  refine am_run (am_cK _) 3 (am_putI W rfl (by decide) (fun h1 W1 => ?_))
  refine am_run (am_cK _) 3 (am_obj_in W1.o ((M_isRing W1 iv.s.1.1 hN b (fun j hj e => ?_) (fun c => ?_))))
  · subst e
    rw [if_neg (S_no hs hj), nI_clamp (by omega)] at hQ
    have hz := hs.2.1 j hj
    have hr := iv.s.1.2.2.2 j hj
    unfold oOddsN at hQ
    simp only at hQ
    refine am_run (am_cK _) 1 (⟨fun _ => ?_, fun z => absurd n10 z⟩)
    refine am_run (am_cK _) 3 (am_obj_in W1.o (am_run (am_cK _) 2 (am_obj_in W1.o ((M_looksAt W1 (Or.inl rfl) (by omega) (by omega) hz.2.1 hr.1 hr.2 hz.2.2 (fun h2 g W2 hL => ?_))))))
    obtain ⟨hl, hn0, hn10, hg, hf4⟩ := id hL
    have wo := wok_use (wok_tal hn0 hn10 hf4)
    have ts := tal_smf hf4
    have ta := tal_at (sB (mS M) j) (sZ (mS M) j)
    have si := sty_in hn0 hf4
    have cs := cnt_stay hn0 hf4
    generalize hff : sB (mS M) j = f at *
    generalize hnn : sZ (mS M) j = n at *
    generalize htt : tal f n = t at *
    refine am_run (am_cK _) 4 (show am_wp (am_call (d + 29)) (0, 0) cm_X11_odds Q (fun _ => False) (28, [some (.ref 152), some (.int (nI j)), some (.int (nI 0)), some (.int (nI 0))], [], 0, 0) h2 from ?_)
    refine am_loopC (fun i => (28, [some (.ref 152), some (.int (nI j)), some (.int (nI (cnt (fun t => kT f n t == rk f n) i))), some (.int (nI i))], [], 0, 0)) (2 * n) (fun i hi K => ?_) ?_ 0 (Nat.zero_le _)
    · refine am_run (am_cK _) 4 (am_obj_in W2.o (am_run (am_cK _) 2 (pk_le (2 * n) i (fun c => by omega) (fun _ => ?_) (hx := by rw [hl]; exact two_n n))))
      refine am_run (am_cK _) 5 (am_obj_in W2.o ((M_compares (b := 0) W2 hL hi (by omega) (fun v g1 g2 => ?_))))
      rw [kT_0 hn0] at g2
      rw [cnt, nI_succ i] at K
      refine am_run (am_cK _) 1 (⟨fun c => ?_, fun c => ?_⟩)
      · rw [if_neg (by rw [beq_iff_eq]; exact fun z => c (g2.mpr z)), ← nI_add] at K
        exact am_run (am_cK _) 2 (M_flag0 (am_run (am_cK _) 4 (K)))
      · rw [if_pos (by rw [beq_iff_eq]; exact g2.mp (Classical.not_not.mp c)), nI_succ (cnt (fun t => kT f n t == rk f n) i)] at K
        exact am_run (am_cK _) 3 (M_flag1 (am_run (am_cK _) 4 (K)))
    · refine am_run (am_cK _) 4 (am_obj_in W2.o (am_run (am_cK _) 2 (pk_le (2 * n) (2 * n) (fun _ => ?_) (fun c => by omega) (hx := by rw [hl]; exact two_n n))))
      rw [cs]
      refine am_run (am_cK _) 2 (show am_wp (am_call (d + 29)) (0, 0) cm_X11_odds Q (fun _ => False) (66, [some (.ref 152), some (.int (nI j)), some (.int (nI (sty f n))), some (.int (nI 0))], [], 0, 0) h2 from ?_)
      refine am_lp (α := Nat → Int32) (fun c _ => (66, [some (.ref 152), some (.int (nI j)), some (.int (nI (sty f n))), some (.int (nI c))], [], 0, 0)) (fun c ct h' => RM h h' (upd (upd F 0 0) 13 (nI n)) (va_up (va_up A 158 g) 169 ct) R ∧ ∀ i, i < c → ct i = nI (t i)) 4 (fun c ct h3 hc P K => ?_) (fun ct h3 P => ?_) 0 (A 169) h2 (Nat.zero_le _) ⟨by rw [va_same (A := va_up A 158 g) (p := 169) (x := A 169) rfl]; exact W2, fun i hi => by omega⟩
      · obtain ⟨W3, p3⟩ := P
        refine am_run (am_cK _) 3 (pk_le 4 c (fun c => by omega) (fun _ => ?_))
        refine am_run (am_cK _) 2 (am_obj_in W3.o (am_run (am_cK _) 4 (am_obj_in W3.o ((M_ofLook W3 hL (by omega) ?_)))))
        refine am_run (am_cK _) 1 (am_stI (p := 169) W3 (j := c) rfl (show c < 4 by omega) rfl (fun h4 W4 => ?_))
        rw [am_up_s, va_up2] at W4
        have K2 := K _ h4 ⟨W4, fun i hi => (by
          by_cases e : i = c
          · subst e; rw [upd_s, ta i hc]
          · exact (upd_n e).trans (p3 i (by omega)))⟩
        rw [nI_succ c] at K2
        exact am_run (am_cK _) 2 (K2)
      · obtain ⟨W3, p3⟩ := P
        have hct : ∀ c, c < 4 → va_up (va_up A 158 g) 169 ct 169 c = nI (t c) := p3
        have hup : 1 ≤ 2 * n / sty f n := (Nat.one_le_div_iff (by omega)).mpr si.2
        have hup2 : 2 * n / sty f n ≤ 2 * n := Nat.div_le_self _ _
        refine am_run (am_cK _) 3 (pk_le 4 4 (fun _ => ?_) (fun c => by omega))
        refine am_run (am_cK _) 4 (am_obj_in W3.o (am_run (am_cK _) 3 (show ¬ nI (sty f n) = 0 ∧ am_steps (am_call (d + 29)) (0, 0) cm_X11_odds Q (fun _ => False) (am_wp (am_call (d + 29)) (0, 0) cm_X11_odds Q (fun _ => False)) 0 (97, [some (.ref 152), some (.int (nI j)), some (.int (nI (sty f n))), some (.int (nI 4))], [.int (2 * nI n / nI (sty f n)), .ref 152], 0, 0) h3 from ⟨nI_ne0 (by omega) (by omega), ?_⟩)))
        rw [two_n, pk_div (by omega) (by omega) (by omega)]
        generalize hu : 2 * n / sty f n = up at *
        refine am_run (am_cK _) 6 (am_obj_in W3.o ((M_rowsOf (e := 1) (t := t) W3 hct (by omega) (by omega) (by omega) (Or.inl ⟨rfl, rfl⟩) ?_)))
        rw [← wo.2.2.1]
        generalize hdn : rwO t 1 = dn at *
        have hg1 := Nat.gcd_pos_of_pos_left dn hup
        have hg2 : Nat.gcd up dn ≤ up := Nat.gcd_le_left dn hup
        refine am_run (am_cK _) 1 (am_obj_in W3.o ((M_entersFraction W3 (up := up) (dn := dn) hup (by omega) (by omega) (fun h4 W4 => ?_))))
        refine am_run (am_cK _) 1 (hQ h4 W4.y ⟨_, _, _, W4.re, iv.s, iv.u, iv.k, iv.t, ⟨rfl, by show 2 ≤ 16; omega, fun i hi => i_lt2 (P := fun i => vp_updL (vp_updL R 0 (lN (up / Nat.gcd up dn))) 1 (lN (dn / Nat.gcd up dn)) i = (w2 (nI (up / Nat.gcd up dn)) (nI (dn / Nat.gcd up dn)) i).toInt64) hi ?_ ?_⟩, iv.f, iv.hr, iv.l⟩)
        · exact (nI_l (Nat.lt_of_le_of_lt (Nat.div_le_self _ _) (by omega))).symm
        · exact (nI_l (Nat.lt_of_le_of_lt (Nat.div_le_self _ _) (by omega))).symm
  · rw [if_pos c] at hQ
    exact am_run (am_cK _) 1 (⟨fun z => absurd rfl z, fun _ => am_run (am_cK _) 2 (hQ h1 W1.y ⟨_, _, _, W1.re, iv⟩)⟩)
end
