theorem fnd_eq {q : Nat → Bool} : ∀ {k s i : Nat}, s ≤ i → i ≤ s + k → (∀ c, s ≤ c → c < i → q c = false) → (i = s + k ∨ q i = true) → fnd q s k = i
  | 0, s, i, h1, h2, _, _ => by show s = i; omega
  | k + 1, s, i, h1, h2, h3, h4 => by
    rw [fnd]
    by_cases e : s = i
    · subst e
      rcases h4 with h4 | h4
      · omega
      · rw [if_pos h4]
    · rw [if_neg (by rw [h3 s (Nat.le_refl _) (by omega)]; decide)]
      exact fnd_eq (by omega) (by omega) (fun c c1 c2 => h3 c (by omega) c2) (h4.imp_left (fun z => by omega))
theorem txt14 : ∀ j, j < 4 → (am_txt 14).getD j 0 = nI (97 + j) ∧ 97 + j < 256 := by decide
section
variable {d : Nat} {h0 h : am_H} {Q : Option Value → am_H → Prop} {F : Nat → Int32} {A : Nat → Nat → Int32} {R : Nat → Int64} {tx : Nat → Nat} {a t n : Nat}
theorem M_readsWord (W : RM h0 h F A R) (hn : F 6 = nI n) (hn80 : n ≤ 80) (hx : TX A tx n) (hQ : ∀ h' gw, RM h0 h' (upd (upd (bgF F n) 11 (nI (wPl tx n))) 7 (nI (wPl tx n))) (va_up A 157 gw) R → (∀ i, i < wPl tx n → gw i = nI (wBd tx i) ∧ wBd tx i < 4) → wPl tx n ≤ 10 → Q (some (.int (wFl tx n))) h') : am_call (d + 9) 196 [.ref 152] h Q := by
  have hmin : ∀ q, Nat.min n 10 = q ↔ (n ≤ 10 ∧ q = n) ∨ (10 < n ∧ q = 10) := fun q => by
    show min n 10 = q ↔ _
    omega
  have fin : ∀ i h' gw, i ≤ Nat.min n 10 → (∀ q, q < i → nlt tx q = false) → (i = Nat.min n 10 ∨ nlt tx i = true) → RM h0 h' (upd (upd (bgF F n) 11 (nI i)) 7 (nI i)) (va_up A 157 gw) R → (∀ q, q < i → gw q = nI (wBd tx q)) → am_wp (am_call (d + 8)) (0, 0) cm_X11_readsWord Q (fun _ => False) (19, [some (.ref 152), some (.int (-1))], [], 0, 0) h' := by
    intro i h' gw hi hq he W' hg
    have hmn : Nat.min n 10 ≤ n := Nat.min_le_left _ _
    have hm10 : Nat.min n 10 ≤ 10 := Nat.min_le_right _ _
    have ew : wPl tx n = i := fnd_eq (Nat.zero_le _) (by omega) (fun c _ c2 => hq c c2) (he.imp_left (fun z => by omega))
    rw [ew] at hQ
    have hq' := hQ h' gw W' (fun q hq2 => ⟨hg q hq2, by
      have := hq q hq2
      unfold nlt at this
      have := of_decide_eq_false this
      unfold wBd
      omega⟩) (by omega)
    unfold wFl at hq'
    rw [ew] at hq'
    refine am_run (am_cK _) 2 (⟨fun _ => ?_, fun z => absurd (show (-1 : Int32) < 0 by decide) z⟩)
    refine am_run (am_cK _) 2 (am_obj_in W'.o (am_run (am_cK _) 1 (pk_eq i 0 (fun c => ?_) (fun c => ?_) (hx := rfl))))
    · subst c
      refine am_run (am_cK _) 3 (am_obj_in W'.o (am_run (am_cK _) 3 (show Q (some (.int (-1 - nI 0))) h' from ?_)))
      by_cases c1 : 0 < Nat.min n 10
      · rw [if_pos c1] at hq'; exact hq'
      · rw [if_neg c1] at hq'
        rw [if_pos (show n = 0 by have := (hmin (Nat.min n 10)).mp rfl; omega)] at hq'
        exact hq'
    · refine am_run (am_cK _) 2 (am_obj_in W'.o (am_run (am_cK _) 2 (am_obj_in W'.o (am_run (am_cK _) 1 (pk_le n i (fun c1 => ?_) (fun c1 => ?_) (hx := rfl) (hy := rfl))))))
      · rw [if_neg (by omega), if_neg (by omega), if_neg (by omega)] at hq'
        exact am_run (am_cK _) 2 (hq')
      · refine am_run (am_cK _) 3 (am_obj_in W'.o (am_run (am_cK _) 3 (show Q (some (.int (-1 - nI i))) h' from ?_)))
        by_cases c2 : i < Nat.min n 10
        · rw [if_pos c2] at hq'; exact hq'
        · have := (hmin (Nat.min n 10)).mp rfl
          have i10 : i = 10 := by omega
          rw [if_neg c2, if_neg (by omega), if_pos (by omega)] at hq'
          subst i10
          exact hq'
  have att : ∀ k i h' gw, i + k = 10 → 0 < k → i ≤ n → (∀ q, q < i → nlt tx q = false) → RM h0 h' (upd (upd (bgF F n) 11 (nI i)) 7 (nI i)) (va_up A 157 gw) R → (∀ q, q < i → gw q = nI (wBd tx q)) → am_call (d + 8) 192 [.ref 152, .ref 14] h' (fun v h'' => ∃ w, v = some (.int w) ∧ am_wp (am_call (d + 8)) (0, 0) cm_X11_readsWord Q (fun _ => False) (19, [some (.ref 152), some (.int w)], [], 0, 0) h'') := by
    intro k
    induction k with
    | zero => intro i h' gw hi hk; exact absurd hk (Nat.lt_irrefl 0)
    | succ k ih =>
      intro i h' gw hi _ hin hq W' hg
      have hmv := (hmin (Nat.min n 10)).mp rfl
      refine M_takesOf (a := i) (t := n) (tx := tx) (ch := fun j => 97 + j) (L := 4) W' rfl rfl hn80 (by omega) hx (by omega) rfl (by omega) txt14 (fun j hj c1 c2 _ h2 W2 => ?_) (fun c => ?_)
      · refine ⟨nI j, rfl, ?_⟩
        have c2' : 97 + j = tx i := c2
        have hnl : nlt tx i = false := decide_eq_false (by omega)
        have W3 : RM h0 h2 (upd (upd (bgF F n) 11 (nI i)) 7 (nI (i + 1))) (va_up A 157 gw) R := by
          rw [upd_upd] at W2
          exact W2
        refine am_run (am_cK _) 2 (⟨fun z => absurd z (nI_pos (by omega)), fun _ => ?_⟩)
        refine am_run (am_cK _) 2 (am_obj_in W3.o (am_run (am_cK _) 2 (am_obj_in W3.o (am_run (am_cK _) 2 (am_stI (p := 157) W3 (j := i) rfl (show i < 10 by omega) rfl (fun h4 W4 => ?_))))))
        rw [am_up_s, va_up2] at W4
        refine am_run (am_cK _) 3 (am_obj_in W4.o (am_run (am_cK _) 3 (am_putI W4 rfl (by decide) (fun h5 W5 => ?_))))
        have W6 : RM h0 h5 (upd (upd (bgF F n) 11 (nI (i + 1))) 7 (nI (i + 1))) (va_up A 157 (upd gw i (nI j))) R := by
          have w := W5
          rw [show upd (upd (bgF F n) 11 (nI i)) 7 (nI (i + 1)) 11 = nI i from rfl, nI_1, upd_sw (by decide), upd_upd] at w
          exact w
        have hg' : ∀ q, q < i + 1 → upd gw i (nI j) q = nI (wBd tx q) := fun q hq2 => by
          by_cases e : q = i
          · subst e
            rw [upd_s]
            unfold wBd
            rw [← c2', Nat.add_sub_cancel_left]
          · rw [upd_n e]; exact hg q (by omega)
        have hq' : ∀ q, q < i + 1 → nlt tx q = false := fun q hq2 => by
          by_cases e : q = i
          · subst e; exact hnl
          · exact hq q (by omega)
        refine am_run (am_cK _) 2 (am_obj_in W6.o (am_run (am_cK _) 2 (pk_le 10 (i + 1) (fun c3 => ?_) (fun c3 => ?_) (hy := rfl))))
        · exact am_run (am_cK _) 3 (fin (i + 1) h5 _ (by omega) hq' (Or.inl (by omega)) W6 hg')
        · refine am_run (am_cK _) 3 (am_obj_in W6.o ((am_cK _ _ _ _ _ _ (fun v h'' q => ?_) (ih (i + 1) h5 _ (by omega) (by omega) (by omega) hq' W6 hg'))))
          obtain ⟨w, rfl, hw⟩ := q
          exact am_run (am_cK _) 3 (hw)
      · refine ⟨-1, rfl, fin i h' gw (by omega) hq ?_ W' hg⟩
        by_cases c1 : i < n
        · right
          refine decide_eq_true ?_
          have := fun j hj => c c1 j hj
          have a0 := this 0 (by omega)
          have a1 := this 1 (by omega)
          have a2 := this 2 (by omega)
          have a3 := this 3 (by omega)
          omega
        · left; omega
  refine en_X11_readsWord (Nat.le_of_ble_eq_true rfl) ?_
  refine am_run (am_cK _) 3 (am_obj_in W.o ((M_begins (m := 80) W hn hn80 (by omega) (fun h1 W1 => ?_))))
  rw [show Nat.min n 80 = n from Nat.min_eq_left hn80] at W1
  refine am_run (am_cK _) 4 (am_putI W1 rfl (by decide) (fun h2 W2 => ?_))
  have W3 : RM h0 h2 (upd (upd (bgF F n) 11 (nI 0)) 7 (nI 0)) (va_up A 157 (A 157)) R := by
    rw [va_same rfl, upd_same (F := upd (bgF F n) 11 (nI 0)) (i := 7) (show nI 0 = upd (bgF F n) 11 (nI 0) 7 from rfl)]
    exact W2
  refine am_run (am_cK _) 3 (am_obj_in W3.o ((am_cK _ _ _ _ _ _ (fun v h'' q => ?_) (att 10 0 h2 (A 157) rfl (by omega) (Nat.zero_le _) (fun q hq => by omega) W3 (fun q hq => by omega)))))
  obtain ⟨w, rfl, hw⟩ := q
  exact am_run (am_cK _) 1 (hw)
theorem M_ofWord (W : RM h0 h F A R) {w : Nat} {wd : Nat → Nat} (hw : F 11 = nI w) (hw10 : w ≤ 10) (hg : ∀ i, i < w → A 157 i = nI (wd i) ∧ wd i < 4) {c : Nat} (hc : c < 2 ^ 31) (hQ : Q (some (.int (nI (num wd w c)))) h) : am_call (d + 2) 197 [.ref 152, .int (nI c)] h Q := by
  refine en_X11_ofWord (Nat.le_of_ble_eq_true rfl) (am_run (am_cK _) 4 ?_)
  refine am_loopC (fun i => (4, [some (.ref 152), some (.int (nI c)), some (.int (nI (cnt (fun j => wd j == c) i))), some (.int (nI i))], [], 0, 0)) w (fun i hi K => ?_) ?_ 0 (Nat.zero_le _)
  · refine am_run (am_cK _) 3 (am_obj_in W.o (am_run (am_cK _) 1 (pk_le w i (fun c => by omega) (fun _ => ?_) (hx := hw))))
    refine am_run (am_cK _) 3 (am_obj_in W.o (am_run (am_cK _) 2 (am_ld W.a157 i (by omega) ?_)))
    rw [nI_clamp (by omega), (hg i hi).1]
    have h4 := (hg i hi).2
    rw [cnt, nI_succ] at K
    refine am_run (am_cK _) 2 (⟨fun e => ?_, fun e => ?_⟩)
    · rw [if_neg (fun z => e (by rw [eq_of_beq z]))] at K
      rw [← nI_add] at K
      exact am_run (am_cK _) 2 (M_flag0 (am_run (am_cK _) 4 (K)))
    · rw [if_pos (by rw [beq_iff_eq]; exact (nI_eq (by omega) hc).mp (Classical.not_not.mp e)), nI_succ] at K
      exact am_run (am_cK _) 3 (M_flag1 (am_run (am_cK _) 4 (K)))
  · exact am_run (am_cK _) 3 (am_obj_in W.o (am_run (am_cK _) 1 (pk_le w w (fun _ => am_run (am_cK _) 2 (hQ)) (fun c => by omega) (hx := hw))))
theorem M_looksAt (W : RM h0 h F A R) {p b : Nat} {f : Nat → Nat} (hp : p = 154 ∨ p = 155) (hb : b < 5) (hn0 : 0 < n) (hn : n ≤ 10) (hz : A p b = nI n) (hf : ∀ i, i < n → A p (5 + 10 * b + i) = nI (f i)) (hf4 : ∀ i, i < n → f i < 4) (hQ : ∀ h' g, RM h0 h' (upd F 13 (nI n)) (va_up A 158 g) R → LK (upd F 13 (nI n)) (va_up A 158 g) f n → Q none h') : am_call (d + 2) 198 [.ref 152, .ref p, .int (nI b)] h Q := by
  have hAp : ∀ g, va_up A 158 g p = A p := fun g => am_up_n (by omega)
  refine en_X11_looksAt (Nat.le_of_ble_eq_true rfl) ?_
  refine am_run (am_cK _) 4 (am_ld (W.ap hp) b (by omega) ?_)
  rw [nI_clamp (by omega), hz]
  refine am_run (am_cK _) 1 (am_putI W rfl (by decide) (fun h1 W1 => ?_))
  refine am_run (am_cK _) 2 ?_
  refine am_lp (α := Nat → Int32) (fun q _ => (9, [some (.ref 152), some (.ref p), some (.int (nI b)), some (.int (nI q))], [], 0, 0)) (fun q g h' => RM h0 h' (upd F 13 (nI n)) (va_up A 158 g) R ∧ ∀ i, i < q → g i = nI (f i)) n (fun q g h2 hq P K => ?_) (fun g h2 P => ?_) 0 (A 158) h1 (Nat.zero_le _) ⟨by rw [va_same rfl]; exact W1, fun i hi => by omega⟩
  · obtain ⟨W2, P1⟩ := P
    refine am_run (am_cK _) 3 (am_obj_in W2.o (am_run (am_cK _) 1 (pk_le n q (fun c => by omega) (fun _ => ?_) (hx := rfl))))
    have w := W2.ap hp
    rw [hAp] at w
    refine am_run (am_cK _) 2 (am_obj_in W2.o (am_run (am_cK _) 5 (M_beadAt w hb (by omega) (hf q hq) ?_)))
    refine am_run (am_cK _) 1 (am_stI (p := 158) W2 (j := q) rfl (show q < 10 by omega) rfl (fun h3 W3 => ?_))
    rw [am_up_s, va_up2] at W3
    have K2 := K _ h3 ⟨W3, fun i hi => (by
      by_cases e : i = q
      · subst e; exact upd_s
      · exact (upd_n e).trans (P1 i (by omega)))⟩
    rw [nI_succ] at K2
    exact am_run (am_cK _) 2 (K2)
  · obtain ⟨W2, P1⟩ := P
    refine am_run (am_cK _) 3 (am_obj_in W2.o (am_run (am_cK _) 1 (pk_le n n (fun _ => ?_) (fun c => by omega) (hx := rfl))))
    exact am_run (am_cK _) 1 (hQ h2 g W2 ⟨rfl, hn0, hn, fun i hi => by rw [am_up_s]; exact P1 i hi, hf4⟩)
theorem M_entersLeast (W : RM h0 h F A R) {f : Nat → Nat} (hL : LK F A f n) (hQ : ∀ h' R', RM h0 h' (upd F 1 (nI n)) A R' → (∀ i, i < n → R' i = (nI (trn f n (bT f n (2 * n)) i)).toInt64) → Q none h') : am_call (d + 4) 204 [.ref 152] h Q := by
  obtain ⟨hl, hn0, hn, hg, hf⟩ := id hL
  have hb := bT_lt (f := f) (n := n) (2 * n) (by omega)
  refine en_X11_entersLeast (Nat.le_of_ble_eq_true rfl) ?_
  refine am_run (am_cK _) 2 (am_obj_in W.o ((M_leastTurning W hL ?_)))
  refine am_run (am_cK _) 4 (am_putI W rfl (by decide) (fun h1 W1 => ?_))
  refine am_run (am_cK _) 2 ?_
  refine am_lp (α := Nat → Int64) (fun q _ => (12, [some (.ref 152), some (.int (nI (bT f n (2 * n)))), some (.int (nI q))], [], 0, 0)) (fun q R' h' => RM h0 h' (upd F 1 (nI q)) A R' ∧ ∀ i, i < q → R' i = (nI (trn f n (bT f n (2 * n)) i)).toInt64) n (fun q R1 h2 hq P K => ?_) (fun R1 h2 P => ?_) 0 R h1 (Nat.zero_le _) ⟨W1, fun i hi => by omega⟩
  · obtain ⟨W2, P1⟩ := P
    refine am_run (am_cK _) 3 (am_obj_in W2.o (am_run (am_cK _) 1 (pk_le n q (fun c => by omega) (fun _ => ?_) (hx := hl))))
    refine am_run (am_cK _) 3 (am_obj_in W2.o (am_run (am_cK _) 2 (am_obj_in W2.o (am_run (am_cK _) 3 ?_))))
    rw [show upd F 1 (nI q) 13 = nI n from hl]
    refine M_turnedOf W2.a158 (by omega) (by omega) hn hg hb hq ?_
    refine am_run (am_cK _) 2 (am_obj_in W2.o ((M_enters W2 (m := q) rfl (by omega) _ (fun h3 W3 => ?_))))
    rw [upd_upd] at W3
    have K2 := K _ h3 ⟨W3, fun i hi => (by
      by_cases e : i = q
      · subst e; exact pk_uLs
      · exact (pk_uLn e).trans (P1 i (by omega)))⟩
    rw [nI_succ] at K2
    exact am_run (am_cK _) 2 (K2)
  · obtain ⟨W2, P1⟩ := P
    refine am_run (am_cK _) 3 (am_obj_in W2.o (am_run (am_cK _) 1 (pk_le n n (fun _ => ?_) (fun c => by omega) (hx := hl))))
    exact am_run (am_cK _) 1 (hQ h2 R1 W2 P1)
end
