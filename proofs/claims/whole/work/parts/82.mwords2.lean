def Lw (f : Nat → Nat) (n p q : Nat) : Nat := fnd (fun w => !(eqw f n (w + 1) p q)) 0 (n - 1)
section
variable {f : Nat → Nat} {n : Nat}
theorem eqw_pre {p q w v : Nat} (hn0 : 0 < n) (hf : ∀ i, i < n → f i < 4) (hv : v ≤ w) (h : eqw f n w p q = true) : eqw f n v p q = true := by
  unfold eqw at *
  rw [beq_iff_eq] at *
  have := rk_inj (fun i _ => rol4 hn0 hf i) (fun i _ => rol4 hn0 hf i) h
  exact rk_congr (fun i hi => this i (by omega))
theorem Lw_ge {p q w : Nat} (hn0 : 0 < n) (hf : ∀ i, i < n → f i < 4) (hw : w ≤ n - 1) : w ≤ Lw f n p q ↔ eqw f n w p q = true := by
  constructor
  · intro h
    cases w with
    | zero => rfl
    | succ w =>
      have := fnd_no (q := fun w => !(eqw f n (w + 1) p q)) (k := n - 1) (s := 0) (c := w) (Nat.zero_le _) h
      simpa using this
  · intro h
    refine Nat.le_of_not_lt (fun z => ?_)
    have hL : Lw f n p q < n - 1 := by omega
    have := fnd_at (q := fun w => !(eqw f n (w + 1) p q)) (k := n - 1) (s := 0) (by rw [Nat.zero_add]; exact hL)
    have h2 := eqw_pre (v := Lw f n p q + 1) hn0 hf (by omega) h
    have h3 : (!(eqw f n (Lw f n p q + 1) p q)) = true := this
    rw [h2] at h3
    cases h3
theorem Lw_le {p q : Nat} : Lw f n p q ≤ n - 1 := by
  have := (fnd_le (fun w => !(eqw f n (w + 1) p q)) (n - 1) 0).2
  unfold Lw
  omega
/-- pairs ahead of (p, q) -/
def ahd (n p q p' q' : Nat) : Prop := p' < q' ∧ q' < n ∧ (p' < p ∨ (p' = p ∧ q' < q))
def tI (f : Nat → Nat) (n p q best p0 q0 : Nat) : Prop := (∀ p' q', ahd n p q p' q' → Lw f n p' q' ≤ best) ∧ (best = 0 ∨ (ahd n p q p0 q0 ∧ Lw f n p0 q0 = best ∧ ∀ p' q', ahd n p0 q0 p' q' → Lw f n p' q' < best))
theorem wD_spec (m : Nat) : (∀ w, wD f n m < w → w ≤ m → ¬ pn f n w < n) ∧ (wD f n m = 0 ∨ pn f n (wD f n m) < n) ∧ wD f n m ≤ m := by
  induction m with
  | zero => exact ⟨fun w h1 h2 => by omega, Or.inl rfl, Nat.le_refl _⟩
  | succ m ih =>
    rw [wD]
    split
    · rename_i c
      exact ⟨fun w h1 h2 => by omega, Or.inr c, Nat.le_refl _⟩
    · rename_i c
      exact ⟨fun w h1 h2 => (if e : w = m + 1 then e ▸ c else ih.1 w h1 (by omega)), ih.2.1, by omega⟩
theorem pn_pair {w : Nat} (h : pn f n w < n) : pn f n w < qn f n w (pn f n w) ∧ qn f n w (pn f n w) < n ∧ eqw f n w (pn f n w) (qn f n w (pn f n w)) = true := by
  have h1 := fnd_at (q := fun i => decide (qn f n w i < n)) (k := n) (s := 0) (by rw [Nat.zero_add]; exact h)
  have h2 : qn f n w (pn f n w) < n := of_decide_eq_true h1
  have h3 := qn_le f (n := n) (w := w) h
  have h4 := fnd_at (q := plc f n (rk (rol f n (pn f n w)) w) w) (k := n - 1 - pn f n w) (s := pn f n w + 1) (by
    show qn f n w (pn f n w) < _
    omega)
  refine ⟨h3.2, h2, ?_⟩
  have h5 : (rk (rol f n (qn f n w (pn f n w))) w == rk (rol f n (pn f n w)) w) = true := h4
  unfold eqw
  rw [beq_iff_eq] at *
  exact h5.symm
theorem pn_lt {p q w : Nat} (hpq : p < q) (hq : q < n) (h : eqw f n w p q = true) : qn f n w p ≤ q ∧ pn f n w ≤ p := by
  have h1 : qn f n w p ≤ q := Nat.le_of_not_lt (fun z => by
    have := fnd_no (q := plc f n (rk (rol f n p) w) w) (k := n - 1 - p) (s := p + 1) (c := q) (by omega) z
    unfold plc at this
    unfold eqw at h
    rw [beq_iff_eq] at h
    rw [h] at this
    simp at this)
  refine ⟨h1, Nat.le_of_not_lt (fun z => ?_)⟩
  have := fnd_no (q := fun i => decide (qn f n w i < n)) (k := n) (s := 0) (c := p) (Nat.zero_le _) z
  have := of_decide_eq_false this
  omega
theorem tI_end {best p0 q0 : Nat} (hn0 : 0 < n) (hf : ∀ i, i < n → f i < 4) (h : tI f n n 0 best p0 q0) : wD f n (n - 1) = best ∧ (0 < best → pn f n best = p0 ∧ qn f n best p0 = q0) := by
  obtain ⟨h1, h2⟩ := h
  have sp := wD_spec (f := f) (n := n) (n - 1)
  have up : ∀ w, best < w → w ≤ n - 1 → ¬ pn f n w < n := fun w hw hn1 z => by
    have pp := pn_pair z
    have := (Lw_ge hn0 hf hn1).mpr pp.2.2
    have := h1 _ _ ⟨pp.1, pp.2.1, Or.inl (by omega)⟩
    omega
  rcases h2 with h2 | ⟨a1, a2, a3⟩
  · subst h2
    refine ⟨?_, fun z => by omega⟩
    rcases sp.2.1 with z | z
    · exact z
    · exact Nat.eq_zero_of_not_pos (fun w => up _ w sp.2.2 z)
  · obtain ⟨b1, b2, b3⟩ := a1
    have hb : best ≤ n - 1 := by rw [← a2]; exact Lw_le
    have he : eqw f n best p0 q0 = true := (Lw_ge hn0 hf hb).mp (by omega)
    have pl := pn_lt b1 b2 he
    refine ⟨?_, fun z => ?_⟩
    · have c1 : ¬ wD f n (n - 1) < best := fun z => sp.1 best z hb (by omega)
      have c2 : ¬ best < wD f n (n - 1) := fun z => up _ z sp.2.2 (sp.2.1.resolve_left (by omega))
      omega
    · have pp := pn_pair (f := f) (n := n) (w := best) (by omega)
      have hL := (Lw_ge hn0 hf hb).mpr pp.2.2
      have ep : pn f n best = p0 := by
        refine Nat.le_antisymm pl.2 (Nat.le_of_not_lt (fun w => ?_))
        have := a3 _ _ ⟨pp.1, pp.2.1, Or.inl w⟩
        omega
      refine ⟨ep, ?_⟩
      rw [ep] at pp hL
      refine Nat.le_antisymm pl.1 (Nat.le_of_not_lt (fun w => ?_))
      have := a3 _ _ ⟨pp.1, pp.2.1, Or.inr ⟨rfl, w⟩⟩
      omega
end
section
variable {d : Nat} {h0 h : am_H} {Q : Option Value → am_H → Prop} {F : Nat → Int32} {A : Nat → Nat → Int32} {R : Nat → Int64} {M : Ms} {f : Nat → Nat} {n : Nat}
theorem Z_twice (hY : RY h M) (b : Int32) (hQ : ∀ h', Fy h h' → RY h' (oTwice M b).2 → Q (some (.int (oTwice M b).1)) h') : am_call (d + 20) 268 [.ref 152, .int b] h Q := by
  obtain ⟨F, A, R, W, iv⟩ := hY
  have hs := iv.s.2
  have hN := hs.1
  unfold oTwice at hQ
  refine en_X11_twice (Nat.le_of_ble_eq_true rfl) ?_
  refine am_run (am_cK _) 3 (am_putI W rfl (by decide) (fun h1 W1 => ?_))
  refine am_run (am_cK _) 3 (am_obj_in W1.o ((M_isRing W1 iv.s.1.1 hN b (fun j hj e => ?_) (fun c => ?_))))
  · subst e
    rw [if_neg (S_no hs hj), nI_clamp (by omega)] at hQ
    have hz := hs.2.1 j hj
    have hr := iv.s.1.2.2.2 j hj
    unfold oTwiceN at hQ
    simp only at hQ
    refine am_run (am_cK _) 1 (⟨fun _ => ?_, fun z => absurd n10 z⟩)
    refine am_run (am_cK _) 3 (am_obj_in W1.o (am_run (am_cK _) 2 (am_obj_in W1.o ((M_looksAt W1 (Or.inl rfl) (by omega) (by omega) hz.2.1 hr.1 hr.2 hz.2.2 (fun h2 g W2 hL => ?_))))))
    have hl := hL.1
    generalize hf : sB (mS M) j = f at *
    generalize hn : sZ (mS M) j = n at *
    refine am_run (am_cK _) 3 (am_putI W2 rfl (by decide) (fun h3 W3 => ?_))
    refine am_run (am_cK _) 4 (show am_wp (am_call (d + 19)) (0, 0) cm_X11_twice Q (fun _ => False) (33, [some (.ref 152), some (.int (nI j)), some (.int (nI 0)), some (.int (nI 0)), none, none], [], 0, 0) h3 from ?_)
    refine am_lp (α := (Nat × Nat × Nat) × (Nat → Int64) × Option Value × Option Value) (fun p x => (33, [some (.ref 152), some (.int (nI j)), some (.int (nI x.1.1)), some (.int (nI p)), x.2.2.1, x.2.2.2], [], 0, 0)) (fun p x h' => (RM h h' (upd (upd (upd F 0 0) 13 (nI n)) 1 (nI (if x.1.1 = 0 then 0 else 2))) (va_up A 158 g) x.2.1 ∧ (0 < x.1.1 → x.2.1 0 = (nI x.1.2.1).toInt64 ∧ x.2.1 1 = (nI x.1.2.2).toInt64)) ∧ x.1.1 ≤ n ∧ tI f n p 0 x.1.1 x.1.2.1 x.1.2.2) n (fun p x h4 hp P K => ?_) (fun x h4 P => ?_) 0 ((0, 0, 0), R, none, none) h3 (Nat.zero_le _) ⟨⟨W3, fun z => absurd z (Nat.lt_irrefl 0)⟩, Nat.zero_le _, fun p' q' z => (by obtain ⟨a1, a2, a3⟩ := z; omega), Or.inl rfl⟩
    · obtain ⟨⟨best, p0, q0⟩, R4, jv, jw⟩ := x
      obtain ⟨⟨W4, r4⟩, hbn, t4⟩ := P
      replace W4 : RM h h4 (upd (upd (upd F 0 0) 13 (nI n)) 1 (nI (if best = 0 then 0 else 2))) (va_up A 158 g) R4 := W4
      replace t4 : tI f n p 0 best p0 q0 := t4
      replace r4 : 0 < best → R4 0 = (nI p0).toInt64 ∧ R4 1 = (nI q0).toInt64 := r4
      replace hbn : best ≤ n := hbn
      refine am_run (am_cK _) 3 (am_obj_in W4.o (am_run (am_cK _) 1 (pk_le n p (fun c => by omega) (fun _ => ?_) (hx := hl))))
      have t4' : tI f n p (p + 1) best p0 q0 := ⟨fun p' q' z => t4.1 p' q' ⟨z.1, z.2.1, Or.inl (by obtain ⟨a1, a2, a3⟩ := z; omega)⟩, t4.2.imp_right (fun z => ⟨⟨z.1.1, z.1.2.1, Or.inl (by obtain ⟨⟨a1, a2, a3⟩, _⟩ := z; omega)⟩, z.2⟩)⟩
      have lp := am_lp (call := am_call (d + 19)) (lim := (0, 0)) (M := cm_X11_twice) (Q := Q) (X := fun _ => False) (α := (Nat × Nat × Nat) × (Nat → Int64) × Option Value) (fun q x => (46, [some (.ref 152), some (.int (nI j)), some (.int (nI x.1.1)), some (.int (nI p)), some (.int (nI (p + 1 + q))), x.2.2], [], 0, 0)) (fun q x h' => (RM h h' (upd (upd (upd F 0 0) 13 (nI n)) 1 (nI (if x.1.1 = 0 then 0 else 2))) (va_up A 158 g) x.2.1 ∧ (0 < x.1.1 → x.2.1 0 = (nI x.1.2.1).toInt64 ∧ x.2.1 1 = (nI x.1.2.2).toInt64)) ∧ x.1.1 ≤ n ∧ tI f n p (p + 1 + q) x.1.1 x.1.2.1 x.1.2.2) (n - 1 - p) (fun q x h5 hq P5 K5 => ?_) (fun x h5 P5 => ?_) 0 ((best, p0, q0), R4, jw) h4 (Nat.zero_le _) ⟨⟨W4, r4⟩, hbn, t4'⟩
      · simp only [Nat.add_zero] at lp
        rw [nI_succ p] at lp
        exact am_run (am_cK _) 4 (lp)
      · obtain ⟨⟨best, p0, q0⟩, R5, jw⟩ := x
        obtain ⟨⟨W5, r5⟩, hbn, t5⟩ := P5
        replace W5 : RM h h5 (upd (upd (upd F 0 0) 13 (nI n)) 1 (nI (if best = 0 then 0 else 2))) (va_up A 158 g) R5 := W5
        replace t5 : tI f n p (p + 1 + q) best p0 q0 := t5
        replace r5 : 0 < best → R5 0 = (nI p0).toInt64 ∧ R5 1 = (nI q0).toInt64 := r5
        replace hbn : best ≤ n := hbn
        have hqn : p + 1 + q < n := by omega
        generalize hqq : p + 1 + q = q1 at *
        refine am_run (am_cK _) 3 (am_obj_in W5.o (am_run (am_cK _) 1 (pk_le n q1 (fun c => by omega) (fun _ => ?_) (hx := hl))))
        refine am_run (am_cK _) 2 (show am_wp (am_call (d + 19)) (0, 0) cm_X11_twice Q (fun _ => False) (58, [some (.ref 152), some (.int (nI j)), some (.int (nI best)), some (.int (nI p)), some (.int (nI q1)), some (.int (nI 0))], [], 0, 0) h5 from ?_)
        have en1 : nI n - 1 = nI (n - 1) := pk_sub (a := n) (b := 1) (by omega)
        have step : ∀ best' p0' q0' R' h6, RM h h6 (upd (upd (upd F 0 0) 13 (nI n)) 1 (nI (if best' = 0 then 0 else 2))) (va_up A 158 g) R' → (0 < best' → R' 0 = (nI p0').toInt64 ∧ R' 1 = (nI q0').toInt64) → best' ≤ n → tI f n p (q1 + 1) best' p0' q0' → ∀ v, am_wp (am_call (d + 19)) (0, 0) cm_X11_twice Q (fun _ => False) (116, [some (.ref 152), some (.int (nI j)), some (.int (nI best')), some (.int (nI p)), some (.int (nI q1)), v], [], 0, 0) h6 := fun best' p0' q0' R' h6 W6 r6 hb6 t6 v => by
          have K6 := K5 ((best', p0', q0'), R', v) h6 ⟨⟨W6, r6⟩, hb6, by
            show tI f n p (p + 1 + (q + 1)) best' p0' q0'
            rw [← Nat.add_assoc, hqq]; exact t6⟩
          simp only at K6
          rw [← Nat.add_assoc, hqq, nI_succ q1] at K6
          exact am_run (am_cK _) 2 (K6)
        have dn : ∀ w, w = Lw f n p q1 → am_wp (am_call (d + 19)) (0, 0) cm_X11_twice Q (fun _ => False) (89, [some (.ref 152), some (.int (nI j)), some (.int (nI best)), some (.int (nI p)), some (.int (nI q1)), some (.int (nI w))], [], 0, 0) h5 := fun w ew => by
          have hwl : w ≤ n - 1 := by rw [ew]; exact Lw_le
          refine am_run (am_cK _) 3 (pk_le w best (fun c => ?_) (fun c => ?_))
          · refine step best p0 q0 R5 h5 W5 r5 hbn ⟨fun p' q' z => ?_, t5.2.imp_right (fun z => ⟨⟨z.1.1, z.1.2.1, z.1.2.2.imp_right (fun y => ⟨y.1, by omega⟩)⟩, z.2⟩)⟩ _
            by_cases e : p' = p ∧ q' = q1
            · rw [e.1, e.2, ← ew]; exact c
            · exact t5.1 p' q' ⟨z.1, z.2.1, by obtain ⟨a1, a2, a3⟩ := z; omega⟩
          · refine am_run (am_cK _) 2 (show am_wp (am_call (d + 19)) (0, 0) cm_X11_twice Q (fun _ => False) (98, [some (.ref 152), some (.int (nI j)), some (.int (nI w)), some (.int (nI p)), some (.int (nI q1)), some (.int (nI w))], [], 0, 0) h5 from ?_)
            refine am_run (am_cK _) 3 (am_putI W5 rfl (by decide) (fun h6 W6 => ?_))
            rw [upd_upd] at W6
            refine am_run (am_cK _) 4 (am_obj_in W6.o ((M_enters W6 (m := 0) rfl (by omega) _ (fun h7 W7 => ?_))))
            rw [upd_upd] at W7
            refine am_run (am_cK _) 4 (am_obj_in W7.o ((M_enters W7 (m := 1) rfl (by omega) _ (fun h8 W8 => ?_))))
            rw [upd_upd] at W8
            refine step w p q1 _ h8 (by rw [if_neg (by omega)]; exact W8) (fun _ => ⟨rfl, rfl⟩) (by omega) ⟨fun p' q' z => ?_, Or.inr ⟨⟨by omega, hqn, Or.inr ⟨rfl, by omega⟩⟩, ew.symm, fun p' q' z => ?_⟩⟩ _
            · by_cases e : p' = p ∧ q' = q1
              · rw [e.1, e.2, ← ew]; exact Nat.le_refl _
              · have := t5.1 p' q' ⟨z.1, z.2.1, by obtain ⟨a1, a2, a3⟩ := z; omega⟩
                omega
            · have := t5.1 p' q' ⟨z.1, z.2.1, by obtain ⟨a1, a2, a3⟩ := z; omega⟩
              omega
        refine am_loopP (α := Unit) (fun w _ => (58, [some (.ref 152), some (.int (nI j)), some (.int (nI best)), some (.int (nI p)), some (.int (nI q1)), some (.int (nI w))], [], 0, 0)) (fun w _ => ∀ c, c < w → (!(eqw f n (c + 1) p q1)) = false) (n - 1) (fun w _ hw P K => ?_) (fun _ P => ?_) 0 () (Nat.zero_le _) (fun c hc => by omega)
        · refine am_run (am_cK _) 3 (am_obj_in W5.o (am_run (am_cK _) 3 (pk_le (n - 1) w (fun c => by omega) (fun _ => ?_) (hx := by rw [show upd (upd (upd F 0 0) 13 (nI n)) 1 (nI (if best = 0 then 0 else 2)) 13 = nI n from rfl]; exact en1))))
          refine am_run (am_cK _) 7 (am_obj_in W5.o ((show am_call (d + 19) 266 [.ref 152, .int (nI p), .int (nI q1), .int (nI w + 1)] h5 _ from ?_)))
          rw [nI_1]
          refine M_isWord W5 hL (by omega) (by omega) (by omega) ?_
          cases he : eqw f n (w + 1) p q1 with
          | true =>
            have K6 := K () (fun c hc => (if e : c = w then (by rw [e, he]; rfl) else P c (by omega)))
            rw [nI_succ w] at K6
            exact am_run (am_cK _) 1 (⟨fun z => absurd z n10, fun _ => am_run (am_cK _) 2 (K6)⟩)
          | false =>
            refine am_run (am_cK _) 1 (⟨fun _ => dn w (fnd_eq (Nat.zero_le _) (by omega) (fun c _ c2 => P c c2) (Or.inr (by rw [he]; rfl))).symm, fun z => absurd rfl z⟩)
        · refine am_run (am_cK _) 3 (am_obj_in W5.o (am_run (am_cK _) 3 (pk_le (n - 1) (n - 1) (fun _ => ?_) (fun c => by omega) (hx := by rw [show upd (upd (upd F 0 0) 13 (nI n)) 1 (nI (if best = 0 then 0 else 2)) 13 = nI n from rfl]; exact en1))))
          exact dn (n - 1) (fnd_eq (Nat.zero_le _) (by omega) (fun c _ c2 => P c c2) (Or.inl (by omega))).symm
      · obtain ⟨⟨best, p0, q0⟩, R5, jw⟩ := x
        obtain ⟨⟨W5, r5⟩, hbn, t5⟩ := P5
        replace W5 : RM h h5 (upd (upd (upd F 0 0) 13 (nI n)) 1 (nI (if best = 0 then 0 else 2))) (va_up A 158 g) R5 := W5
        refine am_run (am_cK _) 3 (am_obj_in W5.o (am_run (am_cK _) 1 (pk_le n (p + 1 + (n - 1 - p)) (fun _ => ?_) (fun c => by omega) (hx := hl))))
        replace t5 : tI f n p (p + 1 + (n - 1 - p)) best p0 q0 := t5
        have t6 : tI f n (p + 1) 0 best p0 q0 := ⟨fun p' q' z => t5.1 p' q' ⟨z.1, z.2.1, by obtain ⟨a1, a2, a3⟩ := z; omega⟩, t5.2.imp_right (fun z => ⟨⟨z.1.1, z.1.2.1, Or.inl (by obtain ⟨⟨a1, a2, a3⟩, _⟩ := z; omega)⟩, z.2⟩)⟩
        have K6 := K ((best, p0, q0), R5, some (.int (nI (p + 1 + (n - 1 - p)))), jw) h5 ⟨⟨W5, r5⟩, hbn, t6⟩
        simp only at K6
        rw [nI_succ p] at K6
        exact am_run (am_cK _) 2 (K6)
    · obtain ⟨⟨best, p0, q0⟩, R4, jv, jw⟩ := x
      obtain ⟨⟨W4, r4⟩, hbn, t4⟩ := P
      replace W4 : RM h h4 (upd (upd (upd F 0 0) 13 (nI n)) 1 (nI (if best = 0 then 0 else 2))) (va_up A 158 g) R4 := W4
      replace t4 : tI f n n 0 best p0 q0 := t4
      replace r4 : 0 < best → R4 0 = (nI p0).toInt64 ∧ R4 1 = (nI q0).toInt64 := r4
      have te := tI_end (by omega) hz.2.2 t4
      rw [te.1] at hQ
      refine am_run (am_cK _) 3 (am_obj_in W4.o (am_run (am_cK _) 1 (pk_le n n (fun _ => ?_) (fun c => by omega) (hx := hl))))
      refine am_run (am_cK _) 2 (hQ h4 W4.y ⟨_, _, _, W4.re, iv.s, iv.u, iv.k, iv.t, ?_, iv.f, iv.hr, iv.l⟩)
      show ID (nI (if best = 0 then 0 else 2)) R4 (if best = 0 then (0, fun _ => 0) else (2, w2 (nI (pn f n best)) (nI (qn f n best (pn f n best)))))
      by_cases e : best = 0
      · rw [if_pos e, if_pos e]
        exact ⟨rfl, Nat.zero_le _, fun i hi => absurd hi (Nat.not_lt_zero i)⟩
      · rw [if_neg e, if_neg e]
        have t2 := te.2 (by omega)
        have r2 := r4 (by omega)
        rw [t2.1, t2.2]
        exact ⟨rfl, by show 2 ≤ 16; omega, fun i hi => i_lt2 (P := fun i => R4 i = (w2 (nI p0) (nI q0) i).toInt64) hi r2.1 r2.2⟩
  · rw [if_pos c] at hQ
    exact am_run (am_cK _) 1 (⟨fun z => absurd rfl z, fun _ => am_run (am_cK _) 2 (hQ h1 W1.y ⟨_, _, _, W1.re, iv⟩)⟩)
end
