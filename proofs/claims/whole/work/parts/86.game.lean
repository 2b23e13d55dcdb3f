/-! a game on a ring -/
def wK (n : Nat) : Nat := [0, 1, 2, 3, 1, 4, 3, 2, 1, 4, 2, 6, 4, 1, 2, 7, 1, 4, 3, 2, 1, 4, 6, 7, 4, 1, 2, 8, 5, 4, 7, 2, 1, 8, 6, 7, 4, 1, 2, 3, 1].getD n 0
/-- v is had by taking t, the left ones below l -/
def ax (n t l v : Nat) : Bool := !(allB (fun left => wK left ^^^ wK (n - t - left) != v) l)
theorem wK_mex : ∀ n, n < 41 → fnd (fun v => !(ax n 1 n v || ax n 2 (n - 1) v)) 0 64 = wK n ∧ wK n < 16 := by decide +kernel
theorem wK_x : ∀ a, a < 41 → ∀ b, b < 41 → wK a ^^^ wK b < 64 := by decide +kernel
theorem wK_pos : ∀ n, n < 40 → 1 ≤ n → 0 < wK n := by decide +kernel
theorem ax_succ (n t l v : Nat) : ax n t (l + 1) v = (ax n t l v || (wK l ^^^ wK (n - t - l) == v)) := by
  unfold ax
  rw [allB]
  cases allB (fun left => wK left ^^^ wK (n - t - left) != v) l <;> cases h : (wK l ^^^ wK (n - t - l) == v) <;> simp [bne, h]
def oRing (M : Ms) (n : Int32) : Int32 × Ms := if n < 0 ∨ 40 < n then (-1, M) else if n = 1 ∨ n = 2 then (1, pD M (1, w1 n)) else (0, pD M (0, fun _ => 0))
def gtv (v a b : Nat) : Int32 := if a + b ≤ v then nI (a + (v - a - b) / 2) else if b < a then -2 else 0
def hNB (v a b : Nat) : Bool := allB (fun z => decide (gtv v z b ≤ gtv v a b)) 10
def bpv (v k : Nat) : Bool := hNB v (k / 10) (k % 10) && hNB v (k % 10) (k / 10)
def oBarN (M : Ms) (v : Nat) : Int32 × Ms := (nI (cnt (bpv v) 100), pD M (if cnt (bpv v) 100 = 0 then (0, fun _ => 0) else (2, w2 (nI (fnd (bpv v) 0 100 / 10)) (nI (fnd (bpv v) 0 100 % 10)))))
def oBar (M : Ms) (v : Int32) : Int32 × Ms := if v < 0 ∨ 18 < v then (-1, M) else oBarN M v.toNatClampNeg
theorem cnt_fnd {p : Nat → Bool} {m k : Nat} (h0 : cnt p k = 0) (hk : p k = true) (hm : k < m) : fnd p 0 m = k := by
  refine fnd_eq (Nat.zero_le _) (by omega) (fun c _ c2 => ?_) (Or.inr hk)
  have key : ∀ n, cnt p n = 0 → ∀ c, c < n → p c = false := fun n => by
    induction n with
    | zero => intro _ c hc; omega
    | succ n ih =>
      intro h c hc
      rw [cnt] at h
      by_cases e : p n = true
      · rw [if_pos e] at h; omega
      · by_cases q : c = n
        · subst q; exact Bool.eq_false_iff.mpr e
        · exact ih (by omega) c (by omega)
  exact key k h0 c c2
section
variable {d : Nat} {h0 h : am_H} {Q : Option Value → am_H → Prop} {F : Nat → Int32} {A : Nat → Nat → Int32} {R : Nat → Int64} {M : Ms}
theorem X_ring (hX : RX h M) (n : Int32) (hQ : ∀ h', Fx h h' → RX h' (oRing M n).2 → Q (some (.int (oRing M n).1)) h') : am_call (d + 20) 159 [.ref 40, .int n] h Q := by
  obtain ⟨a, b', dr, hX⟩ := hX
  unfold oRing at hQ
  have no : (n < 0 ∨ 40 < n) → Q (some (.int (-1))) h := fun c => by
    rw [if_pos c] at hQ
    exact hQ h Fx.rf ⟨a, b', dr, hX⟩
  refine en_X10_ring (Nat.le_of_ble_eq_true rfl) ?_
  refine am_run (am_cK _) 2 (⟨fun c => am_run (am_cK _) 2 (no (Or.inl c)), fun c => am_run (am_cK _) 3 (⟨fun c2 => ?_, fun c2 => am_run (am_cK _) 2 (no (Or.inr (Int32.not_le.mp c2)))⟩)⟩)
  rw [if_neg (fun z => z.elim c (fun w => Int32.not_lt.mpr c2 w))] at hQ
  refine am_run (am_cK _) 2 (am_obj_in hX.o.1 (am_run (am_cK _) 1 (am_obj_in hX.d.1.1 ((X_begin hX (fun h1 a1 hX1 => ?_))))))
  have yes : (n = 1 ∨ n = 2) → am_wp (am_call (d + 19)) (0, 0) cm_X10_ring Q (fun _ => False) (29, [some (.ref 40), some (.int n)], [], 0, 0) h1 := fun e => by
    rw [if_pos e] at hQ
    refine am_run (am_cK _) 2 (am_obj_in hX1.o.1 (am_run (am_cK _) 2 (am_obj_in hX1.d.1.1 ((X_add hX1 (show 0 < 16 by omega) _ (fun h2 a2 hX2 => ?_))))))
    exact am_run (am_cK _) 2 (hQ h2 (Fx2 a1 a2) ⟨a, b', dr, RX_dc hX2 (fun i hi => i_lt1 (P := fun i => upd (mD M).2 0 n i = w1 n i) hi rfl)⟩)
  refine am_run (am_cK _) 3 (⟨fun e => yes (Or.inl e), fun e => am_run (am_cK _) 3 (⟨fun e2 => ?_, fun e2 => yes (Or.inr (Classical.not_not.mp e2))⟩)⟩)
  rw [if_neg (fun z => z.elim e e2)] at hQ
  exact am_run (am_cK _) 2 (hQ h1 (a1.fx (by omega) (by omega)) ⟨a, b', dr, RX_dc hX1 (fun i hi => absurd hi (Nat.not_lt_zero i))⟩)
theorem M_laysWorth (W : RM h0 h F A R) (hQ : ∀ h' w t, RM h0 h' F (va_up (va_up A 176 w) 177 t) R → (∀ i, i < 41 → w i = nI (wK i)) → Q none h') : am_call (d + 1) 308 [.ref 152] h Q := by
  refine en_X11_laysWorth (Nat.le_of_ble_eq_true rfl) (am_run (am_cK _) 2 ?_)
  refine am_lp (α := (Nat → Int32) × (Nat → Int32) × Option Value × Option Value) (fun n x => (2, [some (.ref 152), some (.int (nI n)), x.2.2.1, x.2.2.2], [], 0, 0)) (fun n x h' => RM h0 h' F (va_up (va_up A 176 x.1) 177 x.2.1) R ∧ ∀ i, i < n → x.1 i = nI (wK i)) 41 (fun n x h1 hn P K => ?_) (fun x h1 P => ?_) 0 (A 176, A 177, none, none) h (Nat.zero_le _) ⟨by
    simp only
    rw [va_same (A := A) (p := 176) rfl, va_same rfl]
    exact W, fun i hi => by omega⟩
  · obtain ⟨w, t, x1, x2⟩ := x
    obtain ⟨W1, P1⟩ := P
    replace W1 : RM h0 h1 F (va_up (va_up A 176 w) 177 t) R := W1
    replace P1 : ∀ i, i < n → w i = nI (wK i) := P1
    have wt : ∀ t', va_up (va_up A 176 w) 177 t' 176 = w := fun _ => rfl
    refine am_run (am_cK _) 3 (pk_lt 40 n (fun c => by omega) (fun _ => ?_))
    refine am_run (am_cK _) 2 (show am_wp (am_call d) (0, 0) cm_X11_laysWorth Q (fun _ => False) (10, [some (.ref 152), some (.int (nI n)), some (.int (nI 0)), x2], [], 0, 0) h1 from ?_)
    refine am_lp (α := Nat → Int32) (fun v _ => (10, [some (.ref 152), some (.int (nI n)), some (.int (nI v)), x2], [], 0, 0)) (fun v t' h' => RM h0 h' F (va_up (va_up A 176 w) 177 t') R ∧ ∀ i, i < v → t' i = 0) 64 (fun v t' h2 hv P2 K2 => ?_) (fun t' h2 P2 => ?_) 0 t h1 (Nat.zero_le _) ⟨W1, fun i hi => by omega⟩
    · obtain ⟨W2, p2⟩ := P2
      refine am_run (am_cK _) 3 (am_obj_in W2.o (am_run (am_cK _) 1 (am_len_in W2.a177 (am_run (am_cK _) 1 (pk_le 64 v (fun c => by omega) (fun _ => ?_))))))
      refine am_run (am_cK _) 2 (am_obj_in W2.o (am_run (am_cK _) 3 (am_stB (p := 177) W2 (j := v) rfl (show v < 64 by omega) rfl (Or.inl rfl) (fun h3 W3 => ?_))))
      rw [am_up_s, va_up2] at W3
      have K3 := K2 _ h3 ⟨W3, fun i hi => (by
        by_cases e : i = v
        · subst e; exact upd_s
        · exact (upd_n e).trans (p2 i (by omega)))⟩
      rw [nI_succ v] at K3
      exact am_run (am_cK _) 2 (K3)
    · obtain ⟨W2, p2⟩ := P2
      refine am_run (am_cK _) 3 (am_obj_in W2.o (am_run (am_cK _) 1 (am_len_in W2.a177 (am_run (am_cK _) 1 (pk_le 64 64 (fun _ => ?_) (fun c => by omega))))))
      refine am_run (am_cK _) 2 (show am_wp (am_call d) (0, 0) cm_X11_laysWorth Q (fun _ => False) (34, [some (.ref 152), some (.int (nI n)), some (.int (nI 1)), x2], [], 0, 0) h2 from ?_)
      refine am_lp (α := (Nat → Int32) × Option Value) (fun T x => (34, [some (.ref 152), some (.int (nI n)), some (.int (nI T)), x.2], [], 0, 0)) (fun T x h' => RM h0 h' F (va_up (va_up A 176 w) 177 x.1) R ∧ 1 ≤ T ∧ ∀ v, v < 64 → x.1 v = bI ((decide (2 ≤ T) && ax n 1 n v) || (decide (3 ≤ T) && ax n 2 (n - 1) v))) 3 (fun T x h3 hT P3 K3 => ?_) (fun x h3 P3 => ?_) 1 (t', x2) h2 (by omega) ⟨W2, Nat.le_refl _, fun v hv => by
        show t' v = _
        rw [p2 v hv]
        rfl⟩
      · obtain ⟨t3, y2⟩ := x
        obtain ⟨W3, hT1, p3⟩ := P3
        replace W3 : RM h0 h3 F (va_up (va_up A 176 w) 177 t3) R := W3
        replace p3 : ∀ v, v < 64 → t3 v = bI ((decide (2 ≤ T) && ax n 1 n v) || (decide (3 ≤ T) && ax n 2 (n - 1) v)) := p3
        refine am_run (am_cK _) 3 (pk_le 3 T (fun c => by omega) (fun _ => ?_))
        refine am_run (am_cK _) 2 (show am_wp (am_call d) (0, 0) cm_X11_laysWorth Q (fun _ => False) (41, [some (.ref 152), some (.int (nI n)), some (.int (nI T)), some (.int (nI 0))], [], 0, 0) h3 from ?_)
        refine am_lp (α := Nat → Int32) (fun l _ => (41, [some (.ref 152), some (.int (nI n)), some (.int (nI T)), some (.int (nI l))], [], 0, 0)) (fun l t4 h' => RM h0 h' F (va_up (va_up A 176 w) 177 t4) R ∧ ∀ v, v < 64 → t4 v = bI ((decide (2 ≤ T) && ax n 1 n v) || ax n T l v)) (n + 1 - T) (fun l t4 h4 hl P4 K4 => ?_) (fun t4 h4 P4 => ?_) 0 t3 h3 (Nat.zero_le _) ⟨W3, fun v hv => by
          rw [p3 v hv, decide_eq_false (by omega : ¬ 3 ≤ T)]
          rfl⟩
        · obtain ⟨W4, p4⟩ := P4
          refine am_run (am_cK _) 5 (pk_lt n (l + T) (fun c => by omega) (fun _ => ?_) (hy := nI_add _ _))
          have hx := wK_x l (by omega) (n - T - l) (by omega)
          refine am_run (am_cK _) 2 (am_obj_in W4.o (am_run (am_cK _) 2 (am_obj_in W4.o (am_run (am_cK _) 2 (am_ld W4.a176 l (by omega) ?_)))))
          rw [nI_clamp (by omega), show va_up (va_up A 176 w) 177 t4 176 l = nI (wK l) from P1 l (by omega)]
          have e1 : nI n - nI T - nI l = nI (n - T - l) := by rw [pk_sub (by omega), pk_sub (by omega)]
          refine am_run (am_cK _) 2 (am_obj_in W4.o (am_run (am_cK _) 6 (am_ld W4.a176 (n - T - l) (by omega) ?_ e1)))
          rw [e1, nI_clamp (by omega), show va_up (va_up A 176 w) 177 t4 176 (n - T - l) = nI (wK (n - T - l)) from P1 _ (by omega)]
          refine am_run (am_cK _) 3 (am_stB (p := 177) W4 (q_xor _ _) (show wK l ^^^ wK (n - T - l) < 64 from hx) rfl (Or.inr rfl) (fun h5 W5 => ?_))
          rw [am_up_s, va_up2] at W5
          have K5 := K4 _ h5 ⟨W5, fun v hv => (by
            rw [ax_succ]
            by_cases e : v = wK l ^^^ wK (n - T - l)
            · subst e
              rw [upd_s, show (wK l ^^^ wK (n - T - l) == wK l ^^^ wK (n - T - l)) = true by simp, Bool.or_true, Bool.or_true]
              rfl
            · rw [upd_n e, p4 v hv, show (wK l ^^^ wK (n - T - l) == v) = false from beq_eq_false_iff_ne.mpr (fun z => e z.symm), Bool.or_false])⟩
          rw [nI_succ l] at K5
          exact am_run (am_cK _) 2 (K5)
        · obtain ⟨W4, p4⟩ := P4
          have hlt : n < n + 1 - T + T := by omega
          refine am_run (am_cK _) 5 (pk_lt n (n + 1 - T + T) (fun _ => ?_) (fun c => by omega) (hy := nI_add _ _))
          have K5 := K3 (t4, some (.int (nI (n + 1 - T)))) h4 ⟨W4, by omega, fun v hv => (by
            show t4 v = _
            rw [p4 v hv]
            rcases (by omega : T = 1 ∨ T = 2) with e | e
            · subst e
              show bI (ax n 1 n v) = bI (ax n 1 n v || false)
              rw [Bool.or_false]
            · subst e
              rfl)⟩
          simp only at K5
          rw [nI_succ T] at K5
          exact am_run (am_cK _) 2 (K5)
      · obtain ⟨t3, y2⟩ := x
        obtain ⟨W3, hT1, p3⟩ := P3
        replace W3 : RM h0 h3 F (va_up (va_up A 176 w) 177 t3) R := W3
        replace p3 : ∀ v, v < 64 → t3 v = bI ((decide (2 ≤ 3) && ax n 1 n v) || (decide (3 ≤ 3) && ax n 2 (n - 1) v)) := p3
        have mx := wK_mex n (by omega)
        refine am_run (am_cK _) 3 (pk_le 3 3 (fun _ => ?_) (fun c => by omega))
        refine am_run (am_cK _) 2 (show am_wp (am_call d) (0, 0) cm_X11_laysWorth Q (fun _ => False) (85, [some (.ref 152), some (.int (nI n)), some (.int (nI 0)), y2], [], 0, 0) h3 from ?_)
        have fat := fnd_at (q := fun v => !(ax n 1 n v || ax n 2 (n - 1) v)) (k := 64) (s := 0) (by omega)
        rw [mx.1] at fat
        refine am_loopP (α := Unit) (fun v _ => (85, [some (.ref 152), some (.int (nI n)), some (.int (nI v)), y2], [], 0, 0)) (fun _ _ => True) (wK n) (fun v _ hv _ K6 => ?_) (fun _ _ => ?_) 0 () (Nat.zero_le _) trivial
        · have fno := fnd_no (q := fun v => !(ax n 1 n v || ax n 2 (n - 1) v)) (k := 64) (s := 0) (c := v) (Nat.zero_le _) (by omega)
          have e : t3 v = 1 := by
            rw [p3 v (by omega)]
            have f2 : (!(ax n 1 n v || ax n 2 (n - 1) v)) = false := fno
            have : (ax n 1 n v || ax n 2 (n - 1) v) = true := by revert f2; cases (ax n 1 n v || ax n 2 (n - 1) v) <;> decide
            show bI (ax n 1 n v || ax n 2 (n - 1) v) = 1
            rw [this]
            rfl
          refine am_run (am_cK _) 2 (am_obj_in W3.o (am_run (am_cK _) 2 (am_ldB W3.a177 v (by omega) ?_)))
          rw [nI_clamp (by omega), am_up_s, e]
          have K7 := K6 () trivial
          rw [nI_succ v] at K7
          exact am_run (am_cK _) 1 (⟨fun z => absurd z n10, fun _ => am_run (am_cK _) 2 (K7)⟩)
        · have e : t3 (wK n) = 0 := by
            rw [p3 _ (by omega)]
            have : (ax n 1 n (wK n) || ax n 2 (n - 1) (wK n)) = false := by simpa using fat
            show bI (ax n 1 n (wK n) || ax n 2 (n - 1) (wK n)) = 0
            rw [this]
            rfl
          refine am_run (am_cK _) 2 (am_obj_in W3.o (am_run (am_cK _) 2 (am_ldB W3.a177 (wK n) (by omega) ?_)))
          rw [nI_clamp (by omega), am_up_s, e]
          refine am_run (am_cK _) 1 (⟨fun _ => ?_, fun z => absurd rfl z⟩)
          refine am_run (am_cK _) 2 (am_obj_in W3.o (am_run (am_cK _) 3 (am_stI (p := 176) W3 (j := n) rfl (show n < 41 by omega) rfl (fun h4 W4 => ?_))))
          rw [show va_up (va_up A 176 w) 177 t3 176 = w from rfl, va_sw (by decide), va_up2] at W4
          have K7 := K (upd w n (nI (wK n)), t3, some (.int (nI (wK n))), y2) h4 ⟨W4, fun i hi => (by
            show upd w n (nI (wK n)) i = _
            by_cases e : i = n
            · subst e; exact upd_s
            · exact (upd_n e).trans (P1 i (by omega)))⟩
          simp only at K7
          rw [nI_succ n] at K7
          exact am_run (am_cK _) 2 (K7)
  · obtain ⟨w, t, x1, x2⟩ := x
    obtain ⟨W1, P1⟩ := P
    exact am_run (am_cK _) 3 (pk_lt 40 41 (fun _ => am_run (am_cK _) 1 (hQ h1 w t W1 P1)) (fun c => by omega))
theorem Z_ring (hY : RY h M) (n : Int32) (hQ : ∀ h', Fy h h' → RY h' (oRing M n).2 → Q (some (.int (oRing M n).1)) h') : am_call (d + 20) 309 [.ref 152, .int n] h Q := by
  obtain ⟨F, A, R, W, iv⟩ := hY
  unfold oRing at hQ
  refine en_X11_ring (Nat.le_of_ble_eq_true rfl) ?_
  refine am_run (am_cK _) 3 (am_putI W rfl (by decide) (fun h1 W1 => ?_))
  refine am_run (am_cK _) 5 (M_inN n 0 40 (by omega) (by omega) (fun m _ hm e => ?_) (fun c => ?_))
  · subst e
    rw [if_neg (by
      rintro (z | z)
      · exact nI_pos (by omega) z
      · exact nI_nlt (a := 40) (b := m) hm (by omega) z)] at hQ
    refine am_run (am_cK _) 1 (⟨fun _ => ?_, fun z => absurd n10 z⟩)
    refine am_run (am_cK _) 2 (am_obj_in W1.o ((M_laysWorth W1 (fun h2 w t W2 hw => ?_))))
    refine am_run (am_cK _) 3 (am_putI W2 rfl (by decide) (fun h3 W3 => ?_))
    have e12 : (nI m = 1 ∨ nI m = 2) ↔ (m = 1 ∨ m = 2) := or_congr (nI_eq (b := 1) (by omega) (by omega)) (nI_eq (b := 2) (by omega) (by omega))
    have zero : ¬ (m = 1 ∨ m = 2) → Q (some (.int 0)) h3 := fun c => by
      rw [if_neg (fun z => c (e12.mp z))] at hQ
      exact hQ h3 W3.y ⟨_, _, _, W3.re, iv.s, iv.u, iv.k, iv.t, ⟨rfl, Nat.zero_le _, fun i hi => absurd hi (Nat.not_lt_zero i)⟩, iv.f, iv.hr, iv.l⟩
    have one : ∀ t', (m = 1 ∨ m = 2) → t' = m → am_wp (am_call (d + 19)) (0, 0) cm_X11_ring Q (fun _ => False) (51, [some (.ref 152), some (.int (nI m)), some (.int (nI t'))], [], 0, 0) h3 := fun t' c et => by
      rw [if_pos (e12.mpr c)] at hQ
      subst et
      refine am_run (am_cK _) 4 (am_obj_in W3.o ((M_enters W3 (m := 0) rfl (by omega) _ (fun h4 W4 => ?_))))
      exact am_run (am_cK _) 2 (hQ h4 W4.y ⟨_, _, _, W4.re, iv.s, iv.u, iv.k, iv.t, ⟨rfl, by show 1 ≤ 16; omega, fun i hi => i_lt1 (P := fun q => vp_updL R 0 (nI t').toInt64 q = (w1 (nI t') q).toInt64) hi rfl⟩, iv.f, iv.hr, iv.l⟩)
    have rd : ∀ t', 1 ≤ t' → t' ≤ m → (¬ wK (m - t') = 0 → am_wp (am_call (d + 19)) (0, 0) cm_X11_ring Q (fun _ => False) (59, [some (.ref 152), some (.int (nI m)), some (.int (nI t'))], [], 0, 0) h3) → (wK (m - t') = 0 → am_wp (am_call (d + 19)) (0, 0) cm_X11_ring Q (fun _ => False) (51, [some (.ref 152), some (.int (nI m)), some (.int (nI t'))], [], 0, 0) h3) → am_wp (am_call (d + 19)) (0, 0) cm_X11_ring Q (fun _ => False) (40, [some (.ref 152), some (.int (nI m)), some (.int (nI t'))], [], 0, 0) h3 := fun t' t1 tm k1 k2 => by
      refine am_run (am_cK _) 2 (am_obj_in W3.o (am_run (am_cK _) 4 (am_ld W3.a176 (m - t') (by omega) ?_ (pk_sub tm))))
      rw [pk_sub tm, nI_clamp (by omega), show va_up (va_up A 176 w) 177 t 176 (m - t') = nI (wK (m - t')) from hw _ (by omega)]
      have := (wK_mex (m - t') (by omega)).2
      exact am_run (am_cK _) 1 (⟨fun c => k1 (fun z => c (by rw [z]; rfl)), fun c => k2 ((nI_eq (b := 0) (by omega) (by omega)).mp (Classical.not_not.mp c))⟩)
    refine am_run (am_cK _) 2 (show am_wp (am_call (d + 19)) (0, 0) cm_X11_ring Q (fun _ => False) (30, [some (.ref 152), some (.int (nI m)), some (.int (nI 1))], [], 0, 0) h3 from ?_)
    refine am_run (am_cK _) 3 (pk_le 3 1 (fun c => by omega) (fun _ => ?_))
    refine am_run (am_cK _) 3 (pk_lt m 1 (fun c => am_run (am_cK _) 2 (zero (by omega))) (fun c => ?_))
    refine rd 1 (by omega) c (fun k0 => ?_) (fun k0 => ?_)
    · refine am_run (am_cK _) 2 (show am_wp (am_call (d + 19)) (0, 0) cm_X11_ring Q (fun _ => False) (30, [some (.ref 152), some (.int (nI m)), some (.int (nI 2))], [], 0, 0) h3 from ?_)
      refine am_run (am_cK _) 3 (pk_le 3 2 (fun c => by omega) (fun _ => ?_))
      have m1 : ¬ m = 1 := fun z => by subst z; exact k0 rfl
      refine am_run (am_cK _) 3 (pk_lt m 2 (fun c => am_run (am_cK _) 2 (zero (by omega))) (fun c2 => ?_))
      refine rd 2 (by omega) c2 (fun k1 => ?_) (fun k1 => ?_)
      · have m2 : ¬ m = 2 := fun z => by subst z; exact k1 rfl
        refine am_run (am_cK _) 2 (show am_wp (am_call (d + 19)) (0, 0) cm_X11_ring Q (fun _ => False) (30, [some (.ref 152), some (.int (nI m)), some (.int (nI 3))], [], 0, 0) h3 from ?_)
        exact am_run (am_cK _) 3 (pk_le 3 3 (fun _ => am_run (am_cK _) 2 (zero (by omega))) (fun c => by omega))
      · have m2 : m = 2 := Nat.le_antisymm (Nat.le_of_not_lt (fun z => by have := wK_pos (m - 2) (by omega) (by omega); omega)) c2
        exact one 2 (Or.inr m2) m2.symm
    · have m1 : m = 1 := Nat.le_antisymm (Nat.le_of_not_lt (fun z => by have := wK_pos (m - 1) (by omega) (by omega); omega)) c
      exact one 1 (Or.inl m1) m1.symm
  · rw [if_pos (show n < 0 ∨ 40 < n from c)] at hQ
    exact am_run (am_cK _) 1 (⟨fun z => absurd rfl z, fun _ => am_run (am_cK _) 2 (hQ h1 W1.y ⟨_, _, _, W1.re, iv⟩)⟩)
end
