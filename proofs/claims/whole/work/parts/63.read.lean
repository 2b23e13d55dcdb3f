/-! THE MODEL reads -/
theorem upd_upd {F : Nat → Int32} {i : Nat} {x y : Int32} : upd (upd F i x) i y = upd F i y := by
  funext j
  by_cases e : j = i
  · subst e; rw [upd_s, upd_s]
  · rw [upd_n e, upd_n e, upd_n e]
theorem upd_same {F : Nat → Int32} {i : Nat} {x : Int32} (hx : x = F i) : upd F i x = F := by
  funext j
  by_cases e : j = i
  · subst e; rw [upd_s, hx]
  · rw [upd_n e]
theorem upd_sw {F : Nat → Int32} {i j : Nat} {x y : Int32} (h : i ≠ j) : upd (upd F i x) j y = upd (upd F j y) i x := by
  funext k
  by_cases e : k = i
  · subst e; rw [upd_n h, upd_s, upd_s]
  · rw [upd_n e]
    by_cases e2 : k = j
    · subst e2; rw [upd_s, upd_s]
    · rw [upd_n e2, upd_n e2, upd_n e]
theorem va_up2 {α : Type} {A : Nat → α} {i : Nat} {x y : α} : va_up (va_up A i x) i y = va_up A i y := by
  funext j
  by_cases e : j = i
  · subst e; rw [am_up_s, am_up_s]
  · rw [am_up_n e, am_up_n e, am_up_n e]
/-- the text that is read -/
def TX (A : Nat → Nat → Int32) (tx : Nat → Nat) (t : Nat) : Prop := ∀ i, i < t → A 156 i = nI (tx i) ∧ tx i < 256
def bgF (F : Nat → Int32) (t : Nat) : Nat → Int32 := upd (upd (upd (upd F 6 0) 7 0) 9 0) 8 (nI t)
def isD (x : Nat) : Bool := decide (48 ≤ x ∧ x ≤ 57)
/-- a number of at most k digits -/
def numL (tx : Nat → Nat) (t : Nat) : Nat → Nat → Nat → Nat × Nat
  | 0, a, v => (v, a)
  | k + 1, a, v => if a < t ∧ isD (tx a) = true then numL tx t k (a + 1) (10 * v + tx a - 48) else (v, a)
def fOf (n m a t : Nat) (is : Bool) : Int32 := if m < n ∧ ((is = true ∧ a = t) ∨ m ≤ a) then -1 - nI m else if is = true ∧ a = t then 0 else -1 - nI a
theorem dig_in : ∀ x, x < 256 → ∀ lo, lo < 2 → ((nI lo ≤ nI x - 48 ∧ nI x - 48 ≤ 9) ↔ (48 + lo ≤ x ∧ x ≤ 57)) ∧ (48 ≤ x → nI x - 48 = nI (x - 48)) := by decide +kernel
section
variable {d : Nat} {h0 h : am_H} {Q : Option Value → am_H → Prop} {F : Nat → Int32} {A : Nat → Nat → Int32} {R : Nat → Int64} {tx : Nat → Nat} {a t n : Nat}
theorem M_begins (W : RM h0 h F A R) (hn : F 6 = nI n) (hn80 : n ≤ 80) {m : Nat} (hm : m ≤ 80) (hQ : ∀ h', RM h0 h' (bgF F (Nat.min n m)) A R → Q (some (.int (nI n))) h') : am_call (d + 2) 189 [.ref 152, .int (nI m)] h Q := by
  refine en_X11_begins (Nat.le_of_ble_eq_true rfl) ?_
  refine am_run (am_cK _) 2 (am_obj_in W.o (am_run (am_cK _) 4 ?_))
  rw [hn]
  refine am_putI W rfl (by decide) (fun h1 W1 => am_run (am_cK _) 3 (am_putI W1 rfl (by decide) (fun h2 W2 => am_run (am_cK _) 3 (am_putI W2 rfl (by decide) (fun h3 W3 => ?_)))))
  refine am_run (am_cK _) 4 (J_min (by omega) (by omega) (am_run (am_cK _) 1 (am_putI W3 rfl (by decide) (fun h4 W4 => ?_))))
  exact am_run (am_cK _) 2 (hQ h4 W4)
theorem M_takes (W : RM h0 h F A R) (ha : F 7 = nI a) (ht : F 8 = nI t) (ht80 : t ≤ 80) (ha80 : a ≤ 80) (hx : TX A tx t) {s : Nat} (hs : s < 256) (h1 : a < t → tx a = s → ∀ h', RM h0 h' (upd F 7 (nI (a + 1))) A R → Q (some (.int 1)) h') (h2 : ¬ (a < t ∧ tx a = s) → ∀ h', RM h0 h' F A R → Q (some (.int 0)) h') : am_call (d + 2) 190 [.ref 152, .int (nI s)] h Q := by
  refine en_X11_takes (Nat.le_of_ble_eq_true rfl) ?_
  have no : ¬ (a < t ∧ tx a = s) → am_wp (am_call (d + 1)) (0, 0) cm_X11_takes Q (fun _ => False) (28, [some (.ref 152), some (.int (nI s)), none], [], 0, 0) h := fun c => by
    refine am_run (am_cK _) 5 (am_obj_in W.o (am_run (am_cK _) 2 (M_flag0 (am_run (am_cK _) 2 (am_putI W rfl (by decide) (fun h1 W1 => ?_))))))
    rw [upd_same (show F 7 + 0 = F 7 from Int32.add_zero _)] at W1
    exact am_run (am_cK _) 2 (⟨Or.inl rfl, h2 c h1 W1⟩)
  refine am_run (am_cK _) 2 (am_obj_in W.o (am_run (am_cK _) 2 (am_obj_in W.o (am_run (am_cK _) 1 (pk_le t a (fun c => no (by omega)) (fun c => ?_) (hx := ht) (hy := ha))))))
  refine am_run (am_cK _) 2 (am_obj_in W.o (am_run (am_cK _) 2 (am_obj_in W.o (am_run (am_cK _) 1 (am_ld W.a156 a (by omega) ?_ ha)))))
  rw [ha, nI_clamp (by omega), (hx a c).1]
  have h256 := (hx a c).2
  refine am_run (am_cK _) 2 (⟨fun z => no (fun w => z (congrArg nI w.2)), fun z => ?_⟩)
  have e : tx a = s := (nI_eq (by omega) (by omega)).mp (Classical.not_not.mp z)
  refine am_run (am_cK _) 6 (am_obj_in W.o (am_run (am_cK _) 2 (M_flag1 (am_run (am_cK _) 2 (am_putI W rfl (by decide) (fun h3 W3 => ?_))))))
  rw [ha, nI_1] at W3
  exact am_run (am_cK _) 2 (⟨Or.inr rfl, h1 c e h3 W3⟩)
theorem M_isDigit (W : RM h0 h F A R) (ha : F 7 = nI a) (ht : F 8 = nI t) (ht80 : t ≤ 80) (ha80 : a ≤ 80) (hx : TX A tx t) (h1 : a < t → isD (tx a) = true → Q (some (.int 1)) h) (h2 : ¬ (a < t ∧ isD (tx a) = true) → Q (some (.int 0)) h) : am_call (d + 2) 191 [.ref 152] h Q := by
  refine en_X11_isDigit (Nat.le_of_ble_eq_true rfl) ?_
  refine am_run (am_cK _) 2 (am_obj_in W.o (am_run (am_cK _) 2 (am_obj_in W.o (am_run (am_cK _) 1 (pk_le t a (fun c => am_run (am_cK _) 2 (⟨Or.inl rfl, h2 (by omega)⟩)) (fun c => ?_) (hx := ht) (hy := ha))))))
  refine am_run (am_cK _) 2 (am_obj_in W.o (am_run (am_cK _) 2 (am_obj_in W.o (am_run (am_cK _) 1 (am_ld W.a156 a (by omega) ?_ ha)))))
  rw [ha, nI_clamp (by omega), (hx a c).1]
  have h256 := (hx a c).2
  refine am_run (am_cK _) 4 (M_inN (nI (tx a)) 48 57 (by omega) (by omega) (fun j j1 j2 e => ?_) (fun e => ?_))
  · have ej : tx a = j := (nI_eq (by omega) (by omega)).mp e
    refine am_run (am_cK _) 1 (⟨fun z => absurd z n10, fun _ => am_run (am_cK _) 3 (⟨Or.inr rfl, h1 c (decide_eq_true (by omega))⟩)⟩)
  · refine am_run (am_cK _) 1 (⟨fun _ => am_run (am_cK _) 2 (⟨Or.inl rfl, h2 (fun z => ?_)⟩), fun z => absurd rfl z⟩)
    have z2 := of_decide_eq_true z.2
    rcases e with e | e
    · exact nI_nlt z2.1 (by omega) e
    · exact nI_nlt z2.2 (by omega) e
theorem M_takesOf (W : RM h0 h F A R) (ha : F 7 = nI a) (ht : F 8 = nI t) (ht80 : t ≤ 80) (ha80 : a ≤ 80) (hx : TX A tx t) {ti L : Nat} {ch : Nat → Nat} (hti : ti < 16) (hLe : (am_txt ti).length = L) (hL : L ≤ 20) (hch : ∀ j, j < L → (am_txt ti).getD j 0 = nI (ch j) ∧ ch j < 256) (h1 : ∀ k, k < L → a < t → ch k = tx a → (∀ j, j < k → ch j ≠ tx a) → ∀ h', RM h0 h' (upd F 7 (nI (a + 1))) A R → Q (some (.int (nI k))) h') (h2 : (a < t → ∀ k, k < L → ch k ≠ tx a) → Q (some (.int (-1))) h) : am_call (d + 8) 192 [.ref 152, .ref ti] h Q := by
  refine en_X11_takesOf (Nat.le_of_ble_eq_true rfl) (am_run (am_cK _) 2 ?_)
  refine am_loopP (α := Unit) (fun i _ => (2, [some (.ref 152), some (.ref ti), some (.int (nI i))], [], 0, 0)) (fun i _ => a < t → ∀ j, j < i → ch j ≠ tx a) L (fun i j hi P K => ?_) (fun j P => ?_) 0 () (Nat.zero_le _) (fun _ q hq => by omega)
  · refine am_run (am_cK _) 3 (⟨hti, by omega, ?_⟩)
    rw [hLe]
    refine am_run (am_cK _) 1 (pk_le L i (fun c => by omega) (fun _ => ?_))
    refine am_run (am_cK _) 2 (am_obj_in W.o (am_run (am_cK _) 2 (am_obj_in W.o (am_run (am_cK _) 1 (pk_le t a (fun c => am_run (am_cK _) 2 (h2 (fun z => by omega))) (fun c => ?_) (hx := ht) (hy := ha))))))
    refine am_run (am_cK _) 3 (⟨hti, by omega, vp_in_nI (by omega) (by omega), ?_⟩)
    rw [nI_clamp (by omega), (hch i hi).1]
    refine am_run (am_cK _) 2 (am_obj_in W.o (am_run (am_cK _) 2 (am_obj_in W.o (am_run (am_cK _) 1 (am_ld W.a156 a (by omega) ?_ ha)))))
    rw [ha, nI_clamp (by omega), (hx a c).1]
    have c1 := (hch i hi).2
    have c2 := (hx a c).2
    refine am_run (am_cK _) 1 (⟨fun z => ?_, fun z => ?_⟩)
    · have K' := K () (fun _ q hq => (by
        by_cases e : q = i
        · subst e; exact fun w => z (congrArg nI w)
        · exact P c q (by omega)))
      rw [nI_succ] at K'
      exact am_run (am_cK _) 2 (K')
    · have e : ch i = tx a := (nI_eq (by omega) (by omega)).mp (Classical.not_not.mp z)
      refine am_run (am_cK _) 3 (am_obj_in W.o (am_run (am_cK _) 3 (am_putI W rfl (by decide) (fun h3 W3 => ?_))))
      rw [ha, nI_1] at W3
      exact am_run (am_cK _) 2 (h1 i hi c e (P c) h3 W3)
  · refine am_run (am_cK _) 3 (⟨hti, by omega, ?_⟩)
    rw [hLe]
    exact am_run (am_cK _) 1 (pk_le L L (fun c => am_run (am_cK _) 2 (h2 P)) (fun c => by omega))
theorem M_number (W : RM h0 h F A R) (ha : F 7 = nI a) (ht : F 8 = nI t) (ht80 : t ≤ 80) (ha80 : a ≤ t) (hx : TX A tx t) {k : Nat} (hk : k ≤ 3) (h1 : a < t → isD (tx a) = true → ∀ h', RM h0 h' (upd F 7 (nI (numL tx t k a 0).2)) A R → Q (some (.int (nI (numL tx t k a 0).1))) h') (h2 : ¬ (a < t ∧ isD (tx a) = true) → Q (some (.int (-1))) h) : am_call (d + 3) 193 [.ref 152, .int (nI k)] h Q := by
  refine en_X11_number (Nat.le_of_ble_eq_true rfl) ?_
  refine am_run (am_cK _) 2 (am_obj_in W.o ((M_isDigit W ha ht ht80 (by omega) hx (fun c1 c2 => ?_) (fun c => am_run (am_cK _) 1 (⟨fun z => absurd rfl z, fun _ => am_run (am_cK _) 2 (h2 c)⟩)))))
  refine am_run (am_cK _) 1 (⟨fun _ => ?_, fun z => absurd n10 z⟩)
  have q := h1 c1 c2
  refine am_run (am_cK _) 4 ?_
  suffices H : ∀ j i v b h', i + j = k → v < 10 ^ i → b ≤ t → RM h0 h' (upd F 7 (nI b)) A R → numL tx t k a 0 = numL tx t j b v → am_wp (am_call (d + 2)) (0, 0) cm_X11_number Q (fun _ => False) (13, [some (.ref 152), some (.int (nI k)), some (.int (nI v)), some (.int (nI i))], [], 0, 0) h' from
    H k 0 0 a h (by omega) (by decide) ha80 (by rw [upd_same ha.symm]; exact W) rfl
  intro j
  induction j with
  | zero =>
    intro i v b h' hi hv hb W' e
    rw [e] at q
    have : i = k := by omega
    subst this
    exact am_run (am_cK _) 3 (pk_le i i (fun _ => am_run (am_cK _) 2 (q h' W')) (fun c => by omega))
  | succ j ih =>
    intro i v b h' hi hv hb W' e
    rw [numL] at e
    refine am_run (am_cK _) 3 (pk_le k i (fun c => by omega) (fun _ => ?_))
    refine am_run (am_cK _) 2 (am_obj_in W'.o ((M_isDigit W' rfl ht ht80 (by omega) hx (fun d1 d2 => ?_) (fun c => ?_))))
    · rw [if_pos ⟨d1, d2⟩] at e
      have z2 := of_decide_eq_true d2
      have hv3 : v < 100 := Nat.lt_of_lt_of_le hv (Nat.le_trans (Nat.pow_le_pow_right (by decide) (by omega : i ≤ 2)) (by decide))
      refine am_run (am_cK _) 1 (⟨fun z => absurd z n10, fun _ => ?_⟩)
      refine am_run (am_cK _) 5 (am_obj_in W'.o (am_run (am_cK _) 2 (am_obj_in W'.o (am_run (am_cK _) 1 (am_ld W'.a156 b (by omega) ?_)))))
      show am_wp _ _ _ _ _ (_, _, .int (A 156 (nI b).toNatClampNeg) :: _, _) _
      rw [nI_clamp (by omega), (hx b d1).1]
      refine am_run (am_cK _) 7 (am_obj_in W'.o (am_run (am_cK _) 3 (am_putI W' rfl (by decide) (fun h3 W3 => ?_))))
      have e1 : (10 : Int32) * nI v = nI (10 * v) := pk_mul 10 v
      have e2 : nI (10 * v + tx b) - 48 = nI (10 * v + tx b - 48) := pk_sub (a := 10 * v + tx b) (b := 48) (by omega)
      have W4 : RM h0 h3 (upd F 7 (nI (b + 1))) A R := by
        have w := W3
        rw [show upd F 7 (nI b) 7 = nI b from upd_s, nI_1, upd_upd] at w
        exact w
      have z := ih (i + 1) (10 * v + tx b - 48) (b + 1) h3 (by omega) (by rw [Nat.pow_succ]; omega) (by omega) W4 e
      rw [nI_succ, ← e2, ← nI_add, ← e1] at z
      exact am_run (am_cK _) 2 (z)
    · rw [if_neg c] at e
      rw [e] at q
      exact am_run (am_cK _) 1 (⟨fun _ => am_run (am_cK _) 2 (q h' W'), fun z => absurd rfl z⟩)
theorem M_digitIn (W : RM h0 h F A R) (ha : F 7 = nI a) (ht : F 8 = nI t) (ht80 : t ≤ 80) (ha80 : a ≤ 80) (hx : TX A tx t) {lo : Nat} (hlo : lo < 2) (h1 : a < t → 48 + lo ≤ tx a → tx a ≤ 57 → ∀ h', RM h0 h' (upd F 7 (nI (a + 1))) A R → Q (some (.int (nI (tx a - 48)))) h') (h2 : ¬ (a < t ∧ 48 + lo ≤ tx a ∧ tx a ≤ 57) → Q (some (.int (-1))) h) : am_call (d + 2) 194 [.ref 152, .int (nI lo), .int 9] h Q := by
  refine en_X11_digitIn (Nat.le_of_ble_eq_true rfl) ?_
  refine am_run (am_cK _) 2 (am_obj_in W.o (am_run (am_cK _) 2 (am_obj_in W.o (am_run (am_cK _) 1 (pk_le t a (fun c => am_run (am_cK _) 2 (h2 (by omega))) (fun c => ?_) (hx := ht) (hy := ha))))))
  refine am_run (am_cK _) 2 (am_obj_in W.o (am_run (am_cK _) 2 (am_obj_in W.o (am_run (am_cK _) 1 (am_ld W.a156 a (by omega) ?_ ha)))))
  rw [ha, nI_clamp (by omega), (hx a c).1]
  have dg := dig_in (tx a) (hx a c).2 lo hlo
  refine am_run (am_cK _) 8 (M_in (nI (tx a) - 48) (nI lo) 9 (fun c1 c2 => ?_) (fun e => ?_))
  · have dd := dg.1.mp ⟨c1, c2⟩
    refine am_run (am_cK _) 1 (⟨fun _ => ?_, fun z => absurd n10 z⟩)
    refine am_run (am_cK _) 3 (am_obj_in W.o (am_run (am_cK _) 3 (am_putI W rfl (by decide) (fun h3 W3 => ?_))))
    rw [ha, nI_1] at W3
    refine am_run (am_cK _) 2 (am_obj_in W3.o (am_run (am_cK _) 2 (am_obj_in W3.o (am_run (am_cK _) 3 (am_ld W3.a156 a (by omega) ?_ (show nI (a + 1) - 1 = nI a from nI_pred a))))))
    show am_wp _ _ _ _ _ (_, _, .int (A 156 (nI (a + 1) - 1).toNatClampNeg) :: _, _) _
    rw [nI_pred, nI_clamp (by omega), (hx a c).1]
    refine am_run (am_cK _) 3 ?_
    show Q (some (.int (nI (tx a) - 48))) h3
    rw [dg.2 (by omega)]
    exact h1 c dd.1 dd.2 h3 W3
  · refine am_run (am_cK _) 1 (⟨fun z => absurd rfl z, fun _ => am_run (am_cK _) 2 (h2 (fun z => ?_))⟩)
    have dd := dg.1.mpr z.2
    exact e.elim (fun w => Int32.not_lt.mpr dd.1 w) (fun w => Int32.not_lt.mpr dd.2 w)
theorem M_faultOf (W : RM h0 h F A R) (ha : F 7 = nI a) (ht : F 8 = nI t) (ht80 : t ≤ 80) (ha80 : a ≤ 80) (hn80 : n ≤ 80) {m : Nat} (hm : m ≤ 80) (is : Bool) (hQ : Q (some (.int (fOf n m a t is))) h) : am_call (d + 1) 195 [.ref 152, .int (nI n), .int (nI m), .int (bI is)] h Q := by
  refine en_X11_faultOf (Nat.le_of_ble_eq_true rfl) ?_
  have yes : is = true → a = t → am_wp (am_call d) (0, 0) cm_X11_faultOf Q (fun _ => False) (15, [some (.ref 152), some (.int (nI n)), some (.int (nI m)), some (.int (bI is)), none], [], 0, 0) h := fun e1 e2 => by
    unfold fOf at hQ
    refine am_run (am_cK _) 6 (pk_le n m (fun c => ?_) (fun c => ?_))
    · rw [if_neg (by omega), if_pos ⟨e1, e2⟩] at hQ
      exact am_run (am_cK _) 2 (⟨fun z => absurd z n10, fun _ => am_run (am_cK _) 3 (hQ)⟩)
    · rw [if_pos ⟨c, Or.inl ⟨e1, e2⟩⟩] at hQ
      exact am_run (am_cK _) 2 (⟨fun _ => am_run (am_cK _) 4 (hQ), fun z => absurd n10 z⟩)
  have no : ¬ (is = true ∧ a = t) → am_wp (am_call d) (0, 0) cm_X11_faultOf Q (fun _ => False) (19, [some (.ref 152), some (.int (nI n)), some (.int (nI m)), some (.int (bI is)), none], [], 0, 0) h := fun e => by
    unfold fOf at hQ
    refine am_run (am_cK _) 5 (pk_le n m (fun c => ?_) (fun c => ?_))
    · rw [if_neg (by omega), if_neg e] at hQ
      refine am_run (am_cK _) 2 (⟨fun _ => am_run (am_cK _) 3 (am_obj_in W.o (am_run (am_cK _) 2 ?_)), fun z => absurd rfl z⟩)
      rw [ha]
      exact hQ
    · refine am_run (am_cK _) 2 (⟨fun z => absurd rfl z, fun _ => am_run (am_cK _) 2 (am_obj_in W.o (am_run (am_cK _) 2 (pk_lt a m (fun c2 => ?_) (fun c2 => ?_) (hx := ha))))⟩)
      · rw [if_neg (fun z => z.2.elim e (fun w => by omega)), if_neg e] at hQ
        refine am_run (am_cK _) 2 (⟨fun _ => am_run (am_cK _) 3 (am_obj_in W.o (am_run (am_cK _) 2 ?_)), fun z => absurd rfl z⟩)
        rw [ha]
        exact hQ
      · rw [if_pos ⟨c, Or.inr c2⟩] at hQ
        exact am_run (am_cK _) 4 (hQ)
  cases is with
  | false => exact am_run (am_cK _) 2 (⟨fun _ => no (fun z => absurd z.1 (by decide)), fun z => absurd rfl z⟩)
  | true =>
    refine am_run (am_cK _) 2 (⟨fun z => absurd z n10, fun _ => am_run (am_cK _) 2 (am_obj_in W.o (am_run (am_cK _) 2 (am_obj_in W.o (am_run (am_cK _) 1 (⟨fun z => no (fun w => z (by rw [ha, ht, w.2])), fun z => yes rfl ?_⟩)))))⟩)
    have zz : F 7 = F 8 := Classical.not_not.mp z
    rw [ha, ht] at zz
    exact (nI_eq (by omega) (by omega)).mp zz
end
