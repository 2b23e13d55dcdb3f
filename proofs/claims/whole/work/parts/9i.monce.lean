/-! rows in which each word comes just once: THE MODEL -/
def anB (g : Nat → Bool) : Nat → Bool
  | 0 => false
  | i + 1 => anB g i || g i
def wdL (k n : Nat) (a : List Nat) (q : Nat) : Nat → Nat
  | 0 => 0
  | j + 1 => k * wdL k n a q j + a.getD ((q + j) % n) 0
def wasL (k w n : Nat) (a : List Nat) : Nat → Bool := anB (fun q => wdL k n a q w == wdL k n a (a.length - w) w)
def onL (k w n : Nat) (a : List Nat) : Nat → Bool := allB (fun p => !(anB (fun q => wdL k n a q w == wdL k n a p w) p))
def bdL (k w n : Nat) (a : List Nat) : Bool := decide (w ≤ a.length) && wasL k w n a (a.length - w)
def tryL (g : Nat → Option (List Nat)) : Nat → Nat → Option (List Nat)
  | _, 0 => none
  | s, c + 1 => match g s with
    | some x => some x
    | none => tryL g (s + 1) c
def lay (k w n : Nat) : Nat → List Nat → Option (List Nat)
  | 0, a => if bdL k w n a then none else if onL k w n a n then some a else none
  | r + 1, a => if bdL k w n a then none else tryL (fun c => lay k w n r (a ++ [c])) 0 k
def oEq (x : Option (List Nat)) (L : List Nat) : Bool := match x with
  | some y => decide (y = L)
  | none => false
theorem oEq_use {x : Option (List Nat)} {L : List Nat} (h : oEq x L = true) : x = some L := by
  cases x with
  | none => exact absurd h Bool.false_ne_true
  | some y => exact congrArg some (of_decide_eq_true h)
theorem lay_dB0 : ∀ k, k < 5 → 1 ≤ k → ∀ w, w < 5 → 1 ≤ w → k ^ w ≤ 16 → oEq (lay k w (k ^ w) (k ^ w) []) (dB k w) = true := by decide +kernel
theorem wdL_lt {k n : Nat} {a : List Nat} {q : Nat} (ha : ∀ i, a.getD i 0 < k) : ∀ w, wdL k n a q w < k ^ w
  | 0 => by simp [wdL]
  | w + 1 => by
    have ih := wdL_lt (n := n) (q := q) ha w
    have h2 := ha ((q + w) % n)
    rw [wdL, Nat.pow_succ, Nat.mul_comm k]
    have : (wdL k n a q w + 1) * k ≤ k ^ w * k := Nat.mul_le_mul_right _ (by omega)
    rw [Nat.add_mul, Nat.one_mul] at this
    omega
def Agq (A A' : Nat → Nat → Int32) : Prop := ∀ x, x ≠ 170 → x ≠ 171 → A' x = A x
section
variable {d : Nat} {h0 h : am_H} {Q : Option Value → am_H → Prop} {F : Nat → Int32} {A : Nat → Nat → Int32} {R : Nat → Int64} {M : Ms} {k w n : Nat}
theorem M_wordAt (W : RM h0 h F A R) {a : List Nat} {q : Nat} (hn0 : 0 < n) (hn : n ≤ 16) (hw : w ≤ 4) (hq : q ≤ 16) (hg : ∀ j, j < w → A 170 ((q + j) % n) = nI (a.getD ((q + j) % n) 0)) (hQ : Q (some (.int (nI (wdL k n a q w)))) h) : am_call (d + 1) 286 [.ref 152, .int (nI q), .int (nI k), .int (nI w), .int (nI n)] h Q := by
  refine en_X11_wordAt (Nat.le_of_ble_eq_true rfl) ?_
  refine am_run (am_cK _) 4 (show am_wp (am_call d) (0, 0) cm_X11_wordAt Q (fun _ => False) (6, [some (.ref 152), some (.int (nI q)), some (.int (nI k)), some (.int (nI w)), some (.int (nI n)), some (.int (nI (wdL k n a q 0))), some (.int (nI 0))], [], 0, 0) h from ?_)
  refine am_loopC (fun j => (6, [some (.ref 152), some (.int (nI q)), some (.int (nI k)), some (.int (nI w)), some (.int (nI n)), some (.int (nI (wdL k n a q j))), some (.int (nI j))], [], 0, 0)) w (fun j hj K => ?_) ?_ 0 (Nat.zero_le _)
  · refine am_run (am_cK _) 3 (pk_le w j (fun c => by omega) (fun _ => ?_))
    have hm := Nat.mod_lt (q + j) hn0
    refine am_run (am_cK _) 5 (am_obj_in W.o (am_run (am_cK _) 5 (⟨nI_ne0 hn0 (by omega), ?_⟩)))
    rw [nI_add, pk_rem (by omega) hn0 (by omega)]
    refine am_run (am_cK _) 1 (am_ld W.a170 ((q + j) % n) (by omega) ?_)
    rw [nI_clamp (by omega), hg j hj]
    rw [wdL, ← nI_add, ← pk_mul, nI_succ j] at K
    exact am_run (am_cK _) 4 (K)
  · exact am_run (am_cK _) 3 (pk_le w w (fun _ => am_run (am_cK _) 2 (hQ)) (fun c => by omega))
theorem M_wasThere (W : RM h0 h F A R) {a : List Nat} (hk0 : 1 ≤ k) (hn0 : 0 < n) (hn : n ≤ 16) (hkw : k ^ w = n) (hw0 : 1 ≤ w) (hw : w ≤ 4) (hwa : w ≤ a.length) (han : a.length ≤ n) (ha : ∀ i, a.getD i 0 < k) (hg : ∀ i, i < a.length → A 170 i = nI (a.getD i 0)) (hQ : Q (some (.int (bI (wasL k w n a (a.length - w))))) h) : am_call (d + 2) 288 [.ref 152, .int (nI a.length), .int (nI k), .int (nI w), .int (nI n)] h Q := by
  have hfit : ∀ b : Bool, bI b = 0 ∨ bI b = 1 := fun b => by cases b <;> simp [bI]
  have hwd : ∀ q, q + w ≤ a.length → ∀ j, j < w → A 170 ((q + j) % n) = nI (a.getD ((q + j) % n) 0) := fun q hq j hj => by
    rw [Nat.mod_eq_of_lt (by omega)]
    exact hg _ (by omega)
  have hl : ∀ q, wdL k n a q w < 17 := fun q => by
    have := wdL_lt (n := n) (q := q) ha w
    omega
  refine en_X11_wasThere (Nat.le_of_ble_eq_true rfl) ?_
  refine am_run (am_cK _) 4 (show am_wp (am_call (d + 1)) (0, 0) cm_X11_wasThere Q (fun _ => False) (6, [some (.ref 152), some (.int (nI a.length)), some (.int (nI k)), some (.int (nI w)), some (.int (nI n)), some (.int (bI (wasL k w n a 0))), some (.int (nI 0))], [], 0, 0) h from ?_)
  refine am_loopC (fun q => (6, [some (.ref 152), some (.int (nI a.length)), some (.int (nI k)), some (.int (nI w)), some (.int (nI n)), some (.int (bI (wasL k w n a q))), some (.int (nI q))], [], 0, 0)) (a.length - w) (fun q hq K => ?_) ?_ 0 (Nat.zero_le _)
  · refine am_run (am_cK _) 5 (pk_le a.length (q + w) (fun c => by omega) (fun _ => ?_) (hy := nI_add q w))
    have e : wasL k w n a (q + 1) = (wasL k w n a q || wdL k n a q w == wdL k n a (a.length - w) w) := rfl
    rw [e, nI_succ q] at K
    cases hb : wasL k w n a q with
    | true =>
      rw [hb, Bool.true_or] at K
      exact am_run (am_cK _) 2 (⟨fun _ => am_run (am_cK _) 5 (K), fun z => absurd n10 z⟩)
    | false =>
      rw [hb, Bool.false_or] at K
      refine am_run (am_cK _) 2 (⟨fun z => absurd rfl z, fun _ => ?_⟩)
      refine am_run (am_cK _) 6 (am_obj_in W.o ((M_wordAt (a := a) (q := q) W hn0 hn hw (by omega) (hwd q (by omega)) ?_)))
      refine am_run (am_cK _) 8 (am_obj_in W.o (?_))
      rw [pk_sub hwa]
      refine M_wordAt (a := a) (q := a.length - w) W hn0 hn hw (by omega) (hwd _ (by omega)) ?_
      have h1 := hl q
      have h2 := hl (a.length - w)
      refine am_run (am_cK _) 1 (⟨fun c => ?_, fun c => ?_⟩)
      · rw [show (wdL k n a q w == wdL k n a (a.length - w) w) = false from beq_eq_false_iff_ne.mpr (fun e => c (congrArg nI e))] at K
        exact am_run (am_cK _) 4 (K)
      · rw [show (wdL k n a q w == wdL k n a (a.length - w) w) = true from beq_iff_eq.mpr ((nI_eq (by omega) (by omega)).mp (Classical.not_not.mp c))] at K
        exact am_run (am_cK _) 5 (K)
  · refine am_run (am_cK _) 5 (pk_le a.length (a.length - w + w) (fun _ => ?_) (fun c => by omega) (hy := nI_add _ w))
    exact am_run (am_cK _) 2 (⟨hfit _, hQ⟩)
theorem M_isOnce (W : RM h0 h F A R) {a : List Nat} (hk0 : 1 ≤ k) (hn0 : 0 < n) (hn : n ≤ 16) (hkw : k ^ w = n) (hw : w ≤ 4) (han : a.length = n) (ha : ∀ i, a.getD i 0 < k) (hg : ∀ i, i < a.length → A 170 i = nI (a.getD i 0)) (hQ : ∀ h' b, RM h0 h' F (va_up A 171 b) R → Q (some (.int (bI (onL k w n a n)))) h') : am_call (d + 2) 287 [.ref 152, .int (nI k), .int (nI w), .int (nI n)] h Q := by
  have hfit : ∀ b : Bool, bI b = 0 ∨ bI b = 1 := fun b => by cases b <;> simp [bI]
  have hl : ∀ q, wdL k n a q w < n := fun q => by
    have := wdL_lt (n := n) (q := q) ha w
    omega
  refine en_X11_isOnce (Nat.le_of_ble_eq_true rfl) ?_
  refine am_run (am_cK _) 2 (show am_wp (am_call (d + 1)) (0, 0) cm_X11_isOnce Q (fun _ => False) (3, [some (.ref 152), some (.int (nI k)), some (.int (nI w)), some (.int (nI n)), some (.int (nI 0)), none, none], [], 0, 0) h from ?_)
  refine am_lp (α := Nat → Int32) (fun v _ => (3, [some (.ref 152), some (.int (nI k)), some (.int (nI w)), some (.int (nI n)), some (.int (nI v)), none, none], [], 0, 0)) (fun v b h' => RM h0 h' F (va_up A 171 b) R ∧ ∀ i, i < v → b i = 0) n (fun v b h1 hv P K => ?_) (fun b h1 P => ?_) 0 (A 171) h (Nat.zero_le _) ⟨by rw [va_same rfl]; exact W, fun i hi => absurd hi (Nat.not_lt_zero i)⟩
  · obtain ⟨W1, p1⟩ := P
    refine am_run (am_cK _) 3 (pk_le n v (fun c => by omega) (fun _ => ?_))
    refine am_run (am_cK _) 2 (am_obj_in W1.o (am_run (am_cK _) 3 (am_stB (p := 171) W1 (j := v) rfl (show v < 16 by omega) rfl (Or.inl rfl) (fun h2 W2 => ?_))))
    rw [am_up_s, va_up2] at W2
    have K2 := K _ h2 ⟨W2, fun i hi => (by
      by_cases e : i = v
      · subst e; exact upd_s
      · exact (upd_n e).trans (p1 i (by omega)))⟩
    rw [nI_succ v] at K2
    exact am_run (am_cK _) 2 (K2)
  obtain ⟨W1, p1⟩ := P
  refine am_run (am_cK _) 3 (pk_le n n (fun _ => ?_) (fun c => by omega))
  refine am_run (am_cK _) 4 (show am_wp (am_call (d + 1)) (0, 0) cm_X11_isOnce Q (fun _ => False) (29, [some (.ref 152), some (.int (nI k)), some (.int (nI w)), some (.int (nI n)), some (.int (bI (onL k w n a 0))), some (.int (nI 0)), none], [], 0, 0) h1 from ?_)
  refine am_lp (α := (Nat → Int32) × Option Value) (fun p x => (29, [some (.ref 152), some (.int (nI k)), some (.int (nI w)), some (.int (nI n)), some (.int (bI (onL k w n a p))), some (.int (nI p)), x.2], [], 0, 0)) (fun p x h' => RM h0 h' F (va_up A 171 x.1) R ∧ ∀ v, v < n → x.1 v = bI (anB (fun q => wdL k n a q w == v) p)) n (fun p x h2 hp P K => ?_) (fun x h2 P => ?_) 0 (b, none) h1 (Nat.zero_le _) ⟨W1, fun v hv => p1 v hv⟩
  · obtain ⟨b, v0⟩ := x
    obtain ⟨W2, p2⟩ := P
    replace W2 : RM h0 h2 F (va_up A 171 b) R := W2
    replace p2 : ∀ v, v < n → b v = bI (anB (fun q => wdL k n a q w == v) p) := p2
    have hlp := hl p
    have hbp := p2 _ hlp
    refine am_run (am_cK _) 3 (pk_le n p (fun c => by omega) (fun _ => ?_))
    refine am_run (am_cK _) 6 (am_obj_in W2.o ((M_wordAt (a := a) (q := p) W2 hn0 hn hw (by omega) (fun j _ => hg _ (by rw [han]; exact Nat.mod_lt _ hn0)) ?_)))
    generalize ev : wdL k n a p w = v at hlp hbp ⊢
    have e : onL k w n a (p + 1) = (onL k w n a p && !(anB (fun q => wdL k n a q w == v) p)) := by rw [← ev]; rfl
    have last : ∀ is : Bool, onL k w n a (p + 1) = is → am_ari h2 171 .boolean (fun N f => vp_in (nI v) N ∧ am_wp (am_call (d + 1)) (0, 0) cm_X11_isOnce Q (fun _ => False) (76, [some (.ref 152), some (.int (nI k)), some (.int (nI w)), some (.int (nI n)), some (.int (bI is)), some (.int (nI p)), some (.int (nI v))], [], 0, 0) (am_set h2 171 (.inl (.boolean, N, .inl (upd f (nI v).toNatClampNeg (vp_nar .boolean 1)))))) := fun is eis => by
      refine am_stB (p := 171) W2 (j := v) rfl (show v < 16 by omega) rfl (Or.inr rfl) (fun h3 W3 => ?_)
      rw [am_up_s, va_up2] at W3
      have K2 := K (upd b v 1, some (.int (nI v))) h3 ⟨W3, fun u hu => (by
        show upd b v 1 u = bI (anB (fun q => wdL k n a q w == u) p || wdL k n a p w == u)
        by_cases c : u = v
        · subst c
          rw [upd_s, ev, beq_self_eq_true, Bool.or_true]
          rfl
        · rw [upd_n c, p2 u hu, ev, show (v == u) = false from beq_eq_false_iff_ne.mpr (fun w => c w.symm), Bool.or_false])⟩
      rw [eis, nI_succ p] at K2
      exact am_run (am_cK _) 2 (K2)
    refine am_run (am_cK _) 1 (show am_wp (am_call (d + 1)) (0, 0) cm_X11_isOnce Q (fun _ => False) (46, [some (.ref 152), some (.int (nI k)), some (.int (nI w)), some (.int (nI n)), some (.int (bI (onL k w n a p))), some (.int (nI p)), some (.int (nI v))], [], 0, 0) h2 from ?_)
    cases ho : onL k w n a p with
    | false =>
      rw [ho, Bool.false_and] at e
      exact am_run (am_cK _) 2 (⟨fun _ => am_run (am_cK _) 4 (am_obj_in W2.o (am_run (am_cK _) 3 (last false e))), fun z => absurd rfl z⟩)
    | true =>
      rw [ho, Bool.true_and] at e
      refine am_run (am_cK _) 2 (⟨fun z => absurd z n10, fun _ => ?_⟩)
      refine am_run (am_cK _) 2 (am_obj_in W2.o (am_run (am_cK _) 2 (am_ldB W2.a171 v (by omega) ?_)))
      rw [nI_clamp (by omega), am_up_s, hbp]
      cases hb : anB (fun q => wdL k n a q w == v) p with
      | true =>
        rw [hb] at e
        exact am_run (am_cK _) 1 (⟨fun _ => am_run (am_cK _) 4 (am_obj_in W2.o (am_run (am_cK _) 3 (last false e))), fun z => absurd n10 z⟩)
      | false =>
        rw [hb] at e
        exact am_run (am_cK _) 1 (⟨fun z => absurd rfl z, fun _ => am_run (am_cK _) 5 (am_obj_in W2.o (am_run (am_cK _) 3 (last true e)))⟩)
  · obtain ⟨b, v0⟩ := x
    obtain ⟨W2, p2⟩ := P
    replace W2 : RM h0 h2 F (va_up A 171 b) R := W2
    exact am_run (am_cK _) 3 (pk_le n n (fun _ => am_run (am_cK _) 2 (⟨hfit _, hQ h2 b W2⟩)) (fun c => by omega))
theorem M_lays (hk0 : 1 ≤ k) (hn0 : 0 < n) (hn : n ≤ 16) (hkw : k ^ w = n) (hk4 : k ≤ 4) (hw0 : 1 ≤ w) (hw : w ≤ 4) : ∀ (r : Nat) (a : List Nat) {h : am_H} {A : Nat → Nat → Int32} {Q : Option Value → am_H → Prop}, RM h0 h F A R → a.length + r = n → (∀ i, a.getD i 0 < k) → (∀ i, i < a.length → A 170 i = nI (a.getD i 0)) →
    (∀ x, lay k w n r a = some x → ∀ h' A', RM h0 h' F A' R → Agq A A' → (∀ i, i < n → A' 170 i = nI (x.getD i 0)) → Q (some (.int 1)) h') →
    (lay k w n r a = none → ∀ h' A', RM h0 h' F A' R → Agq A A' → (∀ i, i < a.length → A' 170 i = A 170 i) → Q (some (.int 0)) h') →
    am_call (d + r + 4) 289 [.ref 152, .int (nI a.length), .int (nI k), .int (nI w), .int (nI n)] h Q := by
  intro r
  induction r with
  | zero =>
    intro a h A Q W hl ha hg h1 h2
    have han : a.length = n := by omega
    rw [lay] at h1 h2
    refine en_X11_laysAround (Nat.le_of_ble_eq_true rfl) ?_
    have bad : bdL k w n a = true → Q (some (.int 0)) h := fun c => by
      rw [if_pos c] at h2
      exact h2 rfl h A W (fun _ _ _ => rfl) (fun _ _ => rfl)
    have good : bdL k w n a = false → am_wp (am_call (d + 0 + 3)) (0, 0) cm_X11_laysAround Q (fun _ => False) (19, [some (.ref 152), some (.int (nI a.length)), some (.int (nI k)), some (.int (nI w)), some (.int (nI n)), none], [], 0, 0) h := fun c => by
      rw [if_neg (by rw [c]; exact Bool.false_ne_true)] at h1 h2
      refine am_run (am_cK _) 3 (pk_eq a.length n (fun _ => ?_) (fun c => absurd han c) |> fun z => ⟨fun q => z.2 q, fun q => z.1 (Classical.not_not.mp q)⟩)
      refine am_run (am_cK _) 5 (am_obj_in W.o ((M_isOnce (a := a) W hk0 hn0 hn hkw hw han ha hg (fun h3 b W3 => ?_))))
      cases ho : onL k w n a n with
      | true =>
        rw [if_pos ho] at h1
        exact am_run (am_cK _) 1 (⟨Or.inr rfl, h1 a rfl h3 _ W3 (fun x _ x2 => am_up_n x2) (fun i hi => (congrFun (am_up_n (by decide)) i).trans (hg i (by omega)))⟩)
      | false =>
        rw [if_neg (by rw [ho]; exact Bool.false_ne_true)] at h2
        exact am_run (am_cK _) 1 (⟨Or.inl rfl, h2 rfl h3 _ W3 (fun x _ x2 => am_up_n x2) (fun i hi => congrFun (am_up_n (by decide)) i)⟩)
    refine am_run (am_cK _) 3 (pk_lt a.length w (fun c => good ?_) (fun c => ?_))
    · unfold bdL
      rw [decide_eq_false (by omega), Bool.false_and]
    · refine am_run (am_cK _) 6 (am_obj_in W.o ((M_wasThere (a := a) W hk0 hn0 hn hkw hw0 hw c (by omega) ha hg ?_)))
      have eb : bdL k w n a = wasL k w n a (a.length - w) := by
        unfold bdL
        rw [decide_eq_true c, Bool.true_and]
      rw [← eb]
      cases hb : bdL k w n a with
      | true => exact am_run (am_cK _) 1 (⟨fun z => absurd z n10, fun _ => am_run (am_cK _) 2 (⟨Or.inl rfl, bad hb⟩)⟩)
      | false => exact am_run (am_cK _) 1 (⟨fun _ => good hb, fun z => absurd rfl z⟩)
  | succ r ih =>
    intro a h A Q W hl ha hg h1 h2
    rw [lay] at h1 h2
    refine en_X11_laysAround (Nat.le_of_ble_eq_true rfl) ?_
    have bad : bdL k w n a = true → Q (some (.int 0)) h := fun c => by
      rw [if_pos c] at h2
      exact h2 rfl h A W (fun _ _ _ => rfl) (fun _ _ => rfl)
    have good : bdL k w n a = false → am_wp (am_call (d + (r + 1) + 3)) (0, 0) cm_X11_laysAround Q (fun _ => False) (19, [some (.ref 152), some (.int (nI a.length)), some (.int (nI k)), some (.int (nI w)), some (.int (nI n)), none], [], 0, 0) h := fun c => by
      rw [if_neg (by rw [c]; exact Bool.false_ne_true)] at h1 h2
      refine am_run (am_cK _) 3 (pk_eq a.length n (fun c => by omega) (fun _ => ?_) |> fun z => ⟨fun q => z.2 q, fun q => z.1 (Classical.not_not.mp q)⟩)
      refine am_run (am_cK _) 2 (show am_wp (am_call (d + (r + 1) + 3)) (0, 0) cm_X11_laysAround Q (fun _ => False) (37, [some (.ref 152), some (.int (nI a.length)), some (.int (nI k)), some (.int (nI w)), some (.int (nI n)), some (.int (nI 0))], [], 0, 0) h from ?_)
      refine am_lp (α := Nat → Nat → Int32) (fun c _ => (37, [some (.ref 152), some (.int (nI a.length)), some (.int (nI k)), some (.int (nI w)), some (.int (nI n)), some (.int (nI c))], [], 0, 0)) (fun c A' h' => RM h0 h' F A' R ∧ Agq A A' ∧ (∀ i, i < a.length → A' 170 i = A 170 i) ∧ tryL (fun c => lay k w n r (a ++ [c])) 0 k = tryL (fun c => lay k w n r (a ++ [c])) c (k - c)) k (fun c A2 h2' hc P K => ?_) (fun A2 h2' P => ?_) 0 A h (Nat.zero_le _) ⟨W, fun _ _ _ => rfl, fun _ _ => rfl, rfl⟩
      · obtain ⟨W2, g2, i2, t2⟩ := P
        refine am_run (am_cK _) 3 (pk_le k c (fun z => by omega) (fun _ => ?_))
        refine am_run (am_cK _) 2 (am_obj_in W2.o (am_run (am_cK _) 3 (am_stI (p := 170) W2 (j := a.length) rfl (show a.length < 16 by omega) rfl (fun h3 W3 => ?_))))
        have el : (a ++ [c]).length = a.length + 1 := by rw [List.length_append]; rfl
        have eg : ∀ i, (a ++ [c]).getD i 0 = if i < a.length then a.getD i 0 else if i = a.length then c else 0 := fun i => by
          rw [List.getD_eq_getElem?_getD]
          by_cases q : i < a.length
          · rw [if_pos q, List.getElem?_append_left q, List.getD_eq_getElem?_getD]
          · rw [if_neg q, List.getElem?_append_right (by omega)]
            by_cases q2 : i = a.length
            · rw [if_pos q2, q2, Nat.sub_self]; rfl
            · rw [if_neg q2, List.getElem?_eq_none (by show 1 ≤ i - a.length; omega)]; rfl
        have ha3 : ∀ i, (a ++ [c]).getD i 0 < k := fun i => by
          rw [eg]
          split
          · exact ha i
          · split <;> omega
        have hg3 : ∀ i, i < (a ++ [c]).length → va_up A2 170 (upd (A2 170) a.length (nI c)) 170 i = nI ((a ++ [c]).getD i 0) := fun i hi => by
          rw [am_up_s, eg]
          by_cases q : i < a.length
          · rw [if_pos q, upd_n (by omega), i2 i q]; exact hg i q
          · rw [if_neg q, if_pos (by omega), show i = a.length by omega, upd_s]
        rw [show k - c = (k - (c + 1)) + 1 by omega, tryL] at t2
        refine am_run (am_cK _) 8 (am_obj_in W3.o ((show am_call (d + r + 4) 289 [.ref 152, .int (nI a.length + 1), .int (nI k), .int (nI w), .int (nI n)] h3 _ from ?_)))
        rw [← nI_succ, ← el]
        refine ih (a ++ [c]) W3 (by rw [el]; omega) ha3 hg3 (fun x ex h4 A4 W4 g4 i4 => ?_) (fun ex h4 A4 W4 g4 i4 => ?_)
        · simp only [ex] at t2
          exact am_run (am_cK _) 1 (⟨fun z => absurd z n10, fun _ => am_run (am_cK _) 2 (⟨Or.inr rfl, h1 x t2 h4 A4 W4 (fun y y1 y2 => (g4 y y1 y2).trans ((am_up_n y1).trans (g2 y y1 y2))) i4⟩)⟩)
        · simp only [ex] at t2
          have K2 := K A4 h4 ⟨W4, fun y y1 y2 => (g4 y y1 y2).trans ((am_up_n y1).trans (g2 y y1 y2)), fun i hi => (by
            rw [i4 i (by rw [el]; omega), am_up_s, upd_n (by omega)]
            exact i2 i hi), t2⟩
          rw [nI_succ c] at K2
          exact am_run (am_cK _) 1 (⟨fun _ => am_run (am_cK _) 2 (K2), fun z => absurd rfl z⟩)
      · obtain ⟨W2, g2, i2, t2⟩ := P
        rw [Nat.sub_self, tryL] at t2
        exact am_run (am_cK _) 3 (pk_le k k (fun _ => am_run (am_cK _) 2 (⟨Or.inl rfl, h2 t2 h2' A2 W2 g2 i2⟩)) (fun c => by omega))
    refine am_run (am_cK _) 3 (pk_lt a.length w (fun c => good ?_) (fun c => ?_))
    · unfold bdL
      rw [decide_eq_false (by omega), Bool.false_and]
    · refine am_run (am_cK _) 6 (am_obj_in W.o ((M_wasThere (a := a) W hk0 hn0 hn hkw hw0 hw c (by omega) ha hg ?_)))
      have eb : bdL k w n a = wasL k w n a (a.length - w) := by
        unfold bdL
        rw [decide_eq_true c, Bool.true_and]
      rw [← eb]
      cases hb : bdL k w n a with
      | true => exact am_run (am_cK _) 1 (⟨fun z => absurd z n10, fun _ => am_run (am_cK _) 2 (⟨Or.inl rfl, bad hb⟩)⟩)
      | false => exact am_run (am_cK _) 1 (⟨fun _ => good hb, fun z => absurd rfl z⟩)
theorem cmp16 {n : Nat} (h : n < 2 ^ 31) : lg_cmp (lN n) 16 ≤ 0 ↔ n ≤ 16 := by
  have e : (16 : Int64) = lN 16 := rfl
  rw [e, lg_cmp_le, lN_le h (by omega)]
theorem M_laysTop (W : RM h0 h F A R) {q p n : Nat} (q1 : 1 ≤ q) (q4 : q ≤ 4) (p1 : 1 ≤ p) (p4 : p ≤ 4) (en : q ^ p = n) (c : n ≤ 16) (hQ : ∀ h' A', RM h0 h' F A' R → Agq A A' → (∀ i, i < n → A' 170 i = nI ((dB q p).getD i 0)) → Q (some (.int 1)) h') : am_call (d + 29) 289 [.ref 152, .int (nI 0), .int (nI q), .int (nI p), .int (nI n)] h Q := by
  have hp0 : 0 < n := by rw [← en]; exact Nat.pow_pos q1
  have hly := oEq_use (lay_dB0 q (by omega) q1 p (by omega) p1 (by rw [en]; exact c))
  rw [en] at hly
  have hm := M_lays (d := d + 25 - n) (k := q) (w := p) (n := n) (h0 := h0) (F := F) (R := R) q1 hp0 c en q4 p1 p4 n [] (h := h) (A := A) (Q := Q) W (Nat.zero_add n) (fun i => by rw [List.getD_nil]; exact q1) (fun i hi => absurd hi (Nat.not_lt_zero i)) (fun x ex h2 A2 W2 g2 i2 => by
    rw [hly] at ex
    have ex' := Option.some.inj ex
    subst ex'
    exact hQ h2 A2 W2 g2 i2) (fun ex => by rw [hly] at ex; cases ex)
  exact am_call_mono (d + 25 - n + n + 4) (d + 29) (by omega) _ _ _ _ _ (fun v h' z => z) hm
theorem Z_onceT {A2 : Nat → Nat → Int32} {q p n : Nat} (W2 : RM h0 h (upd F 0 0) A2 R) (hn0 : 0 < n) (c : n ≤ 16) (g2 : Agq A A2) (i2 : ∀ i, i < n → A2 170 i = nI ((dB q p).getD i 0)) (iv : Iv F A R M) (hQ : ∀ h', Fy h0 h' → RY h' (nI n, pD M (n, tl (dB q p))).2 → Q (some (.int (nI n))) h') : am_wp (am_call (d + 29)) (0, 0) cm_X11_once Q (fun _ => False) (58, [some (.ref 152), some (.int (nI q)), some (.int (nI p)), some (.int (nI n)), none], [.int 1], 0, 0) h := by
  refine am_run (am_cK _) 4 (am_putI W2 rfl (by decide) (fun h3 W3 => ?_))
  refine am_run (am_cK _) 2 ?_
  refine am_lp (α := Nat → Int64) (fun j _ => (67, [some (.ref 152), some (.int (nI q)), some (.int (nI p)), some (.int (nI n)), some (.int (nI j))], [], 0, 0)) (fun j R' h' => RM h0 h' (upd (upd F 0 0) 1 (nI j)) A2 R' ∧ ∀ i, i < j → R' i = (nI ((dB q p).getD i 0)).toInt64) n (fun j R1 h4 hj P K => ?_) (fun R1 h4 P => ?_) 0 R h3 (Nat.zero_le _) ⟨W3, fun i hi => absurd hi (Nat.not_lt_zero i)⟩
  · obtain ⟨W4, P1⟩ := P
    refine am_run (am_cK _) 3 (pk_le n j (fun c => by omega) (fun _ => ?_))
    refine am_run (am_cK _) 3 (am_obj_in W4.o (am_run (am_cK _) 2 (am_ld W4.a170 j (by omega) ?_)))
    rw [nI_clamp (by omega), i2 j hj]
    refine am_run (am_cK _) 2 (am_obj_in W4.o ((M_enters W4 (m := j) rfl (by omega) _ (fun h5 W5 => ?_))))
    rw [upd_upd] at W5
    have K2 := K _ h5 ⟨W5, fun i hi => (by
      by_cases e : i = j
      · subst e; exact pk_uLs
      · exact (pk_uLn e).trans (P1 i (by omega)))⟩
    rw [nI_succ] at K2
    exact am_run (am_cK _) 2 (K2)
  · obtain ⟨W4, P1⟩ := P
    have g : ∀ x, x ≠ 170 → x ≠ 171 → A2 x = A x := g2
    refine am_run (am_cK _) 3 (pk_le n n (fun _ => ?_) (fun c => by omega))
    refine am_run (am_cK _) 2 (hQ h4 W4.y ⟨_, _, _, W4.re, ?_⟩)
    refine ⟨?_, ?_, ?_, ?_, ⟨rfl, by show n ≤ 16; omega, P1⟩, ?_, ?_, ?_⟩
    · rw [g 154 (by decide) (by decide)]; exact iv.s
    · rw [g 163 (by decide) (by decide)]; exact iv.u
    · rw [g 179 (by decide) (by decide), g 180 (by decide) (by decide)]; exact iv.k
    · rw [g 156 (by decide) (by decide)]; exact iv.t
    · rw [g 172 (by decide) (by decide), g 173 (by decide) (by decide)]; exact iv.f
    · rw [g 174 (by decide) (by decide), g 175 (by decide) (by decide)]; exact iv.hr
    · rw [g 159 (by decide) (by decide)]; exact iv.l
theorem Z_once (hY : RY h M) (k w : Int32) (hQ : ∀ h', Fy h h' → RY h' (oOnce M k w).2 → Q (some (.int (oOnce M k w).1)) h') : am_call (d + 30) 290 [.ref 152, .int k, .int w] h Q := by
  obtain ⟨F, A, R, W, iv⟩ := hY
  unfold oOnce at hQ
  refine en_X11_once (Nat.le_of_ble_eq_true rfl) ?_
  refine am_run (am_cK _) 3 (am_putI W rfl (by decide) (fun h1 W1 => ?_))
  have no : (k < 1 ∨ 4 < k ∨ w < 1 ∨ 4 < w) → Q (some (.int (-1))) h1 := fun c => by
    rw [if_pos c] at hQ
    exact hQ h1 W1.y ⟨_, _, _, W1.re, iv⟩
  have bad : ∀ a b : Value, (k < 1 ∨ 4 < k ∨ w < 1 ∨ 4 < w) → am_wp (am_call (d + 29)) (0, 0) cm_X11_once Q (fun _ => False) (41, [some (.ref 152), some a, some b, none, none], [], 0, 0) h1 := fun a b c => am_run (am_cK _) 2 (no c)
  refine am_run (am_cK _) 5 (M_inN k 1 4 (by omega) (by omega) (fun q q1 q4 e => ?_) (fun c => am_run (am_cK _) 1 (⟨fun _ => bad _ _ (c.elim Or.inl (fun z => Or.inr (Or.inl z))), fun z => absurd rfl z⟩)))
  subst e
  refine am_run (am_cK _) 1 ⟨fun z => absurd z n10, fun _ => (show am_wp (am_call (d + 29)) (0, 0) cm_X11_once Q (fun _ => False) (17, [some (.ref 152), some (.int (nI q)), some (.int w), none, none], [], 0, 0) h1 from ?_)⟩
  refine am_run (am_cK _) 5 (M_inN w 1 4 (by omega) (by omega) (fun p p1 p4 e => ?_) (fun c => am_run (am_cK _) 1 (⟨fun _ => bad _ _ (c.elim (fun z => Or.inr (Or.inr (Or.inl z))) (fun z => Or.inr (Or.inr (Or.inr z)))), fun z => absurd rfl z⟩)))
  subst e
  refine am_run (am_cK _) 1 ⟨fun z => absurd z n10, fun _ => (show am_wp (am_call (d + 29)) (0, 0) cm_X11_once Q (fun _ => False) (29, [some (.ref 152), some (.int (nI q)), some (.int (nI p)), none, none], [], 0, 0) h1 from ?_)⟩
  rw [if_neg (by
    rintro (z | z | z | z)
    · exact nI_nlt (a := q) (b := 1) q1 (by omega) z
    · exact nI_nlt (a := 4) (b := q) q4 (by omega) z
    · exact nI_nlt (a := p) (b := 1) p1 (by omega) z
    · exact nI_nlt (a := 4) (b := p) p4 (by omega) z), nI_clamp (by omega), nI_clamp (by omega)] at hQ
  unfold onN at hQ
  have hpw : q ^ p ≤ 256 := Nat.le_trans (Nat.pow_le_pow_left q4 p) (Nat.le_trans (Nat.pow_le_pow_right (by decide) p4) (by decide))
  have hp0 : 0 < q ^ p := Nat.pow_pos q1
  have hcmp := cmp16 (show q ^ p < 2 ^ 31 by omega)
  refine am_run (am_cK _) 3 (M_powerE (by omega) (by omega) (by omega) ?_)
  by_cases c : q ^ p ≤ 16
  rotate_left
  · rw [if_pos (by omega)] at hQ
    exact am_run (am_cK _) 3 (⟨fun z => absurd (hcmp.mp z) c, fun _ => am_run (am_cK _) 2 (hQ h1 W1.y ⟨_, _, _, W1.re, iv⟩)⟩)
  rw [if_neg (by omega)] at hQ
  have hdl := dB_len q (by omega) q1 p (by omega) p1 c
  refine am_run (am_cK _) 3 (⟨fun _ => ?_, fun z => absurd (hcmp.mpr c) z⟩)
  refine am_run (am_cK _) 3 (M_powerE (by omega) (by omega) (by omega) ?_)
  generalize en : q ^ p = n at *
  refine am_run (am_cK _) 2 (show am_wp (am_call (d + 29)) (0, 0) cm_X11_once Q (fun _ => False) (50, [some (.ref 152), some (.int (nI q)), some (.int (nI p)), some (.int (lN n).toInt32), none], [], 0, 0) h1 from ?_)
  rw [lN_i]
  refine am_run (am_cK _) 6 (am_obj_in W1.o ((M_laysTop W1 q1 q4 p1 p4 en c (fun h2 A2 W2 g2 i2 => ?_))))
  exact Z_onceT W2 hp0 c g2 i2 iv hQ
end
