/-! THE MODEL lays a look, and enters it -/
def dgk (k s m i : Nat) : Nat := s / k ^ (m - 1 - i) % k
section
variable {d : Nat} {h0 h : am_H} {Q : Option Value → am_H → Prop} {F : Nat → Int32} {A : Nat → Nat → Int32} {R : Nat → Int64}
theorem M_laysLook (W : RM h0 h F A R) {n k s : Nat} (hn0 : 0 < n) (hn : n ≤ 10) (hk0 : 0 < k) (hk : k ≤ 4) (hs : s < 2 ^ 31) (hQ : ∀ h' g, RM h0 h' (upd F 13 (nI n)) (va_up A 158 g) R → LK (upd F 13 (nI n)) (va_up A 158 g) (dgk k s n) n → Q none h') : am_call (d + 1) 280 [.ref 152, .int (nI n), .int (nI k), .int (nI s)] h Q := by
  refine en_X11_laysLook (Nat.le_of_ble_eq_true rfl) ?_
  refine am_run (am_cK _) 3 (am_putI W rfl (by decide) (fun h1 W1 => ?_))
  refine am_run (am_cK _) 6 (show am_wp (am_call d) (0, 0) cm_X11_laysLook Q (fun _ => False) (13, [some (.ref 152), some (.int (nI n)), some (.int (nI k)), some (.int (nI s)), some (.int (nI s)), some (.int (nI n - 1))], [], 0, 0) h1 from ?_)
  suffices H : am_wp (am_call d) (0, 0) cm_X11_laysLook Q (fun _ => False) (13, [some (.ref 152), some (.int (nI n)), some (.int (nI k)), some (.int (nI s)), some (.int (nI (s / k ^ 0))), some (.int (nI (n - 0) - 1))], [], 0, 0) h1 by
    rw [Nat.pow_zero, Nat.div_one, Nat.sub_zero] at H
    exact H
  refine am_lp (α := Nat → Int32) (fun j _ => (13, [some (.ref 152), some (.int (nI n)), some (.int (nI k)), some (.int (nI s)), some (.int (nI (s / k ^ j))), some (.int (nI (n - j) - 1))], [], 0, 0)) (fun j g h' => RM h0 h' (upd F 13 (nI n)) (va_up A 158 g) R ∧ ∀ i, n - j ≤ i → i < n → g i = nI (dgk k s n i)) n (fun j g h2 hj P K => ?_) (fun g h2 P => ?_) 0 (A 158) h1 (Nat.zero_le _) ⟨by rw [va_same rfl]; exact W1, fun i a b => by omega⟩
  · obtain ⟨W2, p2⟩ := P
    have hd : s / k ^ j < 2 ^ 31 := Nat.lt_of_le_of_lt (Nat.div_le_self _ _) hs
    have K2 := K (upd g (n - j - 1) (nI (s / k ^ j % k)))
    rw [show nI (n - (j + 1)) - 1 = nI (n - j - 1) - 1 by rw [Nat.sub_add_eq]] at K2
    rw [show nI (n - j) - 1 = nI (n - j - 1) from pk_sub (a := n - j) (b := 1) (by omega)]
    refine am_run (am_cK _) 2 (⟨fun c => absurd c (nI_pos (by omega)), fun _ => ?_⟩)
    refine am_run (am_cK _) 2 (am_obj_in W2.o (am_run (am_cK _) 4 (⟨nI_ne0 hk0 (by omega), ?_⟩)))
    rw [show nI (s / k ^ j) - nI (s / k ^ j) / nI k * nI k = nI (s / k ^ j % k) from pk_rem hd hk0 (by omega)]
    refine am_run (am_cK _) 1 (am_stI (p := 158) W2 (j := n - j - 1) rfl (show n - j - 1 < 10 by omega) rfl (fun h3 W3 => ?_))
    rw [am_up_s, va_up2] at W3
    refine am_run (am_cK _) 3 (⟨nI_ne0 hk0 (by omega), ?_⟩)
    have K3 := K2 h3 ⟨W3, fun i i1 i2 => (by
      by_cases e : i = n - j - 1
      · subst e
        rw [upd_s]
        unfold dgk
        rw [show n - 1 - (n - j - 1) = j by omega]
      · exact (upd_n e).trans (p2 i (by omega) i2))⟩
    rw [Nat.pow_succ, ← Nat.div_div_eq_div_mul, ← pk_div hd hk0 (by omega), show nI (n - j - 1) - 1 = nI (n - j - 1) + (-1) from Int32.sub_eq_add_neg ..] at K3
    exact am_run (am_cK _) 3 (K3)
  · obtain ⟨W2, p2⟩ := P
    rw [Nat.sub_self]
    exact am_run (am_cK _) 2 (⟨fun _ => am_run (am_cK _) 1 (hQ h2 g W2 ⟨rfl, hn0, hn, fun i hi => p2 i (by omega) hi, fun i _ => Nat.lt_of_lt_of_le (Nat.mod_lt _ hk0) hk⟩), fun c => absurd (show nI 0 - 1 < 0 by decide) c⟩)
end
