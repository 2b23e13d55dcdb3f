theorem nRw_11 : ∀ k, k < 5 → ∀ n, n < 11 → 1 ≤ n → nRw k 11 n = nRw k 10 n ∧ ∀ j, j < n - 1 → (if n % (j + 1) = 0 then nRw k 10 (j + 1) else 0) ≤ sbN (fun j => if n % (j + 1) = 0 then nRw k 10 (j + 1) else 0) (k ^ n) j := by decide +kernel
section
variable {d : Nat} {h0 h : am_H} {Q : Option Value → am_H → Prop} {F : Nat → Int32} {A : Nat → Nat → Int32} {R : Nat → Int64} {M : Ms}
theorem M_powerE {k m D : Nat} (hk : k < 2 ^ 31) (hm : m + 1 ≤ D) (hm2 : m < 2 ^ 31) (hQ : Q (some (.long (lN (k ^ m)))) h) : am_call D 271 [.int (nI k), .int (nI m)] h Q := by
  obtain ⟨e, rfl⟩ : ∃ e, D = e + m + 1 := ⟨D - m - 1, by omega⟩
  exact M_power hk m hm2 hQ
theorem M_powerX {k m D : Nat} {x : Int32} (hx : x = nI m) (hk : k < 2 ^ 31) (hm : m + 1 ≤ D) (hm2 : m < 2 ^ 31) (hQ : Q (some (.long (lN (k ^ m)))) h) : am_call D 271 [.int (nI k), .int x] h Q := by
  subst hx
  exact M_powerE hk hm hm2 hQ
theorem Z_many (hY : RY h M) (n k : Int32) (hQ : ∀ h', Fy h h' → RY h' (oMany M n k).2 → Q (some (.int (oMany M n k).1)) h') : am_call (d + 30) 273 [.ref 152, .int n, .int k] h Q := by
  obtain ⟨F, A, R, W, iv⟩ := hY
  unfold oMany at hQ
  refine en_X11_many (Nat.le_of_ble_eq_true rfl) ?_
  refine am_run (am_cK _) 3 (am_putI W rfl (by decide) (fun h1 W1 => ?_))
  have no : (n < 1 ∨ 10 < n ∨ k < 1 ∨ 4 < k) → Q (some (.int (-1))) h1 := fun c => by
    rw [if_pos c] at hQ
    exact hQ h1 W1.y ⟨_, _, _, W1.re, iv⟩
  refine am_run (am_cK _) 5 (M_inN n 1 10 (by omega) (by omega) (fun m m1 m10 e => ?_) (fun c => am_run (am_cK _) 1 (⟨fun _ => am_run (am_cK _) 2 (no (c.elim Or.inl (fun z => Or.inr (Or.inl z)))), fun z => absurd rfl z⟩)))
  subst e
  refine am_run (am_cK _) 1 (⟨fun z => absurd z n10, fun _ => ?_⟩)
  refine am_run (am_cK _) 5 (M_inN k 1 4 (by omega) (by omega) (fun q q1 q4 e => ?_) (fun c => am_run (am_cK _) 1 (⟨fun z => absurd rfl z, fun _ => am_run (am_cK _) 2 (no (c.elim (fun z => Or.inr (Or.inr (Or.inl z))) (fun z => Or.inr (Or.inr (Or.inr z)))))⟩)))
  subst e
  rw [if_neg (by
    rintro (z | z | z | z)
    · exact nI_nlt (a := m) (b := 1) m1 (by omega) z
    · exact nI_nlt (a := 10) (b := m) m10 (by omega) z
    · exact nI_nlt (a := q) (b := 1) q1 (by omega) z
    · exact nI_nlt (a := 4) (b := q) q4 (by omega) z), nI_clamp (by omega), nI_clamp (by omega)] at hQ
  unfold oManyN at hQ
  have kl := kbr_lt q (by omega) m (by omega)
  have rn := rnA_eq q (by omega) m (by omega) m1
  have r11 := nRw_11 q (by omega) m (by omega) m1
  refine am_run (am_cK _) 1 (⟨fun _ => ?_, fun z => absurd n10 z⟩)
  refine am_run (am_cK _) 5 (M_powerE (by omega) (by omega) (by omega) ?_)
  refine am_run (am_cK _) 5 (show am_wp (am_call (d + 29)) (0, 0) cm_X11_many Q (fun _ => False) (46, [some (.ref 152), some (.int (nI m)), some (.int (nI q)), some (.long (lN 0)), none, some (.long (lN (q ^ m))), none, some (.long (lN 0)), none, some (.int (nI 0))], [], 0, 0) h1 from ?_)
  refine am_loopC (fun t => (46, [some (.ref 152), some (.int (nI m)), some (.int (nI q)), some (.long (lN (smf (fun t => q ^ Nat.gcd m t) t))), none, some (.long (lN (q ^ m))), none, some (.long (lN (smf (fun t => q ^ fxp m t) t))), none, some (.int (nI t))], [], 0, 0)) m (fun t ht K => ?_) ?_ 0 (Nat.zero_le _)
  · have hg : Nat.gcd m t ≤ 10 := Nat.le_trans (Nat.gcd_le_left t (by omega)) m10
    refine am_run (am_cK _) 3 (pk_le m t (fun c => by omega) (fun _ => ?_))
    refine am_run (am_cK _) 5 (M_ringsOf m10 (by omega) ?_)
    refine am_run (am_cK _) 1 (M_powerE (by omega) (by omega) (by omega) ?_)
    refine am_run (am_cK _) 2 (show am_wp (am_call (d + 29)) (0, 0) cm_X11_many Q (fun _ => False) (65, [some (.ref 152), some (.int (nI m)), some (.int (nI q)), some (.long (lN (smf (fun t => q ^ Nat.gcd m t) t) + lN (q ^ Nat.gcd m t))), none, some (.long (lN (q ^ m))), none, some (.long (lN (smf (fun t => q ^ fxp m t) t))), none, some (.int (nI t))], [], 0, 0) h1 from ?_)
    rw [lN_add]
    rw [smf, smf, nI_succ t, ← lN_add (smf (fun t => q ^ fxp m t) t)] at K
    refine am_run (am_cK _) 5 ⟨show ¬ (2 : Int32) = 0 by decide, ?_⟩
    rw [show nI m - nI m / 2 * 2 = nI (m % 2) from pk_rem (a := m) (d := 2) (by omega) (by omega) (by omega)]
    refine am_run (am_cK _) 2 (⟨fun c => ?_, fun c => ?_⟩)
    · have c1 : ¬ m % 2 = 1 := fun z => c (by rw [z]; rfl)
      have ef : fxp m t = m / 2 + t % 2 := if_neg c1
      rw [ef] at K
      refine am_run (am_cK _) 3 (⟨show ¬ (2 : Int32) = 0 by decide, ?_⟩)
      rw [show nI m / 2 = nI (m / 2) from pk_div (a := m) (d := 2) (by omega) (by omega) (by omega)]
      refine am_run (am_cK _) 3 (⟨show ¬ (2 : Int32) = 0 by decide, ?_⟩)
      rw [show nI t - nI t / 2 * 2 = nI (t % 2) from pk_rem (a := t) (d := 2) (by omega) (by omega) (by omega)]
      refine am_run (am_cK _) 2 (M_powerX (m := m / 2 + t % 2) (nI_add _ _) (by omega) (by omega) (by omega) ?_)
      exact am_run (am_cK _) 4 (K)
    · have c1 : m % 2 = 1 := (nI_eq (b := 1) (by omega) (by omega)).mp (Classical.not_not.mp c)
      have ef : fxp m t = (m + 1) / 2 := if_pos c1
      rw [ef] at K
      refine am_run (am_cK _) 5 (show ¬ (2 : Int32) = 0 ∧ am_wp (am_call (d + 29)) (0, 0) cm_X11_many Q (fun _ => False) (80, _, .int ((nI m + 1) / 2) :: _, _) h1 from ⟨by decide, ?_⟩)
      rw [nI_1, show nI (m + 1) / 2 = nI ((m + 1) / 2) from pk_div (a := m + 1) (d := 2) (by omega) (by omega) (by omega)]
      refine am_run (am_cK _) 2 (M_powerE (by omega) (by omega) (by omega) ?_)
      exact am_run (am_cK _) 4 (K)
  · refine am_run (am_cK _) 3 (pk_le m m (fun _ => ?_) (fun c => by omega))
    rw [← kl.2.2.1, ← kl.2.2.2.1]
    refine am_run (am_cK _) 2 (show am_wp (am_call (d + 29)) (0, 0) cm_X11_many Q (fun _ => False) (106, [some (.ref 152), some (.int (nI m)), some (.int (nI q)), some (.long (lN (kbr m q))), none, some (.long (lN (q ^ m))), none, some (.long (lN (kbf m q))), none, some (.int (nI (0 + 1)))], [], 0, 0) h1 from ?_)
    refine am_loopC (fun j => (106, [some (.ref 152), some (.int (nI m)), some (.int (nI q)), some (.long (lN (kbr m q))), none, some (.long (lN (sbN (fun j => if m % (j + 1) = 0 then nRw q 10 (j + 1) else 0) (q ^ m) j))), none, some (.long (lN (kbf m q))), none, some (.int (nI (j + 1)))], [], 0, 0)) (m - 1) (fun j hj K => ?_) ?_ 0 (Nat.zero_le _)
    · have ok2 := r11.2 j hj
      refine am_run (am_cK _) 3 (pk_le m (j + 1) (fun c => by omega) (fun _ => ?_))
      refine am_run (am_cK _) 4 (⟨nI_ne0 (by omega) (by omega), ?_⟩)
      rw [show nI m - nI m / nI (j + 1) * nI (j + 1) = nI (m % (j + 1)) from pk_rem (by omega) (by omega) (by omega)]
      have hml : m % (j + 1) < j + 1 := Nat.mod_lt _ (by omega)
      rw [sbN, ← lN_sub ok2, nI_succ (j + 1)] at K
      refine am_run (am_cK _) 1 (⟨fun c => ?_, fun c => ?_⟩)
      · rw [if_neg (fun z => c (by rw [z]; rfl))] at K
        exact am_run (am_cK _) 5 (K)
      · have e0 : m % (j + 1) = 0 := (nI_eq (b := 0) (by omega) (by omega)).mp (Classical.not_not.mp c)
        rw [if_pos e0] at K
        refine am_run (am_cK _) 3 (M_newRows (d := d + 7) (by omega) 10 (j + 1) (by omega) (by omega) (by omega) ?_)
        exact am_run (am_cK _) 5 (K)
    · refine am_run (am_cK _) 3 (pk_le m (m - 1 + 1) (fun _ => ?_) (fun c => by omega))
      rw [show sbN (fun j => if m % (j + 1) = 0 then nRw q 10 (j + 1) else 0) (q ^ m) (m - 1) = nRw q 10 m from r11.1]
      refine am_run (am_cK _) 3 (am_putI W1 rfl (by decide) (fun h2 W2 => ?_))
      have el : ∀ a, a < 2 ^ 30 → lN a / (nI m).toInt64 = lN (a / m) := fun a ha => by
        rw [nI_l (by omega)]
        exact pk_lDiv (by omega) (by omega) (by omega)
      have nz : ¬ (nI m).toInt64 = 0 := fun z => by
        rw [nI_l (by omega)] at z
        have := (lN_eq (b := 0) (by omega) (by omega)).mp z
        omega
      refine am_run (am_cK _) 5 (⟨nz, ?_⟩)
      rw [el _ kl.1]
      refine am_run (am_cK _) 1 (am_obj_in W2.o ((M_enters W2 (m := 0) rfl (by omega) _ (fun h3 W3 => ?_))))
      refine am_run (am_cK _) 5 (⟨nz, ?_⟩)
      rw [el _ rn.2]
      refine am_run (am_cK _) 1 (am_obj_in W3.o ((M_enters W3 (m := 1) rfl (by omega) _ (fun h4 W4 => ?_))))
      refine am_run (am_cK _) 7 (show am_wp (am_call (d + 29)) (0, 0) cm_X11_many Q (fun _ => False) (170, _, [.long ((2 * nI m).toInt64), .long (lN (kbr m q) + lN (kbf m q))], _) h4 from ?_)
      rw [two_n, lN_add, nI_l (by omega)]
      refine am_run (am_cK _) 1 ⟨fun z => by have := (lN_eq (b := 0) (by omega) (by omega)).mp z; omega, ?_⟩
      rw [pk_lDiv (by omega) (by omega) (by omega)]
      refine am_run (am_cK _) 2 (show Q (some (.int (lN ((kbr m q + kbf m q) / (2 * m))).toInt32)) h4 from ?_)
      rw [lN_i]
      refine hQ h4 W4.y ⟨_, _, _, W4.re, iv.s, iv.u, iv.k, iv.t, ⟨rfl, by show 2 ≤ 16; omega, fun i hi => i_lt2 (P := fun i => vp_updL (vp_updL R 0 (lN (kbr m q / m))) 1 (lN (nRw q 10 m / m)) i = (w2 (nI (kbr m q / m)) (nI (nRw q 10 m / m)) i).toInt64) hi ?_ ?_⟩, iv.f, iv.hr, iv.l⟩
      · exact (nI_l (Nat.lt_of_le_of_lt (Nat.div_le_self _ _) (by omega))).symm
      · exact (nI_l (Nat.lt_of_le_of_lt (Nat.div_le_self _ _) (by omega))).symm
end
