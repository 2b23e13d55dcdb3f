/-! THE MODEL: the n-th kind, which one a bracelet is, the next -/
theorem lk_ge {A B : Prop} {s N : Nat} (hs : s < 2 ^ 31) (hN : N < 2 ^ 31) (f : N ≤ s → A) (g : s < N → B) : (0 ≤ lg_cmp (nI s).toInt64 (lN N) → A) ∧ (¬ 0 ≤ lg_cmp (nI s).toInt64 (lN N) → B) := by
  rw [lg_cmp_ge, nI_l hs, lN_le hN hs]
  exact ⟨f, fun c => g (by omega)⟩
theorem pw_le {q N : Nat} (h : q ≤ 4) (h7 : N ≤ 7) : q ^ N ≤ 16384 := Nat.le_trans (Nat.pow_le_pow_left h N) (Nat.le_trans (Nat.pow_le_pow_right (by decide) h7) (by decide))
theorem cnt_bI (p : Nat → Bool) (s : Nat) : nI (cnt p (s + 1)) = nI (cnt p s) + bI (p s) := by
  cases hp : p s with
  | false =>
    rw [cnt_f hp]
    show nI (cnt p s) = nI (cnt p s) + 0
    rw [Int32.add_zero]
  | true =>
    rw [cnt_t hp, nI_succ]
    rfl
section
variable {d : Nat} {h0 h : am_H} {Q : Option Value → am_H → Prop} {F : Nat → Int32} {A : Nat → Nat → Int32} {R : Nat → Int64} {M : Ms} {n : Nat} {f : Nat → Nat}
theorem J_nlz {v : Nat} (hv : v < 16) (h0 : 0 < v) (hQ : Q (some (.int (nI (nlz v)))) h) : am_call (d + 1) 321 [.int (nI v)] h Q := by
  unfold nlz at hQ
  refine en_J6_numberOfLeadingZeros_0f7a4 (Nat.le_of_ble_eq_true rfl) ?_
  refine am_run (am_cK _) 2 ⟨fun _ => ?_, fun c => absurd ((nI_ltI (a := 0) (by omega) (by omega)).mpr h0) c⟩
  refine am_run (am_cK _) 5 (pk_lt v 65536 (fun _ => ?_) (fun c => by omega))
  refine am_run (am_cK _) 3 (pk_lt v 256 (fun _ => ?_) (fun c => by omega))
  refine am_run (am_cK _) 3 (pk_lt v 16 (fun _ => ?_) (fun c => by omega))
  refine am_run (am_cK _) 3 (pk_lt v 4 (fun c => ?_) (fun c => ?_))
  · rw [if_neg (by omega)] at hQ
    have e : (31 : Int32) - ((nI v).toUInt32 >>> ((1 : Int32).toUInt32 &&& Int32.toUInt32 31)).toInt32 = nI (31 - v / 2) := by
      rw [pk_ushrN (by omega) 1 1 (by decide)]
      exact pk_sub (a := 31) (b := v / 2 ^ 1) (by omega)
    rw [← e] at hQ
    exact am_run (am_cK _) 6 hQ
  · rw [if_pos (by omega)] at hQ
    have e : (31 : Int32) + (-2) - ((((nI v).toUInt32 >>> ((2 : Int32).toUInt32 &&& Int32.toUInt32 31)).toInt32).toUInt32 >>> ((1 : Int32).toUInt32 &&& Int32.toUInt32 31)).toInt32 = nI (29 - v / 4 / 2) := by
      rw [pk_ushrN (by omega) 2 2 (by decide), pk_ushrN (by omega) 1 1 (by decide)]
      exact pk_sub (a := 29) (b := v / 2 ^ 2 / 2 ^ 1) (by omega)
    rw [← e] at hQ
    exact am_run (am_cK _) 11 hQ
theorem M_entersLook (W : RM h0 h F A R) (hL : LK F A f n) (hQ : ∀ h' R', RM h0 h' (upd F 1 (nI n)) A R' → (∀ i, i < n → R' i = (nI (f i)).toInt64) → Q none h') : am_call (d + 2) 281 [.ref 152] h Q := by
  obtain ⟨hl, hn0, hn, hg, hf⟩ := id hL
  refine en_X11_entersLook (Nat.le_of_ble_eq_true rfl) ?_
  refine am_run (am_cK _) 3 (am_putI W rfl (by decide) (fun h1 W1 => ?_))
  refine am_run (am_cK _) 2 ?_
  refine am_lp (α := Nat → Int64) (fun q _ => (7, [some (.ref 152), some (.int (nI q))], [], 0, 0)) (fun q R' h' => RM h0 h' (upd F 1 (nI q)) A R' ∧ ∀ i, i < q → R' i = (nI (f i)).toInt64) n (fun q R1 h2 hq P K => ?_) (fun R1 h2 P => ?_) 0 R h1 (Nat.zero_le _) ⟨W1, fun i hi => by omega⟩
  · obtain ⟨W2, P1⟩ := P
    refine am_run (am_cK _) 3 (am_obj_in W2.o (am_run (am_cK _) 1 (pk_le n q (fun c => by omega) (fun _ => ?_) (hx := hl))))
    refine am_run (am_cK _) 3 (am_obj_in W2.o (am_run (am_cK _) 2 (am_ld W2.a158 q (by omega) ?_)))
    rw [nI_clamp (by omega), hg q hq]
    refine am_run (am_cK _) 2 (am_obj_in W2.o ((M_enters W2 (m := q) rfl (by omega) _ (fun h3 W3 => ?_))))
    rw [upd_upd] at W3
    have K2 := K _ h3 ⟨W3, fun i hi => (by
      by_cases e : i = q
      · subst e; exact pk_uLs
      · exact (pk_uLn e).trans (P1 i (by omega)))⟩
    rw [nI_succ] at K2
    exact am_run (am_cK _) 2 (K2)
  · obtain ⟨W2, P1⟩ := P
    refine am_run (am_cK _) 3 (am_obj_in W2.o (am_run (am_cK _) 1 (pk_le n n (fun _ => ?_) (fun c => by omega) (hx := hl))))
    exact am_run (am_cK _) 1 (hQ h2 R1 W2 P1)
theorem Z_nth (hY : RY h M) (n k m : Int32) (hQ : ∀ h', Fy h h' → RY h' (oNth M n k m).2 → Q (some (.int (oNth M n k m).1)) h') : am_call (d + 20) 282 [.ref 152, .int n, .int k, .int m] h Q := by
  obtain ⟨F, A, R, W, iv⟩ := hY
  unfold oNth at hQ
  refine en_X11_nth (Nat.le_of_ble_eq_true rfl) ?_
  refine am_run (am_cK _) 3 (am_putI W rfl (by decide) (fun h1 W1 => ?_))
  have no : (n < 1 ∨ 7 < n ∨ k < 1 ∨ 4 < k ∨ m < 0 ∨ 999 < m) → Q (some (.int (-1))) h1 := fun c => by
    rw [if_pos c] at hQ
    exact hQ h1 W1.y ⟨_, _, _, W1.re, iv⟩
  refine am_run (am_cK _) 5 (M_inN n 1 7 (by omega) (by omega) (fun N N1 N7 e => ?_) (fun c => am_run (am_cK _) 1 (⟨fun _ => am_run (am_cK _) 2 (no (c.elim Or.inl (fun z => Or.inr (Or.inl z)))), fun z => absurd rfl z⟩)))
  subst e
  refine am_run (am_cK _) 1 (⟨fun z => absurd z n10, fun _ => ?_⟩)
  refine am_run (am_cK _) 5 (M_inN k 1 4 (by omega) (by omega) (fun q q1 q4 e => ?_) (fun c => am_run (am_cK _) 1 (⟨fun _ => am_run (am_cK _) 2 (no (c.elim (fun z => Or.inr (Or.inr (Or.inl z))) (fun z => Or.inr (Or.inr (Or.inr (Or.inl z)))))), fun z => absurd rfl z⟩)))
  subst e
  refine am_run (am_cK _) 1 (⟨fun z => absurd z n10, fun _ => ?_⟩)
  refine am_run (am_cK _) 5 (M_inN m 0 999 (by omega) (by omega) (fun p p0 p9 e => ?_) (fun c => am_run (am_cK _) 1 (⟨fun z => absurd rfl z, fun _ => am_run (am_cK _) 2 (no (c.elim (fun z => Or.inr (Or.inr (Or.inr (Or.inr (Or.inl z))))) (fun z => Or.inr (Or.inr (Or.inr (Or.inr (Or.inr z)))))))⟩)))
  subst e
  rw [if_neg (by
    rintro (z | z | z | z | z | z)
    · exact nI_nlt (a := N) (b := 1) N1 (by omega) z
    · exact nI_nlt (a := 7) (b := N) N7 (by omega) z
    · exact nI_nlt (a := q) (b := 1) q1 (by omega) z
    · exact nI_nlt (a := 4) (b := q) q4 (by omega) z
    · exact nI_pos (by omega) z
    · exact nI_nlt (a := 999) (b := p) p9 (by omega) z), nI_clamp (by omega), nI_clamp (by omega), nI_clamp (by omega)] at hQ
  unfold ntN at hQ
  have hpw := pw_le q4 N7
  have hkf := kAtI_FL N q p
  have hfl := FL_len N1 N7 q1 q4
  refine am_run (am_cK _) 1 (⟨fun _ => ?_, fun z => absurd n10 z⟩)
  refine am_run (am_cK _) 4 (show am_wp (am_call (d + 19)) (0, 0) cm_X11_nth Q (fun _ => False) (49, [some (.ref 152), some (.int (nI N)), some (.int (nI q)), some (.int (nI p)), some (.int (nI (cnt (lk q N) 0))), some (.int (nI 0))], [], 0, 0) h1 from ?_)
  refine am_lp (α := Int32 × (Nat → Int32)) (fun s _ => (49, [some (.ref 152), some (.int (nI N)), some (.int (nI q)), some (.int (nI p)), some (.int (nI (cnt (lk q N) s))), some (.int (nI s))], [], 0, 0)) (fun s x h' => RM h h' (upd (upd F 0 0) 13 x.1) (va_up A 158 x.2) R ∧ cnt (lk q N) s ≤ p) (q ^ N) (fun s x h2 hs P K => ?_) (fun x h2 P => ?_) 0 (F 13, A 158) h1 (Nat.zero_le _) ⟨by rw [upd_same (F := upd F 0 0) (i := 13) (x := F 13) rfl, va_same rfl]; exact W1, Nat.zero_le _⟩
  · obtain ⟨W2, c2⟩ := P
    have hcs := cnt_i (lk q N) s
    refine am_run (am_cK _) 5 (M_powerE (by omega) (by omega) (by omega) ?_)
    refine am_run (am_cK _) 2 (lk_ge (by omega) (by omega) (fun c => by omega) (fun _ => ?_))
    refine am_run (am_cK _) 5 (am_obj_in W2.o ((M_laysLook W2 N1 (by omega) q1 q4 (by omega) (fun h3 g W3 hL => ?_))))
    rw [upd_upd, va_up2] at W3 hL
    refine am_run (am_cK _) 2 (am_obj_in W3.o ((M_isLeast W3 hL ?_)))
    rw [lk_isL N1 q1 q4]
    cases hp : lk q N s with
    | false =>
      have K2 := K (nI N, g) h3 ⟨W3, by rw [cnt_f hp]; exact c2⟩
      rw [cnt_f hp, nI_succ s] at K2
      exact am_run (am_cK _) 1 (⟨fun _ => am_run (am_cK _) 2 (K2), fun z => absurd rfl z⟩)
    | true =>
      refine am_run (am_cK _) 1 (⟨fun z => absurd z n10, fun _ => ?_⟩)
      by_cases c : cnt (lk q N) s = p
      · have ha := FL_at N1 N7 q1 q4 hs hp
        have hm := cnt_up (lk q N) (show s + 1 ≤ q ^ N by omega)
        rw [cnt_t hp] at hm
        have hlt : kAtI N q p < kN N := hkf.1.mpr (by omega)
        have hv : kR N (kAtI N q p) = cv q N s := (hkf.2 hlt).trans (by rw [← c]; exact ha)
        rw [if_pos hlt, hv] at hQ
        unfold tK at hQ
        refine am_run (am_cK _) 3 (⟨fun z => absurd (congrArg nI c) z, fun _ => ?_⟩)
        refine am_run (am_cK _) 2 (am_obj_in W3.o ((M_entersLook W3 hL (fun h4 R' W4 hR => ?_))))
        refine am_run (am_cK _) 2 (hQ h4 W4.y ⟨_, _, _, W4.re, iv.s, iv.u, iv.k, iv.t, ⟨rfl, by show N ≤ 16; omega, fun i hi => ?_⟩, iv.f, iv.hr, iv.l⟩)
        show R' i = (nI (dg (cv q N s) N i)).toInt64
        rw [dg_cv q1 q4 i hi]
        exact hR i hi
      · have K2 := K (nI N, g) h3 ⟨W3, by rw [cnt_t hp]; omega⟩
        rw [cnt_t hp, nI_succ s, nI_succ (cnt (lk q N) s)] at K2
        exact am_run (am_cK _) 3 (⟨fun _ => am_run (am_cK _) 3 (K2), fun z => absurd (fun e => c ((nI_eq (by omega) (by omega)).mp e)) z⟩)
  · obtain ⟨W2, c2⟩ := P
    rw [if_neg (fun w => by
      have := hkf.1.mp w
      omega)] at hQ
    refine am_run (am_cK _) 5 (M_powerE (by omega) (by omega) (by omega) ?_)
    exact am_run (am_cK _) 2 (lk_ge (by omega) (by omega) (fun _ => am_run (am_cK _) 2 (hQ h2 W2.y ⟨_, _, _, W2.re, iv⟩)) (fun c => by omega))
theorem M_laysRank (W : RM h0 h F A R) {b : Nat} (hb : b < 5) (hn0 : 0 < n) (hn : n ≤ 7) (hz : A 154 b = nI n) (hf : ∀ i, i < n → A 154 (5 + 10 * b + i) = nI (f i)) (hf4 : ∀ i, i < n → f i < 4) (hQ : ∀ h' g, RM h0 h' (upd (upd (upd F 29 (nI (gcl f n + 1))) 30 (nI (un (gcl f n + 1) (trn f n (bT f n (2 * n))) n))) 13 (nI n)) (va_up A 158 g) R → Q none h') : am_call (d + 5) 283 [.ref 152, .int (nI b)] h Q := by
  have hbt := bT_lt (f := f) (n := n) (2 * n) (by omega)
  obtain ⟨c1, c2, c3⟩ := cbt_gcl hn0 hf4
  have hnl := nlz_b _ c1 c2
  generalize ek : gcl f n + 1 = k at hQ c3
  generalize eT : trn f n (bT f n (2 * n)) = T at hQ
  refine en_X11_laysRank (Nat.le_of_ble_eq_true rfl) ?_
  refine am_run (am_cK _) 3 (am_obj_in W.o (am_run (am_cK _) 2 (am_obj_in W.o ((M_looksAt W (Or.inl rfl) hb hn0 (by omega) hz hf hf4 (fun h1 g W1 hL => ?_))))))
  have hg := hL.2.2.2.1
  refine am_run (am_cK _) 4 (am_obj_in W1.o ((M_coloursOf W1 hL ?_)))
  refine am_run (am_cK _) 1 (J_nlz c1 c2 ?_)
  refine am_run (am_cK _) 2 (am_putI W1 rfl (by decide) (fun h2 W2 => ?_))
  rw [show (32 : Int32) - nI (nlz (cbt f n)) = nI k by rw [← c3]; exact pk_sub (a := 32) (by omega)] at W2
  refine am_run (am_cK _) 2 (am_obj_in W2.o ((M_leastTurning W2 hL ?_)))
  refine am_run (am_cK _) 4 (am_putI W2 rfl (by decide) (fun h3 W3 => ?_))
  refine am_run (am_cK _) 2 ?_
  refine am_loop (fun i => (35, [some (.ref 152), some (.int (nI b)), some (.int (nI (bT f n (2 * n)))), some (.int (nI i))], [], 0, 0)) (fun i h' => RM h0 h' (upd (upd (upd F 13 (nI n)) 29 (nI k)) 30 (nI (un k T i))) (va_up A 158 g) R) n (fun i h4 hi W4 K => ?_) (fun h4 W4 => ?_) 0 h3 (Nat.zero_le _) W3
  · refine am_run (am_cK _) 3 (am_obj_in W4.o (am_run (am_cK _) 1 (pk_le n i (fun c => by omega) (fun _ => ?_) (hx := rfl))))
    refine am_run (am_cK _) 3 (am_obj_in W4.o (am_run (am_cK _) 2 (am_obj_in W4.o (am_run (am_cK _) 3 (am_obj_in W4.o (am_run (am_cK _) 2 (am_obj_in W4.o (am_run (am_cK _) 3 (M_turnedOf (n := n) W4.a158 (by omega) (by omega) (by omega) hg hbt hi ?_)))))))))
    rw [eT]
    refine am_run (am_cK _) 2 (am_putI W4 rfl (by decide) (fun h5 W5 => ?_))
    rw [upd_upd] at W5
    have W6 : RM h0 h5 (upd (upd (upd F 13 (nI n)) 29 (nI k)) 30 (nI k * nI (un k T i) + nI (T i))) (va_up A 158 g) R := W5
    rw [pk_mul, nI_add] at W6
    have K2 := K h5 W6
    rw [nI_succ] at K2
    exact am_run (am_cK _) 2 (K2)
  · rw [upd_sw (F := F) (i := 13) (j := 29) (by decide), upd_sw (F := upd F 29 (nI k)) (i := 13) (j := 30) (by decide)] at W4
    exact am_run (am_cK _) 3 (am_obj_in W4.o (am_run (am_cK _) 1 (pk_le n n (fun _ => am_run (am_cK _) 1 (hQ h4 g W4)) (fun c => by omega) (hx := rfl))))
/-- the number of the least row -/
theorem un_facts (hn0 : 0 < n) (hn : n ≤ 10) (hf4 : ∀ i, i < n → f i < 4) : un (gcl f n + 1) (trn f n (bT f n (2 * n))) n < (gcl f n + 1) ^ n ∧ cv (gcl f n + 1) n (un (gcl f n + 1) (trn f n (bT f n (2 * n))) n) = lst f n := by
  have hbt := bT_lt (f := f) (n := n) (2 * n) (by omega)
  have hd : ∀ i, i < n → trn f n (bT f n (2 * n)) i < gcl f n + 1 := fun i hi => by
    have := gcl_ge (f := trn f n (bT f n (2 * n))) hi (trn_lt hf4 i hi)
    rw [gcl_trn hn hbt] at this
    omega
  exact ⟨un_lt hd, (cv_un hd).trans (bT_lst hn0)⟩
end
