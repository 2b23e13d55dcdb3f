section
variable {d : Nat} {h0 h : am_H} {Q : Option Value → am_H → Prop} {M : Ms}
theorem Z_rank (hY : RY h M) (b : Int32) (hQ : ∀ h', Fy h h' → RY h' M → Q (some (.int (oRank M b))) h') : am_call (d + 20) 284 [.ref 152, .int b] h Q := by
  obtain ⟨F, A, R, W, iv⟩ := hY
  have hs := iv.s.2
  have hN := hs.1
  unfold oRank at hQ
  refine en_X11_rank (Nat.le_of_ble_eq_true rfl) ?_
  refine am_run (am_cK _) 3 (am_putI W rfl (by decide) (fun h1 W1 => ?_))
  refine am_run (am_cK _) 3 (am_obj_in W1.o ((M_isRing W1 iv.s.1.1 hN b (fun j hj e => ?_) (fun c => ?_))))
  rotate_left
  · rw [if_pos c] at hQ
    exact am_run (am_cK _) 1 (⟨fun z => absurd rfl z, fun _ => am_run (am_cK _) 2 (hQ h1 W1.y ⟨_, _, _, W1.re, iv⟩)⟩)
  subst e
  rw [if_neg (S_no hs hj), nI_clamp (by omega)] at hQ
  have hz := hs.2.1 j hj
  have hr := iv.s.1.2.2.2 j hj
  refine am_run (am_cK _) 1 (⟨fun _ => ?_, fun z => absurd n10 z⟩)
  refine am_run (am_cK _) 2 (am_obj_in W1.o (am_run (am_cK _) 2 (am_ld W1.a154 j (by omega) ?_)))
  rw [nI_clamp (by omega), hr.1]
  refine am_run (am_cK _) 2 (pk_le (sZ (mS M) j) 7 (fun c => ?_) (fun c => ?_))
  rotate_left
  · rw [if_pos c] at hQ
    exact am_run (am_cK _) 2 (hQ h1 W1.y ⟨_, _, _, W1.re, iv⟩)
  rw [if_neg (by omega)] at hQ
  refine am_run (am_cK _) 3 (am_obj_in W1.o ((M_laysRank W1 (by omega) hz.1 c hr.1 hr.2 hz.2.2 (fun h2 g W2 => ?_))))
  have huf := un_facts (f := sB (mS M) j) (n := sZ (mS M) j) hz.1 (by omega) hz.2.2
  have hgl := gcl_lt (sB (mS M) j) (sZ (mS M) j)
  rw [gcN_lst hz.1 (by omega) hz.2.2, ← huf.2, rank_cv hz.1 c hgl huf.1] at hQ
  have hpw := pw_le (show gcl (sB (mS M) j) (sZ (mS M) j) + 1 ≤ 4 by omega) c
  have hr1 := hr.1
  have hz1 := hz.1
  have hul := huf.1
  have hk4 : gcl (sB (mS M) j) (sZ (mS M) j) + 1 ≤ 4 := by omega
  have hk0 : 0 < gcl (sB (mS M) j) (sZ (mS M) j) + 1 := by omega
  generalize un (gcl (sB (mS M) j) (sZ (mS M) j) + 1) (trn (sB (mS M) j) (sZ (mS M) j) (bT (sB (mS M) j) (sZ (mS M) j) (2 * sZ (mS M) j))) (sZ (mS M) j) = r at W2 hQ hul
  generalize gcl (sB (mS M) j) (sZ (mS M) j) + 1 = k at W2 hQ hul hpw hk4 hk0
  generalize sZ (mS M) j = n at W2 hQ hul hpw hz1 hr1 c
  refine am_run (am_cK _) 4 (show am_wp (am_call (d + 19)) (0, 0) cm_X11_rank Q (fun _ => False) (38, [some (.ref 152), some (.int (nI j)), some (.int (nI (cnt (lk k n) 0))), some (.int (nI 0))], [], 0, 0) h2 from ?_)
  refine am_lp (α := Int32 × (Nat → Int32)) (fun s _ => (38, [some (.ref 152), some (.int (nI j)), some (.int (nI (cnt (lk k n) s))), some (.int (nI s))], [], 0, 0)) (fun _ x h' => RM h h' (upd (upd (upd (upd F 0 0) 29 (nI k)) 30 (nI r)) 13 x.1) (va_up A 158 x.2) R) r (fun s x h3 hs3 W3 K => ?_) (fun x h3 W3 => ?_) 0 (nI n, g) h2 (Nat.zero_le _) W2
  · obtain ⟨x1, g1⟩ := x
    replace W3 : RM h h3 (upd (upd (upd (upd F 0 0) 29 (nI k)) 30 (nI r)) 13 x1) (va_up A 158 g1) R := W3
    refine am_run (am_cK _) 3 (am_obj_in W3.o (am_run (am_cK _) 1 (pk_le r s (fun c => by omega) (fun _ => ?_) (hx := rfl))))
    refine am_run (am_cK _) 3 (am_obj_in W3.o (am_run (am_cK _) 2 (am_ld W3.a154 j (by omega) ?_)))
    rw [nI_clamp (by omega), show va_up A 158 g1 154 j = nI n from hr1]
    refine am_run (am_cK _) 2 (am_obj_in W3.o (am_run (am_cK _) 2 (am_obj_in W3.o ((M_laysLook (k := k) (n := n) (s := s) W3 hz1 (by omega) hk0 hk4 (by omega) (fun h4 g4 W4 hL => ?_))))))
    rw [upd_upd, va_up2] at W4 hL
    refine am_run (am_cK _) 3 (am_obj_in W4.o ((M_isLeast W4 hL ?_)))
    rw [lk_isL hz1 hk0 hk4]
    refine am_run (am_cK _) 1 (M_flag _ ?_)
    have K2 := K (nI n, g4) h4 W4
    rw [cnt_bI, nI_succ s] at K2
    exact am_run (am_cK _) 4 (K2)
  · obtain ⟨x1, g1⟩ := x
    replace W3 : RM h h3 (upd (upd (upd (upd F 0 0) 29 (nI k)) 30 (nI r)) 13 x1) (va_up A 158 g1) R := W3
    exact am_run (am_cK _) 3 (am_obj_in W3.o (am_run (am_cK _) 1 (pk_le r r (fun _ => am_run (am_cK _) 2 (hQ h3 W3.y ⟨_, _, _, W3.re, iv⟩)) (fun c => by omega) (hx := rfl))))
theorem Z_next (hY : RY h M) (b : Int32) (hQ : ∀ h', Fy h h' → RY h' (oNext M b).2 → Q (some (.int (oNext M b).1)) h') : am_call (d + 20) 285 [.ref 152, .int b] h Q := by
  obtain ⟨F, A, R, W, iv⟩ := hY
  have hs := iv.s.2
  have hN := hs.1
  unfold oNext at hQ
  refine en_X11_next (Nat.le_of_ble_eq_true rfl) ?_
  refine am_run (am_cK _) 3 (am_putI W rfl (by decide) (fun h1 W1 => ?_))
  refine am_run (am_cK _) 3 (am_obj_in W1.o ((M_isRing W1 iv.s.1.1 hN b (fun j hj e => ?_) (fun c => ?_))))
  rotate_left
  · rw [if_pos c] at hQ
    exact am_run (am_cK _) 1 (⟨fun z => absurd rfl z, fun _ => am_run (am_cK _) 2 (hQ h1 W1.y ⟨_, _, _, W1.re, iv⟩)⟩)
  subst e
  rw [if_neg (S_no hs hj), nI_clamp (by omega)] at hQ
  have hz := hs.2.1 j hj
  have hr := iv.s.1.2.2.2 j hj
  refine am_run (am_cK _) 1 (⟨fun _ => ?_, fun z => absurd n10 z⟩)
  refine am_run (am_cK _) 2 (am_obj_in W1.o (am_run (am_cK _) 2 (am_ld W1.a154 j (by omega) ?_)))
  rw [nI_clamp (by omega), hr.1]
  refine am_run (am_cK _) 2 (pk_le (sZ (mS M) j) 7 (fun c => ?_) (fun c => ?_))
  rotate_left
  · rw [if_pos c] at hQ
    exact am_run (am_cK _) 2 (hQ h1 W1.y ⟨_, _, _, W1.re, iv⟩)
  rw [if_neg (by omega)] at hQ
  refine am_run (am_cK _) 3 (am_obj_in W1.o ((M_laysRank W1 (by omega) hz.1 c hr.1 hr.2 hz.2.2 (fun h2 g W2 => ?_))))
  have huf := un_facts (f := sB (mS M) j) (n := sZ (mS M) j) hz.1 (by omega) hz.2.2
  have hgl := gcl_lt (sB (mS M) j) (sZ (mS M) j)
  unfold nxN at hQ
  have hnx := next_cv hz.1 c hgl huf.1
  rw [gcN_lst hz.1 (by omega) hz.2.2, ← huf.2] at hQ
  have hpw := pw_le (show gcl (sB (mS M) j) (sZ (mS M) j) + 1 ≤ 4 by omega) c
  have hr1 := hr.1
  have hz1 := hz.1
  have hul := huf.1
  have hk4 : gcl (sB (mS M) j) (sZ (mS M) j) + 1 ≤ 4 := by omega
  have hk0 : 0 < gcl (sB (mS M) j) (sZ (mS M) j) + 1 := by omega
  generalize un (gcl (sB (mS M) j) (sZ (mS M) j) + 1) (trn (sB (mS M) j) (sZ (mS M) j) (bT (sB (mS M) j) (sZ (mS M) j) (2 * sZ (mS M) j))) (sZ (mS M) j) = r at W2 hQ hul hnx
  generalize kBeh (sZ (mS M) j) (cv (gcl (sB (mS M) j) (sZ (mS M) j) + 1) (sZ (mS M) j) r) (gcl (sB (mS M) j) (sZ (mS M) j)) = bh at hQ hnx
  generalize gcl (sB (mS M) j) (sZ (mS M) j) + 1 = k at W2 hQ hul hpw hk4 hk0 hnx
  generalize sZ (mS M) j = n at W2 hQ hul hpw hz1 hr1 c hnx
  refine am_run (am_cK _) 2 (am_obj_in W2.o (am_run (am_cK _) 3 (show am_wp (am_call (d + 19)) (0, 0) cm_X11_next Q (fun _ => False) (41, [some (.ref 152), some (.int (nI j)), some (.int (nI r + 1))], [], 0, 0) h2 from ?_)))
  rw [← nI_succ r]
  refine am_lp (α := Int32 × (Nat → Int32)) (fun s _ => (41, [some (.ref 152), some (.int (nI j)), some (.int (nI s))], [], 0, 0)) (fun s x h' => RM h h' (upd (upd (upd (upd F 0 0) 29 (nI k)) 30 (nI r)) 13 x.1) (va_up A 158 x.2) R ∧ r < s ∧ ∀ c, r + 1 ≤ c → c < s → lk k n c = false) (k ^ n) (fun s x h3 hs3 P K => ?_) (fun x h3 P => ?_) (r + 1) (nI n, g) h2 (by omega) ⟨W2, by omega, fun c c1 c2 => by omega⟩
  · obtain ⟨x1, g1⟩ := x
    obtain ⟨W3, p1, p2⟩ := P
    replace W3 : RM h h3 (upd (upd (upd (upd F 0 0) 29 (nI k)) 30 (nI r)) 13 x1) (va_up A 158 g1) R := W3
    refine am_run (am_cK _) 4 (am_obj_in W3.o (am_run (am_cK _) 2 (am_obj_in W3.o (am_run (am_cK _) 2 (am_ld W3.a154 j (by omega) ?_)))))
    rw [nI_clamp (by omega), show va_up A 158 g1 154 j = nI n from hr1]
    refine am_run (am_cK _) 1 (M_powerE (k := k) (m := n) (by omega) (by omega) (by omega) ?_)
    refine am_run (am_cK _) 2 (lk_ge (by omega) (by omega) (fun c => by omega) (fun _ => ?_))
    refine am_run (am_cK _) 3 (am_obj_in W3.o (am_run (am_cK _) 2 (am_ld W3.a154 j (by omega) ?_)))
    rw [nI_clamp (by omega), show va_up A 158 g1 154 j = nI n from hr1]
    refine am_run (am_cK _) 2 (am_obj_in W3.o (am_run (am_cK _) 2 (am_obj_in W3.o ((M_laysLook (k := k) (n := n) (s := s) W3 hz1 (by omega) hk0 hk4 (by omega) (fun h4 g4 W4 hL => ?_))))))
    rw [upd_upd, va_up2] at W4 hL
    refine am_run (am_cK _) 2 (am_obj_in W4.o ((M_isLeast W4 hL ?_)))
    rw [lk_isL hz1 hk0 hk4]
    cases hp : lk k n s with
    | false =>
      have K2 := K (nI n, g4) h4 ⟨W4, by omega, fun c c1 c2 => (if e : c = s then (by rw [e]; exact hp) else p2 c c1 (by omega))⟩
      rw [nI_succ s] at K2
      exact am_run (am_cK _) 1 (⟨fun _ => am_run (am_cK _) 2 (K2), fun z => absurd rfl z⟩)
    | true =>
      have es : fnd (lk k n) (r + 1) (k ^ n - (r + 1)) = s := fnd_eq (by omega) (by omega) p2 (Or.inr hp)
      rw [es] at hnx
      rw [if_pos (hnx.1.mpr hs3), hnx.2 hs3] at hQ
      unfold tK at hQ
      refine am_run (am_cK _) 1 (⟨fun z => absurd z n10, fun _ => ?_⟩)
      refine am_run (am_cK _) 2 (am_obj_in W4.o ((M_entersLook W4 hL (fun h5 R' W5 hR => ?_))))
      refine am_run (am_cK _) 2 (hQ h5 W5.y ⟨_, _, _, W5.re, iv.s, iv.u, iv.k, iv.t, ⟨rfl, by show n ≤ 16; omega, fun i hi => ?_⟩, iv.f, iv.hr, iv.l⟩)
      show R' i = (nI (dg (cv k n s) n i)).toInt64
      rw [dg_cv hk0 hk4 i hi]
      exact hR i hi
  · obtain ⟨x1, g1⟩ := x
    obtain ⟨W3, p1, p2⟩ := P
    replace W3 : RM h h3 (upd (upd (upd (upd F 0 0) 29 (nI k)) 30 (nI r)) 13 x1) (va_up A 158 g1) R := W3
    have es : fnd (lk k n) (r + 1) (k ^ n - (r + 1)) = k ^ n := fnd_eq (by omega) (by omega) p2 (Or.inl (by omega))
    rw [es] at hnx
    rw [if_neg (fun w => Nat.lt_irrefl _ (hnx.1.mp w))] at hQ
    refine am_run (am_cK _) 4 (am_obj_in W3.o (am_run (am_cK _) 2 (am_obj_in W3.o (am_run (am_cK _) 2 (am_ld W3.a154 j (by omega) ?_)))))
    rw [nI_clamp (by omega), show va_up A 158 g1 154 j = nI n from hr1]
    refine am_run (am_cK _) 1 (M_powerE (k := k) (m := n) (by omega) (by omega) (by omega) ?_)
    exact am_run (am_cK _) 2 (lk_ge (by omega) (by omega) (fun _ => am_run (am_cK _) 2 (hQ h3 W3.y ⟨_, _, _, W3.re, iv⟩)) (fun c => by omega))
end
