/-! THE MODEL: what can be strung, the dearest -/
theorem kR_ix {n s : Nat} (hn0 : 1 ≤ n) (hn : n ≤ 7) (hs : s < 4 ^ n) (h : lk 4 n s = true) : kR n (cnt (lk 4 n) s) = s ∧ cnt (lk 4 n) s < kN n := by
  have a := FL_at hn0 hn (by decide) (by decide) hs h
  have b := FL_len hn0 hn (show 1 ≤ 4 by decide) (by decide)
  rw [FL_4] at a b
  rw [cv_4 hs] at a
  have hm := cnt_up (lk 4 n) (show s + 1 ≤ 4 ^ n by omega)
  rw [cnt_t h] at hm
  exact ⟨a, by unfold kN; omega⟩
theorem kN_ix {n : Nat} (hn0 : 1 ≤ n) (hn : n ≤ 7) : cnt (lk 4 n) (4 ^ n) = kN n := by
  have b := FL_len hn0 hn (show 1 ≤ 4 by decide) (by decide)
  rw [FL_4] at b
  exact b.symm
theorem nI_bf (c : Nat) : nI c + bI false = nI c := by
  show nI c + 0 = nI c
  rw [Int32.add_zero]
def inS (σ : Sg) (f : Nat → Nat) (n : Nat) : Nat → Bool := allB (fun c => decide (num f n c ≤ sK σ c))
theorem inS_hsB {σ : Sg} {f : Nat → Nat} {n : Nat} : inS σ f n 4 = (hsB σ f n == 4) := by
  have hl := fnd_le (fun c => decide (sK σ c < num f n c)) 4 0
  rw [Bool.eq_iff_iff, beq_iff_eq]
  unfold inS hsB
  rw [allB_iff]
  constructor
  · intro h
    refine fnd_eq (Nat.zero_le _) (by omega) (fun c _ c4 => decide_eq_false ?_) (Or.inl (by omega))
    have := of_decide_eq_true (h c c4)
    omega
  · intro h c c4
    have := fnd_all (q := fun c => decide (sK σ c < num f n c)) (k := 4) (s := 0) (by rw [h]) c (Nat.zero_le _) (by omega)
    refine decide_eq_true ?_
    have := of_decide_eq_false this
    omega
section
variable {d : Nat} {h0 h : am_H} {Q : Option Value → am_H → Prop} {F : Nat → Int32} {A : Nat → Nat → Int32} {R : Nat → Int64} {M : Ms} {n : Nat} {f : Nat → Nat} {σ : Sg}
theorem M_isInStock (W : RM h0 h F A R) (hL : LK F A f n) (hS : RSm (A 154) σ) (hs : Sok σ) (hQ : Q (some (.int (bI (hsB σ f n == 4)))) h) : am_call (d + 3) 291 [.ref 152] h Q := by
  have hn := hL.2.2.1
  have hfit : ∀ b : Bool, bI b = 0 ∨ bI b = 1 := fun b => by cases b <;> simp [bI]
  rw [← inS_hsB] at hQ
  refine en_X11_isInStock (Nat.le_of_ble_eq_true rfl) (am_run (am_cK _) 4 ?_)
  refine am_loopC (fun i => (4, [some (.ref 152), some (.int (bI (inS σ f n i))), some (.int (nI i))], [], 0, 0)) 4 (fun i hi K => ?_) ?_ 0 (Nat.zero_le _)
  · refine am_run (am_cK _) 3 (pk_le 4 i (fun c => by omega) (fun _ => ?_))
    have hnl := num_le f n i
    have hk := hs.2.2.1 i hi
    have e : inS σ f n (i + 1) = (inS σ f n i && decide (num f n i ≤ sK σ i)) := rfl
    rw [e, nI_succ i] at K
    cases hb : inS σ f n i with
    | false =>
      rw [hb, Bool.false_and] at K
      exact am_run (am_cK _) 2 (⟨fun _ => am_run (am_cK _) 4 (K), fun z => absurd rfl z⟩)
    | true =>
      rw [hb, Bool.true_and] at K
      refine am_run (am_cK _) 2 (⟨fun z => absurd z n10, fun _ => ?_⟩)
      refine am_run (am_cK _) 3 (am_obj_in W.o ((M_ofLook W hL (by omega) ?_)))
      refine am_run (am_cK _) 2 (am_obj_in W.o (am_run (am_cK _) 4 (am_ld W.a154 (55 + i) (by omega) ?_ (st_ix i))))
      rw [st_ix i, nI_clamp (by omega), hS.2.2.1 i hi]
      refine am_run (am_cK _) 1 (pk_lt (sK σ i) (num f n i) (fun c => ?_) (fun c => ?_))
      · rw [decide_eq_false (by omega)] at K
        exact am_run (am_cK _) 4 (K)
      · rw [decide_eq_true c] at K
        exact am_run (am_cK _) 5 (K)
  · exact am_run (am_cK _) 3 (pk_le 4 4 (fun _ => am_run (am_cK _) 2 (⟨hfit _, hQ⟩)) (fun c => by omega))
theorem Z_made (hY : RY h M) (n : Int32) (hQ : ∀ h', Fy h h' → RY h' (oMade M n).2 → Q (some (.int (oMade M n).1)) h') : am_call (d + 20) 292 [.ref 152, .int n] h Q := by
  obtain ⟨F, A, R, W, iv⟩ := hY
  have hs := iv.s.2
  unfold oMade at hQ
  refine en_X11_made (Nat.le_of_ble_eq_true rfl) ?_
  refine am_run (am_cK _) 3 (am_putI W rfl (by decide) (fun h1 W1 => ?_))
  refine am_run (am_cK _) 5 (M_inN n 1 7 (by omega) (by omega) (fun N N1 N7 e => ?_) (fun c => ?_))
  rotate_left
  · replace c : n < 1 ∨ 7 < n := c
    rw [if_pos c] at hQ
    exact am_run (am_cK _) 1 (⟨fun z => absurd rfl z, fun _ => am_run (am_cK _) 2 (hQ h1 W1.y ⟨_, _, _, W1.re, iv⟩)⟩)
  subst e
  rw [if_neg (by
    rintro (z | z)
    · exact nI_nlt (a := N) (b := 1) N1 (by omega) z
    · exact nI_nlt (a := 7) (b := N) N7 (by omega) z), nI_clamp (by omega), ← kN_ix N1 N7] at hQ
  have hpw := pw_le (show 4 ≤ 4 by decide) N7
  have hkn := kN_le N1 N7
  refine am_run (am_cK _) 1 (⟨fun _ => ?_, fun z => absurd n10 z⟩)
  refine am_run (am_cK _) 5 (am_putI W1 rfl (by decide) (fun h2 W2 => ?_))
  refine am_run (am_cK _) 2 (show am_wp (am_call (d + 19)) (0, 0) cm_X11_made Q (fun _ => False) (28, [some (.ref 152), some (.int (nI N)), some (.int (nI (cnt (hasK (mS M) N) (cnt (lk 4 N) 0)))), some (.int (nI 0)), none], [], 0, 0) h2 from ?_)
  refine am_lp (α := (Int32 × (Nat → Int32)) × (Nat → Int64) × Option Value) (fun s x => (28, [some (.ref 152), some (.int (nI N)), some (.int (nI (cnt (hasK (mS M) N) (cnt (lk 4 N) s)))), some (.int (nI s)), x.2.2], [], 0, 0)) (fun s x h' => RM h h' (upd (upd (upd F 0 0) 1 (nI (mdD M N (cnt (lk 4 N) s)).1)) 13 x.1.1) (va_up A 158 x.1.2) x.2.1 ∧ ∀ i, i < (mdD M N (cnt (lk 4 N) s)).1 → x.2.1 i = ((mdD M N (cnt (lk 4 N) s)).2 i).toInt64) (4 ^ N) (fun s x h3 hs3 P K => ?_) (fun x h3 P => ?_) 0 ((F 13, A 158), R, none) h2 (Nat.zero_le _) ⟨by rw [upd_same (F := upd (upd F 0 0) 1 _) (i := 13) (x := F 13) rfl, va_same rfl]; exact W2, fun i hi => absurd hi (Nat.not_lt_zero i)⟩
  · obtain ⟨⟨x1, g1⟩, R1, v⟩ := x
    obtain ⟨W3, p3⟩ := P
    replace W3 : RM h h3 (upd (upd (upd F 0 0) 1 (nI (mdD M N (cnt (lk 4 N) s)).1)) 13 x1) (va_up A 158 g1) R1 := W3
    replace p3 : ∀ i, i < (mdD M N (cnt (lk 4 N) s)).1 → R1 i = ((mdD M N (cnt (lk 4 N) s)).2 i).toInt64 := p3
    have hci := cnt_i (lk 4 N) s
    have hch := cnt_i (hasK (mS M) N) (cnt (lk 4 N) s)
    refine am_run (am_cK _) 5 (M_powerE (k := 4) (m := N) (by omega) (by omega) (by omega) ?_)
    refine am_run (am_cK _) 2 (lk_ge (by omega) (by omega) (fun c => by omega) (fun _ => ?_))
    refine am_run (am_cK _) 5 (am_obj_in W3.o ((M_laysLook (k := 4) (n := N) (s := s) W3 N1 (by omega) (by omega) (by omega) (by omega) (fun h4 g4 W4 hL => ?_))))
    rw [upd_upd, va_up2] at W4 hL
    refine am_run (am_cK _) 2 (am_obj_in W4.o ((M_isInStock (σ := mS M) W4 hL iv.s.1 hs ?_)))
    -- nothing is counted
    have no : (lk 4 N s = true → hasK (mS M) N (cnt (lk 4 N) s) = false) → am_wp (am_call (d + 19)) (0, 0) cm_X11_made Q (fun _ => False) (64, [some (.ref 152), some (.int (nI N)), some (.int (nI (cnt (hasK (mS M) N) (cnt (lk 4 N) s)))), some (.int (nI s)), v], [], 0, 0) h4 := fun hh => by
      have e1 : cnt (hasK (mS M) N) (cnt (lk 4 N) (s + 1)) = cnt (hasK (mS M) N) (cnt (lk 4 N) s) := by
        cases hp : lk 4 N s with
        | false => rw [cnt_f hp]
        | true => rw [cnt_t hp, cnt_f (hh hp)]
      have em : mdD M N (cnt (lk 4 N) (s + 1)) = mdD M N (cnt (lk 4 N) s) := by
        unfold mdD
        rw [e1]
      have K2 := K ((nI N, g4), R1, some (.int 0)) h4 ⟨by rw [em]; exact W4, by rw [em]; exact p3⟩
      rw [e1, nI_succ s, ← nI_bf (cnt (hasK (mS M) N) (cnt (lk 4 N) s))] at K2
      exact am_run (am_cK _) 4 (⟨fun _ => am_run (am_cK _) 3 (M_flag false (am_run (am_cK _) 4 (K2))), fun z => absurd rfl z⟩)
    cases hh : hsB (mS M) (dgk 4 s N) N == 4 with
    | false =>
      refine am_run (am_cK _) 1 (⟨fun _ => no (fun hp => ?_), fun z => absurd rfl z⟩)
      unfold hasK
      rw [(kR_ix N1 N7 hs3 hp).1]
      exact hh
    | true =>
      refine am_run (am_cK _) 1 (⟨fun z => absurd z n10, fun _ => ?_⟩)
      refine am_run (am_cK _) 2 (am_obj_in W4.o ((M_isLeast W4 hL ?_)))
      rw [lk_isL N1 (by omega) (by omega)]
      cases hp : lk 4 N s with
      | false => exact am_run (am_cK _) 1 (⟨fun _ => no (fun w => by rw [hp] at w; cases w), fun z => absurd rfl z⟩)
      | true =>
        have hk := kR_ix N1 N7 hs3 hp
        have hH : hasK (mS M) N (cnt (lk 4 N) s) = true := by
          unfold hasK
          rw [hk.1]
          exact hh
        refine am_run (am_cK _) 1 (⟨fun z => absurd z n10, fun _ => ?_⟩)
        refine am_run (am_cK _) 5 (⟨fun z => absurd z n10, fun _ => ?_⟩)
        by_cases c0 : cnt (hasK (mS M) N) (cnt (lk 4 N) s) = 0
        · have ef : fnd (hasK (mS M) N) 0 (kN N) = cnt (lk 4 N) s := fnd_eq (Nat.zero_le _) (by omega) (fun q _ hq => cnt_z c0 q hq) (Or.inr hH)
          have em : mdD M N (cnt (lk 4 N) (s + 1)) = (N, fun x => nI (dg s N x)) := by
            unfold mdD
            rw [cnt_t hp, cnt_t hH, if_neg (by omega), ef, hk.1]
          refine am_run (am_cK _) 2 (⟨fun w => absurd (show nI (cnt (hasK (mS M) N) (cnt (lk 4 N) s)) = 0 by rw [c0]; rfl) w, fun _ => ?_⟩)
          refine am_run (am_cK _) 2 (am_obj_in W4.o ((M_entersLook W4 hL (fun h5 R5 W5 hR => ?_))))
          rw [upd_sw (i := 13) (j := 1) (by decide), upd_upd] at W5
          have K2 := K ((nI N, g4), R5, some (.int 1)) h5 ⟨by rw [em]; exact W5, by rw [em]; exact hR⟩
          rw [cnt_t hp, cnt_bI, hH, nI_succ s] at K2
          exact am_run (am_cK _) 3 (M_flag true (am_run (am_cK _) 4 (K2)))
        · have em : mdD M N (cnt (lk 4 N) (s + 1)) = mdD M N (cnt (lk 4 N) s) := by
            unfold mdD
            rw [cnt_t hp, cnt_t hH, if_neg (by omega), if_neg c0]
          have K2 := K ((nI N, g4), R1, some (.int 1)) h4 ⟨by rw [em]; exact W4, by rw [em]; exact p3⟩
          rw [cnt_t hp, cnt_bI, hH, nI_succ s] at K2
          exact am_run (am_cK _) 2 (⟨fun _ => am_run (am_cK _) 3 (M_flag true (am_run (am_cK _) 4 (K2))), fun w => absurd (fun e => c0 ((nI_eq (b := 0) (by omega) (by omega)).mp e)) w⟩)
  · obtain ⟨⟨x1, g1⟩, R1, v⟩ := x
    obtain ⟨W3, p3⟩ := P
    replace W3 : RM h h3 (upd (upd (upd F 0 0) 1 (nI (mdD M N (cnt (lk 4 N) (4 ^ N))).1)) 13 x1) (va_up A 158 g1) R1 := W3
    replace p3 : ∀ i, i < (mdD M N (cnt (lk 4 N) (4 ^ N))).1 → R1 i = ((mdD M N (cnt (lk 4 N) (4 ^ N))).2 i).toInt64 := p3
    have h16 : (mdD M N (cnt (lk 4 N) (4 ^ N))).1 ≤ 16 := by
      unfold mdD
      split
      · exact Nat.zero_le _
      · show N ≤ 16
        omega
    refine am_run (am_cK _) 5 (M_powerE (k := 4) (m := N) (by omega) (by omega) (by omega) ?_)
    exact am_run (am_cK _) 2 (lk_ge (by omega) (by omega) (fun _ => am_run (am_cK _) 2 (hQ h3 W3.y ⟨_, _, _, W3.re, iv.s, iv.u, iv.k, iv.t, ⟨rfl, h16, p3⟩, iv.f, iv.hr, iv.l⟩)) (fun c => by omega))
end
