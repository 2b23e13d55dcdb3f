theorem so_sw : ∀ i, i < 4 → am_tsw 1 69 0 2 #[27, 41, 55] (nI i) = [28, 42, 56, 70].getD i 0 := by decide +kernel
section
variable {d : Nat} {h0 h : am_H} {Q : Option Value → am_H → Prop} {F : Nat → Int32} {A : Nat → Nat → Int32} {R : Nat → Int64} {M : Ms} {f : Nat → Nat} {n : Nat}
theorem M_clasps (W : RM h0 h F A R) (hL : LK F A f n) {C : Nat × (Nat → Nat) × (Nat → Nat)} (hF : IF (F 33) (A 172) (A 173) C) (hQ : Q (some (.int (nI (bts (rLp C.2.1 C.2.2 C.1 f n) n)))) h) : am_call (d + 1) 297 [.ref 152] h Q := by
  obtain ⟨hl, hn0, hn, hg, hf⟩ := hL
  obtain ⟨f1, f2, f3⟩ := hF
  refine en_X11_clasps (Nat.le_of_ble_eq_true rfl) (am_run (am_cK _) 4 ?_)
  refine am_loopP (α := Option Value × Option Value) (fun k x => (4, [some (.ref 152), some (.int (nI (bts (rLp C.2.1 C.2.2 C.1 f n) k))), some (.int (nI k)), x.1, x.2], [], 0, 0)) (fun _ _ => True) n (fun k x hk _ K => ?_) (fun x _ => ?_) 0 (none, none) (Nat.zero_le _) trivial
  · obtain ⟨x1, x2⟩ := x
    refine am_run (am_cK _) 3 (am_obj_in W.o (am_run (am_cK _) 1 (pk_le n k (fun c => by omega) (fun _ => ?_) (hx := hl))))
    refine am_run (am_cK _) 4 (show am_wp (am_call d) (0, 0) cm_X11_clasps Q (fun _ => False) (17, [some (.ref 152), some (.int (nI (bts (rLp C.2.1 C.2.2 C.1 f n) k))), some (.int (nI k)), some (.int (bI true)), some (.int (nI 0))], [], 0, 0) h from ?_)
    refine am_loopC (fun i => (17, [some (.ref 152), some (.int (nI (bts (rLp C.2.1 C.2.2 C.1 f n) k))), some (.int (nI k)), some (.int (bI (allB (fun i => rol f n k (C.2.1 i % n) == C.2.2 i) i))), some (.int (nI i))], [], 0, 0)) C.1 (fun i hi K2 => ?_) ?_ 0 (Nat.zero_le _)
    · refine am_run (am_cK _) 3 (am_obj_in W.o (am_run (am_cK _) 1 (pk_le C.1 i (fun c => by omega) (fun _ => ?_) (hx := f1))))
      rw [allB, nI_succ i] at K2
      cases hb : allB (fun i => rol f n k (C.2.1 i % n) == C.2.2 i) i with
      | false =>
        rw [hb, Bool.false_and] at K2
        exact am_run (am_cK _) 2 (⟨fun _ => am_run (am_cK _) 4 (K2), fun c => absurd rfl c⟩)
      | true =>
        rw [hb, Bool.true_and] at K2
        have fi := f3 i hi
        have m1 : (k + C.2.1 i) % n < n := Nat.mod_lt _ hn0
        refine am_run (am_cK _) 2 (⟨fun c => absurd c n10, fun _ => ?_⟩)
        refine am_run (am_cK _) 2 (am_obj_in W.o (am_run (am_cK _) 3 (am_obj_in W.o (am_run (am_cK _) 2 (am_ld W.a172 i (by omega) ?_)))))
        rw [nI_clamp (by omega), fi.1]
        refine am_run (am_cK _) 3 (am_obj_in W.o (am_run (am_cK _) 1 ?_))
        rw [hl, nI_add]
        refine ⟨nI_ne0 hn0 (by omega), ?_⟩
        rw [show nI (k + C.2.1 i) - nI (k + C.2.1 i) / nI n * nI n = nI ((k + C.2.1 i) % n) from pk_rem (by omega) hn0 (by omega)]
        refine am_run (am_cK _) 1 (am_ld W.a158 ((k + C.2.1 i) % n) (by omega) ?_)
        rw [nI_clamp (by omega), hg _ m1]
        refine am_run (am_cK _) 2 (am_obj_in W.o (am_run (am_cK _) 2 (am_ld W.a173 i (by omega) ?_)))
        rw [nI_clamp (by omega), fi.2.1]
        have g1 := hf _ m1
        have er : rol f n k (C.2.1 i % n) = f ((k + C.2.1 i) % n) := by
          show f ((C.2.1 i % n + k) % n) = _
          rw [Nat.mod_add_mod, Nat.add_comm]
        rw [er] at K2
        refine am_run (am_cK _) 1 (⟨fun c => ?_, fun c => ?_⟩)
        · rw [show (f ((k + C.2.1 i) % n) == C.2.2 i) = false from beq_eq_false_iff_ne.mpr (fun z => c (congrArg nI z))] at K2
          exact am_run (am_cK _) 4 (K2)
        · rw [show (f ((k + C.2.1 i) % n) == C.2.2 i) = true by rw [beq_iff_eq]; exact (nI_eq (by omega) (by omega)).mp (Classical.not_not.mp c)] at K2
          exact am_run (am_cK _) 5 (K2)
    · refine am_run (am_cK _) 3 (am_obj_in W.o (am_run (am_cK _) 1 (pk_le C.1 C.1 (fun _ => ?_) (fun c => by omega) (hx := f1))))
      rw [show allB (fun i => rol f n k (C.2.1 i % n) == C.2.2 i) C.1 = rLp C.2.1 C.2.2 C.1 f n k from rfl]
      have K3 := K (some (.int (bI (rLp C.2.1 C.2.2 C.1 f n k))), some (.int (nI C.1))) trivial
      simp only at K3
      rw [← or_bit (by omega), nI_succ k] at K3
      cases hb : rLp C.2.1 C.2.2 C.1 f n k with
      | false =>
        rw [hb] at K3
        exact am_run (am_cK _) 3 (⟨fun _ => am_run (am_cK _) 5 (K3), fun c => absurd rfl c⟩)
      | true =>
        rw [hb] at K3
        exact am_run (am_cK _) 3 (⟨fun c => absurd c n10, fun _ => am_run (am_cK _) 8 (K3)⟩)
  · exact am_run (am_cK _) 3 (am_obj_in W.o (am_run (am_cK _) 1 (pk_le n n (fun _ => am_run (am_cK _) 2 (hQ)) (fun c => by omega) (hx := hl))))
theorem Z_guess (hY : RY h M) (b : Int32) (hQ : ∀ h', Fy h h' → RY h' (oGuess M b).2 → Q (some (.int (oGuess M b).1)) h') : am_call (d + 20) 298 [.ref 152, .int b] h Q := by
  obtain ⟨F, A, R, W, iv⟩ := hY
  have hs := iv.s.2
  have hN := hs.1
  unfold oGuess at hQ
  refine en_X11_guess (Nat.le_of_ble_eq_true rfl) ?_
  refine am_run (am_cK _) 3 (am_putI W rfl (by decide) (fun h1 W1 => ?_))
  refine am_run (am_cK _) 3 (am_obj_in W1.o ((M_isRing W1 iv.s.1.1 hN b (fun j hj e => ?_) (fun c => ?_))))
  · subst e
    rw [if_neg (S_no hs hj), nI_clamp (by omega)] at hQ
    have hz := hs.2.1 j hj
    have hr := iv.s.1.2.2.2 j hj
    unfold oGuessN at hQ
    refine am_run (am_cK _) 1 (⟨fun _ => ?_, fun z => absurd n10 z⟩)
    refine am_run (am_cK _) 3 (am_obj_in W1.o (am_run (am_cK _) 2 (am_obj_in W1.o ((M_looksAt W1 (Or.inl rfl) (by omega) (by omega) hz.2.1 hr.1 hr.2 hz.2.2 (fun h2 g W2 hL => ?_))))))
    refine am_run (am_cK _) 2 (am_obj_in W2.o ((M_clasps W2 hL iv.f ?_)))
    rw [show bts (rLp (mF M).2.1 (mF M).2.2 (mF M).1 (sB (mS M) j) (sZ (mS M) j)) (sZ (mS M) j) = mRb M j from rfl]
    refine am_run (am_cK _) 4 (am_putI W2 rfl (by decide) (fun h3 W3 => ?_))
    refine am_run (am_cK _) 3 (J_bitCount _ ?_)
    rw [show bcI (nI (mRb M j)) = nI (cnt (mRL M j) (sZ (mS M) j)) from bc_bts (mRL M j) hz.2.1]
    refine am_run (am_cK _) 2 (am_obj_in W3.o ((M_enters W3 (m := 0) rfl (by omega) _ (fun h4 W4 => ?_))))
    refine am_run (am_cK _) 6 (am_obj_in W4.o ((M_enters W4 (m := 1) rfl (by omega) _ (fun h5 W5 => ?_))))
    refine am_run (am_cK _) 2 (hQ h5 W5.y ⟨_, _, _, W5.re, iv.s, iv.u, iv.k, iv.t, ⟨rfl, by show 2 ≤ 16; omega, fun i hi => i_lt2 (P := fun q => vp_updL (vp_updL R 0 (nI (cnt (mRL M j) (sZ (mS M) j))).toInt64) 1 (nI (mRb M j) &&& 1).toInt64 q = (w2 (nI (cnt (mRL M j) (sZ (mS M) j))) (nI (mRb M j % 2)) q).toInt64) hi rfl ?_⟩, iv.f, iv.hr, iv.l⟩)
    show (nI (mRb M j) &&& 1).toInt64 = (nI (mRb M j % 2)).toInt64
    rw [show nI (mRb M j) &&& 1 = nI (mRb M j % 2) from q_andM (mRb M j) 1]
  · rw [if_pos c] at hQ
    exact am_run (am_cK _) 1 (⟨fun z => absurd rfl z, fun _ => am_run (am_cK _) 2 (hQ h1 W1.y ⟨_, _, _, W1.re, iv⟩)⟩)
theorem Z_feels (hY : RY h M) (b : Int32) (hQ : ∀ h', Fy h h' → RY h' (oFeels M b).2 → Q (some (.int (oFeels M b).1)) h') : am_call (d + 20) 299 [.ref 152, .int b] h Q := by
  obtain ⟨F, A, R, W, iv⟩ := hY
  have hs := iv.s.2
  have hN := hs.1
  unfold oFeels at hQ
  refine en_X11_feels (Nat.le_of_ble_eq_true rfl) ?_
  refine am_run (am_cK _) 3 (am_putI W rfl (by decide) (fun h1 W1 => ?_))
  refine am_run (am_cK _) 3 (am_obj_in W1.o ((M_isRing W1 iv.s.1.1 hN b (fun j hj e => ?_) (fun c => ?_))))
  · subst e
    rw [if_neg (S_no hs hj), nI_clamp (by omega)] at hQ
    have hz := hs.2.1 j hj
    have hr := iv.s.1.2.2.2 j hj
    have hb : mRb M j < 2 ^ 10 := Nat.lt_of_lt_of_le (bts_lt _ _) (Nat.pow_le_pow_right (by decide) hz.2.1)
    unfold oFeelsN at hQ
    refine am_run (am_cK _) 1 (⟨fun _ => ?_, fun z => absurd n10 z⟩)
    refine am_run (am_cK _) 3 (am_obj_in W1.o (am_run (am_cK _) 2 (am_obj_in W1.o ((M_looksAt W1 (Or.inl rfl) (by omega) (by omega) hz.2.1 hr.1 hr.2 hz.2.2 (fun h2 g W2 hL => ?_))))))
    refine am_run (am_cK _) 2 (am_obj_in W2.o ((M_clasps W2 hL iv.f ?_)))
    rw [show bts (rLp (mF M).2.1 (mF M).2.2 (mF M).1 (sB (mS M) j) (sZ (mS M) j)) (sZ (mS M) j) = mRb M j from rfl]
    obtain ⟨hl, hn0, hn, hg, hf⟩ := id hL
    generalize hLL : mRb M j = L at *
    generalize hff : sB (mS M) j = f at *
    generalize hnn : sZ (mS M) j = n at *
    refine am_run (am_cK _) 3 (⟨fun c => ?_, fun c => ?_⟩)
    · rw [if_neg (fun z => c (by rw [z]; rfl))] at hQ
      refine am_run (am_cK _) 6 (show am_wp (am_call (d + 19)) (0, 0) cm_X11_feels Q (fun _ => False) (46, [some (.ref 152), some (.int (nI j)), some (.int (nI L)), some (.int (-1)), some (.int (nI 1000000)), some (.int (nI 0)), none, none, none, none], [], 0, 0) h2 from ?_)
      refine am_loopP (α := (Int32 × Nat) × Option Value × Option Value × Option Value × Option Value) (fun p x => (46, [some (.ref 152), some (.int (nI j)), some (.int (nI L)), some (.int x.1.1), some (.int (nI x.1.2)), some (.int (nI p)), x.2.1, x.2.2.1, x.2.2.2.1, x.2.2.2.2], [], 0, 0)) (fun p x => (p = 0 ∧ x.1.1 = -1 ∧ x.1.2 = 1000000) ∨ (0 < p ∧ x.1.1 = nI (bM f n L p) ∧ x.1.2 = mLf f n L (bM f n L p))) n (fun p x hp P K => ?_) (fun x P => ?_) 0 ((-1, 1000000), none, none, none, none) (Nat.zero_le _) (Or.inl ⟨rfl, rfl, rfl⟩)
      · obtain ⟨⟨bs, ls⟩, x1, x2, x3, x4⟩ := x
        replace P : (p = 0 ∧ bs = -1 ∧ ls = 1000000) ∨ (0 < p ∧ bs = nI (bM f n L p) ∧ ls = mLf f n L (bM f n L p)) := P
        refine am_run (am_cK _) 3 (am_obj_in W2.o (am_run (am_cK _) 1 (pk_le n p (fun c => by omega) (fun _ => ?_) (hx := hl))))
        refine am_run (am_cK _) 4 (show am_wp (am_call (d + 19)) (0, 0) cm_X11_feels Q (fun _ => False) (61, [some (.ref 152), some (.int (nI j)), some (.int (nI L)), some (.int bs), some (.int (nI ls)), some (.int (nI p)), some (.int (nI 0)), some (.int (nI 0)), x3, x4], [], 0, 0) h2 from ?_)
        refine am_loopP (α := Option Value × Option Value) (fun c x => (61, [some (.ref 152), some (.int (nI j)), some (.int (nI L)), some (.int bs), some (.int (nI ls)), some (.int (nI p)), some (.int (nI (mxF (fun c => cnt (fun k => L.testBit k && rol f n k p == c) n) c))), some (.int (nI c)), x.1, x.2], [], 0, 0)) (fun _ _ => True) 4 (fun c x hc _ K2 => ?_) (fun x _ => ?_) 0 (x3, x4) (Nat.zero_le _) trivial
        · obtain ⟨y1, y2⟩ := x
          refine am_run (am_cK _) 3 (pk_le 4 c (fun c => by omega) (fun _ => ?_))
          refine am_run (am_cK _) 4 (show am_wp (am_call (d + 19)) (0, 0) cm_X11_feels Q (fun _ => False) (73, [some (.ref 152), some (.int (nI j)), some (.int (nI L)), some (.int bs), some (.int (nI ls)), some (.int (nI p)), some (.int (nI (mxF (fun c => cnt (fun k => L.testBit k && rol f n k p == c) n) c))), some (.int (nI c)), some (.int (nI 0)), some (.int (nI 0))], [], 0, 0) h2 from ?_)
          refine am_loopC (fun k => (73, [some (.ref 152), some (.int (nI j)), some (.int (nI L)), some (.int bs), some (.int (nI ls)), some (.int (nI p)), some (.int (nI (mxF (fun c => cnt (fun k => L.testBit k && rol f n k p == c) n) c))), some (.int (nI c)), some (.int (nI (cnt (fun k => L.testBit k && rol f n k p == c) k))), some (.int (nI k))], [], 0, 0)) n (fun k hk K3 => ?_) ?_ 0 (Nat.zero_le _)
          · refine am_run (am_cK _) 3 (am_obj_in W2.o (am_run (am_cK _) 1 (pk_le n k (fun c => by omega) (fun _ => ?_) (hx := hl))))
            rw [cnt, nI_succ k] at K3
            have zero : (L.testBit k && rol f n k p == c) = false → am_wp (am_call (d + 19)) (0, 0) cm_X11_feels Q (fun _ => False) (117, [some (.ref 152), some (.int (nI j)), some (.int (nI L)), some (.int bs), some (.int (nI ls)), some (.int (nI p)), some (.int (nI (mxF (fun c => cnt (fun k => L.testBit k && rol f n k p == c) n) c))), some (.int (nI c)), some (.int (nI (cnt (fun k => L.testBit k && rol f n k p == c) k))), some (.int (nI k))], [.int (nI (cnt (fun k => L.testBit k && rol f n k p == c) k))], 0, 0) h2 := fun e => by
              rw [e, if_neg (by decide), ← nI_add] at K3
              exact am_run (am_cK _) 2 (M_flag0 (am_run (am_cK _) 4 (K3)))
            refine am_run (am_cK _) 4 (M_has (by omega) (by omega) ?_)
            cases hb : L.testBit k with
            | false => exact am_run (am_cK _) 1 (⟨fun _ => zero (by rw [hb]; rfl), fun z => absurd rfl z⟩)
            | true =>
              have m1 : (k + p) % n < n := Nat.mod_lt _ hn0
              refine am_run (am_cK _) 1 (⟨fun z => absurd z n10, fun _ => ?_⟩)
              refine am_run (am_cK _) 2 (am_obj_in W2.o (am_run (am_cK _) 5 (am_obj_in W2.o (am_run (am_cK _) 1 ?_))))
              rw [hl, nI_add]
              refine ⟨nI_ne0 hn0 (by omega), ?_⟩
              rw [show nI (k + p) - nI (k + p) / nI n * nI n = nI ((k + p) % n) from pk_rem (by omega) hn0 (by omega)]
              refine am_run (am_cK _) 1 (am_ld W2.a158 ((k + p) % n) (by omega) ?_)
              rw [nI_clamp (by omega), hg _ m1]
              have g1 := hf _ m1
              have er : rol f n k p = f ((k + p) % n) := by show f ((p + k) % n) = _; rw [Nat.add_comm]
              refine am_run (am_cK _) 2 (⟨fun z => zero ?_, fun z => ?_⟩)
              · rw [hb, er, show (f ((k + p) % n) == c) = false from beq_eq_false_iff_ne.mpr (fun w => z (congrArg nI w))]; rfl
              · have e1 : (L.testBit k && rol f n k p == c) = true := by
                  rw [hb, er, show (f ((k + p) % n) == c) = true by rw [beq_iff_eq]; exact (nI_eq (by omega) (by omega)).mp (Classical.not_not.mp z)]
                  rfl
                rw [e1, if_pos rfl, nI_succ (cnt (fun k => L.testBit k && rol f n k p == c) k)] at K3
                exact am_run (am_cK _) 3 (M_flag1 (am_run (am_cK _) 4 (K3)))
          · refine am_run (am_cK _) 3 (am_obj_in W2.o (am_run (am_cK _) 1 (pk_le n n (fun _ => ?_) (fun c => by omega) (hx := hl))))
            have b1 : mxF (fun c => cnt (fun k => L.testBit k && rol f n k p == c) n) c ≤ n := mxF_le (fun c _ => cnt_le _ _)
            have b2 := cnt_le (fun k => L.testBit k && rol f n k p == c) n
            refine am_run (am_cK _) 3 (J_max (by omega) (by omega) ?_)
            have K4 := K2 (some (.int (nI (cnt (fun k => L.testBit k && rol f n k p == c) n))), some (.int (nI n))) trivial
            simp only at K4
            rw [mxF, nI_succ c] at K4
            exact am_run (am_cK _) 3 (K4)
        · obtain ⟨y1, y2⟩ := x
          refine am_run (am_cK _) 3 (pk_le 4 4 (fun _ => ?_) (fun c => by omega))
          rw [show mxF (fun c => cnt (fun k => L.testBit k && rol f n k p == c) n) 4 = mLf f n L p from rfl]
          have hml := mLf_le f n L p
          have hls : ls ≤ 1000000 := by
            rcases P with P | P
            · omega
            · have := mLf_le f n L (bM f n L p); omega
          refine am_run (am_cK _) 3 (pk_le ls (mLf f n L p) (fun c => ?_) (fun c => ?_))
          · rcases P with P | P
            · omega
            · refine am_run (am_cK _) 5 (J_min (a := ls) (b := mLf f n L p) (by omega) (by omega) ?_)
              rw [show Nat.min ls (mLf f n L p) = ls from Nat.min_eq_left c]
              have K4 := K ((bs, ls), some (.int (nI (mLf f n L p))), some (.int (nI 4)), y1, y2) (Or.inr ⟨by omega, by
                show bs = nI (bM f n L (p + 1))
                rw [bM, if_neg (by omega)]; exact P.2.1, by
                show ls = mLf f n L (bM f n L (p + 1))
                rw [bM, if_neg (by omega)]; exact P.2.2⟩)
              simp only at K4
              rw [nI_succ p] at K4
              exact am_run (am_cK _) 3 (K4)
          · have ei : bM f n L (p + 1) = p := by
              rcases P with P | P
              · obtain ⟨rfl, _, _⟩ := P
                rw [bM]; split <;> rfl
              · rw [bM, if_pos (by omega)]
            refine am_run (am_cK _) 6 (J_min (a := ls) (b := mLf f n L p) (by omega) (by omega) ?_)
            rw [show Nat.min ls (mLf f n L p) = mLf f n L p from Nat.min_eq_right (Nat.le_of_lt c)]
            have K4 := K ((nI p, mLf f n L p), some (.int (nI (mLf f n L p))), some (.int (nI 4)), y1, y2) (Or.inr ⟨by omega, by rw [ei], by rw [ei]⟩)
            simp only at K4
            rw [nI_succ p] at K4
            exact am_run (am_cK _) 3 (K4)
      · obtain ⟨⟨bs, ls⟩, x1, x2, x3, x4⟩ := x
        replace P : (n = 0 ∧ bs = -1 ∧ ls = 1000000) ∨ (0 < n ∧ bs = nI (bM f n L n) ∧ ls = mLf f n L (bM f n L n)) := P
        have P := P.resolve_left (by omega)
        refine am_run (am_cK _) 3 (am_obj_in W2.o (am_run (am_cK _) 1 (pk_le n n (fun _ => ?_) (fun c => by omega) (hx := hl))))
        refine am_run (am_cK _) 3 (am_putI W2 rfl (by decide) (fun h3 W3 => ?_))
        refine am_run (am_cK _) 4 (am_obj_in W3.o ((M_enters W3 (m := 0) rfl (by omega) _ (fun h4 W4 => ?_))))
        rw [← P.2.2, ← P.2.1] at hQ
        exact am_run (am_cK _) 2 (hQ h4 W4.y ⟨_, _, _, W4.re, iv.s, iv.u, iv.k, iv.t, ⟨rfl, by show 1 ≤ 16; omega, fun i hi => i_lt1 (P := fun q => vp_updL R 0 (nI ls).toInt64 q = (w1 (nI ls) q).toInt64) hi rfl⟩, iv.f, iv.hr, iv.l⟩)
    · rw [if_pos ((nI_eq (b := 0) (by omega) (by omega)).mp (Classical.not_not.mp c))] at hQ
      exact am_run (am_cK _) 2 (hQ h2 W2.y ⟨_, _, _, W2.re, iv⟩)
  · rw [if_pos c] at hQ
    exact am_run (am_cK _) 1 (⟨fun z => absurd rfl z, fun _ => am_run (am_cK _) 2 (hQ h1 W1.y ⟨_, _, _, W1.re, iv⟩)⟩)
theorem M_isSo (W : RM h0 h F A R) (hL : LK F A f n) {q v : Nat} (hq : q ≤ 3) (hv : v ≤ 9) (hQ : Q (some (.int (bI (iSo q v f n)))) h) : am_call (d + 4) 304 [.ref 152, .int (nI q), .int (nI v)] h Q := by
  obtain ⟨hl, hn0, hn, hg, hf⟩ := id hL
  refine en_X11_isSo (Nat.le_of_ble_eq_true rfl) ?_
  refine am_run (am_cK _) 2 (show am_wp (am_call (d + 3)) (0, 0) cm_X11_isSo Q (fun _ => False) (am_tsw 1 69 0 2 #[27, 41, 55] (nI q), [some (.ref 152), some (.int (nI q)), some (.int (nI v))], [], 0, 0) h from ?_)
  rw [so_sw q (by omega)]
  match q, hq, hQ with
  | 0, _, hQ =>
    refine am_run (am_cK _) 2 (am_obj_in W.o (am_run (am_cK _) 2 (pk_lt n v (fun c => ?_) (fun c => ?_) (hx := hl))))
    · rw [show iSo 0 v f n = false from decide_eq_false (by omega)] at hQ
      exact am_run (am_cK _) 2 (⟨Or.inl rfl, hQ⟩)
    · rw [show iSo 0 v f n = true from decide_eq_true c] at hQ
      exact am_run (am_cK _) 3 (⟨Or.inr rfl, hQ⟩)
  | 1, _, hQ =>
    have := num_le f n v
    refine am_run (am_cK _) 3 (am_obj_in W.o ((M_ofLook W hL (by omega) ?_)))
    refine am_run (am_cK _) 1 (pk_le (num f n v) 0 (fun c => ?_) (fun c => ?_))
    · rw [show iSo 1 v f n = false from decide_eq_false (by omega)] at hQ
      exact am_run (am_cK _) 2 (⟨Or.inl rfl, hQ⟩)
    · rw [show iSo 1 v f n = true from decide_eq_true c] at hQ
      exact am_run (am_cK _) 3 (⟨Or.inr rfl, hQ⟩)
  | 2, _, hQ =>
    have := per_in (f := f) hn0
    refine am_run (am_cK _) 2 (am_obj_in W.o ((M_period W hL ?_)))
    refine am_run (am_cK _) 2 (⟨fun c => ?_, fun c => ?_⟩)
    · rw [show iSo 2 v f n = false from beq_eq_false_iff_ne.mpr (fun z => c (congrArg nI z))] at hQ
      exact am_run (am_cK _) 2 (⟨Or.inl rfl, hQ⟩)
    · rw [show iSo 2 v f n = true by show (per f n == v) = true; rw [beq_iff_eq]; exact (nI_eq (by omega) (by omega)).mp (Classical.not_not.mp c)] at hQ
      exact am_run (am_cK _) 3 (⟨Or.inr rfl, hQ⟩)
  | 3, _, hQ =>
    have : mst f n ≤ n := mxA_le f n 4
    refine am_run (am_cK _) 2 (am_obj_in W.o ((M_mostOfOne W hL ?_)))
    refine am_run (am_cK _) 2 (pk_lt (mst f n) v (fun c => ?_) (fun c => ?_))
    · rw [show iSo 3 v f n = false from decide_eq_false (by omega)] at hQ
      exact am_run (am_cK _) 2 (⟨Or.inl rfl, hQ⟩)
    · rw [show iSo 3 v f n = true from decide_eq_true c] at hQ
      exact am_run (am_cK _) 3 (⟨Or.inr rfl, hQ⟩)
theorem M_fitting (W : RM h0 h F A R) (iv : Iv F A R M) (hQ : ∀ h' x g, RM h0 h' (upd F 13 x) (va_up A 158 g) R → Q (some (.int (nI (fTb M)))) h') : am_call (d + 5) 305 [.ref 152] h Q := by
  have hs := iv.s.2
  have hN := hs.1
  obtain ⟨f1, f2, f3⟩ := id iv.hr
  refine en_X11_fitting (Nat.le_of_ble_eq_true rfl) (am_run (am_cK _) 4 ?_)
  refine am_lp (α := (Int32 × (Nat → Int32)) × Option Value × Option Value) (fun b x => (4, [some (.ref 152), some (.int (nI (bts (fTp M) b))), some (.int (nI b)), x.2.1, x.2.2], [], 0, 0)) (fun b x h' => RM h0 h' (upd F 13 x.1.1) (va_up A 158 x.1.2) R) (sN (mS M)) (fun b x h1 hb W1 K => ?_) (fun x h1 W1 => ?_) 0 ((F 13, A 158), none, none) h (Nat.zero_le _) (by simp only; rw [upd_same rfl, va_same rfl]; exact W)
  · obtain ⟨⟨y, g1⟩, x1, x2⟩ := x
    replace W1 : RM h0 h1 (upd F 13 y) (va_up A 158 g1) R := W1
    have hz := hs.2.1 b hb
    have hr := iv.s.1.2.2.2 b hb
    refine am_run (am_cK _) 3 (am_obj_in W1.o (am_run (am_cK _) 2 (am_ld W1.a154 60 (by omega) ?_)))
    rw [pk_cl (x := 60) 60, show va_up A 158 g1 154 60 = nI (sN (mS M)) from iv.s.1.1]
    refine am_run (am_cK _) 1 (pk_le (sN (mS M)) b (fun c => by omega) (fun _ => ?_))
    refine am_run (am_cK _) 3 (am_obj_in W1.o (am_run (am_cK _) 2 (am_obj_in W1.o ((M_looksAt W1 (Or.inl rfl) (by omega) (by omega) hz.2.1 hr.1 hr.2 hz.2.2 (fun h2 g W2 hL => ?_))))))
    rw [upd_upd, va_up2] at W2 hL
    refine am_run (am_cK _) 4 (show am_wp (am_call (d + 4)) (0, 0) cm_X11_fitting Q (fun _ => False) (29, [some (.ref 152), some (.int (nI (bts (fTp M) b))), some (.int (nI b)), some (.int (bI true)), some (.int (nI 0))], [], 0, 0) h2 from ?_)
    refine am_loopC (fun i => (29, [some (.ref 152), some (.int (nI (bts (fTp M) b))), some (.int (nI b)), some (.int (bI (allB (fun i => iSo ((mH M).2.1 i) ((mH M).2.2 i) (sB (mS M) b) (sZ (mS M) b)) i))), some (.int (nI i))], [], 0, 0)) (mH M).1 (fun i hi K2 => ?_) ?_ 0 (Nat.zero_le _)
    · have fi := f3 i hi
      refine am_run (am_cK _) 3 (am_obj_in W2.o (am_run (am_cK _) 1 (pk_le (mH M).1 i (fun c => by omega) (fun _ => ?_) (hx := f1))))
      rw [allB, nI_succ i] at K2
      cases hb : allB (fun i => iSo ((mH M).2.1 i) ((mH M).2.2 i) (sB (mS M) b) (sZ (mS M) b)) i with
      | false =>
        rw [hb, Bool.false_and] at K2
        exact am_run (am_cK _) 2 (⟨fun _ => am_run (am_cK _) 4 (K2), fun c => absurd rfl c⟩)
      | true =>
        rw [hb, Bool.true_and] at K2
        refine am_run (am_cK _) 2 (⟨fun c => absurd c n10, fun _ => ?_⟩)
        refine am_run (am_cK _) 3 (am_obj_in W2.o (am_run (am_cK _) 2 (am_ld W2.a174 i (by omega) ?_)))
        rw [nI_clamp (by omega), show va_up A 158 g 174 i = nI ((mH M).2.1 i) from fi.1]
        refine am_run (am_cK _) 2 (am_obj_in W2.o (am_run (am_cK _) 2 (am_ld W2.a175 i (by omega) ?_)))
        rw [nI_clamp (by omega), show va_up A 158 g 175 i = nI ((mH M).2.2 i) from fi.2.1]
        refine am_run (am_cK _) 1 (am_obj_in W2.o ((M_isSo W2 hL fi.2.2.1 fi.2.2.2.1 ?_)))
        cases he : iSo ((mH M).2.1 i) ((mH M).2.2 i) (sB (mS M) b) (sZ (mS M) b) with
        | false =>
          rw [he] at K2
          exact am_run (am_cK _) 1 (⟨fun _ => am_run (am_cK _) 4 (K2), fun z => absurd rfl z⟩)
        | true =>
          rw [he] at K2
          exact am_run (am_cK _) 1 (⟨fun z => absurd z n10, fun _ => am_run (am_cK _) 5 (K2)⟩)
    · refine am_run (am_cK _) 3 (am_obj_in W2.o (am_run (am_cK _) 1 (pk_le (mH M).1 (mH M).1 (fun _ => ?_) (fun c => by omega) (hx := f1))))
      rw [show allB (fun i => iSo ((mH M).2.1 i) ((mH M).2.2 i) (sB (mS M) b) (sZ (mS M) b)) (mH M).1 = fTp M b from rfl]
      have K3 := K ((nI (sZ (mS M) b), g), some (.int (bI (fTp M b))), some (.int (nI (mH M).1))) h2 W2
      simp only at K3
      rw [← or_bit (by omega), nI_succ b] at K3
      cases hb : fTp M b with
      | false =>
        rw [hb] at K3
        exact am_run (am_cK _) 3 (⟨fun _ => am_run (am_cK _) 5 (K3), fun c => absurd rfl c⟩)
      | true =>
        rw [hb] at K3
        exact am_run (am_cK _) 3 (⟨fun c => absurd c n10, fun _ => am_run (am_cK _) 8 (K3)⟩)
  · obtain ⟨⟨y, g1⟩, x1, x2⟩ := x
    replace W1 : RM h0 h1 (upd F 13 y) (va_up A 158 g1) R := W1
    refine am_run (am_cK _) 3 (am_obj_in W1.o (am_run (am_cK _) 2 (am_ld W1.a154 60 (by omega) ?_)))
    rw [pk_cl (x := 60) 60, show va_up A 158 g1 154 60 = nI (sN (mS M)) from iv.s.1.1]
    exact am_run (am_cK _) 1 (pk_le (sN (mS M)) (sN (mS M)) (fun _ => am_run (am_cK _) 2 (hQ h1 _ _ W1)) (fun c => by omega))
theorem Z_fits (hY : RY h M) (hQ : ∀ h', Fy h h' → RY h' (oFits M).2 → Q (some (.int (oFits M).1)) h') : am_call (d + 20) 306 [.ref 152] h Q := by
  obtain ⟨F, A, R, W, iv⟩ := hY
  have hN := iv.s.2.1
  refine en_X11_fits (Nat.le_of_ble_eq_true rfl) ?_
  refine am_run (am_cK _) 3 (am_putI W rfl (by decide) (fun h1 W1 => ?_))
  refine am_run (am_cK _) 2 (am_obj_in W1.o ((M_fitting W1 iv (fun h2 x g W2 => ?_))))
  refine am_run (am_cK _) 4 (am_putI W2 rfl (by decide) (fun h3 W3 => ?_))
  refine am_run (am_cK _) 3 (J_bitCount _ ?_)
  rw [show bcI (nI (fTb M)) = nI (cnt (fTp M) (sN (mS M))) from bc_bts (fTp M) (by omega)]
  refine am_run (am_cK _) 2 (am_obj_in W3.o ((M_enters W3 (m := 0) rfl (by omega) _ (fun h4 W4 => ?_))))
  exact am_run (am_cK _) 2 (hQ h4 W4.y ⟨_, _, _, W4.re, iv.s, iv.u, iv.k, iv.t, ⟨rfl, by show 1 ≤ 16; omega, fun i hi => i_lt1 (P := fun q => vp_updL R 0 (nI (cnt (fTp M) (sN (mS M)))).toInt64 q = (w1 (nI (cnt (fTp M) (sN (mS M)))) q).toInt64) hi rfl⟩, iv.f, iv.hr, iv.l⟩)
end
