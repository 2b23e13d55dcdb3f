theorem rol4 {f : Nat → Nat} {n p : Nat} (hn0 : 0 < n) (hf : ∀ i, i < n → f i < 4) (i : Nat) : rol f n p i < 4 := hf _ (Nat.mod_lt _ hn0)
theorem rk_all {f g : Nat → Nat} {w : Nat} (hf : ∀ i, i < w → f i < 4) (hg : ∀ i, i < w → g i < 4) : allB (fun k => f k == g k) w = (rk f w == rk g w) := by
  rw [Bool.eq_iff_iff, beq_iff_eq, allB_iff]
  exact ⟨fun h => rk_congr (fun i hi => eq_of_beq (h i hi)), fun h i hi => by rw [beq_iff_eq]; exact rk_inj hf hg h i hi⟩
def eqw (f : Nat → Nat) (n w p q : Nat) : Bool := rk (rol f n p) w == rk (rol f n q) w
theorem bI_fit (b : Bool) : bI b = 0 ∨ bI b = 1 := by cases b <;> simp [bI]
section
variable {d : Nat} {h0 h : am_H} {Q : Option Value → am_H → Prop} {F : Nat → Int32} {A : Nat → Nat → Int32} {R : Nat → Int64} {M : Ms} {f : Nat → Nat} {n : Nat}
theorem M_rem {x y : Int32} {a m : Nat} {K : Int32 → Prop} (ex : x = nI a) (ey : y = nI m) (ha : a < 2 ^ 31) (hm0 : 0 < m) (hm : m < 2 ^ 31) (H : K (nI (a % m))) : ¬ y = 0 ∧ K (x - x / y * y) := by
  subst ex ey
  refine ⟨nI_ne0 hm0 hm, ?_⟩
  rw [show nI a - nI a / nI m * nI m = nI (a % m) from pk_rem ha hm0 hm]
  exact H
theorem M_isWord (W : RM h0 h F A R) (hL : LK F A f n) {p q w : Nat} (hp : p < 20) (hq : q < 20) (hw : w ≤ 10) (hQ : Q (some (.int (bI (eqw f n w p q)))) h) : am_call (d + 1) 266 [.ref 152, .int (nI p), .int (nI q), .int (nI w)] h Q := by
  obtain ⟨hl, hn0, hn, hg, hf⟩ := hL
  have ea : eqw f n w p q = allB (fun k => rol f n p k == rol f n q k) w := (rk_all (fun i _ => rol4 hn0 hf i) (fun i _ => rol4 hn0 hf i)).symm
  rw [ea] at hQ
  refine en_X11_isWord (Nat.le_of_ble_eq_true rfl) (am_run (am_cK _) 4 ?_)
  refine am_loopC (fun i => (6, [some (.ref 152), some (.int (nI p)), some (.int (nI q)), some (.int (nI w)), some (.int (bI (allB (fun k => rol f n p k == rol f n q k) i))), some (.int (nI i))], [], 0, 0)) w (fun i hi K => ?_) ?_ 0 (Nat.zero_le _)
  · refine am_run (am_cK _) 3 (pk_le w i (fun c => by omega) (fun _ => ?_))
    rw [allB, nI_succ] at K
    cases hb : allB (fun k => rol f n p k == rol f n q k) i with
    | false =>
      rw [hb, Bool.false_and] at K
      exact am_run (am_cK _) 2 (⟨fun _ => am_run (am_cK _) 4 (K), fun c => absurd rfl c⟩)
    | true =>
      rw [hb, Bool.true_and] at K
      have m1 : (p + i) % n < n := Nat.mod_lt _ hn0
      have m2 : (q + i) % n < n := Nat.mod_lt _ hn0
      refine am_run (am_cK _) 2 (⟨fun c => absurd c n10, fun _ => ?_⟩)
      refine am_run (am_cK _) 2 (am_obj_in W.o (am_run (am_cK _) 5 (am_obj_in W.o (am_run (am_cK _) 1 ?_))))
      rw [hl, nI_add]
      refine ⟨nI_ne0 hn0 (by omega), ?_⟩
      rw [show nI (p + i) - nI (p + i) / nI n * nI n = nI ((p + i) % n) from pk_rem (by omega) hn0 (by omega)]
      refine am_run (am_cK _) 1 (am_ld W.a158 ((p + i) % n) (by omega) ?_)
      rw [nI_clamp (by omega), hg _ m1]
      refine am_run (am_cK _) 2 (am_obj_in W.o (am_run (am_cK _) 5 (am_obj_in W.o (am_run (am_cK _) 1 ?_))))
      rw [hl, nI_add]
      refine ⟨nI_ne0 hn0 (by omega), ?_⟩
      rw [show nI (q + i) - nI (q + i) / nI n * nI n = nI ((q + i) % n) from pk_rem (by omega) hn0 (by omega)]
      refine am_run (am_cK _) 1 (am_ld W.a158 ((q + i) % n) (by omega) ?_)
      rw [nI_clamp (by omega), hg _ m2]
      have f1 := hf _ m1
      have f2 := hf _ m2
      have er : ∀ a, rol f n a i = f ((a + i) % n) := fun a => by show f ((i + a) % n) = _; rw [Nat.add_comm]
      rw [er, er] at K
      refine am_run (am_cK _) 1 (⟨fun c => ?_, fun c => ?_⟩)
      · rw [show (f ((p + i) % n) == f ((q + i) % n)) = false from beq_eq_false_iff_ne.mpr (fun z => c (congrArg nI z))] at K
        exact am_run (am_cK _) 4 (K)
      · rw [show (f ((p + i) % n) == f ((q + i) % n)) = true by rw [beq_iff_eq]; exact (nI_eq (by omega) (by omega)).mp (Classical.not_not.mp c)] at K
        exact am_run (am_cK _) 5 (K)
  · exact am_run (am_cK _) 3 (pk_le w w (fun _ => am_run (am_cK _) 2 (⟨bI_fit _, hQ⟩)) (fun c => by omega))
theorem M_isSame (W : RM h0 h F A R) (hL : LK F A f n) {p w : Nat} (hp : p < 20) (hw : w ≤ 10) (hQ : Q (some (.int (bI (pal f n w p)))) h) : am_call (d + 1) 269 [.ref 152, .int (nI p), .int (nI w)] h Q := by
  obtain ⟨hl, hn0, hn, hg, hf⟩ := hL
  have ea : pal f n w p = allB (fun k => flp (rol f n p) w k == rol f n p k) w := (rk_all (fun i hi => rol4 hn0 hf _) (fun i _ => rol4 hn0 hf i)).symm
  rw [ea] at hQ
  refine en_X11_isSame (Nat.le_of_ble_eq_true rfl) (am_run (am_cK _) 4 ?_)
  refine am_loopC (fun i => (5, [some (.ref 152), some (.int (nI p)), some (.int (nI w)), some (.int (bI (allB (fun k => flp (rol f n p) w k == rol f n p k) i))), some (.int (nI i))], [], 0, 0)) w (fun i hi K => ?_) ?_ 0 (Nat.zero_le _)
  · refine am_run (am_cK _) 3 (pk_le w i (fun c => by omega) (fun _ => ?_))
    rw [allB, nI_succ] at K
    cases hb : allB (fun k => flp (rol f n p) w k == rol f n p k) i with
    | false =>
      rw [hb, Bool.false_and] at K
      exact am_run (am_cK _) 2 (⟨fun _ => am_run (am_cK _) 4 (K), fun c => absurd rfl c⟩)
    | true =>
      rw [hb, Bool.true_and] at K
      have m1 : (p + i) % n < n := Nat.mod_lt _ hn0
      have m2 : (p + w - 1 - i) % n < n := Nat.mod_lt _ hn0
      refine am_run (am_cK _) 2 (⟨fun c => absurd c n10, fun _ => ?_⟩)
      refine am_run (am_cK _) 2 (am_obj_in W.o (am_run (am_cK _) 5 (am_obj_in W.o (am_run (am_cK _) 1 ?_))))
      rw [hl, nI_add]
      refine ⟨nI_ne0 hn0 (by omega), ?_⟩
      rw [show nI (p + i) - nI (p + i) / nI n * nI n = nI ((p + i) % n) from pk_rem (by omega) hn0 (by omega)]
      refine am_run (am_cK _) 1 (am_ld W.a158 ((p + i) % n) (by omega) ?_)
      rw [nI_clamp (by omega), hg _ m1]
      refine am_run (am_cK _) 2 (am_obj_in W.o (am_run (am_cK _) 9 (am_obj_in W.o (am_run (am_cK _) 1 ?_))))
      rw [hl, nI_add p w, show nI (p + w) - 1 - nI i = nI (p + w - 1 - i) by rw [show nI (p + w) - 1 = nI (p + w - 1) from pk_sub (a := p + w) (b := 1) (by omega), pk_sub (by omega)]]
      refine ⟨nI_ne0 hn0 (by omega), ?_⟩
      rw [show nI (p + w - 1 - i) - nI (p + w - 1 - i) / nI n * nI n = nI ((p + w - 1 - i) % n) from pk_rem (by omega) hn0 (by omega)]
      refine am_run (am_cK _) 1 (am_ld W.a158 ((p + w - 1 - i) % n) (by omega) ?_)
      rw [nI_clamp (by omega), hg _ m2]
      have f1 := hf _ m1
      have f2 := hf _ m2
      have er : rol f n p i = f ((p + i) % n) := by show f ((i + p) % n) = _; rw [Nat.add_comm]
      have er2 : flp (rol f n p) w i = f ((p + w - 1 - i) % n) := by
        show f ((w - 1 - i + p) % n) = _
        rw [show w - 1 - i + p = p + w - 1 - i by omega]
      rw [er, er2] at K
      refine am_run (am_cK _) 1 (⟨fun c => ?_, fun c => ?_⟩)
      · rw [show (f ((p + w - 1 - i) % n) == f ((p + i) % n)) = false from beq_eq_false_iff_ne.mpr (fun z => c (congrArg nI z.symm))] at K
        exact am_run (am_cK _) 4 (K)
      · rw [show (f ((p + w - 1 - i) % n) == f ((p + i) % n)) = true by rw [beq_iff_eq]; exact ((nI_eq (by omega) (by omega)).mp (Classical.not_not.mp c)).symm] at K
        exact am_run (am_cK _) 5 (K)
  · exact am_run (am_cK _) 3 (pk_le w w (fun _ => am_run (am_cK _) 2 (⟨bI_fit _, hQ⟩)) (fun c => by omega))
theorem Z_arc (hY : RY h M) (b : Int32) (hQ : ∀ h', Fy h h' → RY h' (oArc M b).2 → Q (some (.int (oArc M b).1)) h') : am_call (d + 20) 270 [.ref 152, .int b] h Q := by
  obtain ⟨F, A, R, W, iv⟩ := hY
  have hs := iv.s.2
  have hN := hs.1
  unfold oArc at hQ
  refine en_X11_arc (Nat.le_of_ble_eq_true rfl) ?_
  refine am_run (am_cK _) 3 (am_putI W rfl (by decide) (fun h1 W1 => ?_))
  refine am_run (am_cK _) 3 (am_obj_in W1.o ((M_isRing W1 iv.s.1.1 hN b (fun j hj e => ?_) (fun c => ?_))))
  · subst e
    rw [if_neg (S_no hs hj), nI_clamp (by omega)] at hQ
    have hz := hs.2.1 j hj
    have hr := iv.s.1.2.2.2 j hj
    unfold oArcN at hQ
    refine am_run (am_cK _) 1 (⟨fun _ => ?_, fun z => absurd n10 z⟩)
    refine am_run (am_cK _) 3 (am_obj_in W1.o (am_run (am_cK _) 2 (am_obj_in W1.o ((M_looksAt W1 (Or.inl rfl) (by omega) (by omega) hz.2.1 hr.1 hr.2 hz.2.2 (fun h2 g W2 hL => ?_))))))
    have hl := hL.1
    generalize hf : sB (mS M) j = f at *
    generalize hn : sZ (mS M) j = n at *
    refine am_run (am_cK _) 2 (am_obj_in W2.o (show am_steps (am_call (d + 19)) (0, 0) cm_X11_arc Q (fun _ => False) (am_wp (am_call (d + 19)) (0, 0) cm_X11_arc Q (fun _ => False)) 0 (28, [some (.ref 152), some (.int (nI j)), none, none], [.int (nI n)], 0, 0) h2 from ?_))
    refine am_run (am_cK _) 3 (show am_wp (am_call (d + 19)) (0, 0) cm_X11_arc Q (fun _ => False) (31, [some (.ref 152), some (.int (nI j)), some (.int (nI n)), some (.int (nI 0))], [], 0, 0) h2 from ?_)
    have out : ∀ w i, i < n → pal f n w i = true → aD f n n = (w, i) → w ≤ n → am_wp (am_call (d + 19)) (0, 0) cm_X11_arc Q (fun _ => False) (31, [some (.ref 152), some (.int (nI j)), some (.int (nI w)), some (.int (nI i))], [], 0, 0) h2 := fun w i hi hp e hw => by
      rw [e] at hQ
      refine am_run (am_cK _) 4 (am_obj_in W2.o ((M_isSame W2 hL (by omega) (by omega) ?_)))
      rw [hp]
      refine am_run (am_cK _) 1 (⟨fun _ => ?_, fun z => absurd n10 z⟩)
      refine am_run (am_cK _) 3 (am_putI W2 rfl (by decide) (fun h3 W3 => ?_))
      refine am_run (am_cK _) 4 (am_obj_in W3.o ((M_enters W3 (m := 0) rfl (by omega) _ (fun h4 W4 => ?_))))
      exact am_run (am_cK _) 2 (hQ h4 W4.y ⟨_, _, _, W4.re, iv.s, iv.u, iv.k, iv.t, ⟨rfl, by show 1 ≤ 16; omega, fun i' hi' => i_lt1 (P := fun q => vp_updL R 0 (nI i).toInt64 q = (w1 (nI i) q).toInt64) hi' rfl⟩, iv.f, iv.hr, iv.l⟩)
    have main : ∀ w, 0 < w → w ≤ n → aD f n n = aD f n w → ∀ i, i < n → (∀ c, c < i → pal f n w c = false) → am_wp (am_call (d + 19)) (0, 0) cm_X11_arc Q (fun _ => False) (31, [some (.ref 152), some (.int (nI j)), some (.int (nI w)), some (.int (nI i))], [], 0, 0) h2 := by
      intro w
      induction w with
      | zero => intro h0; exact absurd h0 (Nat.lt_irrefl 0)
      | succ w ih =>
        intro _ hw e
        have one : w = 0 → pal f n (w + 1) 0 = true := fun z => by
          subst z
          unfold pal
          rw [beq_iff_eq]
          exact rk_congr (fun i hi => by
            have : i = 0 := by omega
            subst this
            rfl)
        have key : ∀ k i, i + k = n → 0 < k → (∀ c, c < i → pal f n (w + 1) c = false) → am_wp (am_call (d + 19)) (0, 0) cm_X11_arc Q (fun _ => False) (31, [some (.ref 152), some (.int (nI j)), some (.int (nI (w + 1))), some (.int (nI i))], [], 0, 0) h2 := by
          intro k
          induction k with
          | zero => intro i hi h0; exact absurd h0 (Nat.lt_irrefl 0)
          | succ k ihk =>
            intro i hi _ P
            have hin : i < n := by omega
            cases hp : pal f n (w + 1) i with
            | true =>
              refine out (w + 1) i hin hp ?_ hw
              have ef : fnd (pal f n (w + 1)) 0 n = i := fnd_eq (Nat.zero_le _) (by omega) (fun c _ c2 => P c c2) (Or.inr hp)
              rw [e, aD]
              by_cases w0 : w = 0
              · rw [if_pos w0]
                subst w0
                have : i = 0 := Nat.eq_zero_of_not_pos (fun z => by
                  have := P 0 z
                  rw [one rfl] at this
                  cases this)
                rw [this]
              · rw [if_neg w0, ef, if_pos hin]
            | false =>
              refine am_run (am_cK _) 4 (am_obj_in W2.o ((M_isSame W2 hL (by omega) (by omega) ?_)))
              rw [hp]
              refine am_run (am_cK _) 1 (⟨fun z => absurd rfl z, fun _ => ?_⟩)
              have P' : ∀ c, c < i + 1 → pal f n (w + 1) c = false := fun c hc => (if q : c = i then q ▸ hp else P c (by omega))
              have w0 : ¬ w = 0 := fun z => by
                have := P' 0 (by omega)
                rw [one z] at this
                cases this
              refine am_run (am_cK _) 5 (am_obj_in W2.o (am_run (am_cK _) 1 ⟨fun c => ?_, fun c => ?_⟩))
              · have c2 : ¬ i + 1 = n := fun z => c (by
                  show nI i + 1 = upd (upd F 0 0) 13 (nI n) 13
                  rw [nI_1, z]; rfl)
                refine am_run (am_cK _) 2 (M_flag0 ?_)
                refine am_run (am_cK _) 5 (am_obj_in W2.o (am_run (am_cK _) 1 (⟨nI_ne0 (n := n) (by omega) (by omega), ?_⟩)))
                have z2 := ihk (i + 1) (by omega) (by omega) P'
                refine am_run (am_cK _) 2 (show am_wp (am_call (d + 19)) (0, 0) cm_X11_arc Q (fun _ => False) (31, [some (.ref 152), some (.int (nI j)), some (.int (nI (w + 1) - 0)), some (.int (nI i + 1 - (nI i + 1) / nI n * nI n))], [], 0, 0) h2 from ?_)
                rw [nI_1, show nI (i + 1) - nI (i + 1) / nI n * nI n = nI ((i + 1) % n) from pk_rem (by omega) (by omega) (by omega), Nat.mod_eq_of_lt (by omega), show nI (w + 1) - 0 = nI (w + 1) from pk_sub (a := w + 1) (b := 0) (by omega)]
                exact z2
              · have c2 : i + 1 = n := by
                  have z : nI i + 1 = nI n := Classical.not_not.mp c
                  rw [nI_1] at z
                  exact (nI_eq (by omega) (by omega)).mp z
                refine am_run (am_cK _) 3 (M_flag1 ?_)
                refine am_run (am_cK _) 5 (am_obj_in W2.o (am_run (am_cK _) 1 (⟨nI_ne0 (n := n) (by omega) (by omega), ?_⟩)))
                have ef : fnd (pal f n (w + 1)) 0 n = n := fnd_eq (Nat.zero_le _) (by omega) (fun c _ cc => P' c (by omega)) (Or.inl (by omega))
                have e' : aD f n n = aD f n w := by
                  rw [e, aD, if_neg w0, ef, if_neg (by omega)]
                have z2 := ih (by omega) (by omega) e' 0 (by omega) (fun c hc => by omega)
                refine am_run (am_cK _) 2 (show am_wp (am_call (d + 19)) (0, 0) cm_X11_arc Q (fun _ => False) (31, [some (.ref 152), some (.int (nI j)), some (.int (nI (w + 1) - 1)), some (.int (nI i + 1 - (nI i + 1) / nI n * nI n))], [], 0, 0) h2 from ?_)
                rw [nI_1, show nI (i + 1) - nI (i + 1) / nI n * nI n = nI ((i + 1) % n) from pk_rem (by omega) (by omega) (by omega), c2, Nat.mod_self, nI_pred]
                exact z2
        exact fun i hi P => key (n - i) i (by omega) (by omega) P
    exact main n (by omega) (Nat.le_refl _) rfl 0 (by omega) (fun c hc => by omega)
  · rw [if_pos c] at hQ
    exact am_run (am_cK _) 1 (⟨fun z => absurd rfl z, fun _ => am_run (am_cK _) 2 (hQ h1 W1.y ⟨_, _, _, W1.re, iv⟩)⟩)
end
