/-! words of a bracelet -/
theorem bts_split (p : Nat → Bool) (n : Nat) : ∀ m, bts p (n + m) = bts p n + 2 ^ n * bts (fun i => p (n + i)) m
  | 0 => by rw [bts, Nat.mul_zero]; rfl
  | m + 1 => by
    rw [← Nat.add_assoc, bts, bts_split p n m, bts, Nat.mul_add, Nat.pow_add]
    split <;> omega
theorem bts_mod (p : Nat → Bool) {n i : Nat} (hi : i ≤ n) : bts p n % 2 ^ i = bts p i := by
  have e := bts_split p i (n - i)
  rw [show i + (n - i) = n by omega] at e
  rw [e, Nat.add_mul_mod_self_left, Nat.mod_eq_of_lt (bts_lt p i)]
theorem bts_div (p : Nat → Bool) {n i : Nat} (hi : i ≤ n) : bts p n / 2 ^ i = bts (fun j => p (i + j)) (n - i) := by
  have e := bts_split p i (n - i)
  rw [show i + (n - i) = n by omega] at e
  rw [e, Nat.add_mul_div_left _ _ (Nat.two_pow_pos i), Nat.div_eq_of_lt (bts_lt p i), Nat.zero_add]
theorem bts_0 (p : Nat → Bool) : ∀ n, bts p n = 0 ↔ ∀ j, j < n → p j = false
  | 0 => ⟨fun _ j hj => by omega, fun _ => rfl⟩
  | n + 1 => by
    rw [bts]
    have ih := bts_0 p n
    have hp := Nat.two_pow_pos n
    by_cases e : p n = true
    · rw [if_pos e]
      exact ⟨fun h => by omega, fun h => by have := h n (by omega); rw [e] at this; cases this⟩
    · rw [if_neg e, Nat.add_zero, ih]
      exact ⟨fun h j hj => (if q : j = n then q ▸ Bool.eq_false_iff.mpr e else h j (by omega)), fun h j hj => h j (by omega)⟩
def lowb (B : Nat) : Nat := fnd (fun i => B.testBit i) 0 10
theorem low_all : ∀ B, B < 1024 → 0 < B → (nI B ^^^ (-1)) &&& (nI B - 1) = nI (2 ^ lowb B - 1) ∧ lowb B < 10 := by decide +kernel
theorem fnd_congr {p q : Nat → Bool} : ∀ {k s : Nat}, (∀ c, s ≤ c → c < s + k → p c = q c) → fnd p s k = fnd q s k
  | 0, _, _ => rfl
  | k + 1, s, h => by
    rw [fnd, fnd, h s (by omega) (by omega), fnd_congr (fun c c1 c2 => h c (by omega) (by omega))]
theorem fnd_shift {p : Nat → Bool} {a : Nat} : ∀ {k s : Nat}, fnd (fun i => p (a + i)) s k + a = fnd p (a + s) k
  | 0, s => by show s + a = a + s; omega
  | k + 1, s => by
    rw [fnd, fnd]
    by_cases e : p (a + s) = true
    · rw [if_pos e, if_pos e]; omega
    · rw [if_neg e, if_neg e, fnd_shift (k := k) (s := s + 1)]; rfl
theorem lowb_bts {r : Nat → Bool} {m : Nat} (hm : m ≤ 10) (hx : fnd r 0 m < m) : lowb (bts r m) = fnd r 0 m := by
  refine fnd_eq (Nat.zero_le _) (by omega) (fun c _ c2 => ?_) (Or.inr ?_)
  · rw [bts_bit, fnd_no (Nat.zero_le _) c2, Bool.and_false]
  · rw [bts_bit, fnd_at (q := r) (k := m) (s := 0) (by omega), decide_eq_true hx]; rfl
section
variable {d : Nat} {h : am_H} {Q : Option Value → am_H → Prop} {M : Ms} {a b : Nat} {dr : Int32}
theorem J_ctz {r : Nat → Bool} {m : Nat} (hm : m ≤ 10) (hx : fnd r 0 m < m) (hQ : Q (some (.int (nI (fnd r 0 m)))) h) : am_call (d + 1) 322 [.int (nI (bts r m))] h Q := by
  have hB : bts r m < 1024 := Nat.lt_of_lt_of_le (bts_lt r m) (Nat.pow_le_pow_right (by decide) hm : 2 ^ m ≤ 2 ^ 10)
  have hB0 : 0 < bts r m := Nat.pos_of_ne_zero (fun z => by
    have := (bts_0 r m).mp z _ hx
    rw [fnd_at (q := r) (k := m) (s := 0) (by omega)] at this
    cases this)
  have la := low_all _ hB hB0
  rw [lowb_bts hm hx] at la
  generalize fnd r 0 m = c at *
  generalize bts r m = B at *
  refine en_J6_numberOfTrailingZeros_0f7a4 (Nat.le_of_ble_eq_true rfl) ?_
  refine am_run (am_cK _) 8 (show am_wp (am_call d) (0, 0) cm_J6_numberOfTrailingZeros_0f7a4 Q (fun _ => False) (8, [some (.int ((nI B ^^^ (-1)) &&& (nI B - 1))), none], [], 0, 0) h from ?_)
  rw [la.1]
  match c, la.2, hQ with
  | 0, _, hQ => exact am_run (am_cK _) 2 ⟨fun z => absurd (show (0 : Int32) < 0 from z) (by decide), fun _ => am_run (am_cK _) 4 (hQ)⟩
  | 1, _, hQ => exact am_run (am_cK _) 2 ⟨fun _ => am_run (am_cK _) 5 (pk_le 1 65536 (fun _ => am_run (am_cK _) 3 (pk_le 1 256 (fun _ => am_run (am_cK _) 3 (pk_le 1 16 (fun _ => am_run (am_cK _) 3 (pk_le 1 4 (fun _ => am_run (am_cK _) 6 (hQ)) (fun z => by omega))) (fun z => by omega))) (fun z => by omega))) (fun z => by omega)), fun z => absurd (show (0 : Int32) < nI 1 by decide) z⟩
  | 2, _, hQ => exact am_run (am_cK _) 2 ⟨fun _ => am_run (am_cK _) 5 (pk_le 3 65536 (fun _ => am_run (am_cK _) 3 (pk_le 3 256 (fun _ => am_run (am_cK _) 3 (pk_le 3 16 (fun _ => am_run (am_cK _) 3 (pk_le 3 4 (fun _ => am_run (am_cK _) 6 (hQ)) (fun z => by omega))) (fun z => by omega))) (fun z => by omega))) (fun z => by omega)), fun z => absurd (show (0 : Int32) < nI 3 by decide) z⟩
  | 3, _, hQ => exact am_run (am_cK _) 2 ⟨fun _ => am_run (am_cK _) 5 (pk_le 7 65536 (fun _ => am_run (am_cK _) 3 (pk_le 7 256 (fun _ => am_run (am_cK _) 3 (pk_le 7 16 (fun _ => am_run (am_cK _) 3 (pk_le 7 4 (fun z => by omega) (fun _ => am_run (am_cK _) 11 (hQ)))) (fun z => by omega))) (fun z => by omega))) (fun z => by omega)), fun z => absurd (show (0 : Int32) < nI 7 by decide) z⟩
  | 4, _, hQ => exact am_run (am_cK _) 2 ⟨fun _ => am_run (am_cK _) 5 (pk_le 15 65536 (fun _ => am_run (am_cK _) 3 (pk_le 15 256 (fun _ => am_run (am_cK _) 3 (pk_le 15 16 (fun _ => am_run (am_cK _) 3 (pk_le 15 4 (fun z => by omega) (fun _ => am_run (am_cK _) 11 (hQ)))) (fun z => by omega))) (fun z => by omega))) (fun z => by omega)), fun z => absurd (show (0 : Int32) < nI 15 by decide) z⟩
  | 5, _, hQ => exact am_run (am_cK _) 2 ⟨fun _ => am_run (am_cK _) 5 (pk_le 31 65536 (fun _ => am_run (am_cK _) 3 (pk_le 31 256 (fun _ => am_run (am_cK _) 3 (pk_le 31 16 (fun z => by omega) (fun _ => am_run (am_cK _) 8 (pk_le 1 4 (fun _ => am_run (am_cK _) 6 (hQ)) (fun z => by omega))))) (fun z => by omega))) (fun z => by omega)), fun z => absurd (show (0 : Int32) < nI 31 by decide) z⟩
  | 6, _, hQ => exact am_run (am_cK _) 2 ⟨fun _ => am_run (am_cK _) 5 (pk_le 63 65536 (fun _ => am_run (am_cK _) 3 (pk_le 63 256 (fun _ => am_run (am_cK _) 3 (pk_le 63 16 (fun z => by omega) (fun _ => am_run (am_cK _) 8 (pk_le 3 4 (fun _ => am_run (am_cK _) 6 (hQ)) (fun z => by omega))))) (fun z => by omega))) (fun z => by omega)), fun z => absurd (show (0 : Int32) < nI 63 by decide) z⟩
  | 7, _, hQ => exact am_run (am_cK _) 2 ⟨fun _ => am_run (am_cK _) 5 (pk_le 127 65536 (fun _ => am_run (am_cK _) 3 (pk_le 127 256 (fun _ => am_run (am_cK _) 3 (pk_le 127 16 (fun z => by omega) (fun _ => am_run (am_cK _) 8 (pk_le 7 4 (fun z => by omega) (fun _ => am_run (am_cK _) 11 (hQ)))))) (fun z => by omega))) (fun z => by omega)), fun z => absurd (show (0 : Int32) < nI 127 by decide) z⟩
  | 8, _, hQ => exact am_run (am_cK _) 2 ⟨fun _ => am_run (am_cK _) 5 (pk_le 255 65536 (fun _ => am_run (am_cK _) 3 (pk_le 255 256 (fun _ => am_run (am_cK _) 3 (pk_le 255 16 (fun z => by omega) (fun _ => am_run (am_cK _) 8 (pk_le 15 4 (fun z => by omega) (fun _ => am_run (am_cK _) 11 (hQ)))))) (fun z => by omega))) (fun z => by omega)), fun z => absurd (show (0 : Int32) < nI 255 by decide) z⟩
  | 9, _, hQ => exact am_run (am_cK _) 2 ⟨fun _ => am_run (am_cK _) 5 (pk_le 511 65536 (fun _ => am_run (am_cK _) 3 (pk_le 511 256 (fun z => by omega) (fun _ => am_run (am_cK _) 8 (pk_le 1 16 (fun _ => am_run (am_cK _) 3 (pk_le 1 4 (fun _ => am_run (am_cK _) 6 (hQ)) (fun z => by omega))) (fun z => by omega))))) (fun z => by omega)), fun z => absurd (show (0 : Int32) < nI 511 by decide) z⟩
/-- words at two places are one; how often, whether it came before -/
def tms (f : Nat → Nat) (n w i : Nat) : Nat := cnt (plc f n (rk (rol f n i) w) w) n
def nwW (f : Nat → Nat) (n w i : Nat) : Bool := bts (plc f n (rk (rol f n i) w) w) i == 0
def wM (f : Nat → Nat) (n w : Nat) : Nat → Nat × Nat
  | 0 => (0, 0)
  | i + 1 => if (wM f n w i).1 < tms f n w i then (tms f n w i, i) else wM f n w i
theorem wM_le (f : Nat → Nat) (n w : Nat) : ∀ i, (wM f n w i).1 ≤ n ∧ (wM f n w i).2 ≤ i
  | 0 => ⟨Nat.zero_le _, Nat.zero_le _⟩
  | i + 1 => by
    have := wM_le f n w i
    rw [wM]
    split
    · exact ⟨cnt_le _ _, by show i ≤ i + 1; omega⟩
    · exact ⟨this.1, by omega⟩
def oWordsN (M : Ms) (j w : Nat) : Int32 × Ms := (nI (cnt (nwW (sB (mS M) j) (sZ (mS M) j) w) (sZ (mS M) j)), pD M (2, w2 (nI (wM (sB (mS M) j) (sZ (mS M) j) w (sZ (mS M) j)).1) (nI (wM (sB (mS M) j) (sZ (mS M) j) w (sZ (mS M) j)).2)))
def oWords (M : Ms) (b w : Int32) : Int32 × Ms := if b < 0 ∨ nI (sN (mS M)) ≤ b then (-1, M) else if w < 1 ∨ nI (sZ (mS M) b.toNatClampNeg) < w then (-1, M) else oWordsN M b.toNatClampNeg w.toNatClampNeg
/-- the next place of the same word, the first place that has one, the longest such word -/
def qn (f : Nat → Nat) (n w i : Nat) : Nat := fnd (plc f n (rk (rol f n i) w) w) (i + 1) (n - 1 - i)
def pn (f : Nat → Nat) (n w : Nat) : Nat := fnd (fun i => decide (qn f n w i < n)) 0 n
def wD (f : Nat → Nat) (n : Nat) : Nat → Nat
  | 0 => 0
  | w + 1 => if pn f n (w + 1) < n then w + 1 else wD f n w
def oTwiceN (M : Ms) (j : Nat) : Int32 × Ms :=
  let f := sB (mS M) j
  let n := sZ (mS M) j
  let w := wD f n (n - 1)
  (nI w, pD M (if w = 0 then (0, fun _ => 0) else (2, w2 (nI (pn f n w)) (nI (qn f n w (pn f n w))))))
def oTwice (M : Ms) (b : Int32) : Int32 × Ms := if b < 0 ∨ nI (sN (mS M)) ≤ b then (-1, M) else oTwiceN M b.toNatClampNeg
/-- the same both ways -/
def pal (f : Nat → Nat) (n w : Nat) : Nat → Bool := fun i => rk (flp (rol f n i) w) w == rk (rol f n i) w
def aD (f : Nat → Nat) (n : Nat) : Nat → Nat × Nat
  | 0 => (1, 0)
  | w + 1 => if w = 0 then (1, 0) else if fnd (pal f n (w + 1)) 0 n < n then (w + 1, fnd (pal f n (w + 1)) 0 n) else aD f n w
def oArcN (M : Ms) (j : Nat) : Int32 × Ms := (nI (aD (sB (mS M) j) (sZ (mS M) j) (sZ (mS M) j)).1, pD M (1, w1 (nI (aD (sB (mS M) j) (sZ (mS M) j) (sZ (mS M) j)).2)))
def oArc (M : Ms) (b : Int32) : Int32 × Ms := if b < 0 ∨ nI (sN (mS M)) ≤ b then (-1, M) else oArcN M b.toNatClampNeg
theorem Fx2 {h1 h2 : am_H} (a1 : AgN 131 2 h h1) (a2 : AgN 131 2 h1 h2) : Fx h h2 := (a1.fx (by omega) (by omega)).tr (a2.fx (by omega) (by omega))
theorem i_lt1 {i : Nat} {P : Nat → Prop} (hi : i < 1) (h0 : P 0) : P i := by
  have : i = 0 := by omega
  subst this
  exact h0
theorem i_lt2 {i : Nat} {P : Nat → Prop} (hi : i < 2) (h0 : P 0) (h1 : P 1) : P i := by
  rcases (by omega : i = 0 ∨ i = 1) with e | e <;> subst e
  · exact h0
  · exact h1
theorem mask_i {i : Nat} (hi : i ≤ 10) : (1 : Int32) <<< (nI i &&& 31) - 1 = nI (2 ^ i - 1) := by
  have e2 : (1 : Int32) <<< (nI i &&& 31) = nI (1 * 2 ^ i) := q_shl 1 (by omega)
  rw [e2, Nat.one_mul]
  exact pk_sub (a := 2 ^ i) (b := 1) (Nat.pow_pos (by decide))
theorem X_words (hX : RX h M) (b w : Int32) (hQ : ∀ h', Fx h h' → RX h' (oWords M b w).2 → Q (some (.int (oWords M b w).1)) h') : am_call (d + 20) 139 [.ref 40, .int b, .int w] h Q := by
  obtain ⟨a, b', dr, hX⟩ := hX
  have hs := hX.s.2
  have hN := hs.1
  obtain ⟨r, z, kk, e0, e1, e2, e3, e4, e5⟩ := hX.s.1
  unfold oWords at hQ
  refine en_X10_words (Nat.le_of_ble_eq_true rfl) ?_
  refine am_run (am_cK _) 2 (am_obj_in hX.o.1 (am_run (am_cK _) 2 (am_obj_in hX.so ((S_lacks hX.s.1 hs b (fun c => ?_) (fun j hj e => ?_))))))
  · rw [if_pos c] at hQ
    exact am_run (am_cK _) 1 (⟨fun _ => am_run (am_cK _) 2 (hQ h Fx.rf ⟨a, b', dr, hX⟩), fun w => absurd n10 w⟩)
  subst e
  rw [if_neg (S_no hs hj), nI_clamp (by omega)] at hQ
  have hz := hs.2.1 j hj
  refine am_run (am_cK _) 1 (⟨fun w => absurd rfl w, fun _ => ?_⟩)
  refine am_run (am_cK _) 3 (⟨fun c => ?_, fun c => ?_⟩)
  · rw [if_pos (Or.inl (show w < 1 from c))] at hQ
    exact am_run (am_cK _) 2 (hQ h Fx.rf ⟨a, b', dr, hX⟩)
  have w0 : ¬ w < 0 := fun z => c (Int32.lt_trans z (by decide))
  obtain ⟨y, hy, rfl⟩ := nI_of w0
  have hy1 : 1 ≤ y := Nat.le_of_not_lt (fun z => c (nI_lt (b := 1) z (by omega)))
  refine am_run (am_cK _) 3 (am_obj_in hX.o.1 (am_run (am_cK _) 1 (am_obj_in hX.so (am_run (am_cK _) 2 (am_ld e2 j (by omega) ?_)))))
  rw [nI_clamp (by omega), (e4 j hj).2]
  refine am_run (am_cK _) 1 (pk_le y (sZ (mS M) j) (fun c2 => ?_) (fun c2 => ?_))
  · rw [if_neg (by
      rintro (w | w)
      · exact c w
      · exact nI_nlt (a := sZ (mS M) j) (b := y) c2 (by omega) w), nI_clamp (by omega)] at hQ
    unfold oWordsN at hQ
    refine am_run (am_cK _) 2 (am_obj_in hX.o.1 (am_run (am_cK _) 1 (am_obj_in hX.so (am_run (am_cK _) 2 (am_ld e1 j (by omega) ?_)))))
    rw [nI_clamp (by omega), (e4 j hj).1]
    refine am_run (am_cK _) 3 (am_obj_in hX.o.1 (am_run (am_cK _) 1 (am_obj_in hX.so (am_run (am_cK _) 2 (am_ld e2 j (by omega) ?_)))))
    rw [nI_clamp (by omega), (e4 j hj).2]
    generalize hf : sB (mS M) j = f at *
    generalize hn : sZ (mS M) j = n at *
    refine am_run (am_cK _) 1 (show am_wp (am_call (d + 19)) (0, 0) cm_X10_words Q (fun _ => False) (52, [some (.ref 40), some (.int (nI j)), some (.int (nI y)), some (.int (nI (rk f n))), some (.int (nI n)), none, none, none, none, none, none], [], 0, 0) h from ?_)
    refine am_run (am_cK _) 8 (show am_wp (am_call (d + 19)) (0, 0) cm_X10_words Q (fun _ => False) (64, [some (.ref 40), some (.int (nI j)), some (.int (nI y)), some (.int (nI (rk f n))), some (.int (nI n)), some (.int 0), some (.int 0), some (.int 0), some (.int 0), none, none], [], 0, 0) h from ?_)
    refine am_loopP (α := Option Value × Option Value) (fun i x => (64, [some (.ref 40), some (.int (nI j)), some (.int (nI y)), some (.int (nI (rk f n))), some (.int (nI n)), some (.int (nI (cnt (nwW f n y) i))), some (.int (nI (wM f n y i).1)), some (.int (nI (wM f n y i).2)), some (.int (nI i)), x.1, x.2], [], 0, 0)) (fun _ _ => True) n (fun i x hi _ K => ?_) (fun x _ => ?_) 0 (none, none) (Nat.zero_le _) trivial
    · refine am_run (am_cK _) 3 (pk_le n i (fun c => by omega) (fun _ => ?_))
      refine am_run (am_cK _) 7 (B_wordAt (by omega) hz.2.1 (by omega) c2 hz.2.2 ?_)
      have hsm : rk (rol f n i) y < 2 ^ 20 := rk_small (by omega) (fun q hq => rol_lt hz.2.2 q (by omega))
      refine am_run (am_cK _) 2 (B_placesOf (by omega) hz.2.1 c2 hsm hz.2.2 ?_)
      refine am_run (am_cK _) 3 (J_bitCount _ ?_)
      rw [bc_bts _ hz.2.1]
      have hm := wM_le f n y i
      have ht : tms f n y i ≤ n := cnt_le _ _
      have K2 := K (some (.int (nI (bts (plc f n (rk (rol f n i) y) y) n))), some (.int (nI (tms f n y i)))) trivial
      simp only at K2
      rw [wM, cnt, nI_succ i] at K2
      have ea : nI (bts (plc f n (rk (rol f n i) y) y) n) &&& ((1 : Int32) <<< (nI i &&& 31) - 1) = nI (bts (plc f n (rk (rol f n i) y) y) i) := by
        rw [mask_i (by omega), q_andM, bts_mod _ (by omega)]
      have hbl : bts (plc f n (rk (rol f n i) y) y) i < 2 ^ 10 := Nat.lt_of_lt_of_le (bts_lt _ i) (Nat.pow_le_pow_right (by decide) (by omega))
      have tail : ∀ D, am_wp (am_call (d + 19)) (0, 0) cm_X10_words Q (fun _ => False) (64, [some (.ref 40), some (.int (nI j)), some (.int (nI y)), some (.int (nI (rk f n))), some (.int (nI n)), some (.int D), some (.int (nI (if (wM f n y i).1 < tms f n y i then (tms f n y i, i) else wM f n y i).1)), some (.int (nI (if (wM f n y i).1 < tms f n y i then (tms f n y i, i) else wM f n y i).2)), some (.int (nI i + 1)), some (.int (nI (bts (plc f n (rk (rol f n i) y) y) n))), some (.int (nI (tms f n y i)))], [], 0, 0) h → (nI (tms f n y i) ≤ nI (wM f n y i).1 → am_wp (am_call (d + 19)) (0, 0) cm_X10_words Q (fun _ => False) (126, [some (.ref 40), some (.int (nI j)), some (.int (nI y)), some (.int (nI (rk f n))), some (.int (nI n)), some (.int D), some (.int (nI (wM f n y i).1)), some (.int (nI (wM f n y i).2)), some (.int (nI i)), some (.int (nI (bts (plc f n (rk (rol f n i) y) y) n))), some (.int (nI (tms f n y i)))], [], 0, 0) h) ∧ (¬ nI (tms f n y i) ≤ nI (wM f n y i).1 → am_wp (am_call (d + 19)) (0, 0) cm_X10_words Q (fun _ => False) (118, [some (.ref 40), some (.int (nI j)), some (.int (nI y)), some (.int (nI (rk f n))), some (.int (nI n)), some (.int D), some (.int (nI (wM f n y i).1)), some (.int (nI (wM f n y i).2)), some (.int (nI i)), some (.int (nI (bts (plc f n (rk (rol f n i) y) y) n))), some (.int (nI (tms f n y i)))], [], 0, 0) h) := fun D KK => by
        refine pk_le (tms f n y i) (wM f n y i).1 (fun c => ?_) (fun c => ?_)
        · rw [if_neg (by omega)] at KK
          exact am_run (am_cK _) 2 (KK)
        · rw [if_pos c] at KK
          exact am_run (am_cK _) 6 (KK)
      refine am_run (am_cK _) 8 (show am_wp (am_call (d + 19)) (0, 0) cm_X10_words Q (fun _ => False) (105, [some (.ref 40), some (.int (nI j)), some (.int (nI y)), some (.int (nI (rk f n))), some (.int (nI n)), some (.int (nI (cnt (nwW f n y) i))), some (.int (nI (wM f n y i).1)), some (.int (nI (wM f n y i).2)), some (.int (nI i)), some (.int (nI (bts (plc f n (rk (rol f n i) y) y) n))), some (.int (nI (tms f n y i)))], [.int (nI (bts (plc f n (rk (rol f n i) y) y) n) &&& ((1 : Int32) <<< (nI i &&& 31) - 1))], 0, 0) h from ?_)
      rw [ea]
      refine am_run (am_cK _) 1 ⟨fun c => ?_, fun c => ?_⟩
      · rw [if_neg (by unfold nwW; rw [beq_iff_eq]; exact fun w => c (by rw [w]; rfl)), Nat.add_zero] at K2
        exact am_run (am_cK _) 3 (tail _ K2)
      · rw [if_pos (by unfold nwW; rw [beq_iff_eq]; exact (nI_eq (b := 0) (by omega) (by omega)).mp (Classical.not_not.mp c)), nI_succ] at K2
        exact am_run (am_cK _) 4 (tail _ K2)
    · refine am_run (am_cK _) 3 (pk_le n n (fun _ => ?_) (fun c => by omega))
      refine am_run (am_cK _) 2 (am_obj_in hX.o.1 (am_run (am_cK _) 1 (am_obj_in hX.d.1.1 ((X_begin hX (fun h1 a1 hX1 => ?_))))))
      refine am_run (am_cK _) 2 (am_obj_in hX1.o.1 (am_run (am_cK _) 2 (am_obj_in hX1.d.1.1 ((X_add hX1 (show 0 < 16 by omega) _ (fun h2 a2 hX2 => ?_))))))
      refine am_run (am_cK _) 2 (am_obj_in hX2.o.1 (am_run (am_cK _) 2 (am_obj_in hX2.d.1.1 ((X_add hX2 (show 0 + 1 < 16 by omega) _ (fun h3 a3 hX3 => ?_))))))
      exact am_run (am_cK _) 2 (hQ h3 ((Fx2 a1 a2).tr (a3.fx (by omega) (by omega))) ⟨a, b', dr, RX_dc hX3 (fun i hi => i_lt2 (P := fun i => upd (upd (mD M).2 0 _) (0 + 1) _ i = w2 _ _ i) hi rfl rfl)⟩)
  · rw [if_pos (Or.inr (nI_lt c2 (by omega)))] at hQ
    exact am_run (am_cK _) 2 (hQ h Fx.rf ⟨a, b', dr, hX⟩)
end
