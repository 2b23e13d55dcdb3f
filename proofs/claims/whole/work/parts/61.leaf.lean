/-! THE MODEL's leaves -/
theorem l64_lt (x y : Int32) : x.toInt64 < y.toInt64 ↔ x < y := by
  rw [Int64.lt_iff_toInt_lt, Int32.toInt_toInt64, Int32.toInt_toInt64, Int32.lt_iff_toInt_lt]
theorem le_pred {x : Int32} {n : Nat} (hn : n < 2 ^ 30) : x ≤ nI n - 1 ↔ x < nI n := by
  have e : (nI n - 1).toInt = (n : Int) - 1 := pk_sub_toInt (a := n) (b := 1) hn (by decide)
  rw [Int32.le_iff_toInt_le, Int32.lt_iff_toInt_lt, e, nI_toInt (by omega)]
  omega
theorem pred_lt {x : Int32} {n : Nat} (hn : n < 2 ^ 30) : nI n - 1 < x ↔ nI n ≤ x := by
  rw [← Int32.not_le, le_pred hn, Int32.not_lt]
section
variable {d : Nat} {h0 h : am_H} {Q : Option Value → am_H → Prop} {F : Nat → Int32} {A : Nat → Nat → Int32} {R : Nat → Int64}
theorem RM.ap {p : Nat} (W : RM h0 h F A R) (hp : p = 154 ∨ p = 155) : h.2 p = aI 61 (A p) := by
  rcases hp with rfl | rfl
  · exact W.a154
  · exact W.a155
theorem am_stP {p j : Nat} {i x : Int32} {k : am_H → Prop} (W : RM h0 h F A R) (hp : p = 154 ∨ p = 155) (e : i = nI j) (hj : j < 61) (H : ∀ h', RM h0 h' F (va_up A p (upd (A p) j x)) R → k h') : am_ari h p .int (fun n f => vp_in i n ∧ k (am_set h p (.inl (.int, n, .inl (upd f i.toNatClampNeg x))))) := by
  rcases hp with rfl | rfl
  · exact am_stI W e hj rfl H
  · exact am_stI W e hj rfl H
theorem M_thrown (W : RM h0 h F A R) (hQ : Q (some (.int (F 0))) h) : am_call (d + 1) 174 [.ref 152] h Q := by
  refine en_X11_thrown (Nat.le_of_ble_eq_true rfl) ?_
  exact am_run (am_cK _) 2 (am_obj_in W.o (am_run (am_cK _) 1 (hQ)))
theorem M_refuse (W : RM h0 h F A R) (hQ : ∀ h', RM h0 h' (upd F 0 1) A R → Q (some (.int 0)) h') : am_call (d + 1) 175 [.ref 152] h Q := by
  refine en_X11_refuse (Nat.le_of_ble_eq_true rfl) ?_
  exact am_run (am_cK _) 3 (am_putI W rfl (by decide) (fun h1 W1 => am_run (am_cK _) 2 (hQ h1 W1)))
theorem M_in {x' y' z' : Int64} (x y z : Int32) (h1 : y ≤ x → x ≤ z → Q (some (.int 1)) h) (h2 : (x < y ∨ z < x) → Q (some (.int 0)) h) (hx : x' = x.toInt64 := by rfl) (hy : y' = y.toInt64 := by rfl) (hz : z' = z.toInt64 := by rfl) : am_call (d + 1) 176 [.long x', .long y', .long z'] h Q := by
  subst hx hy hz
  refine en_X11_in (Nat.le_of_ble_eq_true rfl) ?_
  refine am_run (am_cK _) 4 (⟨fun c => ?_, fun c => ?_⟩)
  · exact am_run (am_cK _) 2 (⟨Or.inl rfl, h2 (Or.inl ((l64_lt x y).mp ((lg_cmp_lt _ _).mp c)))⟩)
  · have c1 : y ≤ x := Int32.not_lt.mp (fun z => c ((lg_cmp_lt _ _).mpr ((l64_lt x y).mpr z)))
    refine am_run (am_cK _) 4 (⟨fun c => ?_, fun c => ?_⟩)
    · exact am_run (am_cK _) 2 (⟨Or.inl rfl, h2 (Or.inr ((l64_lt z x).mp ((lg_cmp_gt _ _).mp c)))⟩)
    · exact am_run (am_cK _) 3 (⟨Or.inr rfl, h1 c1 (Int32.not_lt.mp (fun w => c ((lg_cmp_gt _ _).mpr ((l64_lt z x).mpr w))))⟩)
/-- in a .. b, as numbers -/
theorem M_inN {x' y' z' : Int64} (x : Int32) (a b : Nat) (ha : a < 2 ^ 31) (hb : b < 2 ^ 31) (h1 : ∀ j, a ≤ j → j ≤ b → x = nI j → Q (some (.int 1)) h) (h2 : (x < nI a ∨ nI b < x) → Q (some (.int 0)) h) (hx : x' = x.toInt64 := by rfl) (hy : y' = (nI a).toInt64 := by rfl) (hz : z' = (nI b).toInt64 := by rfl) : am_call (d + 1) 176 [.long x', .long y', .long z'] h Q := by
  refine M_in x (nI a) (nI b) (fun c1 c2 => ?_) h2 hx hy hz
  have c0 : ¬ x < 0 := fun z => nI_pos ha (Int32.lt_of_le_of_lt c1 z)
  obtain ⟨j, hj, rfl⟩ := nI_of c0
  exact h1 j ((nI_leI ha hj).mp c1) ((nI_leI hj hb).mp c2) rfl
theorem M_has {L k : Nat} (hL : L < 2 ^ 31) (hk : k < 32) (hQ : Q (some (.int (bI (L.testBit k)))) h) : am_call (d + 1) 177 [.int (nI L), .int (nI k)] h Q := by
  refine en_X11_has (Nat.le_of_ble_eq_true rfl) ?_
  refine am_run (am_cK _) 7 (⟨fun c => ?_, fun c => ?_⟩)
  · rw [q_tb hL hk] at c
    cases ht : L.testBit k with
    | false => rw [ht] at hQ; exact am_run (am_cK _) 2 (⟨Or.inl rfl, hQ⟩)
    | true => rw [ht] at c; exact absurd rfl c
  · rw [q_tb hL hk] at c
    cases ht : L.testBit k with
    | true => rw [ht] at hQ; exact am_run (am_cK _) 3 (⟨Or.inr rfl, hQ⟩)
    | false => rw [ht] at c; exact absurd (show (0 : Int32) ≠ 1 by decide) (fun z => c z)
theorem M_flag1 (hQ : Q (some (.int 1)) h) : am_call (d + 1) 178 [.int 1] h Q := by
  refine en_X11_flag (Nat.le_of_ble_eq_true rfl) ?_
  exact am_run (am_cK _) 2 (⟨fun c => absurd c n10, fun _ => am_run (am_cK _) 3 (hQ)⟩)
theorem M_flag0 (hQ : Q (some (.int 0)) h) : am_call (d + 1) 178 [.int 0] h Q := by
  refine en_X11_flag (Nat.le_of_ble_eq_true rfl) ?_
  exact am_run (am_cK _) 2 (⟨fun _ => am_run (am_cK _) 2 (hQ), fun c => absurd rfl c⟩)
theorem M_flag (b : Bool) (hQ : Q (some (.int (bI b))) h) : am_call (d + 1) 178 [.int (bI b)] h Q := by
  cases b
  · exact M_flag0 hQ
  · exact M_flag1 hQ
theorem M_common : ∀ (f a b : Nat) {Q : Option Value → am_H → Prop}, b < f → a < 2 ^ 31 → b < 2 ^ 31 → Q (some (.long (lN (Nat.gcd a b)))) h → am_call (d + f) 179 [.long (lN a), .long (lN b)] h Q
  | 0, _, _, _, hb, _, _, _ => absurd hb (Nat.not_lt_zero _)
  | f + 1, a, b, Q, hbf, ha, hb, hQ => by
    refine en_X11_common (Nat.le_of_ble_eq_true rfl) ?_
    refine am_run (am_cK _) 4 (⟨fun c => ?_, fun c => ?_⟩)
    · have hb0 : 0 < b := Nat.pos_of_ne_zero (fun z => c (by subst z; exact (lg_cmp_eq _ _).mpr rfl))
      refine am_run (am_cK _) 4 (⟨fun z => ?_, ?_⟩)
      · have : lN b = lN 0 := z
        have := (lN_eq hb (by decide)).mp this
        omega
      · have e : lN a - lN a / lN b * lN b = lN (a % b) := pk_lRem (by omega) hb0 (by omega)
        have hm : a % b < b := Nat.mod_lt _ hb0
        rw [e]
        refine am_run (am_cK _) 1 (M_common f b (a % b) (by omega) hb (by omega) ?_)
        rw [Nat.gcd_comm, ← Nat.gcd_rec, Nat.gcd_comm] at *
        exact am_run (am_cK _) 1 (hQ)
    · have hb0 : b = 0 := (lN_eq hb (by decide)).mp ((lg_cmp_eq (lN b) (lN 0)).mp (Classical.not_not.mp c))
      subst hb0
      rw [Nat.gcd_zero_right] at hQ
      exact am_run (am_cK _) 3 (hQ)
theorem M_enters (W : RM h0 h F A R) {m : Nat} (hm : F 1 = nI m) (h24 : m < 24) (v : Int64) (hQ : ∀ h', RM h0 h' (upd F 1 (nI (m + 1))) A (vp_updL R m v) → Q none h') : am_call (d + 1) 180 [.ref 152, .long v] h Q := by
  refine en_X11_enters (Nat.le_of_ble_eq_true rfl) ?_
  refine am_run (am_cK _) 2 (am_obj_in W.o (am_run (am_cK _) 2 (am_obj_in W.o (am_run (am_cK _) 2 (am_stL W hm h24 (fun h1 W1 => ?_))))))
  refine am_run (am_cK _) 3 (am_obj_in W1.o (am_run (am_cK _) 3 (am_putI W1 rfl (by decide) (fun h2 W2 => ?_))))
  rw [hm, nI_1] at W2
  exact am_run (am_cK _) 1 (hQ h2 W2)
theorem bd_ix (b i : Nat) : (5 : Int32) + 10 * nI b + nI i = nI (5 + 10 * b + i) := by
  have e1 : (10 : Int32) * nI b = nI (10 * b) := pk_mul 10 b
  have e2 : (5 : Int32) + nI (10 * b) = nI (5 + 10 * b) := nI_add 5 _
  rw [e1, e2, nI_add]
theorem st_ix (c : Nat) : (55 : Int32) + nI c = nI (55 + c) := nI_add 55 c
theorem M_beadAt {p b i : Nat} {r : Nat → Int32} {v : Int32} (hp : h.2 p = aI 61 r) (hb : b < 5) (hi : i < 10) (hv : r (5 + 10 * b + i) = v) (hQ : Q (some (.int v)) h) : am_call (d + 1) 184 [.ref p, .int (nI b), .int (nI i)] h Q := by
  refine en_X11_beadAt (Nat.le_of_ble_eq_true rfl) ?_
  refine am_run (am_cK _) 9 (am_ld hp (5 + 10 * b + i) (by omega) ?_ (bd_ix b i))
  rw [bd_ix, nI_clamp (by omega), hv]
  exact am_run (am_cK _) 1 (hQ)
/-- the model's row is a stall -/
def RSm (r : Nat → Int32) (σ : Sg) : Prop := r 60 = nI (sN σ) ∧ r 59 = nI (sP σ) ∧ (∀ c, c < 4 → r (55 + c) = nI (sK σ c)) ∧ ∀ b, b < sN σ → r b = nI (sZ σ b) ∧ ∀ i, i < sZ σ b → r (5 + 10 * b + i) = nI (sB σ b i)
theorem M_isRing (W : RM h0 h F A R) {N : Nat} (hS : A 154 60 = nI N) (hN : N ≤ 5) (b : Int32) (h1 : ∀ j, j < N → b = nI j → Q (some (.int 1)) h) (h2 : (b < 0 ∨ nI N ≤ b) → Q (some (.int 0)) h) : am_call (d + 2) 183 [.ref 152, .int b] h Q := by
  refine en_X11_isRing (Nat.le_of_ble_eq_true rfl) ?_
  refine am_run (am_cK _) 5 (am_obj_in W.o (am_run (am_cK _) 2 (am_ld W.a154 60 (by omega) ?_)))
  rw [pk_cl (x := 60) 60, hS]
  refine am_run (am_cK _) 4 (M_in b 0 (nI N - 1) (fun c1 c2 => ?_) (fun c => ?_))
  · obtain ⟨j, hj, rfl⟩ := nI_of (Int32.not_lt.mpr c1)
    exact am_run (am_cK _) 1 (⟨Or.inr rfl, h1 j ((nI_ltI hj (by omega)).mp ((le_pred (by omega)).mp c2)) rfl⟩)
  · exact am_run (am_cK _) 1 (⟨Or.inl rfl, h2 (c.imp_right (fun z => (pred_lt (by omega)).mp z))⟩)
theorem M_stockOf {p : Nat} {r : Nat → Int32} {k : Nat → Nat} (hp : h.2 p = aI 61 r) (hk : ∀ c, c < 4 → r (55 + c) = nI (k c)) (hQ : Q (some (.int (nI (smf k 4)))) h) : am_call (d + 1) 185 [.ref p] h Q := by
  refine en_X11_stockOf (Nat.le_of_ble_eq_true rfl) (am_run (am_cK _) 4 ?_)
  refine am_loopC (fun i => (4, [some (.ref p), some (.int (nI (smf k i))), some (.int (nI i))], [], 0, 0)) 4 (fun i hi K => ?_) ?_ 0 (Nat.zero_le _)
  · refine am_run (am_cK _) 3 (pk_le 4 i (fun c => by omega) (fun _ => ?_))
    refine am_run (am_cK _) 6 (am_ld hp (55 + i) (by omega) ?_ (st_ix i))
    rw [st_ix, nI_clamp (by omega), hk i hi]
    rw [smf, ← nI_add, nI_succ] at K
    exact am_run (am_cK _) 4 (K)
  · exact am_run (am_cK _) 3 (pk_le 4 4 (fun c => am_run (am_cK _) 2 (hQ)) (fun c => by omega))
theorem M_beadsOf {p : Nat} {r : Nat → Int32} {σ : Sg} (hp : h.2 p = aI 61 r) (hS : RSm r σ) (hs : Sok σ) (hQ : Q (some (.int (nI (smf (sZ σ) (sN σ))))) h) : am_call (d + 1) 186 [.ref p] h Q := by
  have hN := hs.1
  refine en_X11_beadsOf (Nat.le_of_ble_eq_true rfl) (am_run (am_cK _) 4 ?_)
  refine am_loopC (fun i => (4, [some (.ref p), some (.int (nI (smf (sZ σ) i))), some (.int (nI i))], [], 0, 0)) (sN σ) (fun i hi K => ?_) ?_ 0 (Nat.zero_le _)
  · refine am_run (am_cK _) 4 (am_ld hp 60 (by omega) ?_)
    rw [pk_cl (x := 60) 60, hS.1]
    refine am_run (am_cK _) 1 (pk_le (sN σ) i (fun c => by omega) (fun _ => ?_))
    refine am_run (am_cK _) 4 (am_ld hp i (by omega) ?_)
    rw [nI_clamp (by omega), (hS.2.2.2 i hi).1]
    rw [smf, ← nI_add, nI_succ] at K
    exact am_run (am_cK _) 4 (K)
  · refine am_run (am_cK _) 4 (am_ld hp 60 (by omega) ?_)
    rw [pk_cl (x := 60) 60, hS.1]
    exact am_run (am_cK _) 1 (pk_le (sN σ) (sN σ) (fun c => am_run (am_cK _) 2 (hQ)) (fun c => by omega))
theorem M_tellsTurning {n t : Nat} (hn : n ≤ 10) (ht : t < 2 * n) (hQ : Q (some (.int (nI (tnm n t)))) h) : am_call (d + 1) 200 [.int (nI n), .int (nI t)] h Q := by
  refine en_X11_tellsTurning (Nat.le_of_ble_eq_true rfl) ?_
  refine am_run (am_cK _) 3 (pk_le n t (fun c => ?_) (fun c => ?_))
  · have e : (100 : Int32) + nI t - nI n = nI (tnm n t) := by
      have e1 : (100 : Int32) + nI t = nI (100 + t) := nI_add 100 t
      rw [e1, pk_sub (by omega)]
      unfold tnm
      rw [if_neg (by omega)]
    rw [← e] at hQ
    exact am_run (am_cK _) 6 (hQ)
  · have e : nI t = nI (tnm n t) := by unfold tnm; rw [if_pos c]
    rw [← e] at hQ
    exact am_run (am_cK _) 3 (hQ)
theorem M_turnedOf {q n t i L : Nat} {g : Nat → Int32} {f : Nat → Nat} (hq : h.2 q = aI L g) (hL : L < 2 ^ 31) (hnL : n ≤ L) (hn : n ≤ 10) (hg : ∀ i, i < n → g i = nI (f i)) (ht : t < 2 * n) (hi : i < n) (hQ : Q (some (.int (nI (trn f n t i)))) h) : am_call (d + 1) 199 [.ref q, .int (nI n), .int (nI t), .int (nI i)] h Q := by
  refine en_X11_turnedOf (Nat.le_of_ble_eq_true rfl) ?_
  refine am_run (am_cK _) 4 (⟨nI_ne0 (by omega) (by omega), ?_⟩)
  rw [show nI t - nI t / nI n * nI n = nI (t % n) from pk_rem (by omega) (by omega) (by omega)]
  refine am_run (am_cK _) 3 (⟨nI_ne0 (by omega) (by omega), ?_⟩)
  rw [nI_add, show nI (i + t % n) - nI (i + t % n) / nI n * nI n = nI ((i + t % n) % n) from pk_rem (by have := Nat.mod_lt t (show 0 < n by omega); omega) (by omega) (by omega)]
  have hm : (i + t % n) % n < n := Nat.mod_lt _ (by omega)
  refine am_run (am_cK _) 5 (pk_le n t (fun c => ?_) (fun c => ?_))
  · have e : nI n - 1 - nI ((i + t % n) % n) = nI (n - 1 - (i + t % n) % n) := by
      rw [show nI n - 1 = nI (n - 1) from pk_sub (a := n) (b := 1) (by omega), pk_sub (by omega)]
    refine am_run (am_cK _) 6 (am_ld hq (n - 1 - (i + t % n) % n) (by omega) ?_ e)
    rw [e, nI_clamp (by omega), hg _ (by omega)]
    have e2 : f (n - 1 - (i + t % n) % n) = trn f n t i := by
      unfold trn
      rw [if_neg (by omega)]
      show _ = f (n - 1 - (i + (t - n)) % n)
      rw [show t % n = t - n by rw [Nat.mod_eq_sub_mod c, Nat.mod_eq_of_lt (by omega)]]
    rw [e2]
    exact am_run (am_cK _) 1 (hQ)
  · refine am_run (am_cK _) 3 (am_ld hq ((i + t % n) % n) (by omega) ?_)
    rw [nI_clamp (by omega), hg _ (by omega)]
    have e2 : f ((i + t % n) % n) = trn f n t i := by
      unfold trn
      rw [if_pos (by omega), Nat.mod_eq_of_lt c]
      rfl
    rw [e2]
    exact am_run (am_cK _) 1 (hQ)
end
