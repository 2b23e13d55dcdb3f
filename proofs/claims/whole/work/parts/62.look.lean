/-! THE MODEL's row that is looked at -/
theorem kT_roll {f : Nat → Nat} {n t : Nat} (ht : t < n) : kT f n t = rk (rol f n t) n := by unfold kT trn; rw [if_pos ht]
theorem kT_flip {f : Nat → Nat} {n k : Nat} : kT f n (n + k) = rk (rol (flp f n) n k) n := by unfold kT trn; rw [if_neg (by omega), show n + k - n = k by omega]
theorem kT_0 {f : Nat → Nat} {n : Nat} (hn : 0 < n) : kT f n 0 = rk f n := by
  rw [kT_roll hn]
  exact rk_congr (fun i hi => by show f ((i + 0) % n) = f i; rw [Nat.add_zero, Nat.mod_eq_of_lt hi])
theorem rk_lex {f g : Nat → Nat} {n p : Nat} (hp : p < n) (hf : ∀ i, i < n → f i < 4) (hg : ∀ i, i < n → g i < 4) (he : ∀ i, i < p → f i = g i) (hl : f p < g p) : rk f n < rk g n := by
  have sf := rk_split f (p + 1) (n - 1 - p)
  have sg := rk_split g (p + 1) (n - 1 - p)
  rw [show p + 1 + (n - 1 - p) = n by omega] at sf sg
  have lf : rk (fun i => f (p + 1 + i)) (n - 1 - p) < 4 ^ (n - 1 - p) := rk_lt (fun i hi => hf _ (by omega))
  have e : rk f p = rk g p := rk_congr he
  have h1 : (rk f (p + 1) + 1) * 4 ^ (n - 1 - p) ≤ rk g (p + 1) * 4 ^ (n - 1 - p) := Nat.mul_le_mul_right _ (by rw [rk, rk, e]; omega)
  rw [Nat.add_mul, Nat.one_mul] at h1
  rw [sf, sg]
  omega
theorem sub4 : ∀ x, x < 4 → ∀ y, y < 4 → ((nI x - nI y = 0 ↔ x = y) ∧ (nI x - nI y < 0 ↔ x < y)) := by decide
/-- the row that is looked at is f, of n beads -/
def LK (F : Nat → Int32) (A : Nat → Nat → Int32) (f : Nat → Nat) (n : Nat) : Prop := F 13 = nI n ∧ 0 < n ∧ n ≤ 10 ∧ (∀ i, i < n → A 158 i = nI (f i)) ∧ ∀ i, i < n → f i < 4
/-- the first turning that is least among the first i -/
def bT (f : Nat → Nat) (n : Nat) : Nat → Nat
  | 0 => 0
  | i + 1 => if kT f n i < kT f n (bT f n i) then i else bT f n i
theorem bT_lt {f : Nat → Nat} {n : Nat} : ∀ i, 0 < i → bT f n i < i
  | 0, h => absurd h (Nat.lt_irrefl 0)
  | i + 1, _ => by
    rw [bT]
    split
    · omega
    · cases i with
      | zero => exact Nat.lt_succ_self 0
      | succ i => have := bT_lt (f := f) (n := n) (i + 1) (by omega); omega
theorem two_n (n : Nat) : (2 : Int32) * nI n = nI (2 * n) := pk_mul 2 n
/-- no turning among the first i is less -/
def isL (f : Nat → Nat) (n : Nat) : Nat → Bool := allB (fun t => decide (kT f n 0 ≤ kT f n t))
def ofb (f : Nat → Nat) (n : Nat) (g : Nat → Nat) (t : Nat) : Nat := dif (trn f n t) g n
/-- alike to g, of m beads, as the model finds it -/
def alM (f : Nat → Nat) (n : Nat) (g : Nat → Nat) (m : Nat) : Bool := m == n && !(allB (fun t => ofb f n g t != 0) (2 * n))
section
variable {d : Nat} {h0 h : am_H} {Q : Option Value → am_H → Prop} {F : Nat → Int32} {A : Nat → Nat → Int32} {R : Nat → Int64} {f : Nat → Nat} {n : Nat}
theorem M_compares (W : RM h0 h F A R) (hL : LK F A f n) {a b : Nat} (ha : a < 2 * n) (hb : b < 2 * n) (hQ : ∀ v : Int32, (v < 0 ↔ kT f n a < kT f n b) → (v = 0 ↔ kT f n a = kT f n b) → Q (some (.int v)) h) : am_call (d + 2) 201 [.ref 152, .int (nI a), .int (nI b)] h Q := by
  obtain ⟨hl, hn0, hn, hg, hf⟩ := hL
  refine en_X11_compares (Nat.le_of_ble_eq_true rfl) (am_run (am_cK _) 2 ?_)
  refine am_loopP (α := Option Value) (fun i j => (2, [some (.ref 152), some (.int (nI a)), some (.int (nI b)), some (.int (nI i)), j], [], 0, 0)) (fun i _ => ∀ q, q < i → trn f n a q = trn f n b q) n (fun i j hi P K => ?_) (fun j P => ?_) 0 none (Nat.zero_le _) (fun q hq => by omega)
  · refine am_run (am_cK _) 3 (am_obj_in W.o (am_run (am_cK _) 1 (pk_le n i (fun c => by omega) (fun _ => ?_) (hx := hl))))
    refine am_run (am_cK _) 2 (am_obj_in W.o (am_run (am_cK _) 2 (am_obj_in W.o (am_run (am_cK _) 3 ?_))))
    rw [hl]
    refine M_turnedOf W.a158 (by omega) (by omega) hn hg ha hi ?_
    refine am_run (am_cK _) 2 (am_obj_in W.o (am_run (am_cK _) 2 (am_obj_in W.o (am_run (am_cK _) 3 ?_))))
    rw [hl]
    refine M_turnedOf W.a158 (by omega) (by omega) hn hg hb hi ?_
    have hs := sub4 _ (trn_lt (k := a) hf i hi) _ (trn_lt (k := b) hf i hi)
    refine am_run (am_cK _) 4 (⟨fun c => ?_, fun c => ?_⟩)
    · have K' := K (some (.int (nI (trn f n a i) - nI (trn f n b i)))) (fun q hq => (by
        by_cases e : q = i
        · subst e; exact hs.1.mp c
        · exact P q (by omega)))
      rw [nI_succ] at K'
      exact am_run (am_cK _) 2 (K')
    · refine am_run (am_cK _) 2 (hQ _ ?_ ?_)
      · rw [hs.2]
        refine ⟨fun z => rk_lex hi (trn_lt hf) (trn_lt hf) P z, fun z => ?_⟩
        refine Nat.lt_of_le_of_ne (Nat.le_of_not_lt (fun w => ?_)) (fun w => c (hs.1.mpr w))
        exact Nat.lt_asymm z (rk_lex hi (trn_lt hf) (trn_lt hf) (fun q hq => (P q hq).symm) w)
      · exact ⟨fun z => absurd z c, fun z => absurd (hs.1.mpr (rk_inj (trn_lt hf) (trn_lt hf) z i hi)) c⟩
  · have e : kT f n a = kT f n b := rk_congr P
    refine am_run (am_cK _) 3 (am_obj_in W.o (am_run (am_cK _) 1 (pk_le n n (fun _ => ?_) (fun c => by omega) (hx := hl))))
    exact am_run (am_cK _) 2 (hQ 0 ⟨fun z => absurd z (by decide), fun z => by omega⟩ ⟨fun _ => e, fun _ => rfl⟩)
theorem M_leastTurning (W : RM h0 h F A R) (hL : LK F A f n) (hQ : Q (some (.int (nI (bT f n (2 * n))))) h) : am_call (d + 3) 202 [.ref 152] h Q := by
  have hL0 := hL
  obtain ⟨hl, hn0, hn, hg, hf⟩ := hL
  refine en_X11_leastTurning (Nat.le_of_ble_eq_true rfl) (am_run (am_cK _) 4 ?_)
  have e1 : bT f n 1 = 0 := by rw [bT]; split <;> rfl
  have st : am_wp (am_call (d + 2)) (0, 0) cm_X11_leastTurning Q (fun _ => False) (4, [some (.ref 152), some (.int (nI (bT f n 1))), some (.int (nI 1))], [], 0, 0) h := by
    refine am_loopC (fun i => (4, [some (.ref 152), some (.int (nI (bT f n i))), some (.int (nI i))], [], 0, 0)) (2 * n) (fun i hi K => ?_) ?_ 1 (by omega)
    · refine am_run (am_cK _) 4 (am_obj_in W.o (am_run (am_cK _) 2 ?_))
      rw [hl]
      refine pk_le (2 * n) i (fun c => by omega) (fun _ => ?_) (hx := two_n n)
      have hb : bT f n i < 2 * n := by
        cases i with
        | zero => show 0 < _; omega
        | succ i => have := bT_lt (f := f) (n := n) (i + 1) (by omega); omega
      refine am_run (am_cK _) 4 (am_obj_in W.o ((M_compares W hL0 hi hb (fun v h1 h2 => ?_))))
      rw [bT, nI_succ] at K
      refine am_run (am_cK _) 1 (⟨fun c => ?_, fun c => ?_⟩)
      · rw [if_neg (fun z => Int32.not_lt.mpr c (h1.mpr z))] at K
        exact am_run (am_cK _) 4 (K)
      · rw [if_pos (h1.mp (Int32.not_le.mp c))] at K
        exact am_run (am_cK _) 5 (K)
    · refine am_run (am_cK _) 4 (am_obj_in W.o (am_run (am_cK _) 2 ?_))
      rw [hl]
      exact pk_le (2 * n) (2 * n) (fun c => am_run (am_cK _) 2 (hQ)) (fun c => by omega) (hx := two_n n)
  rw [e1] at st
  exact st
theorem M_isLeast (W : RM h0 h F A R) (hL : LK F A f n) (hQ : Q (some (.int (bI (isL f n (2 * n))))) h) : am_call (d + 3) 203 [.ref 152] h Q := by
  have hL0 := hL
  obtain ⟨hl, hn0, hn, hg, hf⟩ := hL
  refine en_X11_isLeast (Nat.le_of_ble_eq_true rfl) (am_run (am_cK _) 4 ?_)
  have e1 : isL f n 1 = true := by
    show (true && decide (kT f n 0 ≤ kT f n 0)) = true
    simp
  have hfit : ∀ b : Bool, bI b = 0 ∨ bI b = 1 := fun b => by cases b <;> simp [bI]
  have st : am_wp (am_call (d + 2)) (0, 0) cm_X11_isLeast Q (fun _ => False) (4, [some (.ref 152), some (.int (bI (isL f n 1))), some (.int (nI 1))], [], 0, 0) h := by
    refine am_loopC (fun i => (4, [some (.ref 152), some (.int (bI (isL f n i))), some (.int (nI i))], [], 0, 0)) (2 * n) (fun i hi K => ?_) ?_ 1 (by omega)
    · refine am_run (am_cK _) 4 (am_obj_in W.o (am_run (am_cK _) 2 ?_))
      rw [hl]
      refine pk_le (2 * n) i (fun c => by omega) (fun _ => ?_) (hx := two_n n)
      cases hb : isL f n i with
      | false =>
        refine am_run (am_cK _) 2 (⟨fun _ => ?_, fun c => absurd rfl c⟩)
        have e : isL f n (2 * n) = false := by
          cases hz : isL f n (2 * n) with
          | false => rfl
          | true =>
            have := (allB_iff _ _).mp hz
            have h2 : isL f n i = true := (allB_iff _ _).mpr (fun q hq => this q (by omega))
            rw [hb] at h2
            exact h2.symm
        rw [e] at hQ
        exact am_run (am_cK _) 2 (⟨Or.inl rfl, hQ⟩)
      | true =>
        refine am_run (am_cK _) 2 (⟨fun c => absurd c n10, fun _ => ?_⟩)
        refine am_run (am_cK _) 4 (am_obj_in W.o ((M_compares (b := 0) W hL0 hi (by omega) (fun v h1 h2 => ?_))))
        have eK : isL f n (i + 1) = decide (kT f n 0 ≤ kT f n i) := by
          show (isL f n i && decide (kT f n 0 ≤ kT f n i)) = _
          rw [hb, Bool.true_and]
        rw [eK, nI_succ] at K
        refine am_run (am_cK _) 1 (⟨fun c => ?_, fun c => ?_⟩)
        · rw [show decide (kT f n 0 ≤ kT f n i) = false from decide_eq_false (by have := h1.mp c; omega)] at K
          exact am_run (am_cK _) 4 (K)
        · rw [show decide (kT f n 0 ≤ kT f n i) = true from decide_eq_true (Nat.le_of_not_lt (fun z => c (h1.mpr z)))] at K
          exact am_run (am_cK _) 5 (K)
    · refine am_run (am_cK _) 4 (am_obj_in W.o (am_run (am_cK _) 2 ?_))
      rw [hl]
      exact pk_le (2 * n) (2 * n) (fun c => am_run (am_cK _) 2 (⟨hfit _, hQ⟩)) (fun c => by omega) (hx := two_n n)
  rw [e1] at st
  exact st
theorem M_ofLook (W : RM h0 h F A R) (hL : LK F A f n) {c : Nat} (hc : c < 2 ^ 31) (hQ : Q (some (.int (nI (num f n c)))) h) : am_call (d + 2) 205 [.ref 152, .int (nI c)] h Q := by
  obtain ⟨hl, hn0, hn, hg, hf⟩ := hL
  refine en_X11_ofLook (Nat.le_of_ble_eq_true rfl) (am_run (am_cK _) 4 ?_)
  refine am_loopC (fun i => (4, [some (.ref 152), some (.int (nI c)), some (.int (nI (cnt (fun j => f j == c) i))), some (.int (nI i))], [], 0, 0)) n (fun i hi K => ?_) ?_ 0 (Nat.zero_le _)
  · refine am_run (am_cK _) 3 (am_obj_in W.o (am_run (am_cK _) 1 (pk_le n i (fun c => by omega) (fun _ => ?_) (hx := hl))))
    refine am_run (am_cK _) 3 (am_obj_in W.o (am_run (am_cK _) 2 (am_ld W.a158 i (by omega) ?_)))
    rw [nI_clamp (by omega), hg i hi]
    have h4 := hf i hi
    rw [cnt, nI_succ] at K
    refine am_run (am_cK _) 2 (⟨fun e => ?_, fun e => ?_⟩)
    · rw [if_neg (fun z => e (by rw [eq_of_beq z]))] at K
      rw [← nI_add] at K
      exact am_run (am_cK _) 2 (M_flag0 (am_run (am_cK _) 4 (K)))
    · rw [if_pos (by rw [beq_iff_eq]; exact (nI_eq (by omega) hc).mp (Classical.not_not.mp e)), nI_succ] at K
      exact am_run (am_cK _) 3 (M_flag1 (am_run (am_cK _) 4 (K)))
  · exact am_run (am_cK _) 3 (am_obj_in W.o (am_run (am_cK _) 1 (pk_le n n (fun _ => am_run (am_cK _) 2 (hQ)) (fun c => by omega) (hx := hl))))
theorem M_offBy (W : RM h0 h F A R) (hL : LK F A f n) {p o t : Nat} {r : Nat → Int32} {g : Nat → Nat} (hp : h.2 p = aI 61 r) (ho : o < 5) (ht : t < 2 * n) (hr : ∀ i, i < n → r (5 + 10 * o + i) = nI (g i)) (hg4 : ∀ i, i < n → g i < 4) (hQ : Q (some (.int (nI (ofb f n g t)))) h) : am_call (d + 2) 206 [.ref 152, .ref p, .int (nI o), .int (nI t)] h Q := by
  obtain ⟨hl, hn0, hn, hg, hf⟩ := hL
  refine en_X11_offBy (Nat.le_of_ble_eq_true rfl) (am_run (am_cK _) 4 ?_)
  refine am_loopC (fun i => (6, [some (.ref 152), some (.ref p), some (.int (nI o)), some (.int (nI t)), some (.int (nI (cnt (fun j => trn f n t j != g j) i))), some (.int (nI i))], [], 0, 0)) n (fun i hi K => ?_) ?_ 0 (Nat.zero_le _)
  · refine am_run (am_cK _) 3 (am_obj_in W.o (am_run (am_cK _) 1 (pk_le n i (fun c => by omega) (fun _ => ?_) (hx := hl))))
    refine am_run (am_cK _) 3 (am_obj_in W.o (am_run (am_cK _) 2 (am_obj_in W.o (am_run (am_cK _) 3 ?_))))
    rw [hl]
    refine M_turnedOf W.a158 (by omega) (by omega) hn hg ht hi ?_
    refine am_run (am_cK _) 4 (M_beadAt hp ho (by omega) (hr i hi) ?_)
    have h4 := trn_lt (k := t) hf i hi
    have h5 := hg4 i hi
    rw [cnt, nI_succ] at K
    refine am_run (am_cK _) 1 (⟨fun e => ?_, fun e => ?_⟩)
    · rw [if_neg (by rw [(nI_eq (by omega) (by omega)).mp e]; simp)] at K
      rw [← nI_add] at K
      exact am_run (am_cK _) 2 (M_flag0 (am_run (am_cK _) 4 (K)))
    · rw [if_pos (by rw [bne_iff_ne]; exact fun z => e (congrArg nI z)), nI_succ] at K
      exact am_run (am_cK _) 3 (M_flag1 (am_run (am_cK _) 4 (K)))
  · exact am_run (am_cK _) 3 (am_obj_in W.o (am_run (am_cK _) 1 (pk_le n n (fun _ => am_run (am_cK _) 2 (hQ)) (fun c => by omega) (hx := hl))))
theorem M_isAlike (W : RM h0 h F A R) (hL : LK F A f n) {p o m : Nat} {r : Nat → Int32} {g : Nat → Nat} (hp : h.2 p = aI 61 r) (ho : o < 5) (hm : m ≤ 10) (hro : r o = nI m) (hr : ∀ i, i < m → r (5 + 10 * o + i) = nI (g i)) (hg4 : ∀ i, i < m → g i < 4) (hQ : Q (some (.int (bI (alM f n g m)))) h) : am_call (d + 3) 207 [.ref 152, .ref p, .int (nI o)] h Q := by
  have hL0 := hL
  obtain ⟨hl, hn0, hn, hg, hf⟩ := hL
  have hfit : ∀ b : Bool, bI b = 0 ∨ bI b = 1 := fun b => by cases b <;> simp [bI]
  refine en_X11_isAlike (Nat.le_of_ble_eq_true rfl) (am_run (am_cK _) 4 ?_)
  by_cases e : m = n
  · subst e
    have hal : alM f m g m = !(allB (fun t => ofb f m g t != 0) (2 * m)) := by unfold alM; simp
    rw [hal] at hQ
    refine am_loopC (fun i => (5, [some (.ref 152), some (.ref p), some (.int (nI o)), some (.int (bI (!(allB (fun t => ofb f m g t != 0) i)))), some (.int (nI i))], [], 0, 0)) (2 * m) (fun i hi K => ?_) ?_ 0 (Nat.zero_le _)
    · refine am_run (am_cK _) 4 (am_obj_in W.o (am_run (am_cK _) 2 ?_))
      rw [hl]
      refine pk_le (2 * m) i (fun c => by omega) (fun _ => ?_) (hx := two_n m)
      refine am_run (am_cK _) 3 (am_ld hp o (by omega) ?_)
      rw [nI_clamp (by omega), hro]
      refine am_run (am_cK _) 2 (am_obj_in W.o (am_run (am_cK _) 1 (⟨fun c => absurd hl.symm c, fun _ => ?_⟩)))
      rw [allB, nI_succ] at K
      cases hb : allB (fun t => ofb f m g t != 0) i with
      | false =>
        rw [hb] at K
        exact am_run (am_cK _) 2 (⟨fun _ => am_run (am_cK _) 5 (K), fun c => absurd n10 c⟩)
      | true =>
        rw [hb, Bool.true_and] at K
        refine am_run (am_cK _) 2 (⟨fun c => absurd rfl c, fun _ => ?_⟩)
        refine am_run (am_cK _) 5 (am_obj_in W.o ((M_offBy W hL0 hp ho hi hr hg4 ?_)))
        have hle : ofb f m g i ≤ m := cnt_le _ _
        refine am_run (am_cK _) 1 (⟨fun c => ?_, fun c => ?_⟩)
        · rw [show (ofb f m g i != 0) = true by rw [bne_iff_ne]; exact fun z => c (by rw [z]; rfl)] at K
          exact am_run (am_cK _) 4 (K)
        · rw [show (ofb f m g i != 0) = false by
            rw [(nI_eq (b := 0) (by omega) (by omega)).mp (Classical.not_not.mp c)]; rfl] at K
          exact am_run (am_cK _) 5 (K)
    · refine am_run (am_cK _) 4 (am_obj_in W.o (am_run (am_cK _) 2 ?_))
      rw [hl]
      exact pk_le (2 * m) (2 * m) (fun c => am_run (am_cK _) 2 (⟨hfit _, hQ⟩)) (fun c => by omega) (hx := two_n m)
  · have hal : alM f n g m = false := by unfold alM; rw [beq_eq_false_iff_ne.mpr e]; rfl
    rw [hal] at hQ
    refine am_run (am_cK _) 4 (am_obj_in W.o (am_run (am_cK _) 2 ?_))
    rw [hl]
    refine pk_le (2 * n) 0 (fun c => by omega) (fun _ => ?_) (hx := two_n n)
    refine am_run (am_cK _) 3 (am_ld hp o (by omega) ?_)
    rw [nI_clamp (by omega), hro]
    refine am_run (am_cK _) 2 (am_obj_in W.o (am_run (am_cK _) 1 (⟨fun _ => am_run (am_cK _) 2 (⟨Or.inl rfl, hQ⟩), fun c => absurd ((nI_eq (by omega) (by omega)).mp ((Classical.not_not.mp c).trans hl)) e⟩)))
/-- how many bracelets the row is alike to, but for one -/
def alN (f : Nat → Nat) (n : Nat) (σ : Sg) (but : Int32) : Nat := cnt (fun b => nI b != but && alM f n (sB σ b) (sZ σ b)) (sN σ)
theorem M_alikeMany (W : RM h0 h F A R) (hL : LK F A f n) {p : Nat} {r : Nat → Int32} {σ : Sg} (hp : h.2 p = aI 61 r) (hS : RSm r σ) (hs : Sok σ) (but : Int32) (hQ : Q (some (.int (nI (alN f n σ but)))) h) : am_call (d + 4) 208 [.ref 152, .ref p, .int but] h Q := by
  have hN := hs.1
  refine en_X11_alikeMany (Nat.le_of_ble_eq_true rfl) (am_run (am_cK _) 4 ?_)
  refine am_loopC (fun i => (5, [some (.ref 152), some (.ref p), some (.int but), some (.int (nI (cnt (fun b => nI b != but && alM f n (sB σ b) (sZ σ b)) i))), some (.int (nI i))], [], 0, 0)) (sN σ) (fun i hi K => ?_) ?_ 0 (Nat.zero_le _)
  · refine am_run (am_cK _) 4 (am_ld hp 60 (by omega) ?_)
    rw [pk_cl (x := 60) 60, hS.1]
    refine am_run (am_cK _) 1 (pk_le (sN σ) i (fun c => by omega) (fun _ => ?_))
    have hz := hs.2.1 i hi
    have hr := hS.2.2.2 i hi
    rw [cnt, nI_succ] at K
    refine am_run (am_cK _) 4 (⟨fun e => ?_, fun e => ?_⟩)
    · rw [if_neg (by rw [e]; simp)] at K
      rw [← nI_add] at K
      exact am_run (am_cK _) 2 (M_flag0 (am_run (am_cK _) 4 (K)))
    · refine am_run (am_cK _) 4 (am_obj_in W.o ((M_isAlike W hL hp (by omega) hz.2.1 hr.1 hr.2 hz.2.2 ?_)))
      rw [show (nI i != but) = true by rw [bne_iff_ne]; exact e, Bool.true_and] at K
      cases hb : alM f n (sB σ i) (sZ σ i) with
      | false =>
        rw [hb, if_neg (by decide)] at K
        rw [← nI_add] at K
        exact am_run (am_cK _) 1 (⟨fun _ => am_run (am_cK _) 2 (M_flag0 (am_run (am_cK _) 4 (K))), fun c => absurd rfl c⟩)
      | true =>
        rw [hb, if_pos rfl, nI_succ] at K
        exact am_run (am_cK _) 1 (⟨fun c => absurd c n10, fun _ => am_run (am_cK _) 3 (M_flag1 (am_run (am_cK _) 4 (K)))⟩)
  · refine am_run (am_cK _) 4 (am_ld hp 60 (by omega) ?_)
    rw [pk_cl (x := 60) 60, hS.1]
    exact am_run (am_cK _) 1 (pk_le (sN σ) (sN σ) (fun c => am_run (am_cK _) 2 (hQ)) (fun c => by omega))
theorem M_period (W : RM h0 h F A R) (hL : LK F A f n) (hQ : Q (some (.int (nI (per f n)))) h) : am_call (d + 3) 209 [.ref 152] h Q := by
  have hL0 := hL
  obtain ⟨hl, hn0, hn, hg, hf⟩ := hL
  refine en_X11_period (Nat.le_of_ble_eq_true rfl) (am_run (am_cK _) 2 ?_)
  suffices H : ∀ k i, i + k = n → 1 ≤ i → Q (some (.int (nI (fnd (fun k => rk (rol f n k) n == rk f n) i k)))) h → am_wp (am_call (d + 2)) (0, 0) cm_X11_period Q (fun _ => False) (2, [some (.ref 152), some (.int (nI i))], [], 0, 0) h from H (n - 1) 1 (by omega) (by omega) hQ
  intro k
  induction k with
  | zero =>
    intro i hi h1 hq
    have e : i = n := by omega
    subst e
    refine am_run (am_cK _) 4 (am_obj_in W.o (am_run (am_cK _) 1 ?_))
    rw [hl]
    refine ⟨nI_ne0 (by omega) (by omega), ?_⟩
    rw [show nI i - nI i / nI i * nI i = nI (i % i) from pk_rem (by omega) (by omega) (by omega), Nat.mod_self]
    refine am_run (am_cK _) 2 (am_obj_in W.o ((M_compares (a := 0) (b := 0) W hL0 (by omega) (by omega) (fun v h1 h2 => ?_))))
    exact am_run (am_cK _) 1 (⟨fun _ => am_run (am_cK _) 2 (hq), fun c => absurd (h2.mpr rfl) c⟩)
  | succ k ih =>
    intro i hi h1 hq
    refine am_run (am_cK _) 4 (am_obj_in W.o (am_run (am_cK _) 1 ?_))
    rw [hl]
    refine ⟨nI_ne0 (by omega) (by omega), ?_⟩
    rw [show nI i - nI i / nI n * nI n = nI (i % n) from pk_rem (by omega) (by omega) (by omega), Nat.mod_eq_of_lt (by omega)]
    refine am_run (am_cK _) 2 (am_obj_in W.o ((M_compares (a := i) (b := 0) W hL0 (by omega) (by omega) (fun v g1 g2 => ?_))))
    rw [kT_roll (by omega), kT_0 hn0] at g2
    rw [fnd] at hq
    refine am_run (am_cK _) 1 (⟨fun c => ?_, fun c => ?_⟩)
    · rw [if_pos (by rw [beq_iff_eq]; exact g2.mp c)] at hq
      exact am_run (am_cK _) 2 (hq)
    · rw [if_neg (by rw [beq_iff_eq]; exact fun z => c (g2.mpr z))] at hq
      have z := ih (i + 1) (by omega) (by omega) hq
      rw [nI_succ] at z
      exact am_run (am_cK _) 2 (z)
theorem M_mirrors (W : RM h0 h F A R) (hL : LK F A f n) (hQ : Q (some (.int (nI (mir f n)))) h) : am_call (d + 3) 210 [.ref 152] h Q := by
  have hL0 := hL
  obtain ⟨hl, hn0, hn, hg, hf⟩ := hL
  refine en_X11_mirrors (Nat.le_of_ble_eq_true rfl) (am_run (am_cK _) 4 (am_obj_in W.o (am_run (am_cK _) 1 ?_)))
  rw [hl]
  refine am_loopC (fun i => (7, [some (.ref 152), some (.int (nI (cnt (fun k => rk (rol (flp f n) n k) n == rk f n) i))), some (.int (nI (n + i)))], [], 0, 0)) n (fun i hi K => ?_) ?_ 0 (Nat.zero_le _)
  · refine am_run (am_cK _) 4 (am_obj_in W.o (am_run (am_cK _) 2 ?_))
    rw [hl]
    refine pk_le (2 * n) (n + i) (fun c => by omega) (fun _ => ?_) (hx := two_n n)
    refine am_run (am_cK _) 5 (am_obj_in W.o ((M_compares (b := 0) W hL0 (by omega) (by omega) (fun v g1 g2 => ?_))))
    rw [kT_flip, kT_0 hn0] at g2
    rw [cnt, ← Nat.add_assoc, nI_succ (n + i)] at K
    refine am_run (am_cK _) 1 (⟨fun c => ?_, fun c => ?_⟩)
    · rw [if_neg (by rw [beq_iff_eq]; exact fun z => c (g2.mpr z))] at K
      rw [← nI_add] at K
      exact am_run (am_cK _) 2 (M_flag0 (am_run (am_cK _) 4 (K)))
    · rw [if_pos (by rw [beq_iff_eq]; exact g2.mp (Classical.not_not.mp c)), nI_succ] at K
      exact am_run (am_cK _) 3 (M_flag1 (am_run (am_cK _) 4 (K)))
  · refine am_run (am_cK _) 4 (am_obj_in W.o (am_run (am_cK _) 2 ?_))
    rw [hl]
    exact pk_le (2 * n) (n + n) (fun c => am_run (am_cK _) 2 (hQ)) (fun c => by omega) (hx := two_n n)
theorem M_mostOfOne (W : RM h0 h F A R) (hL : LK F A f n) (hQ : Q (some (.int (nI (mst f n)))) h) : am_call (d + 3) 211 [.ref 152] h Q := by
  have hn := hL.2.2.1
  refine en_X11_mostOfOne (Nat.le_of_ble_eq_true rfl) (am_run (am_cK _) 4 ?_)
  refine am_loopC (fun i => (4, [some (.ref 152), some (.int (nI (mxA f n i))), some (.int (nI i))], [], 0, 0)) 4 (fun i hi K => ?_) ?_ 0 (Nat.zero_le _)
  · refine am_run (am_cK _) 3 (pk_le 4 i (fun c => by omega) (fun _ => ?_))
    refine am_run (am_cK _) 4 (am_obj_in W.o ((M_ofLook W hL (by omega) ?_)))
    have h1 := mxA_le f n i
    have h2 := num_le f n i
    rw [mxA, nI_succ] at K
    exact am_run (am_cK _) 1 (J_max (by omega) (by omega) (am_run (am_cK _) 3 (K)))
  · exact am_run (am_cK _) 3 (pk_le 4 4 (fun _ => am_run (am_cK _) 2 (hQ)) (fun c => by omega))
theorem M_coloursOf (W : RM h0 h F A R) (hL : LK F A f n) (hQ : Q (some (.int (nI (cbt f n)))) h) : am_call (d + 3) 212 [.ref 152] h Q := by
  have hn := hL.2.2.1
  refine en_X11_coloursOf (Nat.le_of_ble_eq_true rfl) (am_run (am_cK _) 4 ?_)
  refine am_loopC (fun i => (4, [some (.ref 152), some (.int (nI (bts (fun c => decide (0 < num f n c)) i))), some (.int (nI i))], [], 0, 0)) 4 (fun i hi K => ?_) ?_ 0 (Nat.zero_le _)
  · refine am_run (am_cK _) 3 (pk_le 4 i (fun c => by omega) (fun _ => ?_))
    refine am_run (am_cK _) 4 (am_obj_in W.o ((M_ofLook W hL (by omega) ?_)))
    have h2 := num_le f n i
    have h3 := bts_lt (fun c => decide (0 < num f n c)) i
    rw [bts, nI_succ] at K
    refine am_run (am_cK _) 1 (pk_le (num f n i) 0 (fun c => ?_) (fun c => ?_))
    · rw [if_neg (by rw [decide_eq_true_eq]; omega)] at K
      have e : nI (bts (fun c => decide (0 < num f n c)) i) ||| 0 = nI (bts (fun c => decide (0 < num f n c)) i) := by
        have := q_or (bts (fun c => decide (0 < num f n c)) i) 0
        rw [Nat.or_zero] at this
        exact this
      rw [show nI (bts (fun c => decide (0 < num f n c)) i + 0) = nI (bts (fun c => decide (0 < num f n c)) i) ||| 0 from e.symm] at K
      exact am_run (am_cK _) 5 (K)
    · rw [if_pos (by rw [decide_eq_true_eq]; omega), ← q_orBit h3 (by omega)] at K
      exact am_run (am_cK _) 8 (K)
  · exact am_run (am_cK _) 3 (pk_le 4 4 (fun _ => am_run (am_cK _) 2 (hQ)) (fun c => by omega))
end
