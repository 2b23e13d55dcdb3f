/-! THE MODEL: its object at 152, its arrays from 153 on; F its numbers, A its arrays, R its row -/
def mFl (F : Nat → Int32) : List Value := [.int (F 0), .int (F 1), .ref 153, .ref 154, .ref 155, .ref 156, .int (F 6), .int (F 7), .int (F 8), .int (F 9), .ref 157, .int (F 11), .ref 158, .int (F 13), .ref 159, .ref 160, .int (F 16), .int (F 17), .ref 161, .ref 162, .int (F 20), .ref 163, .ref 164, .ref 165, .ref 166, .ref 167, .ref 168, .int (F 27), .ref 169, .int (F 29), .int (F 30), .ref 170, .ref 171, .int (F 33), .ref 172, .ref 173, .int (F 36), .ref 174, .ref 175, .ref 176, .ref 177, .ref 178, .int (F 42), .ref 179, .ref 180]
def mLn (k : Nat) : Nat := [24, 61, 61, 80, 10, 10, 80, 80, 80, 7, 976, 10, 60, 60, 60, 60, 4, 16, 16, 10, 10, 12, 12, 41, 64, 80, 3, 183].getD (k - 153) 0
def mTy (k : Nat) : FieldType := if k = 171 ∨ k = 177 ∨ k = 179 then .boolean else .int
/-- nothing but the model's own has changed -/
def Fy (h h' : am_H) : Prop := h'.1 = h.1 ∧ ∀ x, (x < 152 ∨ 181 ≤ x) → h'.2 x = h.2 x
theorem Fy.rf {h : am_H} : Fy h h := ⟨rfl, fun _ _ => rfl⟩
theorem Fy.tr {h h1 h2 : am_H} (x : Fy h h1) (y : Fy h1 h2) : Fy h h2 := ⟨y.1.trans x.1, fun q hq => (y.2 q hq).trans (x.2 q hq)⟩
abbrev aL (n : Nat) (f : Nat → Int64) : am_C := .inl (.long, n, .inr (.inl f))
def RM (h0 h : am_H) (F : Nat → Int32) (A : Nat → Nat → Int32) (R : Nat → Int64) : Prop := Fy h0 h ∧ h.2 152 = .inr (8, mFl F) ∧ h.2 153 = aL 24 R ∧ ∀ k, 154 ≤ k → k ≤ 180 → h.2 k = .inl (mTy k, mLn k, .inl (A k))
section
variable {h0 h : am_H} {F : Nat → Int32} {A : Nat → Nat → Int32} {R : Nat → Int64}
theorem RM.y (W : RM h0 h F A R) : Fy h0 h := W.1
theorem RM.o (W : RM h0 h F A R) : h.2 152 = .inr (8, mFl F) := W.2.1
theorem RM.r (W : RM h0 h F A R) : h.2 153 = aL 24 R := W.2.2.1
theorem RM.a154 (W : RM h0 h F A R) : h.2 154 = aI 61 (A 154) := W.2.2.2 154 (by decide) (by decide)
theorem RM.a155 (W : RM h0 h F A R) : h.2 155 = aI 61 (A 155) := W.2.2.2 155 (by decide) (by decide)
theorem RM.a156 (W : RM h0 h F A R) : h.2 156 = aI 80 (A 156) := W.2.2.2 156 (by decide) (by decide)
theorem RM.a157 (W : RM h0 h F A R) : h.2 157 = aI 10 (A 157) := W.2.2.2 157 (by decide) (by decide)
theorem RM.a158 (W : RM h0 h F A R) : h.2 158 = aI 10 (A 158) := W.2.2.2 158 (by decide) (by decide)
theorem RM.a159 (W : RM h0 h F A R) : h.2 159 = aI 80 (A 159) := W.2.2.2 159 (by decide) (by decide)
theorem RM.a160 (W : RM h0 h F A R) : h.2 160 = aI 80 (A 160) := W.2.2.2 160 (by decide) (by decide)
theorem RM.a161 (W : RM h0 h F A R) : h.2 161 = aI 80 (A 161) := W.2.2.2 161 (by decide) (by decide)
theorem RM.a162 (W : RM h0 h F A R) : h.2 162 = aI 7 (A 162) := W.2.2.2 162 (by decide) (by decide)
theorem RM.a163 (W : RM h0 h F A R) : h.2 163 = aI 976 (A 163) := W.2.2.2 163 (by decide) (by decide)
theorem RM.a164 (W : RM h0 h F A R) : h.2 164 = aI 10 (A 164) := W.2.2.2 164 (by decide) (by decide)
theorem RM.a165 (W : RM h0 h F A R) : h.2 165 = aI 60 (A 165) := W.2.2.2 165 (by decide) (by decide)
theorem RM.a166 (W : RM h0 h F A R) : h.2 166 = aI 60 (A 166) := W.2.2.2 166 (by decide) (by decide)
theorem RM.a167 (W : RM h0 h F A R) : h.2 167 = aI 60 (A 167) := W.2.2.2 167 (by decide) (by decide)
theorem RM.a168 (W : RM h0 h F A R) : h.2 168 = aI 60 (A 168) := W.2.2.2 168 (by decide) (by decide)
theorem RM.a169 (W : RM h0 h F A R) : h.2 169 = aI 4 (A 169) := W.2.2.2 169 (by decide) (by decide)
theorem RM.a170 (W : RM h0 h F A R) : h.2 170 = aI 16 (A 170) := W.2.2.2 170 (by decide) (by decide)
theorem RM.a171 (W : RM h0 h F A R) : h.2 171 = aB 16 (A 171) := W.2.2.2 171 (by decide) (by decide)
theorem RM.a172 (W : RM h0 h F A R) : h.2 172 = aI 10 (A 172) := W.2.2.2 172 (by decide) (by decide)
theorem RM.a173 (W : RM h0 h F A R) : h.2 173 = aI 10 (A 173) := W.2.2.2 173 (by decide) (by decide)
theorem RM.a174 (W : RM h0 h F A R) : h.2 174 = aI 12 (A 174) := W.2.2.2 174 (by decide) (by decide)
theorem RM.a175 (W : RM h0 h F A R) : h.2 175 = aI 12 (A 175) := W.2.2.2 175 (by decide) (by decide)
theorem RM.a176 (W : RM h0 h F A R) : h.2 176 = aI 41 (A 176) := W.2.2.2 176 (by decide) (by decide)
theorem RM.a177 (W : RM h0 h F A R) : h.2 177 = aB 64 (A 177) := W.2.2.2 177 (by decide) (by decide)
theorem RM.a178 (W : RM h0 h F A R) : h.2 178 = aI 80 (A 178) := W.2.2.2 178 (by decide) (by decide)
theorem RM.a179 (W : RM h0 h F A R) : h.2 179 = aB 3 (A 179) := W.2.2.2 179 (by decide) (by decide)
theorem RM.a180 (W : RM h0 h F A R) : h.2 180 = aI 183 (A 180) := W.2.2.2 180 (by decide) (by decide)
def mIs (i : Nat) : Bool := [0, 1, 6, 7, 8, 9, 11, 13, 16, 17, 20, 27, 29, 30, 33, 36, 42].contains i
theorem mFl_set {i : Nat} {x : Int32} (hi : mIs i = true) : (mFl F).set i (.int x) = mFl (upd F i x) := by
  have key : i = 0 ∨ i = 1 ∨ i = 6 ∨ i = 7 ∨ i = 8 ∨ i = 9 ∨ i = 11 ∨ i = 13 ∨ i = 16 ∨ i = 17 ∨ i = 20 ∨ i = 27 ∨ i = 29 ∨ i = 30 ∨ i = 33 ∨ i = 36 ∨ i = 42 := by
    unfold mIs at hi
    simp only [List.contains_eq_mem, decide_eq_true_eq, List.mem_cons, List.not_mem_nil, or_false] at hi
    exact hi
  rcases key with rfl | rfl | rfl | rfl | rfl | rfl | rfl | rfl | rfl | rfl | rfl | rfl | rfl | rfl | rfl | rfl | rfl <;> rfl
/-- a number is put -/
theorem am_putI {i : Nat} {x : Int32} {k : am_H → Prop} (W : RM h0 h F A R) (hi : mIs i = true) (hl : i < 45) (H : ∀ h', RM h0 h' (upd F i x) A R → k h') : am_obj h 152 8 (fun fs => if i < fs.length then am_fit 0 (.int x) (k (am_set h 152 (.inr (8, fs.set i (.int x))))) else False) := by
  refine am_obj_in W.o ?_
  show if i < (mFl F).length then am_fit 0 (.int x) (k (am_set h 152 (.inr (8, (mFl F).set i (.int x))))) else False
  rw [if_pos (show i < (mFl F).length from hl), mFl_set hi]
  refine H _ ⟨⟨W.y.1, fun q hq => (as_n (by omega)).trans (W.y.2 q hq)⟩, as_s, (as_n (by omega)).trans W.r, fun q h1 h2 => (as_n (by omega)).trans (W.2.2.2 q h1 h2)⟩
theorem RM_set {p : Nat} {f : Nat → Int32} (W : RM h0 h F A R) (h1 : 154 ≤ p) (h2 : p ≤ 180) : RM h0 (am_set h p (.inl (mTy p, mLn p, .inl f))) F (va_up A p f) R := by
  refine ⟨⟨W.y.1, fun q hq => (as_n (by omega)).trans (W.y.2 q hq)⟩, (as_n (by omega)).trans W.o, (as_n (by omega)).trans W.r, fun q q1 q2 => ?_⟩
  by_cases e : q = p
  · subst e; rw [am_up_s]; exact as_s
  · rw [am_up_n e]; exact (as_n e).trans (W.2.2.2 q q1 q2)
/-- a number is written into an array -/
theorem am_stI {p j : Nat} {i x : Int32} {k : am_H → Prop} (W : RM h0 h F A R) (e : i = nI j) (hj : j < mLn p) (hp : (decide (154 ≤ p ∧ p ≤ 180) && decide (mTy p = .int)) = true) (H : ∀ h', RM h0 h' F (va_up A p (upd (A p) j x)) R → k h') : am_ari h p .int (fun n f => vp_in i n ∧ k (am_set h p (.inl (.int, n, .inl (upd f i.toNatClampNeg x))))) := by
  rw [Bool.and_eq_true, decide_eq_true_eq, decide_eq_true_eq] at hp
  obtain ⟨⟨p1, p2⟩, p3⟩ := hp
  have hr := W.2.2.2 p p1 p2
  rw [p3] at hr
  have hL : mLn p < 2 ^ 31 := by
    unfold mLn
    have : ∀ q, q < 28 → [24, 61, 61, 80, 10, 10, 80, 80, 80, 7, 976, 10, 60, 60, 60, 60, 4, 16, 16, 10, 10, 12, 12, 41, 64, 80, 3, 183].getD q 0 < 2 ^ 31 := by decide
    exact this _ (by omega)
  subst e
  refine am_ari_in hr ⟨vp_in_nI hj hL, ?_⟩
  rw [nI_clamp (by omega)]
  have w := RM_set (f := upd (A p) j x) W p1 p2
  rw [p3] at w
  exact H _ w
theorem am_stB {p j : Nat} {i x : Int32} {k : am_H → Prop} (W : RM h0 h F A R) (e : i = nI j) (hj : j < mLn p) (hp : (decide (154 ≤ p ∧ p ≤ 180) && decide (mTy p = .boolean)) = true) (hx : x = 0 ∨ x = 1) (H : ∀ h', RM h0 h' F (va_up A p (upd (A p) j x)) R → k h') : am_ari h p .boolean (fun n f => vp_in i n ∧ k (am_set h p (.inl (.boolean, n, .inl (upd f i.toNatClampNeg (vp_nar .boolean x)))))) := by
  rw [Bool.and_eq_true, decide_eq_true_eq, decide_eq_true_eq] at hp
  obtain ⟨⟨p1, p2⟩, p3⟩ := hp
  have hr := W.2.2.2 p p1 p2
  rw [p3] at hr
  have hL : mLn p < 2 ^ 31 := by
    unfold mLn
    have : ∀ q, q < 28 → [24, 61, 61, 80, 10, 10, 80, 80, 80, 7, 976, 10, 60, 60, 60, 60, 4, 16, 16, 10, 10, 12, 12, 41, 64, 80, 3, 183].getD q 0 < 2 ^ 31 := by decide
    exact this _ (by omega)
  subst e
  refine am_ari_in hr ⟨vp_in_nI hj hL, ?_⟩
  rw [nI_clamp (by omega), show vp_nar .boolean x = x by rcases hx with rfl | rfl <;> rfl]
  have w := RM_set (f := upd (A p) j x) W p1 p2
  rw [p3] at w
  exact H _ w
theorem am_stL {j : Nat} {i : Int32} {x : Int64} {k : am_H → Prop} (W : RM h0 h F A R) (e : i = nI j) (hj : j < 24) (H : ∀ h', RM h0 h' F A (vp_updL R j x) → k h') : am_arl h 153 (fun n f => vp_in i n ∧ k (am_set h 153 (.inl (.long, n, .inr (.inl (vp_updL f i.toNatClampNeg x)))))) := by
  subst e
  refine am_arl_in W.r ⟨vp_in_nI hj (by omega), ?_⟩
  rw [nI_clamp (by omega)]
  exact H _ ⟨⟨W.y.1, fun q hq => (as_n (by omega)).trans (W.y.2 q hq)⟩, (as_n (by omega)).trans W.o, as_s, fun q h1 h2 => (as_n (by omega)).trans (W.2.2.2 q h1 h2)⟩
end
/-- a number is read out of an array -/
theorem am_ld {h : am_H} {p L : Nat} {i : Int32} {g : Nat → Int32} {K : Nat → (Nat → Int32) → Prop} (hp : h.2 p = aI L g) (j : Nat) (hj : j < L) (H : K L g) (e : i = nI j := by rfl) (hL : L < 2 ^ 31 := by omega) : am_rdi h p (fun n f => vp_in i n ∧ K n f) := am_rdi_in hp ⟨pk_in j L hj e hL, H⟩
theorem am_ldB {h : am_H} {p L : Nat} {i : Int32} {g : Nat → Int32} {K : Nat → (Nat → Int32) → Prop} (hp : h.2 p = aB L g) (j : Nat) (hj : j < L) (H : K L g) (e : i = nI j := by rfl) (hL : L < 2 ^ 31 := by omega) : am_ari h p .boolean (fun n f => vp_in i n ∧ K n f) := am_ari_in hp ⟨pk_in j L hj e hL, H⟩
theorem am_ldL {h : am_H} {p L : Nat} {i : Int32} {g : Nat → Int64} {K : Nat → (Nat → Int64) → Prop} (hp : h.2 p = aL L g) (j : Nat) (hj : j < L) (H : K L g) (e : i = nI j := by rfl) (hL : L < 2 ^ 31 := by omega) : am_arl h p (fun n f => vp_in i n ∧ K n f) := am_arl_in hp ⟨pk_in j L hj e hL, H⟩
/-- loops -/
theorem am_loop {call : am_K} {lim : Nat × Nat} {M : am_M} {Q : Option Value → am_H → Prop} {X : am_H → Prop} (S : Nat → am_F) (I : Nat → am_H → Prop) (N : Nat) (hstep : ∀ i h, i < N → I i h → (∀ h', I (i + 1) h' → am_wp call lim M Q X (S (i + 1)) h') → am_wp call lim M Q X (S i) h) (hend : ∀ h, I N h → am_wp call lim M Q X (S N) h) : ∀ i h, i ≤ N → I i h → am_wp call lim M Q X (S i) h := by
  have key : ∀ k i h, i + k = N → I i h → am_wp call lim M Q X (S i) h := by
    intro k
    induction k with
    | zero => intro i h e hI; have : i = N := by omega
              subst this; exact hend h hI
    | succ k ih => intro i h e hI; exact hstep i h (by omega) hI (fun h' hI' => ih (i + 1) h' (by omega) hI')
  exact fun i h hi hI => key (N - i) i h (by omega) hI
theorem am_loopC {call : am_K} {lim : Nat × Nat} {M : am_M} {Q : Option Value → am_H → Prop} {X : am_H → Prop} {h : am_H} (S : Nat → am_F) (N : Nat) (hstep : ∀ i, i < N → am_wp call lim M Q X (S (i + 1)) h → am_wp call lim M Q X (S i) h) (hend : am_wp call lim M Q X (S N) h) : ∀ i, i ≤ N → am_wp call lim M Q X (S i) h := by
  have key : ∀ k i, i + k = N → am_wp call lim M Q X (S i) h := by
    intro k
    induction k with
    | zero => intro i e; have : i = N := by omega
              subst this; exact hend
    | succ k ih => intro i e; exact hstep i (by omega) (ih (i + 1) (by omega))
  exact fun i hi => key (N - i) i (by omega)
/-- the heap stays; j is what else changes -/
theorem am_loopP {α : Type} {call : am_K} {lim : Nat × Nat} {M : am_M} {Q : Option Value → am_H → Prop} {X : am_H → Prop} {h : am_H} (S : Nat → α → am_F) (P : Nat → α → Prop) (N : Nat) (hstep : ∀ i j, i < N → P i j → (∀ j', P (i + 1) j' → am_wp call lim M Q X (S (i + 1) j') h) → am_wp call lim M Q X (S i j) h) (hend : ∀ j, P N j → am_wp call lim M Q X (S N j) h) : ∀ i j, i ≤ N → P i j → am_wp call lim M Q X (S i j) h := by
  have key : ∀ k i j, i + k = N → P i j → am_wp call lim M Q X (S i j) h := by
    intro k
    induction k with
    | zero => intro i j e hI; have : i = N := by omega
              subst this; exact hend j hI
    | succ k ih => intro i j e hI; exact hstep i j (by omega) hI (fun j' hI' => ih (i + 1) j' (by omega) hI')
  exact fun i j hi hI => key (N - i) i j (by omega) hI
theorem am_lp {α : Type} {call : am_K} {lim : Nat × Nat} {M : am_M} {Q : Option Value → am_H → Prop} {X : am_H → Prop} (S : Nat → α → am_F) (I : Nat → α → am_H → Prop) (N : Nat) (hstep : ∀ i j h, i < N → I i j h → (∀ j' h', I (i + 1) j' h' → am_wp call lim M Q X (S (i + 1) j') h') → am_wp call lim M Q X (S i j) h) (hend : ∀ j h, I N j h → am_wp call lim M Q X (S N j) h) : ∀ i j h, i ≤ N → I i j h → am_wp call lim M Q X (S i j) h := by
  have key : ∀ k i j h, i + k = N → I i j h → am_wp call lim M Q X (S i j) h := by
    intro k
    induction k with
    | zero => intro i j h e hI; have : i = N := by omega
              subst this; exact hend j h hI
    | succ k ih => intro i j h e hI; exact hstep i j h (by omega) hI (fun j' h' hI' => ih (i + 1) j' h' (by omega) hI')
  exact fun i j h hi hI => key (N - i) i j h (by omega) hI
