/-! the start: what is only read lies as the abstract machine has it -/
def st_tm (i : Nat) : Term := .string (am_strs.getD i ("", 0, "", 0)).1 (am_strs.getD i ("", 0, "", 0)).2.1
def st_fl : List Cond := flatC (Jvm.Cond.and given_1 narrow_1)
def st_a : Nat → Int32 := fun i => ([0, 0, 4, 14, 34, 89, 225, 655, 1955] : List Int32).getD i 0
def st_f : Nat → Int32 := fun i => ([1, 1, 2, 6, 24, 120, 720, 5040, 40320, 362880, 3628800] : List Int32).getD i 0
def ro0 (L : Nat) (xs : Nat → Int32) : Nat → am_C := fun p => if p = 32 then .inl (.float, 9, .inl st_a) else if p = 33 then .inl (.float, 11, .inl st_f) else if p = 34 then .inl (.float, L, .inl xs) else .inr (50, [])
theorem ro0_S (L : Nat) (xs : Nat → Int32) : am_roS (ro0 L xs) := by
  intro p hp
  unfold ro0
  split
  · exact Or.inr ⟨_, _, rfl⟩
  · split
    · exact Or.inr ⟨_, _, rfl⟩
    · split
      · exact Or.inr ⟨_, _, rfl⟩
      · exact Or.inl rfl
theorem st_w1 : (Cond.arrayOf (.static RX4 "STARTS" "[I") .int ∈ st_fl ∧ Cond.eq (.length (.static RX4 "STARTS" "[I")) (.int (Int32.ofNat 9)) ∈ st_fl) ∧ ∀ j, j < 9 → Cond.eq (.elem (.static RX4 "STARTS" "[I") (.int (Int32.ofNat j))) (.int (st_a j)) ∈ st_fl := by decide +kernel
theorem st_w2 : (Cond.arrayOf (.static RX2 "FACTORIALS" "[I") .int ∈ st_fl ∧ Cond.eq (.length (.static RX2 "FACTORIALS" "[I")) (.int (Int32.ofNat 11)) ∈ st_fl) ∧ ∀ j, j < 11 → Cond.eq (.elem (.static RX2 "FACTORIALS" "[I") (.int (Int32.ofNat j))) (.int (st_f j)) ∈ st_fl := by decide +kernel
theorem st_w3 : ∀ i, i < 16 → Cond.exactly (st_tm i) "java/lang/String" ∈ st_fl ∧ Cond.eq (.field (st_tm i) "java/lang/String" "coder" "B") (.int 0) ∈ st_fl ∧ Cond.arrayOf (.field (st_tm i) "java/lang/String" "value" "[B") .byte ∈ st_fl ∧ Cond.eq (.length (.field (st_tm i) "java/lang/String" "value" "[B")) (.int (Int32.ofNat (am_lens.getD i 0))) ∈ st_fl := by decide +kernel
theorem st_w4 : ∀ i, i < 16 → ∀ j, j < am_lens.getD i 0 → Cond.eq (.elem (.field (st_tm i) "java/lang/String" "value" "[B") (.int (Int32.ofNat j))) (.int ((am_byts.getD i []).getD j 0)) ∈ st_fl := by decide +kernel
def st_in (w : Cond) : Bool := decide (w ∈ st_fl)
theorem st_use {w : Cond} (h : st_in w = true) : w ∈ st_fl := of_decide_eq_true h
theorem st_5_0 : (List.range 0).all (fun j => st_in (Cond.not (Cond.eq (st_tm j) (st_tm 0)))) = true := by decide +kernel
theorem st_5_1 : (List.range 1).all (fun j => st_in (Cond.not (Cond.eq (st_tm j) (st_tm 1)))) = true := by decide +kernel
theorem st_5_2 : (List.range 2).all (fun j => st_in (Cond.not (Cond.eq (st_tm j) (st_tm 2)))) = true := by decide +kernel
theorem st_5_3 : (List.range 3).all (fun j => st_in (Cond.not (Cond.eq (st_tm j) (st_tm 3)))) = true := by decide +kernel
theorem st_5_4 : (List.range 4).all (fun j => st_in (Cond.not (Cond.eq (st_tm j) (st_tm 4)))) = true := by decide +kernel
theorem st_5_5 : (List.range 5).all (fun j => st_in (Cond.not (Cond.eq (st_tm j) (st_tm 5)))) = true := by decide +kernel
theorem st_5_6 : (List.range 6).all (fun j => st_in (Cond.not (Cond.eq (st_tm j) (st_tm 6)))) = true := by decide +kernel
theorem st_5_7 : (List.range 7).all (fun j => st_in (Cond.not (Cond.eq (st_tm j) (st_tm 7)))) = true := by decide +kernel
theorem st_5_8 : (List.range 8).all (fun j => st_in (Cond.not (Cond.eq (st_tm j) (st_tm 8)))) = true := by decide +kernel
theorem st_5_9 : (List.range 9).all (fun j => st_in (Cond.not (Cond.eq (st_tm j) (st_tm 9)))) = true := by decide +kernel
theorem st_5_10 : (List.range 10).all (fun j => st_in (Cond.not (Cond.eq (st_tm j) (st_tm 10)))) = true := by decide +kernel
theorem st_5_11 : (List.range 11).all (fun j => st_in (Cond.not (Cond.eq (st_tm j) (st_tm 11)))) = true := by decide +kernel
theorem st_5_12 : (List.range 12).all (fun j => st_in (Cond.not (Cond.eq (st_tm j) (st_tm 12)))) = true := by decide +kernel
theorem st_5_13 : (List.range 13).all (fun j => st_in (Cond.not (Cond.eq (st_tm j) (st_tm 13)))) = true := by decide +kernel
theorem st_5_14 : (List.range 14).all (fun j => st_in (Cond.not (Cond.eq (st_tm j) (st_tm 14)))) = true := by decide +kernel
theorem st_5_15 : (List.range 15).all (fun j => st_in (Cond.not (Cond.eq (st_tm j) (st_tm 15)))) = true := by decide +kernel
theorem st_w5a : ∀ i, i < 16 → ∀ j, j < i → Cond.not (Cond.eq (st_tm j) (st_tm i)) ∈ st_fl := by
  intro i hi j hj
  have h : (List.range i).all (fun j => st_in (Cond.not (Cond.eq (st_tm j) (st_tm i)))) = true := by
    match i, hi with
    | 0, _ => exact st_5_0
    | 1, _ => exact st_5_1
    | 2, _ => exact st_5_2
    | 3, _ => exact st_5_3
    | 4, _ => exact st_5_4
    | 5, _ => exact st_5_5
    | 6, _ => exact st_5_6
    | 7, _ => exact st_5_7
    | 8, _ => exact st_5_8
    | 9, _ => exact st_5_9
    | 10, _ => exact st_5_10
    | 11, _ => exact st_5_11
    | 12, _ => exact st_5_12
    | 13, _ => exact st_5_13
    | 14, _ => exact st_5_14
    | 15, _ => exact st_5_15
    | k + 16, hk => exact absurd hk (by omega)
  exact st_use (List.all_eq_true.mp h j (List.mem_range.mpr hj))
theorem st_w5 : ∀ i, i < 16 → ∀ j, j < 16 → i ≠ j → Cond.not (Cond.eq (st_tm i) (st_tm j)) ∈ st_fl ∨ Cond.not (Cond.eq (st_tm j) (st_tm i)) ∈ st_fl := by
  intro i hi j hj hne
  rcases Nat.lt_or_gt_of_ne hne with h | h
  · exact Or.inl (st_w5a j hj i h)
  · exact Or.inr (st_w5a i hi j h)
theorem st_w6 : Cond.eq (.static "java/lang/String" "COMPACT_STRINGS" "Z") (.int 1) ∈ st_fl ∧ Cond.isRef (.static "jdk/internal/util/Preconditions" "SIOOBE_FORMATTER" "Ljava/util/function/BiFunction;") ∈ st_fl ∧ Cond.isRef (.static Bundle.tN "UNASSIGNED_STACK" Bundle.steD) ∈ st_fl ∧ Cond.isRef (.static Bundle.tN "SUPPRESSED_SENTINEL" Bundle.listD) ∈ st_fl := by decide +kernel
theorem st_w7 : ([.laysStatic RX4 "STARTS" "[I", .initialized RX4, .laysStatic RX2 "FACTORIALS" "[I", .initialized RX2, .laysStatic "java/lang/String" "COMPACT_STRINGS" "Z", .initialized "java/lang/String", .laysStatic "jdk/internal/util/Preconditions" "SIOOBE_FORMATTER" "Ljava/util/function/BiFunction;", .initialized "jdk/internal/util/Preconditions", .laysStatic Bundle.tN "UNASSIGNED_STACK" Bundle.steD, .initialized Bundle.tN, .laysStatic Bundle.tN "SUPPRESSED_SENTINEL" Bundle.listD, .arrayOver (.object RX7)] : List Cond).all (fun w => decide (w ∈ lw_tbl)) = true := by decide +kernel
theorem st_w8 : am_strs.all (fun q => decide (Cond.stringRef q.1 q.2.1 q.2.2.1 ∈ lw_tbl)) = true := by decide +kernel
theorem st_w9 : am_nst.all (fun q => decide (Cond.methodLinkNest q.1 q.2.1 q.2.2 "BeadRings" ∈ lw_tbl)) = true := by decide +kernel
theorem st_w10 : ([.declares (Bundle.initS "java/lang/RuntimeException"), .declares (Bundle.initS "java/lang/Exception"), .declares (Bundle.initS Bundle.tN), .castable "java/util/NoSuchElementException" "java/util/NoSuchElementException"] : List Cond).all (fun w => decide (w ∈ lw_tbl)) = true := by decide +kernel
theorem st_num : ∀ q ∈ am_strs, q.2.2.2 < 16 ∧ st_tm q.2.2.2 = .string q.1 q.2.1 := by decide +kernel
theorem st_len31 : ∀ i, i < 16 → am_lens.getD i 0 < 2 ^ 31 := by decide +kernel
set_option maxHeartbeats 4000000 in
theorem st_RO {b L : Nat} {xs : Nat → Int32} {s : State} (hL : L ≤ 2560) (hts : ∀ w ∈ lw_tbl, w.before #[Value.ref b] s = true) (hX : va_X b L xs s s.heap) (hbl : b < s.heap.size) (hgv : (Jvm.Cond.and given_1 narrow_1).before #[Value.ref b] s = true) :
    ∃ ad : Nat → Nat, ad 34 = b ∧ am_RO (ro0 L xs) ad (fun q => s.heap.size ≤ q) s s.heap := by
  have hs : ∀ w ∈ st_fl, w.before #[Value.ref b] s = true := flat_of_before _ hgv
  have hA : ∀ a : Nat, a < s.heap.size → ¬ (fun q : Nat => s.heap.size ≤ q) a := fun a h => Nat.not_le.mpr h
  have w7 : ∀ w ∈ ([.laysStatic RX4 "STARTS" "[I", .initialized RX4, .laysStatic RX2 "FACTORIALS" "[I", .initialized RX2, .laysStatic "java/lang/String" "COMPACT_STRINGS" "Z", .initialized "java/lang/String", .laysStatic "jdk/internal/util/Preconditions" "SIOOBE_FORMATTER" "Ljava/util/function/BiFunction;", .initialized "jdk/internal/util/Preconditions", .laysStatic Bundle.tN "UNASSIGNED_STACK" Bundle.steD, .initialized Bundle.tN, .laysStatic Bundle.tN "SUPPRESSED_SENTINEL" Bundle.listD, .arrayOver (.object RX7)] : List Cond), w.before #[Value.ref b] s = true := fun w hw => hts w (of_decide_eq_true (List.all_eq_true.mp st_w7 w hw))
  obtain ⟨t1, v1, T1⟩ := va_Tof (N := 9) (f := fun j => .int (st_a j)) (A := fun q => s.heap.size ≤ q) (by decide) (hs _ st_w1.1.1) (va_eqt (hs _ st_w1.1.2)) (fun j hj => va_eqt (hs _ (st_w1.2 j hj))) hA
  obtain ⟨t2, v2, T2⟩ := va_Tof (N := 11) (f := fun j => .int (st_f j)) (A := fun q => s.heap.size ≤ q) (by decide) (hs _ st_w2.1.1) (va_eqt (hs _ st_w2.1.2)) (fun j hj => va_eqt (hs _ (st_w2.2 j hj))) hA
  obtain ⟨adK, adV, hV, hE⟩ := vk_Sof (args := #[Value.ref b]) (s := s) (N := 16) (tm := st_tm) (len := am_lens) (byt := am_byts) (A := fun q => s.heap.size ≤ q) st_len31 (fun i hi => hs _ (st_w3 i hi).1) (fun i hi => hs _ (st_w3 i hi).2.1) (fun i hi => hs _ (st_w3 i hi).2.2.1) (fun i hi => hs _ (st_w3 i hi).2.2.2) (fun i hi j hj => hs _ (st_w4 i hi j hj))
    (fun i j hi hj hij => (st_w5 i hi j hj hij).imp (hs _) (hs _)) hA
  obtain ⟨ad, hk, h32, h33, h34⟩ : ∃ ad : Nat → Nat, (∀ i, i < 16 → ad i = adK i) ∧ ad 32 = t1 ∧ ad 33 = t2 ∧ ad 34 = b := ⟨fun i => if i < 16 then adK i else if i = 32 then t1 else if i = 33 then t2 else b, fun i hi => if_pos hi, rfl, rfl, rfl⟩
  refine ⟨ad, h34, fun p n f hp e => ?_, ?_, ?_, fun q hq => ?_, ⟨adV, fun i hi => ?_, fun i j hi hj e => ?_⟩, va_Zof (w7 _ (by simp)) (w7 _ (by simp)) (va_eqt (hs _ st_w6.1)) hA, va_Zqof (w7 _ (by simp)) (w7 _ (by simp)) (hs _ st_w6.2.1) hA, vx_Zqof (w7 _ (by simp)) (w7 _ (by simp)) (hs _ st_w6.2.2.1) hA, vx_Zqof (w7 _ (by simp)) (w7 _ (by simp)) (hs _ st_w6.2.2.2) hA,
    fun q hq => va_Nw.of rfl (hts _ (of_decide_eq_true (List.all_eq_true.mp st_w9 q hq))), va_AO.of (w7 _ (by simp)), ?_⟩
  · unfold ro0 at e
    split at e
    · rename_i c; subst c
      cases e
      rw [h32]; exact T1
    · split at e
      · rename_i c; subst c
        cases e
        rw [h33]; exact T2
      · split at e
        · rename_i c; subst c
          cases e
          obtain ⟨scr, x1, x2, x3, x4, x5⟩ := hX
          rw [h34]
          exact ⟨scr, x1, x2, x3, Nat.le_of_eq x4.symm, by rw [x4], x5, hA b hbl⟩
        · cases e
  · rw [h32]; exact va_Zref (w7 _ (by simp)) (w7 _ (by simp)) v1 hA
  · rw [h33]; exact va_Zref (w7 _ (by simp)) (w7 _ (by simp)) v2 hA
  · obtain ⟨n1, n2⟩ := st_num q hq
    rw [hk _ n1]
    exact vk_R.of (hts _ (of_decide_eq_true (List.all_eq_true.mp st_w8 q hq))) (by rw [← n2]; exact hE _ n1)
  · rw [hk i hi]; exact hV.1 i hi
  · rw [hk i hi, hk j hj] at e; exact hV.2 i j hi hj e
  · have w10 : ∀ w ∈ ([.declares (Bundle.initS "java/lang/RuntimeException"), .declares (Bundle.initS "java/lang/Exception"), .declares (Bundle.initS Bundle.tN), .castable "java/util/NoSuchElementException" "java/util/NoSuchElementException"] : List Cond), w.before #[Value.ref b] s = true := fun w hw => hts w (of_decide_eq_true (List.all_eq_true.mp st_w10 w hw))
    exact ⟨va_Nw.of rfl (w10 _ (by simp)), va_Nw.of rfl (w10 _ (by simp)), va_Nw.of rfl (w10 _ (by simp)), va_Nw.of rfl (w10 _ (by simp))⟩
theorem st_ins (k : Nat) (hk : k < 9) : ∀ C T N, vwCl[k]? = some (C, T, N) → Cond.instantiable C N ∈ am_gt := by
  intro C T N e
  match k, hk, e with
  | 0, _, e => cases e; exact am_inT_use (by decide +kernel)
  | 1, _, e => cases e; exact am_inT_use (by decide +kernel)
  | 2, _, e => cases e; exact am_inT_use (by decide +kernel)
  | 3, _, e => cases e; exact am_inT_use (by decide +kernel)
  | 4, _, e => cases e; exact am_inT_use (by decide +kernel)
  | 5, _, e => cases e; exact am_inT_use (by decide +kernel)
  | 6, _, e => cases e; exact am_inT_use (by decide +kernel)
  | 7, _, e => cases e; exact am_inT_use (by decide +kernel)
  | 8, _, e => cases e; exact am_inT_use (by decide +kernel)
theorem st_arr : ([.arrayClass .int, .arrayClass .char, .arrayClass .boolean, .arrayClass .long] : List Cond).all am_inT = true := by decide +kernel
theorem st_K {args : Array Value} {s : State} (hts : ∀ w ∈ am_gt, w.before args s = true) (hao : va_AO RX7 s) : ∃ (D : va_G) (dA : Nat → ClassId), va_K D vwCl (am_tys dA) s := by
  have hc : ∀ ci : Nat, ∃ q : ClassId × (Nat → Nat), ∀ C T N, vwCl[ci]? = some (C, T, N) → u_Kn s C T N q.1 q.2 := by
    intro ci
    cases hq : vwCl[ci]? with
    | none => exact ⟨(0, fun _ => 0), fun C T N e => by cases e⟩
    | some q =>
      obtain ⟨C, T, N⟩ := q
      obtain ⟨c, iS, hk⟩ := u_known hts (am_gin ci (am_ci9 hq) C T N hq) (hts _ (st_ins ci (am_ci9 hq) C T N hq))
      exact ⟨(c, iS), fun C' T' N' e => by cases e; exact hk⟩
  obtain ⟨f, hf⟩ := Classical.axiomOfChoice hc
  have harr : ∀ ty, (Cond.arrayClass ty).before args s = true → (∀ C, ty ≠ .object C) → ∃ cA, ArrOfT s cA ty ∧ va_RA s cA ty := by
    intro ty h hno
    obtain ⟨c, k, comp, h1, h2, h3⟩ := Cond.arrayClass_spec h
    refine ⟨c, fun n z => ⟨fun k h => (by cases h), k, h2, comp, h3⟩, ?_⟩
    cases ty with
    | object C => exact absurd rfl (hno C)
    | _ => exact h1
  have ha : ∀ w ∈ ([.arrayClass .int, .arrayClass .char, .arrayClass .boolean, .arrayClass .long] : List Cond), w.before args s = true := fun w hw => hts w (am_inT_use (List.all_eq_true.mp st_arr w hw))
  obtain ⟨c0, i0⟩ := harr .int (ha _ (by simp)) (fun C h => by cases h)
  obtain ⟨c1, i1⟩ := harr .char (ha _ (by simp)) (fun C h => by cases h)
  obtain ⟨c2, i2⟩ := harr .boolean (ha _ (by simp)) (fun C h => by cases h)
  obtain ⟨c3, i3⟩ := harr .long (ha _ (by simp)) (fun C h => by cases h)
  obtain ⟨comp, c4, k4, f4, -, f2, f3, f1⟩ := Cond.arrayOver_spec hao
  have i4 : ArrOfT s c4 (.object RX7) ∧ va_RA s c4 (.object RX7) := ⟨fun n z => ⟨fun k h => (by cases h), k4, f2, comp, f3⟩, k4, comp, f2, f3, f4, f1⟩
  refine ⟨(fun c => (f c).1, fun c => (f c).2), fun k => match k with | 0 => c0 | 1 => c1 | 2 => c2 | 3 => c3 | _ => c4, fun c q hq => hf c q.1 q.2.1 q.2.2 hq, fun k q hq => ?_⟩
  match k, hq with
  | 0, hq => cases hq; exact i0
  | 1, hq => cases hq; exact i1
  | 2, hq => cases hq; exact i2
  | 3, hq => cases hq; exact i3
  | 4, hq => cases hq; exact i4
  | k + 5, hq => simp [am_tys] at hq
