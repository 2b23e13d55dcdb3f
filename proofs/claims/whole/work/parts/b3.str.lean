/-! String's own methods: length, charAt, isEmpty, over the texts -/
def rS (k : Nat) : Room := { frames := k, cells := 0, slots := 0, locals := 40 * k }
abbrev aSz (sz : Nat) : Nat → Prop := fun q => sz ≤ q
def sW (adK adV : Nat → Nat) (A : Nat → Prop) (U : State) (H : Heap) : Prop := vk_S 16 am_lens am_byts adK adV A U H ∧ va_Z "java/lang/String" "COMPACT_STRINGS" "Z" (.int 1) A U H ∧ va_Zq "jdk/internal/util/Preconditions" "SIOOBE_FORMATTER" "Ljava/util/function/BiFunction;" A U H
theorem sW_go {adK adV : Nat → Nat} {A B : Nat → Prop} {s U : State} {H0 H : Heap} (h : sW adK adV A s H0) (hvm : s.vm.Alike U.vm) (hk : ∀ a : Nat, a < H0.size → ¬ A a → H[a]? = H0[a]?) (hAB : ∀ q, B q → A q) : sW adK adV B U H := ⟨((h.1.moved hvm).kept hk).narrow hAB, ((h.2.1.moved hvm).kept hk).narrow hAB, ((h.2.2.moved hvm).kept hk).narrow hAB⟩
def sPc (adK adV : Nat → Nat) (sz : Nat) (as : List Value) : Array Value → State → Prop := fun a U => a = as.toArray ∧ U.heap.size = sz ∧ sW adK adV (aSz sz) U U.heap
theorem sPc_blind {adK adV : Nat → Nat} {sz : Nat} {as : List Value} : FrameBlind (sPc adK adV sz as) := fun a U g mk ⟨h1, h2, h3⟩ => ⟨h1, h2, sW_go (s := U) (U := U.calling g mk a) h3 (Vm.Alike.refl U.vm) (fun _ _ _ => rfl) (fun _ z => z)⟩
/-- what a callee starts from -/
theorem sPc_go {adK adV : Nat → Nat} {A : Nat → Prop} {s : State} {H : Heap} {locs : List Loc} {as : List Value} (h : sW adK adV A s s.heap) (hA : ∀ q, s.heap.size ≤ q → A q) (hS : va_S A s.heap H locs) : ∀ U : State, U.heap = H → s.WarmedH U.vm → sPc adK adV H.size as as.toArray U := fun U hU hW => ⟨rfl, by rw [hU], by rw [hU]; exact sW_go h hW.alike hS.2.1 (fun q hq => hA q (Nat.le_trans hS.1 hq))⟩
abbrev sQ (sz : Nat) (r : Int32) : Array Value → State → Outcome → State → Prop := va_Qi (S := Unit) (fun x _ => x = r) (fun _ _ => True) (aSz sz)
abbrev sQv (sz : Nat) : Array Value → State → Outcome → State → Prop := va_Qv (S := Unit) (fun _ => True) (fun _ _ => True) (aSz sz)
def sw (y : MethodName) (cc : ByteArray) (ml : Nat) (rt : Option FieldType) : List Cond := .code y cc ml rt :: am_gt
theorem sw_good {y : MethodName} {cc : ByteArray} {ml : Nat} {rt : Option FieldType} (h : Cond.code y cc ml rt ∈ am_gt) : GoodIn am_gt (sw y cc ml rt) := fun w hw => by
  rcases List.mem_cons.mp hw with e | e
  · rw [e]; exact ⟨h, am_good h⟩
  · exact ⟨e, am_good e⟩
def stW : List Cond := [.fieldLink "java/lang/String" 9 "java/lang/String" "value" "[B", .fieldLink "java/lang/String" 15 "java/lang/String" "coder" "B", .fieldLink "java/lang/String" 38 "java/lang/String" "COMPACT_STRINGS" "Z", .methodLink "java/lang/String" 335 yJ0_coder_7d493, .methodLink "java/lang/String" 492 yJ0_isLatin1_aae02, .methodLink "java/lang/String" 495 yJ1_charAt_3b067, .methodLink "java/lang/StringLatin1" 9 yJ0_checkIndex_df160, .methodLink "java/lang/String" 1059 yJ3_checkIndex_8e157, .initialized "java/lang/String", .initialized "java/lang/StringLatin1", .initialized "jdk/internal/util/Preconditions", .instanceMethod yJ0_coder_7d493, .selects "java/lang/String" yJ0_coder_7d493 yJ0_coder_7d493, .instanceMethod yJ0_isLatin1_aae02, .selects "java/lang/String" yJ0_isLatin1_aae02 yJ0_isLatin1_aae02, .static yJ1_charAt_3b067, .static yJ0_checkIndex_df160, .static yJ3_checkIndex_8e157, .code yJ0_coder_7d493 cJ0_coder_7d493 1 (some .byte), .code yJ0_isLatin1_aae02 cJ0_isLatin1_aae02 1 (some .boolean), .code yJ1_charAt_3b067 cJ1_charAt_3b067 2 (some .char), .code yJ0_checkIndex_df160 cJ0_checkIndex_df160 2 none, .code yJ3_checkIndex_8e157 cJ3_checkIndex_8e157 3 (some .int), .fieldLink "java/lang/String" 1053 "jdk/internal/util/Preconditions" "SIOOBE_FORMATTER" "Ljava/util/function/BiFunction;"]
theorem stW_ok : stW.all am_inT = true := by decide +kernel
theorem st_m (k : Nat) {w : Cond} (h : stW[k]? = some w) : w ∈ am_gt := am_inT_use (List.all_eq_true.mp stW_ok w (List.mem_of_getElem? h))
theorem st_len : ∀ i, i < 16 → am_lens.getD i 0 = (am_txt i).length ∧ (am_txt i).length < 64 := by decide +kernel
theorem st_by : ∀ i, i < 16 → ∀ k, k < (am_txt i).length → ((((am_byts.getD i []).getD k 0) &&& 255).toUInt32 % 65536).toInt32 = (am_txt i).getD k 0 ∧ narrow .char (.int ((am_txt i).getD k 0)) = .int ((am_txt i).getD k 0) := by decide +kernel
section
variable {l : Launch} {adK adV : Nat → Nat} {sz i k : Nat}
theorem sc_coder (hi : i < 16) : Met l yJ0_coder_7d493 (sw yJ0_coder_7d493 cJ0_coder_7d493 1 (some .byte)) (rS 0) (sPc adK adV sz [.ref (adK i)]) (sQ sz 0) 0 0 (aSz sz) := by
  refine Met.ofW (cc := cJ0_coder_7d493) (maxL := 1) (ret := (some .byte)) (by decide +kernel) rfl ?_
  intro p e s m args below meth c s₁ B hml hv
  obtain ⟨rfl, hsz, hW⟩ := hv
  have hx := B.exec
  have hb := B.bytes
  have hrt := B.returns
  have hts0 := atoms_spec (ws := sw yJ0_coder_7d493 cJ0_coder_7d493 1 (some .byte)) B.pre
  have hts : ∀ w ∈ am_gt, w.before ([.ref (adK i)] : List Value).toArray s = true := fun w hw => hts0 w (List.mem_cons_of_mem _ hw)
  have hown := findClass_of_methodNamed B.named
  have hlocks := B.notSynchronized
  subst hsz
  have hS : va_S (aSz s.heap.size) s.heap s.heap [] := va_S.rf
  have hl := lv_entry ([.ref (adK i)]) (n := 1) (Nat.le_of_ble_eq_true rfl)
  rw [lg_entry_eq]
  generalize (lg_sl ([.ref (adK i)]) ++ List.replicate (1 - (lg_sl ([.ref (adK i)])).length) Slot.unset).toArray = ls at hl ⊢
  have hl : lv_has ls 1 [(0, .ref (adK i))] := hl
  refine va_gets hx hb hW.2.1 hS hown (hts _ (st_m 2 rfl)) (fun _ z => z) (by decide +kernel) ?_
  refine lv_if_eq (off := 10) (tgt := 13) hx hb (by decide +kernel) (by decide) (fun z => absurd z (by decide)) (fun _ => ?_)
  refine lv_aload_n (k := 0) hx hb (by decide +kernel) rfl (lv_at hl 0 rfl) ?_
  refine vk_getf hx hb (hW.1.1 i hi).2.1 hS hown (hts _ (st_m 1 rfl)) (fun _ z => z) (by decide +kernel) ?_
  refine lv_goto (off := 4) (tgt := 14) hx hb (by decide +kernel) (by decide) ?_
  exact W.zret hx hb hrt (by decide) (fun t ht hwt => ⟨⟨0, (), rfl, rfl, trivial⟩, hS.F ht⟩) hS.2.2 (by decide +kernel) hlocks
theorem sc_isLatin1 (hi : i < 16) : Met l yJ0_isLatin1_aae02 (sw yJ0_isLatin1_aae02 cJ0_isLatin1_aae02 1 (some .boolean)) (rS 0) (sPc adK adV sz [.ref (adK i)]) (sQ sz 1) 0 0 (aSz sz) := by
  refine Met.ofW (cc := cJ0_isLatin1_aae02) (maxL := 1) (ret := (some .boolean)) (by decide +kernel) rfl ?_
  intro p e s m args below meth c s₁ B hml hv
  obtain ⟨rfl, hsz, hW⟩ := hv
  have hx := B.exec
  have hb := B.bytes
  have hrt := B.returns
  have hts0 := atoms_spec (ws := sw yJ0_isLatin1_aae02 cJ0_isLatin1_aae02 1 (some .boolean)) B.pre
  have hts : ∀ w ∈ am_gt, w.before ([.ref (adK i)] : List Value).toArray s = true := fun w hw => hts0 w (List.mem_cons_of_mem _ hw)
  have hown := findClass_of_methodNamed B.named
  have hlocks := B.notSynchronized
  subst hsz
  have hS : va_S (aSz s.heap.size) s.heap s.heap [] := va_S.rf
  have hl := lv_entry ([.ref (adK i)]) (n := 1) (Nat.le_of_ble_eq_true rfl)
  rw [lg_entry_eq]
  generalize (lg_sl ([.ref (adK i)]) ++ List.replicate (1 - (lg_sl ([.ref (adK i)])).length) Slot.unset).toArray = ls at hl ⊢
  have hl : lv_has ls 1 [(0, .ref (adK i))] := hl
  refine va_gets hx hb hW.2.1 hS hown (hts _ (st_m 2 rfl)) (fun _ z => z) (by decide +kernel) ?_
  refine lv_if_eq (off := 14) (tgt := 17) hx hb (by decide +kernel) (by decide) (fun z => absurd z (by decide)) (fun _ => ?_)
  refine lv_aload_n (k := 0) hx hb (by decide +kernel) rfl (lv_at hl 0 rfl) ?_
  refine vk_getf hx hb (hW.1.1 i hi).2.1 hS hown (hts _ (st_m 1 rfl)) (fun _ z => z) (by decide +kernel) ?_
  refine lv_if_ne (off := 7) (tgt := 17) hx hb (by decide +kernel) (by decide) (fun z => absurd rfl z) (fun _ => ?_)
  refine lv_iconst (n := 1) (v := 1) hx hb (by decide +kernel) (by decide) ?_
  refine lv_goto (off := 4) (tgt := 18) hx hb (by decide +kernel) (by decide) ?_
  exact W.zret hx hb hrt (by decide) (fun t ht hwt => ⟨⟨1, (), rfl, rfl, trivial⟩, hS.F ht⟩) hS.2.2 (by decide +kernel) hlocks
theorem sc_preN (hk : k < i) (hi : i < 64) : Met l yJ3_checkIndex_8e157 (sw yJ3_checkIndex_8e157 cJ3_checkIndex_8e157 3 (some .int)) (rS 0) (sPc adK adV sz [.int (nI k), .int (nI i), .null]) (sQ sz (nI k)) 0 0 (aSz sz) := by
  refine Met.ofW (cc := cJ3_checkIndex_8e157) (maxL := 3) (ret := (some .int)) (by decide +kernel) rfl ?_
  intro p e s m args below meth c s₁ B hml hv
  obtain ⟨rfl, hsz, hW⟩ := hv
  have hx := B.exec
  have hb := B.bytes
  have hrt := B.returns
  have hts0 := atoms_spec (ws := sw yJ3_checkIndex_8e157 cJ3_checkIndex_8e157 3 (some .int)) B.pre
  have hts : ∀ w ∈ am_gt, w.before ([.int (nI k), .int (nI i), .null] : List Value).toArray s = true := fun w hw => hts0 w (List.mem_cons_of_mem _ hw)
  have hown := findClass_of_methodNamed B.named
  have hlocks := B.notSynchronized
  subst hsz
  have hS : va_S (aSz s.heap.size) s.heap s.heap [] := va_S.rf
  have hl := lv_entry ([.int (nI k), .int (nI i), .null]) (n := 3) (Nat.le_of_ble_eq_true rfl)
  rw [lg_entry_eq]
  generalize (lg_sl ([.int (nI k), .int (nI i), .null]) ++ List.replicate (3 - (lg_sl ([.int (nI k), .int (nI i), .null])).length) Slot.unset).toArray = ls at hl ⊢
  have hl : lv_has ls 3 [(0, .int (nI k)), (1, .int (nI i)), (2, .null)] := hl
  refine lv_iload_n (k := 0) hx hb (by decide +kernel) rfl (lv_at hl 0 rfl) ?_
  refine lv_if_lt (off := 8) (tgt := 9) hx hb (by decide +kernel) (by decide) (fun z => absurd z (nI_pos (by omega))) (fun _ => ?_)
  refine lv_iload_n (k := 0) hx hb (by decide +kernel) rfl (lv_at hl 0 rfl) ?_
  refine lv_iload_n (k := 1) hx hb (by decide +kernel) rfl (lv_at hl 1 rfl) ?_
  refine lv_icmp_lt (off := 10) (tgt := 16) hx hb (by decide +kernel) (by decide) (fun _ => ?_) (fun z => absurd (nI_lt hk (by omega)) z)
  refine lv_iload_n (k := 0) hx hb (by decide +kernel) rfl (lv_at hl 0 rfl) ?_
  exact W.iret hx hb hrt (fun t ht hwt => ⟨⟨nI k, (), rfl, rfl, trivial⟩, hS.F ht⟩) hS.2.2 (by decide +kernel) hlocks
theorem sc_preR {t0 : Nat} (hk : k < i) (hi : i < 64) : Met l yJ3_checkIndex_8e157 (sw yJ3_checkIndex_8e157 cJ3_checkIndex_8e157 3 (some .int)) (rS 0) (sPc adK adV sz [.int (nI k), .int (nI i), .ref t0]) (sQ sz (nI k)) 0 0 (aSz sz) := by
  refine Met.ofW (cc := cJ3_checkIndex_8e157) (maxL := 3) (ret := (some .int)) (by decide +kernel) rfl ?_
  intro p e s m args below meth c s₁ B hml hv
  obtain ⟨rfl, hsz, hW⟩ := hv
  have hx := B.exec
  have hb := B.bytes
  have hrt := B.returns
  have hts0 := atoms_spec (ws := sw yJ3_checkIndex_8e157 cJ3_checkIndex_8e157 3 (some .int)) B.pre
  have hts : ∀ w ∈ am_gt, w.before ([.int (nI k), .int (nI i), .ref t0] : List Value).toArray s = true := fun w hw => hts0 w (List.mem_cons_of_mem _ hw)
  have hown := findClass_of_methodNamed B.named
  have hlocks := B.notSynchronized
  subst hsz
  have hS : va_S (aSz s.heap.size) s.heap s.heap [] := va_S.rf
  have hl := lv_entry ([.int (nI k), .int (nI i), .ref t0]) (n := 3) (Nat.le_of_ble_eq_true rfl)
  rw [lg_entry_eq]
  generalize (lg_sl ([.int (nI k), .int (nI i), .ref t0]) ++ List.replicate (3 - (lg_sl ([.int (nI k), .int (nI i), .ref t0])).length) Slot.unset).toArray = ls at hl ⊢
  have hl : lv_has ls 3 [(0, .int (nI k)), (1, .int (nI i)), (2, .ref t0)] := hl
  refine lv_iload_n (k := 0) hx hb (by decide +kernel) rfl (lv_at hl 0 rfl) ?_
  refine lv_if_lt (off := 8) (tgt := 9) hx hb (by decide +kernel) (by decide) (fun z => absurd z (nI_pos (by omega))) (fun _ => ?_)
  refine lv_iload_n (k := 0) hx hb (by decide +kernel) rfl (lv_at hl 0 rfl) ?_
  refine lv_iload_n (k := 1) hx hb (by decide +kernel) rfl (lv_at hl 1 rfl) ?_
  refine lv_icmp_lt (off := 10) (tgt := 16) hx hb (by decide +kernel) (by decide) (fun _ => ?_) (fun z => absurd (nI_lt hk (by omega)) z)
  refine lv_iload_n (k := 0) hx hb (by decide +kernel) rfl (lv_at hl 0 rfl) ?_
  exact W.iret hx hb hrt (fun t ht hwt => ⟨⟨nI k, (), rfl, rfl, trivial⟩, hS.F ht⟩) hS.2.2 (by decide +kernel) hlocks
theorem sc_check (hk : k < i) (hi : i < 64) : Met l yJ0_checkIndex_df160 (sw yJ0_checkIndex_df160 cJ0_checkIndex_df160 2 none) (rS 1) (sPc adK adV sz [.int (nI k), .int (nI i)]) (sQv sz) 0 0 (aSz sz) := by
  refine Met.ofW (cc := cJ0_checkIndex_df160) (maxL := 2) (ret := none) (by decide +kernel) rfl ?_
  intro p e s m args below meth c s₁ B hml hv
  obtain ⟨rfl, hsz, hW⟩ := hv
  have hx := B.exec
  have hb := B.bytes
  have hrt := B.returns
  have hts0 := atoms_spec (ws := sw yJ0_checkIndex_df160 cJ0_checkIndex_df160 2 none) B.pre
  have hts : ∀ w ∈ am_gt, w.before ([.int (nI k), .int (nI i)] : List Value).toArray s = true := fun w hw => hts0 w (List.mem_cons_of_mem _ hw)
  have hown := findClass_of_methodNamed B.named
  have hlocks := B.notSynchronized
  subst hsz
  have hS : va_S (aSz s.heap.size) s.heap s.heap [] := va_S.rf
  have hl := lv_entry ([.int (nI k), .int (nI i)]) (n := 2) (Nat.le_of_ble_eq_true rfl)
  rw [lg_entry_eq]
  generalize (lg_sl ([.int (nI k), .int (nI i)]) ++ List.replicate (2 - (lg_sl ([.int (nI k), .int (nI i)])).length) Slot.unset).toArray = ls at hl ⊢
  have hl : lv_has ls 2 [(0, .int (nI k)), (1, .int (nI i))] := hl
  refine lv_iload_n (k := 0) hx hb (by decide +kernel) rfl (lv_at hl 0 rfl) ?_
  refine lv_iload_n (k := 1) hx hb (by decide +kernel) rfl (lv_at hl 1 rfl) ?_
  have cb := callB_of (R := (headSpec (sw yJ0_checkIndex_df160 cJ0_checkIndex_df160 2 none) (rS 1)).room) (s := s) (args := ([.int (nI k), .int (nI i)] : List Value).toArray) (own := "java/lang/String") (index := 1059) 3 hts (sw_good (st_m 22 rfl)) rfl (rm := rS 0) rfl rfl (hts _ (st_m 10 rfl)) (hts _ (st_m 7 rfl)) (by decide +kernel) ⟨Nat.le_of_ble_eq_true rfl, Nat.le_of_ble_eq_true rfl⟩
  rcases hW.2.2 with hz | ⟨t0, hz⟩
  · refine va_gets hx hb hz hS hown (hts _ (st_m 23 rfl)) (fun _ z => z) (by decide +kernel) ?_
    refine va_calli (va_runS (As := [.int (nI k), .int (nI i), .null]) (rest := []) ⟨hx, hb, hml, hown, hts⟩ (sc_preN (adK := adK) (adV := adV) (sz := s.heap.size) hk hi) ⟨cb, hts _ (st_m 17 rfl)⟩ ⟨sPc_blind, sPc_go hW (fun _ z => z) hS⟩ rfl rfl hl.1 rfl (Nat.le_of_ble_eq_true rfl) (by dsimp only [F0]; decide +kernel) ⟨Nat.le_of_ble_eq_true rfl, Nat.le_of_ble_eq_true rfl⟩) hS (fun q _ z => z) (fun q z => z) (fun r u t H1 locs1 _ _ _ _ _ _ hS1 => ?_)
    refine lv_pop hx hb (by decide +kernel) rfl ?_
    exact W.vret hx hb hrt (fun t ht hwt => ⟨⟨(), rfl, trivial, trivial⟩, hS1.F ht⟩) hS1.2.2 (by decide +kernel) hlocks
  · refine va_gets hx hb hz hS hown (hts _ (st_m 23 rfl)) (fun _ z => z) (by decide +kernel) ?_
    refine va_calli (va_runS (As := [.int (nI k), .int (nI i), .ref t0]) (rest := []) ⟨hx, hb, hml, hown, hts⟩ (sc_preR (adK := adK) (adV := adV) (sz := s.heap.size) hk hi) ⟨cb, hts _ (st_m 17 rfl)⟩ ⟨sPc_blind, sPc_go hW (fun _ z => z) hS⟩ rfl rfl hl.1 rfl (Nat.le_of_ble_eq_true rfl) (by dsimp only [F0]; decide +kernel) ⟨Nat.le_of_ble_eq_true rfl, Nat.le_of_ble_eq_true rfl⟩) hS (fun q _ z => z) (fun q z => z) (fun r u t H1 locs1 _ _ _ _ _ _ hS1 => ?_)
    refine lv_pop hx hb (by decide +kernel) rfl ?_
    exact W.vret hx hb hrt (fun t ht hwt => ⟨⟨(), rfl, trivial, trivial⟩, hS1.F ht⟩) hS1.2.2 (by decide +kernel) hlocks
theorem sc_charAt1 (hi : i < 16) (hk : k < (am_txt i).length) : Met l yJ1_charAt_3b067 (sw yJ1_charAt_3b067 cJ1_charAt_3b067 2 (some .char)) (rS 2) (sPc adK adV sz [.ref (adV i), .int (nI k)]) (sQ sz ((am_txt i).getD k 0)) 0 0 (aSz sz) := by
  obtain ⟨e1, e2⟩ := st_len i hi
  obtain ⟨b1, b2⟩ := st_by i hi k hk
  refine Met.ofW (cc := cJ1_charAt_3b067) (maxL := 2) (ret := (some .char)) (by decide +kernel) rfl ?_
  intro p e s m args below meth c s₁ B hml hv
  obtain ⟨rfl, hsz, hW⟩ := hv
  have hx := B.exec
  have hb := B.bytes
  have hrt := B.returns
  have hts0 := atoms_spec (ws := sw yJ1_charAt_3b067 cJ1_charAt_3b067 2 (some .char)) B.pre
  have hts : ∀ w ∈ am_gt, w.before ([.ref (adV i), .int (nI k)] : List Value).toArray s = true := fun w hw => hts0 w (List.mem_cons_of_mem _ hw)
  have hown := findClass_of_methodNamed B.named
  have hlocks := B.notSynchronized
  subst hsz
  have hS : va_S (aSz s.heap.size) s.heap s.heap [] := va_S.rf
  have hl := lv_entry ([.ref (adV i), .int (nI k)]) (n := 2) (Nat.le_of_ble_eq_true rfl)
  rw [lg_entry_eq]
  generalize (lg_sl ([.ref (adV i), .int (nI k)]) ++ List.replicate (2 - (lg_sl ([.ref (adV i), .int (nI k)])).length) Slot.unset).toArray = ls at hl ⊢
  have hl : lv_has ls 2 [(0, .ref (adV i)), (1, .int (nI k))] := hl
  have hT := (hW.1.1 i hi).2.2.2
  rw [e1] at hT
  refine lv_iload_n (k := 1) hx hb (by decide +kernel) rfl (lv_at hl 1 rfl) ?_
  refine lv_aload_n (k := 0) hx hb (by decide +kernel) rfl (lv_at hl 0 rfl) ?_
  refine va_tlen (v := nI (am_txt i).length) hx hb hT hS rfl (by decide +kernel) ?_
  have cb := callB_of (R := (headSpec (sw yJ1_charAt_3b067 cJ1_charAt_3b067 2 (some .char)) (rS 2)).room) (s := s) (args := ([.ref (adV i), .int (nI k)] : List Value).toArray) (own := "java/lang/StringLatin1") (index := 9) 2 hts (sw_good (st_m 21 rfl)) rfl (rm := rS 1) rfl rfl (hts _ (st_m 8 rfl)) (hts _ (st_m 6 rfl)) (by decide +kernel) ⟨Nat.le_of_ble_eq_true rfl, Nat.le_of_ble_eq_true rfl⟩
  refine va_callv (va_runS (As := [.int (nI k), .int (nI (am_txt i).length)]) (rest := []) ⟨hx, hb, hml, hown, hts⟩ (sc_check (adK := adK) (adV := adV) (sz := s.heap.size) hk e2) ⟨cb, hts _ (st_m 16 rfl)⟩ ⟨sPc_blind, sPc_go hW (fun _ z => z) hS⟩ rfl rfl hl.1 rfl (Nat.le_of_ble_eq_true rfl) (by dsimp only [F0]; decide +kernel) ⟨Nat.le_of_ble_eq_true rfl, Nat.le_of_ble_eq_true rfl⟩) hS (fun q _ z => z) (fun q z => z) (fun u t H1 locs1 _ _ _ _ _ _ hS1 => ?_)
  refine lv_aload_n (k := 0) hx hb (by decide +kernel) rfl (lv_at hl 0 rfl) ?_
  refine lv_iload_n (k := 1) hx hb (by decide +kernel) rfl (lv_at hl 1 rfl) ?_
  refine va_tb (v := .int ((am_byts.getD i []).getD k 0)) hx hb hT hS1 (vp_in_nI hk (by omega)) (by rw [nI_clamp (by omega)]) (by decide +kernel) ?_
  refine lv_sipush (n := 255) (v := 255) hx hb (by decide +kernel) (by decide) ?_
  refine lv_iand hx hb (by decide +kernel) ?_
  refine lv_i2c (v := (am_txt i).getD k 0) hx hb (by decide +kernel) b1 ?_
  exact W.zret hx hb hrt b2 (fun t ht hwt => ⟨⟨_, (), rfl, rfl, trivial⟩, hS1.F ht⟩) hS1.2.2 (by decide +kernel) hlocks
end
theorem am_strOk (l : Launch) : am_StrOk l := by
  intro d k as h Q H k1 k2 D dA ro ad sz hokh hr hargs
  rcases (show k = 901 ∨ k = 902 ∨ k = 903 by omega) with rfl | rfl | rfl
  · match as, H with
    | [.ref i], H =>
    obtain ⟨hi, hd6, H⟩ := H
    obtain ⟨e1, e2⟩ := st_len i hi
    refine Met.ofW (cc := cJ0_length_8abf5) (maxL := 1) (ret := (some .int)) (by decide +kernel) rfl ?_
    intro p e s m args below meth c s₁ B hml hv
    obtain ⟨rfl, hsz, hP, hK, hD0, hRO⟩ := hv
    have hx := B.exec
    have hb := B.bytes
    have hrt := B.returns
    have hts0 := atoms_spec (ws := am_w (am_pn 901)) B.pre
    have hts : ∀ w ∈ am_gt, w.before ((([.ref i] : List Value).map (am_cv ad)).toArray) s = true := fun w hw => hts0 w (List.mem_cons_of_mem _ hw)
    have hown := findClass_of_methodNamed B.named
    have hlocks := B.notSynchronized
    subst hsz
    have hD := hD0.self (sz := s.heap.size)
    obtain ⟨adV, hV⟩ := hRO.2.2.2.2.1
    have hW : sW ad adV (va_A (am_ws dA ad h) s.heap.size) s s.heap := ⟨hV, hRO.2.2.2.2.2.1, hRO.2.2.2.2.2.2.1⟩
    have hAA : ∀ q, s.heap.size ≤ q → va_A (am_ws dA ad h) s.heap.size q := fun q hq => Or.inr hq
    have hS : va_S (va_A (am_ws dA ad h) s.heap.size) s.heap s.heap [] := va_S.rf
    have hl := lv_entry ([.ref (ad i)]) (n := 1) (Nat.le_of_ble_eq_true rfl)
    rw [show (([.ref i] : List Value).map (am_cv ad)) = [.ref (ad i)] from rfl, lg_entry_eq]
    generalize (lg_sl ([.ref (ad i)]) ++ List.replicate (1 - (lg_sl ([.ref (ad i)])).length) Slot.unset).toArray = ls at hl ⊢
    have hl : lv_has ls 1 [(0, .ref (ad i))] := hl
    have hT := (hV.1 i hi).2.2.2
    rw [e1] at hT
    refine lv_aload_n (k := 0) hx hb (by decide +kernel) rfl (lv_at hl 0 rfl) ?_
    refine vk_getf hx hb (hV.1 i hi).2.2.1 hS hown (hts _ (st_m 0 rfl)) (fun _ z => z) (by decide +kernel) ?_
    refine va_tlen (v := nI (am_txt i).length) hx hb hT hS rfl (by decide +kernel) ?_
    refine lv_aload_n (k := 0) hx hb (by decide +kernel) rfl (lv_at hl 0 rfl) ?_
    have cb := callB_of (R := (headSpec (am_w (am_pn 901)) { frames := d, cells := 0, slots := 0, locals := 40 * d }).room) (s := s) (args := (([.ref i] : List Value).map (am_cv ad)).toArray) (own := "java/lang/String") (index := 335) 0 hts (sw_good (st_m 18 rfl)) rfl (rm := rS 0) rfl rfl (hts _ (st_m 8 rfl)) (hts _ (st_m 3 rfl)) (by decide +kernel) ⟨show 0 + 1 ≤ d by omega, show 8 + (1 + 11) + 40 * 0 ≤ 40 * d by omega⟩
    refine va_calli (va_runV (b := ad i) (As := []) (rest := [.int (nI (am_txt i).length)]) (C := "java/lang/String") ⟨hx, hb, hml, hown, hts⟩ (sc_coder (adK := ad) (adV := adV) (sz := s.heap.size) hi) ⟨cb, hts _ (st_m 11 rfl), hts _ (st_m 12 rfl)⟩ ⟨sPc_blind, vk_recv hV hi hS, sPc_go hW hAA hS⟩ rfl rfl hl.1 rfl (Nat.le_of_ble_eq_true rfl) (by dsimp only [F0]; decide +kernel) ⟨Nat.le_of_ble_eq_true rfl, Nat.le_of_ble_eq_true rfl⟩) hS (fun q hq z => absurd hq (Nat.not_lt.mpr z)) hAA (fun r u t H1 locs1 _ _ hpr _ _ hk1 hS1 => ?_)
    replace hpr : r = 0 := hpr
    subst hpr
    have hP1 := hP.kept (H1 := H1) (fun k q hk => hk1 _ (vx_lt hP hk) (Nat.not_le.mpr (vx_lt hP hk)))
    refine lv_ishr hx hb (by decide +kernel) ?_
    rw [show nI (am_txt i).length >>> ((0 : Int32) &&& 31) = nI (am_txt i).length by rw [show (0 : Int32) &&& 31 = 0 by decide, Int32.shiftRight_zero]]
    exact W.iret hx hb hrt (fun t ht hwt => ⟨⟨some (.int (nI (am_txt i).length)), h, ad, rfl, H, by rw [ht]; exact hP1, hD, hokh, Nat.le_refl _, fun _ _ => rfl, fun w e => by cases e; exact am_okv_int⟩, hS1.F ht⟩) hS1.2.2 (by decide +kernel) hlocks
  · match as, H with
    | [.ref i, .int x], H =>
    obtain ⟨hi, hd6, hin, H⟩ := H
    obtain ⟨e1, e2⟩ := st_len i hi
    have hx0 : ¬ x < 0 := fun z => hin (Or.inl z)
    obtain ⟨k, hk31, rfl⟩ := nI_of hx0
    have hk : k < (am_txt i).length := by
      have := Nat.not_le.mp (fun z => hin (Or.inr z))
      rw [nI_clamp hk31] at this
      exact this
    rw [nI_clamp hk31] at H
    obtain ⟨b1, b2⟩ := st_by i hi k hk
    refine Met.ofW (cc := cJ0_charAt_5068e) (maxL := 2) (ret := (some .char)) (by decide +kernel) rfl ?_
    intro p e s m args below meth c s₁ B hml hv
    obtain ⟨rfl, hsz, hP, hK, hD0, hRO⟩ := hv
    have hx := B.exec
    have hb := B.bytes
    have hrt := B.returns
    have hts0 := atoms_spec (ws := am_w (am_pn 902)) B.pre
    have hts : ∀ w ∈ am_gt, w.before ((([.ref i, .int (nI k)] : List Value).map (am_cv ad)).toArray) s = true := fun w hw => hts0 w (List.mem_cons_of_mem _ hw)
    have hown := findClass_of_methodNamed B.named
    have hlocks := B.notSynchronized
    subst hsz
    have hD := hD0.self (sz := s.heap.size)
    obtain ⟨adV, hV⟩ := hRO.2.2.2.2.1
    have hW : sW ad adV (va_A (am_ws dA ad h) s.heap.size) s s.heap := ⟨hV, hRO.2.2.2.2.2.1, hRO.2.2.2.2.2.2.1⟩
    have hAA : ∀ q, s.heap.size ≤ q → va_A (am_ws dA ad h) s.heap.size q := fun q hq => Or.inr hq
    have hS : va_S (va_A (am_ws dA ad h) s.heap.size) s.heap s.heap [] := va_S.rf
    have hl := lv_entry ([.ref (ad i), .int (nI k)]) (n := 2) (Nat.le_of_ble_eq_true rfl)
    rw [show (([.ref i, .int (nI k)] : List Value).map (am_cv ad)) = [.ref (ad i), .int (nI k)] from rfl, lg_entry_eq]
    generalize (lg_sl ([.ref (ad i), .int (nI k)]) ++ List.replicate (2 - (lg_sl ([.ref (ad i), .int (nI k)])).length) Slot.unset).toArray = ls at hl ⊢
    have hl : lv_has ls 2 [(0, .ref (ad i)), (1, .int (nI k))] := hl
    have hT := (hV.1 i hi).2.2.2
    rw [e1] at hT
    refine lv_aload_n (k := 0) hx hb (by decide +kernel) rfl (lv_at hl 0 rfl) ?_
    have cb := callB_of (R := (headSpec (am_w (am_pn 902)) { frames := d, cells := 0, slots := 0, locals := 40 * d }).room) (s := s) (args := (([.ref i, .int (nI k)] : List Value).map (am_cv ad)).toArray) (own := "java/lang/String") (index := 492) 0 hts (sw_good (st_m 19 rfl)) rfl (rm := rS 0) rfl rfl (hts _ (st_m 8 rfl)) (hts _ (st_m 4 rfl)) (by decide +kernel) ⟨show 0 + 1 ≤ d by omega, show 8 + (1 + 11) + 40 * 0 ≤ 40 * d by omega⟩
    refine va_calli (va_runV (b := ad i) (As := []) (rest := []) (C := "java/lang/String") ⟨hx, hb, hml, hown, hts⟩ (sc_isLatin1 (adK := ad) (adV := adV) (sz := s.heap.size) hi) ⟨cb, hts _ (st_m 13 rfl), hts _ (st_m 14 rfl)⟩ ⟨sPc_blind, vk_recv hV hi hS, sPc_go hW hAA hS⟩ rfl rfl hl.1 rfl (Nat.le_of_ble_eq_true rfl) (by dsimp only [F0]; decide +kernel) ⟨Nat.le_of_ble_eq_true rfl, Nat.le_of_ble_eq_true rfl⟩) hS (fun q hq z => absurd hq (Nat.not_lt.mpr z)) hAA (fun r u t H1 locs1 _ _ hpr _ _ hk1 hS1 => ?_)
    replace hpr : r = 1 := hpr
    subst hpr
    have hP1 := hP.kept (H1 := H1) (fun k q hk => hk1 _ (vx_lt hP hk) (Nat.not_le.mpr (vx_lt hP hk)))
    refine lv_if_eq (off := 12) (tgt := 16) hx hb (by decide +kernel) (by decide) (fun z => absurd z (show ¬ (1 : Int32) = 0 by decide)) (fun _ => ?_)
    refine lv_aload_n (k := 0) hx hb (by decide +kernel) rfl (lv_at hl 0 rfl) ?_
    refine vk_getf hx hb (hV.1 i hi).2.2.1 hS1 hown (hts _ (st_m 0 rfl)) (fun _ z => z) (by decide +kernel) ?_
    refine lv_iload_n (k := 1) hx hb (by decide +kernel) rfl (lv_at hl 1 rfl) ?_
    have cb2 := callB_of (R := (headSpec (am_w (am_pn 902)) { frames := d, cells := 0, slots := 0, locals := 40 * d }).room) (s := s) (args := (([.ref i, .int (nI k)] : List Value).map (am_cv ad)).toArray) (own := "java/lang/String") (index := 495) 2 hts (sw_good (st_m 20 rfl)) rfl (rm := rS 2) rfl rfl (hts _ (st_m 9 rfl)) (hts _ (st_m 5 rfl)) (by decide +kernel) ⟨show 2 + 1 ≤ d by omega, show 8 + (2 + 11) + 40 * 2 ≤ 40 * d by omega⟩
    refine va_calli (va_runS (As := [.ref (adV i), .int (nI k)]) (rest := []) ⟨hx, hb, hml, hown, hts⟩ (sc_charAt1 (adK := ad) (adV := adV) (sz := H1.size) hi hk) ⟨cb2, hts _ (st_m 15 rfl)⟩ ⟨sPc_blind, sPc_go hW hAA hS1⟩ rfl rfl hl.1 rfl (Nat.le_of_ble_eq_true rfl) (by dsimp only [F0]; decide +kernel) ⟨Nat.le_of_ble_eq_true rfl, Nat.le_of_ble_eq_true rfl⟩) hS1 (fun q hq z => absurd hq (Nat.not_lt.mpr z)) (fun q z => hAA q (Nat.le_trans hS1.1 z)) (fun r u t H2 locs2 _ _ hpr _ _ hk2 hS2 => ?_)
    replace hpr : r = (am_txt i).getD k 0 := hpr
    subst hpr
    have hP2 := hP1.kept (H1 := H2) (fun k q hk => hk2 _ (vx_lt hP1 hk) (Nat.not_le.mpr (vx_lt hP1 hk)))
    exact W.zret hx hb hrt b2 (fun t ht hwt => ⟨⟨some (.int ((am_txt i).getD k 0)), h, ad, rfl, H, by rw [ht]; exact hP2, hD, hokh, Nat.le_refl _, fun _ _ => rfl, fun w e => by cases e; exact am_okv_int⟩, hS2.F ht⟩) hS2.2.2 (by decide +kernel) hlocks
  · match as, H with
    | [.ref i], H =>
    obtain ⟨hi, hd6, H⟩ := H
    obtain ⟨e1, e2⟩ := st_len i hi
    refine Met.ofW (cc := cJ0_isEmpty_aae02) (maxL := 1) (ret := (some .boolean)) (by decide +kernel) rfl ?_
    intro p e s m args below meth c s₁ B hml hv
    obtain ⟨rfl, hsz, hP, hK, hD0, hRO⟩ := hv
    have hx := B.exec
    have hb := B.bytes
    have hrt := B.returns
    have hts0 := atoms_spec (ws := am_w (am_pn 903)) B.pre
    have hts : ∀ w ∈ am_gt, w.before ((([.ref i] : List Value).map (am_cv ad)).toArray) s = true := fun w hw => hts0 w (List.mem_cons_of_mem _ hw)
    have hown := findClass_of_methodNamed B.named
    have hlocks := B.notSynchronized
    subst hsz
    have hD := hD0.self (sz := s.heap.size)
    obtain ⟨adV, hV⟩ := hRO.2.2.2.2.1
    have hW : sW ad adV (va_A (am_ws dA ad h) s.heap.size) s s.heap := ⟨hV, hRO.2.2.2.2.2.1, hRO.2.2.2.2.2.2.1⟩
    have hAA : ∀ q, s.heap.size ≤ q → va_A (am_ws dA ad h) s.heap.size q := fun q hq => Or.inr hq
    have hS : va_S (va_A (am_ws dA ad h) s.heap.size) s.heap s.heap [] := va_S.rf
    have hl := lv_entry ([.ref (ad i)]) (n := 1) (Nat.le_of_ble_eq_true rfl)
    rw [show (([.ref i] : List Value).map (am_cv ad)) = [.ref (ad i)] from rfl, lg_entry_eq]
    generalize (lg_sl ([.ref (ad i)]) ++ List.replicate (1 - (lg_sl ([.ref (ad i)])).length) Slot.unset).toArray = ls at hl ⊢
    have hl : lv_has ls 1 [(0, .ref (ad i))] := hl
    have hT := (hV.1 i hi).2.2.2
    rw [e1] at hT
    refine lv_aload_n (k := 0) hx hb (by decide +kernel) rfl (lv_at hl 0 rfl) ?_
    refine vk_getf hx hb (hV.1 i hi).2.2.1 hS hown (hts _ (st_m 0 rfl)) (fun _ z => z) (by decide +kernel) ?_
    refine va_tlen (v := nI (am_txt i).length) hx hb hT hS rfl (by decide +kernel) ?_
    by_cases c0 : (am_txt i).length = 0
    · rw [if_pos c0] at H
      refine lv_if_ne (off := 7) (tgt := 12) hx hb (by decide +kernel) (by decide) (fun z => absurd (show nI (am_txt i).length = 0 by rw [c0]; rfl) z) (fun _ => ?_)
      refine lv_iconst (n := 1) (v := 1) hx hb (by decide +kernel) (by decide) ?_
      refine lv_goto (off := 4) (tgt := 13) hx hb (by decide +kernel) (by decide) ?_
      exact W.zret hx hb hrt (by decide) (fun t ht hwt => ⟨⟨some (.int (1)), h, ad, rfl, H, by rw [ht]; exact hP, hD, hokh, Nat.le_refl _, fun _ _ => rfl, fun w e => by cases e; exact am_okv_int⟩, hS.F ht⟩) hS.2.2 (by decide +kernel) hlocks
    · rw [if_neg c0] at H
      refine lv_if_ne (off := 7) (tgt := 12) hx hb (by decide +kernel) (by decide) (fun _ => ?_) (fun z => absurd ((nI_eq (b := 0) (by omega) (by omega)).mp z) c0)
      refine lv_iconst (n := 0) (v := 0) hx hb (by decide +kernel) (by decide) ?_
      exact W.zret hx hb hrt (by decide) (fun t ht hwt => ⟨⟨some (.int (0)), h, ad, rfl, H, by rw [ht]; exact hP, hD, hokh, Nat.le_refl _, fun _ _ => rfl, fun w e => by cases e; exact am_okv_int⟩, hS.F ht⟩) hS.2.2 (by decide +kernel) hlocks
