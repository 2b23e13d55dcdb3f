/-- the String methods that are called: name, code, locals, answer's type -/
def am_pn (k : Nat) : am_R := match k with
  | 901 => (yJ0_length_8abf5, cJ0_length_8abf5, 1, some .int, 1, 0)
  | 902 => (yJ0_charAt_5068e, cJ0_charAt_5068e, 2, some .char, 1, 1)
  | _ => (yJ0_isEmpty_aae02, cJ0_isEmpty_aae02, 1, some .boolean, 1, 0)
def am_StrOk (l : Launch) : Prop := ∀ d k as h Q, am_prim d k as h Q → 901 ≤ k → k ≤ 903 → ∀ (D : va_G) (dA : Nat → ClassId) (ro : Nat → am_C) (ad : Nat → Nat) (sz : Nat), am_okh ro h → am_roS ro → (∀ v ∈ as, am_okv h.1 v) →
  Met l (am_pn k).1 (am_w (am_pn k)) { frames := d, cells := 0, slots := 0, locals := 40 * d } (am_Pc D dA ro ad h sz as) (am_Qc D dA ro ad h sz Q) 0 0 (va_A (am_ws dA ad h) sz)
theorem am_lib : Cond.instanceMethod Lib.objectInit ∈ am_gt ∧ Cond.code Lib.objectInit ⟨#[0xb1]⟩ 1 none ∈ am_gt ∧ Cond.native arraycopyName ∈ am_gt ∧ Cond.static arraycopyName ∈ am_gt ∧ Cond.initialized "java/lang/System" ∈ am_gt := by
  refine ⟨am_inT_use ?_, am_inT_use ?_, am_inT_use ?_, am_inT_use ?_, am_inT_use ?_⟩ <;> decide +kernel
theorem am_libS : ∀ k, k = 901 ∨ k = 902 ∨ k = 903 → Cond.code (am_pn k).1 (am_pn k).2.1 (am_pn k).2.2.1 (am_pn k).2.2.2.1 ∈ am_gt ∧ Cond.instanceMethod (am_pn k).1 ∈ am_gt ∧ Cond.selects "java/lang/String" (am_pn k).1 (am_pn k).1 ∈ am_gt ∧ Cond.initialized "java/lang/String" ∈ am_gt ∧ (am_pn k).1.cls = "java/lang/String" := by
  intro k hk
  rcases hk with rfl | rfl | rfl
  · refine ⟨am_inT_use ?_, am_inT_use ?_, am_inT_use ?_, am_inT_use ?_, rfl⟩ <;> decide +kernel
  · refine ⟨am_inT_use ?_, am_inT_use ?_, am_inT_use ?_, am_inT_use ?_, rfl⟩ <;> decide +kernel
  · refine ⟨am_inT_use ?_, am_inT_use ?_, am_inT_use ?_, am_inT_use ?_, rfl⟩ <;> decide +kernel
theorem am_prim_rec {d k : Nat} {as : List Value} {h : am_H} {Q : Option Value → am_H → Prop} (hk : k = 901 ∨ k = 902 ∨ k = 903) (H : am_prim d k as h Q) : ∃ j As', as = .ref j :: As' ∧ j < 16 := by
  rcases hk with rfl | rfl | rfl
  · match as, H with
    | [.ref i], H => exact ⟨i, [], rfl, H.1⟩
  · match as, H with
    | [.ref i, .int x], H => exact ⟨i, _, rfl, H.1⟩
  · match as, H with
    | [.ref i], H => exact ⟨i, [], rfl, H.1⟩
section
variable {p : Program} {l : Launch} {e : Env} {R : Room} {s : State} {m : MethodId} {args : Array Value} {below : List Frame} {meth : Method} {c : Code}
variable {D : va_G} {dA : Nat → ClassId} {A : Nat → Prop} {ro : Nat → am_C} {ad0 : Nat → Nat} {n0 nL : Nat} {lim : Nat × Nat} {Qm : State → Prop}
variable {cc : ByteArray} {pc : Nat} {L : List (Option Value)} {st : List Value} {u : Nat × Nat} {h : am_H}
/-- a caller's world meets a callee's start -/
theorem am_pre {ad : Nat → Nat} {H : Heap} {locs : List Loc} {as : List Value} (hK : va_K D vwCl (am_tys dA) s) (hA : ∀ q, s.heap.size ≤ q → A q) (hro : am_RO ro ad0 A s s.heap) (hn0 : 40 ≤ n0) (had : ∀ i, i < n0 → ad i = ad0 i) (hP : va_P D vwCl (am_ws dA ad h) H) (hD : va_D A (am_ws dA ad h)) (hS : va_S A s.heap H locs) : ∀ U : State, U.heap = H → s.WarmedH U.vm → am_Pc D dA ro ad h H.size as (as.map (am_cv ad)).toArray U := by
  intro U hU hW
  have hfree : ∀ q, va_A (am_ws dA ad h) H.size q → A q := by
    intro q hq
    rcases hq with ⟨k, e0, hk⟩ | hq
    · exact hD.2 k _ hk
    · exact hA q (Nat.le_trans hS.1 hq)
  exact ⟨rfl, by rw [hU], by rw [hU]; exact hP, va_K.moved hW.alike hK, hD.weaken (fun _ _ _ _ => trivial), am_RO_go hro hW (fun a h1 h2 => by rw [hU]; exact hS.2.1 a h1 h2) hfree (fun i hi => had i (by omega))⟩
/-- the stack at a call: the arguments on top -/
theorem am_stk {b : Nat} (ad : Nat → Nat) (st : List Value) : st.map (am_cv ad) = (((st.take b).reverse).map (am_cv ad)).reverse ++ (st.drop b).map (am_cv ad) := by
  rw [← List.map_reverse, List.reverse_reverse, ← List.map_append, List.take_append_drop]
theorem am_mon {m : MethodId} {pc : Nat} {ls : Array Slot} {st : List Value} : (F0 m pc ls st).monitorRoom = 0 := rfl
set_option maxHeartbeats 4000000 in
theorem am_hinv {d : Nat} {own : String} {ow : Nat} {ini : Bool} {rt : Option FieldType} (hx : p.tables.exec = Jvm.exec) (hb : c.code = cc) (hml : c.maxLocals = nL) (hown : s.vm.findClass own = some m.cls) (how : am_cn ow = own) (hts : ∀ w ∈ am_gt, w.before args s = true) (hK : va_K D vwCl (am_tys dA) s) (hr : am_roS ro) (hA : ∀ q, s.heap.size ≤ q → A q) (hro : am_RO ro ad0 A s s.heap) (hn0 : 40 ≤ n0) (hR : lim.1 ≤ R.cells ∧ lim.2 ≤ R.slots) (hRf : d + 1 ≤ R.frames) (hRl : 40 * (d + 1) ≤ R.locals)
    (hall : am_OkAll) (hstr : am_StrOk l) (hcall : ∀ k as h Q, am_call d k as h Q → k < 900 → am_MetOk l d k as h Q)
    (i : Instr) (len a b t cv : Nat) (dv : Int32 × Int64) (hi : i = .invokestatic cv ∨ i = .invokevirtual cv ∨ i = .invokespecial cv) (hdec : decode cc pc = .ok (i, len)) (hok : am_okE ow own nL ini rt pc (i, len, a, b, t, dv) = true)
    (H0 : am_inv (am_call d) a b t (am_Wp p l e R s m args below meth c D dA A ro ad0 n0 nL lim Qm) lim pc L st u h) : am_Wp p l e R s m args below meth c D dA A ro ad0 n0 nL lim Qm (pc, L, st, u) h := by
  subst how
  unfold am_inv at H0
  split at H0
  case isFalse => exact H0.elim
  rename_i hcond
  obtain ⟨hcat, hbl, hu1', hu2'⟩ := hcond
  intro ad H locs ls had hn hP hD hS hokh hl hLo hst hu1 hu2
  have hargs : ∀ v ∈ (st.take b).reverse, am_okv h.1 v := fun v hv => hst v (List.mem_of_mem_take (List.mem_reverse.mp hv))
  have hrest : ∀ v ∈ st.drop b, am_okv h.1 v := fun v hv => hst v (List.mem_of_mem_drop hv)
  have hcat' : 2 * (F0 m pc ls (st.map (am_cv ad))).monitorRoom + (((st.drop b).map (am_cv ad)).map fun v => v.category).sum ≤ 8 := by rw [am_mon, am_cats_cv]; omega
  have hpre : ∀ as, ∀ U : State, U.heap = H → s.WarmedH U.vm → am_Pc D dA ro ad h H.size as (as.map (am_cv ad)).toArray U := fun as => am_pre (as := as) hK hA hro hn0 had hP hD hS
  have hlen : (st.take b).length = b := by rw [List.length_take]; omega
  rcases hi with rfl | rfl | rfl
  · -- static
    simp only [am_okE, Bool.and_eq_true, beq_iff_eq] at hok
    obtain ⟨⟨rfl, rfl⟩, hok⟩ := hok
    split at hok
    · simp only [Bool.and_eq_true, beq_iff_eq] at hok
      obtain ⟨⟨rfl, rfl⟩, hlink⟩ := hok
      cases d with
      | zero => exact False.elim H0
      | succ d =>
        have H1 : am_prim d 900 (st.take 5).reverse h (fun v h' => am_Wp p l e R s m args below meth c D dA A ro ad0 n0 nL lim Qm (pc + 3, L, v.toList ++ st.drop 5, u.1 + 0, u.2 + 0) h') := H0
        unfold am_prim at H1
        split at H1
        case h_1 => omega
        case h_3 => omega
        case h_4 => omega
        case h_5 => omega
        case h_6 => exact H1.elim
        case h_2 =>
          rename_i a0 sp b0 dp n _ hq
          obtain ⟨n0', f, hf, H2⟩ := am_ari_use H1
          obtain ⟨n1', g, hg, h1, h2, h3, h4, h5, K⟩ := am_ari_use H2
          have hst5 : st = .int n :: .int dp :: .ref b0 :: .int sp :: .ref a0 :: st.drop 5 := by
            have e1 : st.take 5 = [.int n, .int dp, .ref b0, .int sp, .ref a0] := by rw [← List.reverse_reverse (st.take 5), hq]; rfl
            conv => lhs; rw [← List.take_append_drop 5 st, e1]
            rfl
          have ha40 := am_hi_arr hokh hr hf (by intro z; cases z)
          have hb40 := am_hi_arr hokh hr hg (by intro z; cases z)
          have han : a0 < h.1 := hst (.ref a0) (by rw [hst5]; simp) a0 rfl
          have hbn : b0 < h.1 := hst (.ref b0) (by rw [hst5]; simp) b0 rfl
          have hwa := am_ws_at (dA := dA) (ad := ad) ha40 han
          have hwb := am_ws_at (dA := dA) (ad := ad) hb40 hbn
          rw [hf] at hwa
          rw [hg] at hwb
          have hgoal : W p l e R s m args below meth c H locs u.1 u.2 Qm (F0 m pc ls (.int n :: .int dp :: .ref (ad b0) :: .int sp :: .ref (ad a0) :: (st.drop 5).map (am_cv ad))) := by
            refine va_copyi hx hb (by rw [hml]; exact hl.1.symm) hown (hts _ (am_inT_use hlink)) (hts _ am_lib.2.2.1) (hts _ am_lib.2.2.2.1) (hts _ am_lib.2.2.2.2) hK hP hD hS (a0 - 40) (b0 - 40) 0 0 hwa hwb rfl rfl rfl h1 h2 h3 h4 h5 (fun _ _ => rfl) (by omega) ?_ hdec (fun H1 locs1 a1 a2 a3 => ?_)
            · rw [am_cats_cv]
              have e9 : nativeFrameWords "java/lang/System" "arraycopy" 5 + 11 ≤ 32 := by decide
              omega
            · have e1 : am_ws dA ad (am_set h b0 (.inl (.int, n1', .inl (va_cpy f g sp.toNatClampNeg dp.toNatClampNeg n.toNatClampNeg)))) = (am_ws dA ad h).set (b0 - 40) (ad b0, .inl (dA 0, n1', .inl (va_cpy f g sp.toNatClampNeg dp.toNatClampNeg n.toNatClampNeg))) := am_ws_set hb40 hbn _
              exact K ad H1 locs1 ls had hn (by rw [e1]; exact a1) (by rw [e1]; exact a2) a3 (am_okh_set hokh hb40 ⟨fun ty k f e => (by cases e), fun ci' fs' e => (by cases e), fun _ n x e => (by cases e)⟩) hl hLo hrest hu1 hu2
          rw [hst5]
          exact hgoal
    · rename_i h900
      split at hok
      · rename_i y bytes ml rt' kd np hrow
        simp only [Bool.and_eq_true, beq_iff_eq] at hok
        obtain ⟨⟨rfl, rfl⟩, hlk⟩ := hok
        obtain ⟨ow', w0, w1, w2, w3, hM⟩ := hall a _ hrow
        obtain ⟨-, k2, k3, k4, -, -, -, k8, -, k10, -⟩ := am_okM_use hM
        have hMet := hcall a _ h _ H0 (by omega) _ hrow D dA ro ad H.size hokh hr hargs
        refine ams_ran hA had hn hD hS hl hLo hrest hu1' hu2' (?_ : va_Run p l e R s m args below meth c H locs u.1 u.2 (am_lim a).1 (am_lim a).2 (F0 m pc ls (st.map (am_cv ad))) ((st.drop b).map (am_cv ad)) (am_Qc D dA ro ad h H.size (fun v h' => am_Wp p l e R s m args below meth c D dA A ro ad0 n0 nL lim Qm (pc + 3, L, v.toList ++ st.drop b, u.1 + (am_lim a).1, u.2 + (am_lim a).2) h') (((st.take b).reverse).map (am_cv ad)).toArray) (va_A (am_ws dA ad h) H.size)) (fun v h' z => z)
        simp only [Bool.or_eq_true] at hlk
        rcases hlk with hlk | hlk
        · obtain ⟨r', hr', hlink⟩ := am_ml_use hlk
          cases hrow.symm.trans hr'
          have cb := callB_of (R := R) (s := s) (args := args) (own := am_cn ow) (index := cv) _ hts (am_goodIn k2) rfl (rm := am_rm d a) rfl rfl (hts _ k3) (hts _ hlink) k8 ⟨hRf, by simp only [am_rm] at *; omega⟩
          exact va_runS (As := ((st.take b).reverse).map (am_cv ad)) ⟨hx, hb, hml, hown, hts⟩ hMet ⟨cb, hts _ (k4 rfl)⟩ ⟨am_blind, hpre _⟩ rfl (by rw [List.length_map, List.length_reverse]; exact hlen) hl.1 (am_stk ad st) hcat' hdec ⟨Nat.le_trans hu1' hR.1, Nat.le_trans hu2' hR.2⟩
        · obtain ⟨⟨o, x, y'⟩, hmem, hq⟩ := List.any_eq_true.mp hlk
          simp only [Bool.and_eq_true, beq_iff_eq, decide_eq_true_eq] at hq
          obtain ⟨rfl, rfl, rfl⟩ := hq
          have hnl := hro.2.2.2.2.2.2.2.2.2.1 _ hmem
          have cb := va_cnB (R := R) (s := s) (args := args) (own := am_cn ow) (index := x) _ hts (am_goodIn k2) rfl (rm := am_rm d a) rfl rfl hnl (hts _ k3) k8 ⟨hRf, by simp only [am_rm] at *; omega⟩
          exact va_runSN (As := ((st.take b).reverse).map (am_cv ad)) ⟨hx, hb, hml, hown, hts⟩ hMet ⟨cb, hts _ (k4 rfl), trivial⟩ ⟨am_blind, hpre _⟩ rfl (by rw [List.length_map, List.length_reverse]; exact hlen) hl.1 (am_stk ad st) hcat' hdec ⟨Nat.le_trans hu1' hR.1, Nat.le_trans hu2' hR.2⟩
      · cases hok
  · -- virtual
    simp only [am_okE, Bool.and_eq_true, beq_iff_eq] at hok
    obtain ⟨rfl, hok⟩ := hok
    split at hok
    · simp only [Bool.and_eq_true, Bool.or_eq_true, beq_iff_eq] at hok
      obtain ⟨rfl, hok⟩ := hok
      have hk : (a = 901 ∧ b = 1 ∨ a = 902 ∧ b = 2 ∨ a = 903 ∧ b = 1) ∧ Cond.methodLink (am_cn ow) cv (am_pn a).1 ∈ am_gt := by
        rcases hok with ((⟨⟨rfl, rfl⟩, z⟩ | ⟨⟨rfl, rfl⟩, z⟩) | ⟨⟨rfl, rfl⟩, z⟩)
        · exact ⟨Or.inl ⟨rfl, rfl⟩, am_inT_use z⟩
        · exact ⟨Or.inr (Or.inl ⟨rfl, rfl⟩), am_inT_use z⟩
        · exact ⟨Or.inr (Or.inr ⟨rfl, rfl⟩), am_inT_use z⟩
      obtain ⟨hk, hlink⟩ := hk
      have hk3 : a = 901 ∨ a = 902 ∨ a = 903 := by omega
      have hlim : am_lim a = (0, 0) := by rcases hk3 with rfl | rfl | rfl <;> rfl
      obtain ⟨g1, g2, g3, g4, g5⟩ := am_libS a hk3
      cases d with
      | zero => exact False.elim H0
      | succ d =>
        have H1 : am_prim d a (st.take b).reverse h (fun v h' => am_Wp p l e R s m args below meth c D dA A ro ad0 n0 nL lim Qm (pc + 3, L, v.toList ++ st.drop b, u.1 + (am_lim a).1, u.2 + (am_lim a).2) h') := by
          have z := H0
          unfold am_call at z
          simp only at z
          rw [if_pos (by omega)] at z
          exact z
        have hMet := hstr d a _ h _ H1 (by omega) (by omega) D dA ro ad H.size hokh hr hargs
        -- the receiver is a text
        have hrec := am_prim_rec hk3 H1
        obtain ⟨j, As', hq, hj⟩ := hrec
        obtain ⟨adV, hV⟩ := hro.2.2.2.2.1
        rw [hlim] at hMet hu1' hu2'
        rw [hq] at hMet
        have hlenA : As'.length + 1 = b := by
          have := congrArg List.length hq
          rw [List.length_reverse, hlen] at this
          simpa using this.symm
        have hdd : (am_pn a).1.cls ≠ "java/lang/invoke/MethodHandle" ∧ (am_pn a).1.cls ≠ "java/lang/invoke/VarHandle" ∧ (parseMethodDescriptor (am_pn a).1.desc).map (fun d => d.parameters.length) = some As'.length := by
          refine ⟨by rw [g5]; decide, by rw [g5]; decide, ?_⟩
          rcases hk with ⟨rfl, rfl⟩ | ⟨rfl, rfl⟩ | ⟨rfl, rfl⟩
          · have : As'.length = 0 := by omega
            rw [this]; decide +kernel
          · have : As'.length = 1 := by omega
            rw [this]; decide +kernel
          · have : As'.length = 0 := by omega
            rw [this]; decide +kernel
        have hml20 : (am_pn a).2.2.1 ≤ 2 := by rcases hk3 with rfl | rfl | rfl <;> decide
        have cb := callB_of (R := R) (s := s) (args := args) (own := am_cn ow) (index := cv) _ hts (am_goodIn g1) rfl (rm := { frames := d, cells := 0, slots := 0, locals := 40 * d }) rfl rfl (by rw [g5]; exact hts _ g4) (hts _ hlink) hdd ⟨by show d + 1 ≤ R.frames; omega, by show 8 + ((am_pn a).2.2.1 + 11) + 40 * d ≤ R.locals; omega⟩
        refine ams_ran (mc := 0) (ms := 0) hA had hn hD hS hl hLo hrest hu1' hu2' (?_ : va_Run p l e R s m args below meth c H locs u.1 u.2 0 0 (F0 m pc ls (st.map (am_cv ad))) ((st.drop b).map (am_cv ad)) (am_Qc D dA ro ad h H.size (fun v h' => am_Wp p l e R s m args below meth c D dA A ro ad0 n0 nL lim Qm (pc + 3, L, v.toList ++ st.drop b, u.1 + 0, u.2 + 0) h') (Value.ref (ad j) :: As'.map (am_cv ad)).toArray) (va_A (am_ws dA ad h) H.size)) (fun v h' z => z)
        refine va_runV (b := ad j) (As := As'.map (am_cv ad)) (C := "java/lang/String") ⟨hx, hb, hml, hown, hts⟩ hMet ⟨cb, hts _ g2, hts _ g3⟩ ⟨am_blind, ?_, fun U hU hW => hpre (.ref j :: As') U hU hW⟩ rfl (by rw [List.length_map]) hl.1 ?_ hcat' hdec ⟨Nat.le_trans hu1 hR.1, Nat.le_trans hu2 hR.2⟩
        · have hj16 : j < 16 := hj
          have h16 : 16 ≤ n0 := Nat.le_trans (by decide) hn0
          rw [had j (Nat.lt_of_lt_of_le hj16 h16)]
          exact vk_recv hV hj hS
        · show st.map (am_cv ad) = _
          rw [am_stk (b := b) ad st, hq]
          simp [am_cv]
    · rename_i h900
      split at hok
      · rename_i y bytes ml rt' kd np C T N hrow hcl
        simp only [Bool.and_eq_true, beq_iff_eq, bne_iff_ne, ne_eq] at hok
        obtain ⟨⟨⟨⟨rfl, rfl⟩, ht⟩, rfl⟩, hlk⟩ := hok
        obtain ⟨r', hr', hlink⟩ := am_ml_use hlk
        cases hrow.symm.trans hr'
        obtain ⟨ow', w0, w1, w2, w3, hM⟩ := hall a _ hrow
        obtain ⟨-, k2, k3, -, k5, k6, -, k8, -, k10, -⟩ := am_okM_use hM
        cases t with
        | zero => exact absurd rfl ht
        | succ ci =>
          simp only at H0
          split at H0
          case h_2 => exact H0.elim
          rename_i q hq
          obtain ⟨fs, hqc, H1⟩ := am_obj_use H0
          have hMet := hcall a _ h _ H1 (by omega) _ hrow D dA ro ad H.size hokh hr hargs
          obtain ⟨As', hAs⟩ : ∃ As', (st.take (np + 1)).reverse = .ref q :: As' := by
            have z : (st.take (np + 1)).reverse.head? = some (.ref q) := by rw [List.head?_reverse]; exact hq
            cases hz : (st.take (np + 1)).reverse with
            | nil => rw [hz] at z; cases z
            | cons x r => rw [hz] at z; simp at z; exact ⟨r, by rw [z]⟩
          have hqn : q < h.1 := hargs (.ref q) (by rw [hAs]; simp) q rfl
          have hci : ci < 9 := am_ci9 hcl
          have h40 := am_hi_obj hokh hr hqc hci
          have hw := am_ws_at (dA := dA) (ad := ad) h40 hqn
          rw [hqc] at hw
          rw [hAs] at hMet
          have hlenA : As'.length = np := by
            have := congrArg List.length hAs
            rw [List.length_reverse, hlen] at this
            simp at this
            omega
          have cb := callB_of (R := R) (s := s) (args := args) (own := am_cn ow) (index := cv) _ hts (am_goodIn k2) rfl (rm := am_rm d a) rfl rfl (hts _ k3) (hts _ hlink) k8 ⟨hRf, by simp only [am_rm] at *; omega⟩
          refine ams_ran hA had hn hD hS hl hLo hrest hu1' hu2' (?_ : va_Run p l e R s m args below meth c H locs u.1 u.2 (am_lim a).1 (am_lim a).2 (F0 m pc ls (st.map (am_cv ad))) ((st.drop (np + 1)).map (am_cv ad)) (am_Qc D dA ro ad h H.size (fun v h' => am_Wp p l e R s m args below meth c D dA A ro ad0 n0 nL lim Qm (pc + 3, L, v.toList ++ st.drop (np + 1), u.1 + (am_lim a).1, u.2 + (am_lim a).2) h') (Value.ref (ad q) :: As'.map (am_cv ad)).toArray) (va_A (am_ws dA ad h) H.size)) (fun v h' z => z)
          refine va_runV (b := ad q) (As := As'.map (am_cv ad)) (C := y.cls) ⟨hx, hb, hml, hown, hts⟩ hMet ⟨cb, hts _ (k5 (show ¬ (1 : Nat) = 0 by decide)), hts _ (k6 rfl)⟩ ⟨am_blind, va_recv hK hP hcl hw, fun U hU hW => hpre (.ref q :: As') U hU hW⟩ rfl (by rw [List.length_map]; exact hlenA) hl.1 ?_ hcat' hdec ⟨Nat.le_trans hu1' hR.1, Nat.le_trans hu2' hR.2⟩
          show st.map (am_cv ad) = _
          rw [am_stk (b := np + 1) ad st, hAs]
          simp [am_cv]
      · cases hok
  · -- special
    simp only [am_okE, Bool.and_eq_true, beq_iff_eq] at hok
    obtain ⟨rfl, hok⟩ := hok
    split at hok
    · simp only [Bool.and_eq_true, beq_iff_eq] at hok
      obtain ⟨⟨⟨rfl, rfl⟩, rfl⟩, hlink⟩ := hok
      cases d with
      | zero => exact False.elim H0
      | succ d =>
        have H1 : am_prim d 904 (st.take 1).reverse h (fun v h' => am_Wp p l e R s m args below meth c D dA A ro ad0 n0 nL lim Qm (pc + 3, L, v.toList ++ st.drop 1, u.1 + 0, u.2 + 0) h') := H0
        unfold am_prim at H1
        split at H1
        case h_2 => omega
        case h_3 => omega
        case h_4 => omega
        case h_5 => omega
        case h_6 => exact H1.elim
        case h_1 =>
          rename_i q _ hq
          have hst1 : st = .ref q :: st.drop 1 := by
            have e1 : st.take 1 = [.ref q] := by rw [← List.reverse_reverse (st.take 1), hq]; rfl
            conv => lhs; rw [← List.take_append_drop 1 st, e1]
            rfl
          have hgoal : W p l e R s m args below meth c H locs u.1 u.2 Qm (F0 m pc ls (.ref (ad q) :: (st.drop 1).map (am_cv ad))) := by
            refine W.objInit hx hb hown (hts _ (am_inT_use hlink)) (hts _ am_lib.1) (hts _ am_lib.2.1) rfl (hl.1.trans hml.symm) rfl hdec (by omega) ?_ (H1 ad H locs ls had hn hP hD hS hokh hl hLo hrest hu1 hu2)
            have := hcat'
            rw [am_mon] at this
            show 2 * 0 + _ + 12 ≤ R.locals
            omega
          rw [hst1]
          exact hgoal
    · rename_i h900
      split at hok
      · rename_i y bytes ml rt' kd np hrow
        simp only [Bool.and_eq_true, beq_iff_eq, bne_iff_ne, ne_eq] at hok
        obtain ⟨⟨⟨rfl, rfl⟩, ht⟩, hlk⟩ := hok
        obtain ⟨ow', w0, w1, w2, w3, hM⟩ := hall a _ hrow
        obtain ⟨-, k2, k3, -, k5, -, k7, k8, -, k10, -⟩ := am_okM_use hM
        obtain ⟨k71, k72⟩ := k7 rfl
        dsimp only at k71 k72
        subst k72
        cases t with
        | zero => exact absurd rfl ht
        | succ ci =>
        simp only at H0
        split at H0
        case h_2 => exact H0.elim
        rename_i q hq
        obtain ⟨fs, hqc, H1⟩ := am_obj_use H0
        have hMet := hcall a _ h _ H1 (by omega) _ hrow D dA ro ad H.size hokh hr hargs
        -- the object that is made
        obtain ⟨As', hAs⟩ : ∃ As', (st.take (np + 1)).reverse = .ref q :: As' := by
          have z : (st.take (np + 1)).reverse.head? = some (.ref q) := by rw [List.head?_reverse]; exact hq
          cases hz : (st.take (np + 1)).reverse with
          | nil => rw [hz] at z; cases z
          | cons x r => rw [hz] at z; simp at z; exact ⟨r, by rw [z]⟩
        rw [hAs] at hMet
        have hlenA : As'.length = np := by
          have := congrArg List.length hAs
          rw [List.length_reverse, hlen] at this
          simp at this
          omega
        refine ams_ran hA had hn hD hS hl hLo hrest hu1' hu2' (?_ : va_Run p l e R s m args below meth c H locs u.1 u.2 (am_lim a).1 (am_lim a).2 (F0 m pc ls (st.map (am_cv ad))) ((st.drop (np + 1)).map (am_cv ad)) (am_Qc D dA ro ad h H.size (fun v h' => am_Wp p l e R s m args below meth c D dA A ro ad0 n0 nL lim Qm (pc + 3, L, v.toList ++ st.drop (np + 1), u.1 + (am_lim a).1, u.2 + (am_lim a).2) h') (Value.ref (ad q) :: As'.map (am_cv ad)).toArray) (va_A (am_ws dA ad h) H.size)) (fun v h' z => z)
        have hstack : st.map (am_cv ad) = (As'.map (am_cv ad)).reverse ++ .ref (ad q) :: (st.drop (np + 1)).map (am_cv ad) := by
          rw [am_stk (b := np + 1) ad st, hAs]
          simp [am_cv]
        simp only [Bool.or_eq_true] at hlk
        rcases hlk with hlk | hlk
        · obtain ⟨r', hr', hlink⟩ := am_ml_use hlk
          cases hrow.symm.trans hr'
          have cb := callB_of (R := R) (s := s) (args := args) (own := am_cn ow) (index := cv) _ hts (am_goodIn k2) rfl (rm := am_rm d a) rfl rfl (hts _ k3) (hts _ hlink) k8 ⟨hRf, by simp only [am_rm] at *; omega⟩
          exact va_runI (b := ad q) (As := As'.map (am_cv ad)) ⟨hx, hb, hml, hown, hts⟩ hMet ⟨cb, k71, hts _ (k5 (show ¬ (2 : Nat) = 0 by decide))⟩ ⟨am_blind, fun U hU hW => hpre (.ref q :: As') U hU hW⟩ rfl (by rw [List.length_map]; exact hlenA) hl.1 hstack hcat' hdec ⟨Nat.le_trans hu1' hR.1, Nat.le_trans hu2' hR.2⟩
        · obtain ⟨⟨o, x, y'⟩, hmem, hq⟩ := List.any_eq_true.mp hlk
          simp only [Bool.and_eq_true, beq_iff_eq, decide_eq_true_eq] at hq
          obtain ⟨rfl, rfl, rfl⟩ := hq
          have hnl := hro.2.2.2.2.2.2.2.2.2.1 _ hmem
          have cb := va_cnB (R := R) (s := s) (args := args) (own := am_cn ow) (index := x) _ hts (am_goodIn k2) rfl (rm := am_rm d a) rfl rfl hnl (hts _ k3) k8 ⟨hRf, by simp only [am_rm] at *; omega⟩
          exact va_runIN (b := ad q) (As := As'.map (am_cv ad)) ⟨hx, hb, hml, hown, hts⟩ hMet ⟨cb, k71, hts _ (k5 (show ¬ (2 : Nat) = 0 by decide))⟩ ⟨am_blind, fun U hU hW => hpre (.ref q :: As') U hU hW⟩ rfl (by rw [List.length_map]; exact hlenA) hl.1 hstack hcat' hdec ⟨Nat.le_trans hu1' hR.1, Nat.le_trans hu2' hR.2⟩
      · cases hok
end
