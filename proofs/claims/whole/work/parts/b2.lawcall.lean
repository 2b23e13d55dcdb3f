/-! calls out of any class's own code, by their links -/
section
variable {p : Program} {l : Launch} {e : Env} {R : Room} {s : State} {m : MethodId} {args : Array Value} {below : List Frame} {meth : Method} {c : Code}
variable {D : va_G} {dA : Nat → ClassId} {A : Nat → Prop} {ro : Nat → am_C} {ad0 : Nat → Nat} {n0 nL : Nat} {lim : Nat × Nat} {Qm : State → Prop}
variable {cc : ByteArray} {pc : Nat} {L : List (Option Value)} {st : List Value} {u : Nat × Nat} {h : am_H}
set_option maxHeartbeats 4000000 in
theorem lw_hv {d a np ci idx ml N : Nat} {own : String} {y : MethodName} {bytes : ByteArray} {rt' : Option FieldType} {T : u_T} (hx : p.tables.exec = Jvm.exec) (hb : c.code = cc) (hml : c.maxLocals = nL) (hown : s.vm.findClass own = some m.cls) (hts : ∀ w ∈ am_gt, w.before args s = true) (hK : va_K D vwCl (am_tys dA) s) (hr : am_roS ro) (hA : ∀ q, s.heap.size ≤ q → A q) (hro : am_RO ro ad0 A s s.heap) (hn0 : 40 ≤ n0) (hR : lim.1 ≤ R.cells ∧ lim.2 ≤ R.slots) (hRf : d + 1 ≤ R.frames) (hRl : 40 * (d + 1) ≤ R.locals)
    (hall : am_OkAll) (hcall : ∀ k as h Q, am_call d k as h Q → k < 900 → am_MetOk l d k as h Q)
    (hrow : am_mt[a]? = some (y, bytes, ml, rt', 1, np)) (ha : a < 900) (hcl : vwCl[ci]? = some (y.cls, T, N)) (hlink : Cond.methodLink own idx y ∈ am_gt) (hdec : decode cc pc = .ok (.invokevirtual idx, 3))
    (H0 : am_inv (am_call d) a (np + 1) (ci + 1) (am_Wp p l e R s m args below meth c D dA A ro ad0 n0 nL lim Qm) lim pc L st u h) : am_Wp p l e R s m args below meth c D dA A ro ad0 n0 nL lim Qm (pc, L, st, u) h := by
  unfold am_inv at H0
  split at H0
  case isFalse => exact H0.elim
  rename_i hcond
  obtain ⟨hcat, hbl, hu1', hu2'⟩ := hcond
  intro ad H locs ls had hn hP hD hS hokh hl hLo hst hu1 hu2
  have hargs : ∀ v ∈ (st.take (np + 1)).reverse, am_okv h.1 v := fun v hv => hst v (List.mem_of_mem_take (List.mem_reverse.mp hv))
  have hrest : ∀ v ∈ st.drop (np + 1), am_okv h.1 v := fun v hv => hst v (List.mem_of_mem_drop hv)
  have hcat' : 2 * (F0 m pc ls (st.map (am_cv ad))).monitorRoom + (((st.drop (np + 1)).map (am_cv ad)).map fun v => v.category).sum ≤ 8 := by rw [am_mon, am_cats_cv]; omega
  have hpre : ∀ as, ∀ U : State, U.heap = H → s.WarmedH U.vm → am_Pc D dA ro ad h H.size as (as.map (am_cv ad)).toArray U := fun as => am_pre (as := as) hK hA hro hn0 had hP hD hS
  have hlen : (st.take (np + 1)).length = np + 1 := by rw [List.length_take]; omega
  obtain ⟨ow', w0, w1, w2, w3, hM⟩ := hall a _ hrow
  obtain ⟨-, k2, k3, -, k5, k6, -, k8, -, k10, -⟩ := am_okM_use hM
  simp only at H0
  split at H0
  case h_2 => exact H0.elim
  rename_i q hq
  obtain ⟨fs, hqc, H1⟩ := am_obj_use H0
  have hMet := hcall a _ h _ H1 ha _ hrow D dA ro ad H.size hokh hr hargs
  obtain ⟨As', hAs⟩ : ∃ As', (st.take (np + 1)).reverse = .ref q :: As' := by
    have z : (st.take (np + 1)).reverse.head? = some (.ref q) := by rw [List.head?_reverse]; exact hq
    cases hz : (st.take (np + 1)).reverse with
    | nil => rw [hz] at z; cases z
    | cons x r => rw [hz] at z; simp at z; exact ⟨r, by rw [z]⟩
  have hqn : q < h.1 := hargs (.ref q) (by rw [hAs]; simp) q rfl
  have hci : ci < 9 := am_ci9 hcl
  have h40 := am_hi_obj hokh hr hqc hci
  have hw := am_ws_at (dA := dA) (ad := ad) h40 hqn
  rw [hqc] at hw
  rw [hAs] at hMet
  have hlenA : As'.length = np := by
    have := congrArg List.length hAs
    rw [List.length_reverse, hlen] at this
    simp at this
    omega
  have cb := callB_of (R := R) (s := s) (args := args) (own := own) (index := idx) _ hts (am_goodIn k2) rfl (rm := am_rm d a) rfl rfl (hts _ k3) (hts _ hlink) k8 ⟨hRf, by simp only [am_rm] at *; omega⟩
  refine ams_ran hA had hn hD hS hl hLo hrest hu1' hu2' (?_ : va_Run p l e R s m args below meth c H locs u.1 u.2 (am_lim a).1 (am_lim a).2 (F0 m pc ls (st.map (am_cv ad))) ((st.drop (np + 1)).map (am_cv ad)) (am_Qc D dA ro ad h H.size (fun v h' => am_Wp p l e R s m args below meth c D dA A ro ad0 n0 nL lim Qm (pc + 3, L, v.toList ++ st.drop (np + 1), u.1 + (am_lim a).1, u.2 + (am_lim a).2) h') (Value.ref (ad q) :: As'.map (am_cv ad)).toArray) (va_A (am_ws dA ad h) H.size)) (fun v h' z => z)
  refine va_runV (b := ad q) (As := As'.map (am_cv ad)) (C := y.cls) ⟨hx, hb, hml, hown, hts⟩ hMet ⟨cb, hts _ (k5 (show ¬ (1 : Nat) = 0 by decide)), hts _ (k6 rfl)⟩ ⟨am_blind, va_recv hK hP hcl hw, fun U hU hW => hpre (.ref q :: As') U hU hW⟩ rfl (by rw [List.length_map]; exact hlenA) hl.1 ?_ hcat' hdec ⟨by omega, by omega⟩
  show st.map (am_cv ad) = _
  rw [am_stk (b := np + 1) ad st, hAs]
  simp [am_cv]
set_option maxHeartbeats 4000000 in
theorem lw_hi {d a np ci idx ml : Nat} {own : String} {y : MethodName} {bytes : ByteArray} {rt' : Option FieldType} (hx : p.tables.exec = Jvm.exec) (hb : c.code = cc) (hml : c.maxLocals = nL) (hown : s.vm.findClass own = some m.cls) (hts : ∀ w ∈ am_gt, w.before args s = true) (hK : va_K D vwCl (am_tys dA) s) (hr : am_roS ro) (hA : ∀ q, s.heap.size ≤ q → A q) (hro : am_RO ro ad0 A s s.heap) (hn0 : 40 ≤ n0) (hR : lim.1 ≤ R.cells ∧ lim.2 ≤ R.slots) (hRf : d + 1 ≤ R.frames) (hRl : 40 * (d + 1) ≤ R.locals)
    (hall : am_OkAll) (hcall : ∀ k as h Q, am_call d k as h Q → k < 900 → am_MetOk l d k as h Q)
    (hrow : am_mt[a]? = some (y, bytes, ml, rt', 2, np)) (ha : a < 900) (hlink : Cond.methodLink own idx y ∈ am_gt) (hdec : decode cc pc = .ok (.invokespecial idx, 3))
    (H0 : am_inv (am_call d) a (np + 1) (ci + 1) (am_Wp p l e R s m args below meth c D dA A ro ad0 n0 nL lim Qm) lim pc L st u h) : am_Wp p l e R s m args below meth c D dA A ro ad0 n0 nL lim Qm (pc, L, st, u) h := by
  unfold am_inv at H0
  split at H0
  case isFalse => exact H0.elim
  rename_i hcond
  obtain ⟨hcat, hbl, hu1', hu2'⟩ := hcond
  intro ad H locs ls had hn hP hD hS hokh hl hLo hst hu1 hu2
  have hargs : ∀ v ∈ (st.take (np + 1)).reverse, am_okv h.1 v := fun v hv => hst v (List.mem_of_mem_take (List.mem_reverse.mp hv))
  have hrest : ∀ v ∈ st.drop (np + 1), am_okv h.1 v := fun v hv => hst v (List.mem_of_mem_drop hv)
  have hcat' : 2 * (F0 m pc ls (st.map (am_cv ad))).monitorRoom + (((st.drop (np + 1)).map (am_cv ad)).map fun v => v.category).sum ≤ 8 := by rw [am_mon, am_cats_cv]; omega
  have hpre : ∀ as, ∀ U : State, U.heap = H → s.WarmedH U.vm → am_Pc D dA ro ad h H.size as (as.map (am_cv ad)).toArray U := fun as => am_pre (as := as) hK hA hro hn0 had hP hD hS
  have hlen : (st.take (np + 1)).length = np + 1 := by rw [List.length_take]; omega
  obtain ⟨ow', w0, w1, w2, w3, hM⟩ := hall a _ hrow
  obtain ⟨-, k2, k3, -, k5, -, k7, k8, -, k10, -⟩ := am_okM_use hM
  obtain ⟨k71, k72⟩ := k7 rfl
  dsimp only at k71 k72
  subst k72
  simp only at H0
  split at H0
  case h_2 => exact H0.elim
  rename_i q hq
  obtain ⟨fs, hqc, H1⟩ := am_obj_use H0
  have hMet := hcall a _ h _ H1 ha _ hrow D dA ro ad H.size hokh hr hargs
  obtain ⟨As', hAs⟩ : ∃ As', (st.take (np + 1)).reverse = .ref q :: As' := by
    have z : (st.take (np + 1)).reverse.head? = some (.ref q) := by rw [List.head?_reverse]; exact hq
    cases hz : (st.take (np + 1)).reverse with
    | nil => rw [hz] at z; cases z
    | cons x r => rw [hz] at z; simp at z; exact ⟨r, by rw [z]⟩
  rw [hAs] at hMet
  have hlenA : As'.length = np := by
    have := congrArg List.length hAs
    rw [List.length_reverse, hlen] at this
    simp at this
    omega
  refine ams_ran hA had hn hD hS hl hLo hrest hu1' hu2' (?_ : va_Run p l e R s m args below meth c H locs u.1 u.2 (am_lim a).1 (am_lim a).2 (F0 m pc ls (st.map (am_cv ad))) ((st.drop (np + 1)).map (am_cv ad)) (am_Qc D dA ro ad h H.size (fun v h' => am_Wp p l e R s m args below meth c D dA A ro ad0 n0 nL lim Qm (pc + 3, L, v.toList ++ st.drop (np + 1), u.1 + (am_lim a).1, u.2 + (am_lim a).2) h') (Value.ref (ad q) :: As'.map (am_cv ad)).toArray) (va_A (am_ws dA ad h) H.size)) (fun v h' z => z)
  have hstack : st.map (am_cv ad) = (As'.map (am_cv ad)).reverse ++ .ref (ad q) :: (st.drop (np + 1)).map (am_cv ad) := by
    rw [am_stk (b := np + 1) ad st, hAs]
    simp [am_cv]
  have cb := callB_of (R := R) (s := s) (args := args) (own := own) (index := idx) _ hts (am_goodIn k2) rfl (rm := am_rm d a) rfl rfl (hts _ k3) (hts _ hlink) k8 ⟨hRf, by simp only [am_rm] at *; omega⟩
  exact va_runI (b := ad q) (As := As'.map (am_cv ad)) ⟨hx, hb, hml, hown, hts⟩ hMet ⟨cb, k71, hts _ (k5 (show ¬ (2 : Nat) = 0 by decide))⟩ ⟨am_blind, fun U hU hW => hpre (.ref q :: As') U hU hW⟩ rfl (by rw [List.length_map]; exact hlenA) hl.1 hstack hcat' hdec ⟨by omega, by omega⟩
/-- a static method with a table of its own -/
def am_wH (y : MethodName) (bytes : ByteArray) (ml : Nat) (rt : Option FieldType) (hh : List (Nat × Nat × Nat × Nat)) : List Cond := .codeWith y bytes ml rt hh :: am_gt
def am_MetH (l : Launch) (y : MethodName) (bytes : ByteArray) (ml : Nat) (rt : Option FieldType) (hh : List (Nat × Nat × Nat × Nat)) (rm : Room) (as : List Value) (h : am_H) (Q : Option Value → am_H → Prop) : Prop := ∀ (D : va_G) (dA : Nat → ClassId) (ro : Nat → am_C) (ad : Nat → Nat) (sz : Nat), am_okh ro h → am_roS ro → (∀ v ∈ as, am_okv h.1 v) →
  Met l y (am_wH y bytes ml rt hh) rm (am_Pc D dA ro ad h sz as) (am_Qc D dA ro ad h sz Q) rm.cells rm.slots (va_A (am_ws dA ad h) sz)
set_option maxHeartbeats 4000000 in
theorem lw_hs {a np idx ml : Nat} {own : String} {y : MethodName} {bytes : ByteArray} {rt' : Option FieldType} {hh : List (Nat × Nat × Nat × Nat)} {rm : Room} {call : am_K} (hx : p.tables.exec = Jvm.exec) (hb : c.code = cc) (hml : c.maxLocals = nL) (hown : s.vm.findClass own = some m.cls) (hts : ∀ w ∈ am_gt, w.before args s = true) (hK : va_K D vwCl (am_tys dA) s) (hr : am_roS ro) (hA : ∀ q, s.heap.size ≤ q → A q) (hro : am_RO ro ad0 A s s.heap) (hn0 : 40 ≤ n0) (hR : lim.1 ≤ R.cells ∧ lim.2 ≤ R.slots) (hRf : rm.frames + 1 ≤ R.frames) (hRl : 8 + (ml + 11) + rm.locals ≤ R.locals)
    (hrm : (am_lim a).1 = rm.cells ∧ (am_lim a).2 = rm.slots) (hcall : ∀ as h Q, call a as h Q → am_MetH l y bytes ml rt' hh rm as h Q)
    (hlink : Cond.methodLink own idx y ∈ am_gt) (hstat : Cond.static y ∈ am_gt) (hini : Cond.initialized y.cls ∈ am_gt) (hcode : Cond.codeWith y bytes ml rt' hh ∈ am_gt)
    (hd : y.cls ≠ "java/lang/invoke/MethodHandle" ∧ y.cls ≠ "java/lang/invoke/VarHandle" ∧ (parseMethodDescriptor y.desc).map (fun d => d.parameters.length) = some np) (hdec : decode cc pc = .ok (.invokestatic idx, 3))
    (H0 : am_inv call a np 0 (am_Wp p l e R s m args below meth c D dA A ro ad0 n0 nL lim Qm) lim pc L st u h) : am_Wp p l e R s m args below meth c D dA A ro ad0 n0 nL lim Qm (pc, L, st, u) h := by
  unfold am_inv at H0
  split at H0
  case isFalse => exact H0.elim
  rename_i hcond
  obtain ⟨hcat, hbl, hu1', hu2'⟩ := hcond
  simp only at H0
  intro ad H locs ls had hn hP hD hS hokh hl hLo hst hu1 hu2
  have hargs : ∀ v ∈ (st.take np).reverse, am_okv h.1 v := fun v hv => hst v (List.mem_of_mem_take (List.mem_reverse.mp hv))
  have hrest : ∀ v ∈ st.drop np, am_okv h.1 v := fun v hv => hst v (List.mem_of_mem_drop hv)
  have hcat' : 2 * (F0 m pc ls (st.map (am_cv ad))).monitorRoom + (((st.drop np).map (am_cv ad)).map fun v => v.category).sum ≤ 8 := by rw [am_mon, am_cats_cv]; omega
  have hpre : ∀ as, ∀ U : State, U.heap = H → s.WarmedH U.vm → am_Pc D dA ro ad h H.size as (as.map (am_cv ad)).toArray U := fun as => am_pre (as := as) hK hA hro hn0 had hP hD hS
  have hlen : (st.take np).length = np := by rw [List.length_take]; omega
  have hMet := hcall _ h _ H0 D dA ro ad H.size hokh hr hargs
  rw [← hrm.1, ← hrm.2] at hMet
  refine ams_ran hA had hn hD hS hl hLo hrest hu1' hu2' (?_ : va_Run p l e R s m args below meth c H locs u.1 u.2 (am_lim a).1 (am_lim a).2 (F0 m pc ls (st.map (am_cv ad))) ((st.drop np).map (am_cv ad)) (am_Qc D dA ro ad h H.size (fun v h' => am_Wp p l e R s m args below meth c D dA A ro ad0 n0 nL lim Qm (pc + 3, L, v.toList ++ st.drop np, u.1 + (am_lim a).1, u.2 + (am_lim a).2) h') (((st.take np).reverse).map (am_cv ad)).toArray) (va_A (am_ws dA ad h) H.size)) (fun v h' z => z)
  refine vx_runSW (As := ((st.take np).reverse).map (am_cv ad)) ⟨hx, hb, hml, hown, hts⟩ hMet (vx_cwSW np hts (fun w hw => ?_) rfl hrm.1.symm hrm.2.symm hd ⟨hRf, hRl⟩) ⟨am_blind, hpre _⟩ rfl (by rw [List.length_map, List.length_reverse]; exact hlen) hl.1 (am_stk ad st) hcat' hdec ⟨by omega, by omega⟩
  have hw' : w = .methodLink own idx y ∨ w = .static y ∨ w = .initialized y.cls ∨ w = .codeWith y bytes ml rt' hh ∨ w ∈ am_gt := by
    unfold va_wsS am_wH at hw
    simp only [List.cons_append, List.nil_append, List.mem_cons] at hw
    exact hw
  rcases hw' with e | e | e | e | e
  · rw [e]; exact ⟨hlink, am_good hlink⟩
  · rw [e]; exact ⟨hstat, am_good hstat⟩
  · rw [e]; exact ⟨hini, am_good hini⟩
  · rw [e]; exact ⟨hcode, am_good hcode⟩
  · exact ⟨e, am_good e⟩
end
