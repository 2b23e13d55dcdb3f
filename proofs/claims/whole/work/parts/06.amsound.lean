/-! what an instruction's meaning gives, taken apart -/
section
variable {st : List Value} {ls : List (Option Value)} {h : am_H} {p i ci : Nat}
theorem am_i1_use {g : Int32 → List Value → Prop} (H : am_i1 st g) : ∃ x r, st = .int x :: r ∧ g x r := by
  unfold am_i1 at H; split at H
  · exact ⟨_, _, rfl, H⟩
  · exact H.elim
theorem am_i2_use {g : Int32 → Int32 → List Value → Prop} (H : am_i2 st g) : ∃ x y r, st = .int y :: .int x :: r ∧ g x y r := by
  unfold am_i2 at H; split at H
  · exact ⟨_, _, _, rfl, H⟩
  · exact H.elim
theorem am_l1_use {g : Int64 → List Value → Prop} (H : am_l1 st g) : ∃ x r, st = .long x :: r ∧ g x r := by
  unfold am_l1 at H; split at H
  · exact ⟨_, _, rfl, H⟩
  · exact H.elim
theorem am_l2_use {g : Int64 → Int64 → List Value → Prop} (H : am_l2 st g) : ∃ x y r, st = .long y :: .long x :: r ∧ g x y r := by
  unfold am_l2 at H; split at H
  · exact ⟨_, _, _, rfl, H⟩
  · exact H.elim
theorem am_r1_use {g : Nat → List Value → Prop} (H : am_r1 st g) : ∃ x r, st = .ref x :: r ∧ g x r := by
  unfold am_r1 at H; split at H
  · exact ⟨_, _, rfl, H⟩
  · exact H.elim
theorem am_ir_use {g : Int32 → Nat → List Value → Prop} (H : am_ir st g) : ∃ x y r, st = .int x :: .ref y :: r ∧ g x y r := by
  unfold am_ir at H; split at H
  · exact ⟨_, _, _, rfl, H⟩
  · exact H.elim
theorem am_ldi_use {g : Int32 → Prop} (H : am_ldi ls i g) : ∃ x, ls.getD i none = some (.int x) ∧ g x := by
  unfold am_ldi at H; split at H
  · rename_i e; exact ⟨_, e, H⟩
  · exact H.elim
theorem am_ldl_use {g : Int64 → Prop} (H : am_ldl ls i g) : ∃ x, ls.getD i none = some (.long x) ∧ g x := by
  unfold am_ldl at H; split at H
  · rename_i e; exact ⟨_, e, H⟩
  · exact H.elim
theorem am_lda_use {g : Nat → Prop} (H : am_lda ls i g) : ∃ x, ls.getD i none = some (.ref x) ∧ g x := by
  unfold am_lda at H; split at H
  · rename_i e; exact ⟨_, e, H⟩
  · exact H.elim
theorem am_obj_use {g : List Value → Prop} (H : am_obj h p ci g) : ∃ fs, h.2 p = .inr (ci, fs) ∧ g fs := by
  unfold am_obj at H; split at H
  · rename_i c fs e
    split at H
    · rename_i hc; subst hc; exact ⟨_, e, H⟩
    · exact H.elim
  · exact H.elim
theorem am_ari_use {ty : FieldType} {g : Nat → (Nat → Int32) → Prop} (H : am_ari h p ty g) : ∃ n f, h.2 p = .inl (ty, n, .inl f) ∧ g n f := by
  unfold am_ari at H; split at H
  · rename_i t n f e
    split at H
    · rename_i hc; subst hc; exact ⟨_, _, e, H⟩
    · exact H.elim
  · exact H.elim
theorem am_rdi_use {g : Nat → (Nat → Int32) → Prop} (H : am_rdi h p g) : ∃ n f, (h.2 p = .inl (.int, n, .inl f) ∨ h.2 p = .inl (.float, n, .inl f)) ∧ g n f := by
  unfold am_rdi at H; split at H
  · rename_i e; exact ⟨_, _, Or.inl e, H⟩
  · rename_i e; exact ⟨_, _, Or.inr e, H⟩
  · exact H.elim
theorem am_arl_use {g : Nat → (Nat → Int64) → Prop} (H : am_arl h p g) : ∃ n f, h.2 p = .inl (.long, n, .inr (.inl f)) ∧ g n f := by
  unfold am_arl at H; split at H
  · rename_i e; exact ⟨_, _, e, H⟩
  · exact H.elim
theorem am_arr_use {g : String → Nat → (Nat → Option Nat) → Prop} (H : am_arr h p g) : ∃ C n f, h.2 p = .inl (.object C, n, .inr (.inr (.inr (.inr f)))) ∧ g C n f := by
  unfold am_arr at H; split at H
  · rename_i e; exact ⟨_, _, _, e, H⟩
  · exact H.elim
theorem am_len_use {g : Nat → Prop} (H : am_len h p g) : ∃ ty n x, h.2 p = .inl (ty, n, x) ∧ g n := by
  unfold am_len at H; split at H
  · rename_i e; exact ⟨_, _, _, e, H⟩
  · exact H.elim
end
/-- the texts: own class, entry, text, number -/
def am_strs : List (String × Nat × String × Nat) := [("BeadRings$Day", 9, "", 0), ("BeadRings$Day", 49, "dd", 1), ("BeadRings$Day", 51, "d", 2), ("BeadRings$Day", 53, "ddl", 3), ("BeadRings$Day", 55, "lp", 4), ("BeadRings", 121, "no such bracelet", 5), ("BeadRings", 150, "no such question", 6), ("BeadRings", 156, "no such bead", 7), ("BeadRings", 165, "no such colour", 8), ("BeadRings", 411, "the row has no such number", 9), ("BeadRingsModel", 215, "nctfmdh", 10), ("BeadRingsModel", 220, "<>=", 11), ("BeadRingsModel", 222, "+-", 12), ("BeadRingsModel", 224, "*/", 13), ("BeadRingsModel", 162, "abcd", 14), ("BeadRingsModel", 360, "fusrxcjtb", 15)]
def am_nst : List (String × Nat × MethodName) := [(RX10, 9, yX7_init), (RX5, 24, yX7_init), (RX10, 28, yX8_init), (RX10, 35, yX9_init), (RX10, 42, yX4_init), (RX10, 68, yX6_init), (RX10, 290, yX2_rowsThatNoRollKeeps)]
def am_byts : List (List Int32) := (List.range 16).map am_txt
def am_lens : List Nat := am_byts.map List.length
/-- words of the exception's class that the machine's tables alone decide -/
def am_NS (U : State) : Prop := va_Nw (.declares (Bundle.initS "java/lang/RuntimeException")) U ∧ va_Nw (.declares (Bundle.initS "java/lang/Exception")) U ∧ va_Nw (.declares (Bundle.initS Bundle.tN)) U ∧ va_Nw (.castable "java/util/NoSuchElementException" "java/util/NoSuchElementException") U
theorem am_NS.go {s U : State} (hW : s.WarmedH U.vm) (h : am_NS s) : am_NS U := ⟨va_Nw.warmD hW h.1, va_Nw.warmD hW h.2.1, va_Nw.warmD hW h.2.2.1, va_Nw.warmC hW h.2.2.2⟩
theorem am_NS.same {s U : State} (hvm : s.vm = U.vm) (h : am_NS s) : am_NS U := ⟨va_Nw.same rfl hvm h.1, va_Nw.same rfl hvm h.2.1, va_Nw.same rfl hvm h.2.2.1, va_Nw.same rfl hvm h.2.2.2⟩
/-- what is only read: the texts (0 .. 15), the static arrays (32, 33), the script (34) -/
def am_RO (ro : Nat → am_C) (ad : Nat → Nat) (A : Nat → Prop) (U : State) (H : Heap) : Prop :=
  (∀ p n f, p < 40 → ro p = .inl (.float, n, .inl f) → va_T .int (ad p) n (fun j => .int (f j)) A U H) ∧
  va_Z RX4 "STARTS" "[I" (.ref (ad 32)) A U H ∧ va_Z RX2 "FACTORIALS" "[I" (.ref (ad 33)) A U H ∧
  (∀ q ∈ am_strs, vk_R q.1 q.2.1 q.2.2.1 (ad q.2.2.2) U) ∧ (∃ adV, vk_S 16 am_lens am_byts ad adV A U H) ∧
  va_Z "java/lang/String" "COMPACT_STRINGS" "Z" (.int 1) A U H ∧ va_Zq "jdk/internal/util/Preconditions" "SIOOBE_FORMATTER" "Ljava/util/function/BiFunction;" A U H ∧
  vx_Zq Bundle.tN "UNASSIGNED_STACK" Bundle.steD A U H ∧ vx_Zq Bundle.tN "SUPPRESSED_SENTINEL" Bundle.listD A U H ∧ (∀ q ∈ am_nst, va_Nw (.methodLinkNest q.1 q.2.1 q.2.2 "BeadRings") U) ∧ va_AO RX7 U ∧ am_NS U
theorem am_strs_lt : ∀ q ∈ am_strs, q.2.2.2 < 16 := by decide
theorem am_RO_go {ro : Nat → am_C} {ad ad0 : Nat → Nat} {A B : Nat → Prop} {s U : State} {H0 H : Heap} (h : am_RO ro ad0 A s H0) (hvm : s.WarmedH U.vm) (hk : ∀ a : Nat, a < H0.size → ¬ A a → H[a]? = H0[a]?) (hAB : ∀ q, B q → A q) (had : ∀ i, i < 40 → ad i = ad0 i) : am_RO ro ad B U H := by
  obtain ⟨h1, h2, h3, h4, ⟨adV, h5⟩, h6, h7, h8, h9, h10, h11⟩ := h
  have hv := hvm.alike
  refine ⟨fun p n f hp e => ?_, ?_, ?_, fun q hq => ?_, ⟨adV, ?_⟩, ((h6.moved hv).kept hk).narrow hAB, ((h7.moved hv).kept hk).narrow hAB, ((h8.moved hv).kept hk).narrow hAB, ((h9.moved hv).kept hk).narrow hAB, fun q hq => va_Nw.warmM hvm (h10 q hq), h11.1.moved hv, h11.2.go hvm⟩
  · rw [had p hp]; exact (((h1 p n f hp e).moved hv).kept hk).narrow hAB
  · rw [had 32 (by omega)]; exact ((h2.moved hv).kept hk).narrow hAB
  · rw [had 33 (by omega)]; exact ((h3.moved hv).kept hk).narrow hAB
  · rw [had q.2.2.2 (by have := am_strs_lt q hq; omega)]; exact (h4 q hq).warm hvm
  · have h5' := ((h5.moved hv).kept hk).narrow hAB
    refine ⟨fun i hi => ?_, fun i j hi hj e => ?_⟩
    · rw [had i (by omega)]; exact h5'.1 i hi
    · rw [had i (by omega), had j (by omega)] at e; exact h5'.2 i j hi hj e
theorem am_RO_same {ro : Nat → am_C} {ad : Nat → Nat} {A : Nat → Prop} {u U : State} {H : Heap} (h : am_RO ro ad A u H) (hvm : U.vm = u.vm) : am_RO ro ad A U H := by
  obtain ⟨h1, h2, h3, h4, ⟨adV, h5⟩, h6, h7, h8, h9, h10, h11⟩ := h
  have hv : u.vm.Alike U.vm := by rw [hvm]; exact Vm.Alike.refl _
  exact ⟨fun p n f hp e => (h1 p n f hp e).moved hv, h2.moved hv, h3.moved hv, fun q hq => (h4 q hq).same hvm, ⟨adV, h5.moved hv⟩, h6.moved hv, h7.moved hv, h8.moved hv, h9.moved hv, fun q hq => va_Nw.same rfl hvm.symm (h10 q hq), h11.1.moved hv, h11.2.same hvm.symm⟩
def am_roS (ro : Nat → am_C) : Prop := ∀ p, p < 40 → ro p = .inr (50, []) ∨ ∃ n f, ro p = .inl (.float, n, .inl f)
section
variable (p : Program) (l : Launch) (e : Env) (R : Room) (s : State) (m : MethodId) (args : Array Value) (below : List Frame) (meth : Method) (c : Code)
variable (D : va_G) (dA : Nat → ClassId) (A : Nat → Prop) (ro : Nat → am_C) (ad0 : Nat → Nat) (n0 nL : Nat) (lim : Nat × Nat) (Qm : State → Prop)
/-- the machine at a frame: wherever heap and locals lie so, it comes to Qm -/
def am_Wp : am_F → am_H → Prop := fun f h => match f with
  | (pc, L, st, u) => ∀ (ad : Nat → Nat) (H : Heap) (locs : List Loc) (ls : Array Slot), (∀ i, i < n0 → ad i = ad0 i) → n0 ≤ h.1 → va_P D vwCl (am_ws dA ad h) H → va_D A (am_ws dA ad h) → va_S A s.heap H locs → am_okh ro h → lv_has ls nL (am_pr L ad) → am_okL h.1 L → (∀ v ∈ st, am_okv h.1 v) → u.1 ≤ lim.1 → u.2 ≤ lim.2 →
    W p l e R s m args below meth c H locs u.1 u.2 Qm (F0 m pc ls (st.map (am_cv ad)))
end
section
variable {p : Program} {l : Launch} {e : Env} {R : Room} {s : State} {m : MethodId} {args : Array Value} {below : List Frame} {meth : Method} {c : Code}
variable {D : va_G} {dA : Nat → ClassId} {A : Nat → Prop} {ro : Nat → am_C} {ad0 : Nat → Nat} {n0 nL : Nat} {lim : Nat × Nat} {Qm : State → Prop}
variable {cc : ByteArray} {pc : Nat} {L : List (Option Value)} {st : List Value} {u : Nat × Nat} {h : am_H}

theorem ams_iadd (hx : p.tables.exec = Jvm.exec) (hb : c.code = cc) (hd : decode cc pc = .ok (.iadd, 1)) (H0 : am_i2 st (fun x y r => am_Wp p l e R s m args below meth c D dA A ro ad0 n0 nL lim Qm (pc + 1, L, .int (x + y) :: r, u) h)) : am_Wp p l e R s m args below meth c D dA A ro ad0 n0 nL lim Qm (pc, L, st, u) h := by
  obtain ⟨x, y, r, rfl, K⟩ := am_i2_use H0
  intro ad H locs ls had hn hP hD hS hok hl hLo hst hu1 hu2
  exact lv_iadd hx hb hd (K ad H locs ls had hn hP hD hS hok hl hLo (List.forall_mem_cons.mpr ⟨am_okv_int, fun v hv => hst v (List.mem_cons_of_mem _ (List.mem_cons_of_mem _ hv))⟩) hu1 hu2)
theorem ams_isub (hx : p.tables.exec = Jvm.exec) (hb : c.code = cc) (hd : decode cc pc = .ok (.isub, 1)) (H0 : am_i2 st (fun x y r => am_Wp p l e R s m args below meth c D dA A ro ad0 n0 nL lim Qm (pc + 1, L, .int (x - y) :: r, u) h)) : am_Wp p l e R s m args below meth c D dA A ro ad0 n0 nL lim Qm (pc, L, st, u) h := by
  obtain ⟨x, y, r, rfl, K⟩ := am_i2_use H0
  intro ad H locs ls had hn hP hD hS hok hl hLo hst hu1 hu2
  exact lv_isub hx hb hd (K ad H locs ls had hn hP hD hS hok hl hLo (List.forall_mem_cons.mpr ⟨am_okv_int, fun v hv => hst v (List.mem_cons_of_mem _ (List.mem_cons_of_mem _ hv))⟩) hu1 hu2)
theorem ams_imul (hx : p.tables.exec = Jvm.exec) (hb : c.code = cc) (hd : decode cc pc = .ok (.imul, 1)) (H0 : am_i2 st (fun x y r => am_Wp p l e R s m args below meth c D dA A ro ad0 n0 nL lim Qm (pc + 1, L, .int (x * y) :: r, u) h)) : am_Wp p l e R s m args below meth c D dA A ro ad0 n0 nL lim Qm (pc, L, st, u) h := by
  obtain ⟨x, y, r, rfl, K⟩ := am_i2_use H0
  intro ad H locs ls had hn hP hD hS hok hl hLo hst hu1 hu2
  exact lv_imul hx hb hd (K ad H locs ls had hn hP hD hS hok hl hLo (List.forall_mem_cons.mpr ⟨am_okv_int, fun v hv => hst v (List.mem_cons_of_mem _ (List.mem_cons_of_mem _ hv))⟩) hu1 hu2)
theorem ams_iand (hx : p.tables.exec = Jvm.exec) (hb : c.code = cc) (hd : decode cc pc = .ok (.iand, 1)) (H0 : am_i2 st (fun x y r => am_Wp p l e R s m args below meth c D dA A ro ad0 n0 nL lim Qm (pc + 1, L, .int (x &&& y) :: r, u) h)) : am_Wp p l e R s m args below meth c D dA A ro ad0 n0 nL lim Qm (pc, L, st, u) h := by
  obtain ⟨x, y, r, rfl, K⟩ := am_i2_use H0
  intro ad H locs ls had hn hP hD hS hok hl hLo hst hu1 hu2
  exact lv_iand hx hb hd (K ad H locs ls had hn hP hD hS hok hl hLo (List.forall_mem_cons.mpr ⟨am_okv_int, fun v hv => hst v (List.mem_cons_of_mem _ (List.mem_cons_of_mem _ hv))⟩) hu1 hu2)
theorem ams_ior (hx : p.tables.exec = Jvm.exec) (hb : c.code = cc) (hd : decode cc pc = .ok (.ior, 1)) (H0 : am_i2 st (fun x y r => am_Wp p l e R s m args below meth c D dA A ro ad0 n0 nL lim Qm (pc + 1, L, .int (x ||| y) :: r, u) h)) : am_Wp p l e R s m args below meth c D dA A ro ad0 n0 nL lim Qm (pc, L, st, u) h := by
  obtain ⟨x, y, r, rfl, K⟩ := am_i2_use H0
  intro ad H locs ls had hn hP hD hS hok hl hLo hst hu1 hu2
  exact lv_ior hx hb hd (K ad H locs ls had hn hP hD hS hok hl hLo (List.forall_mem_cons.mpr ⟨am_okv_int, fun v hv => hst v (List.mem_cons_of_mem _ (List.mem_cons_of_mem _ hv))⟩) hu1 hu2)
theorem ams_ixor (hx : p.tables.exec = Jvm.exec) (hb : c.code = cc) (hd : decode cc pc = .ok (.ixor, 1)) (H0 : am_i2 st (fun x y r => am_Wp p l e R s m args below meth c D dA A ro ad0 n0 nL lim Qm (pc + 1, L, .int (x ^^^ y) :: r, u) h)) : am_Wp p l e R s m args below meth c D dA A ro ad0 n0 nL lim Qm (pc, L, st, u) h := by
  obtain ⟨x, y, r, rfl, K⟩ := am_i2_use H0
  intro ad H locs ls had hn hP hD hS hok hl hLo hst hu1 hu2
  exact lv_ixor hx hb hd (K ad H locs ls had hn hP hD hS hok hl hLo (List.forall_mem_cons.mpr ⟨am_okv_int, fun v hv => hst v (List.mem_cons_of_mem _ (List.mem_cons_of_mem _ hv))⟩) hu1 hu2)
theorem ams_ishl (hx : p.tables.exec = Jvm.exec) (hb : c.code = cc) (hd : decode cc pc = .ok (.ishl, 1)) (H0 : am_i2 st (fun x y r => am_Wp p l e R s m args below meth c D dA A ro ad0 n0 nL lim Qm (pc + 1, L, .int (x <<< (y &&& 31)) :: r, u) h)) : am_Wp p l e R s m args below meth c D dA A ro ad0 n0 nL lim Qm (pc, L, st, u) h := by
  obtain ⟨x, y, r, rfl, K⟩ := am_i2_use H0
  intro ad H locs ls had hn hP hD hS hok hl hLo hst hu1 hu2
  exact lv_ishl hx hb hd (K ad H locs ls had hn hP hD hS hok hl hLo (List.forall_mem_cons.mpr ⟨am_okv_int, fun v hv => hst v (List.mem_cons_of_mem _ (List.mem_cons_of_mem _ hv))⟩) hu1 hu2)
theorem ams_ishr (hx : p.tables.exec = Jvm.exec) (hb : c.code = cc) (hd : decode cc pc = .ok (.ishr, 1)) (H0 : am_i2 st (fun x y r => am_Wp p l e R s m args below meth c D dA A ro ad0 n0 nL lim Qm (pc + 1, L, .int (x >>> (y &&& 31)) :: r, u) h)) : am_Wp p l e R s m args below meth c D dA A ro ad0 n0 nL lim Qm (pc, L, st, u) h := by
  obtain ⟨x, y, r, rfl, K⟩ := am_i2_use H0
  intro ad H locs ls had hn hP hD hS hok hl hLo hst hu1 hu2
  exact lv_ishr hx hb hd (K ad H locs ls had hn hP hD hS hok hl hLo (List.forall_mem_cons.mpr ⟨am_okv_int, fun v hv => hst v (List.mem_cons_of_mem _ (List.mem_cons_of_mem _ hv))⟩) hu1 hu2)
theorem ams_iushr (hx : p.tables.exec = Jvm.exec) (hb : c.code = cc) (hd : decode cc pc = .ok (.iushr, 1)) (H0 : am_i2 st (fun x y r => am_Wp p l e R s m args below meth c D dA A ro ad0 n0 nL lim Qm (pc + 1, L, .int (x.toUInt32 >>> (y.toUInt32 &&& Int32.toUInt32 31)).toInt32 :: r, u) h)) : am_Wp p l e R s m args below meth c D dA A ro ad0 n0 nL lim Qm (pc, L, st, u) h := by
  obtain ⟨x, y, r, rfl, K⟩ := am_i2_use H0
  intro ad H locs ls had hn hP hD hS hok hl hLo hst hu1 hu2
  exact lv_iushr hx hb hd rfl (K ad H locs ls had hn hP hD hS hok hl hLo (List.forall_mem_cons.mpr ⟨am_okv_int, fun v hv => hst v (List.mem_cons_of_mem _ (List.mem_cons_of_mem _ hv))⟩) hu1 hu2)
theorem ams_idiv (hx : p.tables.exec = Jvm.exec) (hb : c.code = cc) (hd : decode cc pc = .ok (.idiv, 1)) (H0 : am_i2 st (fun x y r => ¬ y = 0 ∧ am_Wp p l e R s m args below meth c D dA A ro ad0 n0 nL lim Qm (pc + 1, L, .int (x / y) :: r, u) h)) : am_Wp p l e R s m args below meth c D dA A ro ad0 n0 nL lim Qm (pc, L, st, u) h := by
  obtain ⟨x, y, r, rfl, hne, K⟩ := am_i2_use H0
  intro ad H locs ls had hn hP hD hS hok hl hLo hst hu1 hu2
  exact lv_idiv hx hb hd hne (K ad H locs ls had hn hP hD hS hok hl hLo (List.forall_mem_cons.mpr ⟨am_okv_int, fun v hv => hst v (List.mem_cons_of_mem _ (List.mem_cons_of_mem _ hv))⟩) hu1 hu2)
theorem ams_irem (hx : p.tables.exec = Jvm.exec) (hb : c.code = cc) (hd : decode cc pc = .ok (.irem, 1)) (H0 : am_i2 st (fun x y r => ¬ y = 0 ∧ am_Wp p l e R s m args below meth c D dA A ro ad0 n0 nL lim Qm (pc + 1, L, .int (x - x / y * y) :: r, u) h)) : am_Wp p l e R s m args below meth c D dA A ro ad0 n0 nL lim Qm (pc, L, st, u) h := by
  obtain ⟨x, y, r, rfl, hne, K⟩ := am_i2_use H0
  intro ad H locs ls had hn hP hD hS hok hl hLo hst hu1 hu2
  exact lv_irem hx hb hd hne (K ad H locs ls had hn hP hD hS hok hl hLo (List.forall_mem_cons.mpr ⟨am_okv_int, fun v hv => hst v (List.mem_cons_of_mem _ (List.mem_cons_of_mem _ hv))⟩) hu1 hu2)
theorem ams_ladd (hx : p.tables.exec = Jvm.exec) (hb : c.code = cc) (hd : decode cc pc = .ok (.ladd, 1)) (H0 : am_l2 st (fun x y r => am_Wp p l e R s m args below meth c D dA A ro ad0 n0 nL lim Qm (pc + 1, L, .long (x + y) :: r, u) h)) : am_Wp p l e R s m args below meth c D dA A ro ad0 n0 nL lim Qm (pc, L, st, u) h := by
  obtain ⟨x, y, r, rfl, K⟩ := am_l2_use H0
  intro ad H locs ls had hn hP hD hS hok hl hLo hst hu1 hu2
  exact lv_ladd hx hb hd (K ad H locs ls had hn hP hD hS hok hl hLo (List.forall_mem_cons.mpr ⟨am_okv_long, fun v hv => hst v (List.mem_cons_of_mem _ (List.mem_cons_of_mem _ hv))⟩) hu1 hu2)
theorem ams_lsub (hx : p.tables.exec = Jvm.exec) (hb : c.code = cc) (hd : decode cc pc = .ok (.lsub, 1)) (H0 : am_l2 st (fun x y r => am_Wp p l e R s m args below meth c D dA A ro ad0 n0 nL lim Qm (pc + 1, L, .long (x - y) :: r, u) h)) : am_Wp p l e R s m args below meth c D dA A ro ad0 n0 nL lim Qm (pc, L, st, u) h := by
  obtain ⟨x, y, r, rfl, K⟩ := am_l2_use H0
  intro ad H locs ls had hn hP hD hS hok hl hLo hst hu1 hu2
  exact lv_lsub hx hb hd (K ad H locs ls had hn hP hD hS hok hl hLo (List.forall_mem_cons.mpr ⟨am_okv_long, fun v hv => hst v (List.mem_cons_of_mem _ (List.mem_cons_of_mem _ hv))⟩) hu1 hu2)
theorem ams_lmul (hx : p.tables.exec = Jvm.exec) (hb : c.code = cc) (hd : decode cc pc = .ok (.lmul, 1)) (H0 : am_l2 st (fun x y r => am_Wp p l e R s m args below meth c D dA A ro ad0 n0 nL lim Qm (pc + 1, L, .long (x * y) :: r, u) h)) : am_Wp p l e R s m args below meth c D dA A ro ad0 n0 nL lim Qm (pc, L, st, u) h := by
  obtain ⟨x, y, r, rfl, K⟩ := am_l2_use H0
  intro ad H locs ls had hn hP hD hS hok hl hLo hst hu1 hu2
  exact lv_lmul hx hb hd (K ad H locs ls had hn hP hD hS hok hl hLo (List.forall_mem_cons.mpr ⟨am_okv_long, fun v hv => hst v (List.mem_cons_of_mem _ (List.mem_cons_of_mem _ hv))⟩) hu1 hu2)
theorem ams_ldiv (hx : p.tables.exec = Jvm.exec) (hb : c.code = cc) (hd : decode cc pc = .ok (.ldiv, 1)) (H0 : am_l2 st (fun x y r => ¬ y = 0 ∧ am_Wp p l e R s m args below meth c D dA A ro ad0 n0 nL lim Qm (pc + 1, L, .long (x / y) :: r, u) h)) : am_Wp p l e R s m args below meth c D dA A ro ad0 n0 nL lim Qm (pc, L, st, u) h := by
  obtain ⟨x, y, r, rfl, hne, K⟩ := am_l2_use H0
  intro ad H locs ls had hn hP hD hS hok hl hLo hst hu1 hu2
  exact lv_ldiv hx hb hd hne (K ad H locs ls had hn hP hD hS hok hl hLo (List.forall_mem_cons.mpr ⟨am_okv_long, fun v hv => hst v (List.mem_cons_of_mem _ (List.mem_cons_of_mem _ hv))⟩) hu1 hu2)
theorem ams_lrem (hx : p.tables.exec = Jvm.exec) (hb : c.code = cc) (hd : decode cc pc = .ok (.lrem, 1)) (H0 : am_l2 st (fun x y r => ¬ y = 0 ∧ am_Wp p l e R s m args below meth c D dA A ro ad0 n0 nL lim Qm (pc + 1, L, .long (x - x / y * y) :: r, u) h)) : am_Wp p l e R s m args below meth c D dA A ro ad0 n0 nL lim Qm (pc, L, st, u) h := by
  obtain ⟨x, y, r, rfl, hne, K⟩ := am_l2_use H0
  intro ad H locs ls had hn hP hD hS hok hl hLo hst hu1 hu2
  exact lv_lrem hx hb hd hne (K ad H locs ls had hn hP hD hS hok hl hLo (List.forall_mem_cons.mpr ⟨am_okv_long, fun v hv => hst v (List.mem_cons_of_mem _ (List.mem_cons_of_mem _ hv))⟩) hu1 hu2)
theorem ams_lcmp (hx : p.tables.exec = Jvm.exec) (hb : c.code = cc) (hd : decode cc pc = .ok (.lcmp, 1)) (H0 : am_l2 st (fun x y r => am_Wp p l e R s m args below meth c D dA A ro ad0 n0 nL lim Qm (pc + 1, L, .int (lg_cmp x y) :: r, u) h)) : am_Wp p l e R s m args below meth c D dA A ro ad0 n0 nL lim Qm (pc, L, st, u) h := by
  obtain ⟨x, y, r, rfl, K⟩ := am_l2_use H0
  intro ad H locs ls had hn hP hD hS hok hl hLo hst hu1 hu2
  exact W.lcmp hx hb hd (K ad H locs ls had hn hP hD hS hok hl hLo (List.forall_mem_cons.mpr ⟨am_okv_int, fun v hv => hst v (List.mem_cons_of_mem _ (List.mem_cons_of_mem _ hv))⟩) hu1 hu2)
theorem ams_ineg (hx : p.tables.exec = Jvm.exec) (hb : c.code = cc) (hd : decode cc pc = .ok (.ineg, 1)) (H0 : am_i1 st (fun x r => am_Wp p l e R s m args below meth c D dA A ro ad0 n0 nL lim Qm (pc + 1, L, .int (-x) :: r, u) h)) : am_Wp p l e R s m args below meth c D dA A ro ad0 n0 nL lim Qm (pc, L, st, u) h := by
  obtain ⟨x, r, rfl, K⟩ := am_i1_use H0
  intro ad H locs ls had hn hP hD hS hok hl hLo hst hu1 hu2
  exact lv_ineg hx hb hd (K ad H locs ls had hn hP hD hS hok hl hLo (List.forall_mem_cons.mpr ⟨am_okv_int, fun v hv => hst v (List.mem_cons_of_mem _ hv)⟩) hu1 hu2)
theorem ams_i2l (hx : p.tables.exec = Jvm.exec) (hb : c.code = cc) (hd : decode cc pc = .ok (.i2l, 1)) (H0 : am_i1 st (fun x r => am_Wp p l e R s m args below meth c D dA A ro ad0 n0 nL lim Qm (pc + 1, L, .long x.toInt64 :: r, u) h)) : am_Wp p l e R s m args below meth c D dA A ro ad0 n0 nL lim Qm (pc, L, st, u) h := by
  obtain ⟨x, r, rfl, K⟩ := am_i1_use H0
  intro ad H locs ls had hn hP hD hS hok hl hLo hst hu1 hu2
  exact lv_i2l hx hb hd rfl (K ad H locs ls had hn hP hD hS hok hl hLo (List.forall_mem_cons.mpr ⟨am_okv_long, fun v hv => hst v (List.mem_cons_of_mem _ hv)⟩) hu1 hu2)
theorem ams_i2b (hx : p.tables.exec = Jvm.exec) (hb : c.code = cc) (hd : decode cc pc = .ok (.i2b, 1)) (H0 : am_i1 st (fun x r => am_Wp p l e R s m args below meth c D dA A ro ad0 n0 nL lim Qm (pc + 1, L, .int x.toInt8.toInt32 :: r, u) h)) : am_Wp p l e R s m args below meth c D dA A ro ad0 n0 nL lim Qm (pc, L, st, u) h := by
  obtain ⟨x, r, rfl, K⟩ := am_i1_use H0
  intro ad H locs ls had hn hP hD hS hok hl hLo hst hu1 hu2
  exact lv_i2b hx hb hd rfl (K ad H locs ls had hn hP hD hS hok hl hLo (List.forall_mem_cons.mpr ⟨am_okv_int, fun v hv => hst v (List.mem_cons_of_mem _ hv)⟩) hu1 hu2)
theorem ams_i2s (hx : p.tables.exec = Jvm.exec) (hb : c.code = cc) (hd : decode cc pc = .ok (.i2s, 1)) (H0 : am_i1 st (fun x r => am_Wp p l e R s m args below meth c D dA A ro ad0 n0 nL lim Qm (pc + 1, L, .int x.toInt16.toInt32 :: r, u) h)) : am_Wp p l e R s m args below meth c D dA A ro ad0 n0 nL lim Qm (pc, L, st, u) h := by
  obtain ⟨x, r, rfl, K⟩ := am_i1_use H0
  intro ad H locs ls had hn hP hD hS hok hl hLo hst hu1 hu2
  exact lv_i2s hx hb hd rfl (K ad H locs ls had hn hP hD hS hok hl hLo (List.forall_mem_cons.mpr ⟨am_okv_int, fun v hv => hst v (List.mem_cons_of_mem _ hv)⟩) hu1 hu2)
theorem ams_i2c (hx : p.tables.exec = Jvm.exec) (hb : c.code = cc) (hd : decode cc pc = .ok (.i2c, 1)) (H0 : am_i1 st (fun x r => am_Wp p l e R s m args below meth c D dA A ro ad0 n0 nL lim Qm (pc + 1, L, .int (x.toUInt32 % 65536).toInt32 :: r, u) h)) : am_Wp p l e R s m args below meth c D dA A ro ad0 n0 nL lim Qm (pc, L, st, u) h := by
  obtain ⟨x, r, rfl, K⟩ := am_i1_use H0
  intro ad H locs ls had hn hP hD hS hok hl hLo hst hu1 hu2
  exact lv_i2c hx hb hd rfl (K ad H locs ls had hn hP hD hS hok hl hLo (List.forall_mem_cons.mpr ⟨am_okv_int, fun v hv => hst v (List.mem_cons_of_mem _ hv)⟩) hu1 hu2)
theorem ams_l2i (hx : p.tables.exec = Jvm.exec) (hb : c.code = cc) (hd : decode cc pc = .ok (.l2i, 1)) (H0 : am_l1 st (fun x r => am_Wp p l e R s m args below meth c D dA A ro ad0 n0 nL lim Qm (pc + 1, L, .int x.toInt32 :: r, u) h)) : am_Wp p l e R s m args below meth c D dA A ro ad0 n0 nL lim Qm (pc, L, st, u) h := by
  obtain ⟨x, r, rfl, K⟩ := am_l1_use H0
  intro ad H locs ls had hn hP hD hS hok hl hLo hst hu1 hu2
  exact lv_l2i hx hb hd rfl (K ad H locs ls had hn hP hD hS hok hl hLo (List.forall_mem_cons.mpr ⟨am_okv_int, fun v hv => hst v (List.mem_cons_of_mem _ hv)⟩) hu1 hu2)
theorem ams_iconst (hx : p.tables.exec = Jvm.exec) (hb : c.code = cc) {n : Int} {v : Int32} (hd : decode cc pc = .ok (.iconst n, 1)) (hv : Int32.ofInt n = v) (K : am_Wp p l e R s m args below meth c D dA A ro ad0 n0 nL lim Qm (pc + 1, L, .int v :: st, u) h) : am_Wp p l e R s m args below meth c D dA A ro ad0 n0 nL lim Qm (pc, L, st, u) h := by
  intro ad H locs ls had hn hP hD hS hok hl hLo hst hu1 hu2
  exact lv_iconst hx hb hd hv (K ad H locs ls had hn hP hD hS hok hl hLo (List.forall_mem_cons.mpr ⟨am_okv_int, hst⟩) hu1 hu2)
theorem ams_bipush (hx : p.tables.exec = Jvm.exec) (hb : c.code = cc) {n : Int} {v : Int32} (hd : decode cc pc = .ok (.bipush n, 2)) (hv : (Int8.ofInt n).toInt32 = v) (K : am_Wp p l e R s m args below meth c D dA A ro ad0 n0 nL lim Qm (pc + 2, L, .int v :: st, u) h) : am_Wp p l e R s m args below meth c D dA A ro ad0 n0 nL lim Qm (pc, L, st, u) h := by
  intro ad H locs ls had hn hP hD hS hok hl hLo hst hu1 hu2
  exact lv_bipush hx hb hd hv (K ad H locs ls had hn hP hD hS hok hl hLo (List.forall_mem_cons.mpr ⟨am_okv_int, hst⟩) hu1 hu2)
theorem ams_sipush (hx : p.tables.exec = Jvm.exec) (hb : c.code = cc) {n : Int} {v : Int32} (hd : decode cc pc = .ok (.sipush n, 3)) (hv : (Int16.ofInt n).toInt32 = v) (K : am_Wp p l e R s m args below meth c D dA A ro ad0 n0 nL lim Qm (pc + 3, L, .int v :: st, u) h) : am_Wp p l e R s m args below meth c D dA A ro ad0 n0 nL lim Qm (pc, L, st, u) h := by
  intro ad H locs ls had hn hP hD hS hok hl hLo hst hu1 hu2
  exact lv_sipush hx hb hd hv (K ad H locs ls had hn hP hD hS hok hl hLo (List.forall_mem_cons.mpr ⟨am_okv_int, hst⟩) hu1 hu2)
theorem ams_lconst (hx : p.tables.exec = Jvm.exec) (hb : c.code = cc) {n : Fin 2} {v : Int64} (hd : decode cc pc = .ok (.lconst n, 1)) (hv : Int64.ofNat (n : Nat) = v) (K : am_Wp p l e R s m args below meth c D dA A ro ad0 n0 nL lim Qm (pc + 1, L, .long v :: st, u) h) : am_Wp p l e R s m args below meth c D dA A ro ad0 n0 nL lim Qm (pc, L, st, u) h := by
  intro ad H locs ls had hn hP hD hS hok hl hLo hst hu1 hu2
  exact lv_lconst hx hb hd hv (K ad H locs ls had hn hP hD hS hok hl hLo (List.forall_mem_cons.mpr ⟨am_okv_long, hst⟩) hu1 hu2)
theorem ams_ldc (hx : p.tables.exec = Jvm.exec) (hb : c.code = cc) {own : String} {idx : Nat} {v : Int32} (hown : s.vm.findClass own = some m.cls) (hc : (Jvm.Cond.constant own idx v).before args s = true) (hd : decode cc pc = .ok (.ldc idx, 2)) (K : am_Wp p l e R s m args below meth c D dA A ro ad0 n0 nL lim Qm (pc + 2, L, .int v :: st, u) h) : am_Wp p l e R s m args below meth c D dA A ro ad0 n0 nL lim Qm (pc, L, st, u) h := by
  intro ad H locs ls had hn hP hD hS hok hl hLo hst hu1 hu2
  exact lv_ldc hx hb hown hc hd (K ad H locs ls had hn hP hD hS hok hl hLo (List.forall_mem_cons.mpr ⟨am_okv_int, hst⟩) hu1 hu2)
theorem ams_ldc_w (hx : p.tables.exec = Jvm.exec) (hb : c.code = cc) {own : String} {idx : Nat} {v : Int32} (hown : s.vm.findClass own = some m.cls) (hc : (Jvm.Cond.constant own idx v).before args s = true) (hd : decode cc pc = .ok (.ldc_w idx, 3)) (K : am_Wp p l e R s m args below meth c D dA A ro ad0 n0 nL lim Qm (pc + 3, L, .int v :: st, u) h) : am_Wp p l e R s m args below meth c D dA A ro ad0 n0 nL lim Qm (pc, L, st, u) h := by
  intro ad H locs ls had hn hP hD hS hok hl hLo hst hu1 hu2
  exact lv_ldcw hx hb hown hc hd (K ad H locs ls had hn hP hD hS hok hl hLo (List.forall_mem_cons.mpr ⟨am_okv_int, hst⟩) hu1 hu2)
theorem ams_ldc2_w (hx : p.tables.exec = Jvm.exec) (hb : c.code = cc) {own : String} {idx : Nat} {v : Int64} (hown : s.vm.findClass own = some m.cls) (hc : (Jvm.Cond.constantLong own idx v).before args s = true) (hd : decode cc pc = .ok (.ldc2_w idx, 3)) (K : am_Wp p l e R s m args below meth c D dA A ro ad0 n0 nL lim Qm (pc + 3, L, .long v :: st, u) h) : am_Wp p l e R s m args below meth c D dA A ro ad0 n0 nL lim Qm (pc, L, st, u) h := by
  intro ad H locs ls had hn hP hD hS hok hl hLo hst hu1 hu2
  exact lv_ldc2 hx hb hown hc hd (K ad H locs ls had hn hP hD hS hok hl hLo (List.forall_mem_cons.mpr ⟨am_okv_long, hst⟩) hu1 hu2)
theorem ams_ldcS (hx : p.tables.exec = Jvm.exec) (hb : c.code = cc) {own tx : String} {idx k : Nat} (hown : s.vm.findClass own = some m.cls) (hn0 : 40 ≤ n0) (hk : k < 40) (hR : vk_R own idx tx (ad0 k) s) (hd : decode cc pc = .ok (.ldc idx, 2)) (K : am_Wp p l e R s m args below meth c D dA A ro ad0 n0 nL lim Qm (pc + 2, L, .ref k :: st, u) h) : am_Wp p l e R s m args below meth c D dA A ro ad0 n0 nL lim Qm (pc, L, st, u) h := by
  intro ad H locs ls had hn hP hD hS hok hl hLo hst hu1 hu2
  refine va_ldcS hx hb hown hR hd ?_
  have K' := K ad H locs ls had hn hP hD hS hok hl hLo (List.forall_mem_cons.mpr ⟨am_okv_ref (by omega), hst⟩) hu1 hu2
  rw [List.map_cons, am_cv_ref, had k (by omega)] at K'
  exact K' 
theorem ams_ldcSW (hx : p.tables.exec = Jvm.exec) (hb : c.code = cc) {own tx : String} {idx k : Nat} (hown : s.vm.findClass own = some m.cls) (hn0 : 40 ≤ n0) (hk : k < 40) (hR : vk_R own idx tx (ad0 k) s) (hd : decode cc pc = .ok (.ldc_w idx, 3)) (K : am_Wp p l e R s m args below meth c D dA A ro ad0 n0 nL lim Qm (pc + 3, L, .ref k :: st, u) h) : am_Wp p l e R s m args below meth c D dA A ro ad0 n0 nL lim Qm (pc, L, st, u) h := by
  intro ad H locs ls had hn hP hD hS hok hl hLo hst hu1 hu2
  have K' := K ad H locs ls had hn hP hD hS hok hl hLo (List.forall_mem_cons.mpr ⟨am_okv_ref (by omega), hst⟩) hu1 hu2
  rw [List.map_cons, am_cv_ref, had k (by omega)] at K'
  intro T hT X
  obtain ⟨t, a1, b1⟩ := K' T hT X
  exact ⟨t, X.ldcStringW hx hown (text := tx) (a := ad0 k) hR.1 hR.2 (g := F0 m pc ls (st.map (am_cv ad))) rfl (by rw [hb]; exact hd) t a1, b1⟩
theorem ams_iload_n (hx : p.tables.exec = Jvm.exec) (hb : c.code = cc) {i : Fin 4} (hd : decode cc pc = .ok (.iload_n i, 1)) (H0 : am_ldi L i (fun x => am_Wp p l e R s m args below meth c D dA A ro ad0 n0 nL lim Qm (pc + 1, L, .int x :: st, u) h)) : am_Wp p l e R s m args below meth c D dA A ro ad0 n0 nL lim Qm (pc, L, st, u) h := by
  obtain ⟨x, e1, K⟩ := am_ldi_use H0
  intro ad H locs ls had hn hP hD hS hok hl hLo hst hu1 hu2
  exact lv_iload_n hx hb hd rfl (am_pr_at hl e1) (K ad H locs ls had hn hP hD hS hok hl hLo (List.forall_mem_cons.mpr ⟨am_okv_int, hst⟩) hu1 hu2)
theorem ams_iload (hx : p.tables.exec = Jvm.exec) (hb : c.code = cc) {i : Nat} (hd : decode cc pc = .ok (.iload i, 2)) (H0 : am_ldi L i (fun x => am_Wp p l e R s m args below meth c D dA A ro ad0 n0 nL lim Qm (pc + 2, L, .int x :: st, u) h)) : am_Wp p l e R s m args below meth c D dA A ro ad0 n0 nL lim Qm (pc, L, st, u) h := by
  obtain ⟨x, e1, K⟩ := am_ldi_use H0
  intro ad H locs ls had hn hP hD hS hok hl hLo hst hu1 hu2
  exact lv_iload hx hb hd (am_pr_at hl e1) (K ad H locs ls had hn hP hD hS hok hl hLo (List.forall_mem_cons.mpr ⟨am_okv_int, hst⟩) hu1 hu2)
theorem ams_lload_n (hx : p.tables.exec = Jvm.exec) (hb : c.code = cc) {i : Fin 4} (hd : decode cc pc = .ok (.lload_n i, 1)) (H0 : am_ldl L i (fun x => am_Wp p l e R s m args below meth c D dA A ro ad0 n0 nL lim Qm (pc + 1, L, .long x :: st, u) h)) : am_Wp p l e R s m args below meth c D dA A ro ad0 n0 nL lim Qm (pc, L, st, u) h := by
  obtain ⟨x, e1, K⟩ := am_ldl_use H0
  intro ad H locs ls had hn hP hD hS hok hl hLo hst hu1 hu2
  exact lv_lload_n hx hb hd rfl (am_pr_at hl e1) (K ad H locs ls had hn hP hD hS hok hl hLo (List.forall_mem_cons.mpr ⟨am_okv_long, hst⟩) hu1 hu2)
theorem ams_lload (hx : p.tables.exec = Jvm.exec) (hb : c.code = cc) {i : Nat} (hd : decode cc pc = .ok (.lload i, 2)) (H0 : am_ldl L i (fun x => am_Wp p l e R s m args below meth c D dA A ro ad0 n0 nL lim Qm (pc + 2, L, .long x :: st, u) h)) : am_Wp p l e R s m args below meth c D dA A ro ad0 n0 nL lim Qm (pc, L, st, u) h := by
  obtain ⟨x, e1, K⟩ := am_ldl_use H0
  intro ad H locs ls had hn hP hD hS hok hl hLo hst hu1 hu2
  exact lv_lload hx hb hd (am_pr_at hl e1) (K ad H locs ls had hn hP hD hS hok hl hLo (List.forall_mem_cons.mpr ⟨am_okv_long, hst⟩) hu1 hu2)
theorem ams_aload_n (hx : p.tables.exec = Jvm.exec) (hb : c.code = cc) {i : Fin 4} (hd : decode cc pc = .ok (.aload_n i, 1)) (H0 : am_lda L i (fun x => am_Wp p l e R s m args below meth c D dA A ro ad0 n0 nL lim Qm (pc + 1, L, .ref x :: st, u) h)) : am_Wp p l e R s m args below meth c D dA A ro ad0 n0 nL lim Qm (pc, L, st, u) h := by
  obtain ⟨x, e1, K⟩ := am_lda_use H0
  intro ad H locs ls had hn hP hD hS hok hl hLo hst hu1 hu2
  exact lv_aload_n hx hb hd rfl (am_pr_at hl e1) (K ad H locs ls had hn hP hD hS hok hl hLo (List.forall_mem_cons.mpr ⟨(hLo _ _ e1), hst⟩) hu1 hu2)
theorem ams_aload (hx : p.tables.exec = Jvm.exec) (hb : c.code = cc) {i : Nat} (hd : decode cc pc = .ok (.aload i, 2)) (H0 : am_lda L i (fun x => am_Wp p l e R s m args below meth c D dA A ro ad0 n0 nL lim Qm (pc + 2, L, .ref x :: st, u) h)) : am_Wp p l e R s m args below meth c D dA A ro ad0 n0 nL lim Qm (pc, L, st, u) h := by
  obtain ⟨x, e1, K⟩ := am_lda_use H0
  intro ad H locs ls had hn hP hD hS hok hl hLo hst hu1 hu2
  exact lv_aload hx hb hd (am_pr_at hl e1) (K ad H locs ls had hn hP hD hS hok hl hLo (List.forall_mem_cons.mpr ⟨(hLo _ _ e1), hst⟩) hu1 hu2)
theorem ams_istore_n (hx : p.tables.exec = Jvm.exec) (hb : c.code = cc) {i : Fin 4} (hd : decode cc pc = .ok (.istore_n i, 1)) (hi : (i : Nat) < nL) (H0 : am_i1 st (fun x r => am_Wp p l e R s m args below meth c D dA A ro ad0 n0 nL lim Qm (pc + 1, am_st1 L i (.int x), r, u) h)) : am_Wp p l e R s m args below meth c D dA A ro ad0 n0 nL lim Qm (pc, L, st, u) h := by
  obtain ⟨x, r, rfl, K⟩ := am_i1_use H0
  intro ad H locs ls had hn hP hD hS hok hl hLo hst hu1 hu2
  exact lv_istore_n hx hb hd rfl hl hi rfl (fun ls' hl' => K ad H locs ls' had hn hP hD hS hok (am_lv_st1 hl') (am_okL_st1 hLo am_okv_int) (fun v hv => hst v (List.mem_cons_of_mem _ hv)) hu1 hu2)
theorem ams_istore (hx : p.tables.exec = Jvm.exec) (hb : c.code = cc) {i : Nat} (hd : decode cc pc = .ok (.istore i, 2)) (hi : i < nL) (H0 : am_i1 st (fun x r => am_Wp p l e R s m args below meth c D dA A ro ad0 n0 nL lim Qm (pc + 2, am_st1 L i (.int x), r, u) h)) : am_Wp p l e R s m args below meth c D dA A ro ad0 n0 nL lim Qm (pc, L, st, u) h := by
  obtain ⟨x, r, rfl, K⟩ := am_i1_use H0
  intro ad H locs ls had hn hP hD hS hok hl hLo hst hu1 hu2
  exact lv_istore hx hb hd hl hi rfl (fun ls' hl' => K ad H locs ls' had hn hP hD hS hok (am_lv_st1 hl') (am_okL_st1 hLo am_okv_int) (fun v hv => hst v (List.mem_cons_of_mem _ hv)) hu1 hu2)
theorem ams_lstore_n (hx : p.tables.exec = Jvm.exec) (hb : c.code = cc) {i : Fin 4} (hd : decode cc pc = .ok (.lstore_n i, 1)) (hi : (i : Nat) + 1 < nL) (H0 : am_l1 st (fun x r => am_Wp p l e R s m args below meth c D dA A ro ad0 n0 nL lim Qm (pc + 1, am_st2 L i (.long x), r, u) h)) : am_Wp p l e R s m args below meth c D dA A ro ad0 n0 nL lim Qm (pc, L, st, u) h := by
  obtain ⟨x, r, rfl, K⟩ := am_l1_use H0
  intro ad H locs ls had hn hP hD hS hok hl hLo hst hu1 hu2
  exact lv_lstore_n hx hb hd rfl hl hi rfl (fun ls' hl' => K ad H locs ls' had hn hP hD hS hok (am_lv_st2 hl') (am_okL_st2 hLo am_okv_long) (fun v hv => hst v (List.mem_cons_of_mem _ hv)) hu1 hu2)
theorem ams_lstore (hx : p.tables.exec = Jvm.exec) (hb : c.code = cc) {i : Nat} (hd : decode cc pc = .ok (.lstore i, 2)) (hi : i + 1 < nL) (H0 : am_l1 st (fun x r => am_Wp p l e R s m args below meth c D dA A ro ad0 n0 nL lim Qm (pc + 2, am_st2 L i (.long x), r, u) h)) : am_Wp p l e R s m args below meth c D dA A ro ad0 n0 nL lim Qm (pc, L, st, u) h := by
  obtain ⟨x, r, rfl, K⟩ := am_l1_use H0
  intro ad H locs ls had hn hP hD hS hok hl hLo hst hu1 hu2
  exact lv_lstore hx hb hd hl hi rfl (fun ls' hl' => K ad H locs ls' had hn hP hD hS hok (am_lv_st2 hl') (am_okL_st2 hLo am_okv_long) (fun v hv => hst v (List.mem_cons_of_mem _ hv)) hu1 hu2)
theorem ams_astore_n (hx : p.tables.exec = Jvm.exec) (hb : c.code = cc) {i : Fin 4} (hd : decode cc pc = .ok (.astore_n i, 1)) (hi : (i : Nat) < nL) (H0 : am_r1 st (fun x r => am_Wp p l e R s m args below meth c D dA A ro ad0 n0 nL lim Qm (pc + 1, am_st1 L i (.ref x), r, u) h)) : am_Wp p l e R s m args below meth c D dA A ro ad0 n0 nL lim Qm (pc, L, st, u) h := by
  obtain ⟨x, r, rfl, K⟩ := am_r1_use H0
  intro ad H locs ls had hn hP hD hS hok hl hLo hst hu1 hu2
  exact lv_astore_n hx hb hd rfl hl hi rfl (fun ls' hl' => K ad H locs ls' had hn hP hD hS hok (am_lv_st1 hl') (am_okL_st1 hLo (hst _ List.mem_cons_self)) (fun v hv => hst v (List.mem_cons_of_mem _ hv)) hu1 hu2)
theorem ams_astore (hx : p.tables.exec = Jvm.exec) (hb : c.code = cc) {i : Nat} (hd : decode cc pc = .ok (.astore i, 2)) (hi : i < nL) (H0 : am_r1 st (fun x r => am_Wp p l e R s m args below meth c D dA A ro ad0 n0 nL lim Qm (pc + 2, am_st1 L i (.ref x), r, u) h)) : am_Wp p l e R s m args below meth c D dA A ro ad0 n0 nL lim Qm (pc, L, st, u) h := by
  obtain ⟨x, r, rfl, K⟩ := am_r1_use H0
  intro ad H locs ls had hn hP hD hS hok hl hLo hst hu1 hu2
  exact lv_astore hx hb hd hl hi rfl (fun ls' hl' => K ad H locs ls' had hn hP hD hS hok (am_lv_st1 hl') (am_okL_st1 hLo (hst _ List.mem_cons_self)) (fun v hv => hst v (List.mem_cons_of_mem _ hv)) hu1 hu2)
theorem ams_iinc (hx : p.tables.exec = Jvm.exec) (hb : c.code = cc) {i : Nat} {n : Int} {v : Int32} (hd : decode cc pc = .ok (.iinc i n, 3)) (hi : i < nL) (hv : Int32.ofInt n = v) (H0 : am_ldi L i (fun x => am_Wp p l e R s m args below meth c D dA A ro ad0 n0 nL lim Qm (pc + 3, am_st1 L i (.int (x + v)), st, u) h)) : am_Wp p l e R s m args below meth c D dA A ro ad0 n0 nL lim Qm (pc, L, st, u) h := by
  obtain ⟨x, e1, K⟩ := am_ldi_use H0
  intro ad H locs ls had hn hP hD hS hok hl hLo hst hu1 hu2
  obtain ⟨k, hk⟩ := List.getElem?_of_mem (am_pr_mem.mpr ⟨_, e1, rfl⟩ : (i, am_cv ad (.int x)) ∈ am_pr L ad)
  exact lv_iinc hx hb hd hl (k := k) hk (by rw [hv]) hi rfl (fun ls' hl' => K ad H locs ls' had hn hP hD hS hok (am_lv_st1 (v := .int (x + v)) hl') (am_okL_st1 hLo am_okv_int) hst hu1 hu2)
theorem ams_icmp_eq (hx : p.tables.exec = Jvm.exec) (hb : c.code = cc) {off : Int} {t : Nat} (hd : decode cc pc = .ok (.if_icmp .eq off, 3)) (ht : (pc : Int) + off = (t : Int)) (H0 : am_i2 st (fun x y r => am_br (am_cmp .eq x y) (am_Wp p l e R s m args below meth c D dA A ro ad0 n0 nL lim Qm (t, L, r, u) h) (am_Wp p l e R s m args below meth c D dA A ro ad0 n0 nL lim Qm (pc + 3, L, r, u) h))) : am_Wp p l e R s m args below meth c D dA A ro ad0 n0 nL lim Qm (pc, L, st, u) h := by
  obtain ⟨x, y, r, rfl, K⟩ := am_i2_use H0
  intro ad H locs ls had hn hP hD hS hok hl hLo hst hu1 hu2
  have hst' : ∀ v ∈ r, am_okv h.1 v := fun v hv => hst v (List.mem_cons_of_mem _ (List.mem_cons_of_mem _ hv))
  exact lv_icmp_eq hx hb hd ht (fun z => K.1 z ad H locs ls had hn hP hD hS hok hl hLo hst' hu1 hu2) (fun z => K.2 z ad H locs ls had hn hP hD hS hok hl hLo hst' hu1 hu2)
theorem ams_if_eq (hx : p.tables.exec = Jvm.exec) (hb : c.code = cc) {off : Int} {t : Nat} (hd : decode cc pc = .ok (.ifCond .eq off, 3)) (ht : (pc : Int) + off = (t : Int)) (H0 : am_i1 st (fun x r => am_br (am_cmp .eq x 0) (am_Wp p l e R s m args below meth c D dA A ro ad0 n0 nL lim Qm (t, L, r, u) h) (am_Wp p l e R s m args below meth c D dA A ro ad0 n0 nL lim Qm (pc + 3, L, r, u) h))) : am_Wp p l e R s m args below meth c D dA A ro ad0 n0 nL lim Qm (pc, L, st, u) h := by
  obtain ⟨x, r, rfl, K⟩ := am_i1_use H0
  intro ad H locs ls had hn hP hD hS hok hl hLo hst hu1 hu2
  have hst' : ∀ v ∈ r, am_okv h.1 v := fun v hv => hst v (List.mem_cons_of_mem _ hv)
  exact lv_if_eq hx hb hd ht (fun z => K.1 z ad H locs ls had hn hP hD hS hok hl hLo hst' hu1 hu2) (fun z => K.2 z ad H locs ls had hn hP hD hS hok hl hLo hst' hu1 hu2)
theorem ams_icmp_ne (hx : p.tables.exec = Jvm.exec) (hb : c.code = cc) {off : Int} {t : Nat} (hd : decode cc pc = .ok (.if_icmp .ne off, 3)) (ht : (pc : Int) + off = (t : Int)) (H0 : am_i2 st (fun x y r => am_br (am_cmp .ne x y) (am_Wp p l e R s m args below meth c D dA A ro ad0 n0 nL lim Qm (t, L, r, u) h) (am_Wp p l e R s m args below meth c D dA A ro ad0 n0 nL lim Qm (pc + 3, L, r, u) h))) : am_Wp p l e R s m args below meth c D dA A ro ad0 n0 nL lim Qm (pc, L, st, u) h := by
  obtain ⟨x, y, r, rfl, K⟩ := am_i2_use H0
  intro ad H locs ls had hn hP hD hS hok hl hLo hst hu1 hu2
  have hst' : ∀ v ∈ r, am_okv h.1 v := fun v hv => hst v (List.mem_cons_of_mem _ (List.mem_cons_of_mem _ hv))
  exact lv_icmp_ne hx hb hd ht (fun z => K.1 z ad H locs ls had hn hP hD hS hok hl hLo hst' hu1 hu2) (fun z => (fun z => K.2 (fun w => w z)) z ad H locs ls had hn hP hD hS hok hl hLo hst' hu1 hu2)
theorem ams_if_ne (hx : p.tables.exec = Jvm.exec) (hb : c.code = cc) {off : Int} {t : Nat} (hd : decode cc pc = .ok (.ifCond .ne off, 3)) (ht : (pc : Int) + off = (t : Int)) (H0 : am_i1 st (fun x r => am_br (am_cmp .ne x 0) (am_Wp p l e R s m args below meth c D dA A ro ad0 n0 nL lim Qm (t, L, r, u) h) (am_Wp p l e R s m args below meth c D dA A ro ad0 n0 nL lim Qm (pc + 3, L, r, u) h))) : am_Wp p l e R s m args below meth c D dA A ro ad0 n0 nL lim Qm (pc, L, st, u) h := by
  obtain ⟨x, r, rfl, K⟩ := am_i1_use H0
  intro ad H locs ls had hn hP hD hS hok hl hLo hst hu1 hu2
  have hst' : ∀ v ∈ r, am_okv h.1 v := fun v hv => hst v (List.mem_cons_of_mem _ hv)
  exact lv_if_ne hx hb hd ht (fun z => K.1 z ad H locs ls had hn hP hD hS hok hl hLo hst' hu1 hu2) (fun z => (fun z => K.2 (fun w => w z)) z ad H locs ls had hn hP hD hS hok hl hLo hst' hu1 hu2)
theorem ams_icmp_lt (hx : p.tables.exec = Jvm.exec) (hb : c.code = cc) {off : Int} {t : Nat} (hd : decode cc pc = .ok (.if_icmp .lt off, 3)) (ht : (pc : Int) + off = (t : Int)) (H0 : am_i2 st (fun x y r => am_br (am_cmp .lt x y) (am_Wp p l e R s m args below meth c D dA A ro ad0 n0 nL lim Qm (t, L, r, u) h) (am_Wp p l e R s m args below meth c D dA A ro ad0 n0 nL lim Qm (pc + 3, L, r, u) h))) : am_Wp p l e R s m args below meth c D dA A ro ad0 n0 nL lim Qm (pc, L, st, u) h := by
  obtain ⟨x, y, r, rfl, K⟩ := am_i2_use H0
  intro ad H locs ls had hn hP hD hS hok hl hLo hst hu1 hu2
  have hst' : ∀ v ∈ r, am_okv h.1 v := fun v hv => hst v (List.mem_cons_of_mem _ (List.mem_cons_of_mem _ hv))
  exact lv_icmp_lt hx hb hd ht (fun z => K.1 z ad H locs ls had hn hP hD hS hok hl hLo hst' hu1 hu2) (fun z => K.2 z ad H locs ls had hn hP hD hS hok hl hLo hst' hu1 hu2)
theorem ams_if_lt (hx : p.tables.exec = Jvm.exec) (hb : c.code = cc) {off : Int} {t : Nat} (hd : decode cc pc = .ok (.ifCond .lt off, 3)) (ht : (pc : Int) + off = (t : Int)) (H0 : am_i1 st (fun x r => am_br (am_cmp .lt x 0) (am_Wp p l e R s m args below meth c D dA A ro ad0 n0 nL lim Qm (t, L, r, u) h) (am_Wp p l e R s m args below meth c D dA A ro ad0 n0 nL lim Qm (pc + 3, L, r, u) h))) : am_Wp p l e R s m args below meth c D dA A ro ad0 n0 nL lim Qm (pc, L, st, u) h := by
  obtain ⟨x, r, rfl, K⟩ := am_i1_use H0
  intro ad H locs ls had hn hP hD hS hok hl hLo hst hu1 hu2
  have hst' : ∀ v ∈ r, am_okv h.1 v := fun v hv => hst v (List.mem_cons_of_mem _ hv)
  exact lv_if_lt hx hb hd ht (fun z => K.1 z ad H locs ls had hn hP hD hS hok hl hLo hst' hu1 hu2) (fun z => K.2 z ad H locs ls had hn hP hD hS hok hl hLo hst' hu1 hu2)
theorem ams_icmp_ge (hx : p.tables.exec = Jvm.exec) (hb : c.code = cc) {off : Int} {t : Nat} (hd : decode cc pc = .ok (.if_icmp .ge off, 3)) (ht : (pc : Int) + off = (t : Int)) (H0 : am_i2 st (fun x y r => am_br (am_cmp .ge x y) (am_Wp p l e R s m args below meth c D dA A ro ad0 n0 nL lim Qm (t, L, r, u) h) (am_Wp p l e R s m args below meth c D dA A ro ad0 n0 nL lim Qm (pc + 3, L, r, u) h))) : am_Wp p l e R s m args below meth c D dA A ro ad0 n0 nL lim Qm (pc, L, st, u) h := by
  obtain ⟨x, y, r, rfl, K⟩ := am_i2_use H0
  intro ad H locs ls had hn hP hD hS hok hl hLo hst hu1 hu2
  have hst' : ∀ v ∈ r, am_okv h.1 v := fun v hv => hst v (List.mem_cons_of_mem _ (List.mem_cons_of_mem _ hv))
  exact lv_icmp_ge hx hb hd ht (fun z => K.1 z ad H locs ls had hn hP hD hS hok hl hLo hst' hu1 hu2) (fun z => K.2 z ad H locs ls had hn hP hD hS hok hl hLo hst' hu1 hu2)
theorem ams_if_ge (hx : p.tables.exec = Jvm.exec) (hb : c.code = cc) {off : Int} {t : Nat} (hd : decode cc pc = .ok (.ifCond .ge off, 3)) (ht : (pc : Int) + off = (t : Int)) (H0 : am_i1 st (fun x r => am_br (am_cmp .ge x 0) (am_Wp p l e R s m args below meth c D dA A ro ad0 n0 nL lim Qm (t, L, r, u) h) (am_Wp p l e R s m args below meth c D dA A ro ad0 n0 nL lim Qm (pc + 3, L, r, u) h))) : am_Wp p l e R s m args below meth c D dA A ro ad0 n0 nL lim Qm (pc, L, st, u) h := by
  obtain ⟨x, r, rfl, K⟩ := am_i1_use H0
  intro ad H locs ls had hn hP hD hS hok hl hLo hst hu1 hu2
  have hst' : ∀ v ∈ r, am_okv h.1 v := fun v hv => hst v (List.mem_cons_of_mem _ hv)
  exact lv_if_ge hx hb hd ht (fun z => K.1 z ad H locs ls had hn hP hD hS hok hl hLo hst' hu1 hu2) (fun z => K.2 z ad H locs ls had hn hP hD hS hok hl hLo hst' hu1 hu2)
theorem ams_icmp_gt (hx : p.tables.exec = Jvm.exec) (hb : c.code = cc) {off : Int} {t : Nat} (hd : decode cc pc = .ok (.if_icmp .gt off, 3)) (ht : (pc : Int) + off = (t : Int)) (H0 : am_i2 st (fun x y r => am_br (am_cmp .gt x y) (am_Wp p l e R s m args below meth c D dA A ro ad0 n0 nL lim Qm (t, L, r, u) h) (am_Wp p l e R s m args below meth c D dA A ro ad0 n0 nL lim Qm (pc + 3, L, r, u) h))) : am_Wp p l e R s m args below meth c D dA A ro ad0 n0 nL lim Qm (pc, L, st, u) h := by
  obtain ⟨x, y, r, rfl, K⟩ := am_i2_use H0
  intro ad H locs ls had hn hP hD hS hok hl hLo hst hu1 hu2
  have hst' : ∀ v ∈ r, am_okv h.1 v := fun v hv => hst v (List.mem_cons_of_mem _ (List.mem_cons_of_mem _ hv))
  exact lv_icmp_gt hx hb hd ht (fun z => K.1 z ad H locs ls had hn hP hD hS hok hl hLo hst' hu1 hu2) (fun z => K.2 z ad H locs ls had hn hP hD hS hok hl hLo hst' hu1 hu2)
theorem ams_if_gt (hx : p.tables.exec = Jvm.exec) (hb : c.code = cc) {off : Int} {t : Nat} (hd : decode cc pc = .ok (.ifCond .gt off, 3)) (ht : (pc : Int) + off = (t : Int)) (H0 : am_i1 st (fun x r => am_br (am_cmp .gt x 0) (am_Wp p l e R s m args below meth c D dA A ro ad0 n0 nL lim Qm (t, L, r, u) h) (am_Wp p l e R s m args below meth c D dA A ro ad0 n0 nL lim Qm (pc + 3, L, r, u) h))) : am_Wp p l e R s m args below meth c D dA A ro ad0 n0 nL lim Qm (pc, L, st, u) h := by
  obtain ⟨x, r, rfl, K⟩ := am_i1_use H0
  intro ad H locs ls had hn hP hD hS hok hl hLo hst hu1 hu2
  have hst' : ∀ v ∈ r, am_okv h.1 v := fun v hv => hst v (List.mem_cons_of_mem _ hv)
  exact lv_if_gt hx hb hd ht (fun z => K.1 z ad H locs ls had hn hP hD hS hok hl hLo hst' hu1 hu2) (fun z => K.2 z ad H locs ls had hn hP hD hS hok hl hLo hst' hu1 hu2)
theorem ams_icmp_le (hx : p.tables.exec = Jvm.exec) (hb : c.code = cc) {off : Int} {t : Nat} (hd : decode cc pc = .ok (.if_icmp .le off, 3)) (ht : (pc : Int) + off = (t : Int)) (H0 : am_i2 st (fun x y r => am_br (am_cmp .le x y) (am_Wp p l e R s m args below meth c D dA A ro ad0 n0 nL lim Qm (t, L, r, u) h) (am_Wp p l e R s m args below meth c D dA A ro ad0 n0 nL lim Qm (pc + 3, L, r, u) h))) : am_Wp p l e R s m args below meth c D dA A ro ad0 n0 nL lim Qm (pc, L, st, u) h := by
  obtain ⟨x, y, r, rfl, K⟩ := am_i2_use H0
  intro ad H locs ls had hn hP hD hS hok hl hLo hst hu1 hu2
  have hst' : ∀ v ∈ r, am_okv h.1 v := fun v hv => hst v (List.mem_cons_of_mem _ (List.mem_cons_of_mem _ hv))
  exact lv_icmp_le hx hb hd ht (fun z => K.1 z ad H locs ls had hn hP hD hS hok hl hLo hst' hu1 hu2) (fun z => K.2 z ad H locs ls had hn hP hD hS hok hl hLo hst' hu1 hu2)
theorem ams_if_le (hx : p.tables.exec = Jvm.exec) (hb : c.code = cc) {off : Int} {t : Nat} (hd : decode cc pc = .ok (.ifCond .le off, 3)) (ht : (pc : Int) + off = (t : Int)) (H0 : am_i1 st (fun x r => am_br (am_cmp .le x 0) (am_Wp p l e R s m args below meth c D dA A ro ad0 n0 nL lim Qm (t, L, r, u) h) (am_Wp p l e R s m args below meth c D dA A ro ad0 n0 nL lim Qm (pc + 3, L, r, u) h))) : am_Wp p l e R s m args below meth c D dA A ro ad0 n0 nL lim Qm (pc, L, st, u) h := by
  obtain ⟨x, r, rfl, K⟩ := am_i1_use H0
  intro ad H locs ls had hn hP hD hS hok hl hLo hst hu1 hu2
  have hst' : ∀ v ∈ r, am_okv h.1 v := fun v hv => hst v (List.mem_cons_of_mem _ hv)
  exact lv_if_le hx hb hd ht (fun z => K.1 z ad H locs ls had hn hP hD hS hok hl hLo hst' hu1 hu2) (fun z => K.2 z ad H locs ls had hn hP hD hS hok hl hLo hst' hu1 hu2)
theorem ams_goto (hx : p.tables.exec = Jvm.exec) (hb : c.code = cc) {off : Int} {t : Nat} (hd : decode cc pc = .ok (.goto off, 3)) (ht : (pc : Int) + off = (t : Int)) (K : am_Wp p l e R s m args below meth c D dA A ro ad0 n0 nL lim Qm (t, L, st, u) h) : am_Wp p l e R s m args below meth c D dA A ro ad0 n0 nL lim Qm (pc, L, st, u) h := by
  intro ad H locs ls had hn hP hD hS hok hl hLo hst hu1 hu2
  exact lv_goto hx hb hd ht (K ad H locs ls had hn hP hD hS hok hl hLo hst hu1 hu2)
theorem ams_dup (hx : p.tables.exec = Jvm.exec) (hb : c.code = cc) {v : Value} {r : List Value} (hd : decode cc pc = .ok (.dup, 1)) (hv : v.category = 1) (K : am_Wp p l e R s m args below meth c D dA A ro ad0 n0 nL lim Qm (pc + 1, L, v :: v :: r, u) h) : am_Wp p l e R s m args below meth c D dA A ro ad0 n0 nL lim Qm (pc, L, v :: r, u) h := by
  intro ad H locs ls had hn hP hD hS hok hl hLo hst hu1 hu2
  exact lv_dup hx hb hd (by rw [am_cv_cat]; exact hv) (K ad H locs ls had hn hP hD hS hok hl hLo (List.forall_mem_cons.mpr ⟨hst v List.mem_cons_self, hst⟩) hu1 hu2)
theorem ams_dup2 (hx : p.tables.exec = Jvm.exec) (hb : c.code = cc) {v w : Value} {r : List Value} (hd : decode cc pc = .ok (.dup2, 1)) (hv : v.category = 1) (hw : w.category = 1) (K : am_Wp p l e R s m args below meth c D dA A ro ad0 n0 nL lim Qm (pc + 1, L, v :: w :: v :: w :: r, u) h) : am_Wp p l e R s m args below meth c D dA A ro ad0 n0 nL lim Qm (pc, L, v :: w :: r, u) h := by
  intro ad H locs ls had hn hP hD hS hok hl hLo hst hu1 hu2
  exact lv_dup2_11 hx hb hd (by rw [am_cv_cat]; exact hv) (by rw [am_cv_cat]; exact hw) (K ad H locs ls had hn hP hD hS hok hl hLo (List.forall_mem_cons.mpr ⟨hst v List.mem_cons_self, List.forall_mem_cons.mpr ⟨hst w (List.mem_cons_of_mem _ List.mem_cons_self), hst⟩⟩) hu1 hu2)
theorem ams_pop (hx : p.tables.exec = Jvm.exec) (hb : c.code = cc) {v : Value} {r : List Value} (hd : decode cc pc = .ok (.pop, 1)) (hv : v.category = 1) (K : am_Wp p l e R s m args below meth c D dA A ro ad0 n0 nL lim Qm (pc + 1, L, r, u) h) : am_Wp p l e R s m args below meth c D dA A ro ad0 n0 nL lim Qm (pc, L, v :: r, u) h := by
  intro ad H locs ls had hn hP hD hS hok hl hLo hst hu1 hu2
  exact lv_pop hx hb hd (by rw [am_cv_cat]; exact hv) (K ad H locs ls had hn hP hD hS hok hl hLo (fun w hw => hst w (List.mem_cons_of_mem _ hw)) hu1 hu2)
theorem ams_table (hx : p.tables.exec = Jvm.exec) (hb : c.code = cc) {dflt lo hi : Int} {offs : Array Int} {len : Nat} (hd : decode cc pc = .ok (.tableswitch dflt lo hi offs, len)) (h1 : 0 ≤ (pc : Int) + dflt) (h2 : ∀ o ∈ offs.toList, 0 ≤ (pc : Int) + o) (h3 : (offs.size : Int) = hi - lo + 1) (H0 : am_i1 st (fun x r => am_Wp p l e R s m args below meth c D dA A ro ad0 n0 nL lim Qm (am_tsw pc dflt lo hi offs x, L, r, u) h)) : am_Wp p l e R s m args below meth c D dA A ro ad0 n0 nL lim Qm (pc, L, st, u) h := by
  obtain ⟨x, r, rfl, K⟩ := am_i1_use H0
  intro ad H locs ls had hn hP hD hS hok hl hLo hst hu1 hu2
  have hst' : ∀ v ∈ r, am_okv h.1 v := fun v hv => hst v (List.mem_cons_of_mem _ hv)
  have K' := K ad H locs ls had hn hP hD hS hok hl hLo hst' hu1 hu2
  unfold am_tsw at K'
  by_cases hc : x.toInt < lo ∨ hi < x.toInt
  · rw [if_pos hc] at K'
    exact lv_tableOut hx hb hd hc (Int.toNat_of_nonneg h1).symm K'
  · rw [if_neg hc] at K'
    have hlt : (x.toInt - lo).toNat < offs.toList.length := by rw [Array.length_toList]; omega
    have ho : offs.toList[(x.toInt - lo).toNat]? = some (offs.toList.getD (x.toInt - lo).toNat 0) := by rw [List.getD_eq_getElem?_getD, List.getElem?_eq_getElem hlt]; rfl
    exact lv_tableIn hx hb hd (fun z => hc (Or.inl z)) (fun z => hc (Or.inr z)) (by rw [← Array.getElem?_toList]; exact ho) (Int.toNat_of_nonneg (h2 _ (List.mem_of_getElem? ho))).symm K'
theorem ams_lookup (hx : p.tables.exec = Jvm.exec) (hb : c.code = cc) {dflt : Int} {ps : Array (Int × Int)} {len : Nat} (hd : decode cc pc = .ok (.lookupswitch dflt ps, len)) (hp : (ps.toList.zip (ps.toList.drop 1)).all (fun (a, next) => a.1 < next.1) = true) (h1 : ∀ x : Int32, 0 ≤ (pc : Int) + Op.lookupswitch.offset ps.toList dflt x.toInt) (H0 : am_i1 st (fun x r => am_Wp p l e R s m args below meth c D dA A ro ad0 n0 nL lim Qm (am_lsw pc dflt ps x, L, r, u) h)) : am_Wp p l e R s m args below meth c D dA A ro ad0 n0 nL lim Qm (pc, L, st, u) h := by
  obtain ⟨x, r, rfl, K⟩ := am_i1_use H0
  intro ad H locs ls had hn hP hD hS hok hl hLo hst hu1 hu2
  have hst' : ∀ v ∈ r, am_okv h.1 v := fun v hv => hst v (List.mem_cons_of_mem _ hv)
  exact lv_lookup hx hb hd hp rfl (Int.toNat_of_nonneg (h1 x)).symm (K ad H locs ls had hn hP hD hS hok hl hLo hst' hu1 hu2)
end
