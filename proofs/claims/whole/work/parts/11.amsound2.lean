theorem am_lookup_mem {cd : List (Nat × am_E)} {pc : Nat} {en : am_E} (h : cd.lookup pc = some en) : (pc, en) ∈ cd := by
  induction cd with
  | nil => cases h
  | cons q r ih =>
    obtain ⟨k, x⟩ := q
    rw [List.lookup_cons] at h
    split at h
    · rename_i hk
      cases h
      rw [beq_iff_eq.mp hk]
      exact List.mem_cons_self
    · exact List.mem_cons_of_mem _ (ih h)
/-- the class tables of the worlds, among the words that stay -/
theorem am_gin (k : Nat) (hk : k < 9) : ∀ C T N, vwCl[k]? = some (C, T, N) → ∀ w ∈ u_ws C T N, w ∈ am_gt := by
  have go : ∀ {C : String} {T : u_T} {N : Nat}, (∀ w ∈ u_ws C T N, w ∈ lw_tbl) → (u_ws C T N).all goodWord = true → ∀ w ∈ u_ws C T N, w ∈ am_gt := fun h1 h2 w hw => List.mem_filter.mpr ⟨h1 w hw, List.all_eq_true.mp h2 w hw⟩
  intro C T N e
  match k, hk, e with
  | 0, _, e => cases e; exact go inX1 (by decide +kernel)
  | 1, _, e => cases e; exact go inX4 (by decide +kernel)
  | 2, _, e => cases e; exact go inX5 (by decide +kernel)
  | 3, _, e => cases e; exact go inX6 (by decide +kernel)
  | 4, _, e => cases e; exact go inX7 (by decide +kernel)
  | 5, _, e => cases e; exact go inX8 (by decide +kernel)
  | 6, _, e => cases e; exact go inX9 (by decide +kernel)
  | 7, _, e => cases e; exact go inX10 (by decide +kernel)
  | 8, _, e => cases e; exact go inX11 (by decide +kernel)
theorem am_ci9 {k : Nat} {q : vw_C} (h : vwCl[k]? = some q) : k < 9 := (List.getElem?_eq_some_iff.mp h).1
theorem am_tyok (k : Nat) : ∀ C T N, vwCl[k]? = some (C, T, N) → (∀ j, j < N → parseFieldDescriptor (T j).2.2.1 = some (am_tyOf k j)) ∧ (∀ a, a < N → ∀ b, b < N → a ≠ b → (T a).2.1 ≠ (T b).2.1) := by
  intro C T N e
  have hk := am_ci9 e
  match k, hk, e with
  | 0, _, e => cases e; exact ⟨tyX1_ok, nmX1⟩
  | 1, _, e => cases e; exact ⟨tyX4_ok, nmX4⟩
  | 2, _, e => cases e; exact ⟨tyX5_ok, nmX5⟩
  | 3, _, e => cases e; exact ⟨tyX6_ok, nmX6⟩
  | 4, _, e => cases e; exact ⟨tyX7_ok, nmX7⟩
  | 5, _, e => cases e; exact ⟨tyX8_ok, nmX8⟩
  | 6, _, e => cases e; exact ⟨tyX9_ok, nmX9⟩
  | 7, _, e => cases e; exact ⟨tyX10_ok, nmX10⟩
  | 8, _, e => cases e; exact ⟨tyX11_ok, nmX11⟩
theorem am_newok (k : Nat) : ∀ C T N, vwCl[k]? = some (C, T, N) → (am_newf k).length = N ∧ (∀ j, j < N → defaultValue (am_tyOf k j) = vp_V (am_newf k) j) ∧ ∀ v ∈ am_newf k, v = .null ∨ v = .int 0 := by
  intro C T N e
  have hk := am_ci9 e
  match k, hk, e with
  | 0, _, e => cases e; exact ⟨rfl, by decide, by decide⟩
  | 1, _, e => cases e; exact ⟨rfl, by decide, by decide⟩
  | 2, _, e => cases e; exact ⟨rfl, by decide, by decide⟩
  | 3, _, e => cases e; exact ⟨rfl, by decide, by decide⟩
  | 4, _, e => cases e; exact ⟨rfl, by decide, by decide⟩
  | 5, _, e => cases e; exact ⟨rfl, by decide, by decide⟩
  | 6, _, e => cases e; exact ⟨rfl, by decide, by decide⟩
  | 7, _, e => cases e; exact ⟨rfl, by decide, by decide⟩
  | 8, _, e => cases e; exact ⟨rfl, by decide, by decide⟩
theorem am_lsw_ok (ps : List (Int × Int)) (df x pc : Int) (h1 : 0 ≤ pc + df) (h2 : ∀ o ∈ ps, 0 ≤ pc + o.2) : 0 ≤ pc + Op.lookupswitch.offset ps df x := by
  induction ps with
  | nil => exact h1
  | cons q r ih =>
    obtain ⟨a, o⟩ := q
    show 0 ≤ pc + if a = x then o else Op.lookupswitch.offset r df x
    split
    · exact h2 (a, o) List.mem_cons_self
    · exact ih (fun z hz => h2 z (List.mem_cons_of_mem _ hz))
section
variable {p : Program} {l : Launch} {e : Env} {R : Room} {s : State} {m : MethodId} {args : Array Value} {below : List Frame} {meth : Method} {c : Code}
variable {D : va_G} {dA : Nat → ClassId} {A : Nat → Prop} {ro : Nat → am_C} {ad0 : Nat → Nat} {n0 nL : Nat} {lim : Nat × Nat} {Qm : State → Prop}
variable {cc : ByteArray} {pc : Nat} {L : List (Option Value)} {st : List Value} {u : Nat × Nat} {h : am_H}
set_option maxHeartbeats 4000000 in
/-- every instruction but calls and returns -/
theorem am_sound_ins {call : am_K} {own : String} {ow : Nat} {ini : Bool} {rt : Option FieldType} {Q : Option Value → am_H → Prop} {X : am_H → Prop} (hx : p.tables.exec = Jvm.exec) (hb : c.code = cc) (hown : s.vm.findClass own = some m.cls) (how : am_cn ow = own) (hts : ∀ w ∈ am_gt, w.before args s = true) (hK : va_K D vwCl (am_tys dA) s) (hr : am_roS ro) (hA : ∀ q, s.heap.size ≤ q → A q) (hro : am_RO ro ad0 A s s.heap) (hn0 : 40 ≤ n0) (hR : lim.1 ≤ R.cells ∧ lim.2 ≤ R.slots) (hini : ini = true → meth.name = "<init>")
    (hinv : ∀ i len a b t cv dv, (i = .invokestatic cv ∨ i = .invokevirtual cv ∨ i = .invokespecial cv) → decode cc pc = .ok (i, len) → am_okE ow own nL ini rt pc (i, len, a, b, t, dv) = true → am_inv call a b t (am_Wp p l e R s m args below meth c D dA A ro ad0 n0 nL lim Qm) lim pc L st u h → am_Wp p l e R s m args below meth c D dA A ro ad0 n0 nL lim Qm (pc, L, st, u) h)
    (hret : ∀ i len a b t cv, (i = .ireturn ∨ i = .lreturn ∨ i = .areturn ∨ i = .return_) → decode cc pc = .ok (i, len) → am_okE ow own nL ini rt pc (i, len, a, b, t, cv) = true → am_ins call lim (i, len, a, b, t, cv) Q X (am_Wp p l e R s m args below meth c D dA A ro ad0 n0 nL lim Qm) pc L st u h → am_Wp p l e R s m args below meth c D dA A ro ad0 n0 nL lim Qm (pc, L, st, u) h)
    {en : am_E} (hthr : ∀ idx len a t cv, en = (.new idx, len, a, 1, t, cv) → st = [] → X h → am_Wp p l e R s m args below meth c D dA A ro ad0 n0 nL lim Qm (pc, L, st, u) h) (hdec : decode cc pc = .ok (en.1, en.2.1)) (hok : am_okE ow own nL ini rt pc en = true) (H0 : am_ins call lim en Q X (am_Wp p l e R s m args below meth c D dA A ro ad0 n0 nL lim Qm) pc L st u h) : am_Wp p l e R s m args below meth c D dA A ro ad0 n0 nL lim Qm (pc, L, st, u) h := by
  subst how
  obtain ⟨i, len, a, b, t, cst, dd⟩ := en
  cases i <;> try exact False.elim H0
  case iconst n =>
    simp only [am_okE, Bool.and_eq_true, beq_iff_eq, decide_eq_true_eq] at hok
    obtain ⟨rfl, hv⟩ := hok
    exact ams_iconst hx hb hdec hv H0
  case bipush n =>
    simp only [am_okE, Bool.and_eq_true, beq_iff_eq, decide_eq_true_eq] at hok
    obtain ⟨rfl, hv⟩ := hok
    exact ams_bipush hx hb hdec hv H0
  case sipush n =>
    simp only [am_okE, Bool.and_eq_true, beq_iff_eq, decide_eq_true_eq] at hok
    obtain ⟨rfl, hv⟩ := hok
    exact ams_sipush hx hb hdec hv H0
  case lconst n =>
    simp only [am_okE, Bool.and_eq_true, beq_iff_eq, decide_eq_true_eq] at hok
    obtain ⟨rfl, hv⟩ := hok
    exact ams_lconst hx hb hdec hv H0
  case ldc idx =>
    simp only [am_okE, Bool.and_eq_true, Bool.or_eq_true, beq_iff_eq, decide_eq_true_eq] at hok
    obtain ⟨rfl, ⟨rfl, hv⟩ | ⟨rfl, hv⟩⟩ := hok
    · exact ams_ldc hx hb hown (hts _ (am_inT_use hv)) hdec H0
    · obtain ⟨⟨o, x, tx, k⟩, hm, hq⟩ := List.any_eq_true.mp hv
      simp only [Bool.and_eq_true, beq_iff_eq] at hq
      obtain ⟨⟨rfl, rfl⟩, rfl⟩ := hq
      exact ams_ldcS hx hb hown hn0 (by have := am_strs_lt _ hm; omega) (hro.2.2.2.1 _ hm) hdec H0
  case ldc_w idx =>
    simp only [am_okE, Bool.and_eq_true, Bool.or_eq_true, beq_iff_eq, decide_eq_true_eq] at hok
    obtain ⟨rfl, ⟨rfl, hv⟩ | ⟨rfl, hv⟩⟩ := hok
    · exact ams_ldc_w hx hb hown (hts _ (am_inT_use hv)) hdec H0
    · obtain ⟨⟨o, x, tx, k⟩, hm, hq⟩ := List.any_eq_true.mp hv
      simp only [Bool.and_eq_true, beq_iff_eq] at hq
      obtain ⟨⟨rfl, rfl⟩, rfl⟩ := hq
      exact ams_ldcSW hx hb hown hn0 (by have := am_strs_lt _ hm; omega) (hro.2.2.2.1 _ hm) hdec H0
  case ldc2_w idx =>
    simp only [am_okE, Bool.and_eq_true, beq_iff_eq, decide_eq_true_eq] at hok
    obtain ⟨rfl, hv⟩ := hok
    exact ams_ldc2_w hx hb hown (hts _ (am_inT_use hv)) hdec H0
  case iload_n n =>
    simp only [am_okE, beq_iff_eq] at hok
    subst hok
    exact ams_iload_n hx hb hdec H0
  case iload n =>
    simp only [am_okE, beq_iff_eq] at hok
    subst hok
    exact ams_iload hx hb hdec H0
  case lload_n n =>
    simp only [am_okE, beq_iff_eq] at hok
    subst hok
    exact ams_lload_n hx hb hdec H0
  case lload n =>
    simp only [am_okE, beq_iff_eq] at hok
    subst hok
    exact ams_lload hx hb hdec H0
  case aload_n n =>
    simp only [am_okE, beq_iff_eq] at hok
    subst hok
    exact ams_aload_n hx hb hdec H0
  case aload n =>
    simp only [am_okE, beq_iff_eq] at hok
    subst hok
    exact ams_aload hx hb hdec H0
  case istore_n n =>
    simp only [am_okE, Bool.and_eq_true, beq_iff_eq, decide_eq_true_eq] at hok
    obtain ⟨rfl, hv⟩ := hok
    exact ams_istore_n hx hb hdec hv H0
  case istore n =>
    simp only [am_okE, Bool.and_eq_true, beq_iff_eq, decide_eq_true_eq] at hok
    obtain ⟨rfl, hv⟩ := hok
    exact ams_istore hx hb hdec hv H0
  case lstore_n n =>
    simp only [am_okE, Bool.and_eq_true, beq_iff_eq, decide_eq_true_eq] at hok
    obtain ⟨rfl, hv⟩ := hok
    exact ams_lstore_n hx hb hdec hv H0
  case lstore n =>
    simp only [am_okE, Bool.and_eq_true, beq_iff_eq, decide_eq_true_eq] at hok
    obtain ⟨rfl, hv⟩ := hok
    exact ams_lstore hx hb hdec hv H0
  case astore_n n =>
    simp only [am_okE, Bool.and_eq_true, beq_iff_eq, decide_eq_true_eq] at hok
    obtain ⟨rfl, hv⟩ := hok
    exact ams_astore_n hx hb hdec hv H0
  case astore n =>
    simp only [am_okE, Bool.and_eq_true, beq_iff_eq, decide_eq_true_eq] at hok
    obtain ⟨rfl, hv⟩ := hok
    exact ams_astore hx hb hdec hv H0
  case iinc k n =>
    simp only [am_okE, Bool.and_eq_true, beq_iff_eq, decide_eq_true_eq] at hok
    obtain ⟨⟨rfl, hk⟩, hv⟩ := hok
    exact ams_iinc hx hb hdec hk hv H0
  case iadd =>
    simp only [am_okE, beq_iff_eq] at hok
    subst hok
    exact ams_iadd hx hb hdec H0
  case isub =>
    simp only [am_okE, beq_iff_eq] at hok
    subst hok
    exact ams_isub hx hb hdec H0
  case imul =>
    simp only [am_okE, beq_iff_eq] at hok
    subst hok
    exact ams_imul hx hb hdec H0
  case iand =>
    simp only [am_okE, beq_iff_eq] at hok
    subst hok
    exact ams_iand hx hb hdec H0
  case ior =>
    simp only [am_okE, beq_iff_eq] at hok
    subst hok
    exact ams_ior hx hb hdec H0
  case ixor =>
    simp only [am_okE, beq_iff_eq] at hok
    subst hok
    exact ams_ixor hx hb hdec H0
  case idiv =>
    simp only [am_okE, beq_iff_eq] at hok
    subst hok
    exact ams_idiv hx hb hdec H0
  case irem =>
    simp only [am_okE, beq_iff_eq] at hok
    subst hok
    exact ams_irem hx hb hdec H0
  case ineg =>
    simp only [am_okE, beq_iff_eq] at hok
    subst hok
    exact ams_ineg hx hb hdec H0
  case ishl =>
    simp only [am_okE, beq_iff_eq] at hok
    subst hok
    exact ams_ishl hx hb hdec H0
  case ishr =>
    simp only [am_okE, beq_iff_eq] at hok
    subst hok
    exact ams_ishr hx hb hdec H0
  case iushr =>
    simp only [am_okE, beq_iff_eq] at hok
    subst hok
    exact ams_iushr hx hb hdec H0
  case ladd =>
    simp only [am_okE, beq_iff_eq] at hok
    subst hok
    exact ams_ladd hx hb hdec H0
  case lsub =>
    simp only [am_okE, beq_iff_eq] at hok
    subst hok
    exact ams_lsub hx hb hdec H0
  case lmul =>
    simp only [am_okE, beq_iff_eq] at hok
    subst hok
    exact ams_lmul hx hb hdec H0
  case ldiv =>
    simp only [am_okE, beq_iff_eq] at hok
    subst hok
    exact ams_ldiv hx hb hdec H0
  case lrem =>
    simp only [am_okE, beq_iff_eq] at hok
    subst hok
    exact ams_lrem hx hb hdec H0
  case lcmp =>
    simp only [am_okE, beq_iff_eq] at hok
    subst hok
    exact ams_lcmp hx hb hdec H0
  case i2l =>
    simp only [am_okE, beq_iff_eq] at hok
    subst hok
    exact ams_i2l hx hb hdec H0
  case l2i =>
    simp only [am_okE, beq_iff_eq] at hok
    subst hok
    exact ams_l2i hx hb hdec H0
  case i2b =>
    simp only [am_okE, beq_iff_eq] at hok
    subst hok
    exact ams_i2b hx hb hdec H0
  case i2s =>
    simp only [am_okE, beq_iff_eq] at hok
    subst hok
    exact ams_i2s hx hb hdec H0
  case i2c =>
    simp only [am_okE, beq_iff_eq] at hok
    subst hok
    exact ams_i2c hx hb hdec H0
  case dup =>
    simp only [am_okE, beq_iff_eq] at hok
    subst hok
    cases st with
    | nil => exact False.elim H0
    | cons v r =>
      have H1 : (if v.category = 1 then am_Wp p l e R s m args below meth c D dA A ro ad0 n0 nL lim Qm (pc + 1, L, v :: v :: r, u) h else False) := H0
      split at H1
      · exact ams_dup hx hb hdec (by assumption) H1
      · exact H1.elim
  case dup2 =>
    simp only [am_okE, beq_iff_eq] at hok
    subst hok
    match st, H0 with
    | v :: w :: r, H0 =>
      have H1 : (if v.category = 1 ∧ w.category = 1 then am_Wp p l e R s m args below meth c D dA A ro ad0 n0 nL lim Qm (pc + 1, L, v :: w :: v :: w :: r, u) h else False) := H0
      split at H1
      · rename_i hz; exact ams_dup2 hx hb hdec hz.1 hz.2 H1
      · exact H1.elim
  case pop =>
    simp only [am_okE, beq_iff_eq] at hok
    subst hok
    cases st with
    | nil => exact False.elim H0
    | cons v r =>
      have H1 : (if v.category = 1 then am_Wp p l e R s m args below meth c D dA A ro ad0 n0 nL lim Qm (pc + 1, L, r, u) h else False) := H0
      split at H1
      · exact ams_pop hx hb hdec (by assumption) H1
      · exact H1.elim
  case ifCond cd off =>
    simp only [am_okE, Bool.and_eq_true, beq_iff_eq, decide_eq_true_eq] at hok
    obtain ⟨rfl, hv⟩ := hok
    cases cd
    case eq => exact ams_if_eq hx hb hdec hv H0
    case ne => exact ams_if_ne hx hb hdec hv H0
    case lt => exact ams_if_lt hx hb hdec hv H0
    case ge => exact ams_if_ge hx hb hdec hv H0
    case gt => exact ams_if_gt hx hb hdec hv H0
    case le => exact ams_if_le hx hb hdec hv H0
  case if_icmp cd off =>
    simp only [am_okE, Bool.and_eq_true, beq_iff_eq, decide_eq_true_eq] at hok
    obtain ⟨rfl, hv⟩ := hok
    cases cd
    case eq => exact ams_icmp_eq hx hb hdec hv H0
    case ne => exact ams_icmp_ne hx hb hdec hv H0
    case lt => exact ams_icmp_lt hx hb hdec hv H0
    case ge => exact ams_icmp_ge hx hb hdec hv H0
    case gt => exact ams_icmp_gt hx hb hdec hv H0
    case le => exact ams_icmp_le hx hb hdec hv H0
  case goto off =>
    simp only [am_okE, Bool.and_eq_true, beq_iff_eq, decide_eq_true_eq] at hok
    obtain ⟨rfl, hv⟩ := hok
    exact ams_goto hx hb hdec hv H0
  case tableswitch df lo hi offs =>
    simp only [am_okE, Bool.and_eq_true, decide_eq_true_eq, List.all_eq_true] at hok
    exact ams_table hx hb hdec hok.1.1 (fun o ho => hok.1.2 o ho) hok.2 H0
  case lookupswitch df ps =>
    simp only [am_okE, Bool.and_eq_true, decide_eq_true_eq] at hok
    refine ams_lookup hx hb hdec hok.2 (fun x => ?_) H0
    have h1 := hok.1.1
    have h2 : ∀ o ∈ ps.toList, 0 ≤ (pc : Int) + o.2 := fun o ho => of_decide_eq_true (List.all_eq_true.mp hok.1.2 o ho)
    exact am_lsw_ok ps.toList df x.toInt (pc : Int) h1 h2
  case getfield idx =>
    simp only [am_okE, Bool.and_eq_true, beq_iff_eq] at hok
    obtain ⟨rfl, hv⟩ := hok
    obtain ⟨C, T, N, e1, e2, e3⟩ := am_fl_use hv
    exact ams_getfield hx hb hts (am_gin a (am_ci9 e1) C T N e1) hown hK hr (am_ci9 e1) e1 e2 (hts _ e3) hdec H0
  case putfield idx =>
    simp only [am_okE, Bool.and_eq_true, beq_iff_eq] at hok
    obtain ⟨⟨⟨rfl, hv⟩, hft⟩, hfin⟩ := hok
    obtain ⟨C, T, N, e1, e2, e3⟩ := am_fl_use hv
    rw [e1] at hfin
    simp only [Bool.or_eq_true, Bool.and_eq_true, beq_iff_eq] at hfin
    match st, H0 with
    | v :: .ref q :: r, H0 =>
      exact ams_putfield hx hb hts (am_gin a (am_ci9 e1) C T N e1) (am_tyOf a) (am_tyok a C T N e1).1 (am_tyok a C T N e1).2 hown hK hr (am_ci9 e1) e1 e2 (hts _ e3) (hfin.imp id (fun z => ⟨hini z.1, z.2⟩)) (am_ftyB_use hft) hdec rfl H0
  case getstatic idx =>
    simp only [am_okE, Bool.and_eq_true, Bool.or_eq_true, beq_iff_eq] at hok
    obtain ⟨rfl, ⟨rfl, hv⟩ | ⟨rfl, hv⟩⟩ := hok
    · exact ams_getstatic hx hb hro hn0 hro.2.1 (by omega) hown (hts _ (am_inT_use hv)) hdec H0
    · exact ams_getstatic hx hb hro hn0 hro.2.2.1 (by omega) hown (hts _ (am_inT_use hv)) hdec H0
  case iaload =>
    simp only [am_okE, beq_iff_eq] at hok
    subst hok
    exact ams_iaload hx hb hK hr hro hn0 hdec H0
  case arraylength =>
    simp only [am_okE, beq_iff_eq] at hok
    subst hok
    exact ams_arraylength hx hb hK hr hro hn0 hdec H0
  case baload =>
    simp only [am_okE, beq_iff_eq] at hok
    subst hok
    exact ams_baload hx hb hK hr hdec H0
  case caload =>
    simp only [am_okE, beq_iff_eq] at hok
    subst hok
    exact ams_caload hx hb hK hr hdec H0
  case laload =>
    simp only [am_okE, beq_iff_eq] at hok
    subst hok
    exact ams_laload hx hb hK hr hdec H0
  case aaload =>
    simp only [am_okE, beq_iff_eq] at hok
    subst hok
    exact ams_aaload hx hb hK hr hdec H0
  case iastore =>
    simp only [am_okE, beq_iff_eq] at hok
    subst hok
    exact ams_iastore hx hb hK hr hdec H0
  case bastore =>
    simp only [am_okE, beq_iff_eq] at hok
    subst hok
    exact ams_bastore hx hb hK hr hdec H0
  case castore =>
    simp only [am_okE, beq_iff_eq] at hok
    subst hok
    exact ams_castore hx hb hK hr hdec H0
  case lastore =>
    simp only [am_okE, beq_iff_eq] at hok
    subst hok
    exact ams_lastore hx hb hK hr hdec H0
  case aastore =>
    simp only [am_okE, beq_iff_eq] at hok
    subst hok
    exact ams_aastore hx hb hK hr hdec H0
  case newarray at_ =>
    simp only [am_okE, Bool.and_eq_true, Bool.or_eq_true, beq_iff_eq] at hok
    obtain ⟨⟨rfl, hv⟩, hp⟩ := hok
    have hp' : newarray.typeOf at_ = .int ∨ newarray.typeOf at_ = .char ∨ newarray.typeOf at_ = .boolean ∨ newarray.typeOf at_ = .long := by
      rcases hp with ((z | z) | z) | z
      · exact Or.inl z
      · exact Or.inr (Or.inl z)
      · exact Or.inr (Or.inr (Or.inl z))
      · exact Or.inr (Or.inr (Or.inr z))
    exact ams_newarray (t0 := 0) hx hb rfl hp' (hts _ (am_inT_use hv)) hK hA hR hdec H0
  case anewarray idx =>
    simp only [am_okE, Bool.and_eq_true, beq_iff_eq] at hok
    obtain ⟨rfl, hv⟩ := hok
    exact ams_anewarray hx hb hown (hts _ (am_inT_use hv)) (va_AO.use hro.2.2.2.2.2.2.2.2.2.2.1) hK hA hR hdec H0
  case new idx =>
    simp only [am_okE, Bool.and_eq_true, Bool.or_eq_true, beq_iff_eq] at hok
    rcases hok with rfl | ⟨⟨rfl, rfl⟩, hv⟩
    · exact hthr _ _ _ _ _ rfl H0.1 H0.2
    · split at hv
      · rename_i C T N e1
        simp only [Bool.and_eq_true] at hv
        have e2 := am_newok a C T N e1
        exact ams_new hx hb hts (am_gin a (am_ci9 e1) C T N e1) (am_tyOf a) (am_tyok a C T N e1).1 hown (hts _ (am_inT_use hv.1.1)) (hts _ (am_inT_use hv.1.2)) (hts _ (am_inT_use hv.2)) hK hA e1 e2.1 e2.2.1 e2.2.2 hR hdec H0
      · cases hv
  case invokestatic idx => exact hinv _ _ _ _ _ _ _ (Or.inl rfl) hdec hok H0
  case invokevirtual idx => exact hinv _ _ _ _ _ _ _ (Or.inr (Or.inl rfl)) hdec hok H0
  case invokespecial idx => exact hinv _ _ _ _ _ _ _ (Or.inr (Or.inr rfl)) hdec hok H0
  case ireturn => exact hret _ _ _ _ _ _ (Or.inl rfl) hdec hok H0
  case lreturn => exact hret _ _ _ _ _ _ (Or.inr (Or.inl rfl)) hdec hok H0
  case areturn => exact hret _ _ _ _ _ _ (Or.inr (Or.inr (Or.inl rfl))) hdec hok H0
  case return_ => exact hret _ _ _ _ _ _ (Or.inr (Or.inr (Or.inr rfl))) hdec hok H0
end
