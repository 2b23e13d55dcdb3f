/-! instructions that name nothing: for any class's own code -/
def isLk (i : Instr) : Bool := match i with
  | .ldc _ => true
  | .ldc_w _ => true
  | .ldc2_w _ => true
  | .getfield _ => true
  | .putfield _ => true
  | .getstatic _ => true
  | .anewarray _ => true
  | .new _ => true
  | .invokestatic _ => true
  | .invokevirtual _ => true
  | .invokespecial _ => true
  | .ireturn => true
  | .lreturn => true
  | .areturn => true
  | .return_ => true
  | _ => false
section
variable {p : Program} {l : Launch} {e : Env} {R : Room} {s : State} {m : MethodId} {args : Array Value} {below : List Frame} {meth : Method} {c : Code}
variable {D : va_G} {dA : Nat → ClassId} {A : Nat → Prop} {ro : Nat → am_C} {ad0 : Nat → Nat} {n0 nL : Nat} {lim : Nat × Nat} {Qm : State → Prop}
variable {cc : ByteArray} {pc : Nat} {L : List (Option Value)} {st : List Value} {u : Nat × Nat} {h : am_H}
set_option maxHeartbeats 4000000 in
theorem lw_ins {call : am_K} {own : String} {ow : Nat} {ini : Bool} {rt : Option FieldType} {Q : Option Value → am_H → Prop} {X : am_H → Prop} (hx : p.tables.exec = Jvm.exec) (hb : c.code = cc) (hts : ∀ w ∈ am_gt, w.before args s = true) (hK : va_K D vwCl (am_tys dA) s) (hr : am_roS ro) (hA : ∀ q, s.heap.size ≤ q → A q) (hro : am_RO ro ad0 A s s.heap) (hn0 : 40 ≤ n0) (hR : lim.1 ≤ R.cells ∧ lim.2 ≤ R.slots)
    {en : am_E} (hoth : isLk en.1 = true → am_ins call lim en Q X (am_Wp p l e R s m args below meth c D dA A ro ad0 n0 nL lim Qm) pc L st u h → am_Wp p l e R s m args below meth c D dA A ro ad0 n0 nL lim Qm (pc, L, st, u) h)
    (hdec : decode cc pc = .ok (en.1, en.2.1)) (hok : isLk en.1 = false → am_okE ow own nL ini rt pc en = true) (H0 : am_ins call lim en Q X (am_Wp p l e R s m args below meth c D dA A ro ad0 n0 nL lim Qm) pc L st u h) : am_Wp p l e R s m args below meth c D dA A ro ad0 n0 nL lim Qm (pc, L, st, u) h := by
  obtain ⟨i, len, a, b, t, cst, dd⟩ := en
  cases i <;> try exact False.elim H0
  case iconst n =>
    have hok := hok rfl
    simp only [am_okE, Bool.and_eq_true, beq_iff_eq, decide_eq_true_eq] at hok
    obtain ⟨rfl, hv⟩ := hok
    exact ams_iconst hx hb hdec hv H0
  case bipush n =>
    have hok := hok rfl
    simp only [am_okE, Bool.and_eq_true, beq_iff_eq, decide_eq_true_eq] at hok
    obtain ⟨rfl, hv⟩ := hok
    exact ams_bipush hx hb hdec hv H0
  case sipush n =>
    have hok := hok rfl
    simp only [am_okE, Bool.and_eq_true, beq_iff_eq, decide_eq_true_eq] at hok
    obtain ⟨rfl, hv⟩ := hok
    exact ams_sipush hx hb hdec hv H0
  case lconst n =>
    have hok := hok rfl
    simp only [am_okE, Bool.and_eq_true, beq_iff_eq, decide_eq_true_eq] at hok
    obtain ⟨rfl, hv⟩ := hok
    exact ams_lconst hx hb hdec hv H0
  case ldc idx => exact hoth rfl H0
  case ldc_w idx => exact hoth rfl H0
  case ldc2_w idx => exact hoth rfl H0
  case iload_n n =>
    have hok := hok rfl
    simp only [am_okE, beq_iff_eq] at hok
    subst hok
    exact ams_iload_n hx hb hdec H0
  case iload n =>
    have hok := hok rfl
    simp only [am_okE, beq_iff_eq] at hok
    subst hok
    exact ams_iload hx hb hdec H0
  case lload_n n =>
    have hok := hok rfl
    simp only [am_okE, beq_iff_eq] at hok
    subst hok
    exact ams_lload_n hx hb hdec H0
  case lload n =>
    have hok := hok rfl
    simp only [am_okE, beq_iff_eq] at hok
    subst hok
    exact ams_lload hx hb hdec H0
  case aload_n n =>
    have hok := hok rfl
    simp only [am_okE, beq_iff_eq] at hok
    subst hok
    exact ams_aload_n hx hb hdec H0
  case aload n =>
    have hok := hok rfl
    simp only [am_okE, beq_iff_eq] at hok
    subst hok
    exact ams_aload hx hb hdec H0
  case istore_n n =>
    have hok := hok rfl
    simp only [am_okE, Bool.and_eq_true, beq_iff_eq, decide_eq_true_eq] at hok
    obtain ⟨rfl, hv⟩ := hok
    exact ams_istore_n hx hb hdec hv H0
  case istore n =>
    have hok := hok rfl
    simp only [am_okE, Bool.and_eq_true, beq_iff_eq, decide_eq_true_eq] at hok
    obtain ⟨rfl, hv⟩ := hok
    exact ams_istore hx hb hdec hv H0
  case lstore_n n =>
    have hok := hok rfl
    simp only [am_okE, Bool.and_eq_true, beq_iff_eq, decide_eq_true_eq] at hok
    obtain ⟨rfl, hv⟩ := hok
    exact ams_lstore_n hx hb hdec hv H0
  case lstore n =>
    have hok := hok rfl
    simp only [am_okE, Bool.and_eq_true, beq_iff_eq, decide_eq_true_eq] at hok
    obtain ⟨rfl, hv⟩ := hok
    exact ams_lstore hx hb hdec hv H0
  case astore_n n =>
    have hok := hok rfl
    simp only [am_okE, Bool.and_eq_true, beq_iff_eq, decide_eq_true_eq] at hok
    obtain ⟨rfl, hv⟩ := hok
    exact ams_astore_n hx hb hdec hv H0
  case astore n =>
    have hok := hok rfl
    simp only [am_okE, Bool.and_eq_true, beq_iff_eq, decide_eq_true_eq] at hok
    obtain ⟨rfl, hv⟩ := hok
    exact ams_astore hx hb hdec hv H0
  case iinc k n =>
    have hok := hok rfl
    simp only [am_okE, Bool.and_eq_true, beq_iff_eq, decide_eq_true_eq] at hok
    obtain ⟨⟨rfl, hk⟩, hv⟩ := hok
    exact ams_iinc hx hb hdec hk hv H0
  case iadd =>
    have hok := hok rfl
    simp only [am_okE, beq_iff_eq] at hok
    subst hok
    exact ams_iadd hx hb hdec H0
  case isub =>
    have hok := hok rfl
    simp only [am_okE, beq_iff_eq] at hok
    subst hok
    exact ams_isub hx hb hdec H0
  case imul =>
    have hok := hok rfl
    simp only [am_okE, beq_iff_eq] at hok
    subst hok
    exact ams_imul hx hb hdec H0
  case iand =>
    have hok := hok rfl
    simp only [am_okE, beq_iff_eq] at hok
    subst hok
    exact ams_iand hx hb hdec H0
  case ior =>
    have hok := hok rfl
    simp only [am_okE, beq_iff_eq] at hok
    subst hok
    exact ams_ior hx hb hdec H0
  case ixor =>
    have hok := hok rfl
    simp only [am_okE, beq_iff_eq] at hok
    subst hok
    exact ams_ixor hx hb hdec H0
  case idiv =>
    have hok := hok rfl
    simp only [am_okE, beq_iff_eq] at hok
    subst hok
    exact ams_idiv hx hb hdec H0
  case irem =>
    have hok := hok rfl
    simp only [am_okE, beq_iff_eq] at hok
    subst hok
    exact ams_irem hx hb hdec H0
  case ineg =>
    have hok := hok rfl
    simp only [am_okE, beq_iff_eq] at hok
    subst hok
    exact ams_ineg hx hb hdec H0
  case ishl =>
    have hok := hok rfl
    simp only [am_okE, beq_iff_eq] at hok
    subst hok
    exact ams_ishl hx hb hdec H0
  case ishr =>
    have hok := hok rfl
    simp only [am_okE, beq_iff_eq] at hok
    subst hok
    exact ams_ishr hx hb hdec H0
  case iushr =>
    have hok := hok rfl
    simp only [am_okE, beq_iff_eq] at hok
    subst hok
    exact ams_iushr hx hb hdec H0
  case ladd =>
    have hok := hok rfl
    simp only [am_okE, beq_iff_eq] at hok
    subst hok
    exact ams_ladd hx hb hdec H0
  case lsub =>
    have hok := hok rfl
    simp only [am_okE, beq_iff_eq] at hok
    subst hok
    exact ams_lsub hx hb hdec H0
  case lmul =>
    have hok := hok rfl
    simp only [am_okE, beq_iff_eq] at hok
    subst hok
    exact ams_lmul hx hb hdec H0
  case ldiv =>
    have hok := hok rfl
    simp only [am_okE, beq_iff_eq] at hok
    subst hok
    exact ams_ldiv hx hb hdec H0
  case lrem =>
    have hok := hok rfl
    simp only [am_okE, beq_iff_eq] at hok
    subst hok
    exact ams_lrem hx hb hdec H0
  case lcmp =>
    have hok := hok rfl
    simp only [am_okE, beq_iff_eq] at hok
    subst hok
    exact ams_lcmp hx hb hdec H0
  case i2l =>
    have hok := hok rfl
    simp only [am_okE, beq_iff_eq] at hok
    subst hok
    exact ams_i2l hx hb hdec H0
  case l2i =>
    have hok := hok rfl
    simp only [am_okE, beq_iff_eq] at hok
    subst hok
    exact ams_l2i hx hb hdec H0
  case i2b =>
    have hok := hok rfl
    simp only [am_okE, beq_iff_eq] at hok
    subst hok
    exact ams_i2b hx hb hdec H0
  case i2s =>
    have hok := hok rfl
    simp only [am_okE, beq_iff_eq] at hok
    subst hok
    exact ams_i2s hx hb hdec H0
  case i2c =>
    have hok := hok rfl
    simp only [am_okE, beq_iff_eq] at hok
    subst hok
    exact ams_i2c hx hb hdec H0
  case dup =>
    have hok := hok rfl
    simp only [am_okE, beq_iff_eq] at hok
    subst hok
    cases st with
    | nil => exact False.elim H0
    | cons v r =>
      have H1 : (if v.category = 1 then am_Wp p l e R s m args below meth c D dA A ro ad0 n0 nL lim Qm (pc + 1, L, v :: v :: r, u) h else False) := H0
      split at H1
      · exact ams_dup hx hb hdec (by assumption) H1
      · exact H1.elim
  case dup2 =>
    have hok := hok rfl
    simp only [am_okE, beq_iff_eq] at hok
    subst hok
    match st, H0 with
    | v :: w :: r, H0 =>
      have H1 : (if v.category = 1 ∧ w.category = 1 then am_Wp p l e R s m args below meth c D dA A ro ad0 n0 nL lim Qm (pc + 1, L, v :: w :: v :: w :: r, u) h else False) := H0
      split at H1
      · rename_i hz; exact ams_dup2 hx hb hdec hz.1 hz.2 H1
      · exact H1.elim
  case pop =>
    have hok := hok rfl
    simp only [am_okE, beq_iff_eq] at hok
    subst hok
    cases st with
    | nil => exact False.elim H0
    | cons v r =>
      have H1 : (if v.category = 1 then am_Wp p l e R s m args below meth c D dA A ro ad0 n0 nL lim Qm (pc + 1, L, r, u) h else False) := H0
      split at H1
      · exact ams_pop hx hb hdec (by assumption) H1
      · exact H1.elim
  case ifCond cd off =>
    have hok := hok rfl
    simp only [am_okE, Bool.and_eq_true, beq_iff_eq, decide_eq_true_eq] at hok
    obtain ⟨rfl, hv⟩ := hok
    cases cd
    case eq => exact ams_if_eq hx hb hdec hv H0
    case ne => exact ams_if_ne hx hb hdec hv H0
    case lt => exact ams_if_lt hx hb hdec hv H0
    case ge => exact ams_if_ge hx hb hdec hv H0
    case gt => exact ams_if_gt hx hb hdec hv H0
    case le => exact ams_if_le hx hb hdec hv H0
  case if_icmp cd off =>
    have hok := hok rfl
    simp only [am_okE, Bool.and_eq_true, beq_iff_eq, decide_eq_true_eq] at hok
    obtain ⟨rfl, hv⟩ := hok
    cases cd
    case eq => exact ams_icmp_eq hx hb hdec hv H0
    case ne => exact ams_icmp_ne hx hb hdec hv H0
    case lt => exact ams_icmp_lt hx hb hdec hv H0
    case ge => exact ams_icmp_ge hx hb hdec hv H0
    case gt => exact ams_icmp_gt hx hb hdec hv H0
    case le => exact ams_icmp_le hx hb hdec hv H0
  case goto off =>
    have hok := hok rfl
    simp only [am_okE, Bool.and_eq_true, beq_iff_eq, decide_eq_true_eq] at hok
    obtain ⟨rfl, hv⟩ := hok
    exact ams_goto hx hb hdec hv H0
  case tableswitch df lo hi offs =>
    have hok := hok rfl
    simp only [am_okE, Bool.and_eq_true, decide_eq_true_eq, List.all_eq_true] at hok
    exact ams_table hx hb hdec hok.1.1 (fun o ho => hok.1.2 o ho) hok.2 H0
  case lookupswitch df ps =>
    have hok := hok rfl
    simp only [am_okE, Bool.and_eq_true, decide_eq_true_eq] at hok
    refine ams_lookup hx hb hdec hok.2 (fun x => ?_) H0
    have h1 := hok.1.1
    have h2 : ∀ o ∈ ps.toList, 0 ≤ (pc : Int) + o.2 := fun o ho => of_decide_eq_true (List.all_eq_true.mp hok.1.2 o ho)
    exact am_lsw_ok ps.toList df x.toInt (pc : Int) h1 h2
  case getfield idx => exact hoth rfl H0
  case putfield idx => exact hoth rfl H0
  case getstatic idx => exact hoth rfl H0
  case iaload =>
    have hok := hok rfl
    simp only [am_okE, beq_iff_eq] at hok
    subst hok
    exact ams_iaload hx hb hK hr hro hn0 hdec H0
  case arraylength =>
    have hok := hok rfl
    simp only [am_okE, beq_iff_eq] at hok
    subst hok
    exact ams_arraylength hx hb hK hr hro hn0 hdec H0
  case baload =>
    have hok := hok rfl
    simp only [am_okE, beq_iff_eq] at hok
    subst hok
    exact ams_baload hx hb hK hr hdec H0
  case caload =>
    have hok := hok rfl
    simp only [am_okE, beq_iff_eq] at hok
    subst hok
    exact ams_caload hx hb hK hr hdec H0
  case laload =>
    have hok := hok rfl
    simp only [am_okE, beq_iff_eq] at hok
    subst hok
    exact ams_laload hx hb hK hr hdec H0
  case aaload =>
    have hok := hok rfl
    simp only [am_okE, beq_iff_eq] at hok
    subst hok
    exact ams_aaload hx hb hK hr hdec H0
  case iastore =>
    have hok := hok rfl
    simp only [am_okE, beq_iff_eq] at hok
    subst hok
    exact ams_iastore hx hb hK hr hdec H0
  case bastore =>
    have hok := hok rfl
    simp only [am_okE, beq_iff_eq] at hok
    subst hok
    exact ams_bastore hx hb hK hr hdec H0
  case castore =>
    have hok := hok rfl
    simp only [am_okE, beq_iff_eq] at hok
    subst hok
    exact ams_castore hx hb hK hr hdec H0
  case lastore =>
    have hok := hok rfl
    simp only [am_okE, beq_iff_eq] at hok
    subst hok
    exact ams_lastore hx hb hK hr hdec H0
  case aastore =>
    have hok := hok rfl
    simp only [am_okE, beq_iff_eq] at hok
    subst hok
    exact ams_aastore hx hb hK hr hdec H0
  case newarray at_ =>
    have hok := hok rfl
    simp only [am_okE, Bool.and_eq_true, Bool.or_eq_true, beq_iff_eq] at hok
    obtain ⟨⟨rfl, hv⟩, hp⟩ := hok
    have hp' : newarray.typeOf at_ = .int ∨ newarray.typeOf at_ = .char ∨ newarray.typeOf at_ = .boolean ∨ newarray.typeOf at_ = .long := by
      rcases hp with ((z | z) | z) | z
      · exact Or.inl z
      · exact Or.inr (Or.inl z)
      · exact Or.inr (Or.inr (Or.inl z))
      · exact Or.inr (Or.inr (Or.inr z))
    exact ams_newarray (t0 := 0) hx hb rfl hp' (hts _ (am_inT_use hv)) hK hA hR hdec H0
  case anewarray idx => exact hoth rfl H0
  case new idx => exact hoth rfl H0
  case invokestatic idx => exact hoth rfl H0
  case invokevirtual idx => exact hoth rfl H0
  case invokespecial idx => exact hoth rfl H0
  case ireturn => exact hoth rfl H0
  case lreturn => exact hoth rfl H0
  case areturn => exact hoth rfl H0
  case return_ => exact hoth rfl H0
end
