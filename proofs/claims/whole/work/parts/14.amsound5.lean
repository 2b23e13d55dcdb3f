/-- a method's contract out of its body, also for a class that has natives, if the method is none -/
theorem am_ofWF {l : Launch} {y : MethodName} {ws ws' : List Cond} {rm : Room} {Pc : Array Value → State → Prop} {Qc : Array Value → State → Outcome → State → Prop} {mc ms : Nat} {free : Addr → Prop} {cc : ByteArray} {maxL : Nat} {ret : Option FieldType}
    (hy : plainFor y = true) (hw : ws = Cond.code y cc maxL ret :: ws')
    (body : ∀ p e s m args below meth c s₁, BodyLoose p l y (headSpec ws rm) cc maxL ret e s m args below meth c s₁ → c.maxLocals = maxL → Pc args s →
      W p l e (headSpec ws rm).room s m args below meth c s.heap [] 0 0 (MQ below Qc args s mc ms free) (entryFrame m args maxL)) : Met l y ws rm Pc Qc mc ms free := by
  refine MetFree.of_bodySF (code := cc) (maxLocals := maxL) (ret := ret) hy ?_ ?_
  · intro args s m h hn
    obtain ⟨meth, c, h1, h2, h3, h4, h5, h6, -, -⟩ := Cond.code_spec hn (atoms_spec (ws := ws) h _ (by rw [hw]; exact List.mem_cons_self))
    exact ⟨meth, c, h1, h2, h3, h4, h5, h6⟩
  · intro p e s m args below meth c s₁ B hml hP _
    have hh0 : s₁.heap = s.heap := by rw [B.state]; rfl
    obtain ⟨t, a1, o, b1, b2, b3⟩ := body p e s m args below meth c s₁ B hml hP s₁ hh0 (Stand.of_body B)
    exact ⟨t, o, a1, b1, b2, ⟨b3.1, b3.2⟩⟩
section
variable {p : Program} {l : Launch} {e : Env} {R : Room} {s : State} {m : MethodId} {args : Array Value} {below : List Frame} {meth : Method} {c : Code}
variable {D : va_G} {dA : Nat → ClassId} {A : Nat → Prop} {ro : Nat → am_C} {ad0 : Nat → Nat} {n0 nL : Nat} {lim : Nat × Nat} {Qm : State → Prop}
variable {cc : ByteArray} {pc : Nat} {L : List (Option Value)} {st : List Value} {u : Nat × Nat} {h : am_H}
theorem ams_ret {call : am_K} {own : String} {ow : Nat} {ini : Bool} {rt : Option FieldType} {Q : Option Value → am_H → Prop} {X : am_H → Prop} {h0 : am_H} (hx : p.tables.exec = Jvm.exec) (hb : c.code = cc) (hrt : meth.sig.returnType = rt) (hlocks : meth.locks = false) (hA0 : va_A (am_ws dA ad0 h0) s.heap.size = A) (hn0 : n0 = h0.1)
    (hQm : ∀ {H : Heap} {locs : List Loc} {g : JFrame}, W p l e R s m args below meth c H locs lim.1 lim.2 (MQ below (am_Qc D dA ro ad0 h0 s.heap.size Q) args s lim.1 lim.2 A) g → W p l e R s m args below meth c H locs lim.1 lim.2 Qm g)
    (i : Instr) (len a b t : Nat) (cv : Int32 × Int64) (hi : i = .ireturn ∨ i = .lreturn ∨ i = .areturn ∨ i = .return_) (hdec : decode cc pc = .ok (i, len)) (hok : am_okE ow own nL ini rt pc (i, len, a, b, t, cv) = true)
    (H0 : am_ins call lim (i, len, a, b, t, cv) Q X (am_Wp p l e R s m args below meth c D dA A ro ad0 n0 nL lim Qm) pc L st u h) : am_Wp p l e R s m args below meth c D dA A ro ad0 n0 nL lim Qm (pc, L, st, u) h := by
  subst hA0
  subst hn0
  intro ad H locs ls had hn hP hD hS hokh hl hLo hst hu1 hu2
  have fin : ∀ v : Option Value, Q v h → (∀ w, v = some w → am_okv h.1 w) → ∀ t : State, t.heap = H → s.WarmedH t.vm → am_Qc D dA ro ad0 h0 s.heap.size Q args s (.returned (v.map (am_cv ad))) t := fun v hq hv t ht hW =>
    ⟨⟨v, h, ad, rfl, hq, by rw [ht]; exact hP, hD, hokh, hn, had, hv⟩, hS.F ht⟩
  refine W.widen hu1 hu2 (hQm ?_)
  rcases hi with rfl | rfl | rfl | rfl
  · simp only [am_okE, Bool.and_eq_true, Bool.or_eq_true, beq_iff_eq] at hok
    match st, H0 with
    | [.int x], H0 =>
      obtain ⟨rfl, (⟨rfl, rfl⟩ | ⟨rfl, rfl⟩) | ⟨rfl, rfl⟩⟩ := hok
      · exact W.iret hx hb hrt (fin (some (.int x)) H0 (fun w e => by cases e; exact am_okv_int)) hS.2.2 hdec hlocks
      · have H1 : (x = 0 ∨ x = 1) ∧ Q (some (.int x)) h := H0
        exact W.zret hx hb hrt (by rcases H1.1 with rfl | rfl <;> decide) (fin (some (.int x)) H1.2 (fun w e => by cases e; exact am_okv_int)) hS.2.2 hdec hlocks
      · have H1 : (∃ q : Nat, q < 65536 ∧ x = nI q) ∧ Q (some (.int x)) h := H0
        exact W.zret hx hb hrt (by obtain ⟨⟨q, hq, rfl⟩, -⟩ := H1; exact (pk_charN hq).1) (fin (some (.int x)) H1.2 (fun w e => by cases e; exact am_okv_int)) hS.2.2 hdec hlocks
  · simp only [am_okE, Bool.and_eq_true, beq_iff_eq] at hok
    match st, H0 with
    | [.long x], H0 =>
      obtain ⟨rfl, rfl⟩ := hok
      exact W.lret hx hb hrt (fin (some (.long x)) H0 (fun w e => by cases e; exact am_okv_long)) hS.2.2 hdec hlocks
  · simp only [am_okE, Bool.and_eq_true, beq_iff_eq] at hok
    match st, H0, hst with
    | [.ref x], H0, hst =>
      obtain ⟨rfl, rfl⟩ := hok
      exact W.aret hx hb hrt (Or.inl ⟨_, rfl⟩) (Or.inr ⟨_, rfl⟩) (fin (some (.ref x)) H0 (fun w e => by cases e; exact hst _ List.mem_cons_self)) hS.2.2 hdec hlocks
  · simp only [am_okE, Bool.and_eq_true, beq_iff_eq] at hok
    match st, H0 with
    | [], H0 =>
      obtain ⟨rfl, rfl⟩ := hok
      exact W.vret hx hb hrt (fin none H0 (fun w e => by cases e)) hS.2.2 hdec hlocks
end
set_option maxHeartbeats 4000000 in
/-- THE ABSTRACT MACHINE SPEAKS OF THE MACHINE: what it says of a method is the method's contract -/
theorem am_sound (l : Launch) (hall : am_OkAll) (hstr : am_StrOk l) : ∀ (d k : Nat) (as : List Value) (h : am_H) (Q : Option Value → am_H → Prop), am_call d k as h Q → k < 900 → am_MetOk l d k as h Q := by
  intro d
  induction d with
  | zero => exact fun _ _ _ _ H => H.elim
  | succ d ih =>
    intro k as h Q H hk r hr D dA ro ad sz hokh hros hargs
    unfold am_call at H
    rw [if_neg (by omega), hr] at H
    obtain ⟨hlen, Hwp⟩ := H
    obtain ⟨ow, w0, w1, w2, w3, hM⟩ := hall k r hr
    obtain ⟨k1, k2, k3, k4, k5, k6, k7, k8, k9, k10, k11⟩ := am_okM_use hM
    refine am_ofWF (cc := r.2.1) (maxL := r.2.2.1) (ret := r.2.2.2.1) k9 rfl ?_
    intro p e s m args below meth c s₁ B hml hv
    obtain ⟨rfl, hsz, hP, hK, hD0, hRO⟩ := hv
    have hx := B.exec
    have hb := B.bytes
    have hrt := B.returns
    have hts0 := atoms_spec (ws := am_w r) B.pre
    have hts : ∀ w ∈ am_gt, w.before ((as.map (am_cv ad)).toArray) s = true := fun w hw => hts0 w (List.mem_cons_of_mem _ hw)
    have hown : s.vm.findClass r.1.cls = some m.cls := findClass_of_methodNamed B.named
    have hlocks := B.notSynchronized
    have hname := (name_of_methodNamed B.named B.method).1
    subst hsz
    have hD := hD0.self (sz := s.heap.size)
    have hl := lv_entry (as.map (am_cv ad)) (n := r.2.2.1) (by rw [am_ent_cv]; exact hlen)
    rw [lg_entry_eq]
    generalize (lg_sl (as.map (am_cv ad)) ++ List.replicate (r.2.2.1 - (lg_sl (as.map (am_cv ad))).length) Slot.unset).toArray = ls at hl ⊢
    have hA : ∀ q : Nat, s.heap.size ≤ q → va_A (am_ws dA ad h) s.heap.size q := fun q hq => Or.inr hq
    have hl' : lv_has ls r.2.2.1 (am_pr (am_loc as r.2.2.1) ad) := am_lv_mono hl (fun q hq => by
      obtain ⟨j, x⟩ := q
      obtain ⟨v, hv, rfl⟩ := am_pr_mem.mp hq
      have z := am_ent_at (ad := ad) as 0 j v (am_loc_at hv)
      rw [Nat.zero_add] at z
      exact z)
    have hLo : am_okL h.1 (am_loc as r.2.2.1) := fun j v hv => hargs v (am_ent_mem as j v (am_loc_at hv))
    have main := Hwp (am_Wp p l e (am_rm (d + 1) k) s m (as.map (am_cv ad)).toArray below meth c D dA (va_A (am_ws dA ad h) s.heap.size) ro ad h.1 r.2.2.1 (am_lim k) (MQ below (am_Qc D dA ro ad h s.heap.size Q) (as.map (am_cv ad)).toArray s (am_lim k).1 (am_lim k).2 (va_A (am_ws dA ad h) s.heap.size))) (by
      intro f h1 z
      obtain ⟨pc, L, st, u⟩ := f
      unfold am_step at z
      simp only at z
      split at z
      · rename_i en hen
        obtain ⟨q1, q2⟩ := k11 _ (am_lookup_mem hen)
        refine am_sound_ins hx hb hown k1 hts hK hros hA hRO hokh.1 ⟨Nat.le_refl _, Nat.le_refl _⟩ (fun hini => by rw [hname]; exact of_decide_eq_true hini) ?_ ?_ (fun _ _ _ _ _ _ _ z => z.elim) q1 q2 z
        · intro i len a b t cv dv hi hdec hok H0
          exact am_hinv hx hb hml hown k1 hts hK hros hA hRO hokh.1 ⟨Nat.le_refl _, Nat.le_refl _⟩ (Nat.le_refl _) (Nat.le_refl _) hall hstr ih i len a b t cv dv hi hdec hok H0
        · intro i len a b t cv hi hdec hok H0
          exact ams_ret hx hb hrt hlocks rfl rfl (fun w => w) i len a b t cv hi hdec hok H0
      · exact z.elim)
    exact main ad s.heap [] ls (fun _ _ => rfl) (Nat.le_refl _) hP hD va_S.rf hokh hl' hLo (fun v hv => by cases hv) (Nat.zero_le _) (Nat.zero_le _)
