/-! the law's helpers: a call of the class that may throw, caught -/
/-- a method's contract out of its body, for a method with a table of its own that throws nothing -/
theorem am_ofWH {l : Launch} {y : MethodName} {ws ws' : List Cond} {rm : Room} {Pc : Array Value → State → Prop} {Qc : Array Value → State → Outcome → State → Prop} {mc ms : Nat} {free : Addr → Prop} {cc : ByteArray} {maxL : Nat} {ret : Option FieldType} {hh : List (Nat × Nat × Nat × Nat)}
    (hy : plainName y.cls = true) (hw : ws = Cond.codeWith y cc maxL ret hh :: ws')
    (body : ∀ p e s m args below meth c s₁, BodyLoose p l y (headSpec ws rm) cc maxL ret e s m args below meth c s₁ → c.maxLocals = maxL → Pc args s →
      W p l e (headSpec ws rm).room s m args below meth c s.heap [] 0 0 (MQ below Qc args s mc ms free) (entryFrame m args maxL)) : Met l y ws rm Pc Qc mc ms free := by
  refine MetFree.of_bodyS (code := cc) (maxLocals := maxL) (ret := ret) hy ?_ ?_
  · intro args s m h hn
    obtain ⟨m9, meth, c, hn9, h1, h2, h3, h4, -, h5, h6, -⟩ := Cond.codeWith_spec (atoms_spec (ws := ws) h _ (by rw [hw]; exact List.mem_cons_self))
    cases hn.symm.trans hn9
    exact ⟨meth, c, h1, h2, h3, h4, h5, h6⟩
  · intro p e s m args below meth c s₁ B hml hP _
    have hh0 : s₁.heap = s.heap := by rw [B.state]; rfl
    obtain ⟨t, a1, o, b1, b2, b3⟩ := body p e s m args below meth c s₁ B hml hP s₁ hh0 (Stand.of_body B)
    exact ⟨t, o, a1, b1, b2, ⟨b3.1, b3.2⟩⟩
theorem hp_lda {L : List (Option Value)} {i x : Nat} {g : Nat → Prop} (e : L.getD i none = some (.ref x)) (H : g x) : am_lda L i g := by
  unfold am_lda; rw [e]; exact H
theorem hp_ldi {L : List (Option Value)} {i : Nat} {x : Int32} {g : Int32 → Prop} (e : L.getD i none = some (.int x)) (H : g x) : am_ldi L i g := by
  unfold am_ldi; rw [e]; exact H
section
variable {p : Program} {l : Launch} {e : Env} {R : Room} {s : State} {m : MethodId} {args : Array Value} {below : List Frame} {meth : Method} {c : Code}
variable {D : va_G} {dA : Nat → ClassId} {A : Nat → Prop} {ro : Nat → am_C} {ad0 : Nat → Nat} {n0 nL : Nat} {lim : Nat × Nat} {Qm : State → Prop}
variable {cc : ByteArray} {pc : Nat} {L : List (Option Value)} {st : List Value} {u : Nat × Nat} {h : am_H}
set_option maxHeartbeats 4000000 in
/-- behind a call that returned or threw -/
theorem th_ran {ad : Nat → Nat} {H : Heap} {locs : List Loc} {ls : Array Slot} {mc ms : Nat} {rest st0 : List Value} {a : Array Value} {Q : Option Value → am_H → Prop} {X : am_H → Prop} (hA : ∀ q, s.heap.size ≤ q → A q) (had : ∀ i, i < n0 → ad i = ad0 i) (hn : n0 ≤ h.1) (hD : va_D A (am_ws dA ad h)) (hS : va_S A s.heap H locs) (hl : lv_has ls nL (am_pr L ad)) (hLo : am_okL h.1 L) (hst : ∀ v ∈ rest, am_okv h.1 v) (hu1 : u.1 + mc ≤ lim.1) (hu2 : u.2 + ms ≤ lim.2)
    (hr : vx_Run p l e R s m args below meth c H locs u.1 u.2 mc ms (F0 m pc ls st0) (rest.map (am_cv ad)) (am_Qc D dA ro ad h H.size Q a) (am_XC D dA ro ad h H.size X) (va_A (am_ws dA ad h) H.size))
    (K : ∀ v h', Q v h' → am_Wp p l e R s m args below meth c D dA A ro ad0 n0 nL lim Qm (pc + 3, L, v.toList ++ rest, u.1 + mc, u.2 + ms) h')
    (KX : ∀ (h' : am_H) (ad' : Nat → Nat) (H' : Heap) (locs' : List Loc) (q : Nat) (ce : Cell), X h' → (∀ i, i < n0 → ad' i = ad0 i) → n0 ≤ h'.1 → va_P D vwCl (am_ws dA ad' h') H' → va_D A (am_ws dA ad' h') → va_S A s.heap H' locs' → am_okh ro h' → H'[q]? = some ce → ce.vm = .none → s.vm.findClass nsE = some ce.cls → vx_W p l e R s m args below meth c H' locs' (u.1 + mc) (u.2 + ms) Qm (F0 m pc ls (rest.map (am_cv ad))) q) : W p l e R s m args below meth c H locs u.1 u.2 Qm (F0 m pc ls st0) := by
  have hfree : ∀ q, va_A (am_ws dA ad h) H.size q → A q := by
    intro q hq
    rcases hq with ⟨k, e0, hk⟩ | hq
    · exact hD.2 k _ hk
    · exact hA q (Nat.le_trans hS.1 hq)
  have hS' : ∀ (t : Heap) (Lc : List Loc), H.size ≤ t.size → (∀ q : Nat, q < H.size → ¬ va_A (am_ws dA ad h) H.size q → t[q]? = H[q]?) → (∀ q ∈ Lc, va_A (am_ws dA ad h) H.size q.base) → va_S A s.heap t (locs ++ Lc) := fun t Lc hz hk hL =>
    ⟨Nat.le_trans hS.1 hz, fun q h1 h2 => by rw [hk q (Nat.lt_of_lt_of_le h1 hS.1) (fun z => h2 (hfree q z))]; exact hS.2.1 q h1 h2, fun q hq => by
      rcases List.mem_append.mp hq with z | z
      · exact hS.2.2 q z
      · exact hfree _ (hL q z)⟩
  intro T hT X0
  rcases hr T hT X0 with ⟨v, st₀, t, T', Lc, h0, X', hL, e1, e2, ⟨⟨v', h', ad', hv, hQ, hP', hD', hok', hle, had', hov⟩, hz, hk⟩, stp⟩ | ⟨q, st₀, t, T', Lc, E, ce, h0, X', hL, e1, e2, ⟨hE, ⟨h', ad', hX, hP', hD', hok', hle, had'⟩, hz, hk⟩, hce, hcv, hcl, stp⟩
  · cases hv
    rw [h0] at hz hk
    have K' := K v' h' hQ ad' T'.heap (locs ++ Lc) ls (fun i hi => by rw [had' i (by omega)]; exact had i hi) (by omega) (by rw [e1]; exact hP') (hD'.weaken (fun k q _ z => hfree _ z))
      (hS' _ _ (by rw [e1]; exact hz) (by rw [e1]; exact hk) hL) hok' (am_lv_mono hl (am_pr_same had' hLo)) (am_okL_mono hle hLo) (by
        intro w hw
        rcases List.mem_append.mp hw with z | z
        · cases v' with
          | none => simp at z
          | some x =>
            simp only [Option.toList, List.mem_singleton] at z
            subst z
            exact hov _ rfl
        · exact am_okv_mono hle (hst w z)) hu1 hu2
    have est : (v'.toList ++ rest).map (am_cv ad') = (v'.map (am_cv ad')).toList ++ rest.map (am_cv ad) := by
      rw [List.map_append, am_map_same had' hst]
      cases v' <;> rfl
    rw [est] at K'
    obtain ⟨t2, a1, b1⟩ := K' T' rfl X'
    exact ⟨t2, stp t2 a1, b1⟩
  · subst hE
    rw [h0] at hz hk
    have kx := KX h' ad' T'.heap (locs ++ Lc) q ce hX (fun i hi => by rw [had' i (by omega)]; exact had i hi) (by omega) (by rw [e1]; exact hP') (hD'.weaken (fun k q _ z => hfree _ z))
      (hS' _ _ (by rw [e1]; exact hz) (by rw [e1]; exact hk) hL) hok' (by rw [e1]; exact hce) hcv hcl
    obtain ⟨t2, a1, b1⟩ := kx T' rfl X'
    exact ⟨t2, stp.trans a1, b1⟩
set_option maxHeartbeats 4000000 in
/-- the call itself -/
theorem hp_call {d a idx : Nat} {own : String} {r : am_R} {T : u_T} {N x : Nat} {fs As rest : List Value} {Q : Option Value → am_H → Prop} {X : am_H → Prop} (hx : p.tables.exec = Jvm.exec) (hb : c.code = cc) (hml : c.maxLocals = nL) (hown : s.vm.findClass own = some m.cls) (hts : ∀ w ∈ am_gt, w.before args s = true) (hK : va_K D vwCl (am_tys dA) s) (hr : am_roS ro) (hA : ∀ q, s.heap.size ≤ q → A q) (hro : am_RO ro ad0 A s s.heap) (hn0 : 40 ≤ n0) (hR : lim.1 ≤ R.cells ∧ lim.2 ≤ R.slots) (hRf : d + 2 ≤ R.frames) (hRl : 40 * (d + 2) ≤ R.locals) (hu : u.1 + 1 ≤ lim.1 ∧ u.2 + 6 ≤ lim.2)
    (hall : am_OkAll) (hrow : am_mt[a]? = some r) (hkd : r.2.2.2.2.1 = 1) (hnp : r.2.2.2.2.2 = As.length) (hlim : am_lim a = (1, 6)) (hcl : vwCl[7]? = some (r.1.cls, T, N)) (hlink : Cond.methodLink own idx r.1 ∈ am_gt) (hdec : decode cc pc = .ok (.invokevirtual idx, 3)) (hobj : h.2 x = .inr (7, fs)) (hcat : am_cats rest ≤ 8)
    (hM : ∀ (D : va_G) (dA : Nat → ClassId) (ro : Nat → am_C) (ad : Nat → Nat) (sz : Nat), am_okh ro h → am_roS ro → (∀ v ∈ Value.ref x :: As, am_okv h.1 v) → vx_Met l r.1 (am_w r) (am_rm (d + 1) a) (am_Pc D dA ro ad h sz (.ref x :: As)) (am_Qc D dA ro ad h sz Q) (am_XC D dA ro ad h sz X) 1 6 (va_A (am_ws dA ad h) sz))
    (K : ∀ v h', Q v h' → am_Wp p l e R s m args below meth c D dA A ro ad0 n0 nL lim Qm (pc + 3, L, v.toList ++ rest, u.1 + 1, u.2 + 6) h')
    (KX : ∀ (ls : Array Slot) (ad1 : Nat → Nat), lv_has ls nL (am_pr L ad1) → ∀ (h' : am_H) (ad' : Nat → Nat) (H' : Heap) (locs' : List Loc) (q : Nat) (ce : Cell), X h' → (∀ i, i < n0 → ad' i = ad0 i) → n0 ≤ h'.1 → va_P D vwCl (am_ws dA ad' h') H' → va_D A (am_ws dA ad' h') → va_S A s.heap H' locs' → am_okh ro h' → H'[q]? = some ce → ce.vm = .none → s.vm.findClass nsE = some ce.cls → vx_W p l e R s m args below meth c H' locs' (u.1 + 1) (u.2 + 6) Qm (F0 m pc ls (rest.map (am_cv ad1))) q) :
    am_Wp p l e R s m args below meth c D dA A ro ad0 n0 nL lim Qm (pc, L, As.reverse ++ .ref x :: rest, u) h := by
  intro ad H locs ls had hn hP hD hS hokh hl hLo hst hu1 hu2
  obtain ⟨y, bytes, ml, rt', kd, np⟩ := r
  obtain rfl : kd = 1 := hkd
  obtain rfl : np = As.length := hnp
  have hargs : ∀ v ∈ Value.ref x :: As, am_okv h.1 v := fun v hv => hst v (by
    rcases List.mem_cons.mp hv with z | z
    · exact List.mem_append.mpr (Or.inr (by rw [z]; exact List.mem_cons_self))
    · exact List.mem_append.mpr (Or.inl (List.mem_reverse.mpr z)))
  have hrest : ∀ v ∈ rest, am_okv h.1 v := fun v hv => hst v (List.mem_append.mpr (Or.inr (List.mem_cons_of_mem _ hv)))
  have hcat' : 2 * (F0 m pc ls ((As.reverse ++ .ref x :: rest).map (am_cv ad))).monitorRoom + ((rest.map (am_cv ad)).map fun v => v.category).sum ≤ 8 := by rw [am_mon, am_cats_cv]; omega
  have hpre : ∀ as, ∀ U : State, U.heap = H → s.WarmedH U.vm → am_Pc D dA ro ad h H.size as (as.map (am_cv ad)).toArray U := fun as => am_pre (as := as) hK hA hro hn0 had hP hD hS
  obtain ⟨ow', w0, w1, w2, w3, hM0⟩ := hall a _ hrow
  obtain ⟨-, k2, k3, -, k5, k6, -, k8, -, k10, -⟩ := am_okM_use hM0
  have hMet := hM D dA ro ad H.size hokh hr hargs
  have hqn : x < h.1 := hargs (.ref x) List.mem_cons_self x rfl
  have h40 := am_hi_obj hokh hr hobj (show 7 < 9 by omega)
  have hw := am_ws_at (dA := dA) (ad := ad) h40 hqn
  rw [hobj] at hw
  dsimp only at k2 k3 k5 k6 k8 k10 hlink hcl hMet
  have cb := callB_of (R := R) (s := s) (args := args) (own := own) (index := idx) _ hts (am_goodIn (r := (y, bytes, ml, rt', 1, As.length)) k2) rfl (rm := am_rm (d + 1) a) (mc := 1) (ms := 6) (by show (am_lim a).1 = 1; rw [hlim]) (by show (am_lim a).2 = 6; rw [hlim]) (hts _ k3) (hts _ hlink) k8 ⟨hRf, by simp only [am_rm] at *; omega⟩
  refine th_ran hA had hn hD hS hl hLo hrest hu.1 hu.2 (?_ : vx_Run p l e R s m args below meth c H locs u.1 u.2 1 6 (F0 m pc ls ((As.reverse ++ .ref x :: rest).map (am_cv ad))) (rest.map (am_cv ad)) (am_Qc D dA ro ad h H.size Q (Value.ref (ad x) :: As.map (am_cv ad)).toArray) (am_XC D dA ro ad h H.size X) (va_A (am_ws dA ad h) H.size)) K (KX ls ad hl)
  refine vx_runV (b := ad x) (As := As.map (am_cv ad)) (C := y.cls) ⟨hx, hb, hml, hown, hts⟩ hMet ⟨cb, hts _ (k5 (show ¬ (1 : Nat) = 0 by decide)), hts _ (k6 rfl)⟩ ⟨am_blind, va_recv hK hP hcl hw, fun U hU hW => hpre (.ref x :: As) U hU hW⟩ rfl (by rw [List.length_map]) hl.1 ?_ hcat' hdec ⟨Nat.le_trans hu.1 hR.1, Nat.le_trans hu.2 hR.2⟩
  show (As.reverse ++ .ref x :: rest).map (am_cv ad) = _
  simp [am_cv]
/-- an int goes back to the law -/
theorem hp_ret {v : Int32} {h0 : am_H} {Q : Option Value → am_H → Prop} (hx : p.tables.exec = Jvm.exec) (hb : c.code = cc) (hrt : meth.sig.returnType = some .int) (hlocks : meth.locks = false) (hQ : Q (some (.int v)) h) (dr : decode cc pc = .ok (.ireturn, 1)) :
    am_Wp p l e R s m args below meth c D dA (va_A (am_ws dA ad0 h0) s.heap.size) ro ad0 h0.1 nL lim (MQ below (am_Qc D dA ro ad0 h0 s.heap.size Q) args s lim.1 lim.2 (va_A (am_ws dA ad0 h0) s.heap.size)) (pc, L, [.int v], u) h := by
  intro ad H locs ls had hn hP hD hS hokh hl hLo hst hu1 hu2
  refine W.widen hu1 hu2 ?_
  exact W.iret hx hb hrt (fun t ht _ => ⟨⟨some (.int v), h, ad, rfl, hQ, by rw [ht]; exact hP, hD, hokh, hn, had, fun w e => by cases e; exact am_okv_int⟩, hS.F ht⟩) hS.2.2 dr hlocks
/-- caught: the helper answers 1 -/
theorem hp_caught {hpc i : Nat} {h0 h' : am_H} {ad' : Nat → Nat} {H' : Heap} {locs' : List Loc} {q : Nat} {ls : Array Slot} {lv : List (Nat × Value)} {Q : Option Value → am_H → Prop} (hx : p.tables.exec = Jvm.exec) (hb : c.code = cc) (hrt : meth.sig.returnType = some .int) (hlocks : meth.locks = false) (hl : lv_has ls nL lv) (hi : i < nL)
    (ds : (decode cc hpc = .ok (.astore i, 2) ∧ decode cc (hpc + 2) = .ok (.iconst 1, 1) ∧ decode cc (hpc + 2 + 1) = .ok (.ireturn, 1)) ∨ (i = 3 ∧ decode cc hpc = .ok (.astore_n 3, 1) ∧ decode cc (hpc + 1) = .ok (.iconst 1, 1) ∧ decode cc (hpc + 1 + 1) = .ok (.ireturn, 1)))
    (hQ : Q (some (.int 1)) h') (had : ∀ i, i < h0.1 → ad' i = ad0 i) (hn : h0.1 ≤ h'.1) (hP : va_P D vwCl (am_ws dA ad' h') H') (hD : va_D (va_A (am_ws dA ad0 h0) s.heap.size) (am_ws dA ad' h')) (hS : va_S (va_A (am_ws dA ad0 h0) s.heap.size) s.heap H' locs') (hokh : am_okh ro h') :
    W p l e R s m args below meth c H' locs' lim.1 lim.2 (MQ below (am_Qc D dA ro ad0 h0 s.heap.size Q) args s lim.1 lim.2 (va_A (am_ws dA ad0 h0) s.heap.size)) (F0 m hpc ls [.ref q]) := by
  have fin : ∀ t : State, t.heap = H' → s.WarmedH t.vm → am_Qc D dA ro ad0 h0 s.heap.size Q args s (.returned (some (.int 1))) t := fun t ht _ => ⟨⟨some (.int 1), h', ad', rfl, hQ, by rw [ht]; exact hP, hD, hokh, hn, had, fun w e => by cases e; exact am_okv_int⟩, hS.F ht⟩
  rcases ds with ⟨d1, d2, d3⟩ | ⟨rfl, d1, d2, d3⟩
  · exact lv_astore hx hb d1 hl hi rfl (fun ls' _ => lv_iconst (n := 1) (v := 1) hx hb d2 (by decide) (W.iret hx hb hrt fin hS.2.2 d3 hlocks))
  · exact lv_astore_n (k := 3) hx hb d1 rfl hl hi rfl (fun ls' _ => lv_iconst (n := 1) (v := 1) hx hb d2 (by decide) (W.iret hx hb hrt fin hS.2.2 d3 hlocks))
/-- the answer is stored, the helper answers 0 -/
theorem hp_tail {tg o9 : Nat} {off : Int} {v : Int64} {h0 : am_H} {Q : Option Value → am_H → Prop} (hx : p.tables.exec = Jvm.exec) (hb : c.code = cc) (hrt : meth.sig.returnType = some .int) (hlocks : meth.locks = false) (hK : va_K D vwCl (am_tys dA) s) (hr : am_roS ro) (d1 : decode cc pc = .ok (.lastore, 1)) (d2 : decode cc (pc + 1) = .ok (.goto off, 3)) (ht : ((pc + 1 : Nat) : Int) + off = (tg : Int)) (d3 : decode cc tg = .ok (.iconst 0, 1)) (d4 : decode cc (tg + 1) = .ok (.ireturn, 1))
    (H : am_arl h o9 (fun n f => vp_in 0 n ∧ Q (some (.int 0)) (am_set h o9 (.inl (.long, n, .inr (.inl (vp_updL f (0 : Int32).toNatClampNeg v))))))) :
    am_Wp p l e R s m args below meth c D dA (va_A (am_ws dA ad0 h0) s.heap.size) ro ad0 h0.1 nL lim (MQ below (am_Qc D dA ro ad0 h0 s.heap.size Q) args s lim.1 lim.2 (va_A (am_ws dA ad0 h0) s.heap.size)) (pc, L, [.long v, .int 0, .ref o9], u) h := by
  refine ams_lastore hx hb hK hr d1 ?_
  show am_arl h o9 (fun n f => vp_in 0 n ∧ am_Wp p l e R s m args below meth c D dA (va_A (am_ws dA ad0 h0) s.heap.size) ro ad0 h0.1 nL lim (MQ below (am_Qc D dA ro ad0 h0 s.heap.size Q) args s lim.1 lim.2 (va_A (am_ws dA ad0 h0) s.heap.size)) (pc + 1, L, [], u) (am_set h o9 (.inl (.long, n, .inr (.inl (vp_updL f (0 : Int32).toNatClampNeg v))))))
  exact am_arl_mono (fun n f z => ⟨z.1, ams_goto hx hb d2 ht (ams_iconst (n := 0) (v := 0) hx hb d3 (by decide) (hp_ret hx hb hrt hlocks z.2 d4))⟩) H
end
theorem th_119 : th_all (am_cdOf 119) cX10_bracelet = true := by decide +kernel
theorem hw_600 : (Cond.codeWith yL_bracelet cL_bracelet 5 (some .int) [(0, 10, 13, 13)] :: Cond.classLink RL 13 nsE :: Cond.methodLink RL 7 yX10_bracelet :: []).all am_inT = true := by decide +kernel
set_option maxHeartbeats 4000000 in
theorem hp_600 {l : Launch} (hl0 : l.stackTraces = false) (hall : am_OkAll) (hstr : am_StrOk l) {d : Nat} {xx : Nat} {bb : Int32} {ww : Int32} {oo : Nat} {h : am_H} {Q : Option Value → am_H → Prop} (hd : 5 ≤ d)
    (H : am_hl d 600 [.ref xx, .int bb, .int ww, .ref oo] h Q) : am_MetH l yL_bracelet cL_bracelet 5 (some .int) [(0, 10, 13, 13)] { frames := d + 2, cells := 1, slots := 6, locals := 40 * (d + 2) } [.ref xx, .int bb, .int ww, .ref oo] h Q := by
  intro D dA ro ad sz hokh hros hargs
  obtain ⟨fs, hxo, Hwp⟩ := am_obj_use (show am_obj h xx 7 (fun _ => am_wp (am_call d) (0, 0) cm_X10_bracelet (am_hq oo Q) (fun h' => Q (some (.int 1)) h') (0, am_loc [.ref xx, .int bb, .int ww] 5, [], 0, 0) h) from H)
  have hin : ∀ w ∈ (Cond.codeWith yL_bracelet cL_bracelet 5 (some .int) [(0, 10, 13, 13)] :: Cond.classLink RL 13 nsE :: Cond.methodLink RL 7 yX10_bracelet :: []), w ∈ am_gt := fun w hw => am_inT_use (List.all_eq_true.mp hw_600 w hw)
  refine am_ofWH (cc := cL_bracelet) (maxL := 5) (ret := some .int) (hh := [(0, 10, 13, 13)]) (by decide +kernel) rfl ?_
  intro p e s m args below meth c s₁ B hml hv
  obtain ⟨rfl, hsz, hP, hK, hD0, hRO⟩ := hv
  have hx := B.exec
  have hb := B.bytes
  have hrt := B.returns
  have hts0 := atoms_spec (ws := am_wH yL_bracelet cL_bracelet 5 (some .int) [(0, 10, 13, 13)]) B.pre
  have hts : ∀ w ∈ am_gt, w.before (([.ref xx, .int bb, .int ww, .ref oo] : List Value).map (am_cv ad)).toArray s = true := fun w hw => hts0 w (List.mem_cons_of_mem _ hw)
  have hown : s.vm.findClass RL = some m.cls := findClass_of_methodNamed B.named
  have hlocks := B.notSynchronized
  have htab := vx_table (x := yL_bracelet) B (hts0 _ List.mem_cons_self)
  subst hsz
  have hD := hD0.self (sz := s.heap.size)
  have hl := lv_entry (([.ref xx, .int bb, .int ww, .ref oo] : List Value).map (am_cv ad)) (n := 5) (by rw [am_ent_cv]; exact Nat.le_of_ble_eq_true rfl)
  rw [lg_entry_eq]
  generalize (lg_sl (([.ref xx, .int bb, .int ww, .ref oo] : List Value).map (am_cv ad)) ++ List.replicate (5 - (lg_sl (([.ref xx, .int bb, .int ww, .ref oo] : List Value).map (am_cv ad))).length) Slot.unset).toArray = ls at hl ⊢
  have hA : ∀ q : Nat, s.heap.size ≤ q → va_A (am_ws dA ad h) s.heap.size q := fun q hq => Or.inr hq
  have hl' : lv_has ls 5 (am_pr (am_loc [.ref xx, .int bb, .int ww, .ref oo] 5) ad) := am_lv_mono hl (fun q hq => by
    obtain ⟨j, x⟩ := q
    obtain ⟨v, hv, rfl⟩ := am_pr_mem.mp hq
    have z := am_ent_at (ad := ad) [.ref xx, .int bb, .int ww, .ref oo] 0 j v (am_loc_at hv)
    rw [Nat.zero_add] at z
    exact z)
  have hLo : am_okL h.1 (am_loc [.ref xx, .int bb, .int ww, .ref oo] 5) := fun j v hv => hargs v (am_ent_mem [.ref xx, .int bb, .int ww, .ref oo] j v (am_loc_at hv))
  have main : am_Wp p l e (headSpec (am_wH yL_bracelet cL_bracelet 5 (some .int) [(0, 10, 13, 13)]) { frames := d + 2, cells := 1, slots := 6, locals := 40 * (d + 2) }).room s m (([.ref xx, .int bb, .int ww, .ref oo] : List Value).map (am_cv ad)).toArray below meth c D dA (va_A (am_ws dA ad h) s.heap.size) ro ad h.1 5 (1, 6) (MQ below (am_Qc D dA ro ad h s.heap.size Q) (([.ref xx, .int bb, .int ww, .ref oo] : List Value).map (am_cv ad)).toArray s 1 6 (va_A (am_ws dA ad h) s.heap.size)) (5, am_loc [.ref xx, .int bb, .int ww, .ref oo] 5, [.int ww, .int bb, .ref xx, .int 0, .ref oo], 0, 0) h := by
    refine hp_call (d := d) (a := 119) (idx := 7) (own := RL) (r := (yX10_bracelet, cX10_bracelet, 5, some .int, 1, 2)) (x := xx) (fs := fs) (As := [.int bb, .int ww]) (rest := [.int 0, .ref oo]) hx hb hml hown hts hK hros hA hRO hokh.1 ⟨Nat.le_refl _, Nat.le_refl _⟩ (Nat.le_refl _) (Nat.le_refl _) ⟨Nat.le_refl _, Nat.le_refl _⟩ hall rfl rfl rfl rfl rfl (hin _ (by simp)) (by decide +kernel) hxo (show 2 ≤ 8 by omega)
      (fun D dA ro ad sz h1 h2 h3 => am_thr hl0 hall hstr (k := 119) (r := (yX10_bracelet, cX10_bracelet, 5, some .int, 1, 2)) rfl hd rfl rfl (by decide +kernel) th_119 (as := [.ref xx, .int bb, .int ww]) (Nat.le_of_ble_eq_true rfl) Hwp D dA ro ad sz h1 h2 h3) (fun v h' z => ?_) (fun ls1 ad1 hl1 h' ad' H' locs' q ce hX had' hn' hP' hD' hS' hok' hce hcv hcl => ?_)
    match v, z with
    | some (.int i), z => exact ams_i2l hx hb (by decide +kernel) (hp_tail (tg := 17) (off := 7) hx hb hrt hlocks hK hros (by decide +kernel) (by decide +kernel) (by decide) (by decide +kernel) (by decide +kernel) z)
    · exact vx_catch (own := RL) (name := nsE) (E := nsE) (ce := ce) hown [] _ [] (by rw [htab]; rfl) (fun z hz => nomatch hz) (by decide) (by decide) (hts _ (hin _ (by simp))) (va_Nw.use rfl hRO.2.2.2.2.2.2.2.2.2.2.2.2.2.2) hce hcv hcl (hp_caught (i := 4) (lim := (1, 6)) hx hb hrt hlocks hl1 (by decide) (by decide +kernel) hX had' hn' hP' hD' hS' hok')
  have start := ams_aload_n (i := 3) hx hb (by decide +kernel) (hp_lda rfl (ams_iconst (n := 0) (v := 0) hx hb (by decide +kernel) (by decide) (ams_aload_n (i := 0) hx hb (by decide +kernel) (hp_lda rfl (ams_iload_n (i := 1) hx hb (by decide +kernel) (hp_ldi rfl (ams_iload_n (i := 2) hx hb (by decide +kernel) (hp_ldi rfl main))))))))
  exact start ad s.heap [] ls (fun _ _ => rfl) (Nat.le_refl _) hP hD va_S.rf hokh hl' hLo (fun v hv => by cases hv) (Nat.zero_le _) (Nat.zero_le _)
theorem th_120 : th_all (am_cdOf 120) cX10_bead = true := by decide +kernel
theorem hw_601 : (Cond.codeWith yL_bead cL_bead 5 (some .int) [(0, 10, 13, 13)] :: Cond.classLink RL 13 nsE :: Cond.methodLink RL 15 yX10_bead :: []).all am_inT = true := by decide +kernel
set_option maxHeartbeats 4000000 in
theorem hp_601 {l : Launch} (hl0 : l.stackTraces = false) (hall : am_OkAll) (hstr : am_StrOk l) {d : Nat} {xx : Nat} {bb : Int32} {ww : Int32} {oo : Nat} {h : am_H} {Q : Option Value → am_H → Prop} (hd : 5 ≤ d)
    (H : am_hl d 601 [.ref xx, .int bb, .int ww, .ref oo] h Q) : am_MetH l yL_bead cL_bead 5 (some .int) [(0, 10, 13, 13)] { frames := d + 2, cells := 1, slots := 6, locals := 40 * (d + 2) } [.ref xx, .int bb, .int ww, .ref oo] h Q := by
  intro D dA ro ad sz hokh hros hargs
  obtain ⟨fs, hxo, Hwp⟩ := am_obj_use (show am_obj h xx 7 (fun _ => am_wp (am_call d) (0, 0) cm_X10_bead (am_hq oo Q) (fun h' => Q (some (.int 1)) h') (0, am_loc [.ref xx, .int bb, .int ww] 3, [], 0, 0) h) from H)
  have hin : ∀ w ∈ (Cond.codeWith yL_bead cL_bead 5 (some .int) [(0, 10, 13, 13)] :: Cond.classLink RL 13 nsE :: Cond.methodLink RL 15 yX10_bead :: []), w ∈ am_gt := fun w hw => am_inT_use (List.all_eq_true.mp hw_601 w hw)
  refine am_ofWH (cc := cL_bead) (maxL := 5) (ret := some .int) (hh := [(0, 10, 13, 13)]) (by decide +kernel) rfl ?_
  intro p e s m args below meth c s₁ B hml hv
  obtain ⟨rfl, hsz, hP, hK, hD0, hRO⟩ := hv
  have hx := B.exec
  have hb := B.bytes
  have hrt := B.returns
  have hts0 := atoms_spec (ws := am_wH yL_bead cL_bead 5 (some .int) [(0, 10, 13, 13)]) B.pre
  have hts : ∀ w ∈ am_gt, w.before (([.ref xx, .int bb, .int ww, .ref oo] : List Value).map (am_cv ad)).toArray s = true := fun w hw => hts0 w (List.mem_cons_of_mem _ hw)
  have hown : s.vm.findClass RL = some m.cls := findClass_of_methodNamed B.named
  have hlocks := B.notSynchronized
  have htab := vx_table (x := yL_bead) B (hts0 _ List.mem_cons_self)
  subst hsz
  have hD := hD0.self (sz := s.heap.size)
  have hl := lv_entry (([.ref xx, .int bb, .int ww, .ref oo] : List Value).map (am_cv ad)) (n := 5) (by rw [am_ent_cv]; exact Nat.le_of_ble_eq_true rfl)
  rw [lg_entry_eq]
  generalize (lg_sl (([.ref xx, .int bb, .int ww, .ref oo] : List Value).map (am_cv ad)) ++ List.replicate (5 - (lg_sl (([.ref xx, .int bb, .int ww, .ref oo] : List Value).map (am_cv ad))).length) Slot.unset).toArray = ls at hl ⊢
  have hA : ∀ q : Nat, s.heap.size ≤ q → va_A (am_ws dA ad h) s.heap.size q := fun q hq => Or.inr hq
  have hl' : lv_has ls 5 (am_pr (am_loc [.ref xx, .int bb, .int ww, .ref oo] 5) ad) := am_lv_mono hl (fun q hq => by
    obtain ⟨j, x⟩ := q
    obtain ⟨v, hv, rfl⟩ := am_pr_mem.mp hq
    have z := am_ent_at (ad := ad) [.ref xx, .int bb, .int ww, .ref oo] 0 j v (am_loc_at hv)
    rw [Nat.zero_add] at z
    exact z)
  have hLo : am_okL h.1 (am_loc [.ref xx, .int bb, .int ww, .ref oo] 5) := fun j v hv => hargs v (am_ent_mem [.ref xx, .int bb, .int ww, .ref oo] j v (am_loc_at hv))
  have main : am_Wp p l e (headSpec (am_wH yL_bead cL_bead 5 (some .int) [(0, 10, 13, 13)]) { frames := d + 2, cells := 1, slots := 6, locals := 40 * (d + 2) }).room s m (([.ref xx, .int bb, .int ww, .ref oo] : List Value).map (am_cv ad)).toArray below meth c D dA (va_A (am_ws dA ad h) s.heap.size) ro ad h.1 5 (1, 6) (MQ below (am_Qc D dA ro ad h s.heap.size Q) (([.ref xx, .int bb, .int ww, .ref oo] : List Value).map (am_cv ad)).toArray s 1 6 (va_A (am_ws dA ad h) s.heap.size)) (5, am_loc [.ref xx, .int bb, .int ww, .ref oo] 5, [.int ww, .int bb, .ref xx, .int 0, .ref oo], 0, 0) h := by
    refine hp_call (d := d) (a := 120) (idx := 15) (own := RL) (r := (yX10_bead, cX10_bead, 3, some .int, 1, 2)) (x := xx) (fs := fs) (As := [.int bb, .int ww]) (rest := [.int 0, .ref oo]) hx hb hml hown hts hK hros hA hRO hokh.1 ⟨Nat.le_refl _, Nat.le_refl _⟩ (Nat.le_refl _) (Nat.le_refl _) ⟨Nat.le_refl _, Nat.le_refl _⟩ hall rfl rfl rfl rfl rfl (hin _ (by simp)) (by decide +kernel) hxo (show 2 ≤ 8 by omega)
      (fun D dA ro ad sz h1 h2 h3 => am_thr hl0 hall hstr (k := 120) (r := (yX10_bead, cX10_bead, 3, some .int, 1, 2)) rfl hd rfl rfl (by decide +kernel) th_120 (as := [.ref xx, .int bb, .int ww]) (Nat.le_of_ble_eq_true rfl) Hwp D dA ro ad sz h1 h2 h3) (fun v h' z => ?_) (fun ls1 ad1 hl1 h' ad' H' locs' q ce hX had' hn' hP' hD' hS' hok' hce hcv hcl => ?_)
    match v, z with
    | some (.int i), z => exact ams_i2l hx hb (by decide +kernel) (hp_tail (tg := 17) (off := 7) hx hb hrt hlocks hK hros (by decide +kernel) (by decide +kernel) (by decide) (by decide +kernel) (by decide +kernel) z)
    · exact vx_catch (own := RL) (name := nsE) (E := nsE) (ce := ce) hown [] _ [] (by rw [htab]; rfl) (fun z hz => nomatch hz) (by decide) (by decide) (hts _ (hin _ (by simp))) (va_Nw.use rfl hRO.2.2.2.2.2.2.2.2.2.2.2.2.2.2) hce hcv hcl (hp_caught (i := 4) (lim := (1, 6)) hx hb hrt hlocks hl1 (by decide) (by decide +kernel) hX had' hn' hP' hD' hS' hok')
  have start := ams_aload_n (i := 3) hx hb (by decide +kernel) (hp_lda rfl (ams_iconst (n := 0) (v := 0) hx hb (by decide +kernel) (by decide) (ams_aload_n (i := 0) hx hb (by decide +kernel) (hp_lda rfl (ams_iload_n (i := 1) hx hb (by decide +kernel) (hp_ldi rfl (ams_iload_n (i := 2) hx hb (by decide +kernel) (hp_ldi rfl main))))))))
  exact start ad s.heap [] ls (fun _ _ => rfl) (Nat.le_refl _) hP hD va_S.rf hokh hl' hLo (fun v hv => by cases hv) (Nat.zero_le _) (Nat.zero_le _)
theorem th_121 : th_all (am_cdOf 121) cX10_stock = true := by decide +kernel
theorem hw_602 : (Cond.codeWith yL_stock cL_stock 4 (some .int) [(0, 9, 12, 13)] :: Cond.classLink RL 13 nsE :: Cond.methodLink RL 18 yX10_stock :: []).all am_inT = true := by decide +kernel
set_option maxHeartbeats 4000000 in
theorem hp_602 {l : Launch} (hl0 : l.stackTraces = false) (hall : am_OkAll) (hstr : am_StrOk l) {d : Nat} {xx : Nat} {bb : Int32} {oo : Nat} {h : am_H} {Q : Option Value → am_H → Prop} (hd : 5 ≤ d)
    (H : am_hl d 602 [.ref xx, .int bb, .ref oo] h Q) : am_MetH l yL_stock cL_stock 4 (some .int) [(0, 9, 12, 13)] { frames := d + 2, cells := 1, slots := 6, locals := 40 * (d + 2) } [.ref xx, .int bb, .ref oo] h Q := by
  intro D dA ro ad sz hokh hros hargs
  obtain ⟨fs, hxo, Hwp⟩ := am_obj_use (show am_obj h xx 7 (fun _ => am_wp (am_call d) (0, 0) cm_X10_stock (am_hq oo Q) (fun h' => Q (some (.int 1)) h') (0, am_loc [.ref xx, .int bb] 2, [], 0, 0) h) from H)
  have hin : ∀ w ∈ (Cond.codeWith yL_stock cL_stock 4 (some .int) [(0, 9, 12, 13)] :: Cond.classLink RL 13 nsE :: Cond.methodLink RL 18 yX10_stock :: []), w ∈ am_gt := fun w hw => am_inT_use (List.all_eq_true.mp hw_602 w hw)
  refine am_ofWH (cc := cL_stock) (maxL := 4) (ret := some .int) (hh := [(0, 9, 12, 13)]) (by decide +kernel) rfl ?_
  intro p e s m args below meth c s₁ B hml hv
  obtain ⟨rfl, hsz, hP, hK, hD0, hRO⟩ := hv
  have hx := B.exec
  have hb := B.bytes
  have hrt := B.returns
  have hts0 := atoms_spec (ws := am_wH yL_stock cL_stock 4 (some .int) [(0, 9, 12, 13)]) B.pre
  have hts : ∀ w ∈ am_gt, w.before (([.ref xx, .int bb, .ref oo] : List Value).map (am_cv ad)).toArray s = true := fun w hw => hts0 w (List.mem_cons_of_mem _ hw)
  have hown : s.vm.findClass RL = some m.cls := findClass_of_methodNamed B.named
  have hlocks := B.notSynchronized
  have htab := vx_table (x := yL_stock) B (hts0 _ List.mem_cons_self)
  subst hsz
  have hD := hD0.self (sz := s.heap.size)
  have hl := lv_entry (([.ref xx, .int bb, .ref oo] : List Value).map (am_cv ad)) (n := 4) (by rw [am_ent_cv]; exact Nat.le_of_ble_eq_true rfl)
  rw [lg_entry_eq]
  generalize (lg_sl (([.ref xx, .int bb, .ref oo] : List Value).map (am_cv ad)) ++ List.replicate (4 - (lg_sl (([.ref xx, .int bb, .ref oo] : List Value).map (am_cv ad))).length) Slot.unset).toArray = ls at hl ⊢
  have hA : ∀ q : Nat, s.heap.size ≤ q → va_A (am_ws dA ad h) s.heap.size q := fun q hq => Or.inr hq
  have hl' : lv_has ls 4 (am_pr (am_loc [.ref xx, .int bb, .ref oo] 4) ad) := am_lv_mono hl (fun q hq => by
    obtain ⟨j, x⟩ := q
    obtain ⟨v, hv, rfl⟩ := am_pr_mem.mp hq
    have z := am_ent_at (ad := ad) [.ref xx, .int bb, .ref oo] 0 j v (am_loc_at hv)
    rw [Nat.zero_add] at z
    exact z)
  have hLo : am_okL h.1 (am_loc [.ref xx, .int bb, .ref oo] 4) := fun j v hv => hargs v (am_ent_mem [.ref xx, .int bb, .ref oo] j v (am_loc_at hv))
  have main : am_Wp p l e (headSpec (am_wH yL_stock cL_stock 4 (some .int) [(0, 9, 12, 13)]) { frames := d + 2, cells := 1, slots := 6, locals := 40 * (d + 2) }).room s m (([.ref xx, .int bb, .ref oo] : List Value).map (am_cv ad)).toArray below meth c D dA (va_A (am_ws dA ad h) s.heap.size) ro ad h.1 4 (1, 6) (MQ below (am_Qc D dA ro ad h s.heap.size Q) (([.ref xx, .int bb, .ref oo] : List Value).map (am_cv ad)).toArray s 1 6 (va_A (am_ws dA ad h) s.heap.size)) (4, am_loc [.ref xx, .int bb, .ref oo] 4, [.int bb, .ref xx, .int 0, .ref oo], 0, 0) h := by
    refine hp_call (d := d) (a := 121) (idx := 18) (own := RL) (r := (yX10_stock, cX10_stock, 2, some .int, 1, 1)) (x := xx) (fs := fs) (As := [.int bb]) (rest := [.int 0, .ref oo]) hx hb hml hown hts hK hros hA hRO hokh.1 ⟨Nat.le_refl _, Nat.le_refl _⟩ (Nat.le_refl _) (Nat.le_refl _) ⟨Nat.le_refl _, Nat.le_refl _⟩ hall rfl rfl rfl rfl rfl (hin _ (by simp)) (by decide +kernel) hxo (show 2 ≤ 8 by omega)
      (fun D dA ro ad sz h1 h2 h3 => am_thr hl0 hall hstr (k := 121) (r := (yX10_stock, cX10_stock, 2, some .int, 1, 1)) rfl hd rfl rfl (by decide +kernel) th_121 (as := [.ref xx, .int bb]) (Nat.le_of_ble_eq_true rfl) Hwp D dA ro ad sz h1 h2 h3) (fun v h' z => ?_) (fun ls1 ad1 hl1 h' ad' H' locs' q ce hX had' hn' hP' hD' hS' hok' hce hcv hcl => ?_)
    match v, z with
    | some (.int i), z => exact ams_i2l hx hb (by decide +kernel) (hp_tail (tg := 15) (off := 6) hx hb hrt hlocks hK hros (by decide +kernel) (by decide +kernel) (by decide) (by decide +kernel) (by decide +kernel) z)
    · exact vx_catch (own := RL) (name := nsE) (E := nsE) (ce := ce) hown [] _ [] (by rw [htab]; rfl) (fun z hz => nomatch hz) (by decide) (by decide) (hts _ (hin _ (by simp))) (va_Nw.use rfl hRO.2.2.2.2.2.2.2.2.2.2.2.2.2.2) hce hcv hcl (hp_caught (i := 3) (lim := (1, 6)) hx hb hrt hlocks hl1 (by decide) (by decide +kernel) hX had' hn' hP' hD' hS' hok')
  have start := ams_aload_n (i := 2) hx hb (by decide +kernel) (hp_lda rfl (ams_iconst (n := 0) (v := 0) hx hb (by decide +kernel) (by decide) (ams_aload_n (i := 0) hx hb (by decide +kernel) (hp_lda rfl (ams_iload_n (i := 1) hx hb (by decide +kernel) (hp_ldi rfl main))))))
  exact start ad s.heap [] ls (fun _ _ => rfl) (Nat.le_refl _) hP hD va_S.rf hokh hl' hLo (fun v hv => by cases hv) (Nat.zero_le _) (Nat.zero_le _)
theorem th_166 : th_all (am_cdOf 166) cX10_row = true := by decide +kernel
theorem hw_603 : (Cond.codeWith yL_row cL_row 4 (some .int) [(0, 8, 11, 13)] :: Cond.classLink RL 13 nsE :: Cond.methodLink RL 22 yX10_row :: []).all am_inT = true := by decide +kernel
set_option maxHeartbeats 4000000 in
theorem hp_603 {l : Launch} (hl0 : l.stackTraces = false) (hall : am_OkAll) (hstr : am_StrOk l) {d : Nat} {xx : Nat} {bb : Int32} {oo : Nat} {h : am_H} {Q : Option Value → am_H → Prop} (hd : 5 ≤ d)
    (H : am_hl d 603 [.ref xx, .int bb, .ref oo] h Q) : am_MetH l yL_row cL_row 4 (some .int) [(0, 8, 11, 13)] { frames := d + 2, cells := 1, slots := 6, locals := 40 * (d + 2) } [.ref xx, .int bb, .ref oo] h Q := by
  intro D dA ro ad sz hokh hros hargs
  obtain ⟨fs, hxo, Hwp⟩ := am_obj_use (show am_obj h xx 7 (fun _ => am_wp (am_call d) (0, 0) cm_X10_row (am_hqL oo Q) (fun h' => Q (some (.int 1)) h') (0, am_loc [.ref xx, .int bb] 2, [], 0, 0) h) from H)
  have hin : ∀ w ∈ (Cond.codeWith yL_row cL_row 4 (some .int) [(0, 8, 11, 13)] :: Cond.classLink RL 13 nsE :: Cond.methodLink RL 22 yX10_row :: []), w ∈ am_gt := fun w hw => am_inT_use (List.all_eq_true.mp hw_603 w hw)
  refine am_ofWH (cc := cL_row) (maxL := 4) (ret := some .int) (hh := [(0, 8, 11, 13)]) (by decide +kernel) rfl ?_
  intro p e s m args below meth c s₁ B hml hv
  obtain ⟨rfl, hsz, hP, hK, hD0, hRO⟩ := hv
  have hx := B.exec
  have hb := B.bytes
  have hrt := B.returns
  have hts0 := atoms_spec (ws := am_wH yL_row cL_row 4 (some .int) [(0, 8, 11, 13)]) B.pre
  have hts : ∀ w ∈ am_gt, w.before (([.ref xx, .int bb, .ref oo] : List Value).map (am_cv ad)).toArray s = true := fun w hw => hts0 w (List.mem_cons_of_mem _ hw)
  have hown : s.vm.findClass RL = some m.cls := findClass_of_methodNamed B.named
  have hlocks := B.notSynchronized
  have htab := vx_table (x := yL_row) B (hts0 _ List.mem_cons_self)
  subst hsz
  have hD := hD0.self (sz := s.heap.size)
  have hl := lv_entry (([.ref xx, .int bb, .ref oo] : List Value).map (am_cv ad)) (n := 4) (by rw [am_ent_cv]; exact Nat.le_of_ble_eq_true rfl)
  rw [lg_entry_eq]
  generalize (lg_sl (([.ref xx, .int bb, .ref oo] : List Value).map (am_cv ad)) ++ List.replicate (4 - (lg_sl (([.ref xx, .int bb, .ref oo] : List Value).map (am_cv ad))).length) Slot.unset).toArray = ls at hl ⊢
  have hA : ∀ q : Nat, s.heap.size ≤ q → va_A (am_ws dA ad h) s.heap.size q := fun q hq => Or.inr hq
  have hl' : lv_has ls 4 (am_pr (am_loc [.ref xx, .int bb, .ref oo] 4) ad) := am_lv_mono hl (fun q hq => by
    obtain ⟨j, x⟩ := q
    obtain ⟨v, hv, rfl⟩ := am_pr_mem.mp hq
    have z := am_ent_at (ad := ad) [.ref xx, .int bb, .ref oo] 0 j v (am_loc_at hv)
    rw [Nat.zero_add] at z
    exact z)
  have hLo : am_okL h.1 (am_loc [.ref xx, .int bb, .ref oo] 4) := fun j v hv => hargs v (am_ent_mem [.ref xx, .int bb, .ref oo] j v (am_loc_at hv))
  have main : am_Wp p l e (headSpec (am_wH yL_row cL_row 4 (some .int) [(0, 8, 11, 13)]) { frames := d + 2, cells := 1, slots := 6, locals := 40 * (d + 2) }).room s m (([.ref xx, .int bb, .ref oo] : List Value).map (am_cv ad)).toArray below meth c D dA (va_A (am_ws dA ad h) s.heap.size) ro ad h.1 4 (1, 6) (MQ below (am_Qc D dA ro ad h s.heap.size Q) (([.ref xx, .int bb, .ref oo] : List Value).map (am_cv ad)).toArray s 1 6 (va_A (am_ws dA ad h) s.heap.size)) (4, am_loc [.ref xx, .int bb, .ref oo] 4, [.int bb, .ref xx, .int 0, .ref oo], 0, 0) h := by
    refine hp_call (d := d) (a := 166) (idx := 22) (own := RL) (r := (yX10_row, cX10_row, 2, some .long, 1, 1)) (x := xx) (fs := fs) (As := [.int bb]) (rest := [.int 0, .ref oo]) hx hb hml hown hts hK hros hA hRO hokh.1 ⟨Nat.le_refl _, Nat.le_refl _⟩ (Nat.le_refl _) (Nat.le_refl _) ⟨Nat.le_refl _, Nat.le_refl _⟩ hall rfl rfl rfl rfl rfl (hin _ (by simp)) (by decide +kernel) hxo (show 2 ≤ 8 by omega)
      (fun D dA ro ad sz h1 h2 h3 => am_thr hl0 hall hstr (k := 166) (r := (yX10_row, cX10_row, 2, some .long, 1, 1)) rfl hd rfl rfl (by decide +kernel) th_166 (as := [.ref xx, .int bb]) (Nat.le_of_ble_eq_true rfl) Hwp D dA ro ad sz h1 h2 h3) (fun v h' z => ?_) (fun ls1 ad1 hl1 h' ad' H' locs' q ce hX had' hn' hP' hD' hS' hok' hce hcv hcl => ?_)
    match v, z with
    | some (.long i), z => exact hp_tail (tg := 14) (off := 6) hx hb hrt hlocks hK hros (by decide +kernel) (by decide +kernel) (by decide) (by decide +kernel) (by decide +kernel) z
    · exact vx_catch (own := RL) (name := nsE) (E := nsE) (ce := ce) hown [] _ [] (by rw [htab]; rfl) (fun z hz => nomatch hz) (by decide) (by decide) (hts _ (hin _ (by simp))) (va_Nw.use rfl hRO.2.2.2.2.2.2.2.2.2.2.2.2.2.2) hce hcv hcl (hp_caught (i := 3) (lim := (1, 6)) hx hb hrt hlocks hl1 (by decide) (by decide +kernel) hX had' hn' hP' hD' hS' hok')
  have start := ams_aload_n (i := 2) hx hb (by decide +kernel) (hp_lda rfl (ams_iconst (n := 0) (v := 0) hx hb (by decide +kernel) (by decide) (ams_aload_n (i := 0) hx hb (by decide +kernel) (hp_lda rfl (ams_iload_n (i := 1) hx hb (by decide +kernel) (hp_ldi rfl main))))))
  exact start ad s.heap [] ls (fun _ _ => rfl) (Nat.le_refl _) hP hD va_S.rf hokh hl' hLo (fun v hv => by cases hv) (Nat.zero_le _) (Nat.zero_le _)
