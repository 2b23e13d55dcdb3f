section
variable {p : Program} {l : Launch} {e : Env} {R : Room} {s : State} {m : MethodId} {args : Array Value} {below : List Frame} {meth : Method} {c : Code}
variable {D : va_G} {dA : Nat → ClassId} {A : Nat → Prop} {ro : Nat → am_C} {ad0 : Nat → Nat} {n0 nL : Nat} {lim : Nat × Nat} {Qm : State → Prop}
variable {cc : ByteArray} {pc : Nat} {L : List (Option Value)} {st : List Value} {u : Nat × Nat} {h : am_H}
theorem am_map_same {ad ad' : Nat → Nat} {n : Nat} (hs : ∀ i, i < n → ad' i = ad i) {st : List Value} (hst : ∀ v ∈ st, am_okv n v) : st.map (am_cv ad') = st.map (am_cv ad) := List.map_congr_left (fun v hv => am_cv_same hs (hst v hv))
/-- a new cell at q: what was known goes on under the new addresses -/
theorem am_born {k pc' : Nat} {ad : Nat → Nat} {H1 : Heap} {locs : List Loc} {ls : Array Slot} {q : Nat} {r : List Value} {c1 : am_C} {e1 : va_E} (hk : ∀ ad, am_ce dA ad c1 = e1) (had : ∀ i, i < n0 → ad i = ad0 i) (hn : n0 ≤ h.1) (hok : am_okh ro h) (hl : lv_has ls nL (am_pr L ad)) (hLo : am_okL h.1 L) (hst : ∀ v ∈ r, am_okv h.1 v) (hu1 : u.1 + 1 ≤ lim.1) (hu2 : u.2 + k ≤ lim.2)
    (hc1 : am_okc h.1 h.1 c1) (hP1 : va_P D vwCl (am_ws dA ad h ++ [(q, e1)]) H1) (hD1 : va_D A (am_ws dA ad h ++ [(q, e1)])) (hS1 : va_S A s.heap H1 locs)
    (K : am_Wp p l e R s m args below meth c D dA A ro ad0 n0 nL lim Qm (pc', L, .ref h.1 :: r, u.1 + 1, u.2 + k) (am_add h c1)) : W p l e R s m args below meth c H1 locs (u.1 + 1) (u.2 + k) Qm (F0 m pc' ls (.ref q :: r.map (am_cv ad))) := by
  have hs : ∀ i, i < h.1 → va_up ad h.1 q i = ad i := fun i hi => am_up_n (by omega)
  have ew : am_ws dA (va_up ad h.1 q) (am_add h c1) = am_ws dA ad h ++ [(q, e1)] := by rw [am_ws_add hok, hk]
  have K' := K (va_up ad h.1 q) H1 locs ls (fun i hi => by rw [hs i (by omega)]; exact had i hi) (Nat.le_succ_of_le hn) (by rw [ew]; exact hP1) (by rw [ew]; exact hD1) hS1 (am_okh_add hok hc1) (am_lv_mono hl (am_pr_same hs hLo)) (am_okL_mono (Nat.le_succ _) hLo) (List.forall_mem_cons.mpr ⟨am_okv_ref (Nat.lt_succ_self _), fun v hv => am_okv_mono (Nat.le_succ _) (hst v hv)⟩) hu1 hu2
  rw [List.map_cons, am_cv_ref, am_up_s, am_map_same hs hst] at K'
  exact K'
theorem ams_new (hx : p.tables.exec = Jvm.exec) (hb : c.code = cc) {own C : String} {T : u_T} {N ci idx : Nat} {Ts : List Cond} (hts : ∀ w ∈ Ts, w.before args s = true) (hin : ∀ w ∈ u_ws C T N, w ∈ Ts) (ty : Nat → FieldType) (hty : ∀ k, k < N → parseFieldDescriptor (T k).2.2.1 = some (ty k)) (hown : s.vm.findClass own = some m.cls) (hcl : (Cond.classLink own idx C).before args s = true) (hinst : (Cond.instantiable C N).before args s = true) (hini : (Cond.initialized C).before args s = true)
    (hK : va_K D vwCl (am_tys dA) s) (hA : ∀ q, s.heap.size ≤ q → A q) (hc : vwCl[ci]? = some (C, T, N)) (hlen : (am_newf ci).length = N) (hfs : ∀ j, j < N → defaultValue (ty j) = vp_V (am_newf ci) j) (hnr : ∀ v ∈ am_newf ci, v = .null ∨ v = .int 0) (hR : lim.1 ≤ R.cells ∧ lim.2 ≤ R.slots) (hd : decode cc pc = .ok (.new idx, 3))
    (H0 : u.1 + 1 ≤ lim.1 ∧ u.2 + (am_newf ci).length ≤ lim.2 ∧ am_Wp p l e R s m args below meth c D dA A ro ad0 n0 nL lim Qm (pc + 3, L, .ref h.1 :: st, u.1 + 1, u.2 + (am_newf ci).length) (am_add h (.inr (ci, am_newf ci)))) : am_Wp p l e R s m args below meth c D dA A ro ad0 n0 nL lim Qm (pc, L, st, u) h := by
  obtain ⟨h1, h2, K⟩ := H0
  rw [hlen] at h2 K
  intro ad H locs ls had hn hP hD hS hok hl hLo hst hu1 hu2
  have hid : ∀ ad : Nat → Nat, (am_newf ci).map (am_cv ad) = am_newf ci := fun ad => by
    conv => rhs; rw [← List.map_id (am_newf ci)]
    exact List.map_congr_left (fun v hv => by rcases hnr v hv with rfl | rfl <;> rfl)
  refine va_new hx hb hts hin ty hty hown hcl hinst hini hK hP hD hS hA hc hfs (Nat.le_trans h1 hR.1) (Nat.le_trans h2 hR.2) hd (fun q H1 a1 a2 a3 => ?_)
  exact am_born (e1 := .inr (ci, am_newf ci)) (fun ad => by show Sum.inr (ci, (am_newf ci).map (am_cv ad)) = _; rw [hid]) had hn hok hl hLo hst h1 h2 ⟨fun ty k f e => (by cases e), fun ci' fs' e v hv => (by cases e; rcases hnr v hv with rfl | rfl <;> (intro i z; cases z)), fun _ n x e => (by cases e)⟩ a1 a2 a3 K
theorem ams_newarray (hx : p.tables.exec = Jvm.exec) (hb : c.code = cc) {at_ : ArrayType} {ty : FieldType} {t0 : Nat} (hty : newarray.typeOf at_ = ty) (hp : ty = .int ∨ ty = .char ∨ ty = .boolean ∨ ty = .long) (harr : (Cond.arrayClass ty).before args s = true) (hK : va_K D vwCl (am_tys dA) s) (hA : ∀ q, s.heap.size ≤ q → A q) (hR : lim.1 ≤ R.cells ∧ lim.2 ≤ R.slots) (hd : decode cc pc = .ok (.newarray at_, 2))
    (H0 : am_i1 st (fun n r => ¬ n < 0 ∧ n.toNatClampNeg ≤ 10000 ∧ u.1 + 1 ≤ lim.1 ∧ u.2 + n.toNatClampNeg ≤ lim.2 ∧ am_Wp p l e R s m args below meth c D dA A ro ad0 n0 nL lim Qm (pc + 2, L, .ref h.1 :: r, u.1 + 1, u.2 + n.toNatClampNeg) (am_add h (.inl (newarray.typeOf at_, am_new0 (newarray.typeOf at_) n.toNatClampNeg))))) : am_Wp p l e R s m args below meth c D dA A ro ad0 n0 nL lim Qm (pc, L, st, u) h := by
  obtain ⟨n, r, rfl, h0, hmax, h1, h2, K⟩ := am_i1_use H0
  rw [hty] at K
  intro ad H locs ls had hn hP hD hS hok hl hLo hst hu1 hu2
  have hcell : ∀ cA : ClassId, vp_cell cA (am_new0 ty n.toNatClampNeg) = arrV cA n.toNatClampNeg (fun _ => defaultValue ty) := fun cA => by rcases hp with rfl | rfl | rfl | rfl <;> rfl
  have hby : n.toNatClampNeg * componentBytes ty ≤ 536870912 := by rcases hp with rfl | rfl | rfl | rfl <;> (simp only [componentBytes]; omega)
  refine va_newa hx hb (by rw [hty]; exact harr) hty hK hP hD hS hA (a0 := am_new0 ty n.toNatClampNeg) hcell h0 rfl hby (Nat.le_trans h1 hR.1) (Nat.le_trans h2 hR.2) hd (fun q cA H1 a0 a1 a2 a3 => ?_)
  have hcA : cA = am_ca dA ty := by
    have z := (a0.2 5 (cA, ty) rfl).2
    rcases hp with rfl | rfl | rfl | rfl
    · exact Option.some.inj (z.symm.trans (hK.2 0 _ rfl).2)
    · exact Option.some.inj (z.symm.trans (hK.2 1 _ rfl).2)
    · exact Option.some.inj (z.symm.trans (hK.2 2 _ rfl).2)
    · exact Option.some.inj (z.symm.trans (hK.2 3 _ rfl).2)
  subst hcA
  refine am_born (e1 := .inl (am_ca dA ty, am_new0 ty n.toNatClampNeg)) (c1 := .inl (ty, am_new0 ty n.toNatClampNeg)) (fun ad => by rcases hp with rfl | rfl | rfl | rfl <;> rfl) had hn hok hl hLo (fun v hv => hst v (List.mem_cons_of_mem _ hv)) h1 h2 ⟨fun ty' k f e => ?_, fun ci' fs' e => (by cases e), fun _ n x e => ?_⟩ a1 a2 a3 K
  · rcases hp with rfl | rfl | rfl | rfl <;> cases e
  · rcases hp with rfl | rfl | rfl | rfl <;> cases e
theorem ams_anewarray (hx : p.tables.exec = Jvm.exec) (hb : c.code = cc) {own : String} {idx : Nat} (hown : s.vm.findClass own = some m.cls) (hcl : (Cond.classLink own idx RX7).before args s = true) (hov : (Cond.arrayOver (.object RX7)).before args s = true) (hK : va_K D vwCl (am_tys dA) s) (hA : ∀ q, s.heap.size ≤ q → A q) (hR : lim.1 ≤ R.cells ∧ lim.2 ≤ R.slots) (hd : decode cc pc = .ok (.anewarray idx, 3))
    (H0 : am_i1 st (fun n r => ¬ n < 0 ∧ n.toNatClampNeg ≤ 10000 ∧ u.1 + 1 ≤ lim.1 ∧ u.2 + n.toNatClampNeg ≤ lim.2 ∧ am_Wp p l e R s m args below meth c D dA A ro ad0 n0 nL lim Qm (pc + 3, L, .ref h.1 :: r, u.1 + 1, u.2 + n.toNatClampNeg) (am_add h (.inl (.object RX7, n.toNatClampNeg, .inr (.inr (.inr (.inr (fun _ => none))))))))) : am_Wp p l e R s m args below meth c D dA A ro ad0 n0 nL lim Qm (pc, L, st, u) h := by
  obtain ⟨n, r, rfl, h0, hmax, h1, h2, K⟩ := am_i1_use H0
  intro ad H locs ls had hn hP hD hS hok hl hLo hst hu1 hu2
  refine va_newq hx hb hown hcl (va_AO.of hov) hK hP hD hS hA h0 rfl (by omega) (Nat.le_trans h1 hR.1) (Nat.le_trans h2 hR.2) hd (fun q cA H1 a0 a1 a2 a3 => ?_)
  have hcA : cA = dA 4 := by
    obtain ⟨-, -, -, -, -, z⟩ := (a0.2 5 (cA, .object RX7) rfl).2
    obtain ⟨-, -, -, -, -, z'⟩ := (hK.2 4 _ rfl).2
    exact Option.some.inj (z.symm.trans z')
  subst hcA
  exact am_born (e1 := .inl (dA 4, n.toNatClampNeg, .inr (.inr (.inr (.inr (fun _ => none)))))) (c1 := .inl (.object RX7, n.toNatClampNeg, .inr (.inr (.inr (.inr (fun _ => none)))))) (fun ad => rfl) had hn hok hl hLo (fun v hv => hst v (List.mem_cons_of_mem _ hv)) h1 h2 ⟨fun ty' k f e j q hj => (by cases e; cases hj), fun ci' fs' e => (by cases e), fun _ n x e => (by cases e)⟩ a1 a2 a3 K
end
/-! calls -/
def am_Pc (D : va_G) (dA : Nat → ClassId) (ro : Nat → am_C) (ad : Nat → Nat) (h : am_H) (sz : Nat) (as : List Value) : Array Value → State → Prop := fun v U =>
  v = (as.map (am_cv ad)).toArray ∧ U.heap.size = sz ∧ va_P D vwCl (am_ws dA ad h) U.heap ∧ va_K D vwCl (am_tys dA) U ∧ va_D (fun _ => True) (am_ws dA ad h) ∧ am_RO ro ad (va_A (am_ws dA ad h) sz) U U.heap
def am_Qc (D : va_G) (dA : Nat → ClassId) (ro : Nat → am_C) (ad : Nat → Nat) (h : am_H) (sz : Nat) (Q : Option Value → am_H → Prop) : Array Value → State → Outcome → State → Prop := fun _ st oc t =>
  (∃ (v : Option Value) (h' : am_H) (ad' : Nat → Nat), oc = .returned (v.map (am_cv ad')) ∧ Q v h' ∧ va_P D vwCl (am_ws dA ad' h') t.heap ∧ va_D (va_A (am_ws dA ad h) sz) (am_ws dA ad' h') ∧ am_okh ro h' ∧ h.1 ≤ h'.1 ∧ (∀ i, i < h.1 → ad' i = ad i) ∧ ∀ w, v = some w → am_okv h'.1 w) ∧ va_F (va_A (am_ws dA ad h) sz) st t
section
variable {p : Program} {l : Launch} {e : Env} {R : Room} {s : State} {m : MethodId} {args : Array Value} {below : List Frame} {meth : Method} {c : Code}
variable {D : va_G} {dA : Nat → ClassId} {A : Nat → Prop} {ro : Nat → am_C} {ad0 : Nat → Nat} {n0 nL : Nat} {lim : Nat × Nat} {Qm : State → Prop}
variable {cc : ByteArray} {pc : Nat} {L : List (Option Value)} {st : List Value} {u : Nat × Nat} {h : am_H}
/-- behind a call that has run -/
theorem ams_ran {ad : Nat → Nat} {H : Heap} {locs : List Loc} {ls : Array Slot} {mc ms : Nat} {rest st0 : List Value} {a : Array Value} {Q : Option Value → am_H → Prop} (hA : ∀ q, s.heap.size ≤ q → A q) (had : ∀ i, i < n0 → ad i = ad0 i) (hn : n0 ≤ h.1) (hD : va_D A (am_ws dA ad h)) (hS : va_S A s.heap H locs) (hl : lv_has ls nL (am_pr L ad)) (hLo : am_okL h.1 L) (hst : ∀ v ∈ rest, am_okv h.1 v) (hu1 : u.1 + mc ≤ lim.1) (hu2 : u.2 + ms ≤ lim.2)
    (hr : va_Run p l e R s m args below meth c H locs u.1 u.2 mc ms (F0 m pc ls st0) (rest.map (am_cv ad)) (am_Qc D dA ro ad h H.size Q a) (va_A (am_ws dA ad h) H.size))
    (K : ∀ v h', Q v h' → am_Wp p l e R s m args below meth c D dA A ro ad0 n0 nL lim Qm (pc + 3, L, v.toList ++ rest, u.1 + mc, u.2 + ms) h') : W p l e R s m args below meth c H locs u.1 u.2 Qm (F0 m pc ls st0) := by
  have hfree : ∀ q, va_A (am_ws dA ad h) H.size q → A q := by
    intro q hq
    rcases hq with ⟨k, e0, hk⟩ | hq
    · exact hD.2 k _ hk
    · exact hA q (Nat.le_trans hS.1 hq)
  intro T hT X
  obtain ⟨v, st₀, t, T', Lc, h0, X', hL, e1, e2, ⟨⟨v', h', ad', hv, hQ, hP', hD', hok', hle, had', hov⟩, hz, hk⟩, stp⟩ := hr T hT X
  cases hv
  rw [h0] at hz hk
  have K' := K v' h' hQ ad' T'.heap (locs ++ Lc) ls (fun i hi => by rw [had' i (by omega)]; exact had i hi) (by omega) (by rw [e1]; exact hP') (hD'.weaken (fun k q _ z => hfree _ z))
    ⟨Nat.le_trans hS.1 (by rw [e1]; exact hz), fun q h1 h2 => by rw [e1, hk q (Nat.lt_of_lt_of_le h1 hS.1) (fun z => h2 (hfree q z))]; exact hS.2.1 q h1 h2, fun q hq => by
      rcases List.mem_append.mp hq with z | z
      · exact hS.2.2 q z
      · exact hfree _ (hL q z)⟩ hok' (am_lv_mono hl (am_pr_same had' hLo)) (am_okL_mono hle hLo) (by
      intro w hw
      rcases List.mem_append.mp hw with z | z
      · cases v' with
        | none => simp at z
        | some x =>
          simp only [Option.toList, List.mem_singleton] at z
          subst z
          exact hov _ rfl
      · exact am_okv_mono hle (hst w z)) hu1 hu2
  have est : (v'.toList ++ rest).map (am_cv ad') = (v'.map (am_cv ad')).toList ++ rest.map (am_cv ad) := by
    rw [List.map_append, am_map_same had' hst]
    cases v' <;> rfl
  rw [est] at K'
  obtain ⟨t2, a1, b1⟩ := K' T' rfl X'
  exact ⟨t2, stp t2 a1, b1⟩
end
