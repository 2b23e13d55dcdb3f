/-! the class's methods that may throw -/
def nsE : String := "java/util/NoSuchElementException"
def nsUp : List String := ["java/lang/RuntimeException", "java/lang/Exception"]
def nsW : List Cond := Cond.classLink RX10 119 nsE :: Cond.initialized nsE :: th_at RX10 123 nsE 13 prog_28_method_4_code nsUp
def nsB : List Cond := [.declares (Bundle.initS "java/lang/RuntimeException"), .declares (Bundle.initS "java/lang/Exception"), .declares (Bundle.initS Bundle.tN), .castable "java/util/NoSuchElementException" "java/util/NoSuchElementException"]
theorem th_words : nsW.all (fun w => vx_ot w && (decide (w ∈ nsB) || am_inT w)) = true := by decide +kernel
theorem th_use {args : Array Value} {s : State} (hts : ∀ w ∈ am_gt, w.before args s = true) (hns : am_NS s) : ∀ w ∈ nsW, w.before args s = true := fun w hw => by
  have h := List.all_eq_true.mp th_words w hw
  simp only [Bool.and_eq_true, Bool.or_eq_true, decide_eq_true_eq] at h
  rcases h.2 with h | h
  · unfold nsB at h
    simp only [List.mem_cons, List.not_mem_nil, or_false] at h
    rcases h with e | e | e | e
    · rw [e]; exact va_Nw.use rfl hns.1
    · rw [e]; exact va_Nw.use rfl hns.2.1
    · rw [e]; exact va_Nw.use rfl hns.2.2.1
    · rw [e]; exact va_Nw.use rfl hns.2.2.2
  · exact hts w (am_inT_use h)
theorem th_ot : ∀ w ∈ nsW, vx_ot w = true := fun w hw => by
  have h := List.all_eq_true.mp th_words w hw
  simp only [Bool.and_eq_true] at h
  exact h.1
def th_ok (cc : ByteArray) (pc : Nat) : Bool := decide (decode cc pc = .ok (.new 119, 3)) && decide (decode cc (pc + 3) = .ok (.dup, 1)) && am_strs.any (fun q => decide (q.1 = RX10) &&
  ((decide (decode cc (pc + 4) = .ok (.ldc q.2.1, 2)) && decide (decode cc (pc + 4 + 2) = .ok (.invokespecial 123, 3)) && decide (decode cc (pc + 4 + 2 + 3) = .ok (.athrow, 1))) ||
   (decide (decode cc (pc + 4) = .ok (.ldc_w q.2.1, 3)) && decide (decode cc (pc + 4 + 3) = .ok (.invokespecial 123, 3)) && decide (decode cc (pc + 4 + 3 + 3) = .ok (.athrow, 1)))))
theorem th_ok_use {cc : ByteArray} {pc : Nat} (h : th_ok cc pc = true) : decode cc pc = .ok (.new 119, 3) ∧ decode cc (pc + 3) = .ok (.dup, 1) ∧ ∃ q ∈ am_strs, q.1 = RX10 ∧ ∃ k, (k = 2 ∧ decode cc (pc + 4) = .ok (.ldc q.2.1, 2) ∨ k = 3 ∧ decode cc (pc + 4) = .ok (.ldc_w q.2.1, 3)) ∧ decode cc (pc + 4 + k) = .ok (.invokespecial 123, 3) ∧ decode cc (pc + 4 + k + 3) = .ok (.athrow, 1) := by
  unfold th_ok at h
  rw [Bool.and_eq_true, Bool.and_eq_true, decide_eq_true_eq, decide_eq_true_eq, List.any_eq_true] at h
  obtain ⟨⟨h1, h2⟩, q, hq, h3⟩ := h
  rw [Bool.and_eq_true, decide_eq_true_eq, Bool.or_eq_true, Bool.and_eq_true, Bool.and_eq_true, Bool.and_eq_true, Bool.and_eq_true, decide_eq_true_eq, decide_eq_true_eq, decide_eq_true_eq, decide_eq_true_eq, decide_eq_true_eq, decide_eq_true_eq] at h3
  obtain ⟨h3, ⟨⟨h4, h5⟩, h6⟩ | ⟨⟨h4, h5⟩, h6⟩⟩ := h3
  · exact ⟨h1, h2, q, hq, h3, 2, Or.inl ⟨rfl, h4⟩, h5, h6⟩
  · exact ⟨h1, h2, q, hq, h3, 3, Or.inr ⟨rfl, h4⟩, h5, h6⟩
def th_all (cd : List (Nat × am_E)) (cc : ByteArray) : Bool := cd.all (fun q => match q.2 with
  | (.new _, _, _, b, _, _, _) => b != 1 || th_ok cc q.1
  | _ => true)
theorem th_all_use {cd : List (Nat × am_E)} {cc : ByteArray} (h : th_all cd cc = true) {pc : Nat} {en : am_E} (hm : (pc, en) ∈ cd) {idx len a t : Nat} {cv : Int32 × Int64} (e : en = (.new idx, len, a, 1, t, cv)) : th_ok cc pc = true := by
  have z := List.all_eq_true.mp h _ hm
  subst e
  simpa using z
/-- what a thrown exception leaves -/
def am_XC (D : va_G) (dA : Nat → ClassId) (ro : Nat → am_C) (ad : Nat → Nat) (h : am_H) (sz : Nat) (X : am_H → Prop) : String → State → State → Prop := fun E st t =>
  E = nsE ∧ (∃ (h' : am_H) (ad' : Nat → Nat), X h' ∧ va_P D vwCl (am_ws dA ad' h') t.heap ∧ va_D (va_A (am_ws dA ad h) sz) (am_ws dA ad' h') ∧ am_okh ro h' ∧ h.1 ≤ h'.1 ∧ ∀ i, i < h.1 → ad' i = ad i) ∧ va_F (va_A (am_ws dA ad h) sz) st t
set_option maxHeartbeats 4000000 in
theorem am_thr {l : Launch} (hl0 : l.stackTraces = false) (hall : am_OkAll) (hstr : am_StrOk l) {d k : Nat} {r : am_R} (hr : am_mt[k]? = some r) (hd : 5 ≤ d) (hlim : am_lim k = (1, 6)) (hcls : r.1.cls = RX10) (hpn : plainName r.1.cls = true) (hth : th_all (am_cdOf k) r.2.1 = true)
    {as : List Value} {h : am_H} {Q : Option Value → am_H → Prop} {X : am_H → Prop} (hlen : (am_ent as).length ≤ r.2.2.1) (Hwp : am_wp (am_call d) (0, 0) (fun pc => (am_cdOf k).lookup pc) Q X (0, am_loc as r.2.2.1, [], 0, 0) h)
    (D : va_G) (dA : Nat → ClassId) (ro : Nat → am_C) (ad : Nat → Nat) (sz : Nat) (hokh : am_okh ro h) (hros : am_roS ro) (hargs : ∀ v ∈ as, am_okv h.1 v) :
    vx_Met l r.1 (am_w r) (am_rm (d + 1) k) (am_Pc D dA ro ad h sz as) (am_Qc D dA ro ad h sz Q) (am_XC D dA ro ad h sz X) 1 6 (va_A (am_ws dA ad h) sz) := by
  obtain ⟨ow, w0, w1, w2, w3, hM⟩ := hall k r hr
  obtain ⟨k1, k2, k3, k4, k5, k6, k7, k8, k9, k10, k11⟩ := am_okM_use hM
  refine vx_ofW (cc := r.2.1) (maxL := r.2.2.1) (ret := r.2.2.2.1) hpn rfl ?_
  intro p e s m args below meth c s₁ B hml hex hv
  obtain ⟨rfl, hsz, hP, hK, hD0, hRO⟩ := hv
  have hx := B.exec
  have hb := B.bytes
  have hrt := B.returns
  have hts0 := atoms_spec (ws := am_w r) B.pre
  have hts : ∀ w ∈ am_gt, w.before ((as.map (am_cv ad)).toArray) s = true := fun w hw => hts0 w (List.mem_cons_of_mem _ hw)
  have hown : s.vm.findClass r.1.cls = some m.cls := findClass_of_methodNamed B.named
  have hlocks := B.notSynchronized
  have hname := (name_of_methodNamed B.named B.method).1
  subst hsz
  have hD := hD0.self (sz := s.heap.size)
  have hl := lv_entry (as.map (am_cv ad)) (n := r.2.2.1) (by rw [am_ent_cv]; exact hlen)
  rw [lg_entry_eq]
  generalize (lg_sl (as.map (am_cv ad)) ++ List.replicate (r.2.2.1 - (lg_sl (as.map (am_cv ad))).length) Slot.unset).toArray = ls at hl ⊢
  have hA : ∀ q : Nat, s.heap.size ≤ q → va_A (am_ws dA ad h) s.heap.size q := fun q hq => Or.inr hq
  have hl' : lv_has ls r.2.2.1 (am_pr (am_loc as r.2.2.1) ad) := am_lv_mono hl (fun q hq => by
    obtain ⟨j, x⟩ := q
    obtain ⟨v, hv, rfl⟩ := am_pr_mem.mp hq
    have z := am_ent_at (ad := ad) as 0 j v (am_loc_at hv)
    rw [Nat.zero_add] at z
    exact z)
  have hLo : am_okL h.1 (am_loc as r.2.2.1) := fun j v hv => hargs v (am_ent_mem as j v (am_loc_at hv))
  have main := Hwp (am_Wp p l e (am_rm (d + 1) k) s m (as.map (am_cv ad)).toArray below meth c D dA (va_A (am_ws dA ad h) s.heap.size) ro ad h.1 r.2.2.1 (0, 0) (vx_MQ below (am_Qc D dA ro ad h s.heap.size Q) (am_XC D dA ro ad h s.heap.size X) (as.map (am_cv ad)).toArray s 1 6 (va_A (am_ws dA ad h) s.heap.size))) (by
    intro f h1 z
    obtain ⟨pc, L, st, u⟩ := f
    unfold am_step at z
    simp only at z
    split at z
    · rename_i en hen
      have hin := am_lookup_mem hen
      obtain ⟨q1, q2⟩ := k11 _ hin
      refine am_sound_ins hx hb hown k1 hts hK hros hA hRO hokh.1 ⟨Nat.zero_le _, Nat.zero_le _⟩ (fun hini => by rw [hname]; exact of_decide_eq_true hini) ?_ ?_ ?_ q1 q2 z
      · intro i len a b t cv dv hi hdec hok H0
        exact am_hinv hx hb hml hown k1 hts hK hros hA hRO hokh.1 ⟨Nat.zero_le _, Nat.zero_le _⟩ (Nat.le_refl _) (Nat.le_refl _) hall hstr (am_sound l hall hstr d) i len a b t cv dv hi hdec hok H0
      · intro i len a b t cv hi hdec hok H0
        exact ams_ret (lim := (0, 0)) hx hb hrt hlocks rfl rfl (fun w => by
          intro T hT X'
          obtain ⟨t, a1, o, b1, b2, b3, Lc, ⟨f1, f2, f3⟩, hL⟩ := w T hT X'
          exact ⟨t, a1, o, b1, b2, Or.inl ⟨b3, Lc, ⟨f1, f2, f3.mono (Nat.zero_le _) (Nat.zero_le _)⟩, hL⟩⟩) i len a b t cv hi hdec hok H0
      · intro idx len a t cv e0 hst0 hX
        subst hst0
        obtain ⟨d0, d3, q, hq, hqc, kk, d4, d6, d9⟩ := th_ok_use (th_all_use hth hin e0)
        intro ad1 H locs ls1 had hn hP1 hD1 hS hokh1 hl1 hLo1 hst hu1 hu2
        have hu1 : u.1 ≤ 0 := hu1
        have hu2 : u.2 ≤ 0 := hu2
        have hstr1 := hRO.2.2.2.1 q hq
        have hns := th_use hts hRO.2.2.2.2.2.2.2.2.2.2.2
        rw [hqc] at hstr1
        rw [hcls] at hown
        have hR1 : u.1 + 1 ≤ (am_lim k).1 := by rw [hlim]; show u.1 + 1 ≤ 1; omega
        have hR2 : u.2 + 6 ≤ (am_lim k).2 := by rw [hlim]; show u.2 + 6 ≤ 6; omega
        exact th_throw (k := kk) (own := RX10) (cls := nsE) (text := q.2.2.1) (names := nsUp) (ik := 119) (is := q.2.1) (ic := 123) (ix := 13) (rx := prog_28_method_4_code) hx hb hl0 (by decide +kernel) (by decide +kernel) (by decide +kernel) (by decide +kernel) hown (by decide +kernel) (by decide +kernel)
          (hns _ List.mem_cons_self) (hns _ (List.mem_cons_of_mem _ List.mem_cons_self)) hstr1 (fun w hw => hns w (List.mem_cons_of_mem _ (List.mem_cons_of_mem _ hw))) th_ot
          hRO.2.2.2.2.2.2.2.1 hRO.2.2.2.2.2.2.2.2.1 hS (hl1.1.trans hml.symm) d0 d3 d4 d6 d9 (fun x hx9 => (hex x hx9).elim) (show 5 < d + 1 by omega) (show 0 + 82 ≤ 40 * (d + 1) by omega) hR1 hR2 hlocks
          (fun t9 hal g1 g2 => ⟨rfl, ⟨h1, ad1, hX, hP1.kept (fun k9 q9 hk9 => g2 q9.1 (vx_lt hP1 hk9)), hD1, hokh1, hn, had⟩, Nat.le_trans hS.1 g1, fun q9 r1 r2 => by rw [g2 q9 (Nat.lt_of_lt_of_le r1 hS.1)]; exact hS.2.1 q9 r1 r2⟩) hS.2.2 (by omega) (by omega)
    · exact z.elim)
  exact main ad s.heap [] ls (fun _ _ => rfl) (Nat.le_refl _) hP hD va_S.rf hokh hl' hLo (fun v hv => by cases hv) (Nat.zero_le _) (Nat.zero_le _)
