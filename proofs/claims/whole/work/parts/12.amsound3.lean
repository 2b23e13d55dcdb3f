def am_w (r : am_R) : List Cond := .code r.1 r.2.1 r.2.2.1 r.2.2.2.1 :: am_gt
def am_rm (d k : Nat) : Room := { frames := d, cells := (am_lim k).1, slots := (am_lim k).2, locals := 40 * d }
def am_MetOk (l : Launch) (d k : Nat) (as : List Value) (h : am_H) (Q : Option Value → am_H → Prop) : Prop := ∀ r, am_mt[k]? = some r → ∀ (D : va_G) (dA : Nat → ClassId) (ro : Nat → am_C) (ad : Nat → Nat) (sz : Nat), am_okh ro h → am_roS ro → (∀ v ∈ as, am_okv h.1 v) →
  Met l r.1 (am_w r) (am_rm d k) (am_Pc D dA ro ad h sz as) (am_Qc D dA ro ad h sz Q) (am_lim k).1 (am_lim k).2 (va_A (am_ws dA ad h) sz)
def am_OkAll : Prop := ∀ k r, am_mt[k]? = some r → ∃ ow w0 w1 w2 w3, am_okM r (am_cdOf k) ow w0 w1 w2 w3 = true
theorem am_good {w : Cond} (h : w ∈ am_gt) : (w.onTables && w.keeps) = true ∨ ∃ ty, w = .arrayClass ty := good_of_word (List.mem_filter.mp h).2
theorem am_goodIn {r : am_R} (h : Cond.code r.1 r.2.1 r.2.2.1 r.2.2.2.1 ∈ am_gt) : GoodIn am_gt (am_w r) := fun w hw => by
  rcases List.mem_cons.mp hw with e | e
  · rw [e]; exact ⟨h, am_good h⟩
  · exact ⟨e, am_good e⟩
theorem am_okM_use {r : am_R} {cd : List (Nat × am_E)} {ow w0 w1 w2 w3 : Nat} (h : am_okM r cd ow w0 w1 w2 w3 = true) :
    am_cn ow = r.1.cls ∧ Cond.code r.1 r.2.1 r.2.2.1 r.2.2.2.1 ∈ am_gt ∧ Cond.initialized r.1.cls ∈ am_gt ∧ (r.2.2.2.2.1 = 0 → Cond.static r.1 ∈ am_gt) ∧ (¬ r.2.2.2.2.1 = 0 → Cond.instanceMethod r.1 ∈ am_gt) ∧ (r.2.2.2.2.1 = 1 → Cond.selects r.1.cls r.1 r.1 ∈ am_gt) ∧ (r.2.2.2.2.1 = 2 → r.1.name = "<init>" ∧ r.2.2.2.1 = none) ∧
    (r.1.cls ≠ "java/lang/invoke/MethodHandle" ∧ r.1.cls ≠ "java/lang/invoke/VarHandle" ∧ (parseMethodDescriptor r.1.desc).map (fun d => d.parameters.length) = some r.2.2.2.2.2) ∧ plainFor r.1 = true ∧ r.2.2.1 ≤ 20 ∧ ∀ q ∈ cd, decode r.2.1 q.1 = .ok (q.2.1, q.2.2.1) ∧ am_okE ow r.1.cls r.2.2.1 (decide (r.1.name = "<init>")) r.2.2.2.1 q.1 q.2 = true := by
  obtain ⟨y, bytes, ml, rt, kd, np⟩ := r
  unfold am_okM at h
  simp only [Bool.and_eq_true, decide_eq_true_eq] at h
  obtain ⟨⟨⟨⟨⟨⟨⟨⟨⟨⟨⟨h1, h2⟩, h3⟩, h4⟩, h5⟩, h6⟩, h7⟩, h8⟩, h9⟩, h10⟩, h11⟩, h12⟩ := h
  refine ⟨h1, am_inAt_use h2, am_inAt_use h3, fun e => ?_, fun e => ?_, fun e => ?_, fun e => ?_, ⟨h7, h8, h9⟩, h10, h11, fun q hq => ?_⟩
  · have e : kd = 0 := e
    rw [if_pos e] at h4
    exact am_inAt_use h4
  · have e : ¬ kd = 0 := e
    rw [if_neg e] at h4
    exact am_inAt_use h4
  · have e : kd = 1 := e
    rw [if_pos e] at h5
    exact am_inAt_use h5
  · have e : kd = 2 := e
    rw [if_pos e, Bool.and_eq_true, decide_eq_true_eq, decide_eq_true_eq] at h6
    exact h6
  · have z := List.all_eq_true.mp h12 q hq
    rw [Bool.and_eq_true, decide_eq_true_eq] at z
    exact z
theorem am_blind {D : va_G} {dA : Nat → ClassId} {ro : Nat → am_C} {ad : Nat → Nat} {h : am_H} {sz : Nat} {as : List Value} : FrameBlind (am_Pc D dA ro ad h sz as) := fun a U g mk ⟨h1, h2, h3, h4, h5, h6⟩ =>
  ⟨h1, h2, h3, va_K.moved (u := U) (U := U.calling g mk a) (Vm.Alike.refl U.vm) h4, h5, am_RO_same (u := U) (U := U.calling g mk a) h6 rfl⟩
/-! locals at a method's entry -/
theorem am_ent_cv {ad : Nat → Nat} (as : List Value) : (lg_sl (as.map (am_cv ad))).length = (am_ent as).length := by
  induction as with
  | nil => rfl
  | cons v r ih =>
    have e : lg_sl ((v :: r).map (am_cv ad)) = (if (am_cv ad v).category = 2 then [Slot.val (am_cv ad v), .second] else [.val (am_cv ad v)]) ++ lg_sl (r.map (am_cv ad)) := rfl
    rw [e, List.length_append, ih]
    cases v <;> simp [am_cv, Value.category, am_ent] <;> omega
theorem am_ent_at {ad : Nat → Nat} : ∀ (as : List Value) (base j : Nat) (v : Value), (am_ent as).getD j none = some v → (base + j, am_cv ad v) ∈ lv_args base (as.map (am_cv ad))
  | [], _, _, _, h => by simp [am_ent] at h
  | w :: r, base, j, v, h => by
    have ih := am_ent_at (ad := ad) r
    show (base + j, am_cv ad v) ∈ (base, am_cv ad w) :: lv_args (if (am_cv ad w).category = 2 then base + 2 else base + 1) (r.map (am_cv ad))
    rw [am_cv_cat]
    cases j with
    | zero =>
      have e : v = w := by
        unfold am_ent at h
        simp at h
        exact h.symm
      rw [e]
      exact List.mem_cons_self
    | succ j =>
      refine List.mem_cons_of_mem _ ?_
      by_cases hc : w.category = 2
      · rw [if_pos hc]
        have h' : (none :: am_ent r).getD j none = some v := by
          unfold am_ent at h
          cases w <;> first | exact h | simp [Value.category] at hc
        cases j with
        | zero => simp at h'
        | succ j =>
          have z := ih (base + 2) j v (by simpa using h')
          rw [show base + (j + 1 + 1) = base + 2 + j by omega]
          exact z
      · rw [if_neg hc]
        have h' : (am_ent r).getD j none = some v := by
          unfold am_ent at h
          cases w <;> first | exact h | (simp [Value.category] at hc)
        have z := ih (base + 1) j v h'
        rw [show base + (j + 1) = base + 1 + j by omega]
        exact z
theorem am_loc_at {as : List Value} {n j : Nat} {v : Value} (h : (am_loc as n).getD j none = some v) : (am_ent as).getD j none = some v := by
  unfold am_loc at h
  rw [List.getD_eq_getElem?_getD] at h ⊢
  by_cases hj : j < (am_ent as).length
  · rw [List.getElem?_append_left hj] at h
    exact h
  · rw [List.getElem?_append_right (by omega), List.getElem?_replicate] at h
    split at h <;> simp at h
theorem am_ent_mem : ∀ (as : List Value) (j : Nat) (v : Value), (am_ent as).getD j none = some v → v ∈ as
  | [], _, _, h => by simp [am_ent] at h
  | w :: r, j, v, h => by
    cases j with
    | zero =>
      have e : v = w := by
        unfold am_ent at h
        simp at h
        exact h.symm
      rw [e]; exact List.mem_cons_self
    | succ j =>
      refine List.mem_cons_of_mem _ ?_
      by_cases hc : w.category = 2
      · have h' : (none :: am_ent r).getD j none = some v := by
          unfold am_ent at h
          cases w <;> first | exact h | simp [Value.category] at hc
        cases j with
        | zero => simp at h'
        | succ j => exact am_ent_mem r j v (by simpa using h')
      · have h' : (am_ent r).getD j none = some v := by
          unfold am_ent at h
          cases w <;> first | exact h | (simp [Value.category] at hc)
        exact am_ent_mem r j v h'
