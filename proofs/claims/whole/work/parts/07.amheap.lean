section
variable {p : Program} {l : Launch} {e : Env} {R : Room} {s : State} {m : MethodId} {args : Array Value} {below : List Frame} {meth : Method} {c : Code}
variable {D : va_G} {dA : Nat → ClassId} {A : Nat → Prop} {ro : Nat → am_C} {ad0 : Nat → Nat} {n0 nL : Nat} {lim : Nat × Nat} {Qm : State → Prop}
variable {cc : ByteArray} {pc : Nat} {L : List (Option Value)} {st : List Value} {u : Nat × Nat} {h : am_H}
theorem am_hi_obj {q ci : Nat} {fs : List Value} (hok : am_okh ro h) (hr : am_roS ro) (e : h.2 q = .inr (ci, fs)) (hc : ci < 9) : 40 ≤ q := by
  by_cases hq : q < 40
  · rw [hok.2.2 q hq] at e
    rcases hr q hq with z | ⟨n, f, z⟩
    · rw [z] at e; cases e; omega
    · rw [z] at e; cases e
  · omega
theorem am_hi_arr {q n : Nat} {ty : FieldType} {x : (Nat → Int32) ⊕ (Nat → Int64) ⊕ (Nat → UInt32) ⊕ (Nat → UInt64) ⊕ (Nat → Option Nat)} (hok : am_okh ro h) (hr : am_roS ro) (e : h.2 q = .inl (ty, n, x)) (hc : ty ≠ .float) : 40 ≤ q := by
  by_cases hq : q < 40
  · rw [hok.2.2 q hq] at e
    rcases hr q hq with z | ⟨n, f, z⟩
    · rw [z] at e; cases e
    · rw [z] at e; cases e; exact absurd rfl hc
  · omega
theorem am_ro_at {q n : Nat} {f : Nat → Int32} (hok : am_okh ro h) (e : h.2 q = .inl (.float, n, .inl f)) (hq : q < 40) : ro q = .inl (.float, n, .inl f) := by rw [← hok.2.2 q hq]; exact e
theorem am_lo_arr {q n : Nat} {x : (Nat → Int32) ⊕ (Nat → Int64) ⊕ (Nat → UInt32) ⊕ (Nat → UInt64) ⊕ (Nat → Option Nat)} (hok : am_okh ro h) (e : h.2 q = .inl (.float, n, x)) (hq : q < h.1) : q < 40 := by
  by_cases h1 : q < 40
  · exact h1
  · exact absurd e ((hok.2.1 q hq).2.2 (by omega) n x)

theorem ams_getfield (hx : p.tables.exec = Jvm.exec) (hb : c.code = cc) {own C : String} {T : u_T} {N ci k idx : Nat} {Ts : List Cond} (hts : ∀ w ∈ Ts, w.before args s = true) (hin : ∀ w ∈ u_ws C T N, w ∈ Ts) (hown : s.vm.findClass own = some m.cls) (hK : va_K D vwCl (am_tys dA) s) (hr : am_roS ro) (hci : ci < 9) (hc : vwCl[ci]? = some (C, T, N)) (hk : k < N) (hlink : (Cond.fieldLink own idx (T k).1 (T k).2.1 (T k).2.2.1).before args s = true) (hd : decode cc pc = .ok (.getfield idx, 3))
    (H0 : am_r1 st (fun p1 r => am_obj h p1 ci (fun fs => match fs[k]? with
    | some v => am_Wp p l e R s m args below meth c D dA A ro ad0 n0 nL lim Qm (pc + 3, L, v :: r, u) h
    | none => False))) : am_Wp p l e R s m args below meth c D dA A ro ad0 n0 nL lim Qm (pc, L, st, u) h := by
  obtain ⟨q, r, rfl, H1⟩ := am_r1_use H0
  obtain ⟨fs, hq, H2⟩ := am_obj_use H1
  intro ad H locs ls had hn hP hD hS hok hl hLo hst hu1 hu2
  have h40 := am_hi_obj hok hr hq hci
  have hqn : q < h.1 := hst _ List.mem_cons_self q rfl
  have hw := am_ws_at (dA := dA) (ad := ad) h40 hqn
  rw [hq] at hw
  cases hv : fs[k]? with
  | none => rw [hv] at H2; exact H2.elim
  | some v =>
    rw [hv] at H2
    have hv' : (fs.map (am_cv ad))[k]? = some (am_cv ad v) := by rw [List.getElem?_map, hv]; rfl
    have hov : am_okv h.1 v := (hok.2.1 q hqn).2.1 ci fs hq v (List.mem_of_getElem? hv)
    exact va_get hx hb hts hin hown hK hP (q - 40) hw hc k hk hlink (fun _ z => z) hv' hd (H2 ad H locs ls had hn hP hD hS hok hl hLo (List.forall_mem_cons.mpr ⟨hov, fun v hv => hst v (List.mem_cons_of_mem _ hv)⟩) hu1 hu2)
/-- the type that a field's kind stands for -/
def am_fty (t : Nat) (ty : FieldType) : Prop := match t with
  | 0 => ty = .int
  | 1 => (∃ C, ty = .object C) ∨ ∃ z, ty = .array z
  | 2 => ty = .boolean
  | 3 => ty = .char
  | _ => False
theorem am_fit_use {t : Nat} {v : Value} {ty : FieldType} {g : Prop} (ht : am_fty t ty) (H : am_fit t v g) : g ∧ (∀ ad, narrow ty (am_cv ad v) = am_cv ad v) ∧ (∀ ad, fits ty (am_cv ad v) = true) := by
  unfold am_fit at H
  split at H
  · have e : ty = .int := ht
    subst e
    exact ⟨H, fun ad => rfl, fun ad => rfl⟩
  · rcases (show (∃ C, ty = .object C) ∨ ∃ z, ty = .array z from ht) with ⟨C, rfl⟩ | ⟨z, rfl⟩
    · exact ⟨H, fun ad => rfl, fun ad => rfl⟩
    · exact ⟨H, fun ad => rfl, fun ad => rfl⟩
  · have e : ty = .boolean := ht
    subst e
    rcases H with ⟨rfl | rfl, H⟩
    · exact ⟨H, fun ad => (by show narrow FieldType.boolean (Value.int 0) = Value.int 0; decide), fun ad => (by show fits FieldType.boolean (Value.int 0) = true; decide)⟩
    · exact ⟨H, fun ad => (by show narrow FieldType.boolean (Value.int 1) = Value.int 1; decide), fun ad => (by show fits FieldType.boolean (Value.int 1) = true; decide)⟩
  · have e : ty = .char := ht
    subst e
    obtain ⟨⟨q, hq, rfl⟩, H⟩ := H
    exact ⟨H, fun ad => (pk_charN hq).1, fun ad => (pk_charN hq).2⟩
  · exact H.elim
theorem ams_putfield (hx : p.tables.exec = Jvm.exec) (hb : c.code = cc) {own C : String} {T : u_T} {N ci k t idx : Nat} {Ts : List Cond} (hts : ∀ w ∈ Ts, w.before args s = true) (hin : ∀ w ∈ u_ws C T N, w ∈ Ts) (ty0 : Nat → FieldType) (hty : ∀ k, k < N → parseFieldDescriptor (T k).2.2.1 = some (ty0 k)) (hnm : ∀ a, a < N → ∀ b, b < N → a ≠ b → (T a).2.1 ≠ (T b).2.1) (hown : s.vm.findClass own = some m.cls) (hK : va_K D vwCl (am_tys dA) s) (hr : am_roS ro) (hci : ci < 9) (hc : vwCl[ci]? = some (C, T, N)) (hk : k < N) (hlink : (Cond.fieldLink own idx (T k).1 (T k).2.1 (T k).2.2.1).before args s = true) (hfin : (T k).2.2.2 = false ∨ (meth.name = "<init>" ∧ (T k).1 = own)) (ht : am_fty t (ty0 k)) (hd : decode cc pc = .ok (.putfield idx, 3))
    {v : Value} {q : Nat} {r : List Value} (hst0 : st = v :: .ref q :: r) (H0 : am_obj h q ci (fun fs => if k < fs.length then am_fit t v (am_Wp p l e R s m args below meth c D dA A ro ad0 n0 nL lim Qm (pc + 3, L, r, u) (am_set h q (.inr (ci, fs.set k v)))) else False)) : am_Wp p l e R s m args below meth c D dA A ro ad0 n0 nL lim Qm (pc, L, st, u) h := by
  subst hst0
  obtain ⟨fs, hq, H1⟩ := am_obj_use H0
  split at H1
  · rename_i hlen
    obtain ⟨K, hnar, hfit⟩ := am_fit_use ht H1
    intro ad H locs ls had hn hP hD hS hok hl hLo hst hu1 hu2
    have h40 := am_hi_obj hok hr hq hci
    have hqn : q < h.1 := hst _ (List.mem_cons_of_mem _ List.mem_cons_self) q rfl
    have hw := am_ws_at (dA := dA) (ad := ad) h40 hqn
    rw [hq] at hw
    have hov : am_okv h.1 v := hst v List.mem_cons_self
    have hoc : am_okc h.1 q (.inr (ci, fs.set k v)) := ⟨fun ty k f e => (by cases e), fun ci' fs' e v' hv' => by
      cases e
      rcases List.mem_or_eq_of_mem_set hv' with z | z
      · exact (hok.2.1 q hqn).2.1 ci fs hq v' z
      · rw [z]; exact hov, fun _ n x e => (by cases e)⟩
    have e1 : am_ws dA ad (am_set h q (.inr (ci, fs.set k v))) = (am_ws dA ad h).set (q - 40) (ad q, .inr (ci, (fs.map (am_cv ad)).set k (am_cv ad v))) := by
      rw [am_ws_set h40 hqn]
      show (am_ws dA ad h).set (q - 40) (ad q, Sum.inr (ci, (fs.set k v).map (am_cv ad))) = _
      rw [List.map_set]
    have fin : ∀ (H1 : Heap) (locs1 : List Loc), va_P D vwCl ((am_ws dA ad h).set (q - 40) (ad q, .inr (ci, (fs.map (am_cv ad)).set k (am_cv ad v)))) H1 → va_D A ((am_ws dA ad h).set (q - 40) (ad q, .inr (ci, (fs.map (am_cv ad)).set k (am_cv ad v)))) → va_S A s.heap H1 locs1 → W p l e R s m args below meth c H1 locs1 u.1 u.2 Qm (F0 m (pc + 3) ls (r.map (am_cv ad))) := by
      intro H1 locs1 a1 a2 a3
      rw [← e1] at a1 a2
      exact K ad H1 locs1 ls had hn a1 a2 a3 (am_okh_set hok h40 hoc) hl hLo (fun v hv => hst v (List.mem_cons_of_mem _ (List.mem_cons_of_mem _ hv))) hu1 hu2
    rcases hfin with hfin | ⟨hin2, hdecl⟩
    · exact va_put hx hb hts hin ty0 hty hnm hown hK hP hD hS (q - 40) hw hc k hk hlink (fun _ z => z) hfin (hty k hk) (hnar ad) (hfit ad) (by rw [List.length_map]; exact hlen) hd fin
    · by_cases hf2 : (T k).2.2.2 = false
      · exact va_put hx hb hts hin ty0 hty hnm hown hK hP hD hS (q - 40) hw hc k hk hlink (fun _ z => z) hf2 (hty k hk) (hnar ad) (hfit ad) (by rw [List.length_map]; exact hlen) hd fin
      · exact va_putF hx hb hts hin ty0 hty hnm hown hK hP hD hS (q - 40) hw hc k hk hlink (fun _ z => z) (by cases hz : (T k).2.2.2 with | true => rfl | false => exact absurd hz hf2) hin2 hdecl (hty k hk) (hnar ad) (hfit ad) (by rw [List.length_map]; exact hlen) hd fin
  · exact H1.elim
theorem ams_getstatic (hx : p.tables.exec = Jvm.exec) (hb : c.code = cc) {own C n d : String} {idx k : Nat} (hro : am_RO ro ad0 A s s.heap) (hn0 : 40 ≤ n0) (hZ : va_Z C n d (.ref (ad0 k)) A s s.heap) (hk : k < 40) (hown : s.vm.findClass own = some m.cls) (hlink : (Cond.fieldLink own idx C n d).before args s = true) (hd : decode cc pc = .ok (.getstatic idx, 3)) (K : am_Wp p l e R s m args below meth c D dA A ro ad0 n0 nL lim Qm (pc + 3, L, .ref k :: st, u) h) : am_Wp p l e R s m args below meth c D dA A ro ad0 n0 nL lim Qm (pc, L, st, u) h := by
  intro ad H locs ls had hn hP hD hS hok hl hLo hst hu1 hu2
  refine va_gets hx hb hZ hS hown hlink (fun _ z => z) hd ?_
  have K' := K ad H locs ls had hn hP hD hS hok hl hLo (List.forall_mem_cons.mpr ⟨am_okv_ref (by omega), hst⟩) hu1 hu2
  rw [List.map_cons, am_cv_ref, had k (by omega)] at K'
  exact K'
theorem ams_iaload (hx : p.tables.exec = Jvm.exec) (hb : c.code = cc) (hK : va_K D vwCl (am_tys dA) s) (hr : am_roS ro) (hro : am_RO ro ad0 A s s.heap) (hn0 : 40 ≤ n0) (hd : decode cc pc = .ok (.iaload, 1)) (H0 : am_ir st (fun i q r => am_rdi h q (fun n f => vp_in i n ∧ am_Wp p l e R s m args below meth c D dA A ro ad0 n0 nL lim Qm (pc + 1, L, .int (f i.toNatClampNeg) :: r, u) h))) : am_Wp p l e R s m args below meth c D dA A ro ad0 n0 nL lim Qm (pc, L, st, u) h := by
  obtain ⟨i, q, r, rfl, H1⟩ := am_ir_use H0
  obtain ⟨n, f, hq, hin, K⟩ := am_rdi_use H1
  intro ad H locs ls had hn hP hD hS hok hl hLo hst hu1 hu2
  have K' := K ad H locs ls had hn hP hD hS hok hl hLo (List.forall_mem_cons.mpr ⟨am_okv_int, fun v hv => hst v (List.mem_cons_of_mem _ (List.mem_cons_of_mem _ hv))⟩) hu1 hu2
  rcases hq with hq | hq
  · have h40 := am_hi_arr hok hr hq (by intro z; cases z)
    have hqn : q < h.1 := hst _ (List.mem_cons_of_mem _ List.mem_cons_self) q rfl
    have hw := am_ws_at (dA := dA) (ad := ad) h40 hqn
    rw [hq] at hw
    exact va_iald hx hb hK hP (q - 40) 0 hw rfl hin hd K'
  · have hq40 := am_lo_arr hok hq (hst _ (List.mem_cons_of_mem _ List.mem_cons_self) q rfl)
    have hT := hro.1 q n f hq40 (am_ro_at hok hq hq40)
    show W p l e R s m args below meth c H locs u.1 u.2 Qm (F0 m pc ls (.int i :: .ref (ad q) :: r.map (am_cv ad)))
    rw [had q (by omega)]
    exact va_ti hx hb hT hS hin rfl hd K' 
theorem ams_baload (hx : p.tables.exec = Jvm.exec) (hb : c.code = cc) (hK : va_K D vwCl (am_tys dA) s) (hr : am_roS ro) (hd : decode cc pc = .ok (.baload, 1)) (H0 : am_ir st (fun i q r => am_ari h q .boolean (fun n f => vp_in i n ∧ am_Wp p l e R s m args below meth c D dA A ro ad0 n0 nL lim Qm (pc + 1, L, .int (f i.toNatClampNeg) :: r, u) h))) : am_Wp p l e R s m args below meth c D dA A ro ad0 n0 nL lim Qm (pc, L, st, u) h := by
  obtain ⟨i, q, r, rfl, H1⟩ := am_ir_use H0
  obtain ⟨n, f, hq, hin, K⟩ := am_ari_use H1
  intro ad H locs ls had hn hP hD hS hok hl hLo hst hu1 hu2
  have h40 := am_hi_arr hok hr hq (by intro z; cases z)
  have hqn : q < h.1 := hst _ (List.mem_cons_of_mem _ List.mem_cons_self) q rfl
  have hw := am_ws_at (dA := dA) (ad := ad) h40 hqn
  rw [hq] at hw
  exact va_zald hx hb hK hP (q - 40) 2 hw rfl hin hd (K ad H locs ls had hn hP hD hS hok hl hLo (List.forall_mem_cons.mpr ⟨am_okv_int, fun v hv => hst v (List.mem_cons_of_mem _ (List.mem_cons_of_mem _ hv))⟩) hu1 hu2)
theorem ams_caload (hx : p.tables.exec = Jvm.exec) (hb : c.code = cc) (hK : va_K D vwCl (am_tys dA) s) (hr : am_roS ro) (hd : decode cc pc = .ok (.caload, 1)) (H0 : am_ir st (fun i q r => am_ari h q .char (fun n f => vp_in i n ∧ am_Wp p l e R s m args below meth c D dA A ro ad0 n0 nL lim Qm (pc + 1, L, .int (f i.toNatClampNeg) :: r, u) h))) : am_Wp p l e R s m args below meth c D dA A ro ad0 n0 nL lim Qm (pc, L, st, u) h := by
  obtain ⟨i, q, r, rfl, H1⟩ := am_ir_use H0
  obtain ⟨n, f, hq, hin, K⟩ := am_ari_use H1
  intro ad H locs ls had hn hP hD hS hok hl hLo hst hu1 hu2
  have h40 := am_hi_arr hok hr hq (by intro z; cases z)
  have hqn : q < h.1 := hst _ (List.mem_cons_of_mem _ List.mem_cons_self) q rfl
  have hw := am_ws_at (dA := dA) (ad := ad) h40 hqn
  rw [hq] at hw
  exact va_cald hx hb hK hP (q - 40) 1 hw rfl hin hd (K ad H locs ls had hn hP hD hS hok hl hLo (List.forall_mem_cons.mpr ⟨am_okv_int, fun v hv => hst v (List.mem_cons_of_mem _ (List.mem_cons_of_mem _ hv))⟩) hu1 hu2)
theorem ams_laload (hx : p.tables.exec = Jvm.exec) (hb : c.code = cc) (hK : va_K D vwCl (am_tys dA) s) (hr : am_roS ro) (hd : decode cc pc = .ok (.laload, 1)) (H0 : am_ir st (fun i q r => am_arl h q (fun n f => vp_in i n ∧ am_Wp p l e R s m args below meth c D dA A ro ad0 n0 nL lim Qm (pc + 1, L, .long (f i.toNatClampNeg) :: r, u) h))) : am_Wp p l e R s m args below meth c D dA A ro ad0 n0 nL lim Qm (pc, L, st, u) h := by
  obtain ⟨i, q, r, rfl, H1⟩ := am_ir_use H0
  obtain ⟨n, f, hq, hin, K⟩ := am_arl_use H1
  intro ad H locs ls had hn hP hD hS hok hl hLo hst hu1 hu2
  have h40 := am_hi_arr hok hr hq (by intro z; cases z)
  have hqn : q < h.1 := hst _ (List.mem_cons_of_mem _ List.mem_cons_self) q rfl
  have hw := am_ws_at (dA := dA) (ad := ad) h40 hqn
  rw [hq] at hw
  exact va_lald hx hb hK hP (q - 40) 3 hw rfl hin hd (K ad H locs ls had hn hP hD hS hok hl hLo (List.forall_mem_cons.mpr ⟨am_okv_long, fun v hv => hst v (List.mem_cons_of_mem _ (List.mem_cons_of_mem _ hv))⟩) hu1 hu2)
theorem ams_aaload (hx : p.tables.exec = Jvm.exec) (hb : c.code = cc) (hK : va_K D vwCl (am_tys dA) s) (hr : am_roS ro) (hd : decode cc pc = .ok (.aaload, 1)) (H0 : am_ir st (fun i q r => am_arr h q (fun _ n f => vp_in i n ∧ ∃ q1, f i.toNatClampNeg = some q1 ∧ am_Wp p l e R s m args below meth c D dA A ro ad0 n0 nL lim Qm (pc + 1, L, .ref q1 :: r, u) h))) : am_Wp p l e R s m args below meth c D dA A ro ad0 n0 nL lim Qm (pc, L, st, u) h := by
  obtain ⟨i, q, r, rfl, H1⟩ := am_ir_use H0
  obtain ⟨C, n, f, hq, hin, q1, hq1, K⟩ := am_arr_use H1
  intro ad H locs ls had hn hP hD hS hok hl hLo hst hu1 hu2
  have h40 := am_hi_arr hok hr hq (by intro z; cases z)
  have hqn : q < h.1 := hst _ (List.mem_cons_of_mem _ List.mem_cons_self) q rfl
  have hw := am_ws_at (dA := dA) (ad := ad) h40 hqn
  rw [hq] at hw
  have K' := K ad H locs ls had hn hP hD hS hok hl hLo (List.forall_mem_cons.mpr ⟨am_okv_ref ((hok.2.1 q hqn).1 _ _ f hq _ q1 hq1), fun v hv => hst v (List.mem_cons_of_mem _ (List.mem_cons_of_mem _ hv))⟩) hu1 hu2
  refine va_aldq hx hb hK hP (q - 40) 4 hw rfl hin hd ?_
  have e1 : va_rf (((f i.toNatClampNeg)).map ad) = am_cv ad (.ref q1) := by rw [hq1]; rfl
  show W p l e R s m args below meth c H locs u.1 u.2 Qm (F0 m (pc + 1) ls (va_rf ((f i.toNatClampNeg).map ad) :: r.map (am_cv ad)))
  rw [e1]
  exact K' 
theorem ams_iastore (hx : p.tables.exec = Jvm.exec) (hb : c.code = cc) (hK : va_K D vwCl (am_tys dA) s) (hr : am_roS ro) (hd : decode cc pc = .ok (.iastore, 1)) (H0 : am_i1 st (fun x st' => am_ir st' (fun i q r => am_ari h q .int (fun n f => vp_in i n ∧ am_Wp p l e R s m args below meth c D dA A ro ad0 n0 nL lim Qm (pc + 1, L, r, u) (am_set h q (.inl (.int, n, .inl (upd f i.toNatClampNeg x)))))))) : am_Wp p l e R s m args below meth c D dA A ro ad0 n0 nL lim Qm (pc, L, st, u) h := by
  obtain ⟨x, st', rfl, H1⟩ := am_i1_use H0
  obtain ⟨i, q, r, rfl, H2⟩ := am_ir_use H1
  obtain ⟨n, f, hq, hin, K⟩ := am_ari_use H2
  intro ad H locs ls had hn hP hD hS hok hl hLo hst hu1 hu2
  have h40 := am_hi_arr hok hr hq (by intro z; cases z)
  have hqn : q < h.1 := hst _ (List.mem_cons_of_mem _ (List.mem_cons_of_mem _ List.mem_cons_self)) q rfl
  have hw := am_ws_at (dA := dA) (ad := ad) h40 hqn
  rw [hq] at hw
  refine va_iast hx hb hK hP hD hS (q - 40) 0 hw rfl hin hd (fun H1 locs1 a1 a2 a3 => ?_)
  have e1 : am_ws dA ad (am_set h q (.inl (.int, n, .inl (upd f i.toNatClampNeg x)))) = (am_ws dA ad h).set (q - 40) (ad q, .inl (dA 0, n, .inl (upd f i.toNatClampNeg x))) := am_ws_set h40 hqn _
  exact K ad H1 locs1 ls had hn (by rw [e1]; exact a1) (by rw [e1]; exact a2) a3 (am_okh_set hok h40 ⟨fun ty k f e => (by cases e), fun ci' fs' e => (by cases e), fun _ n x e => (by cases e)⟩) hl hLo (fun v hv => hst v (List.mem_cons_of_mem _ (List.mem_cons_of_mem _ (List.mem_cons_of_mem _ hv)))) hu1 hu2
theorem ams_bastore (hx : p.tables.exec = Jvm.exec) (hb : c.code = cc) (hK : va_K D vwCl (am_tys dA) s) (hr : am_roS ro) (hd : decode cc pc = .ok (.bastore, 1)) (H0 : am_i1 st (fun x st' => am_ir st' (fun i q r => am_ari h q .boolean (fun n f => vp_in i n ∧ am_Wp p l e R s m args below meth c D dA A ro ad0 n0 nL lim Qm (pc + 1, L, r, u) (am_set h q (.inl (.boolean, n, .inl (upd f i.toNatClampNeg (vp_nar .boolean x))))))))) : am_Wp p l e R s m args below meth c D dA A ro ad0 n0 nL lim Qm (pc, L, st, u) h := by
  obtain ⟨x, st', rfl, H1⟩ := am_i1_use H0
  obtain ⟨i, q, r, rfl, H2⟩ := am_ir_use H1
  obtain ⟨n, f, hq, hin, K⟩ := am_ari_use H2
  intro ad H locs ls had hn hP hD hS hok hl hLo hst hu1 hu2
  have h40 := am_hi_arr hok hr hq (by intro z; cases z)
  have hqn : q < h.1 := hst _ (List.mem_cons_of_mem _ (List.mem_cons_of_mem _ List.mem_cons_self)) q rfl
  have hw := am_ws_at (dA := dA) (ad := ad) h40 hqn
  rw [hq] at hw
  refine va_zast hx hb hK hP hD hS (q - 40) 2 hw rfl hin hd (fun H1 locs1 a1 a2 a3 => ?_)
  have e1 : am_ws dA ad (am_set h q (.inl (.boolean, n, .inl (upd f i.toNatClampNeg (vp_nar .boolean x))))) = (am_ws dA ad h).set (q - 40) (ad q, .inl (dA 2, n, .inl (upd f i.toNatClampNeg (vp_nar .boolean x)))) := am_ws_set h40 hqn _
  exact K ad H1 locs1 ls had hn (by rw [e1]; exact a1) (by rw [e1]; exact a2) a3 (am_okh_set hok h40 ⟨fun ty k f e => (by cases e), fun ci' fs' e => (by cases e), fun _ n x e => (by cases e)⟩) hl hLo (fun v hv => hst v (List.mem_cons_of_mem _ (List.mem_cons_of_mem _ (List.mem_cons_of_mem _ hv)))) hu1 hu2
theorem ams_castore (hx : p.tables.exec = Jvm.exec) (hb : c.code = cc) (hK : va_K D vwCl (am_tys dA) s) (hr : am_roS ro) (hd : decode cc pc = .ok (.castore, 1)) (H0 : am_i1 st (fun x st' => am_ir st' (fun i q r => am_ari h q .char (fun n f => vp_in i n ∧ am_Wp p l e R s m args below meth c D dA A ro ad0 n0 nL lim Qm (pc + 1, L, r, u) (am_set h q (.inl (.char, n, .inl (upd f i.toNatClampNeg (vp_nar .char x))))))))) : am_Wp p l e R s m args below meth c D dA A ro ad0 n0 nL lim Qm (pc, L, st, u) h := by
  obtain ⟨x, st', rfl, H1⟩ := am_i1_use H0
  obtain ⟨i, q, r, rfl, H2⟩ := am_ir_use H1
  obtain ⟨n, f, hq, hin, K⟩ := am_ari_use H2
  intro ad H locs ls had hn hP hD hS hok hl hLo hst hu1 hu2
  have h40 := am_hi_arr hok hr hq (by intro z; cases z)
  have hqn : q < h.1 := hst _ (List.mem_cons_of_mem _ (List.mem_cons_of_mem _ List.mem_cons_self)) q rfl
  have hw := am_ws_at (dA := dA) (ad := ad) h40 hqn
  rw [hq] at hw
  refine va_cast hx hb hK hP hD hS (q - 40) 1 hw rfl hin hd (fun H1 locs1 a1 a2 a3 => ?_)
  have e1 : am_ws dA ad (am_set h q (.inl (.char, n, .inl (upd f i.toNatClampNeg (vp_nar .char x))))) = (am_ws dA ad h).set (q - 40) (ad q, .inl (dA 1, n, .inl (upd f i.toNatClampNeg (vp_nar .char x)))) := am_ws_set h40 hqn _
  exact K ad H1 locs1 ls had hn (by rw [e1]; exact a1) (by rw [e1]; exact a2) a3 (am_okh_set hok h40 ⟨fun ty k f e => (by cases e), fun ci' fs' e => (by cases e), fun _ n x e => (by cases e)⟩) hl hLo (fun v hv => hst v (List.mem_cons_of_mem _ (List.mem_cons_of_mem _ (List.mem_cons_of_mem _ hv)))) hu1 hu2
theorem ams_lastore (hx : p.tables.exec = Jvm.exec) (hb : c.code = cc) (hK : va_K D vwCl (am_tys dA) s) (hr : am_roS ro) (hd : decode cc pc = .ok (.lastore, 1)) (H0 : am_l1 st (fun x st' => am_ir st' (fun i q r => am_arl h q (fun n f => vp_in i n ∧ am_Wp p l e R s m args below meth c D dA A ro ad0 n0 nL lim Qm (pc + 1, L, r, u) (am_set h q (.inl (.long, n, .inr (.inl (vp_updL f i.toNatClampNeg x))))))))) : am_Wp p l e R s m args below meth c D dA A ro ad0 n0 nL lim Qm (pc, L, st, u) h := by
  obtain ⟨x, st', rfl, H1⟩ := am_l1_use H0
  obtain ⟨i, q, r, rfl, H2⟩ := am_ir_use H1
  obtain ⟨n, f, hq, hin, K⟩ := am_arl_use H2
  intro ad H locs ls had hn hP hD hS hok hl hLo hst hu1 hu2
  have h40 := am_hi_arr hok hr hq (by intro z; cases z)
  have hqn : q < h.1 := hst _ (List.mem_cons_of_mem _ (List.mem_cons_of_mem _ List.mem_cons_self)) q rfl
  have hw := am_ws_at (dA := dA) (ad := ad) h40 hqn
  rw [hq] at hw
  refine va_last hx hb hK hP hD hS (q - 40) 3 hw rfl hin hd (fun H1 locs1 a1 a2 a3 => ?_)
  have e1 : am_ws dA ad (am_set h q (.inl (.long, n, .inr (.inl (vp_updL f i.toNatClampNeg x))))) = (am_ws dA ad h).set (q - 40) (ad q, .inl (dA 3, n, .inr (.inl (vp_updL f i.toNatClampNeg x)))) := am_ws_set h40 hqn _
  exact K ad H1 locs1 ls had hn (by rw [e1]; exact a1) (by rw [e1]; exact a2) a3 (am_okh_set hok h40 ⟨fun ty k f e => (by cases e), fun ci' fs' e => (by cases e), fun _ n x e => (by cases e)⟩) hl hLo (fun v hv => hst v (List.mem_cons_of_mem _ (List.mem_cons_of_mem _ (List.mem_cons_of_mem _ hv)))) hu1 hu2
theorem ams_aastore (hx : p.tables.exec = Jvm.exec) (hb : c.code = cc) (hK : va_K D vwCl (am_tys dA) s) (hr : am_roS ro) (hd : decode cc pc = .ok (.aastore, 1)) (H0 : am_r1 st (fun v st' => am_ir st' (fun i q r => am_arr h q (fun C n f => am_obj h v 4 (fun _ => C = RX7 ∧ vp_in i n ∧ am_Wp p l e R s m args below meth c D dA A ro ad0 n0 nL lim Qm (pc + 1, L, r, u) (am_set h q (.inl (.object C, n, .inr (.inr (.inr (.inr (va_up f i.toNatClampNeg (some v)))))))))))) ) : am_Wp p l e R s m args below meth c D dA A ro ad0 n0 nL lim Qm (pc, L, st, u) h := by
  obtain ⟨v, st', rfl, H1⟩ := am_r1_use H0
  obtain ⟨i, q, r, rfl, H2⟩ := am_ir_use H1
  obtain ⟨C, n, f, hq, H3⟩ := am_arr_use H2
  obtain ⟨vs, hv, rfl, hin, K⟩ := am_obj_use H3
  intro ad H locs ls had hn hP hD hS hok hl hLo hst hu1 hu2
  have h40 := am_hi_arr hok hr hq (by intro z; cases z)
  have hqn : q < h.1 := hst _ (List.mem_cons_of_mem _ (List.mem_cons_of_mem _ List.mem_cons_self)) q rfl
  have hv40 := am_hi_obj hok hr hv (by decide)
  have hvn : v < h.1 := hst _ List.mem_cons_self v rfl
  have hw := am_ws_at (dA := dA) (ad := ad) h40 hqn
  have hwv := am_ws_at (dA := dA) (ad := ad) hv40 hvn
  rw [hq] at hw
  rw [hv] at hwv
  refine va_astq hx hb hK hP hD hS (q - 40) 4 (v - 40) 4 hw rfl hwv rfl hin hd (fun H1 locs1 a1 a2 a3 => ?_)
  have ef : (fun j => (va_up f i.toNatClampNeg (some v) j).map ad) = va_up (fun j => (f j).map ad) i.toNatClampNeg (some (ad v)) := by
    funext j
    by_cases e : j = i.toNatClampNeg
    · rw [e, am_up_s, am_up_s]; rfl
    · rw [am_up_n e, am_up_n e]
  have e1 : am_ws dA ad (am_set h q (.inl (.object RX7, n, .inr (.inr (.inr (.inr (va_up f i.toNatClampNeg (some v)))))))) = (am_ws dA ad h).set (q - 40) (ad q, .inl (dA 4, n, .inr (.inr (.inr (.inr (va_up (fun j => (f j).map ad) i.toNatClampNeg (some (ad v)))))))) := by
    rw [am_ws_set h40 hqn, ← ef]; rfl
  refine K ad H1 locs1 ls had hn (by rw [e1]; exact a1) (by rw [e1]; exact a2) a3 (am_okh_set hok h40 ⟨fun ty k f' e j q' hj => ?_, fun ci' fs' e => (by cases e), fun _ n x e => (by cases e)⟩) hl hLo (fun v hv => hst v (List.mem_cons_of_mem _ (List.mem_cons_of_mem _ (List.mem_cons_of_mem _ hv)))) hu1 hu2
  cases e
  by_cases ej : j = i.toNatClampNeg
  · rw [ej, am_up_s] at hj; cases hj; exact hvn
  · rw [am_up_n ej] at hj; exact (hok.2.1 q hqn).1 _ _ f hq j q' hj
theorem ams_arraylength (hx : p.tables.exec = Jvm.exec) (hb : c.code = cc) (hK : va_K D vwCl (am_tys dA) s) (hr : am_roS ro) (hro : am_RO ro ad0 A s s.heap) (hn0 : 40 ≤ n0) (hd : decode cc pc = .ok (.arraylength, 1)) (H0 : am_r1 st (fun q r => am_len h q (fun n => am_Wp p l e R s m args below meth c D dA A ro ad0 n0 nL lim Qm (pc + 1, L, .int (Int32.ofNat n) :: r, u) h))) : am_Wp p l e R s m args below meth c D dA A ro ad0 n0 nL lim Qm (pc, L, st, u) h := by
  obtain ⟨q, r, rfl, H1⟩ := am_r1_use H0
  obtain ⟨ty, n, x, hq, K⟩ := am_len_use H1
  intro ad H locs ls had hn hP hD hS hok hl hLo hst hu1 hu2
  have K' := K ad H locs ls had hn hP hD hS hok hl hLo (List.forall_mem_cons.mpr ⟨am_okv_int, fun v hv => hst v (List.mem_cons_of_mem _ hv)⟩) hu1 hu2
  have hqn : q < h.1 := hst _ List.mem_cons_self q rfl
  by_cases hty : ty = .float
  · subst hty
    have hq40 := am_lo_arr hok hq hqn
    have hf : ∃ f, x = .inl f := by
      have e2 := hok.2.2 q hq40
      rw [hq] at e2
      rcases hr q hq40 with z | ⟨n', f, z⟩
      · rw [z] at e2; cases e2
      · rw [z] at e2; cases e2; exact ⟨f, rfl⟩
    obtain ⟨f, rfl⟩ := hf
    have hT := hro.1 q n f hq40 (am_ro_at hok hq hq40)
    show W p l e R s m args below meth c H locs u.1 u.2 Qm (F0 m pc ls (.ref (ad q) :: r.map (am_cv ad)))
    rw [had q (by omega)]
    exact va_tlen hx hb hT hS rfl hd K'
  · have h40 := am_hi_arr hok hr hq hty
    have hw := am_ws_at (dA := dA) (ad := ad) h40 hqn
    rw [hq] at hw
    have ht : ∃ (t0 : Nat) (ty' : FieldType), (am_tys dA)[t0]? = some (am_ca dA ty, ty') := by
      unfold am_ca
      split
      · exact ⟨0, _, rfl⟩
      · exact ⟨1, _, rfl⟩
      · exact ⟨2, _, rfl⟩
      · exact ⟨3, _, rfl⟩
      · exact ⟨4, _, rfl⟩
    obtain ⟨t0, ty', ht⟩ := ht
    exact va_alen hx hb hK hP (q - 40) t0 hw ht rfl hd K' 
end
