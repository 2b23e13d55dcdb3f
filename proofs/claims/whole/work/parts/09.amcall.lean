/-! the program runs: am_call d k: method k, with at most d frames -/
def am_cdOf (k : Nat) : List (Nat × am_E) := (am_ct[k]?).getD []
def am_cm (k : Nat) : am_M := fun pc => (am_cdOf k).lookup pc
def am_ent : List Value → List (Option Value)
  | [] => []
  | v :: vs => some v :: (match v with
    | .long _ => none :: am_ent vs
    | .double _ => none :: am_ent vs
    | _ => am_ent vs)
def am_loc (as : List Value) (n : Nat) : List (Option Value) := am_ent as ++ List.replicate (n - (am_ent as).length) none
def am_prim (d k : Nat) (as : List Value) (h : am_H) (Q : Option Value → am_H → Prop) : Prop := match k, as with
  | 904, [.ref _] => Q none h
  | 900, [.ref a, .int sp, .ref b, .int dp, .int n] => am_ari h a .int (fun n0 f => am_ari h b .int (fun n1 g => ¬ sp < 0 ∧ ¬ dp < 0 ∧ ¬ n < 0 ∧ sp.toNatClampNeg + n.toNatClampNeg ≤ n0 ∧ dp.toNatClampNeg + n.toNatClampNeg ≤ n1 ∧ Q none (am_set h b (.inl (.int, n1, .inl (va_cpy f g sp.toNatClampNeg dp.toNatClampNeg n.toNatClampNeg))))))
  | 901, [.ref i] => i < 16 ∧ 6 ≤ d ∧ Q (some (.int (nI (am_txt i).length))) h
  | 902, [.ref i, .int x] => i < 16 ∧ 6 ≤ d ∧ vp_in x (am_txt i).length ∧ Q (some (.int ((am_txt i).getD x.toNatClampNeg 0))) h
  | 903, [.ref i] => i < 16 ∧ 6 ≤ d ∧ Q (some (.int (if (am_txt i).length = 0 then 1 else 0))) h
  | _, _ => False
def am_call : Nat → am_K
  | 0, _, _, _, _ => False
  | d + 1, k, as, h, Q => if 900 ≤ k then am_prim d k as h Q else match am_mt[k]? with
    | some r => (am_ent as).length ≤ r.2.2.1 ∧ am_wp (am_call d) (am_lim k) (am_cm k) Q (fun _ => False) (0, am_loc as r.2.2.1, [], 0, 0) h
    | none => False
theorem am_prim_mono {d d' k : Nat} (hd : d ≤ d') {as : List Value} {h : am_H} {Q Q' : Option Value → am_H → Prop} (hQ : ∀ v h, Q v h → Q' v h) (H : am_prim d k as h Q) : am_prim d' k as h Q' := by
  unfold am_prim at H ⊢
  split at H
  · exact hQ _ _ H
  · exact am_ari_mono (fun _ _ => am_ari_mono (fun _ _ z => ⟨z.1, z.2.1, z.2.2.1, z.2.2.2.1, z.2.2.2.2.1, hQ _ _ z.2.2.2.2.2⟩)) H
  · exact ⟨H.1, by omega, hQ _ _ H.2.2⟩
  · exact ⟨H.1, by omega, H.2.2.1, hQ _ _ H.2.2.2⟩
  · exact ⟨H.1, by omega, hQ _ _ H.2.2⟩
  · exact H.elim
theorem am_call_mono : ∀ (d d' : Nat), d ≤ d' → am_Kmono (am_call d) (am_call d')
  | 0, _, _ => fun _ _ _ _ _ _ H => H.elim
  | d + 1, 0, h => by omega
  | d + 1, d' + 1, h => by
    intro k as hp Q Q' hQ H
    have ih := am_call_mono d d' (by omega)
    unfold am_call at H ⊢
    split at H
    · rename_i hk
      rw [if_pos hk]
      exact am_prim_mono (by omega) hQ H
    · rename_i hk
      rw [if_neg hk]
      split at H
      · exact ⟨H.1, am_wp_mono ih hQ (fun _ z => z) H.2⟩
      · exact H.elim
theorem am_cK (d : Nat) : am_Kmono (am_call d) (am_call d) := am_call_mono d d (Nat.le_refl d)
/-! what the tables must say of an instruction -/
def am_gt : List Cond := lw_tbl.filter goodWord
def am_inT (w : Cond) : Bool := decide (w ∈ lw_tbl) && goodWord w
theorem am_inT_use {w : Cond} (h : am_inT w = true) : w ∈ am_gt := by
  unfold am_inT at h
  rw [Bool.and_eq_true, decide_eq_true_eq] at h
  exact List.mem_filter.mpr h
def am_tyOf (ci : Nat) : Nat → FieldType := match ci with
  | 0 => tyX1
  | 1 => tyX4
  | 2 => tyX5
  | 3 => tyX6
  | 4 => tyX7
  | 5 => tyX8
  | 6 => tyX9
  | 7 => tyX10
  | _ => tyX11
def am_ftyB (t : Nat) (ty : FieldType) : Bool := match t, ty with
  | 0, .int => true
  | 1, .object _ => true
  | 1, .array _ => true
  | 2, .boolean => true
  | 3, .char => true
  | _, _ => false
theorem am_ftyB_use {t : Nat} {ty : FieldType} (h : am_ftyB t ty = true) : am_fty t ty := by
  unfold am_ftyB at h
  split at h
  · exact rfl
  · exact Or.inl ⟨_, rfl⟩
  · exact Or.inr ⟨_, rfl⟩
  · exact rfl
  · exact rfl
  · cases h
