section
variable {st : List Value} {ls : List (Option Value)} {h : am_H} {p i ci : Nat}
theorem am_br_mono {c a b a' b' : Prop} (h1 : a → a') (h2 : b → b') (H : am_br c a b) : am_br c a' b' := ⟨fun z => h1 (H.1 z), fun z => h2 (H.2 z)⟩
theorem am_i1_mono {g g' : Int32 → List Value → Prop} (hg : ∀ x r, g x r → g' x r) : am_i1 st g → am_i1 st g' := by
  unfold am_i1; split <;> first | exact hg _ _ | exact id
theorem am_i2_mono {g g' : Int32 → Int32 → List Value → Prop} (hg : ∀ x y r, g x y r → g' x y r) : am_i2 st g → am_i2 st g' := by
  unfold am_i2; split <;> first | exact hg _ _ _ | exact id
theorem am_l1_mono {g g' : Int64 → List Value → Prop} (hg : ∀ x r, g x r → g' x r) : am_l1 st g → am_l1 st g' := by
  unfold am_l1; split <;> first | exact hg _ _ | exact id
theorem am_l2_mono {g g' : Int64 → Int64 → List Value → Prop} (hg : ∀ x y r, g x y r → g' x y r) : am_l2 st g → am_l2 st g' := by
  unfold am_l2; split <;> first | exact hg _ _ _ | exact id
theorem am_r1_mono {g g' : Nat → List Value → Prop} (hg : ∀ x r, g x r → g' x r) : am_r1 st g → am_r1 st g' := by
  unfold am_r1; split <;> first | exact hg _ _ | exact id
theorem am_ir_mono {g g' : Int32 → Nat → List Value → Prop} (hg : ∀ x y r, g x y r → g' x y r) : am_ir st g → am_ir st g' := by
  unfold am_ir; split <;> first | exact hg _ _ _ | exact id
theorem am_ldi_mono {g g' : Int32 → Prop} (hg : ∀ x, g x → g' x) : am_ldi ls i g → am_ldi ls i g' := by
  unfold am_ldi; split <;> first | exact hg _ | exact id
theorem am_ldl_mono {g g' : Int64 → Prop} (hg : ∀ x, g x → g' x) : am_ldl ls i g → am_ldl ls i g' := by
  unfold am_ldl; split <;> first | exact hg _ | exact id
theorem am_lda_mono {g g' : Nat → Prop} (hg : ∀ x, g x → g' x) : am_lda ls i g → am_lda ls i g' := by
  unfold am_lda; split <;> first | exact hg _ | exact id
theorem am_obj_mono {g g' : List Value → Prop} (hg : ∀ x, g x → g' x) : am_obj h p ci g → am_obj h p ci g' := by
  unfold am_obj; split
  · split <;> first | exact hg _ | exact id
  · exact id
theorem am_fit_mono {t : Nat} {v : Value} {a a' : Prop} (hg : a → a') : am_fit t v a → am_fit t v a' := by
  unfold am_fit; split <;> first | exact hg | exact id | exact fun H => ⟨H.1, hg H.2⟩
theorem am_ari_mono {ty : FieldType} {g g' : Nat → (Nat → Int32) → Prop} (hg : ∀ x y, g x y → g' x y) : am_ari h p ty g → am_ari h p ty g' := by
  unfold am_ari; split
  · split <;> first | exact hg _ _ | exact id
  · exact id
theorem am_rdi_mono {g g' : Nat → (Nat → Int32) → Prop} (hg : ∀ x y, g x y → g' x y) : am_rdi h p g → am_rdi h p g' := by
  unfold am_rdi; split <;> first | exact hg _ _ | exact id
theorem am_arl_mono {g g' : Nat → (Nat → Int64) → Prop} (hg : ∀ x y, g x y → g' x y) : am_arl h p g → am_arl h p g' := by
  unfold am_arl; split <;> first | exact hg _ _ | exact id
theorem am_arr_mono {g g' : String → Nat → (Nat → Option Nat) → Prop} (hg : ∀ x y z, g x y z → g' x y z) : am_arr h p g → am_arr h p g' := by
  unfold am_arr; split <;> first | exact hg _ _ _ | exact id
theorem am_len_mono {g g' : Nat → Prop} (hg : ∀ x, g x → g' x) : am_len h p g → am_len h p g' := by
  unfold am_len; split <;> first | exact hg _ | exact id
end
def am_Kmono (call call' : am_K) : Prop := ∀ m a h Q Q', (∀ v h', Q v h' → Q' v h') → call m a h Q → call' m a h Q'
theorem am_inv_mono {call call' : am_K} (hc : am_Kmono call call') {mno n ci : Nat} {k k' : am_F → am_H → Prop} (hk : ∀ f h, k f h → k' f h) {lim : Nat × Nat} {pc : Nat} {ls : List (Option Value)} {st : List Value} {u : Nat × Nat} {h : am_H} :
    am_inv call mno n ci k lim pc ls st u h → am_inv call' mno n ci k' lim pc ls st u h := by
  unfold am_inv
  intro H
  split at H
  · rename_i hcond
    rw [if_pos hcond]
    split at H
    · split at H
      · exact am_obj_mono (fun _ z => hc _ _ _ _ _ (fun _ _ => hk _ _) z) H
      · exact H
    · exact hc _ _ _ _ _ (fun _ _ => hk _ _) H
  · exact H.elim
set_option maxHeartbeats 4000000 in
theorem am_ins_mono {call call' : am_K} (hc : am_Kmono call call') {lim : Nat × Nat} {e : am_E} {Q Q' : Option Value → am_H → Prop} (hQ : ∀ v h, Q v h → Q' v h) {X X' : am_H → Prop} (hX : ∀ h, X h → X' h) {k k' : am_F → am_H → Prop} (hk : ∀ f h, k f h → k' f h) {pc : Nat} {ls : List (Option Value)} {st : List Value} {u : Nat × Nat} {h : am_H} :
    am_ins call lim e Q X k pc ls st u h → am_ins call' lim e Q' X' k' pc ls st u h := by
  obtain ⟨i, len, a, b, t, c, d⟩ := e
  cases i <;> first
    | exact fun H => H.elim
    | exact hk _ _
    | exact am_ldi_mono (fun _ => hk _ _)
    | exact am_ldl_mono (fun _ => hk _ _)
    | exact am_lda_mono (fun _ => hk _ _)
    | exact am_i1_mono (fun _ _ => hk _ _)
    | exact am_i2_mono (fun _ _ _ => hk _ _)
    | exact am_l1_mono (fun _ _ => hk _ _)
    | exact am_l2_mono (fun _ _ _ => hk _ _)
    | exact am_r1_mono (fun _ _ => hk _ _)
    | exact am_inv_mono hc hk
    | exact am_i2_mono (fun _ _ _ H => ⟨H.1, hk _ _ H.2⟩)
    | exact am_l2_mono (fun _ _ _ H => ⟨H.1, hk _ _ H.2⟩)
    | exact am_i1_mono (fun _ _ => am_br_mono (hk _ _) (hk _ _))
    | exact am_i2_mono (fun _ _ _ => am_br_mono (hk _ _) (hk _ _))
    | exact am_ir_mono (fun _ _ _ => am_rdi_mono (fun _ _ H => ⟨H.1, hk _ _ H.2⟩))
    | exact am_ir_mono (fun _ _ _ => am_ari_mono (fun _ _ H => ⟨H.1, hk _ _ H.2⟩))
    | exact am_ir_mono (fun _ _ _ => am_arl_mono (fun _ _ H => ⟨H.1, hk _ _ H.2⟩))
    | exact am_ir_mono (fun _ _ _ => am_arr_mono (fun _ _ _ H => ⟨H.1, H.2.choose, H.2.choose_spec.1, hk _ _ H.2.choose_spec.2⟩))
    | exact am_i1_mono (fun _ _ => am_ir_mono (fun _ _ _ => am_ari_mono (fun _ _ H => ⟨H.1, hk _ _ H.2⟩)))
    | exact am_l1_mono (fun _ _ => am_ir_mono (fun _ _ _ => am_arl_mono (fun _ _ H => ⟨H.1, hk _ _ H.2⟩)))
    | exact am_r1_mono (fun _ _ => am_ir_mono (fun _ _ _ => am_arr_mono (fun _ _ _ => am_obj_mono (fun _ H => ⟨H.1, H.2.1, hk _ _ H.2.2⟩))))
    | exact am_r1_mono (fun _ _ => am_len_mono (fun _ => hk _ _))
    | exact am_i1_mono (fun _ _ H => ⟨H.1, H.2.1, H.2.2.1, H.2.2.2.1, hk _ _ H.2.2.2.2⟩)
    | (unfold am_ins; dsimp only; split <;> first | exact hk _ _ | exact fun H => H.elim | (split <;> first | exact hk _ _ | exact fun H => H.elim))
    | skip
  case getfield =>
    refine am_r1_mono (fun _ _ => am_obj_mono (fun fs => ?_))
    split
    · exact hk _ _
    · exact id
  case putfield =>
    unfold am_ins; dsimp only
    split
    · refine am_obj_mono (fun fs => ?_)
      split
      · exact am_fit_mono (hk _ _)
      · exact id
    · exact id
  case new =>
    unfold am_ins; dsimp only
    split
    · exact fun H => ⟨H.1, hX _ H.2⟩
    · exact fun H => ⟨H.1, H.2.1, hk _ _ H.2.2⟩
  case ireturn =>
    unfold am_ins; dsimp only
    split
    · exact am_fit_mono (hQ _ _)
    · exact id
  case lreturn =>
    unfold am_ins; dsimp only
    split
    · exact hQ _ _
    · exact id
  case areturn =>
    unfold am_ins; dsimp only
    split
    · exact hQ _ _
    · exact id
  case return_ =>
    unfold am_ins; dsimp only
    split
    · exact hQ _ _
    · exact id
theorem am_step_mono {call call' : am_K} (hc : am_Kmono call call') {lim : Nat × Nat} {M : am_M} {Q Q' : Option Value → am_H → Prop} (hQ : ∀ v h, Q v h → Q' v h) {X X' : am_H → Prop} (hX : ∀ h, X h → X' h) {k k' : am_F → am_H → Prop} (hk : ∀ f h, k f h → k' f h) {f : am_F} {h : am_H} :
    am_step call lim M Q X k f h → am_step call' lim M Q' X' k' f h := by
  obtain ⟨pc, ls, st, u⟩ := f
  unfold am_step
  dsimp only
  split
  · exact am_ins_mono hc hQ hX hk
  · exact id
theorem am_wp_in {call : am_K} (hc : am_Kmono call call) {lim : Nat × Nat} {M : am_M} {Q : Option Value → am_H → Prop} {X : am_H → Prop} {f : am_F} {h : am_H} (H : am_step call lim M Q X (am_wp call lim M Q X) f h) : am_wp call lim M Q X f h :=
  fun P hP => hP _ _ (am_step_mono hc (fun _ _ z => z) (fun _ z => z) (fun _ _ z => z P hP) H)
/-- n steps at once -/
theorem am_run {call : am_K} (hc : am_Kmono call call) {lim : Nat × Nat} {M : am_M} {Q : Option Value → am_H → Prop} {X : am_H → Prop} (n : Nat) {f : am_F} {h : am_H} (H : am_steps call lim M Q X (am_wp call lim M Q X) n f h) : am_wp call lim M Q X f h := by
  have key : ∀ n f h, am_steps call lim M Q X (am_wp call lim M Q X) n f h → am_wp call lim M Q X f h := by
    intro n
    induction n with
    | zero => exact fun _ _ z => z
    | succ n ih => exact fun f h z => am_wp_in hc (am_step_mono hc (fun _ _ z => z) (fun _ z => z) ih z)
  exact key n f h H
theorem am_wp_mono {call call' : am_K} (hc : am_Kmono call call') {lim : Nat × Nat} {M : am_M} {Q Q' : Option Value → am_H → Prop} (hQ : ∀ v h, Q v h → Q' v h) {X X' : am_H → Prop} (hX : ∀ h, X h → X' h) {f : am_F} {h : am_H} (H : am_wp call lim M Q X f h) : am_wp call' lim M Q' X' f h :=
  fun P hP => H P (fun f h z => hP f h (am_step_mono hc hQ hX (fun _ _ z => z) z))
