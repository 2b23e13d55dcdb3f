/-! THE LAW: class and model side by side -/
section
variable {h h' : am_H} {M : Ms}
theorem RX_fy (hX : RX h M) (y : Fy h h') : RX h' M := by
  obtain ⟨a, b, dr, hX⟩ := hX
  have hab := hX.o.2
  have f : ∀ x, x < 152 → h'.2 x = h.2 x := fun x hx => y.2 x (Or.inl hx)
  exact ⟨a, b, dr, ⟨(f 40 (by omega)).trans hX.o.1, hX.o.2⟩, ⟨RS_fr hX.s.1 (fun x _ _ => f x (by omega)), hX.s.2⟩, ⟨hX.z.choose, RS_fr hX.z.choose_spec (fun x _ _ => f x (by omega))⟩, RPm_fr hX.p (fun x _ _ => f x (by omega)), ⟨hX.t.choose, hX.t.choose_spec.choose, RT_fr hX.t.choose_spec.choose_spec (fun x _ _ => f x (by omega))⟩, ⟨RD_fr hX.d.1 (fun x _ _ => f x (by omega)), hX.d.2⟩, RK_fr hX.k (fun x _ _ => f x (by omega)), ⟨RC_fr hX.f.1 (fun x _ _ => f x (by omega)), hX.f.2⟩, ⟨RC_fr hX.hr.1 (fun x _ _ => f x (by omega)), hX.hr.2⟩, ⟨hX.y.choose, (f 142 (by omega)).trans hX.y.choose_spec⟩, ⟨hX.l.choose, (f 143 (by omega)).trans hX.l.choose_spec⟩, ⟨RF_fr hX.r.1 (fun x _ _ => f x (by omega)), hX.r.2⟩, RU0_fr hX.u (fun x _ _ => f x (by omega)), RO_fr hX.c (fun x hx => f x (by omega))⟩
theorem RY_fx (hY : RY h M) (x : ∀ q, 152 ≤ q → q < 181 → h'.2 q = h.2 q) : RY h' M := by
  obtain ⟨F, A, R, W, iv⟩ := hY
  exact ⟨F, A, R, ⟨Fy.rf, (x 152 (by omega) (by omega)).trans W.o, (x 153 (by omega) (by omega)).trans W.r, fun k k1 k2 => (x k (by omega) (by omega)).trans (W.2.2.2 k k1 k2)⟩, iv⟩
end
/-- what a helper of the law does with the answer -/
def am_hq (o : Nat) (Q : Option Value → am_H → Prop) : Option Value → am_H → Prop := fun v h' => match v with
  | some (.int i) => am_arl h' o (fun n f => vp_in 0 n ∧ Q (some (.int 0)) (am_set h' o (.inl (.long, n, .inr (.inl (vp_updL f (0 : Int32).toNatClampNeg i.toInt64))))))
  | _ => False
def am_hqL (o : Nat) (Q : Option Value → am_H → Prop) : Option Value → am_H → Prop := fun v h' => match v with
  | some (.long i) => am_arl h' o (fun n f => vp_in 0 n ∧ Q (some (.int 0)) (am_set h' o (.inl (.long, n, .inr (.inl (vp_updL f (0 : Int32).toNatClampNeg i))))))
  | _ => False
theorem am_hq_mono {o : Nat} {Q Q' : Option Value → am_H → Prop} (hQ : ∀ v h, Q v h → Q' v h) : ∀ v h, am_hq o Q v h → am_hq o Q' v h := by
  intro v h H
  unfold am_hq at H ⊢
  split at H
  · exact am_arl_mono (fun _ _ z => ⟨z.1, hQ _ _ z.2⟩) H
  · exact H.elim
theorem am_hqL_mono {o : Nat} {Q Q' : Option Value → am_H → Prop} (hQ : ∀ v h, Q v h → Q' v h) : ∀ v h, am_hqL o Q v h → am_hqL o Q' v h := by
  intro v h H
  unfold am_hqL at H ⊢
  split at H
  · exact am_arl_mono (fun _ _ z => ⟨z.1, hQ _ _ z.2⟩) H
  · exact H.elim
/-- the four helpers -/
def am_hl (d k : Nat) (as : List Value) (h : am_H) (Q : Option Value → am_H → Prop) : Prop := match k, as with
  | 600, [.ref x, .int b, .int w, .ref o] => am_obj h x 7 (fun _ => am_wp (am_call d) (0, 0) cm_X10_bracelet (am_hq o Q) (fun h' => Q (some (.int 1)) h') (0, am_loc [.ref x, .int b, .int w] 5, [], 0, 0) h)
  | 601, [.ref x, .int b, .int w, .ref o] => am_obj h x 7 (fun _ => am_wp (am_call d) (0, 0) cm_X10_bead (am_hq o Q) (fun h' => Q (some (.int 1)) h') (0, am_loc [.ref x, .int b, .int w] 3, [], 0, 0) h)
  | 602, [.ref x, .int b, .ref o] => am_obj h x 7 (fun _ => am_wp (am_call d) (0, 0) cm_X10_stock (am_hq o Q) (fun h' => Q (some (.int 1)) h') (0, am_loc [.ref x, .int b] 2, [], 0, 0) h)
  | 603, [.ref x, .int b, .ref o] => am_obj h x 7 (fun _ => am_wp (am_call d) (0, 0) cm_X10_row (am_hqL o Q) (fun h' => Q (some (.int 1)) h') (0, am_loc [.ref x, .int b] 2, [], 0, 0) h)
  | _, _ => False
theorem am_hl_mono {d k : Nat} {as : List Value} {h : am_H} {Q Q' : Option Value → am_H → Prop} (hQ : ∀ v h, Q v h → Q' v h) (H : am_hl d k as h Q) : am_hl d k as h Q' := by
  unfold am_hl at H ⊢
  split at H
  · exact am_obj_mono (fun _ => am_wp_mono (am_cK d) (am_hq_mono hQ) (fun _ => hQ _ _)) H
  · exact am_obj_mono (fun _ => am_wp_mono (am_cK d) (am_hq_mono hQ) (fun _ => hQ _ _)) H
  · exact am_obj_mono (fun _ => am_wp_mono (am_cK d) (am_hq_mono hQ) (fun _ => hQ _ _)) H
  · exact am_obj_mono (fun _ => am_wp_mono (am_cK d) (am_hqL_mono hQ) (fun _ => hQ _ _)) H
  · exact H.elim
/-- a call of the law -/
def lawK (d : Nat) : am_K := fun k as h Q => if 600 ≤ k then am_hl d k as h Q else am_call d k as h Q
theorem lw_cK (d : Nat) : am_Kmono (lawK d) (lawK d) := by
  intro k as h Q Q' hQ H
  unfold lawK at H ⊢
  split
  · rename_i c
    rw [if_pos c] at H
    exact am_hl_mono hQ H
  · rename_i c
    rw [if_neg c] at H
    exact am_cK d k as h Q Q' hQ H
/-- between two calls of the law -/
def LW (L : Nat) (xs : Nat → Int32) (h : am_H) (M : Ms) : Prop := RX h M ∧ RY h M ∧ (∃ f, h.2 181 = aL 1 f) ∧ h.2 34 = .inl (.float, L, .inl xs)
section
variable {d L : Nat} {xs : Nat → Int32} {h h' : am_H} {M : Ms} {Q : Option Value → am_H → Prop}
theorem LW.x (w : LW L xs h M) : RX h M := w.1
theorem LW.y (w : LW L xs h M) : RY h M := w.2.1
theorem LW.o (w : LW L xs h M) : ∃ f, h.2 181 = aL 1 f := w.2.2.1
theorem LW.s (w : LW L xs h M) : h.2 34 = .inl (.float, L, .inl xs) := w.2.2.2
/-- the class has answered, then the model -/
theorem LW.go {h1 h2 : am_H} {M' : Ms} (w : LW L xs h M) (x : Fx h h1) (y : Fy h1 h2) (rx : RX h1 M') (ry : RY h2 M') : LW L xs h2 M' :=
  ⟨RX_fy rx y, ry, by obtain ⟨f, e⟩ := w.o; exact ⟨f, (y.2 181 (by omega)).trans ((x.2 181 (by omega)).trans e)⟩, (y.2 34 (by omega)).trans ((x.2 34 (by omega)).trans w.s)⟩
theorem LW.y1 {h1 : am_H} (w : LW L xs h M) (x : Fx h h1) : RY h1 M := RY_fx w.y (fun q q1 _ => x.2 q (by omega))
theorem LW.s1 {h1 : am_H} (w : LW L xs h M) (x : Fx h h1) : h1.2 34 = .inl (.float, L, .inl xs) := (x.2 34 (by omega)).trans w.s
theorem RX.o40 (hX : RX h M) : ∃ fs, h.2 40 = .inr (7, fs) := by
  obtain ⟨a, b, dr, hX⟩ := hX
  exact ⟨_, hX.o.1⟩
theorem RY.o152 (hY : RY h M) : ∃ fs, h.2 152 = .inr (8, fs) := by
  obtain ⟨F, A, R, W, _⟩ := hY
  exact ⟨_, W.o⟩
theorem sc_in {i : Nat} {j : Int32} (k : Nat) (hj : j = nI k := by rfl) (hi : i + k < L := by omega) (hL : L ≤ 2560 := by omega) : vp_in (nI i + j) L := by
  subst hj
  rw [nI_add]
  exact vp_in_nI hi (by omega)
end
