theorem am_steps_sub {call : am_K} {lim : Nat × Nat} {M M' : am_M} {Q : Option Value → am_H → Prop} {X : am_H → Prop} {k : am_F → am_H → Prop} (hc : am_Kmono call call) (hM : ∀ pc e, M' pc = some e → M pc = some e) : ∀ (n : Nat) (f : am_F) (h : am_H), am_steps call lim M' Q X k n f h → am_steps call lim M Q X k n f h
  | 0, _, _, H => H
  | n + 1, (pc, ls, st, u), h, H => by
    have H' : am_step call lim M' Q X (am_steps call lim M' Q X k n) (pc, ls, st, u) h := H
    show am_step call lim M Q X (am_steps call lim M Q X k n) (pc, ls, st, u) h
    unfold am_step at H' ⊢
    simp only at H' ⊢
    split at H'
    · rename_i e he
      rw [hM pc e he]
      exact am_ins_mono hc (fun _ _ z => z) (fun _ z => z) (am_steps_sub hc hM n) H'
    · exact H'.elim
/-- a stretch of the law's code -/
def inL (q : Nat × am_E) : Bool := match cd_L_law.lookup q.1 with
  | some e => decide (e = q.2)
  | none => false
theorem lk_mem {α : Type} {cd : List (Nat × α)} {pc : Nat} {e : α} (h : cd.lookup pc = some e) : (pc, e) ∈ cd := by
  induction cd with
  | nil => cases h
  | cons q cd ih =>
    obtain ⟨a, b⟩ := q
    rw [List.lookup_cons] at h
    split at h
    · rename_i c
      have e1 := eq_of_beq c
      have e2 := Option.some.inj h
      subst e1 e2
      exact List.mem_cons_self
    · exact List.mem_cons_of_mem _ (ih h)
theorem sub_L {cd : List (Nat × am_E)} (h : cd.all inL = true) : ∀ pc e, cd.lookup pc = some e → cm_L_law pc = some e := fun pc e he => by
  have z := List.all_eq_true.mp h _ (lk_mem he)
  unfold inL at z
  split at z
  · rename_i e' c
    have e2 := of_decide_eq_true z
    subst e2
    exact c
  · cases z
theorem lw_run {d n : Nat} {cd : List (Nat × am_E)} (hcd : cd.all inL = true) {lim : Nat × Nat} {Q : Option Value → am_H → Prop} {X : am_H → Prop} {f : am_F} {h : am_H} (H : am_steps (lawK d) lim (fun pc => cd.lookup pc) Q X (am_wp (lawK d) lim cm_L_law Q X) n f h) : am_wp (lawK d) lim cm_L_law Q X f h := am_run (lw_cK d) n (am_steps_sub (lw_cK d) (sub_L hcd) n f h H)
section
variable {d L : Nat} {xs : Nat → Int32} {h h' : am_H} {M : Ms} {Q : Option Value → am_H → Prop}
theorem lw_H600 {x o : Nat} {b w : Int32} {fs : List Value} (e : h.2 x = .inr (7, fs)) (H : am_wp (am_call d) (0, 0) cm_X10_bracelet (am_hq o Q) (fun h' => Q (some (.int 1)) h') (0, am_loc [.ref x, .int b, .int w] 5, [], 0, 0) h) : lawK d 600 [.ref x, .int b, .int w, .ref o] h Q := am_obj_in (g := fun _ => am_wp (am_call d) (0, 0) cm_X10_bracelet (am_hq o Q) (fun h' => Q (some (.int 1)) h') (0, am_loc [.ref x, .int b, .int w] 5, [], 0, 0) h) e H
theorem lw_H601 {x o : Nat} {b w : Int32} {fs : List Value} (e : h.2 x = .inr (7, fs)) (H : am_wp (am_call d) (0, 0) cm_X10_bead (am_hq o Q) (fun h' => Q (some (.int 1)) h') (0, am_loc [.ref x, .int b, .int w] 3, [], 0, 0) h) : lawK d 601 [.ref x, .int b, .int w, .ref o] h Q := am_obj_in (g := fun _ => am_wp (am_call d) (0, 0) cm_X10_bead (am_hq o Q) (fun h' => Q (some (.int 1)) h') (0, am_loc [.ref x, .int b, .int w] 3, [], 0, 0) h) e H
theorem lw_H602 {x o : Nat} {b : Int32} {fs : List Value} (e : h.2 x = .inr (7, fs)) (H : am_wp (am_call d) (0, 0) cm_X10_stock (am_hq o Q) (fun h' => Q (some (.int 1)) h') (0, am_loc [.ref x, .int b] 2, [], 0, 0) h) : lawK d 602 [.ref x, .int b, .ref o] h Q := am_obj_in (g := fun _ => am_wp (am_call d) (0, 0) cm_X10_stock (am_hq o Q) (fun h' => Q (some (.int 1)) h') (0, am_loc [.ref x, .int b] 2, [], 0, 0) h) e H
theorem lw_H603 {x o : Nat} {b : Int32} {fs : List Value} (e : h.2 x = .inr (7, fs)) (H : am_wp (am_call d) (0, 0) cm_X10_row (am_hqL o Q) (fun h' => Q (some (.int 1)) h') (0, am_loc [.ref x, .int b] 2, [], 0, 0) h) : lawK d 603 [.ref x, .int b, .ref o] h Q := am_obj_in (g := fun _ => am_wp (am_call d) (0, 0) cm_X10_row (am_hqL o Q) (fun h' => Q (some (.int 1)) h') (0, am_loc [.ref x, .int b] 2, [], 0, 0) h) e H
theorem RX_fz (hX : RX h M) (f : ∀ x, x < 152 → h'.2 x = h.2 x) : RX h' M := by
  obtain ⟨a, b, dr, hX⟩ := hX
  have hab := hX.o.2
  exact ⟨a, b, dr, ⟨(f 40 (by omega)).trans hX.o.1, hX.o.2⟩, ⟨RS_fr hX.s.1 (fun x _ _ => f x (by omega)), hX.s.2⟩, ⟨hX.z.choose, RS_fr hX.z.choose_spec (fun x _ _ => f x (by omega))⟩, RPm_fr hX.p (fun x _ _ => f x (by omega)), ⟨hX.t.choose, hX.t.choose_spec.choose, RT_fr hX.t.choose_spec.choose_spec (fun x _ _ => f x (by omega))⟩, ⟨RD_fr hX.d.1 (fun x _ _ => f x (by omega)), hX.d.2⟩, RK_fr hX.k (fun x _ _ => f x (by omega)), ⟨RC_fr hX.f.1 (fun x _ _ => f x (by omega)), hX.f.2⟩, ⟨RC_fr hX.hr.1 (fun x _ _ => f x (by omega)), hX.hr.2⟩, ⟨hX.y.choose, (f 142 (by omega)).trans hX.y.choose_spec⟩, ⟨hX.l.choose, (f 143 (by omega)).trans hX.l.choose_spec⟩, ⟨RF_fr hX.r.1 (fun x _ _ => f x (by omega)), hX.r.2⟩, RU0_fr hX.u (fun x _ _ => f x (by omega)), RO_fr hX.c (fun x hx => f x (by omega))⟩
def cd_L4 : List (Nat × am_E) := [(336, .aload_n 1, 1, 0, 0, 0, 0, 0), (337, .aload_n 0, 1, 0, 0, 0, 0, 0), (338, .iload 4, 2, 0, 0, 0, 0, 0), (340, .iconst 1, 1, 0, 0, 0, (1), 0), (341, .iadd, 1, 0, 0, 0, 0, 0), (342, .iaload, 1, 0, 0, 0, 0, 0), (343, .aload_n 0, 1, 0, 0, 0, 0, 0), (344, .iload 4, 2, 0, 0, 0, 0, 0), (346, .iconst 2, 1, 0, 0, 0, (2), 0), (347, .iadd, 1, 0, 0, 0, 0, 0), (348, .iaload, 1, 0, 0, 0, 0, 0), (349, .aload_n 3, 1, 0, 0, 0, 0, 0), (350, .invokestatic 48, 3, 600, 4, 0, 0, 0), (353, .istore 5, 2, 0, 0, 0, 0, 0), (355, .aload_n 2, 1, 0, 0, 0, 0, 0), (356, .aload_n 0, 1, 0, 0, 0, 0, 0), (357, .iload 4, 2, 0, 0, 0, 0, 0), (359, .iconst 1, 1, 0, 0, 0, (1), 0), (360, .iadd, 1, 0, 0, 0, 0, 0), (361, .iaload, 1, 0, 0, 0, 0, 0), (362, .aload_n 0, 1, 0, 0, 0, 0, 0), (363, .iload 4, 2, 0, 0, 0, 0, 0), (365, .iconst 2, 1, 0, 0, 0, (2), 0), (366, .iadd, 1, 0, 0, 0, 0, 0), (367, .iaload, 1, 0, 0, 0, 0, 0), (368, .invokevirtual 53, 3, 224, 3, 9, 0, 0), (371, .istore 6, 2, 0, 0, 0, 0, 0), (373, .aload_n 2, 1, 0, 0, 0, 0, 0), (374, .invokevirtual 54, 3, 174, 1, 9, 0, 0), (377, .iload 5, 2, 0, 0, 0, 0, 0), (379, .if_icmp .eq 5, 3, 384, 0, 0, 0, 0), (382, .iconst 0, 1, 0, 0, 0, (0), 0), (383, .ireturn, 1, 0, 0, 2, 0, 0), (384, .iload 5, 2, 0, 0, 0, 0, 0), (386, .ifCond .ne 15, 3, 401, 0, 0, 0, 0), (389, .aload_n 3, 1, 0, 0, 0, 0, 0), (390, .iconst 0, 1, 0, 0, 0, (0), 0), (391, .laload, 1, 0, 0, 0, 0, 0), (392, .iload 6, 2, 0, 0, 0, 0, 0), (394, .i2l, 1, 0, 0, 0, 0, 0), (395, .lcmp, 1, 0, 0, 0, 0, 0), (396, .ifCond .eq 5, 3, 401, 0, 0, 0, 0), (399, .iconst 0, 1, 0, 0, 0, (0), 0), (400, .ireturn, 1, 0, 0, 2, 0, 0), (401, .goto 1414, 3, 1815, 0, 0, 0, 0)]
theorem ok_L4 : cd_L4.all inL = true := by decide +kernel
theorem lw_4 {i u1 u2 : Nat} {x5 x6 x7 : Option Value} (hL : L ≤ 2560) (hi : i + 5 ≤ L) (hu1 : u1 ≤ 600000) (hu2 : u2 ≤ 7000000) (w : LW L xs h M)
    (hN : ∀ h' M' v1 v2 y5 y6 y7, v1 ≤ u1 + 1 → v2 ≤ u2 + 6 → LW L xs h' M' → am_wp (lawK (d + 300)) (601024, 7293034) cm_L_law Q (fun _ => False) (1815, [some (.ref 34), some (.ref 40), some (.ref 152), some (.ref 181), some (.int (nI i)), y5, y6, y7], [], v1, v2) h') : am_wp (lawK (d + 300)) (601024, 7293034) cm_L_law Q (fun _ => False) (336, [some (.ref 34), some (.ref 40), some (.ref 152), some (.ref 181), some (.int (nI i)), x5, x6, x7], [], u1, u2) h := by
  obtain ⟨fs, e40⟩ := w.x.o40
  refine lw_run ok_L4 (n := 6) (am_rdi_ro w.s ⟨sc_in 1, ?_⟩)
  refine lw_run ok_L4 (n := 5) (am_rdi_ro w.s ⟨sc_in 2, ?_⟩)
  obtain ⟨f0, e181⟩ := w.o
  refine lw_run ok_L4 (n := 2) (am_invS ⟨Nat.le_of_ble_eq_true rfl, Nat.le_of_ble_eq_true rfl⟩ (show u1 + 1 ≤ 601024 by omega) (show u2 + 6 ≤ 7293034 by omega) (show lawK (d + 300) 600 [.ref 40, .int (xs (nI i + 1).toNatClampNeg), .int (xs (nI i + 2).toNatClampNeg), .ref 181] h _ from lw_H600 e40 (T_bracelet (d := d + 280) w.x _ _ (fun eo => ?_) (fun x eo h1 F1 X1 => ?_))))
  · refine lw_run ok_L4 (n := 1) (show am_wp (lawK (d + 300)) (601024, 7293034) cm_L_law Q (fun _ => False) (355, [some (.ref 34), some (.ref 40), some (.ref 152), some (.ref 181), some (.int (nI i)), some (.int 1), x6, x7], [], u1 + 1, u2 + 6) h from ?_)
    obtain ⟨fs2, e152⟩ := (w.y).o152
    refine lw_run ok_L4 (n := 6) (am_rdi_ro w.s ⟨sc_in 1, ?_⟩)
    refine lw_run ok_L4 (n := 5) (am_rdi_ro w.s ⟨sc_in 2, ?_⟩)
    refine lw_run ok_L4 (n := 1) (am_invO (p := 152) (c := 8) ⟨Nat.le_of_ble_eq_true rfl, Nat.le_of_ble_eq_true rfl⟩ (show u1 + 1 + 0 ≤ 601024 by omega) (show u2 + 6 + 0 ≤ 7293034 by omega) rfl e152 (show am_call (d + 300) 224 _ h _ from Z_bracelet (w.y) _ _ (fun eo2 h2 F2 Y2 => ?_) (fun x ex => by rw [eo] at ex; cases ex)))
    refine lw_run ok_L4 (n := 1) (show am_wp (lawK (d + 300)) (601024, 7293034) cm_L_law Q (fun _ => False) (373, [some (.ref 34), some (.ref 40), some (.ref 152), some (.ref 181), some (.int (nI i)), some (.int 1), some (.int 0), x7], [], u1 + 1, u2 + 6) h2 from ?_)
    obtain ⟨F, A, R, W2, iv2, t2⟩ := Y2
    refine lw_run ok_L4 (n := 2) (am_invO (p := 152) (c := 8) ⟨Nat.le_of_ble_eq_true rfl, Nat.le_of_ble_eq_true rfl⟩ (show u1 + 1 + 0 ≤ 601024 by omega) (show u2 + 6 + 0 ≤ 7293034 by omega) rfl W2.o (show am_call (d + 300) 174 _ h2 _ from M_thrown W2 ?_))
    rw [t2]
    refine lw_run ok_L4 (n := 2) ⟨fun _ => lw_run ok_L4 (n := 2) ⟨fun _ => ?_, fun z => absurd (show ¬ (1 : Int32) = 0 by decide) z⟩, fun z => absurd rfl z⟩
    refine lw_run ok_L4 (n := 1) (hN h2 M (u1 + 1) (u2 + 6) (some (.int 1)) (some (.int 0)) x7 (by omega) (by omega) ?_)
    exact w.go Fx.rf F2 w.x ⟨F, A, R, W2, iv2⟩
  · refine am_arl_in ((F1.2 181 (by omega)).trans e181) ⟨vp_in_nI (n := 0) (N := 1) (by omega) (by omega), ?_⟩
    generalize hb : am_set h1 181 _ = h1b
    have o1 : h1b.2 181 = aL 1 (vp_updL f0 (0 : Int32).toNatClampNeg x.toInt64) := by rw [← hb]; exact as_s
    have q1 : ∀ q, q ≠ 181 → h1b.2 q = h1.2 q := fun q hq => by rw [← hb]; exact as_n hq
    have s1 : h1b.2 34 = .inl (.float, L, .inl xs) := (q1 34 (by omega)).trans (w.s1 F1)
    have y1 : RY h1b M := RY_fx (w.y1 F1) (fun q a1 a2 => q1 q (by omega))
    have x1 : RX h1b M := RX_fz X1 (fun q hq => q1 q (by omega))
    refine lw_run ok_L4 (n := 1) (show am_wp (lawK (d + 300)) (601024, 7293034) cm_L_law Q (fun _ => False) (355, [some (.ref 34), some (.ref 40), some (.ref 152), some (.ref 181), some (.int (nI i)), some (.int 0), x6, x7], [], u1 + 1, u2 + 6) h1b from ?_)
    obtain ⟨fs2, e152⟩ := (y1).o152
    refine lw_run ok_L4 (n := 6) (am_rdi_ro s1 ⟨sc_in 1, ?_⟩)
    refine lw_run ok_L4 (n := 5) (am_rdi_ro s1 ⟨sc_in 2, ?_⟩)
    refine lw_run ok_L4 (n := 1) (am_invO (p := 152) (c := 8) ⟨Nat.le_of_ble_eq_true rfl, Nat.le_of_ble_eq_true rfl⟩ (show u1 + 1 + 0 ≤ 601024 by omega) (show u2 + 6 + 0 ≤ 7293034 by omega) rfl e152 (show am_call (d + 300) 224 _ h1b _ from Z_bracelet (y1) _ _ (fun eo2 => by rw [eo] at eo2; cases eo2) (fun x2 eo2 h2 F2 Y2 => ?_)))
    have ex : x2 = x := Option.some.inj (eo2.symm.trans eo)
    subst ex
    refine lw_run ok_L4 (n := 1) (show am_wp (lawK (d + 300)) (601024, 7293034) cm_L_law Q (fun _ => False) (373, [some (.ref 34), some (.ref 40), some (.ref 152), some (.ref 181), some (.int (nI i)), some (.int 0), some (.int x2), x7], [], u1 + 1, u2 + 6) h2 from ?_)
    obtain ⟨F, A, R, W2, iv2, t2⟩ := Y2
    refine lw_run ok_L4 (n := 2) (am_invO (p := 152) (c := 8) ⟨Nat.le_of_ble_eq_true rfl, Nat.le_of_ble_eq_true rfl⟩ (show u1 + 1 + 0 ≤ 601024 by omega) (show u2 + 6 + 0 ≤ 7293034 by omega) rfl W2.o (show am_call (d + 300) 174 _ h2 _ from M_thrown W2 ?_))
    rw [t2]
    have e2 : h2.2 181 = aL 1 (vp_updL f0 (0 : Int32).toNatClampNeg x2.toInt64) := (F2.2 181 (by omega)).trans o1
    refine lw_run ok_L4 (n := 2) ⟨fun _ => lw_run ok_L4 (n := 2) ⟨fun z => absurd rfl z, fun _ => ?_⟩, fun z => absurd rfl z⟩
    refine lw_run ok_L4 (n := 3) (am_arl_in e2 ⟨vp_in_nI (n := 0) (N := 1) (by omega) (by omega), ?_⟩)
    refine lw_run ok_L4 (n := 4) ⟨fun _ => ?_, fun z => absurd ((lg_cmp_eq _ _).mpr rfl) z⟩
    refine lw_run ok_L4 (n := 1) (hN h2 M (u1 + 1) (u2 + 6) (some (.int 0)) (some (.int x2)) x7 (by omega) (by omega) ?_)
    exact ⟨RX_fy x1 F2, ⟨F, A, R, W2, iv2⟩, ⟨_, e2⟩, (F2.2 34 (by omega)).trans s1⟩
def cd_L5 : List (Nat × am_E) := [(404, .aload_n 1, 1, 0, 0, 0, 0, 0), (405, .aload_n 0, 1, 0, 0, 0, 0, 0), (406, .iload 4, 2, 0, 0, 0, 0, 0), (408, .iconst 1, 1, 0, 0, 0, (1), 0), (409, .iadd, 1, 0, 0, 0, 0, 0), (410, .iaload, 1, 0, 0, 0, 0, 0), (411, .aload_n 0, 1, 0, 0, 0, 0, 0), (412, .iload 4, 2, 0, 0, 0, 0, 0), (414, .iconst 2, 1, 0, 0, 0, (2), 0), (415, .iadd, 1, 0, 0, 0, 0, 0), (416, .iaload, 1, 0, 0, 0, 0, 0), (417, .aload_n 3, 1, 0, 0, 0, 0, 0), (418, .invokestatic 57, 3, 601, 4, 0, 0, 0), (421, .istore 5, 2, 0, 0, 0, 0, 0), (423, .aload_n 2, 1, 0, 0, 0, 0, 0), (424, .aload_n 0, 1, 0, 0, 0, 0, 0), (425, .iload 4, 2, 0, 0, 0, 0, 0), (427, .iconst 1, 1, 0, 0, 0, (1), 0), (428, .iadd, 1, 0, 0, 0, 0, 0), (429, .iaload, 1, 0, 0, 0, 0, 0), (430, .aload_n 0, 1, 0, 0, 0, 0, 0), (431, .iload 4, 2, 0, 0, 0, 0, 0), (433, .iconst 2, 1, 0, 0, 0, (2), 0), (434, .iadd, 1, 0, 0, 0, 0, 0), (435, .iaload, 1, 0, 0, 0, 0, 0), (436, .invokevirtual 59, 3, 225, 3, 9, 0, 0), (439, .istore 6, 2, 0, 0, 0, 0, 0), (441, .aload_n 2, 1, 0, 0, 0, 0, 0), (442, .invokevirtual 54, 3, 174, 1, 9, 0, 0), (445, .iload 5, 2, 0, 0, 0, 0, 0), (447, .if_icmp .eq 5, 3, 452, 0, 0, 0, 0), (450, .iconst 0, 1, 0, 0, 0, (0), 0), (451, .ireturn, 1, 0, 0, 2, 0, 0), (452, .iload 5, 2, 0, 0, 0, 0, 0), (454, .ifCond .ne 15, 3, 469, 0, 0, 0, 0), (457, .aload_n 3, 1, 0, 0, 0, 0, 0), (458, .iconst 0, 1, 0, 0, 0, (0), 0), (459, .laload, 1, 0, 0, 0, 0, 0), (460, .iload 6, 2, 0, 0, 0, 0, 0), (462, .i2l, 1, 0, 0, 0, 0, 0), (463, .lcmp, 1, 0, 0, 0, 0, 0), (464, .ifCond .eq 5, 3, 469, 0, 0, 0, 0), (467, .iconst 0, 1, 0, 0, 0, (0), 0), (468, .ireturn, 1, 0, 0, 2, 0, 0), (469, .goto 1346, 3, 1815, 0, 0, 0, 0)]
theorem ok_L5 : cd_L5.all inL = true := by decide +kernel
theorem lw_5 {i u1 u2 : Nat} {x5 x6 x7 : Option Value} (hL : L ≤ 2560) (hi : i + 5 ≤ L) (hu1 : u1 ≤ 600000) (hu2 : u2 ≤ 7000000) (w : LW L xs h M)
    (hN : ∀ h' M' v1 v2 y5 y6 y7, v1 ≤ u1 + 1 → v2 ≤ u2 + 6 → LW L xs h' M' → am_wp (lawK (d + 300)) (601024, 7293034) cm_L_law Q (fun _ => False) (1815, [some (.ref 34), some (.ref 40), some (.ref 152), some (.ref 181), some (.int (nI i)), y5, y6, y7], [], v1, v2) h') : am_wp (lawK (d + 300)) (601024, 7293034) cm_L_law Q (fun _ => False) (404, [some (.ref 34), some (.ref 40), some (.ref 152), some (.ref 181), some (.int (nI i)), x5, x6, x7], [], u1, u2) h := by
  obtain ⟨fs, e40⟩ := w.x.o40
  refine lw_run ok_L5 (n := 6) (am_rdi_ro w.s ⟨sc_in 1, ?_⟩)
  refine lw_run ok_L5 (n := 5) (am_rdi_ro w.s ⟨sc_in 2, ?_⟩)
  obtain ⟨f0, e181⟩ := w.o
  refine lw_run ok_L5 (n := 2) (am_invS ⟨Nat.le_of_ble_eq_true rfl, Nat.le_of_ble_eq_true rfl⟩ (show u1 + 1 ≤ 601024 by omega) (show u2 + 6 ≤ 7293034 by omega) (show lawK (d + 300) 601 [.ref 40, .int (xs (nI i + 1).toNatClampNeg), .int (xs (nI i + 2).toNatClampNeg), .ref 181] h _ from lw_H601 e40 (T_bead (d := d + 280) w.x _ _ (fun eo => ?_) (fun x eo h1 F1 X1 => ?_))))
  · refine lw_run ok_L5 (n := 1) (show am_wp (lawK (d + 300)) (601024, 7293034) cm_L_law Q (fun _ => False) (423, [some (.ref 34), some (.ref 40), some (.ref 152), some (.ref 181), some (.int (nI i)), some (.int 1), x6, x7], [], u1 + 1, u2 + 6) h from ?_)
    obtain ⟨fs2, e152⟩ := (w.y).o152
    refine lw_run ok_L5 (n := 6) (am_rdi_ro w.s ⟨sc_in 1, ?_⟩)
    refine lw_run ok_L5 (n := 5) (am_rdi_ro w.s ⟨sc_in 2, ?_⟩)
    refine lw_run ok_L5 (n := 1) (am_invO (p := 152) (c := 8) ⟨Nat.le_of_ble_eq_true rfl, Nat.le_of_ble_eq_true rfl⟩ (show u1 + 1 + 0 ≤ 601024 by omega) (show u2 + 6 + 0 ≤ 7293034 by omega) rfl e152 (show am_call (d + 300) 225 _ h _ from Z_bead (w.y) _ _ (fun eo2 h2 F2 Y2 => ?_) (fun x ex => by rw [eo] at ex; cases ex)))
    refine lw_run ok_L5 (n := 1) (show am_wp (lawK (d + 300)) (601024, 7293034) cm_L_law Q (fun _ => False) (441, [some (.ref 34), some (.ref 40), some (.ref 152), some (.ref 181), some (.int (nI i)), some (.int 1), some (.int 0), x7], [], u1 + 1, u2 + 6) h2 from ?_)
    obtain ⟨F, A, R, W2, iv2, t2⟩ := Y2
    refine lw_run ok_L5 (n := 2) (am_invO (p := 152) (c := 8) ⟨Nat.le_of_ble_eq_true rfl, Nat.le_of_ble_eq_true rfl⟩ (show u1 + 1 + 0 ≤ 601024 by omega) (show u2 + 6 + 0 ≤ 7293034 by omega) rfl W2.o (show am_call (d + 300) 174 _ h2 _ from M_thrown W2 ?_))
    rw [t2]
    refine lw_run ok_L5 (n := 2) ⟨fun _ => lw_run ok_L5 (n := 2) ⟨fun _ => ?_, fun z => absurd (show ¬ (1 : Int32) = 0 by decide) z⟩, fun z => absurd rfl z⟩
    refine lw_run ok_L5 (n := 1) (hN h2 M (u1 + 1) (u2 + 6) (some (.int 1)) (some (.int 0)) x7 (by omega) (by omega) ?_)
    exact w.go Fx.rf F2 w.x ⟨F, A, R, W2, iv2⟩
  · refine am_arl_in ((F1.2 181 (by omega)).trans e181) ⟨vp_in_nI (n := 0) (N := 1) (by omega) (by omega), ?_⟩
    generalize hb : am_set h1 181 _ = h1b
    have o1 : h1b.2 181 = aL 1 (vp_updL f0 (0 : Int32).toNatClampNeg x.toInt64) := by rw [← hb]; exact as_s
    have q1 : ∀ q, q ≠ 181 → h1b.2 q = h1.2 q := fun q hq => by rw [← hb]; exact as_n hq
    have s1 : h1b.2 34 = .inl (.float, L, .inl xs) := (q1 34 (by omega)).trans (w.s1 F1)
    have y1 : RY h1b M := RY_fx (w.y1 F1) (fun q a1 a2 => q1 q (by omega))
    have x1 : RX h1b M := RX_fz X1 (fun q hq => q1 q (by omega))
    refine lw_run ok_L5 (n := 1) (show am_wp (lawK (d + 300)) (601024, 7293034) cm_L_law Q (fun _ => False) (423, [some (.ref 34), some (.ref 40), some (.ref 152), some (.ref 181), some (.int (nI i)), some (.int 0), x6, x7], [], u1 + 1, u2 + 6) h1b from ?_)
    obtain ⟨fs2, e152⟩ := (y1).o152
    refine lw_run ok_L5 (n := 6) (am_rdi_ro s1 ⟨sc_in 1, ?_⟩)
    refine lw_run ok_L5 (n := 5) (am_rdi_ro s1 ⟨sc_in 2, ?_⟩)
    refine lw_run ok_L5 (n := 1) (am_invO (p := 152) (c := 8) ⟨Nat.le_of_ble_eq_true rfl, Nat.le_of_ble_eq_true rfl⟩ (show u1 + 1 + 0 ≤ 601024 by omega) (show u2 + 6 + 0 ≤ 7293034 by omega) rfl e152 (show am_call (d + 300) 225 _ h1b _ from Z_bead (y1) _ _ (fun eo2 => by rw [eo] at eo2; cases eo2) (fun x2 eo2 h2 F2 Y2 => ?_)))
    have ex : x2 = x := Option.some.inj (eo2.symm.trans eo)
    subst ex
    refine lw_run ok_L5 (n := 1) (show am_wp (lawK (d + 300)) (601024, 7293034) cm_L_law Q (fun _ => False) (441, [some (.ref 34), some (.ref 40), some (.ref 152), some (.ref 181), some (.int (nI i)), some (.int 0), some (.int x2), x7], [], u1 + 1, u2 + 6) h2 from ?_)
    obtain ⟨F, A, R, W2, iv2, t2⟩ := Y2
    refine lw_run ok_L5 (n := 2) (am_invO (p := 152) (c := 8) ⟨Nat.le_of_ble_eq_true rfl, Nat.le_of_ble_eq_true rfl⟩ (show u1 + 1 + 0 ≤ 601024 by omega) (show u2 + 6 + 0 ≤ 7293034 by omega) rfl W2.o (show am_call (d + 300) 174 _ h2 _ from M_thrown W2 ?_))
    rw [t2]
    have e2 : h2.2 181 = aL 1 (vp_updL f0 (0 : Int32).toNatClampNeg x2.toInt64) := (F2.2 181 (by omega)).trans o1
    refine lw_run ok_L5 (n := 2) ⟨fun _ => lw_run ok_L5 (n := 2) ⟨fun z => absurd rfl z, fun _ => ?_⟩, fun z => absurd rfl z⟩
    refine lw_run ok_L5 (n := 3) (am_arl_in e2 ⟨vp_in_nI (n := 0) (N := 1) (by omega) (by omega), ?_⟩)
    refine lw_run ok_L5 (n := 4) ⟨fun _ => ?_, fun z => absurd ((lg_cmp_eq _ _).mpr rfl) z⟩
    refine lw_run ok_L5 (n := 1) (hN h2 M (u1 + 1) (u2 + 6) (some (.int 0)) (some (.int x2)) x7 (by omega) (by omega) ?_)
    exact ⟨RX_fy x1 F2, ⟨F, A, R, W2, iv2⟩, ⟨_, e2⟩, (F2.2 34 (by omega)).trans s1⟩
def cd_L6 : List (Nat × am_E) := [(472, .aload_n 1, 1, 0, 0, 0, 0, 0), (473, .aload_n 0, 1, 0, 0, 0, 0, 0), (474, .iload 4, 2, 0, 0, 0, 0, 0), (476, .iconst 1, 1, 0, 0, 0, (1), 0), (477, .iadd, 1, 0, 0, 0, 0, 0), (478, .iaload, 1, 0, 0, 0, 0, 0), (479, .aload_n 3, 1, 0, 0, 0, 0, 0), (480, .invokestatic 60, 3, 602, 3, 0, 0, 0), (483, .istore 5, 2, 0, 0, 0, 0, 0), (485, .aload_n 2, 1, 0, 0, 0, 0, 0), (486, .aload_n 0, 1, 0, 0, 0, 0, 0), (487, .iload 4, 2, 0, 0, 0, 0, 0), (489, .iconst 1, 1, 0, 0, 0, (1), 0), (490, .iadd, 1, 0, 0, 0, 0, 0), (491, .iaload, 1, 0, 0, 0, 0, 0), (492, .invokevirtual 63, 3, 226, 2, 9, 0, 0), (495, .istore 6, 2, 0, 0, 0, 0, 0), (497, .aload_n 2, 1, 0, 0, 0, 0, 0), (498, .invokevirtual 54, 3, 174, 1, 9, 0, 0), (501, .iload 5, 2, 0, 0, 0, 0, 0), (503, .if_icmp .eq 5, 3, 508, 0, 0, 0, 0), (506, .iconst 0, 1, 0, 0, 0, (0), 0), (507, .ireturn, 1, 0, 0, 2, 0, 0), (508, .iload 5, 2, 0, 0, 0, 0, 0), (510, .ifCond .ne 15, 3, 525, 0, 0, 0, 0), (513, .aload_n 3, 1, 0, 0, 0, 0, 0), (514, .iconst 0, 1, 0, 0, 0, (0), 0), (515, .laload, 1, 0, 0, 0, 0, 0), (516, .iload 6, 2, 0, 0, 0, 0, 0), (518, .i2l, 1, 0, 0, 0, 0, 0), (519, .lcmp, 1, 0, 0, 0, 0, 0), (520, .ifCond .eq 5, 3, 525, 0, 0, 0, 0), (523, .iconst 0, 1, 0, 0, 0, (0), 0), (524, .ireturn, 1, 0, 0, 2, 0, 0), (525, .goto 1290, 3, 1815, 0, 0, 0, 0)]
theorem ok_L6 : cd_L6.all inL = true := by decide +kernel
theorem lw_6 {i u1 u2 : Nat} {x5 x6 x7 : Option Value} (hL : L ≤ 2560) (hi : i + 5 ≤ L) (hu1 : u1 ≤ 600000) (hu2 : u2 ≤ 7000000) (w : LW L xs h M)
    (hN : ∀ h' M' v1 v2 y5 y6 y7, v1 ≤ u1 + 1 → v2 ≤ u2 + 6 → LW L xs h' M' → am_wp (lawK (d + 300)) (601024, 7293034) cm_L_law Q (fun _ => False) (1815, [some (.ref 34), some (.ref 40), some (.ref 152), some (.ref 181), some (.int (nI i)), y5, y6, y7], [], v1, v2) h') : am_wp (lawK (d + 300)) (601024, 7293034) cm_L_law Q (fun _ => False) (472, [some (.ref 34), some (.ref 40), some (.ref 152), some (.ref 181), some (.int (nI i)), x5, x6, x7], [], u1, u2) h := by
  obtain ⟨fs, e40⟩ := w.x.o40
  refine lw_run ok_L6 (n := 6) (am_rdi_ro w.s ⟨sc_in 1, ?_⟩)
  obtain ⟨f0, e181⟩ := w.o
  refine lw_run ok_L6 (n := 2) (am_invS ⟨Nat.le_of_ble_eq_true rfl, Nat.le_of_ble_eq_true rfl⟩ (show u1 + 1 ≤ 601024 by omega) (show u2 + 6 ≤ 7293034 by omega) (show lawK (d + 300) 602 [.ref 40, .int (xs (nI i + 1).toNatClampNeg), .ref 181] h _ from lw_H602 e40 (T_stock (d := d + 280) w.x _ (fun eo => ?_) (fun x eo h1 F1 X1 => ?_))))
  · refine lw_run ok_L6 (n := 1) (show am_wp (lawK (d + 300)) (601024, 7293034) cm_L_law Q (fun _ => False) (485, [some (.ref 34), some (.ref 40), some (.ref 152), some (.ref 181), some (.int (nI i)), some (.int 1), x6, x7], [], u1 + 1, u2 + 6) h from ?_)
    obtain ⟨fs2, e152⟩ := (w.y).o152
    refine lw_run ok_L6 (n := 6) (am_rdi_ro w.s ⟨sc_in 1, ?_⟩)
    refine lw_run ok_L6 (n := 1) (am_invO (p := 152) (c := 8) ⟨Nat.le_of_ble_eq_true rfl, Nat.le_of_ble_eq_true rfl⟩ (show u1 + 1 + 0 ≤ 601024 by omega) (show u2 + 6 + 0 ≤ 7293034 by omega) rfl e152 (show am_call (d + 300) 226 _ h _ from Z_stock (w.y) _ (fun eo2 h2 F2 Y2 => ?_) (fun x ex => by rw [eo] at ex; cases ex)))
    refine lw_run ok_L6 (n := 1) (show am_wp (lawK (d + 300)) (601024, 7293034) cm_L_law Q (fun _ => False) (497, [some (.ref 34), some (.ref 40), some (.ref 152), some (.ref 181), some (.int (nI i)), some (.int 1), some (.int 0), x7], [], u1 + 1, u2 + 6) h2 from ?_)
    obtain ⟨F, A, R, W2, iv2, t2⟩ := Y2
    refine lw_run ok_L6 (n := 2) (am_invO (p := 152) (c := 8) ⟨Nat.le_of_ble_eq_true rfl, Nat.le_of_ble_eq_true rfl⟩ (show u1 + 1 + 0 ≤ 601024 by omega) (show u2 + 6 + 0 ≤ 7293034 by omega) rfl W2.o (show am_call (d + 300) 174 _ h2 _ from M_thrown W2 ?_))
    rw [t2]
    refine lw_run ok_L6 (n := 2) ⟨fun _ => lw_run ok_L6 (n := 2) ⟨fun _ => ?_, fun z => absurd (show ¬ (1 : Int32) = 0 by decide) z⟩, fun z => absurd rfl z⟩
    refine lw_run ok_L6 (n := 1) (hN h2 M (u1 + 1) (u2 + 6) (some (.int 1)) (some (.int 0)) x7 (by omega) (by omega) ?_)
    exact w.go Fx.rf F2 w.x ⟨F, A, R, W2, iv2⟩
  · refine am_arl_in ((F1.2 181 (by omega)).trans e181) ⟨vp_in_nI (n := 0) (N := 1) (by omega) (by omega), ?_⟩
    generalize hb : am_set h1 181 _ = h1b
    have o1 : h1b.2 181 = aL 1 (vp_updL f0 (0 : Int32).toNatClampNeg x.toInt64) := by rw [← hb]; exact as_s
    have q1 : ∀ q, q ≠ 181 → h1b.2 q = h1.2 q := fun q hq => by rw [← hb]; exact as_n hq
    have s1 : h1b.2 34 = .inl (.float, L, .inl xs) := (q1 34 (by omega)).trans (w.s1 F1)
    have y1 : RY h1b M := RY_fx (w.y1 F1) (fun q a1 a2 => q1 q (by omega))
    have x1 : RX h1b M := RX_fz X1 (fun q hq => q1 q (by omega))
    refine lw_run ok_L6 (n := 1) (show am_wp (lawK (d + 300)) (601024, 7293034) cm_L_law Q (fun _ => False) (485, [some (.ref 34), some (.ref 40), some (.ref 152), some (.ref 181), some (.int (nI i)), some (.int 0), x6, x7], [], u1 + 1, u2 + 6) h1b from ?_)
    obtain ⟨fs2, e152⟩ := (y1).o152
    refine lw_run ok_L6 (n := 6) (am_rdi_ro s1 ⟨sc_in 1, ?_⟩)
    refine lw_run ok_L6 (n := 1) (am_invO (p := 152) (c := 8) ⟨Nat.le_of_ble_eq_true rfl, Nat.le_of_ble_eq_true rfl⟩ (show u1 + 1 + 0 ≤ 601024 by omega) (show u2 + 6 + 0 ≤ 7293034 by omega) rfl e152 (show am_call (d + 300) 226 _ h1b _ from Z_stock (y1) _ (fun eo2 => by rw [eo] at eo2; cases eo2) (fun x2 eo2 h2 F2 Y2 => ?_)))
    have ex : x2 = x := Option.some.inj (eo2.symm.trans eo)
    subst ex
    refine lw_run ok_L6 (n := 1) (show am_wp (lawK (d + 300)) (601024, 7293034) cm_L_law Q (fun _ => False) (497, [some (.ref 34), some (.ref 40), some (.ref 152), some (.ref 181), some (.int (nI i)), some (.int 0), some (.int x2), x7], [], u1 + 1, u2 + 6) h2 from ?_)
    obtain ⟨F, A, R, W2, iv2, t2⟩ := Y2
    refine lw_run ok_L6 (n := 2) (am_invO (p := 152) (c := 8) ⟨Nat.le_of_ble_eq_true rfl, Nat.le_of_ble_eq_true rfl⟩ (show u1 + 1 + 0 ≤ 601024 by omega) (show u2 + 6 + 0 ≤ 7293034 by omega) rfl W2.o (show am_call (d + 300) 174 _ h2 _ from M_thrown W2 ?_))
    rw [t2]
    have e2 : h2.2 181 = aL 1 (vp_updL f0 (0 : Int32).toNatClampNeg x2.toInt64) := (F2.2 181 (by omega)).trans o1
    refine lw_run ok_L6 (n := 2) ⟨fun _ => lw_run ok_L6 (n := 2) ⟨fun z => absurd rfl z, fun _ => ?_⟩, fun z => absurd rfl z⟩
    refine lw_run ok_L6 (n := 3) (am_arl_in e2 ⟨vp_in_nI (n := 0) (N := 1) (by omega) (by omega), ?_⟩)
    refine lw_run ok_L6 (n := 4) ⟨fun _ => ?_, fun z => absurd ((lg_cmp_eq _ _).mpr rfl) z⟩
    refine lw_run ok_L6 (n := 1) (hN h2 M (u1 + 1) (u2 + 6) (some (.int 0)) (some (.int x2)) x7 (by omega) (by omega) ?_)
    exact ⟨RX_fy x1 F2, ⟨F, A, R, W2, iv2⟩, ⟨_, e2⟩, (F2.2 34 (by omega)).trans s1⟩
def cd_L51 : List (Nat × am_E) := [(1760, .aload_n 1, 1, 0, 0, 0, 0, 0), (1761, .aload_n 0, 1, 0, 0, 0, 0, 0), (1762, .iload 4, 2, 0, 0, 0, 0, 0), (1764, .iconst 1, 1, 0, 0, 0, (1), 0), (1765, .iadd, 1, 0, 0, 0, 0, 0), (1766, .iaload, 1, 0, 0, 0, 0, 0), (1767, .aload_n 3, 1, 0, 0, 0, 0, 0), (1768, .invokestatic 242, 3, 603, 3, 0, 0, 0), (1771, .istore 5, 2, 0, 0, 0, 0, 0), (1773, .aload_n 2, 1, 0, 0, 0, 0, 0), (1774, .aload_n 0, 1, 0, 0, 0, 0, 0), (1775, .iload 4, 2, 0, 0, 0, 0, 0), (1777, .iconst 1, 1, 0, 0, 0, (1), 0), (1778, .iadd, 1, 0, 0, 0, 0, 0), (1779, .iaload, 1, 0, 0, 0, 0, 0), (1780, .invokevirtual 244, 3, 320, 2, 9, 0, 0), (1783, .lstore 6, 2, 0, 0, 0, 0, 0), (1785, .aload_n 2, 1, 0, 0, 0, 0, 0), (1786, .invokevirtual 54, 3, 174, 1, 9, 0, 0), (1789, .iload 5, 2, 0, 0, 0, 0, 0), (1791, .if_icmp .eq 5, 3, 1796, 0, 0, 0, 0), (1794, .iconst 0, 1, 0, 0, 0, (0), 0), (1795, .ireturn, 1, 0, 0, 2, 0, 0), (1796, .iload 5, 2, 0, 0, 0, 0, 0), (1798, .ifCond .ne 14, 3, 1812, 0, 0, 0, 0), (1801, .aload_n 3, 1, 0, 0, 0, 0, 0), (1802, .iconst 0, 1, 0, 0, 0, (0), 0), (1803, .laload, 1, 0, 0, 0, 0, 0), (1804, .lload 6, 2, 0, 0, 0, 0, 0), (1806, .lcmp, 1, 0, 0, 0, 0, 0), (1807, .ifCond .eq 5, 3, 1812, 0, 0, 0, 0), (1810, .iconst 0, 1, 0, 0, 0, (0), 0), (1811, .ireturn, 1, 0, 0, 2, 0, 0), (1812, .goto 3, 3, 1815, 0, 0, 0, 0)]
theorem ok_L51 : cd_L51.all inL = true := by decide +kernel
theorem lw_51 {i u1 u2 : Nat} {x5 x6 x7 : Option Value} (hL : L ≤ 2560) (hi : i + 5 ≤ L) (hu1 : u1 ≤ 600000) (hu2 : u2 ≤ 7000000) (w : LW L xs h M)
    (hN : ∀ h' M' v1 v2 y5 y6 y7, v1 ≤ u1 + 1 → v2 ≤ u2 + 6 → LW L xs h' M' → am_wp (lawK (d + 300)) (601024, 7293034) cm_L_law Q (fun _ => False) (1815, [some (.ref 34), some (.ref 40), some (.ref 152), some (.ref 181), some (.int (nI i)), y5, y6, y7], [], v1, v2) h') : am_wp (lawK (d + 300)) (601024, 7293034) cm_L_law Q (fun _ => False) (1760, [some (.ref 34), some (.ref 40), some (.ref 152), some (.ref 181), some (.int (nI i)), x5, x6, x7], [], u1, u2) h := by
  obtain ⟨fs, e40⟩ := w.x.o40
  refine lw_run ok_L51 (n := 6) (am_rdi_ro w.s ⟨sc_in 1, ?_⟩)
  obtain ⟨f0, e181⟩ := w.o
  refine lw_run ok_L51 (n := 2) (am_invS ⟨Nat.le_of_ble_eq_true rfl, Nat.le_of_ble_eq_true rfl⟩ (show u1 + 1 ≤ 601024 by omega) (show u2 + 6 ≤ 7293034 by omega) (show lawK (d + 300) 603 [.ref 40, .int (xs (nI i + 1).toNatClampNeg), .ref 181] h _ from lw_H603 e40 (T_row (d := d + 280) w.x _ (fun eo => ?_) (fun x eo h1 F1 X1 => ?_))))
  · refine lw_run ok_L51 (n := 1) (show am_wp (lawK (d + 300)) (601024, 7293034) cm_L_law Q (fun _ => False) (1773, [some (.ref 34), some (.ref 40), some (.ref 152), some (.ref 181), some (.int (nI i)), some (.int 1), x6, x7], [], u1 + 1, u2 + 6) h from ?_)
    obtain ⟨fs2, e152⟩ := (w.y).o152
    refine lw_run ok_L51 (n := 6) (am_rdi_ro w.s ⟨sc_in 1, ?_⟩)
    refine lw_run ok_L51 (n := 1) (am_invO (p := 152) (c := 8) ⟨Nat.le_of_ble_eq_true rfl, Nat.le_of_ble_eq_true rfl⟩ (show u1 + 1 + 0 ≤ 601024 by omega) (show u2 + 6 + 0 ≤ 7293034 by omega) rfl e152 (show am_call (d + 300) 320 _ h _ from Z_row (w.y) _ (fun eo2 h2 F2 Y2 => ?_) (fun x ex => by rw [eo] at ex; cases ex)))
    refine lw_run ok_L51 (n := 1) (show am_wp (lawK (d + 300)) (601024, 7293034) cm_L_law Q (fun _ => False) (1785, [some (.ref 34), some (.ref 40), some (.ref 152), some (.ref 181), some (.int (nI i)), some (.int 1), some (.long 0), none], [], u1 + 1, u2 + 6) h2 from ?_)
    obtain ⟨F, A, R, W2, iv2, t2⟩ := Y2
    refine lw_run ok_L51 (n := 2) (am_invO (p := 152) (c := 8) ⟨Nat.le_of_ble_eq_true rfl, Nat.le_of_ble_eq_true rfl⟩ (show u1 + 1 + 0 ≤ 601024 by omega) (show u2 + 6 + 0 ≤ 7293034 by omega) rfl W2.o (show am_call (d + 300) 174 _ h2 _ from M_thrown W2 ?_))
    rw [t2]
    refine lw_run ok_L51 (n := 2) ⟨fun _ => lw_run ok_L51 (n := 2) ⟨fun _ => ?_, fun z => absurd (show ¬ (1 : Int32) = 0 by decide) z⟩, fun z => absurd rfl z⟩
    refine lw_run ok_L51 (n := 1) (hN h2 M (u1 + 1) (u2 + 6) (some (.int 1)) (some (.long 0)) none (by omega) (by omega) ?_)
    exact w.go Fx.rf F2 w.x ⟨F, A, R, W2, iv2⟩
  · refine am_arl_in ((F1.2 181 (by omega)).trans e181) ⟨vp_in_nI (n := 0) (N := 1) (by omega) (by omega), ?_⟩
    generalize hb : am_set h1 181 _ = h1b
    have o1 : h1b.2 181 = aL 1 (vp_updL f0 (0 : Int32).toNatClampNeg x.toInt64) := by rw [← hb]; exact as_s
    have q1 : ∀ q, q ≠ 181 → h1b.2 q = h1.2 q := fun q hq => by rw [← hb]; exact as_n hq
    have s1 : h1b.2 34 = .inl (.float, L, .inl xs) := (q1 34 (by omega)).trans (w.s1 F1)
    have y1 : RY h1b M := RY_fx (w.y1 F1) (fun q a1 a2 => q1 q (by omega))
    have x1 : RX h1b M := RX_fz X1 (fun q hq => q1 q (by omega))
    refine lw_run ok_L51 (n := 1) (show am_wp (lawK (d + 300)) (601024, 7293034) cm_L_law Q (fun _ => False) (1773, [some (.ref 34), some (.ref 40), some (.ref 152), some (.ref 181), some (.int (nI i)), some (.int 0), x6, x7], [], u1 + 1, u2 + 6) h1b from ?_)
    obtain ⟨fs2, e152⟩ := (y1).o152
    refine lw_run ok_L51 (n := 6) (am_rdi_ro s1 ⟨sc_in 1, ?_⟩)
    refine lw_run ok_L51 (n := 1) (am_invO (p := 152) (c := 8) ⟨Nat.le_of_ble_eq_true rfl, Nat.le_of_ble_eq_true rfl⟩ (show u1 + 1 + 0 ≤ 601024 by omega) (show u2 + 6 + 0 ≤ 7293034 by omega) rfl e152 (show am_call (d + 300) 320 _ h1b _ from Z_row (y1) _ (fun eo2 => by rw [eo] at eo2; cases eo2) (fun x2 eo2 h2 F2 Y2 => ?_)))
    have ex : x2 = x := Option.some.inj (eo2.symm.trans eo)
    subst ex
    refine lw_run ok_L51 (n := 1) (show am_wp (lawK (d + 300)) (601024, 7293034) cm_L_law Q (fun _ => False) (1785, [some (.ref 34), some (.ref 40), some (.ref 152), some (.ref 181), some (.int (nI i)), some (.int 0), some (.long x2.toInt64), none], [], u1 + 1, u2 + 6) h2 from ?_)
    obtain ⟨F, A, R, W2, iv2, t2⟩ := Y2
    refine lw_run ok_L51 (n := 2) (am_invO (p := 152) (c := 8) ⟨Nat.le_of_ble_eq_true rfl, Nat.le_of_ble_eq_true rfl⟩ (show u1 + 1 + 0 ≤ 601024 by omega) (show u2 + 6 + 0 ≤ 7293034 by omega) rfl W2.o (show am_call (d + 300) 174 _ h2 _ from M_thrown W2 ?_))
    rw [t2]
    have e2 : h2.2 181 = aL 1 (vp_updL f0 (0 : Int32).toNatClampNeg x2.toInt64) := (F2.2 181 (by omega)).trans o1
    refine lw_run ok_L51 (n := 2) ⟨fun _ => lw_run ok_L51 (n := 2) ⟨fun z => absurd rfl z, fun _ => ?_⟩, fun z => absurd rfl z⟩
    refine lw_run ok_L51 (n := 3) (am_arl_in e2 ⟨vp_in_nI (n := 0) (N := 1) (by omega) (by omega), ?_⟩)
    refine lw_run ok_L51 (n := 3) ⟨fun _ => ?_, fun z => absurd ((lg_cmp_eq _ _).mpr rfl) z⟩
    refine lw_run ok_L51 (n := 1) (hN h2 M (u1 + 1) (u2 + 6) (some (.int 0)) (some (.long x2.toInt64)) none (by omega) (by omega) ?_)
    exact ⟨RX_fy x1 F2, ⟨F, A, R, W2, iv2⟩, ⟨_, e2⟩, (F2.2 34 (by omega)).trans s1⟩
end
