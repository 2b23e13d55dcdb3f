/-! the law's own code over the machine -/
def lw_lk (q : Nat × am_E) : Bool := match q.2 with
  | (i, len, a, b, t, _, _) => match i with
    | .new idx => b == 0 && len == 3 && (match vwCl[a]? with
      | some (C, _, N) => am_inT (.classLink RL idx C) && am_inT (.instantiable C N) && am_inT (.initialized C)
      | none => false)
    | .invokevirtual idx => len == 3 && decide (a < 600) && t != 0 && (match am_mt[a]?, vwCl[t - 1]? with
      | some (y, _, _, _, kd, np), some (C, _, _) => kd == 1 && b == np + 1 && C == y.cls && am_inT (.methodLink RL idx y)
      | _, _ => false)
    | .invokespecial idx => len == 3 && decide (a < 600) && t != 0 && (match am_mt[a]? with
      | some (y, _, _, _, kd, np) => kd == 2 && b == np + 1 && am_inT (.methodLink RL idx y)
      | none => false)
    | .invokestatic idx => len == 3 && t == 0 && ((a == 600 && b == 4 && am_inT (.methodLink RL idx yL_bracelet)) || (a == 601 && b == 4 && am_inT (.methodLink RL idx yL_bead)) || (a == 602 && b == 3 && am_inT (.methodLink RL idx yL_stock)) || (a == 603 && b == 3 && am_inT (.methodLink RL idx yL_row)))
    | .ireturn => len == 1 && t == 2
    | i => !isLk i
def lw_ok (q : Nat × am_E) : Bool := decide (decode code q.1 = .ok (q.2.1, q.2.2.1)) && (isLk q.2.1 || am_okE 0 RL 8 false none q.1 q.2) && lw_lk q
theorem all_cut {α : Type} {f : α → Bool} {l : List α} {a n b : Nat} (e : b = a + n) (h1 : ((l.drop a).take n).all f = true) (h2 : (l.drop b).all f = true) : (l.drop a).all f = true := by
  subst e
  have h3 : ((l.drop a).drop n).all f = true := by rw [List.drop_drop]; exact h2
  rw [← List.take_append_drop n (l.drop a), List.all_append, h1, h3]
  rfl
theorem okl_0 : ((cd_L_law.drop 0).take 30).all lw_ok = true := by decide +kernel
theorem okl_30 : ((cd_L_law.drop 30).take 30).all lw_ok = true := by decide +kernel
theorem okl_60 : ((cd_L_law.drop 60).take 30).all lw_ok = true := by decide +kernel
theorem okl_90 : ((cd_L_law.drop 90).take 30).all lw_ok = true := by decide +kernel
theorem okl_120 : ((cd_L_law.drop 120).take 30).all lw_ok = true := by decide +kernel
theorem okl_150 : ((cd_L_law.drop 150).take 30).all lw_ok = true := by decide +kernel
theorem okl_180 : ((cd_L_law.drop 180).take 30).all lw_ok = true := by decide +kernel
theorem okl_210 : ((cd_L_law.drop 210).take 30).all lw_ok = true := by decide +kernel
theorem okl_240 : ((cd_L_law.drop 240).take 30).all lw_ok = true := by decide +kernel
theorem okl_270 : ((cd_L_law.drop 270).take 30).all lw_ok = true := by decide +kernel
theorem okl_300 : ((cd_L_law.drop 300).take 30).all lw_ok = true := by decide +kernel
theorem okl_330 : ((cd_L_law.drop 330).take 30).all lw_ok = true := by decide +kernel
theorem okl_360 : ((cd_L_law.drop 360).take 30).all lw_ok = true := by decide +kernel
theorem okl_390 : ((cd_L_law.drop 390).take 30).all lw_ok = true := by decide +kernel
theorem okl_420 : ((cd_L_law.drop 420).take 30).all lw_ok = true := by decide +kernel
theorem okl_450 : ((cd_L_law.drop 450).take 30).all lw_ok = true := by decide +kernel
theorem okl_480 : ((cd_L_law.drop 480).take 30).all lw_ok = true := by decide +kernel
theorem okl_510 : ((cd_L_law.drop 510).take 30).all lw_ok = true := by decide +kernel
theorem okl_540 : ((cd_L_law.drop 540).take 30).all lw_ok = true := by decide +kernel
theorem okl_570 : ((cd_L_law.drop 570).take 30).all lw_ok = true := by decide +kernel
theorem okl_600 : ((cd_L_law.drop 600).take 30).all lw_ok = true := by decide +kernel
theorem okl_630 : ((cd_L_law.drop 630).take 30).all lw_ok = true := by decide +kernel
theorem okl_660 : ((cd_L_law.drop 660).take 30).all lw_ok = true := by decide +kernel
theorem okl_690 : ((cd_L_law.drop 690).take 30).all lw_ok = true := by decide +kernel
theorem okl_720 : ((cd_L_law.drop 720).take 30).all lw_ok = true := by decide +kernel
theorem okl_750 : ((cd_L_law.drop 750).take 30).all lw_ok = true := by decide +kernel
theorem okl_780 : ((cd_L_law.drop 780).take 30).all lw_ok = true := by decide +kernel
theorem okl_810 : ((cd_L_law.drop 810).take 30).all lw_ok = true := by decide +kernel
theorem okl_840 : ((cd_L_law.drop 840).take 30).all lw_ok = true := by decide +kernel
theorem okl_870 : ((cd_L_law.drop 870).take 30).all lw_ok = true := by decide +kernel
theorem okl_900 : ((cd_L_law.drop 900).take 30).all lw_ok = true := by decide +kernel
theorem okl_930 : ((cd_L_law.drop 930).take 30).all lw_ok = true := by decide +kernel
theorem okl_960 : ((cd_L_law.drop 960).take 30).all lw_ok = true := by decide +kernel
theorem okl_990 : ((cd_L_law.drop 990).take 30).all lw_ok = true := by decide +kernel
theorem okl_1020 : ((cd_L_law.drop 1020).take 30).all lw_ok = true := by decide +kernel
theorem okl_1050 : ((cd_L_law.drop 1050).take 30).all lw_ok = true := by decide +kernel
theorem okl_1080 : ((cd_L_law.drop 1080).take 30).all lw_ok = true := by decide +kernel
theorem okl_end : (cd_L_law.drop 1110).all lw_ok = true := by decide +kernel
theorem lw_okAll : cd_L_law.all lw_ok = true := (all_cut (a := 0) (n := 30) (b := 30) rfl okl_0 (all_cut (a := 30) (n := 30) (b := 60) rfl okl_30 (all_cut (a := 60) (n := 30) (b := 90) rfl okl_60 (all_cut (a := 90) (n := 30) (b := 120) rfl okl_90 (all_cut (a := 120) (n := 30) (b := 150) rfl okl_120 (all_cut (a := 150) (n := 30) (b := 180) rfl okl_150 (all_cut (a := 180) (n := 30) (b := 210) rfl okl_180 (all_cut (a := 210) (n := 30) (b := 240) rfl okl_210 (all_cut (a := 240) (n := 30) (b := 270) rfl okl_240 (all_cut (a := 270) (n := 30) (b := 300) rfl okl_270 (all_cut (a := 300) (n := 30) (b := 330) rfl okl_300 (all_cut (a := 330) (n := 30) (b := 360) rfl okl_330 (all_cut (a := 360) (n := 30) (b := 390) rfl okl_360 (all_cut (a := 390) (n := 30) (b := 420) rfl okl_390 (all_cut (a := 420) (n := 30) (b := 450) rfl okl_420 (all_cut (a := 450) (n := 30) (b := 480) rfl okl_450 (all_cut (a := 480) (n := 30) (b := 510) rfl okl_480 (all_cut (a := 510) (n := 30) (b := 540) rfl okl_510 (all_cut (a := 540) (n := 30) (b := 570) rfl okl_540 (all_cut (a := 570) (n := 30) (b := 600) rfl okl_570 (all_cut (a := 600) (n := 30) (b := 630) rfl okl_600 (all_cut (a := 630) (n := 30) (b := 660) rfl okl_630 (all_cut (a := 660) (n := 30) (b := 690) rfl okl_660 (all_cut (a := 690) (n := 30) (b := 720) rfl okl_690 (all_cut (a := 720) (n := 30) (b := 750) rfl okl_720 (all_cut (a := 750) (n := 30) (b := 780) rfl okl_750 (all_cut (a := 780) (n := 30) (b := 810) rfl okl_780 (all_cut (a := 810) (n := 30) (b := 840) rfl okl_810 (all_cut (a := 840) (n := 30) (b := 870) rfl okl_840 (all_cut (a := 870) (n := 30) (b := 900) rfl okl_870 (all_cut (a := 900) (n := 30) (b := 930) rfl okl_900 (all_cut (a := 930) (n := 30) (b := 960) rfl okl_930 (all_cut (a := 960) (n := 30) (b := 990) rfl okl_960 (all_cut (a := 990) (n := 30) (b := 1020) rfl okl_990 (all_cut (a := 1020) (n := 30) (b := 1050) rfl okl_1020 (all_cut (a := 1050) (n := 30) (b := 1080) rfl okl_1050 (all_cut (a := 1080) (n := 30) (b := 1110) rfl okl_1080 okl_end)))))))))))))))))))))))))))))))))))))
theorem lw_hw : ([.codeWith yL_bracelet cL_bracelet 5 (some .int) [(0, 10, 13, 13)], .static yL_bracelet, .codeWith yL_bead cL_bead 5 (some .int) [(0, 10, 13, 13)], .static yL_bead, .codeWith yL_stock cL_stock 4 (some .int) [(0, 9, 12, 13)], .static yL_stock, .codeWith yL_row cL_row 4 (some .int) [(0, 8, 11, 13)], .static yL_row, .initialized RL] : List Cond).all am_inT = true := by decide +kernel
theorem am_inv_congr {call call' : am_K} {a n ci : Nat} {k : am_F → am_H → Prop} {lim : Nat × Nat} {pc : Nat} {ls : List (Option Value)} {st : List Value} {u : Nat × Nat} {h : am_H} (hc : call a = call' a) (H : am_inv call a n ci k lim pc ls st u h) : am_inv call' a n ci k lim pc ls st u h := by
  unfold am_inv at H ⊢
  rw [← hc]
  exact H
section
variable {p : Program} {l : Launch} {e : Env} {s : State} {m : MethodId} {below : List Frame} {meth : Method} {c : Code} {b : Nat}
variable {D : va_G} {dA : Nat → ClassId} {ro : Nat → am_C} {ad0 : Nat → Nat}
set_option maxHeartbeats 8000000 in
theorem lw_W {d : Nat} {Q : Option Value → am_H → Prop} {f0 : am_F} {h0 : am_H} (hd : d = 300) (hl0 : l.stackTraces = false) (hall : am_OkAll) (hstr : am_StrOk l) (hx : p.tables.exec = Jvm.exec) (hb : c.code = code) (hrt : meth.sig.returnType = ret) (hml : c.maxLocals = 8) (hown : s.vm.findClass RL = some m.cls) (hts : ∀ w ∈ am_gt, w.before #[Value.ref b] s = true) (hlocks : meth.locks = false)
    (hK : va_K D vwCl (am_tys dA) s) (hr : am_roS ro) (hro : am_RO ro ad0 (fun q => s.heap.size ≤ q) s s.heap) (hQ : ∀ x h, Q (some (.int x)) h → x = 1) (Hwp : am_wp (lawK d) (601024, 7293034) cm_L_law Q (fun _ => False) f0 h0) :
    am_Wp p l e room_1 s m #[Value.ref b] below meth c D dA (fun q => s.heap.size ≤ q) ro ad0 40 8 (601024, 7293034) (lw_Z below #[Value.ref b] s) f0 h0 := by
  have hA : ∀ q : Nat, s.heap.size ≤ q → (fun q : Nat => s.heap.size ≤ q) q := fun _ z => z
  have hR : (601024, 7293034).1 ≤ room_1.cells ∧ (601024, 7293034).2 ≤ room_1.slots := ⟨Nat.le_of_ble_eq_true rfl, Nat.le_of_ble_eq_true rfl⟩
  have hRf : d + 1 ≤ room_1.frames := by subst hd; exact Nat.le_of_ble_eq_true rfl
  have hRl : 40 * (d + 1) ≤ room_1.locals := by subst hd; exact Nat.le_of_ble_eq_true rfl
  have hw : ∀ w ∈ ([.codeWith yL_bracelet cL_bracelet 5 (some .int) [(0, 10, 13, 13)], .static yL_bracelet, .codeWith yL_bead cL_bead 5 (some .int) [(0, 10, 13, 13)], .static yL_bead, .codeWith yL_stock cL_stock 4 (some .int) [(0, 9, 12, 13)], .static yL_stock, .codeWith yL_row cL_row 4 (some .int) [(0, 8, 11, 13)], .static yL_row, .initialized RL] : List Cond), w ∈ am_gt := fun w hw => am_inT_use (List.all_eq_true.mp lw_hw w hw)
  refine Hwp (am_Wp p l e room_1 s m #[Value.ref b] below meth c D dA (fun q => s.heap.size ≤ q) ro ad0 40 8 (601024, 7293034) (lw_Z below #[Value.ref b] s)) ?_
  intro f h z
  obtain ⟨pc, L, st, u⟩ := f
  unfold am_step at z
  simp only at z
  split at z
  · rename_i en hen
    have hq := List.all_eq_true.mp lw_okAll _ (am_lookup_mem (show cd_L_law.lookup pc = some en from hen))
    unfold lw_ok at hq
    simp only [Bool.and_eq_true, Bool.or_eq_true, decide_eq_true_eq] at hq
    obtain ⟨⟨q1, q2⟩, q3⟩ := hq
    refine lw_ins (own := RL) (ow := 0) (ini := false) (rt := none) hx hb hts hK hr hA hro (Nat.le_refl _) hR ?_ q1 (fun hf => by
      rcases q2 with q2 | q2
      · rw [hf] at q2; cases q2
      · exact q2) z
    intro hlk H0
    obtain ⟨i, len, a, b', t, cv, dv⟩ := en
    unfold lw_lk at q3
    cases i <;> try (exact absurd (show false = true from hlk) Bool.false_ne_true)
    case new idx =>
      simp only [Bool.and_eq_true, beq_iff_eq] at q3
      obtain ⟨⟨rfl, rfl⟩, q3⟩ := q3
      split at q3
      · rename_i C T N e1
        simp only [Bool.and_eq_true] at q3
        have e2 := am_newok a C T N e1
        exact ams_new hx hb hts (am_gin a (am_ci9 e1) C T N e1) (am_tyOf a) (am_tyok a C T N e1).1 hown (hts _ (am_inT_use q3.1.1)) (hts _ (am_inT_use q3.1.2)) (hts _ (am_inT_use q3.2)) hK hA e1 e2.1 e2.2.1 e2.2.2 hR q1 H0
      · cases q3
    case invokevirtual idx =>
      simp only [Bool.and_eq_true, beq_iff_eq, decide_eq_true_eq, bne_iff_ne] at q3
      obtain ⟨⟨⟨rfl, ha⟩, ht⟩, q3⟩ := q3
      split at q3
      · rename_i y bytes ml rt' kd np C T N e1 e2
        simp only [Bool.and_eq_true, beq_iff_eq] at q3
        obtain ⟨⟨⟨rfl, rfl⟩, rfl⟩, q4⟩ := q3
        obtain ⟨ci, rfl⟩ : ∃ ci, t = ci + 1 := ⟨t - 1, by omega⟩
        exact lw_hv (d := d) hx hb hml hown hts hK hr hA hro (Nat.le_refl _) hR hRf hRl hall (am_sound l hall hstr d) e1 (by omega) e2 (am_inT_use q4) q1 (am_inv_congr (by funext as h Q; unfold lawK; rw [if_neg (by omega)]) H0)
      · cases q3
    case invokespecial idx =>
      simp only [Bool.and_eq_true, beq_iff_eq, decide_eq_true_eq, bne_iff_ne] at q3
      obtain ⟨⟨⟨rfl, ha⟩, ht⟩, q3⟩ := q3
      split at q3
      · rename_i y bytes ml rt' kd np e1
        simp only [Bool.and_eq_true, beq_iff_eq] at q3
        obtain ⟨⟨rfl, rfl⟩, q4⟩ := q3
        obtain ⟨ci, rfl⟩ : ∃ ci, t = ci + 1 := ⟨t - 1, by omega⟩
        exact lw_hi (d := d) hx hb hml hown hts hK hr hA hro (Nat.le_refl _) hR hRf hRl hall (am_sound l hall hstr d) e1 (by omega) (am_inT_use q4) q1 (am_inv_congr (by funext as h Q; unfold lawK; rw [if_neg (by omega)]) H0)
      · cases q3
    case invokestatic idx =>
      simp only [Bool.and_eq_true, Bool.or_eq_true, beq_iff_eq] at q3
      have hRf' : d + 2 + 1 ≤ room_1.frames := by subst hd; exact Nat.le_of_ble_eq_true rfl
      have hRl5 : 8 + (5 + 11) + 40 * (d + 2) ≤ room_1.locals := by subst hd; exact Nat.le_of_ble_eq_true rfl
      have hRl4 : 8 + (4 + 11) + 40 * (d + 2) ≤ room_1.locals := by subst hd; exact Nat.le_of_ble_eq_true rfl
      have hd5 : 5 ≤ d := by omega
      obtain ⟨⟨rfl, rfl⟩, ((⟨⟨rfl, rfl⟩, q4⟩ | ⟨⟨rfl, rfl⟩, q4⟩) | ⟨⟨rfl, rfl⟩, q4⟩) | ⟨⟨rfl, rfl⟩, q4⟩⟩ := q3
      · refine lw_hs (a := 600) (np := 4) (rm := { frames := d + 2, cells := 1, slots := 6, locals := 40 * (d + 2) }) hx hb hml hown hts hK hr hA hro (Nat.le_refl _) hR hRf' hRl5 ⟨rfl, rfl⟩ (fun as h Q H => ?_) (am_inT_use q4) (hw _ (List.mem_of_getElem? (i := 1) rfl)) (hw _ (List.mem_of_getElem? (i := 8) rfl)) (hw _ (List.mem_of_getElem? (i := 0) rfl)) (by decide +kernel) q1 H0
        match as, (show am_hl d 600 as h Q from H) with
        | [.ref x, .int b, .int w, .ref o], H => exact hp_600 hl0 hall hstr hd5 H
      · refine lw_hs (a := 601) (np := 4) (rm := { frames := d + 2, cells := 1, slots := 6, locals := 40 * (d + 2) }) hx hb hml hown hts hK hr hA hro (Nat.le_refl _) hR hRf' hRl5 ⟨rfl, rfl⟩ (fun as h Q H => ?_) (am_inT_use q4) (hw _ (List.mem_of_getElem? (i := 3) rfl)) (hw _ (List.mem_of_getElem? (i := 8) rfl)) (hw _ (List.mem_of_getElem? (i := 2) rfl)) (by decide +kernel) q1 H0
        match as, (show am_hl d 601 as h Q from H) with
        | [.ref x, .int b, .int w, .ref o], H => exact hp_601 hl0 hall hstr hd5 H
      · refine lw_hs (a := 602) (np := 3) (rm := { frames := d + 2, cells := 1, slots := 6, locals := 40 * (d + 2) }) hx hb hml hown hts hK hr hA hro (Nat.le_refl _) hR hRf' hRl4 ⟨rfl, rfl⟩ (fun as h Q H => ?_) (am_inT_use q4) (hw _ (List.mem_of_getElem? (i := 5) rfl)) (hw _ (List.mem_of_getElem? (i := 8) rfl)) (hw _ (List.mem_of_getElem? (i := 4) rfl)) (by decide +kernel) q1 H0
        match as, (show am_hl d 602 as h Q from H) with
        | [.ref x, .int b, .ref o], H => exact hp_602 hl0 hall hstr hd5 H
      · refine lw_hs (a := 603) (np := 3) (rm := { frames := d + 2, cells := 1, slots := 6, locals := 40 * (d + 2) }) hx hb hml hown hts hK hr hA hro (Nat.le_refl _) hR hRf' hRl4 ⟨rfl, rfl⟩ (fun as h Q H => ?_) (am_inT_use q4) (hw _ (List.mem_of_getElem? (i := 7) rfl)) (hw _ (List.mem_of_getElem? (i := 8) rfl)) (hw _ (List.mem_of_getElem? (i := 6) rfl)) (by decide +kernel) q1 H0
        match as, (show am_hl d 603 as h Q from H) with
        | [.ref x, .int b, .ref o], H => exact hp_603 hl0 hall hstr hd5 H
    case ireturn =>
      simp only [Bool.and_eq_true, beq_iff_eq] at q3
      obtain ⟨rfl, rfl⟩ := q3
      match st, H0 with
      | [.int x], H0 =>
        have H1 : (x = 0 ∨ x = 1) ∧ Q (some (.int x)) h := H0
        obtain rfl := hQ x h H1.2
        intro ad H locs ls had hn hP hD hS hokh hl hLo hst hu1 hu2
        exact va_forget hS.2.2 (W.widen hu1 hu2 (lw_ret hx hb hrt hlocks q1))
    all_goals (exact absurd (show false = true from q3) Bool.false_ne_true)
  · exact z.elim
end
