/-! the four that throw: the class -/
theorem xbr_sw : ∀ i, i < 6 → am_tsw 43 83 0 5 #[37, 40, 47, 54, 61, 74] (nI i) = [80, 83, 90, 97, 104, 117].getD i 0 := by decide +kernel
section
variable {d : Nat} {h : am_H} {Q : Option Value → am_H → Prop} {X : am_H → Prop} {M : Ms}
theorem T_bracelet (hX : RX h M) (b w : Int32) (h1 : oBr M b w = none → X h) (h2 : ∀ x, oBr M b w = some x → ∀ h', Fx h h' → RX h' M → Q (some (.int x)) h') : am_wp (am_call (d + 20)) (0, 0) cm_X10_bracelet Q X (0, am_loc [.ref 40, .int b, .int w] 5, [], 0, 0) h := by
  obtain ⟨a, b', dr, hX⟩ := hX
  have hs := hX.s.2
  have hN := hs.1
  have hab := hX.o.2
  obtain ⟨r, z, kk, e0, e1, e2, e3, e4, e5⟩ := id hX.s.1
  refine am_run (am_cK _) 2 (am_obj_in hX.o.1 (am_run (am_cK _) 2 (am_obj_in hX.so ((S_lacks hX.s.1 hs b (fun c => ?_) (fun j hj e => ?_))))))
  · exact am_run (am_cK _) 1 (⟨fun w => absurd w n10, fun _ => am_run (am_cK _) 1 (⟨rfl, h1 (by unfold oBr; rw [if_pos c])⟩)⟩)
  subst e
  have hz := hs.2.1 j hj
  have eb := oBr_at (M := M) hs hj w
  have ok : ∀ x, oBr M (nI j) w = some x → Q (some (.int x)) h := fun x ex => h2 x ex h Fx.rf ⟨a, b', dr, hX⟩
  refine am_run (am_cK _) 1 (⟨fun _ => ?_, fun w => absurd rfl w⟩)
  refine am_run (am_cK _) 2 (am_obj_in hX.o.1 (am_run (am_cK _) 1 (am_obj_in hX.so (am_run (am_cK _) 2 (am_ld e1 j (by omega) ?_)))))
  rw [nI_clamp (by omega), (e4 j hj).1]
  refine am_run (am_cK _) 1 (show am_wp (am_call (d + 20)) (0, 0) cm_X10_bracelet Q X (31, [some (.ref 40), some (.int (nI j)), some (.int w), some (.int (nI (rk (sB (mS M) j) (sZ (mS M) j)))), none], [], 0, 0) h from ?_)
  refine am_run (am_cK _) 2 (am_obj_in hX.o.1 (am_run (am_cK _) 1 (am_obj_in hX.so (am_run (am_cK _) 2 (am_ld e2 j (by omega) ?_)))))
  rw [nI_clamp (by omega), (e4 j hj).2]
  refine am_run (am_cK _) 3 (show am_wp (am_call (d + 20)) (0, 0) cm_X10_bracelet Q X (am_tsw 43 83 0 5 #[37, 40, 47, 54, 61, 74] w, [some (.ref 40), some (.int (nI j)), some (.int w), some (.int (nI (rk (sB (mS M) j) (sZ (mS M) j)))), some (.int (nI (sZ (mS M) j)))], [], 0, 0) h from ?_)
  have out : (w < 0 ∨ nI 5 < w) → am_wp (am_call (d + 20)) (0, 0) cm_X10_bracelet Q X (am_tsw 43 83 0 5 #[37, 40, 47, 54, 61, 74] w, [some (.ref 40), some (.int (nI j)), some (.int w), some (.int (nI (rk (sB (mS M) j) (sZ (mS M) j)))), some (.int (nI (sZ (mS M) j)))], [], 0, 0) h := fun c => by
    have ne : ∀ k, k ≤ 5 → ¬ w = nI k := fun k hk e => by
      subst e
      rcases c with c | c
      · exact nI_pos (by omega) c
      · exact nI_nlt (a := 5) (b := k) hk (by omega) c
    rw [show am_tsw 43 83 0 5 #[37, 40, 47, 54, 61, 74] w = 126 from tsw_out (k := 126) (c.imp (fun q => toInt_neg q) (fun q => toInt_lt (k := 5) (by omega) q)) (by decide)]
    refine am_run (am_cK _) 1 (⟨rfl, h1 ?_⟩)
    rw [eb]
    rw [if_neg (show ¬ w = 0 from ne 0 (by omega)), if_neg (show ¬ w = 1 from ne 1 (by omega)), if_neg (show ¬ w = 2 from ne 2 (by omega)), if_neg (show ¬ w = 3 from ne 3 (by omega)), if_neg (show ¬ w = 4 from ne 4 (by omega)), if_neg (show ¬ w = 5 from ne 5 (by omega))]
  by_cases c1 : w < 0
  · exact out (Or.inl c1)
  by_cases c2 : nI 5 < w
  · exact out (Or.inr c2)
  obtain ⟨i, _, hi, rfl⟩ := num_in (a := 0) (b := 5) (by omega) (by omega) c1 c2
  clear out c1 c2
  rw [xbr_sw i (by omega)]
  match i, hi, eb with
  | 0, _, eb => exact am_run (am_cK _) 2 (ok _ eb)
  | 1, _, eb => exact am_run (am_cK _) 3 (B_colourBits hz.2.1 hz.2.2 (am_run (am_cK _) 1 (ok _ eb)))
  | 2, _, eb => exact am_run (am_cK _) 3 (B_period hz.1 hz.2.1 hz.2.2 (am_run (am_cK _) 1 (ok _ eb)))
  | 3, _, eb => exact am_run (am_cK _) 3 (B_mirrors hz.1 hz.2.1 hz.2.2 (am_run (am_cK _) 1 (ok _ eb)))
  | 4, _, eb =>
    refine am_run (am_cK _) 2 (am_obj_in hX.o.1 (am_run (am_cK _) 3 (am_obj_in hX.o.1 (am_run (am_cK _) 1 (am_obj_in hX.so ((S_priceOf hX.s.1 hs hX.r.1 hX.r.2 hj (fun h5 a5 r5 => ?_))))))))
    have hX5 := hX.pR r5 (fun x hx => a5.2 x (by omega))
    exact am_run (am_cK _) 1 (h2 _ eb h5 (a5.fx (by omega) (by omega)) ⟨a, b', dr, hX5⟩)
  | 5, _, eb => exact am_run (am_cK _) 2 (am_obj_in hX.o.1 (am_run (am_cK _) 2 (am_obj_in hX.so ((S_othersAlike hX.s.1 hs hj (am_run (am_cK _) 1 (ok _ eb)))))))
theorem T_bead (hX : RX h M) (b i : Int32) (h1 : oBd M b i = none → X h) (h2 : ∀ x, oBd M b i = some x → ∀ h', Fx h h' → RX h' M → Q (some (.int x)) h') : am_wp (am_call (d + 20)) (0, 0) cm_X10_bead Q X (0, am_loc [.ref 40, .int b, .int i] 3, [], 0, 0) h := by
  obtain ⟨a, b', dr, hX⟩ := hX
  have hs := hX.s.2
  have hN := hs.1
  obtain ⟨r, z, kk, e0, e1, e2, e3, e4, e5⟩ := id hX.s.1
  refine am_run (am_cK _) 2 (am_obj_in hX.o.1 (am_run (am_cK _) 3 (am_obj_in hX.so ((S_lacksBead hX.s.1 hs b i (fun c => ?_) (fun j hj e c => ?_) (fun j hj e k hk ek => ?_))))))
  · exact am_run (am_cK _) 1 (⟨fun w => absurd w n10, fun _ => am_run (am_cK _) 1 (⟨rfl, h1 (by unfold oBd; rw [if_pos c])⟩)⟩)
  · subst e
    exact am_run (am_cK _) 1 (⟨fun w => absurd w n10, fun _ => am_run (am_cK _) 1 (⟨rfl, h1 (by unfold oBd; rw [if_neg (S_no hs hj), nI_clamp (by omega), if_pos c])⟩)⟩)
  subst e
  subst ek
  have hz := hs.2.1 j hj
  have eo : oBd M (nI j) (nI k) = some (nI (sB (mS M) j k)) := by
    unfold oBd
    rw [if_neg (S_no hs hj), nI_clamp (by omega), if_neg (in_no hk (by omega)), nI_clamp (by omega)]
  refine am_run (am_cK _) 1 (⟨fun _ => ?_, fun w => absurd rfl w⟩)
  refine am_run (am_cK _) 2 (am_obj_in hX.o.1 (am_run (am_cK _) 1 (am_obj_in hX.so (am_run (am_cK _) 2 (am_ld e1 j (by omega) ?_)))))
  rw [nI_clamp (by omega), (e4 j hj).1]
  refine am_run (am_cK _) 2 (am_obj_in hX.o.1 (am_run (am_cK _) 1 (am_obj_in hX.so (am_run (am_cK _) 2 (am_ld e2 j (by omega) ?_)))))
  rw [nI_clamp (by omega), (e4 j hj).2]
  exact am_run (am_cK _) 2 (B_colourAt hz.2.1 hz.2.2 hk (am_run (am_cK _) 1 (h2 _ eo h Fx.rf ⟨a, b', dr, hX⟩)))
theorem T_stock (hX : RX h M) (c : Int32) (h1 : oSt M c = none → X h) (h2 : ∀ x, oSt M c = some x → ∀ h', Fx h h' → RX h' M → Q (some (.int x)) h') : am_wp (am_call (d + 20)) (0, 0) cm_X10_stock Q X (0, am_loc [.ref 40, .int c] 2, [], 0, 0) h := by
  obtain ⟨a, b', dr, hX⟩ := hX
  obtain ⟨r, z, kk, e0, e1, e2, e3, e4, e5⟩ := id hX.s.1
  refine am_run (am_cK _) 2 (B_isNoColour c (fun q => ?_) (fun q => ?_))
  · exact am_run (am_cK _) 1 (⟨fun w => absurd w n10, fun _ => am_run (am_cK _) 1 (⟨rfl, h1 (by unfold oSt; rw [if_pos q])⟩)⟩)
  obtain ⟨y, hy, rfl⟩ := S_num2 (n := 4) (by omega) q
  have eo : oSt M (nI y) = some (nI (sK (mS M) y)) := by
    unfold oSt
    rw [if_neg q, nI_clamp (by omega)]
  refine am_run (am_cK _) 1 (⟨fun _ => ?_, fun w => absurd rfl w⟩)
  refine am_run (am_cK _) 2 (am_obj_in hX.o.1 (am_run (am_cK _) 1 (am_obj_in hX.so (am_run (am_cK _) 2 (am_ld e3 y (by omega) ?_)))))
  rw [nI_clamp (by omega), e5 y hy]
  exact am_run (am_cK _) 1 (h2 _ eo h Fx.rf ⟨a, b', dr, hX⟩)
theorem T_row (hX : RX h M) (i : Int32) (h1 : oRw M i = none → X h) (h2 : ∀ x, oRw M i = some x → ∀ h', Fx h h' → RX h' M → Q (some (.long x.toInt64)) h') : am_wp (am_call (d + 20)) (0, 0) cm_X10_row Q X (0, am_loc [.ref 40, .int i] 2, [], 0, 0) h := by
  obtain ⟨a, b', dr, hX⟩ := hX
  have h16 := hX.d.2
  obtain ⟨e0, g, e1, e2⟩ := id hX.d.1
  refine am_run (am_cK _) 2 (⟨fun c => ?_, fun c => ?_⟩)
  · exact am_run (am_cK _) 1 (⟨rfl, h1 (by unfold oRw; rw [if_pos (Or.inl (show i < 0 from c))])⟩)
  refine am_run (am_cK _) 3 (am_obj_in hX.o.1 (am_run (am_cK _) 1 (am_obj_in hX.d.1.1 (am_run (am_cK _) 1 (⟨fun c2 => ?_, fun c2 => ?_⟩)))))
  · obtain ⟨y, hy, rfl⟩ := nI_of c
    have hyl : y < (mD M).1 := (nI_ltI hy (by omega)).mp c2
    have eo : oRw M (nI y) = some ((mD M).2 y) := by
      unfold oRw
      rw [if_neg (in_no hyl (by omega)), nI_clamp (by omega)]
    refine am_run (am_cK _) 2 (am_obj_in hX.o.1 (am_run (am_cK _) 1 (am_obj_in hX.d.1.1 (am_run (am_cK _) 2 (am_ld e1 y (by omega) ?_)))))
    rw [nI_clamp (by omega), e2 y hyl]
    exact am_run (am_cK _) 2 (h2 _ eo h Fx.rf ⟨a, b', dr, hX⟩)
  · exact am_run (am_cK _) 1 (⟨rfl, h1 (by unfold oRw; rw [if_pos (Or.inr (Int32.not_lt.mp c2))])⟩)
end
