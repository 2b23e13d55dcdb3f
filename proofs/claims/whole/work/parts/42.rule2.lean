theorem stl_len (b : Nat) : ∀ (W L : List Nat), (stl b L W).1.length + (stl b L W).2.length = L.length + W.length
  | [], L => rfl
  | w :: W, L => by
    rw [stl]
    split
    · rw [stl_len b W, List.length_cons, List.length_cons]; omega
    · rfl
theorem stl_mem (b : Nat) : ∀ (W L : List Nat), ∀ w ∈ (stl b L W).2, w ∈ W
  | [], L, w, hw => hw
  | u :: W, L, w, hw => by
    rw [stl] at hw
    split at hw
    · exact List.mem_cons_of_mem _ (stl_mem b W _ w hw)
    · exact hw
theorem stl_cnt {b : Nat} (hb : 1 ≤ b) : ∀ (W L : List Nat), (stl b L W).2.count 40 = W.count 40
  | [], L => rfl
  | u :: W, L => by
    rw [stl]
    split
    · rename_i h
      have : u ≠ 40 := fun e => by rw [e] at h; exact absurd (Nat.le_trans hb h) (by decide)
      rw [stl_cnt hb W, List.count_cons_of_ne this]
    · rfl
theorem stl_head {b : Nat} : ∀ (W L : List Nat) {w : Nat} {W' : List Nat}, (stl b L W).2 = w :: W' → bnd w < b
  | [], L, w, W', h => by cases h
  | u :: W, L, w, W', h => by
    rw [stl] at h
    split at h
    · exact stl_head W _ h
    · rename_i hn
      have : u = w := by cases h; rfl
      rw [← this]
      omega
theorem stl_par {W L : List Nat} (hW : ∀ w ∈ W, w < 256 ∧ (w = 40 ∨ 1 ≤ bnd w)) (hc : 0 < W.count 40) : ∃ W', (stl 1 L W).2 = 40 :: W' := by
  cases e : (stl 1 L W).2 with
  | nil =>
    have := stl_cnt (b := 1) (Nat.le_refl _) W L
    rw [e] at this
    rw [← this] at hc
    exact absurd hc (by decide)
  | cons w W' =>
    have h1 := stl_head W L e
    have h2 := (hW w (stl_mem 1 W L w (by rw [e]; exact List.mem_cons_self))).2
    rcases h2 with h2 | h2
    · exact ⟨W', by rw [h2]⟩
    · omega
theorem clB_eq : ∀ m, m < 32 → ∀ k, k < 5 → nI m &&& (((1 : Int32) <<< (nI k &&& 31)) ^^^ (-1)) = nI (clB m k) ∧ clB m k < 32 := by decide +kernel
theorem stB_eq : ∀ m, m < 32 → ∀ k, k < 5 → nI m ||| ((1 : Int32) <<< (nI k &&& 31)) = nI (stB m k) ∧ stB m k < 32 := by decide +kernel
theorem trX_stc : ∀ x, x < 256 → trt x = true → stc (1000 + trX x) = -(nI x) := by decide +kernel
theorem tk_ok {s s' : Ru} {k x : Nat} (hx : x < 256) (hk : Uok s k) (ht : tk s x = some s') : Uok s' (k + 1) := by
  obtain ⟨L, W, dep, dig, cmp, wt⟩ := s
  obtain ⟨a1, a2, a3, a4, a5, a6, a7, a8⟩ := hk
  simp only at a1 a2 a3 a4 a5 a6 a7 a8
  unfold tk at ht
  split at ht
  · unfold tkD at ht
    simp only at ht
    split at ht
    · rename_i hx2 hw
      cases ht
      refine ⟨by simp only [List.length_cons]; omega, a2, a3, a4, a5, ?_, fun _ => ⟨_, _, rfl, ?_⟩, fun z => by cases z⟩
      · show dig + 1 ≤ 3; have := a8 hw; omega
      · show x - 48 < 10 ^ (dig + 1); rw [a8 hw]; omega
    · split at ht
      · rename_i hx2 hw hd
        split at ht
        · cases ht
          obtain ⟨v, L', e, hv⟩ := a7 (by omega)
          have ev := (List.cons.inj e).1
          refine ⟨by simp only [List.length_cons] at *; omega, a2, a3, a4, a5, ?_, fun _ => ⟨_, _, rfl, ?_⟩, fun z => by cases z⟩
          · show dig + 1 ≤ 3; omega
          · show _ * 10 + (x - 48) < 10 ^ (dig + 1); rw [ev, Nat.pow_succ]; omega
        · cases ht
      · cases ht
  · simp only at ht
    split at ht
    · unfold tkT at ht
      simp only at ht
      split at ht
      · cases ht
        exact ⟨by simp only [List.length_cons]; omega, a2, a3, by rw [List.count_cons_of_ne (by decide)]; exact a4, fun w hw => by
          rcases List.mem_cons.mp hw with e | e
          · rw [e]; decide
          · exact a5 w e, Nat.zero_le _, fun z => absurd z (show ¬ 1 ≤ 0 by decide), fun _ => rfl⟩
      · split at ht
        · split at ht
          · cases ht
          · cases ht
            exact ⟨by simp only [List.length_cons]; omega, by show dep + 1 ≤ 4; omega, (clB_eq cmp a3 (dep + 1) (by omega)).2, by show (40 :: W).count 40 = dep + 1; rw [List.count_cons_self, a4], fun w hw => by
              rcases List.mem_cons.mp hw with e | e
              · rw [e]; decide
              · exact a5 w e, Nat.zero_le _, fun z => absurd z (show ¬ 1 ≤ 0 by decide), fun _ => rfl⟩
        · split at ht
          · cases ht
            exact ⟨by simp only [List.length_cons]; omega, a2, a3, a4, a5, Nat.zero_le _, fun z => absurd z (show ¬ 1 ≤ 0 by decide), fun z => by cases z⟩
          · cases ht
    · unfold tkO at ht
      simp only at ht
      split at ht
      · split at ht
        · cases ht
        · rename_i hd
          cases ht
          obtain ⟨W', e⟩ := stl_par (L := L) a5 (by omega)
          have hl := stl_len 1 W L
          have hc := stl_cnt (b := 1) (Nat.le_refl _) W L
          rw [e] at hl hc
          rw [List.length_cons] at hl
          rw [List.count_cons_self] at hc
          refine ⟨?_, by show dep - 1 ≤ 4; omega, a3, ?_, fun w hw => a5 w (stl_mem 1 W L w (List.mem_of_mem_tail hw)), Nat.zero_le _, fun z => absurd z (show ¬ 1 ≤ 0 by decide), fun z => by cases z⟩
          · show (stl 1 L W).1.length + (stl 1 L W).2.tail.length ≤ k + 1; rw [e, List.tail_cons]; omega
          · show (stl 1 L W).2.tail.count 40 = dep - 1; rw [e, List.tail_cons]; omega
      · rename_i h41
        have push : ∀ b, 1 ≤ b → ∀ cmp', cmp' < 32 → (x < 256 ∧ 1 ≤ bnd x) → Uok ((stl b L W).1, x :: (stl b L W).2, dep, 0, cmp', true) (k + 1) := by
          intro b hb cmp' hc' hxb
          have hl := stl_len b W L
          have hne : x ≠ 40 := fun e => by rw [e] at hxb; exact absurd hxb.2 (by decide)
          refine ⟨by simp only [List.length_cons]; omega, a2, hc', by show (x :: (stl b L W).2).count 40 = dep; rw [List.count_cons_of_ne hne, stl_cnt hb, a4], fun w hw => ?_, Nat.zero_le _, fun z => absurd z (show ¬ 1 ≤ 0 by decide), fun _ => rfl⟩
          rcases List.mem_cons.mp hw with e | e
          · rw [e]; exact ⟨hxb.1, Or.inr hxb.2⟩
          · exact a5 w (stl_mem b W L w e)
        split at ht
        · cases ht
        · rename_i hb
          split at ht
          · rename_i hb1
            split at ht
            · cases ht
            · cases ht
              exact push 1 (Nat.le_refl _) _ (stB_eq cmp a3 dep (by omega)).2 ⟨hx, by omega⟩
          · cases ht
            exact push (bnd x) (by omega) _ a3 ⟨hx, by omega⟩
section
variable {d : Nat} {h : am_H} {Q : Option Value → am_H → Prop} {p : Nat}
theorem U_takesDigit {s : Ru} {k x : Nat} (hR : RU h p s) (hk : Uok s k) (hk40 : k < 40) (hx : x ≤ 9) (h1 : tkD s x = none → Q (some (.int 0)) h) (h2 : ∀ s', tkD s x = some s' → ∀ h', AgN p 4 h h' → RU h' p s' → Q (some (.int 1)) h') : am_call (d + 2) 66 [.ref p, .int (nI x)] h Q := by
  obtain ⟨L, W, dep, dig, cmp, wt⟩ := s
  obtain ⟨a1, a2, a3, a4, a5, a6, a7, a8⟩ := hk
  simp only at a1 a2 a3 a4 a5 a6 a7 a8
  obtain ⟨g1, g2, g3, e0, e1, e2, e3, e4, e5⟩ := id hR
  have tail : ∀ L' wt' h', AgN p 4 h h' → RU h' p (L', W, dep, dig, cmp, wt') → tkD (L, W, dep, dig, cmp, wt) x = some (L', W, dep, dig + 1, cmp, false) → am_wp (am_call (d + 1)) (0, 0) cm_X6_takesDigit Q (fun _ => False) (70, [some (.ref p), some (.int (nI x))], [], 0, 0) h' := by
    intro L' wt' h' ha hR' ht
    obtain ⟨k1, k2, k3, f0, f1, f2, f3, f4, f5⟩ := hR'
    refine am_run (am_cK _) 3 (am_obj_in f0 (am_run (am_cK _) 3 (am_obj_in f0 (am_run (am_cK _) 3 (am_obj_in as_s ⟨Or.inl rfl, am_run (am_cK _) 2 ⟨Or.inr rfl, h2 _ ht _ (ha.trans ((AgN.set (by omega)).trans (AgN.set (by omega)))) ⟨k1, k2, k3, ?_, (as_n (by omega)).trans ((as_n (by omega)).trans f1), (as_n (by omega)).trans ((as_n (by omega)).trans f2), (as_n (by omega)).trans ((as_n (by omega)).trans f3), f4, f5⟩⟩⟩)))))
    rw [as_s]
    show _ = cU p _ _ _ (nI (dig + 1)) _ _ _
    unfold cU
    rw [nI_succ]
    rfl
  refine en_X6_takesDigit (Nat.le_of_ble_eq_true rfl) (am_run (am_cK _) 2 (am_obj_in e0 (am_run (am_cK _) 1 ⟨fun c => ?_, fun c => ?_⟩)))
  · cases wt with
    | true => exact absurd c n10
    | false =>
      have fin : dig = 1 ∨ dig = 2 → am_wp (am_call (d + 1)) (0, 0) cm_X6_takesDigit Q (fun _ => False) (31, [some (.ref p), some (.int (nI x))], [], 0, 0) h := by
        intro hd
        obtain ⟨v, L', e, hv⟩ := a7 (by omega)
        subst e
        have hv100 : v < 100 := by rcases hd with e | e <;> rw [e] at hv <;> omega
        have ln : L'.length + 1 + W.length ≤ k := a1
        have e9 : nI (L'.length + 1) - 1 = nI L'.length := pk_sub (a := L'.length + 1) (b := 1) (by omega)
        refine am_run (am_cK _) 2 (am_obj_in e0 (am_run (am_cK _) 1 ⟨fun c => absurd c (nI_nle (n := L'.length + 1) (by omega) (by omega)), fun _ => ?_⟩))
        refine am_run (am_cK _) 2 (am_obj_in e0 (am_run (am_cK _) 2 (am_obj_in e0 (am_run (am_cK _) 4 (am_obj_in e0 (am_run (am_cK _) 2 (am_obj_in e0 (am_run (am_cK _) 3 (am_rdi_in e1 (show vp_in (nI (L'.length + 1) - 1) 40 ∧ am_wp (am_call (d + 1)) (0, 0) cm_X6_takesDigit Q (fun _ => False) (59, [some (.ref p), some (.int (nI x))], [.int (g1 (nI (L'.length + 1) - 1).toNatClampNeg), .int (nI (L'.length + 1) - 1), .ref (p + 1)], 0, 0) h from ?_))))))))))
        rw [e9]
        refine ⟨vp_in_nI (by omega) (by omega), ?_⟩
        rw [nI_clamp (by omega), Ar_top e4, show stc v = nI v from if_pos (by omega)]
        refine am_run (am_cK _) 5 (am_ari_in e1 ⟨vp_in_nI (by omega) (by omega), ?_⟩)
        rw [nI_clamp (by omega)]
        have e10 : nI v * 10 + nI x = stc (v * 10 + x) := by
          have e11 : nI v * 10 = nI (v * 10) := pk_mul v 10
          rw [e11, nI_add]
          exact (if_pos (by omega)).symm
        refine am_run (am_cK _) 1 (tail ((v * 10 + x) :: L') false _ (AgN.set (by omega)) ⟨upd g1 L'.length (nI v * 10 + nI x), g2, g3, (as_n (by omega)).trans e0, as_s, (as_n (by omega)).trans e2, (as_n (by omega)).trans e3, Ar_push (Ar_pop e4) e10, e5⟩ ?_)
        unfold tkD
        simp only
        rw [if_neg (by decide), if_pos hd]
      refine am_run (am_cK _) 2 (am_obj_in e0 (am_run (am_cK _) 2 ⟨fun c => fin (Or.inl ((nI_eq (b := 1) (show dig < 2 ^ 31 by omega) (by omega)).mp c)), fun c1 => ?_⟩))
      refine am_run (am_cK _) 2 (am_obj_in e0 (am_run (am_cK _) 2 ⟨fun c => ?_, fun c => fin (Or.inr ((nI_eq (b := 2) (show dig < 2 ^ 31 by omega) (by omega)).mp (Classical.not_not.mp c)))⟩))
      refine am_run (am_cK _) 2 ⟨Or.inl rfl, h1 ?_⟩
      unfold tkD
      simp only
      rw [if_neg (by decide), if_neg]
      rintro (z | z)
      · exact c1 (show nI dig = 1 by rw [z]; rfl)
      · exact c (show nI dig = 2 by rw [z]; rfl)
  · cases wt with
    | false => exact absurd rfl c
    | true =>
      refine am_run (am_cK _) 3 (am_obj_in e0 (U_addStep hR (by omega) (c := x) (if_pos (by omega)).symm (fun h' ha hR' => ?_)))
      exact am_run (am_cK _) 1 (tail (x :: L) true h' ha hR' rfl)
theorem U_takesThing {L W : List Nat} {dep cmp k x : Nat} {wt : Bool} (hR : RU h p (L, W, dep, 0, cmp, wt)) (hk : Uok (L, W, dep, 0, cmp, wt) k) (hk40 : k < 40) (hx : x < 256) (hwt : wt = true) (h1 : tkT (L, W, dep, 0, cmp, wt) x = none → Q (some (.int 0)) h) (h2 : ∀ s', tkT (L, W, dep, 0, cmp, wt) x = some s' → ∀ h', AgN p 4 h h' → RU h' p s' → Q (some (.int 1)) h') : am_call (d + 2) 67 [.ref p, .int (nI x)] h Q := by
  subst hwt
  obtain ⟨a1, a2, a3, a4, a5, a6, a7, a8⟩ := hk
  simp only at a1 a2 a3 a4 a5 a6 a7 a8
  obtain ⟨g1, g2, g3, e0, e1, e2, e3, e4, e5⟩ := id hR
  unfold tkT at h1 h2
  simp only at h1 h2
  refine en_X6_takesThing (Nat.le_of_ble_eq_true rfl) (am_run (am_cK _) 3 ⟨fun c => ?_, fun c => ?_⟩)
  · have c45 : ¬ x = 45 := fun z => c (by rw [z]; rfl)
    rw [if_neg c45] at h1 h2
    refine am_run (am_cK _) 3 ⟨fun c => ?_, fun c => ?_⟩
    · have c40 : ¬ x = 40 := fun z => c (by rw [z]; rfl)
      rw [if_neg c40] at h1 h2
      refine am_run (am_cK _) 2 (U_isTrait hx ?_)
      cases ht : trt x with
      | false =>
        rw [ht] at h1
        exact am_run (am_cK _) 1 ⟨fun z => absurd rfl z, fun _ => am_run (am_cK _) 2 ⟨Or.inl rfl, h1 rfl⟩⟩
      | true =>
        rw [ht] at h2
        refine am_run (am_cK _) 1 ⟨fun _ => ?_, fun z => absurd n10 z⟩
        refine am_run (am_cK _) 4 (am_obj_in e0 (U_addStep hR (by omega) (c := 1000 + trX x) (trX_stc x hx ht).symm (fun h' ha hR' => ?_)))
        obtain ⟨k1, k2, k3, f0, f1, f2, f3, f4, f5⟩ := hR'
        refine am_run (am_cK _) 3 (am_obj_in f0 ⟨Or.inl rfl, am_run (am_cK _) 2 ⟨Or.inr rfl, h2 _ rfl _ (ha.trans (AgN.set (by omega))) ⟨k1, k2, k3, as_s, (as_n (by omega)).trans f1, (as_n (by omega)).trans f2, (as_n (by omega)).trans f3, f4, f5⟩⟩⟩)
    · have c40 : x = 40 := (nI_eq (b := 40) (by omega) (by omega)).mp (Classical.not_not.mp c)
      rw [if_pos c40] at h1 h2
      refine am_run (am_cK _) 2 (am_obj_in e0 (am_run (am_cK _) 2 ⟨fun c => ?_, fun c => ?_⟩))
      · have hd : dep < 4 := (nI_ltI (b := 4) (show dep < 2 ^ 31 by omega) (by omega)).mp c
        rw [if_neg (by omega)] at h2
        have hcl := clB_eq cmp a3 (dep + 1) (by omega)
        refine am_run (am_cK _) 3 (am_obj_in e0 (am_run (am_cK _) 3 (am_obj_in e0 ?_)))
        refine am_run (am_cK _) 3 (am_obj_in as_s (am_run (am_cK _) 3 (am_obj_in as_s (am_run (am_cK _) 5 (am_obj_in as_s ?_)))))
        generalize hH : am_set (am_set h p _) p _ = h0
        have f0 : h0.2 p = cU p (nI L.length) (nI W.length) (nI (dep + 1)) 0 (nI (clB cmp (dep + 1))) g2.2 1 := by
          rw [← hH, as_s, ← hcl.1, nI_succ]
          rfl
        have fx : ∀ q, ¬ q = p → h0.2 q = h.2 q := fun q hq => by rw [← hH]; exact (as_n hq).trans (as_n hq)
        have ha : AgN p 4 h h0 := by rw [← hH]; exact (AgN.set (by omega)).trans (AgN.set (by omega))
        have hR0 : RU h0 p (L, W, dep + 1, 0, clB cmp (dep + 1), true) := ⟨g1, g2, g3, f0, (fx _ (by omega)).trans e1, (fx _ (by omega)).trans e2, (fx _ (by omega)).trans e3, e4, e5⟩
        rw [c40]
        refine am_run (am_cK _) 3 (am_obj_in f0 (U_addWaiting (c := 40) hR0 (by omega) (by omega) (fun h' ha' hR' => am_run (am_cK _) 2 ⟨Or.inr rfl, h2 _ rfl h' (ha.trans ha') hR'⟩)))
      · have hd : 4 ≤ dep := Nat.le_of_not_lt (fun z => c ((nI_ltI (b := 4) (show dep < 2 ^ 31 by omega) (by omega)).mpr z))
        rw [if_pos hd] at h1
        exact am_run (am_cK _) 2 ⟨Or.inl rfl, h1 rfl⟩
  · have c45 : x = 45 := (nI_eq (b := 45) (by omega) (by omega)).mp (Classical.not_not.mp c)
    rw [if_pos c45] at h2
    refine am_run (am_cK _) 3 (am_obj_in e0 (U_addWaiting (c := 126) hR (by omega) (by omega) (fun h' ha' hR' => am_run (am_cK _) 2 ⟨Or.inr rfl, h2 _ rfl h' ha' hR'⟩)))
end
