theorem am_prim_in {d k : Nat} {as : List Value} {h : am_H} {Q : Option Value → am_H → Prop} (hk : 900 ≤ k) (H : am_prim d k as h Q) : am_call (d + 1) k as h Q := by
  unfold am_call
  rw [if_pos hk]
  exact H
/-- a static call, one step -/
theorem am_inv_in {call : am_K} {mno n : Nat} {k : am_F → am_H → Prop} {lim : Nat × Nat} {pc : Nat} {ls : List (Option Value)} {st : List Value} {u : Nat × Nat} {h : am_H} (hc : (decide (am_cats (st.drop n) ≤ 8) && (decide (n ≤ st.length) && (decide (u.1 + (am_lim mno).1 ≤ lim.1) && decide (u.2 + (am_lim mno).2 ≤ lim.2)))) = true) (H : call mno (st.take n).reverse h (fun v h' => k (pc + 3, ls, v.toList ++ st.drop n, u.1 + (am_lim mno).1, u.2 + (am_lim mno).2) h')) : am_inv call mno n 0 k lim pc ls st u h := by
  unfold am_inv
  simp only [Bool.and_eq_true, decide_eq_true_eq] at hc
  rw [if_pos hc]
  exact H
theorem J_copy {d : Nat} {h : am_H} {Q : Option Value → am_H → Prop} {a b n0 n1 : Nat} {f g : Nat → Int32} (n : Nat) (ha : h.2 a = aI n0 f) (hb : h.2 b = aI n1 g) (h1 : n ≤ n0) (h2 : n ≤ n1) (hn : n < 2 ^ 31) (hQ : Q none (am_set h b (aI n1 (va_cpy f g 0 0 n)))) : am_call (d + 1) 900 [.ref a, .int 0, .ref b, .int 0, .int (nI n)] h Q := by
  refine am_prim_in (Nat.le_refl _) ?_
  show am_ari h a .int _
  refine am_ari_in ha (am_ari_in hb ⟨by decide, by decide, nI_pos hn, ?_, ?_, ?_⟩)
  · rw [nI_clamp hn]; show 0 + n ≤ n0; omega
  · rw [nI_clamp hn]; show 0 + n ≤ n1; omega
  · rw [nI_clamp hn]; exact hQ
theorem J_maxI {d : Nat} {h : am_H} {Q : Option Value → am_H → Prop} (x y : Int32) (hQ : Q (some (.int (if x < y then y else x))) h) : am_call (d + 1) 324 [.int x, .int y] h Q := by
  refine en_J9_max_7cf53 (Nat.le_of_ble_eq_true rfl) ?_
  refine am_run (am_cK _) 3 ⟨fun c => ?_, fun c => ?_⟩
  · have c' : x < y := c
    rw [if_pos c'] at hQ
    exact am_run (am_cK _) 2 hQ
  · have c' : ¬ x < y := c
    rw [if_neg c'] at hQ
    exact am_run (am_cK _) 3 hQ
theorem J_minI {d : Nat} {h : am_H} {Q : Option Value → am_H → Prop} (x y : Int32) (hQ : Q (some (.int (if y < x then y else x))) h) : am_call (d + 1) 325 [.int x, .int y] h Q := by
  refine en_J9_min_7cf53 (Nat.le_of_ble_eq_true rfl) ?_
  refine am_run (am_cK _) 3 ⟨fun c => ?_, fun c => ?_⟩
  · have c' : y < x := c
    rw [if_pos c'] at hQ
    exact am_run (am_cK _) 2 hQ
  · have c' : ¬ y < x := c
    rw [if_neg c'] at hQ
    exact am_run (am_cK _) 3 hQ
/-- held to 0 .. m -/
def clp (m : Nat) (e : Int32) : Nat := if e < 0 then 0 else if nI m < e then m else e.toNatClampNeg
theorem clp_le (m : Nat) (e : Int32) (hm : m < 2 ^ 31) : clp m e ≤ m := by
  unfold clp
  split
  · omega
  · split
    · omega
    · rename_i h1 h2
      obtain ⟨x, hx, rfl⟩ := nI_of h1
      rw [nI_clamp hx]
      exact Nat.le_of_not_lt (fun z => h2 ((nI_ltI hm hx).mpr z))
theorem clp_eq {m : Nat} (hm : m < 2 ^ 31) (e : Int32) : (if (0 : Int32) < (if e < nI m then e else nI m) then (if e < nI m then e else nI m) else 0) = nI (clp m e) := by
  unfold clp
  by_cases h0 : e < 0
  · rw [if_pos h0, if_pos (Int32.lt_of_lt_of_le h0 (nI_pos' hm)), if_neg (fun z => Int32.lt_irrefl (Int32.lt_trans h0 z))]
    rfl
  · rw [if_neg h0]
    obtain ⟨x, hx, rfl⟩ := nI_of h0
    by_cases h1 : nI m < nI x
    · rw [if_pos h1, if_neg (fun z => Int32.lt_irrefl (Int32.lt_trans h1 z))]
      by_cases hm0 : m = 0
      · subst hm0; rfl
      · rw [if_pos (show (0 : Int32) < nI m from (nI_ltI (a := 0) (by omega) hm).mpr (by omega))]
    · rw [if_neg h1, nI_clamp hx]
      by_cases h2 : nI x < nI m
      · rw [if_pos h2]
        by_cases hx0 : x = 0
        · subst hx0; rfl
        · rw [if_pos (show (0 : Int32) < nI x from (nI_ltI (a := 0) (by omega) hx).mpr (by omega))]
      · rw [if_neg h2]
        have e : x = m := by
          have a1 := Nat.le_of_not_lt (fun z => h1 ((nI_ltI hm hx).mpr z))
          have a2 := Nat.le_of_not_lt (fun z => h2 ((nI_ltI hx hm).mpr z))
          omega
        subst e
        by_cases hx0 : x = 0
        · subst hx0; rfl
        · rw [if_pos (show (0 : Int32) < nI x from (nI_ltI (a := 0) (by omega) hx).mpr (by omega))]
/-- an entry of a sheet -/
def shE (kind f step : Int32) (c : Nat) : Int32 := if kind = 0 then (f + nI c * step).toInt8.toInt32 else if kind = 1 then (f + nI c * step).toInt16.toInt32 else f + nI c * step
def sSheet (σ : Sg) (kind n f step : Int32) : Sg := setK σ (fun c => if nI c < n then clp 99 (shE kind f step c) else 0)
/-- a word is strung -/
def sApp (σ : Sg) (f : Nat → Nat) (n : Nat) : Sg := (sN σ + 1, va_up (sZ σ) (sN σ) n, va_up (sB σ) (sN σ) f, (fun c => if c < 4 then sK σ c - num f n c else sK σ c), sP σ)
def sStr (σ : Sg) (f : Nat → Nat) (n : Nat) : Int32 × Sg := if 5 ≤ sN σ then (-100, σ) else if hsB σ f n < 4 then (-101, σ) else (nI (sN σ), sApp σ f n)
section
variable {d : Nat} {h : am_H} {Q : Option Value → am_H → Prop} {p : Nat} {σ : Sg}
theorem RS_k2 {k k' : Nat → Nat} (hk : ∀ c, c < 4 → k c = k' c) (hR : RS h p (setK σ k)) : RS h p (setK σ k') := by
  obtain ⟨r, z, kk, e0, e1, e2, e3, e4, e5⟩ := hR
  exact ⟨r, z, kk, e0, e1, e2, e3, e4, fun c hc => by rw [e5 c hc]; show nI (k c) = nI (k' c); rw [hk c hc]⟩
theorem S_part (hR : RS h p σ) (hs : Sok σ) (b : Int32) (hQ : ∀ h', Ag p h h' → RS h' p (sPart σ b).2 → Q (some (.int (sPart σ b).1)) h') : am_call (d + 4) 91 [.ref p, .int b] h Q := by
  have hR0 := hR
  obtain ⟨r, z, kk, e0, e1, e2, e3, e4, e5⟩ := hR
  have hN := hs.1
  refine en_X7_part (Nat.le_of_ble_eq_true rfl) (am_run (am_cK _) 3 (am_obj_in e0 (S_lacks hR0 hs b (fun c => ?_) (fun j hj e => ?_))))
  · have q := hQ h Ag.rf (by unfold sPart; rw [if_pos c]; exact hR0)
    unfold sPart at q
    rw [if_pos c] at q
    exact am_run (am_cK _) 1 ⟨fun z => absurd z n10, fun _ => am_run (am_cK _) 2 q⟩
  subst e
  have hz := hs.2.1 j hj
  have q := hQ
  unfold sPart at q
  rw [if_neg (S_no hs hj), nI_clamp (by omega)] at q
  refine am_run (am_cK _) 1 ⟨fun _ => ?_, fun c => absurd rfl c⟩
  refine am_run (am_cK _) 2 (am_obj_in e0 (am_run (am_cK _) 2 (am_rdi_in e2 ⟨vp_in_nI (by omega) (by omega), ?_⟩)))
  rw [nI_clamp (by omega), (e4 j hj).2]
  refine am_run (am_cK _) 3 ?_
  suffices H : ∀ k i h', i + k = 4 → Ag p h h' → RS h' p (setK σ (fun c => if c < i then Nat.min 99 (sK σ c + num (sB σ j) (sZ σ j) c) else sK σ c)) → am_wp (am_call (d + 3)) (0, 0) cm_X7_part Q (fun _ => False) (19, [some (.ref p), some (.int (nI j)), some (.int (nI (sZ σ j))), some (.int (nI i))], [], 0, 0) h' from
    H 4 0 h (by omega) Ag.rf ⟨r, z, kk, e0, e1, e2, e3, e4, fun c hc => by rw [e5 c hc]; rfl⟩
  intro k
  induction k with
  | zero =>
    intro i h' hi ha hR'
    have e : i = 4 := by omega
    subst e
    have hs' : Sok (setK σ (fun c => if c < 4 then Nat.min 99 (sK σ c + num (sB σ j) (sZ σ j) c) else sK σ c)) := setK_ok hs (fun c hc => by show (if c < 4 then _ else _) ≤ 99; rw [if_pos hc]; exact Nat.min_le_left _ _)
    have f0 := hR'.choose_spec.choose_spec.choose_spec.1
    refine am_run (am_cK _) 3 ⟨fun _ => ?_, fun c => absurd (nI_le (a := 4) (b := 4) (Nat.le_refl _) (by omega)) c⟩
    refine am_run (am_cK _) 3 (am_obj_in f0 (S_drop hR' hs' (b := j) hj (fun h2 ha2 hR2 => ?_)))
    exact am_run (am_cK _) 2 (q h2 (ha.trans ha2) hR2)
  | succ k ih =>
    intro i h' hi ha hR'
    have hs' : Sok (setK σ (fun c => if c < i then Nat.min 99 (sK σ c + num (sB σ j) (sZ σ j) c) else sK σ c)) := setK_ok hs (fun c hc => by
      show (if c < i then _ else _) ≤ 99
      split
      · exact Nat.min_le_left _ _
      · exact hs.2.2.1 c hc)
    have hR2 := hR'
    obtain ⟨r', z', k', f0, f1, f2, f3, f4, f5⟩ := hR2
    refine am_run (am_cK _) 3 ⟨fun c => absurd c (nI_ge (b := 4) (by omega) (by omega)), fun _ => ?_⟩
    refine am_run (am_cK _) 5 (am_obj_in f0 (am_run (am_cK _) 2 (am_rdi_in f1 ⟨vp_in_nI (by omega) (by omega), ?_⟩)))
    rw [nI_clamp (by omega), (f4 j hj).1]
    refine am_run (am_cK _) 2 (B_numberOf hz.2.1 (by omega) hz.2.2 ?_)
    have hl := num_le (sB σ j) (sZ σ j) i
    refine am_run (am_cK _) 1 (am_obj_in f0 (S_putBack hR' hs' (c := i) (n := num (sB σ j) (sZ σ j) i) (by omega) (by omega) (fun h2 ha2 hR2 => ?_)))
    have hR3 : RS h2 p (setK σ (fun c => if c < i + 1 then Nat.min 99 (sK σ c + num (sB σ j) (sZ σ j) c) else sK σ c)) := RS_k2 (fun c hc => by
      show va_up (fun c => if c < i then Nat.min 99 (sK σ c + num (sB σ j) (sZ σ j) c) else sK σ c) i (Nat.min 99 ((if i < i then Nat.min 99 (sK σ i + num (sB σ j) (sZ σ j) i) else sK σ i) + num (sB σ j) (sZ σ j) i)) c = _
      by_cases e : c = i
      · subst e; rw [am_up_s, if_neg (Nat.lt_irrefl _), if_pos (Nat.lt_succ_self _)]
      · rw [am_up_n e]
        by_cases e2 : c < i
        · rw [if_pos e2, if_pos (by omega)]
        · rw [if_neg e2, if_neg (by omega)]) hR2
    have zz := ih (i + 1) h2 (by omega) (ha.trans ha2) hR3
    rw [nI_succ] at zz
    exact am_run (am_cK _) 2 zz
theorem S_string (hR : RS h p σ) (hs : Sok σ) {f : Nat → Nat} {n : Nat} (hn : n ≤ 10) (hf : ∀ i, i < n → f i < 4) (hQ : ∀ h', Ag p h h' → RS h' p (sStr σ f n).2 → Q (some (.int (sStr σ f n).1)) h') : am_call (d + 5) 84 [.ref p, .int (nI (rk f n)), .int (nI n)] h Q := by
  have hR0 := hR
  obtain ⟨r, z, kk, e0, e1, e2, e3, e4, e5⟩ := hR
  have hN := hs.1
  have fin : ∀ a, sStr σ f n = (a, σ) → Q (some (.int a)) h := fun a e => by
    have q := hQ h Ag.rf (by rw [e]; exact hR0)
    rw [e] at q
    exact q
  refine en_X7_string (Nat.le_of_ble_eq_true rfl) (am_run (am_cK _) 2 (am_obj_in e0 (am_run (am_cK _) 2 ⟨fun c => ?_, fun c => ?_⟩)))
  · have h5 : sN σ < 5 := (nI_ltI (b := 5) (by omega) (by omega)).mp c
    refine am_run (am_cK _) 4 (am_obj_in e0 (S_hasBeadsFor hR0 hs hn hf (fun w => ?_) (fun w => ?_)))
    · exact am_run (am_cK _) 1 ⟨fun z => absurd rfl z, fun _ => am_run (am_cK _) 2 (fin _ (by unfold sStr; rw [if_neg (by omega), if_pos w]))⟩
    have esp : sStr σ f n = (nI (sN σ), sApp σ f n) := by unfold sStr; rw [if_neg (by omega), if_neg (by omega)]
    have q := hQ
    rw [esp] at q
    -- every colour is there
    have hall : ∀ k s, fnd (fun c => decide (sK σ c < num f n c)) s k = s + k → ∀ c, s ≤ c → c < s + k → num f n c ≤ sK σ c := by
      intro k
      induction k with
      | zero => intro s _ c h1 h2; omega
      | succ k ih =>
        intro s hs' c h1 h2
        rw [fnd] at hs'
        by_cases hc : sK σ s < num f n s
        · rw [if_pos (by simpa using hc)] at hs'; omega
        · rw [if_neg (by simpa using hc)] at hs'
          by_cases e : c = s
          · subst e; omega
          · exact ih (s + 1) (by omega) c (by omega) (by omega)
    have hk4 : ∀ c, c < 4 → num f n c ≤ sK σ c := fun c hc => hall 4 0 (by unfold hsB at w; omega) c (by omega) (by omega)
    refine am_run (am_cK _) 1 ⟨fun _ => am_run (am_cK _) 2 ?_, fun z => absurd n10 z⟩
    suffices H : ∀ k i h' k', i + k = 4 → Ag p h h' → h'.2 p = cS p (sN σ) (sP σ) → h'.2 (p + 1) = aI 5 r → h'.2 (p + 2) = aI 5 z → h'.2 (p + 3) = aI 4 k' → (∀ c, c < 4 → k' c = nI (if c < i then sK σ c - num f n c else sK σ c)) → am_wp (am_call (d + 4)) (0, 0) cm_X7_string Q (fun _ => False) (25, [some (.ref p), some (.int (nI (rk f n))), some (.int (nI n)), some (.int (nI i))], [], 0, 0) h' from
      H 4 0 h kk (by omega) Ag.rf e0 e1 e2 e3 (fun c hc => by rw [e5 c hc]; rfl)
    intro k
    induction k with
    | zero =>
      intro i h' k' hi ha f0 f1 f2 f3 f5
      have e : i = 4 := by omega
      subst e
      refine am_run (am_cK _) 3 ⟨fun _ => ?_, fun c => absurd (nI_le (a := 4) (b := 4) (Nat.le_refl _) (by omega)) c⟩
      refine am_run (am_cK _) 2 (am_obj_in f0 (am_run (am_cK _) 2 (am_obj_in f0 (am_run (am_cK _) 2 (am_ari_in f1 ⟨vp_in_nI (by omega) (by omega), ?_⟩)))))
      rw [nI_clamp (by omega)]
      generalize hH : am_set h' (p + 1) (aI 5 (upd r (sN σ) (nI (rk f n)))) = h1
      have g0 : h1.2 p = cS p (sN σ) (sP σ) := by rw [← hH]; exact (as_n (by omega)).trans f0
      have g1 : h1.2 (p + 1) = aI 5 (upd r (sN σ) (nI (rk f n))) := by rw [← hH]; exact as_s
      have g2 : h1.2 (p + 2) = aI 5 z := by rw [← hH]; exact (as_n (by omega)).trans f2
      have g3 : h1.2 (p + 3) = aI 4 k' := by rw [← hH]; exact (as_n (by omega)).trans f3
      have ha1 : Ag p h h1 := by rw [← hH]; exact ha.trans (Ag.set (by omega))
      refine am_run (am_cK _) 2 (am_obj_in g0 (am_run (am_cK _) 2 (am_obj_in g0 (am_run (am_cK _) 2 (am_ari_in g2 ⟨vp_in_nI (by omega) (by omega), ?_⟩)))))
      rw [nI_clamp (by omega)]
      generalize hH2 : am_set h1 (p + 2) (aI 5 (upd z (sN σ) (nI n))) = h2
      have i0 : h2.2 p = cS p (sN σ) (sP σ) := by rw [← hH2]; exact (as_n (by omega)).trans g0
      have i1 : h2.2 (p + 1) = aI 5 (upd r (sN σ) (nI (rk f n))) := by rw [← hH2]; exact (as_n (by omega)).trans g1
      have i2 : h2.2 (p + 2) = aI 5 (upd z (sN σ) (nI n)) := by rw [← hH2]; exact as_s
      have i3 : h2.2 (p + 3) = aI 4 k' := by rw [← hH2]; exact (as_n (by omega)).trans g3
      have ha2 : Ag p h h2 := by rw [← hH2]; exact ha1.trans (Ag.set (by omega))
      refine am_run (am_cK _) 3 (am_obj_in i0 (am_run (am_cK _) 3 (am_obj_in i0 ?_)))
      have j0 : (am_set h2 p (.inr (4, [Value.ref (p + 1), Value.ref (p + 2), Value.ref (p + 3), Value.int (nI (sN σ) + 1), Value.int (nI (sP σ))]))).2 p = cS p (sN σ + 1) (sP σ) := by rw [as_s, nI_1]
      refine am_run (am_cK _) 2 (am_obj_in j0 ?_)
      have e9 : nI (sN σ + 1) - 1 = nI (sN σ) := nI_pred _
      have qq := q (am_set h2 p (.inr (4, [Value.ref (p + 1), Value.ref (p + 2), Value.ref (p + 3), Value.int (nI (sN σ) + 1), Value.int (nI (sP σ))]))) (ha2.trans (Ag.set (by omega))) (by
        refine ⟨_, _, k', j0, (as_n (by omega)).trans i1, (as_n (by omega)).trans i2, (as_n (by omega)).trans i3, fun b hb => ?_, f5⟩
        have hb' : b < sN σ + 1 := hb
        show upd r (sN σ) _ b = nI (rk (va_up (sB σ) (sN σ) f b) (va_up (sZ σ) (sN σ) n b)) ∧ upd z (sN σ) _ b = nI (va_up (sZ σ) (sN σ) n b)
        by_cases e : b = sN σ
        · rw [e, upd_s, upd_s, am_up_s, am_up_s]; exact ⟨rfl, rfl⟩
        · rw [upd_n e, upd_n e, am_up_n e, am_up_n e]; exact e4 b (by omega))
      refine am_run (am_cK _) 3 (show Q (some (.int (nI (sN σ + 1) - 1))) _ from ?_)
      rw [e9]
      exact qq
    | succ k ih =>
      intro i h' k' hi ha f0 f1 f2 f3 f5
      have hl := num_le f n i
      have hk9 := hs.2.2.1 i (by omega)
      refine am_run (am_cK _) 3 ⟨fun c => absurd c (nI_ge (b := 4) (by omega) (by omega)), fun _ => ?_⟩
      refine am_run (am_cK _) 2 (am_obj_in f0 (am_run (am_cK _) 3 (am_rdi_in f3 ⟨vp_in_nI (by omega) (by omega), ?_⟩)))
      rw [nI_clamp (by omega), f5 i (by omega), if_neg (Nat.lt_irrefl _)]
      refine am_run (am_cK _) 4 (B_numberOf hn (by omega) hf ?_)
      refine am_run (am_cK _) 2 (am_ari_in f3 ⟨vp_in_nI (by omega) (by omega), ?_⟩)
      rw [nI_clamp (by omega), pk_sub (hk4 i (by omega))]
      have zz := ih (i + 1) (am_set h' (p + 3) (aI 4 (upd k' i (nI (sK σ i - num f n i))))) (upd k' i (nI (sK σ i - num f n i))) (by omega) (ha.trans (Ag.set (by omega))) ((as_n (by omega)).trans f0) ((as_n (by omega)).trans f1) ((as_n (by omega)).trans f2) as_s (fun c hc => by
        by_cases e : c = i
        · subst e; rw [upd_s, if_pos (Nat.lt_succ_self _)]
        · rw [upd_n e, f5 c hc]
          by_cases e2 : c < i
          · rw [if_pos e2, if_pos (by omega)]
          · rw [if_neg e2, if_neg (by omega)])
      rw [nI_succ] at zz
      exact am_run (am_cK _) 2 zz
  · have h5 : 5 ≤ sN σ := Nat.le_of_not_lt (fun z => c ((nI_ltI (b := 5) (by omega) (by omega)).mpr z))
    exact am_run (am_cK _) 2 (fin _ (by unfold sStr; rw [if_pos h5]))
theorem S_copyFrom {q : Nat} {τ : Sg} (hpq : q + 4 ≤ p ∨ p + 4 ≤ q) (hR : RS h p τ) (hR2 : RS h q σ) (hs : Sok σ) (hQ : ∀ h', Ag p h h' → RS h' p σ → Q none h') : am_call (d + 2) 78 [.ref p, .ref q] h Q := by
  obtain ⟨r, z, kk, e0, e1, e2, e3, -, -⟩ := hR
  obtain ⟨r', z', k', f0, f1, f2, f3, f4, f5⟩ := hR2
  have hN := hs.1
  refine en_X7_copyFrom (Nat.le_of_ble_eq_true rfl) (am_run (am_cK _) 2 (am_obj_in f0 (am_run (am_cK _) 3 (am_obj_in e0 (am_run (am_cK _) 2 ?_)))))
  refine am_run (am_cK _) 1 (am_ari_in f1 (am_ari_in e1 ⟨by decide, by decide, by decide, by decide, by decide, (show am_wp (am_call (d + 1)) (0, 0) cm_X7_copyFrom Q (fun _ => False) (14, [some (.ref p), some (.ref q)], [], 0, 0) (am_set h (p + 1) (aI 5 (va_cpy r' r 0 0 5))) from ?_)⟩))
  generalize hH : am_set h (p + 1) (aI 5 (va_cpy r' r 0 0 5)) = h1
  have ha1 : Ag p h h1 := by rw [← hH]; exact Ag.set (by omega)
  have g1 : h1.2 (p + 1) = aI 5 (va_cpy r' r 0 0 5) := by rw [← hH]; exact as_s
  have g0 : h1.2 p = cS p (sN τ) (sP τ) := by rw [← hH]; exact (as_n (by omega)).trans e0
  have g2 : h1.2 (p + 2) = aI 5 z := by rw [← hH]; exact (as_n (by omega)).trans e2
  have g3 : h1.2 (p + 3) = aI 4 kk := by rw [← hH]; exact (as_n (by omega)).trans e3
  have i0 : h1.2 q = cS q (sN σ) (sP σ) := (ha1.2 q (by omega)).trans f0
  have i2 : h1.2 (q + 2) = aI 5 z' := (ha1.2 (q + 2) (by omega)).trans f2
  have i3 : h1.2 (q + 3) = aI 4 k' := (ha1.2 (q + 3) (by omega)).trans f3
  refine am_run (am_cK _) 2 (am_obj_in i0 (am_run (am_cK _) 3 (am_obj_in g0 (am_run (am_cK _) 2 ?_))))
  refine am_run (am_cK _) 1 (am_ari_in i2 (am_ari_in g2 ⟨by decide, by decide, by decide, by decide, by decide, (show am_wp (am_call (d + 1)) (0, 0) cm_X7_copyFrom Q (fun _ => False) (28, [some (.ref p), some (.ref q)], [], 0, 0) (am_set h1 (p + 2) (aI 5 (va_cpy z' z 0 0 5))) from ?_)⟩))
  generalize hH2 : am_set h1 (p + 2) (aI 5 (va_cpy z' z 0 0 5)) = h2
  have ha2 : Ag p h1 h2 := by rw [← hH2]; exact Ag.set (by omega)
  have j0 : h2.2 p = cS p (sN τ) (sP τ) := by rw [← hH2]; exact (as_n (by omega)).trans g0
  have j1 : h2.2 (p + 1) = aI 5 (va_cpy r' r 0 0 5) := by rw [← hH2]; exact (as_n (by omega)).trans g1
  have j2 : h2.2 (p + 2) = aI 5 (va_cpy z' z 0 0 5) := by rw [← hH2]; exact as_s
  have j3 : h2.2 (p + 3) = aI 4 kk := by rw [← hH2]; exact (as_n (by omega)).trans g3
  have l0 : h2.2 q = cS q (sN σ) (sP σ) := (ha2.2 q (by omega)).trans i0
  have l3 : h2.2 (q + 3) = aI 4 k' := (ha2.2 (q + 3) (by omega)).trans i3
  refine am_run (am_cK _) 2 (am_obj_in l0 (am_run (am_cK _) 3 (am_obj_in j0 (am_run (am_cK _) 2 ?_))))
  refine am_run (am_cK _) 1 (am_ari_in l3 (am_ari_in j3 ⟨by decide, by decide, by decide, by decide, by decide, (show am_wp (am_call (d + 1)) (0, 0) cm_X7_copyFrom Q (fun _ => False) (42, [some (.ref p), some (.ref q)], [], 0, 0) (am_set h2 (p + 3) (aI 4 (va_cpy k' kk 0 0 4))) from ?_)⟩))
  generalize hH3 : am_set h2 (p + 3) (aI 4 (va_cpy k' kk 0 0 4)) = h3
  have ha3 : Ag p h2 h3 := by rw [← hH3]; exact Ag.set (by omega)
  have m0 : h3.2 p = cS p (sN τ) (sP τ) := by rw [← hH3]; exact (as_n (by omega)).trans j0
  have m1 : h3.2 (p + 1) = aI 5 (va_cpy r' r 0 0 5) := by rw [← hH3]; exact (as_n (by omega)).trans j1
  have m2 : h3.2 (p + 2) = aI 5 (va_cpy z' z 0 0 5) := by rw [← hH3]; exact (as_n (by omega)).trans j2
  have m3 : h3.2 (p + 3) = aI 4 (va_cpy k' kk 0 0 4) := by rw [← hH3]; exact as_s
  have o0 : h3.2 q = cS q (sN σ) (sP σ) := (ha3.2 q (by omega)).trans l0
  refine am_run (am_cK _) 3 (am_obj_in o0 (am_run (am_cK _) 1 (am_obj_in m0 ?_)))
  have m0' : (am_set h3 p (.inr (4, [Value.ref (p + 1), Value.ref (p + 2), Value.ref (p + 3), Value.int (nI (sN σ)), Value.int (nI (sP τ))]))).2 p = cS p (sN σ) (sP τ) := as_s
  have o0' : (am_set h3 p (.inr (4, [Value.ref (p + 1), Value.ref (p + 2), Value.ref (p + 3), Value.int (nI (sN σ)), Value.int (nI (sP τ))]))).2 q = cS q (sN σ) (sP σ) := (as_n (by omega)).trans o0
  refine am_run (am_cK _) 3 (am_obj_in o0' (am_run (am_cK _) 1 (am_obj_in m0' ?_)))
  refine am_run (am_cK _) 1 (hQ _ ((((ha1.trans ha2).trans ha3).trans (Ag.set (by omega))).trans (Ag.set (by omega))) ?_)
  refine ⟨_, _, _, as_s, (as_n (by omega)).trans ((as_n (by omega)).trans m1), (as_n (by omega)).trans ((as_n (by omega)).trans m2), (as_n (by omega)).trans ((as_n (by omega)).trans m3), fun b hb => ?_, fun c hc => ?_⟩
  · rw [sb_cpy0 (by omega), sb_cpy0 (by omega)]; exact f4 b hb
  · rw [sb_cpy0 hc]; exact f5 c hc
end
