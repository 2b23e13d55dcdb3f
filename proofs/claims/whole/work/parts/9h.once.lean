/-! rows in which each word comes just once: the class -/
def tl (T : List Nat) : Nat → Int32 := fun i => nI (T.getD i 0)
def addO (k w : Nat) : Nat → Nat → Nat → Nat → List Nat
  | 0, s, _, q => if w % q = 0 then (List.range q).map (dg (s / 4 ^ (w - q)) q) else []
  | f + 1, s, z, q => cat (fun c => addO k w f (4 * s + c) (z + 1) (if c = smq s q then q else z + 1)) (smq s q) (k - smq s q)
def dB (k w : Nat) : List Nat := cat (fun c => addO k w (w - 1) c 1 1) 0 k
theorem dB_len : ∀ k, k < 5 → 1 ≤ k → ∀ w, w < 5 → 1 ≤ w → k ^ w ≤ 16 → (dB k w).length = k ^ w := by decide +kernel
def onN (M : Ms) (k w : Nat) : Int32 × Ms := if 16 < k ^ w then (-1, M) else (nI (k ^ w), pD M (k ^ w, tl (dB k w)))
def oOnce (M : Ms) (k w : Int32) : Int32 × Ms := if k < 1 ∨ 4 < k ∨ w < 1 ∨ 4 < w then (-1, M) else onN M k.toNatClampNeg w.toNatClampNeg
theorem cat_mono (G : Nat → List Nat) (a : Nat) : ∀ j k, (cat G a k).length ≤ (cat G a (k + j)).length
  | 0, _ => Nat.le_refl _
  | j + 1, k => Nat.le_trans (cat_mono G a j k) (by rw [← Nat.add_assoc, cat, List.length_append]; omega)
section
variable {d : Nat} {h : am_H} {Q : Option Value → am_H → Prop} {M : Ms} {a b : Nat} {dr : Int32}
theorem X_addRowT {T : List Nat} (hX : RXc h (pD M (T.length, tl T)) a b dr) {f : Nat → Nat} {n : Nat} (hm : T.length + n ≤ 16) (hn : n ≤ 10) (hf : ∀ i, i < n → f i < 4) (hQ : ∀ h', AgN 131 2 h h' → RXc h' (pD M ((T ++ (List.range n).map f).length, tl (T ++ (List.range n).map f))) a b dr → Q none h') : am_call (d + 2) 113 [.ref 131, .int (nI (rk f n)), .int (nI n)] h Q := by
  have el : (T ++ (List.range n).map f).length = T.length + n := by rw [List.length_append, List.length_map, List.length_range]
  refine D_addRow hX.d.1 hm hn hf (fun h' ha hR' => hQ h' ha (hX.pD (m := (T ++ (List.range n).map f).length) (w := tl (T ++ (List.range n).map f)) ?_ (by omega) (fun x hx => ha.2 x (by omega))))
  rw [el]
  refine RD_congr (fun i hi => ?_) hR'
  show (if i < T.length then nI (T.getD i 0) else nI (f (i - T.length))) = nI ((T ++ (List.range n).map f).getD i 0)
  by_cases c : i < T.length
  · rw [if_pos c, List.getD_eq_getElem?_getD, List.getD_eq_getElem?_getD, List.getElem?_append_left c]
  · rw [if_neg c, List.getD_eq_getElem?_getD, List.getElem?_append_right (by omega), List.getElem?_map, List.getElem?_range (by omega)]
    rfl
theorem X_addOnce {k w : Nat} (hk : k ≤ 4) (hw0 : 1 ≤ w) (hw : w ≤ 4) : ∀ (f z : Nat) {s q : Nat} {h : am_H} {T : List Nat} {Q : Option Value → am_H → Prop}, z + f = w → s < 4 ^ z → 1 ≤ q → q ≤ z → RXc h (pD M (T.length, tl T)) a b dr → T.length + (addO k w f s z q).length ≤ 16 → (∀ h', Fx h h' → RXc h' (pD M ((T ++ addO k w f s z q).length, tl (T ++ addO k w f s z q))) a b dr → Q none h') → am_call (d + f + 4) 167 [.ref 40, .int (nI s), .int (nI z), .int (nI q), .int (nI k), .int (nI w)] h Q
  | 0, z, s, q, h, T, Q, hz, hs, hq0, hq, hX, hlen, hQ => by
    have ez : z = w := by omega
    subst ez
    have hsm : s < 2 ^ 20 := Nat.lt_of_lt_of_le hs (Nat.le_trans (Nat.pow_le_pow_right (by decide) (by omega : z ≤ 10)) (by decide))
    have hm := Nat.mod_lt z (show q > 0 by omega)
    rw [addO] at hlen hQ
    refine en_X10_addOnce (Nat.le_of_ble_eq_true rfl) ?_
    refine am_run (am_cK _) 3 (pk_lt z z (fun c => by omega) (fun _ => ?_))
    refine am_run (am_cK _) 2 (⟨fun c => absurd c (nI_nle (n := q) (by omega) (by omega)), fun _ => ?_⟩)
    refine am_run (am_cK _) 3 (⟨nI_ne0 (by omega) (by omega), ?_⟩)
    rw [show nI z - nI z / nI q * nI q = nI (z % q) from pk_rem (by omega) (by omega) (by omega)]
    by_cases c : z % q = 0
    · rw [if_pos c] at hlen hQ
      refine am_run (am_cK _) 1 (⟨fun w => absurd (show nI (z % q) = 0 by rw [c]; rfl) w, fun _ => ?_⟩)
      refine am_run (am_cK _) 2 (am_obj_in hX.o.1 (am_run (am_cK _) 9 (am_obj_in hX.d.1.1 (?_))))
      have hd : s / 4 ^ (z - q) < 4 ^ q := Nat.div_lt_of_lt_mul (by rw [← Nat.pow_add, show z - q + q = z by omega]; exact hs)
      have e5 : nI s >>> ((2 * (nI z - nI q)) &&& 31) = nI (rk (dg (s / 4 ^ (z - q)) q) q) := by
        have a2 : (2 : Int32) * nI (z - q) = nI (2 * (z - q)) := pk_mul 2 _
        rw [pk_sub hq, a2, q_shr (by omega) (by omega), ← p4, rk_dg hd]
      show am_call (d + 3) 113 [.ref 131, .int (nI s >>> ((2 * (nI z - nI q)) &&& 31)), .int (nI q)] h _
      rw [e5]
      rw [List.length_map, List.length_range] at hlen
      refine X_addRowT hX hlen (by omega) (fun i _ => dg_lt _ _ i) (fun h1 a1 hX1 => ?_)
      exact am_run (am_cK _) 1 (hQ h1 (a1.fx (by omega) (by omega)) hX1)
    · rw [if_neg c, List.append_nil] at hQ
      exact am_run (am_cK _) 1 (⟨fun _ => am_run (am_cK _) 1 (hQ h Fx.rf hX), fun w => absurd (fun e => c ((nI_eq (b := 0) (by omega) (by omega)).mp e)) w⟩)
  | f + 1, z, s, q, h, T, Q, hz, hs, hq0, hq, hX, hlen, hQ => by
    have hsm : s < 2 ^ 20 := Nat.lt_of_lt_of_le hs (Nat.le_trans (Nat.pow_le_pow_right (by decide) (by omega : z ≤ 10)) (by decide))
    have hsq : smq s q < 4 := Nat.mod_lt _ (by decide)
    rw [addO] at hlen hQ
    refine en_X10_addOnce (Nat.le_of_ble_eq_true rfl) ?_
    refine am_run (am_cK _) 3 (pk_lt z w (fun _ => ?_) (fun c => by omega))
    have e5 : nI s >>> ((2 * (nI q - 1)) &&& 31) &&& 3 = nI (smq s q) := by
      have a1 : nI q - 1 = nI (q - 1) := pk_sub (a := q) (b := 1) (by omega)
      have a2 : (2 : Int32) * nI (q - 1) = nI (2 * (q - 1)) := pk_mul 2 _
      rw [a1, a2, q_shr (by omega) (by omega), q_and3, ← p4]
      rfl
    refine am_run (am_cK _) 12 (show am_wp (am_call (d + f + 4)) (0, 0) cm_X10_addOnce Q (fun _ => False) (49, [some (.ref 40), some (.int (nI s)), some (.int (nI z)), some (.int (nI q)), some (.int (nI k)), some (.int (nI w)), some (.int (nI s >>> ((2 * (nI q - 1)) &&& 31) &&& 3)), some (.int (nI s >>> ((2 * (nI q - 1)) &&& 31) &&& 3))], [], 0, 0) h from ?_)
    rw [e5]
    generalize hG : (fun c => addO k w f (4 * s + c) (z + 1) (if c = smq s q then q else z + 1)) = G at hlen hQ
    have hGc : ∀ c, G c = addO k w f (4 * s + c) (z + 1) (if c = smq s q then q else z + 1) := fun c => by rw [← hG]
    by_cases hks : k ≤ smq s q
    · rw [show k - smq s q = 0 by omega, cat, List.append_nil] at hQ
      exact am_run (am_cK _) 3 (pk_le k (smq s q) (fun _ => am_run (am_cK _) 1 (hQ h Fx.rf hX)) (fun c => by omega))
    have fin : ∀ h', Fx h h' → RXc h' (pD M ((T ++ cat G (smq s q) (k - smq s q)).length, tl (T ++ cat G (smq s q) (k - smq s q)))) a b dr → Q none h' := hQ
    refine am_loop (fun j => (49, [some (.ref 40), some (.int (nI s)), some (.int (nI z)), some (.int (nI q)), some (.int (nI k)), some (.int (nI w)), some (.int (nI (smq s q))), some (.int (nI (smq s q + j)))], [], 0, 0)) (fun j h' => Fx h h' ∧ RXc h' (pD M ((T ++ cat G (smq s q) j).length, tl (T ++ cat G (smq s q) j))) a b dr) (k - smq s q) (fun j h1 hj P K => ?_) (fun h1 P => ?_) 0 h (Nat.zero_le _) ⟨Fx.rf, by rw [cat, List.append_nil]; exact hX⟩
    · obtain ⟨F1, hX1⟩ := P
      have hc4 : smq s q + j < 4 := by omega
      refine am_run (am_cK _) 3 (pk_le k (smq s q + j) (fun c => by omega) (fun _ => ?_))
      have e6 : nI s <<< ((2 : Int32) &&& 31) ||| nI (smq s q + j) = nI (4 * s + (smq s q + j)) := by
        have a1 : nI s <<< ((2 : Int32) &&& 31) = nI (s * 2 ^ 2) := q_shl _ (k := 2) (by omega)
        rw [a1, q_or, q_orAdd (by omega)]
        congr 1
        omega
      have hm := cat_mono G (smq s q) (k - smq s q - (j + 1)) (j + 1)
      rw [show j + 1 + (k - smq s q - (j + 1)) = k - smq s q by omega, cat, List.length_append] at hm
      have hlen2 : (T ++ cat G (smq s q) j).length + (G (smq s q + j)).length ≤ 16 := by
        rw [List.length_append]
        omega
      have hs4 : 4 * s + (smq s q + j) < 4 ^ (z + 1) := by rw [Nat.pow_succ]; omega
      have hcont : ∀ h2, Fx h1 h2 → RXc h2 (pD M ((T ++ cat G (smq s q) j ++ G (smq s q + j)).length, tl (T ++ cat G (smq s q) j ++ G (smq s q + j)))) a b dr → am_wp (am_call (d + f + 4)) (0, 0) cm_X10_addOnce Q (fun _ => False) (87, [some (.ref 40), some (.int (nI s)), some (.int (nI z)), some (.int (nI q)), some (.int (nI k)), some (.int (nI w)), some (.int (nI (smq s q))), some (.int (nI (smq s q + j)))], [], 0, 0) h2 := by
        intro h2 F2 hX2
        rw [List.append_assoc] at hX2
        have K2 := K h2 ⟨F1.tr F2, by rw [cat]; exact hX2⟩
        rw [← Nat.add_assoc, nI_succ] at K2
        exact am_run (am_cK _) 2 (K2)
      rw [hGc] at hlen2 hcont
      refine am_run (am_cK _) 12 (⟨fun c => ?_, fun c => ?_⟩)
      · have hne : ¬ smq s q + j = smq s q := fun w => c (by rw [w])
        rw [if_neg hne] at hlen2 hcont
        refine am_run (am_cK _) 6 (am_obj_in hX1.o.1 ((show am_call (d + f + 4) 167 [.ref 40, .int (nI s <<< ((2 : Int32) &&& 31) ||| nI (smq s q + j)), .int (nI z + 1), .int (nI z + 1), .int (nI k), .int (nI w)] h1 _ from ?_)))
        rw [e6, ← nI_succ]
        exact X_addOnce hk hw0 hw f (z + 1) (by omega) hs4 (by omega) (by omega) hX1 hlen2 (fun h2 f2 x2 => hcont h2 f2 x2)
      · have heq : smq s q + j = smq s q := (nI_eq (by omega) (by omega)).mp (Classical.not_not.mp c)
        rw [if_pos heq] at hlen2 hcont
        refine am_run (am_cK _) 5 (am_obj_in hX1.o.1 ((show am_call (d + f + 4) 167 [.ref 40, .int (nI s <<< ((2 : Int32) &&& 31) ||| nI (smq s q + j)), .int (nI z + 1), .int (nI q), .int (nI k), .int (nI w)] h1 _ from ?_)))
        rw [e6, ← nI_succ]
        exact X_addOnce hk hw0 hw f (z + 1) (by omega) hs4 (by omega) (by omega) hX1 hlen2 (fun h2 f2 x2 => hcont h2 f2 x2)
    · obtain ⟨F1, hX1⟩ := P
      rw [show smq s q + (k - smq s q) = k by omega]
      exact am_run (am_cK _) 3 (pk_le k k (fun _ => am_run (am_cK _) 1 (fin h1 F1 hX1)) (fun c => by omega))
theorem X_once (hX : RX h M) (k w : Int32) (hQ : ∀ h', Fx h h' → RX h' (oOnce M k w).2 → Q (some (.int (oOnce M k w).1)) h') : am_call (d + 20) 147 [.ref 40, .int k, .int w] h Q := by
  obtain ⟨a, b, dr, hX⟩ := hX
  unfold oOnce at hQ
  have no : (k < 1 ∨ 4 < k ∨ w < 1 ∨ 4 < w) → Q (some (.int (-1))) h := fun c => by
    rw [if_pos c] at hQ
    exact hQ h Fx.rf ⟨a, b, dr, hX⟩
  refine en_X10_once (Nat.le_of_ble_eq_true rfl) ?_
  refine am_run (am_cK _) 4 (B_isNoColour (k - 1) (fun c => ?_) (fun c => ?_))
  · refine am_run (am_cK _) 1 (⟨fun _ => am_run (am_cK _) 2 (no ?_), fun w => absurd n10 w⟩)
    by_cases z1 : k < 1
    · exact Or.inl z1
    · refine Or.inr (Or.inl (Int32.not_le.mp (fun z => ?_)))
      obtain ⟨q, q1, q4, rfl⟩ := num_in (a := 1) (b := 4) (by omega) (by omega) z1 (Int32.not_lt.mpr z)
      rw [show nI q - 1 = nI (q - 1) from pk_sub (a := q) (b := 1) (by omega)] at c
      exact in_no (i := q - 1) (n := 4) (by omega) (by omega) c
  refine am_run (am_cK _) 1 (⟨fun w => absurd rfl w, fun _ => ?_⟩)
  refine am_run (am_cK _) 3 (⟨fun c1 => am_run (am_cK _) 2 (no (Or.inr (Or.inr (Or.inl c1)))), fun c1 => am_run (am_cK _) 3 (⟨fun c2 => am_run (am_cK _) 2 (no (Or.inr (Or.inr (Or.inr c2)))), fun c2 => ?_⟩)⟩)
  obtain ⟨q, hq, eq⟩ := S_num2 (n := 4) (by omega) c
  have ek : k = nI (q + 1) := by
    rw [← nI_1, ← eq]
    exact (Int32.sub_add_cancel _ _).symm
  subst ek
  obtain ⟨W, W1, W4, rfl⟩ := num_in (a := 1) (b := 4) (by omega) (by omega) c1 c2
  rw [if_neg (by
    rintro (z | z | z | z)
    · exact nI_nlt (a := q + 1) (b := 1) (by omega) (by omega) z
    · exact nI_nlt (a := 4) (b := q + 1) (by omega) (by omega) z
    · exact c1 z
    · exact c2 z), nI_clamp (by omega), nI_clamp (by omega)] at hQ
  unfold onN at hQ
  have hpw : (q + 1) ^ W ≤ 256 := Nat.le_trans (Nat.pow_le_pow_left (show q + 1 ≤ 4 by omega) W) (Nat.le_trans (Nat.pow_le_pow_right (by decide) W4) (by decide))
  refine am_run (am_cK _) 3 (N_power (by omega) ?_)
  refine am_run (am_cK _) 2 (pk_le ((q + 1) ^ W) 16 (fun c => ?_) (fun c => ?_))
  rotate_left
  · rw [if_pos c] at hQ
    exact am_run (am_cK _) 2 (hQ h Fx.rf ⟨a, b, dr, hX⟩)
  rw [if_neg (by omega)] at hQ
  have hdl := dB_len (q + 1) (by omega) (by omega) W (by omega) W1 c
  refine am_run (am_cK _) 2 (am_obj_in hX.o.1 (am_run (am_cK _) 1 (am_obj_in hX.d.1.1 ((X_begin hX (fun h1 a1 hX1 => ?_))))))
  refine am_run (am_cK _) 2 ?_
  refine am_loop (fun j => (40, [some (.ref 40), some (.int (nI (q + 1))), some (.int (nI W)), some (.int (nI j))], [], 0, 0)) (fun j h' => Fx h h' ∧ RXc h' (pD M ((cat (fun c => addO (q + 1) W (W - 1) c 1 1) 0 j).length, tl (cat (fun c => addO (q + 1) W (W - 1) c 1 1) 0 j))) a b dr) (q + 1) (fun j h2 hj P K => ?_) (fun h2 P => ?_) 0 h1 (Nat.zero_le _) ⟨a1.fx (by omega) (by omega), hX1.pD (m := 0) (w := tl []) (RD_congr (fun i hi => absurd hi (Nat.not_lt_zero i)) hX1.d.1) (by omega) (fun _ _ => rfl)⟩
  · obtain ⟨F2, hX2⟩ := P
    have hm := cat_mono (fun c => addO (q + 1) W (W - 1) c 1 1) 0 (q + 1 - (j + 1)) (j + 1)
    rw [show j + 1 + (q + 1 - (j + 1)) = q + 1 by omega, cat, List.length_append] at hm
    have hdl' : (cat (fun c => addO (q + 1) W (W - 1) c 1 1) 0 (q + 1)).length = (q + 1) ^ W := hdl
    rw [Nat.zero_add] at hm
    refine am_run (am_cK _) 3 (pk_le (q + 1) j (fun c => by omega) (fun _ => ?_))
    obtain ⟨e, he⟩ : ∃ e, d + 19 = e + (W - 1) + 4 := ⟨d + 19 - (W - 1) - 4, by omega⟩
    refine am_run (am_cK _) 7 (am_obj_in hX2.o.1 (?_))
    show am_call (d + 19) 167 [.ref 40, .int (nI j), .int (nI 1), .int (nI 1), .int (nI (q + 1)), .int (nI W)] h2 _
    refine am_call_mono (e + (W - 1) + 4) (d + 19) (by omega) _ _ _ _ _ (fun v h' z => z) (X_addOnce (by omega) W1 W4 (W - 1) 1 (by omega) (by omega) (by omega) (by omega) hX2 (by omega) (fun h3 F3 hX3 => ?_))
    have K2 := K h3 ⟨F2.tr F3, by rw [cat, Nat.zero_add]; exact hX3⟩
    rw [nI_succ j] at K2
    exact am_run (am_cK _) 2 (K2)
  · obtain ⟨F2, hX2⟩ := P
    have hdl' : (cat (fun c => addO (q + 1) W (W - 1) c 1 1) 0 (q + 1)).length = (q + 1) ^ W := hdl
    rw [hdl'] at hX2
    exact am_run (am_cK _) 3 (pk_le (q + 1) (q + 1) (fun _ => am_run (am_cK _) 2 (am_obj_in hX2.o.1 (am_run (am_cK _) 1 (am_obj_in hX2.d.1.1 (am_run (am_cK _) 1 (hQ h2 F2 ⟨a, b, dr, hX2⟩)))))) (fun c => by omega))
end
