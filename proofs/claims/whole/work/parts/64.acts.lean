/-! THE MODEL's acts: p is the row's array, now (154) or then (155); g what it holds -/
theorem va_same {α : Type} {A : Nat → α} {p : Nat} {x : α} (hx : x = A p) : va_up A p x = A := by
  funext j
  by_cases e : j = p
  · subst e; rw [am_up_s, hx]
  · rw [am_up_n e]
theorem va_sw {α : Type} {A : Nat → α} {i j : Nat} {x y : α} (h : i ≠ j) : va_up (va_up A i x) j y = va_up (va_up A j y) i x := by
  funext k
  by_cases e : k = i
  · subst e; rw [am_up_n h, am_up_s, am_up_s]
  · rw [am_up_n e]
    by_cases e2 : k = j
    · subst e2; rw [am_up_s, am_up_s]
    · rw [am_up_n e2, am_up_n e2, am_up_n e]
section
variable {σ : Sg} {j x : Nat}
theorem in_no {i n : Nat} (hi : i < n) (hn : n < 2 ^ 31) : ¬ (nI i < 0 ∨ nI n ≤ nI i) := by
  rintro (c | c)
  · exact nI_pos (by omega) c
  · exact nI_ge hi (by omega) c
theorem sRoll_at {k : Nat} (hs : Sok σ) (hj : j < sN σ) (hk : k ≤ 99) : sRoll σ (nI j) (nI k) = (nI (rol (sB σ j) (sZ σ j) k 0), setB σ j (sZ σ j) (rol (sB σ j) (sZ σ j) k)) := by
  have hN := hs.1
  unfold sRoll
  rw [if_neg (by
    rintro (c | c | c | c)
    · exact nI_pos (by omega) c
    · exact nI_ge hj (by omega) c
    · exact nI_pos (by omega) c
    · exact nI_nlt (a := 99) (b := k) hk (by omega) c), nI_clamp (by omega), nI_clamp (by omega)]
theorem sFlip_at (hs : Sok σ) (hj : j < sN σ) : sFlip σ (nI j) = (nI (flp (sB σ j) (sZ σ j) 0), setB σ j (sZ σ j) (flp (sB σ j) (sZ σ j))) := by
  have hN := hs.1
  unfold sFlip
  rw [if_neg (S_no hs hj), nI_clamp (by omega)]
theorem sSwap_at (hs : Sok σ) (hj : j < sN σ) (hx : x < sZ σ j) : sSwap σ (nI j) (nI x) = if sB σ j x = sB σ j ((x + 1) % sZ σ j) then (-2, σ) else (nI (10 * sB σ j ((x + 1) % sZ σ j) + sB σ j x), setB σ j (sZ σ j) (swp (sB σ j) (sZ σ j) x)) := by
  have hN := hs.1
  have hz := hs.2.1 j hj
  unfold sSwap
  rw [if_neg (S_no hs hj), nI_clamp (by omega)]
  simp only
  rw [if_neg (in_no hx (by omega)), nI_clamp (by omega)]
theorem sThread_at {c : Nat} (hs : Sok σ) (hj : j < sN σ) (hx : x ≤ sZ σ j) (hc : c < 4) : sThread σ (nI j) (nI x) (nI c) = if 10 ≤ sZ σ j then (-2, σ) else if sK σ c = 0 then (-3, σ) else (nI (sZ σ j + 1), setK (setB σ j (sZ σ j + 1) (ins (sB σ j) x c)) (va_up (sK σ) c (sK σ c - 1))) := by
  have hN := hs.1
  have hz := hs.2.1 j hj
  unfold sThread
  rw [if_neg (S_no hs hj), nI_clamp (by omega)]
  simp only
  rw [if_neg (by
    rintro (w | w | w | w)
    · exact nI_pos (by omega) w
    · exact nI_nlt (a := sZ σ j) (b := x) hx (by omega) w
    · exact nI_pos (by omega) w
    · exact nI_ge (b := 4) hc (by omega) w), nI_clamp (by omega), nI_clamp (by omega)]
theorem sCut_at (hs : Sok σ) (hj : j < sN σ) (hx : x < sZ σ j) : sCut σ (nI j) (nI x) = if sZ σ j = 1 then (-2, σ) else (nI (sB σ j x), setK (setB σ j (sZ σ j - 1) (del (sB σ j) x)) (va_up (sK σ) (sB σ j x) (Nat.min 99 (sK σ (sB σ j x) + 1)))) := by
  have hN := hs.1
  have hz := hs.2.1 j hj
  unfold sCut
  rw [if_neg (S_no hs hj), nI_clamp (by omega)]
  simp only
  rw [if_neg (in_no hx (by omega)), nI_clamp (by omega)]
theorem sJoin_at {k : Nat} (hs : Sok σ) (hj : j < sN σ) (hk : k < sN σ) (hne : j ≠ k) : sJoin σ (nI j) (nI k) = if 10 < sZ σ j + sZ σ k then (-2, σ) else (nI (sZ σ j + sZ σ k), sDrop (setB σ j (sZ σ j + sZ σ k) (app (sB σ j) (sZ σ j) (sB σ k))) k) := by
  have hN := hs.1
  unfold sJoin
  rw [if_neg (by
    rintro (w | w | w | w | w)
    · exact S_no hs hj (Or.inl w)
    · exact S_no hs hj (Or.inr w)
    · exact S_no hs hk (Or.inl w)
    · exact S_no hs hk (Or.inr w)
    · exact hne ((nI_eq (by omega) (by omega)).mp w)), nI_clamp (by omega), nI_clamp (by omega)]
theorem sPart_at (hs : Sok σ) (hj : j < sN σ) : sPart σ (nI j) = (nI (sZ σ j), sDrop (setK σ (fun c => if c < 4 then Nat.min 99 (sK σ c + num (sB σ j) (sZ σ j) c) else sK σ c)) j) := by
  have hN := hs.1
  unfold sPart
  rw [if_neg (S_no hs hj), nI_clamp (by omega)]
theorem sSell_at {L : List Nat} (hs : Sok σ) (hj : j < sN σ) : sSell L σ (nI j) = (nI (sPrc L σ j), sDrop (sN σ, sZ σ, sB σ, sK σ, Nat.min 9999 (sP σ + sPrc L σ j)) j) := by
  have hN := hs.1
  unfold sSell
  rw [if_neg (S_no hs hj), nI_clamp (by omega)]
theorem sBuy_at {c n : Nat} (hc : c < 4) (h1 : 1 ≤ n) (h9 : n ≤ 9) : sBuy σ (nI c) (nI n) = if sP σ < n then (-2, σ) else if 99 < sK σ c + n then (-3, σ) else (nI (sK σ c + n), (sN σ, sZ σ, sB σ, va_up (sK σ) c (sK σ c + n), sP σ - n)) := by
  unfold sBuy
  rw [if_neg (by
    rintro (w | w | w | w)
    · exact nI_pos (by omega) w
    · exact nI_ge (b := 4) hc (by omega) w
    · exact nI_nlt (a := n) (b := 1) h1 (by omega) w
    · exact nI_nlt (a := 9) (b := n) h9 (by omega) w), nI_clamp (by omega), nI_clamp (by omega)]
end
/-- one bracelet is written anew -/
theorem RSm_row {g g' : Nat → Int32} {σ : Sg} {b n : Nat} {f : Nat → Nat} (hS : RSm g σ) (hs : Sok σ) (hb : b < sN σ) (h1 : g' b = nI n) (h2 : ∀ i, i < n → g' (5 + 10 * b + i) = nI (f i)) (h3 : ∀ x, ¬ x = b → (x < 5 + 10 * b ∨ 15 + 10 * b ≤ x) → g' x = g x) : RSm g' (setB σ b n f) := by
  have hN := hs.1
  refine ⟨(h3 60 (by omega) (by omega)).trans hS.1, (h3 59 (by omega) (by omega)).trans hS.2.1, fun c hc => (h3 _ (by omega) (by omega)).trans (hS.2.2.1 c hc), fun b' hb' => ?_⟩
  show g' b' = nI (va_up (sZ σ) b n b') ∧ ∀ i, i < va_up (sZ σ) b n b' → g' (5 + 10 * b' + i) = nI (va_up (sB σ) b f b' i)
  have hb5 : b' < sN σ := hb'
  by_cases e : b' = b
  · subst e; rw [am_up_s, am_up_s]; exact ⟨h1, h2⟩
  · rw [am_up_n e, am_up_n e]
    have hz := hs.2.1 b' hb'
    have hr := hS.2.2.2 b' hb'
    exact ⟨(h3 _ e (by omega)).trans hr.1, fun i hi => (h3 _ (by omega) (by omega)).trans (hr.2 i hi)⟩
/-- the stock is written anew -/
theorem RSm_k {g g' : Nat → Int32} {σ : Sg} {k : Nat → Nat} (hS : RSm g σ) (hs : Sok σ) (h1 : ∀ c, c < 4 → g' (55 + c) = nI (k c)) (h2 : ∀ x, (x < 55 ∨ 59 ≤ x) → g' x = g x) : RSm g' (setK σ k) := by
  have hN := hs.1
  refine ⟨(h2 60 (by omega)).trans hS.1, (h2 59 (by omega)).trans hS.2.1, h1, fun b' hb' => ?_⟩
  have hb5 : b' < sN σ := hb'
  have hz := hs.2.1 b' hb'
  have hr := hS.2.2.2 b' hb'
  exact ⟨(h2 _ (by omega)).trans hr.1, fun i hi => (h2 _ (by have h9 : i < sZ σ b' := hi; omega)).trans (hr.2 i hi)⟩
section
variable {d : Nat} {h0 h : am_H} {Q : Option Value → am_H → Prop} {F : Nat → Int32} {A : Nat → Nat → Int32} {R : Nat → Int64} {p : Nat} {g : Nat → Int32} {σ : Sg}
theorem RM.pp (W : RM h0 h F (va_up A p g) R) (hp : p = 154 ∨ p = 155) : h.2 p = aI 61 g := by
  have w := W.ap hp
  rw [am_up_s] at w
  exact w
theorem am_stG {j : Nat} {i x : Int32} {k : am_H → Prop} (W : RM h0 h F (va_up A p g) R) (hp : p = 154 ∨ p = 155) (e : i = nI j) (hj : j < 61) (H : ∀ h', RM h0 h' F (va_up A p (upd g j x)) R → k h') : am_ari h p .int (fun n f => vp_in i n ∧ k (am_set h p (.inl (.int, n, .inl (upd f i.toNatClampNeg x))))) := by
  refine am_stP W hp e hj (fun h' w => H h' ?_)
  rw [va_up2, am_up_s] at w
  exact w
theorem M_isOf {N : Nat} (hp : h.2 p = aI 61 g) (hN : g 60 = nI N) (hN5 : N ≤ 5) (b : Int32) (h1 : ∀ j, j < N → b = nI j → Q (some (.int 1)) h) (h2 : (b < 0 ∨ nI N ≤ b) → Q (some (.int 0)) h) : am_call (d + 2) 232 [.ref p, .int b] h Q := by
  refine en_X11_isOf (Nat.le_of_ble_eq_true rfl) ?_
  refine am_run (am_cK _) 6 (am_ld hp 60 (by omega) ?_)
  rw [pk_cl (x := 60) 60, hN]
  refine am_run (am_cK _) 4 (M_in b 0 (nI N - 1) (fun c1 c2 => ?_) (fun c => ?_))
  · obtain ⟨j, hj, rfl⟩ := nI_of (Int32.not_lt.mpr c1)
    exact am_run (am_cK _) 1 (⟨Or.inr rfl, h1 j ((nI_ltI hj (by omega)).mp ((le_pred (by omega)).mp c2)) rfl⟩)
  · exact am_run (am_cK _) 1 (⟨Or.inl rfl, h2 (c.imp_right (fun z => (pred_lt (by omega)).mp z))⟩)
/-- 0 .. n - 1 -/
theorem M_inZ {x' y' z' : Int64} (x : Int32) (n : Nat) (hn : n < 2 ^ 30) (h1 : ∀ j, j < n → x = nI j → Q (some (.int 1)) h) (h2 : (x < 0 ∨ nI n ≤ x) → Q (some (.int 0)) h) (hx : x' = x.toInt64 := by rfl) (hy : y' = (0 : Int32).toInt64 := by rfl) (hz : z' = (nI n - 1).toInt64 := by rfl) : am_call (d + 1) 176 [.long x', .long y', .long z'] h Q := by
  refine M_in x 0 (nI n - 1) (fun c1 c2 => ?_) (fun c => h2 (c.imp_right (fun z => (pred_lt hn).mp z))) hx hy hz
  obtain ⟨j, hj, rfl⟩ := nI_of (Int32.not_lt.mpr c1)
  exact h1 j ((nI_ltI hj (by omega)).mp ((le_pred hn).mp c2)) rfl
theorem M_laysBead (W : RM h0 h F (va_up A p g) R) (hp : p = 154 ∨ p = 155) {b i : Nat} (hb : b < 5) (hi : i < 10) (x : Int32) (hQ : ∀ h', RM h0 h' F (va_up A p (upd g (5 + 10 * b + i) x)) R → Q none h') : am_call (d + 1) 233 [.ref p, .int (nI b), .int (nI i), .int x] h Q := by
  refine en_X11_laysBead (Nat.le_of_ble_eq_true rfl) ?_
  exact am_run (am_cK _) 10 (am_stG W hp (bd_ix b i) (by omega) (fun h1 W1 => am_run (am_cK _) 1 (hQ h1 W1)))
theorem J_minE {x y : Int32} (a b : Nat) (hx : x = nI a) (hy : y = nI b) (ha : a < 2 ^ 31) (hb : b < 2 ^ 31) (hQ : Q (some (.int (nI (Nat.min a b)))) h) : am_call (d + 1) 325 [.int x, .int y] h Q := by
  subst hx hy
  exact J_min ha hb hQ
theorem J_maxE {x y : Int32} (a b : Nat) (hx : x = nI a) (hy : y = nI b) (ha : a < 2 ^ 31) (hb : b < 2 ^ 31) (hQ : Q (some (.int (nI (Nat.max a b)))) h) : am_call (d + 1) 324 [.int x, .int y] h Q := by
  subst hx hy
  exact J_max ha hb hQ
theorem M_stores (W : RM h0 h F (va_up A p g) R) (hp : p = 154 ∨ p = 155) {c k : Nat} (hc : c < 4) (hk : g (55 + c) = nI k) (hk99 : k ≤ 99) (hQ : ∀ h', RM h0 h' F (va_up A p (upd g (55 + c) (nI (Nat.min 99 (k + 1))))) R → Q none h') : am_call (d + 2) 239 [.ref p, .int (nI c)] h Q := by
  refine en_X11_stores (Nat.le_of_ble_eq_true rfl) ?_
  refine am_run (am_cK _) 10 (am_ld (W.pp hp) (55 + c) (by omega) ?_ (st_ix c))
  rw [st_ix, nI_clamp (by omega), hk]
  refine am_run (am_cK _) 3 (J_minE 99 (k + 1) rfl (nI_1 k) (by omega) (by omega) ?_)
  exact am_run (am_cK _) 1 (am_stG W hp rfl (by omega) (fun h1 W1 => am_run (am_cK _) 1 (hQ h1 W1)))
def gsI (g : Nat → Int32) (b k : Nat) (g1 : Nat → Int32) : Prop := b + 1 ≤ k ∧ (∀ x, 55 ≤ x → g1 x = g x) ∧ ∀ i, i < 5 → g1 i = g (if b ≤ i ∧ i + 1 < k then i + 1 else i) ∧ ∀ q, q < 10 → g1 (5 + 10 * i + q) = g (5 + 10 * (if b ≤ i ∧ i + 1 < k then i + 1 else i) + q)
theorem M_goes (W : RM h0 h F (va_up A p g) R) (hp : p = 154 ∨ p = 155) (hS : RSm g σ) (hs : Sok σ) {b : Nat} (hb : b < sN σ) (hQ : ∀ h' g', RM h0 h' F (va_up A p g') R → RSm g' (sDrop σ b) → Q none h') : am_call (d + 2) 241 [.ref p, .int (nI b)] h Q := by
  have hN := hs.1
  refine en_X11_goes (Nat.le_of_ble_eq_true rfl) (am_run (am_cK _) 4 ?_)
  have h00 : gsI g b (b + 1) g := ⟨Nat.le_refl _, fun _ _ => rfl, fun i hi => by rw [if_neg (by omega)]; exact ⟨rfl, fun _ _ => rfl⟩⟩
  have st : am_wp (am_call (d + 1)) (0, 0) cm_X11_goes Q (fun _ => False) (4, [some (.ref p), some (.int (nI b)), some (.int (nI (b + 1))), none], [], 0, 0) h := by
    refine am_lp (α := (Nat → Int32) × Option Value) (fun k j => (4, [some (.ref p), some (.int (nI b)), some (.int (nI k)), j.2], [], 0, 0)) (fun k j h' => RM h0 h' F (va_up A p j.1) R ∧ gsI g b k j.1) (sN σ) (fun k j h' hk P K => ?_) (fun j h' P => ?_) (b + 1) (g, none) h (by omega) ⟨W, h00⟩
    · obtain ⟨g1, jv⟩ := j
      obtain ⟨W1, hb1, P1, P2⟩ := P
      replace P1 : ∀ x, 55 ≤ x → g1 x = g x := P1
      replace W1 : RM h0 h' F (va_up A p g1) R := W1
      have e60 : g1 60 = nI (sN σ) := (P1 60 (by omega)).trans hS.1
      refine am_run (am_cK _) 4 (am_ld (W1.pp hp) 60 (by omega) ?_)
      rw [pk_cl (x := 60) 60, e60]
      refine am_run (am_cK _) 1 (pk_le (sN σ) k (fun c => by omega) (fun _ => ?_))
      have ek : nI k - 1 = nI (k - 1) := pk_sub (a := k) (b := 1) (by omega)
      refine am_run (am_cK _) 7 (am_ld (W1.pp hp) k (by omega) ?_)
      rw [nI_clamp (by omega)]
      refine am_run (am_cK _) 1 (am_stG W1 hp ek (by omega) (fun h2 W2 => ?_))
      refine am_run (am_cK _) 2 ?_
      refine am_lp (α := Nat → Int32) (fun q j => (22, [some (.ref p), some (.int (nI b)), some (.int (nI k)), some (.int (nI q))], [], 0, 0)) (fun q g2 h' => RM h0 h' F (va_up A p g2) R ∧ g2 (k - 1) = g1 k ∧ (∀ q', q' < q → g2 (5 + 10 * (k - 1) + q') = g1 (5 + 10 * k + q')) ∧ ∀ x, ¬ x = k - 1 → (x < 5 + 10 * (k - 1) ∨ 5 + 10 * (k - 1) + q ≤ x) → g2 x = g1 x) 10 (fun q g2 h3 hq P3 K3 => ?_) (fun g2 h3 P3 => ?_) 0 _ h2 (Nat.zero_le _) ⟨W2, upd_s, fun q' hq' => by omega, fun x hx _ => upd_n hx⟩
      · obtain ⟨W3, p1, p2, p3⟩ := P3
        refine am_run (am_cK _) 3 (pk_le 10 q (fun c => by omega) (fun _ => ?_))
        refine am_run (am_cK _) 9 (M_beadAt (W3.pp hp) (by omega) hq (p3 (5 + 10 * k + q) (by omega) (by omega)) ?_)
        refine am_run (am_cK _) 1 ?_
        rw [ek]
        refine M_laysBead W3 hp (by omega) hq _ (fun h4 W4 => ?_)
        have K4 := K3 _ h4 ⟨W4, (upd_n (by omega)).trans p1, fun q' hq' => (by
          by_cases e : q' = q
          · subst e; exact upd_s
          · exact (upd_n (by omega)).trans (p2 q' (by omega))), fun x hx hx2 => (upd_n (by omega)).trans (p3 x hx (by omega))⟩
        rw [nI_succ] at K4
        exact am_run (am_cK _) 2 (K4)
      · obtain ⟨W3, p1, p2, p3⟩ := P3
        refine am_run (am_cK _) 3 (pk_le 10 10 (fun _ => ?_) (fun c => by omega))
        have K4 := K (g2, some (.int (nI 10))) h3 ⟨W3, by omega, fun x hx => (p3 x (by omega) (by omega)).trans (P1 x hx), fun i hi => ?_⟩
        · rw [nI_succ] at K4
          exact am_run (am_cK _) 2 (K4)
        · by_cases e : i = k - 1
          · subst e
            rw [if_pos (by omega), show k - 1 + 1 = k by omega]
            have z := P2 k (by omega)
            rw [if_neg (by omega)] at z
            exact ⟨p1.trans z.1, fun q hq => (p2 q hq).trans (z.2 q hq)⟩
          · have z := P2 i hi
            have ec : (if b ≤ i ∧ i + 1 < k + 1 then i + 1 else i) = (if b ≤ i ∧ i + 1 < k then i + 1 else i) := by
              by_cases c : b ≤ i ∧ i + 1 < k
              · rw [if_pos c, if_pos (by omega)]
              · rw [if_neg c, if_neg (by omega)]
            rw [ec]
            exact ⟨(p3 i e (by omega)).trans z.1, fun q hq => (p3 _ (by omega) (by omega)).trans (z.2 q hq)⟩
    · obtain ⟨g1, jv⟩ := j
      obtain ⟨W1, hb1, P1, P2⟩ := P
      replace P1 : ∀ x, 55 ≤ x → g1 x = g x := P1
      replace W1 : RM h0 h' F (va_up A p g1) R := W1
      have e60 : g1 60 = nI (sN σ) := (P1 60 (by omega)).trans hS.1
      refine am_run (am_cK _) 4 (am_ld (W1.pp hp) 60 (by omega) ?_)
      rw [pk_cl (x := 60) 60, e60]
      refine am_run (am_cK _) 1 (pk_le (sN σ) (sN σ) (fun _ => ?_) (fun c => by omega))
      refine am_run (am_cK _) 4 (am_ld (W1.pp hp) 60 (by omega) ?_)
      rw [pk_cl (x := 60) 60, e60]
      refine am_run (am_cK _) 3 (am_stG W1 hp (j := 60) rfl (by omega) (fun h2 W2 => am_run (am_cK _) 1 (hQ h2 _ W2 ?_)))
      refine ⟨?_, (upd_n (by omega)).trans ((P1 59 (by omega)).trans hS.2.1), fun c hc => (upd_n (by omega)).trans ((P1 _ (by omega)).trans (hS.2.2.1 c hc)), fun b' hb' => ?_⟩
      · rw [upd_s]
        exact pk_sub (a := sN σ) (b := 1) (by omega)
      · have hb2 : b' < sN σ - 1 := hb'
        have z := P2 b' (by omega)
        show upd g1 60 (nI (sN σ) - 1) b' = nI (if b' < b then sZ σ b' else sZ σ (b' + 1)) ∧ ∀ i, i < (if b' < b then sZ σ b' else sZ σ (b' + 1)) → upd g1 60 (nI (sN σ) - 1) (5 + 10 * b' + i) = nI ((if b' < b then sB σ b' else sB σ (b' + 1)) i)
        by_cases c : b' < b
        · rw [if_pos c, if_pos c]
          rw [if_neg (by omega)] at z
          have hr := hS.2.2.2 b' (by omega)
          have hz := hs.2.1 b' (by omega)
          exact ⟨(upd_n (by omega)).trans (z.1.trans hr.1), fun i hi => (upd_n (by omega)).trans ((z.2 i (by omega)).trans (hr.2 i hi))⟩
        · rw [if_neg c, if_neg c]
          rw [if_pos (by omega)] at z
          have hr := hS.2.2.2 (b' + 1) (by omega)
          have hz := hs.2.1 (b' + 1) (by omega)
          exact ⟨(upd_n (by omega)).trans (z.1.trans hr.1), fun i hi => (upd_n (by omega)).trans ((z.2 i (by omega)).trans (hr.2 i hi))⟩
  rw [nI_succ] at st
  exact st
end
