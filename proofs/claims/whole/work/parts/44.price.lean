/-- what joins two numbers -/
def jnI (i : Nat) (x y : Int32) : Int32 := match i with
  | 0 => if x < y then 1 else 0
  | 1 => if y < x then 1 else 0
  | 2 => if x = y then 1 else 0
  | 3 => x + y
  | 4 => x - y
  | 5 => x * y
  | _ => if y = 0 then 0 else x / y
/-- a code works on a stack -/
def ev (tv : Nat → Int32) : List Nat → List Int32 → Option (List Int32)
  | [], st => some st
  | c :: cs, st => if c < 1000 then ev tv cs (nI c :: st) else if c < 2000 then ev tv cs (tv (c - 1000) :: st) else if c < 3000 then (match st with
    | y :: x :: r => ev tv cs (jnI (c - 2000) x y :: r)
    | _ => none) else (match st with
    | x :: r => ev tv cs (-x :: r)
    | _ => none)
theorem ev_cons (tv : Nat → Int32) (c : Nat) (cs : List Nat) (st : List Int32) : ev tv (c :: cs) st = if c < 1000 then ev tv cs (nI c :: st) else if c < 2000 then ev tv cs (tv (c - 1000) :: st) else if c < 3000 then (match st with
    | y :: x :: r => ev tv cs (jnI (c - 2000) x y :: r)
    | _ => none) else (match st with
    | x :: r => ev tv cs (-x :: r)
    | _ => none) := rfl
/-- how high the stack is -/
def shp : List Nat → Nat → Option Nat
  | [], k => some k
  | c :: cs, k => if c < 1000 then shp cs (k + 1) else if c < 1007 then shp cs (k + 1) else if c < 2000 then none else if c < 2007 then (if 2 ≤ k then shp cs (k - 1) else none) else if c = 3000 then (if 1 ≤ k then shp cs k else none) else none
def Cok (L : List Nat) : Prop := L.length ≤ 40 ∧ (L = [] ∨ shp L.reverse 0 = some 1)
def nCl (f : Nat → Nat) (n : Nat) : Nat := cnt (fun c => decide (0 < num f n c)) 4
def trV (f : Nat → Nat) (n a i : Nat) : Nat := match i with
  | 0 => n
  | 1 => nCl f n
  | 2 => per f n
  | 3 => mir f n
  | 4 => mst f n
  | 5 => dif f (rol f n 1) n
  | _ => a
/-- the price by a code -/
def prc (L : List Nat) (f : Nat → Nat) (n a : Nat) : Nat := if L = [] then n + 2 * nCl f n else match ev (fun i => nI (trV f n a i)) L.reverse [] with
  | some (v :: _) => clp 99 v
  | _ => 0
theorem trait_sw : ∀ i, i < 7 → am_tsw 1 127 99 116 #[89, 116, 127, 104, 127, 127, 127, 127, 127, 127, 110, 87, 127, 127, 127, 127, 127, 98] (nI (trS i)) = [88, 90, 99, 105, 111, 117, 128].getD i 0 := by decide +kernel
theorem join_sw : ∀ i, i < 7 → am_lsw 1 104 #[(42, 100), (43, 92), (45, 96), (60, 59), (61, 81), (62, 70)] (nI (opS i)) = [60, 71, 82, 93, 97, 101, 105].getD i 0 := by decide +kernel
section
variable {d : Nat} {h : am_H} {Q : Option Value → am_H → Prop} {p : Nat} {f : Nat → Nat} {n : Nat}
theorem bc_cbt (f : Nat → Nat) (n : Nat) : bcI (nI (cbt f n)) = nI (nCl f n) := bc_bts _ (by omega)
theorem U_trait {i a : Nat} (hi : i < 7) (hn0 : 0 < n) (hn : n ≤ 10) (hf : ∀ i, i < n → f i < 4) (hQ : Q (some (.int (nI (trV f n a i)))) h) : am_call (d + 5) 75 [.int (nI (trS i)), .int (nI (rk f n)), .int (nI n), .int (nI a)] h Q := by
  refine en_X6_trait (Nat.le_of_ble_eq_true rfl) (am_run (am_cK _) 2 ?_)
  refine (show am_wp _ _ cm_X6_trait _ _ (am_tsw 1 127 99 116 #[89, 116, 127, 104, 127, 127, 127, 127, 127, 127, 110, 87, 127, 127, 127, 127, 127, 98] (nI (trS i)), _, _, _, _) h from ?_)
  rw [trait_sw i hi]
  rcases (by omega : i = 0 ∨ i = 1 ∨ i = 2 ∨ i = 3 ∨ i = 4 ∨ i = 5 ∨ i = 6) with e | e | e | e | e | e | e <;> subst e
  · exact am_run (am_cK _) 2 hQ
  · refine am_run (am_cK _) 3 (B_colourBits hn hf (am_run (am_cK _) 1 (J_bitCount _ ?_)))
    rw [bc_cbt]
    exact am_run (am_cK _) 1 hQ
  · exact am_run (am_cK _) 3 (B_period hn0 hn hf (am_run (am_cK _) 1 hQ))
  · exact am_run (am_cK _) 3 (B_mirrors hn0 hn hf (am_run (am_cK _) 1 hQ))
  · exact am_run (am_cK _) 3 (B_mostOfOne hn hf (am_run (am_cK _) 1 hQ))
  · exact am_run (am_cK _) 5 (B_rolled (k := 1) hn0 hn (by omega) hf (am_run (am_cK _) 1 (B_apart hn hf (rol_lt hf) (am_run (am_cK _) 1 hQ))))
  · exact am_run (am_cK _) 2 hQ
theorem U_joined {i : Nat} (hi : i < 7) (x y : Int32) (hQ : Q (some (.int (jnI i x y))) h) : am_call (d + 1) 76 [.int (nI (opS i)), .int x, .int y] h Q := by
  refine en_X6_joined (Nat.le_of_ble_eq_true rfl) (am_run (am_cK _) 2 ?_)
  refine (show am_wp _ _ cm_X6_joined _ _ (am_lsw 1 104 #[(42, 100), (43, 92), (45, 96), (60, 59), (61, 81), (62, 70)] (nI (opS i)), _, _, _, _) h from ?_)
  rw [join_sw i hi]
  rcases (by omega : i = 0 ∨ i = 1 ∨ i = 2 ∨ i = 3 ∨ i = 4 ∨ i = 5 ∨ i = 6) with e | e | e | e | e | e | e <;> subst e
  · refine am_run (am_cK _) 3 ⟨fun c => ?_, fun c => ?_⟩
    · rw [show jnI 0 x y = 0 from if_neg (Int32.not_lt.mpr c)] at hQ
      exact am_run (am_cK _) 2 hQ
    · rw [show jnI 0 x y = 1 from if_pos (Int32.not_le.mp c)] at hQ
      exact am_run (am_cK _) 3 hQ
  · refine am_run (am_cK _) 3 ⟨fun c => ?_, fun c => ?_⟩
    · rw [show jnI 1 x y = 0 from if_neg (Int32.not_lt.mpr c)] at hQ
      exact am_run (am_cK _) 2 hQ
    · rw [show jnI 1 x y = 1 from if_pos (Int32.not_le.mp c)] at hQ
      exact am_run (am_cK _) 3 hQ
  · refine am_run (am_cK _) 3 ⟨fun c => ?_, fun c => ?_⟩
    · have c' : ¬ x = y := c
      rw [show jnI 2 x y = 0 from if_neg c'] at hQ
      exact am_run (am_cK _) 2 hQ
    · rw [show jnI 2 x y = 1 from if_pos (Classical.not_not.mp c)] at hQ
      exact am_run (am_cK _) 3 hQ
  · exact am_run (am_cK _) 4 hQ
  · exact am_run (am_cK _) 4 hQ
  · exact am_run (am_cK _) 4 hQ
  · refine am_run (am_cK _) 2 ⟨fun c => ?_, fun c => ?_⟩
    · have c' : ¬ y = 0 := c
      rw [show jnI 6 x y = x / y from if_neg c'] at hQ
      exact am_run (am_cK _) 3 ⟨c', am_run (am_cK _) 1 hQ⟩
    · rw [show jnI 6 x y = 0 from if_pos (Classical.not_not.mp c)] at hQ
      exact am_run (am_cK _) 3 hQ
theorem Ar_rev {α : Type} {g : Nat → Int32} {v : α → Int32} {L : List α} (hA : Ar g v L) {i : Nat} {x : α} (hx : L.reverse[i]? = some x) : g i = v x := by
  have hi : i < L.length := by
    rw [List.getElem?_eq_some_iff] at hx
    have := hx.1
    rwa [List.length_reverse] at this
  rw [List.getElem?_reverse hi] at hx
  have := hA _ _ hx
  rwa [show L.length - 1 - (L.length - 1 - i) = i by omega] at this
theorem stc_nn : ∀ c, c < 1000 → ¬ stc c < 0 := by decide +kernel
theorem stc_tr : ∀ i, i < 7 → stc (1000 + i) < 0 ∧ -(stc (1000 + i)) = nI (trS i) ∧ trt (trS i) = true ∧ trS i < 256 := by decide +kernel
theorem stc_op : ∀ i, i < 7 → stc (2000 + i) < 0 ∧ -(stc (2000 + i)) = nI (opS i) ∧ trt (opS i) = false ∧ opS i < 256 ∧ ¬ stc (2000 + i) = -126 := by decide +kernel
theorem nCl_le (f : Nat → Nat) (n : Nat) : nCl f n ≤ 4 := cnt_le _ _
/-- the stack of a rule while it works -/
def RV (h : am_H) (p : Nat) (a b c d e f : Int32) (g1 g3 : Nat → Int32) (st : List Int32) : Prop := h.2 p = cU p a b c d e (nI st.length) f ∧ h.2 (p + 1) = aI 40 g1 ∧ (∃ k2, h.2 (p + 2) = aI 40 k2 ∧ Ar k2 (fun v => v) st) ∧ h.2 (p + 3) = aC 40 g3
theorem U_push {a b c e e' ff : Int32} {g1 g3 : Nat → Int32} {st : List Int32} (hV : RV h p a b c e e' ff g1 g3 st) (hl : st.length < 40) (v : Int32) (hQ : ∀ h', AgN p 4 h h' → RV h' p a b c e e' ff g1 g3 (v :: st) → Q none h') : am_call (d + 1) 326 [.ref p, .int v] h Q := by
  obtain ⟨e0, e1, ⟨k2, e2, hA⟩, e3⟩ := hV
  refine en_X6_push (Nat.le_of_ble_eq_true rfl) (am_run (am_cK _) 2 (am_obj_in e0 (am_run (am_cK _) 2 ⟨fun c => absurd c (nI_ge (b := 40) hl (by omega)), fun _ => ?_⟩)))
  refine am_run (am_cK _) 2 (am_obj_in e0 (am_run (am_cK _) 2 (am_obj_in e0 (am_run (am_cK _) 2 (am_ari_in e2 ⟨vp_in_nI hl (by omega), ?_⟩)))))
  rw [show (nI st.length).toNatClampNeg = st.length from (nI_clamp (show st.length < 2 ^ 31 by omega))]
  have f0 := (as_n (h := h) (p := p + 2) (q := p) (c := aI 40 (upd k2 st.length v)) (by omega)).trans e0
  refine am_run (am_cK _) 3 (am_obj_in f0 (am_run (am_cK _) 3 (am_obj_in f0 (am_run (am_cK _) 1 ?_))))
  refine hQ _ ((AgN.set (by omega)).trans (AgN.set (by omega))) ⟨?_, (as_n (by omega)).trans ((as_n (by omega)).trans e1), ⟨upd k2 st.length v, (as_n (by omega)).trans as_s, Ar_push hA rfl⟩, (as_n (by omega)).trans ((as_n (by omega)).trans e3)⟩
  rw [as_s]
  show _ = cU p _ _ _ _ _ (nI (st.length + 1)) _
  unfold cU
  rw [nI_succ]
  rfl
theorem U_pop {a b c e e' ff : Int32} {g1 g3 : Nat → Int32} {v : Int32} {r : List Int32} (hV : RV h p a b c e e' ff g1 g3 (v :: r)) (hl : r.length < 40) (hQ : ∀ h', AgN p 4 h h' → RV h' p a b c e e' ff g1 g3 r → Q (some (.int v)) h') : am_call (d + 1) 327 [.ref p] h Q := by
  obtain ⟨e0, e1, ⟨k2, e2, hA⟩, e3⟩ := hV
  have hne : ¬ nI (r.length + 1) = 0 := nI_ne0 (by omega) (by omega)
  have e9 : nI (v :: r).length - 1 = nI r.length := pk_sub (a := r.length + 1) (b := 1) (by omega)
  refine en_X6_pop (Nat.le_of_ble_eq_true rfl) (am_run (am_cK _) 2 (am_obj_in e0 (am_run (am_cK _) 1 ⟨fun _ => ?_, fun c => absurd hne c⟩)))
  refine am_run (am_cK _) 3 (am_obj_in e0 (am_run (am_cK _) 3 (am_obj_in e0 (show am_wp (am_call d) (0, 0) cm_X6_pop Q (fun _ => False) (19, [some (.ref p)], [], 0, 0) (am_set h p (cU p a b c e e' (nI (v :: r).length - 1) ff)) from ?_))))
  rw [e9]
  refine am_run (am_cK _) 2 (am_obj_in as_s (am_run (am_cK _) 2 (am_obj_in as_s (am_run (am_cK _) 1 (am_rdi_in ((as_n (by omega)).trans e2) ⟨vp_in_nI hl (by omega), ?_⟩)))))
  rw [nI_clamp (by omega), show k2 r.length = v from Ar_top hA]
  exact am_run (am_cK _) 1 (hQ _ (AgN.set (by omega)) ⟨as_s, (as_n (by omega)).trans e1, ⟨k2, (as_n (by omega)).trans e2, Ar_pop hA⟩, (as_n (by omega)).trans e3⟩)
theorem U_price {L : List Nat} {a : Nat} (hR : RF h p L) (hC : Cok L) (hn0 : 0 < n) (hn : n ≤ 10) (hf : ∀ i, i < n → f i < 4) (hQ : ∀ h', AgN p 4 h h' → RF h' p L → Q (some (.int (nI (prc L f n a)))) h') : am_call (d + 6) 74 [.ref p, .int (nI (rk f n)), .int (nI n), .int (nI a)] h Q := by
  obtain ⟨g1, g2, g3, b, c, dd, e, ff, e0, e1, e2, e3, e4⟩ := id hR
  have hlen := hC.1
  refine en_X6_price (Nat.le_of_ble_eq_true rfl) (am_run (am_cK _) 2 (am_obj_in e0 (am_run (am_cK _) 1 ⟨fun z => ?_, fun z => ?_⟩)))
  · have hne : ¬ L = [] := fun w => z (show nI L.length = 0 by rw [w]; rfl)
    have hsh := hC.2.resolve_left hne
    suffices H : ∀ (cs : List Nat) (i : Nat) (st : List Int32) (h' : am_H) (x y : Option Value), (∀ j y, cs[j]? = some y → g1 (i + j) = stc y) → i + cs.length = L.length → AgN p 4 h h' → RV h' p (nI L.length) b c dd e ff g1 g3 st → st.length ≤ i → shp cs st.length = some 1 → prc L f n a = (match ev (fun i => nI (trV f n a i)) cs st with | some (v :: _) => clp 99 v | _ => 0) → am_wp (am_call (d + 5)) (0, 0) cm_X6_price Q (fun _ => False) (28, [some (.ref p), some (.int (nI (rk f n))), some (.int (nI n)), some (.int (nI a)), some (.int (nI i)), x, y], [], 0, 0) h' from
      am_run (am_cK _) 3 (am_obj_in e0 (am_run (am_cK _) 2 (H L.reverse 0 [] (am_set h p (cU p (nI L.length) b c dd e 0 ff)) none none (fun j y hy => by rw [Nat.zero_add]; exact Ar_rev e4 hy) (by rw [List.length_reverse]; omega) (AgN.set (by omega)) ⟨as_s, (as_n (by omega)).trans e1, ⟨g2.1, (as_n (by omega)).trans e2, Ar_nil⟩, (as_n (by omega)).trans e3⟩ (Nat.le_refl _) hsh (if_neg hne))))
    intro cs
    induction cs with
    | nil =>
      intro i st h' x y hg hi ha hV hst hsp hpr
      have f0 := hV.1
      have hl1 : st.length = 1 := by simpa [shp] using hsp
      match st, hl1, hV, f0, hpr with
      | [v], _, hV, f0, hpr =>
        have hpr' : prc L f n a = clp 99 v := hpr
        have hi' : i = L.length := by simpa using hi
        refine am_run (am_cK _) 3 (am_obj_in f0 (am_run (am_cK _) 1 ⟨fun _ => ?_, fun w => absurd (nI_le (by omega) (by omega)) w⟩))
        refine am_run (am_cK _) 4 (am_obj_in f0 (U_pop hV (show 0 < 40 by omega) (fun h2 ha2 hV2 => ?_)))
        refine am_run (am_cK _) 1 (J_minI 99 v (am_run (am_cK _) 1 (J_maxI 0 _ ?_)))
        obtain ⟨q0, q1, ⟨k2, q2, _⟩, q3⟩ := hV2
        have q := hQ h2 (ha.trans ha2) ⟨g1, (k2, nI ([] : List Int32).length), g3, b, c, dd, e, ff, q0, q1, q2, q3, e4⟩
        rw [hpr', ← clp_eq (by omega)] at q
        exact am_run (am_cK _) 1 q
    | cons y cs ih =>
      intro i st h' x x' hg hi ha hV hst hsp hpr
      have f0 := hV.1
      have f1 := hV.2.1
      have hil : i + (cs.length + 1) = L.length := hi
      have hgi : g1 i = stc y := hg 0 y rfl
      have hg' : ∀ j z, cs[j]? = some z → g1 (i + 1 + j) = stc z := fun j z hz => by
        have := hg (j + 1) z hz
        rwa [show i + 1 + j = i + (j + 1) by omega]
      have nxt : ∀ (st' : List Int32) (h2 : am_H) (x x' : Option Value), AgN p 4 h h2 → RV h2 p (nI L.length) b c dd e ff g1 g3 st' → st'.length ≤ i + 1 → shp cs st'.length = some 1 → prc L f n a = (match ev (fun i => nI (trV f n a i)) cs st' with | some (v :: _) => clp 99 v | _ => 0) → am_wp (am_call (d + 5)) (0, 0) cm_X6_price Q (fun _ => False) (126, [some (.ref p), some (.int (nI (rk f n))), some (.int (nI n)), some (.int (nI a)), some (.int (nI i)), x, x'], [], 0, 0) h2 := by
        intro st' h2 x x' ha2 hV2 hl2 h1 h2'
        have zz := ih (i + 1) st' h2 x x' hg' (by omega) ha2 hV2 hl2 h1 h2'
        rw [nI_succ] at zz
        exact am_run (am_cK _) 2 zz
      refine am_run (am_cK _) 3 (am_obj_in f0 (am_run (am_cK _) 1 ⟨fun w => absurd w (nI_ge (by omega) (by omega)), fun _ => ?_⟩))
      refine am_run (am_cK _) 2 (am_obj_in f0 (am_run (am_cK _) 2 (am_rdi_in f1 ⟨vp_in_nI (by omega) (by omega), ?_⟩)))
      rw [nI_clamp (by omega), hgi]
      rw [shp] at hsp
      rw [ev_cons] at hpr
      by_cases c1 : y < 1000
      · rw [if_pos c1] at hsp hpr
        refine am_run (am_cK _) 3 ⟨fun w => absurd w (stc_nn y c1), fun _ => ?_⟩
        refine am_run (am_cK _) 3 (am_obj_in f0 (U_push hV (by omega) (stc y) (fun h2 ha2 hV2 => ?_)))
        rw [show stc y = nI y from if_pos c1] at hV2
        exact am_run (am_cK _) 1 (nxt _ h2 _ _ (ha.trans ha2) hV2 (by rw [List.length_cons]; omega) hsp hpr)
      · rw [if_neg c1] at hsp hpr
        by_cases c2 : y < 1007
        · rw [if_pos c2] at hsp
          rw [if_pos (by omega)] at hpr
          obtain ⟨i', hi', rfl⟩ : ∃ i', i' < 7 ∧ y = 1000 + i' := ⟨y - 1000, by omega, by omega⟩
          rw [Nat.add_sub_cancel_left] at hpr
          have hs := stc_tr i' hi'
          refine am_run (am_cK _) 3 ⟨fun _ => ?_, fun w => absurd hs.1 w⟩
          refine am_run (am_cK _) 3 (show am_call (d + 5) 73 [.int (-(stc (1000 + i')))] h' _ from ?_)
          rw [hs.2.1]
          refine U_isTrait hs.2.2.2 ?_
          rw [hs.2.2.1]
          refine am_run (am_cK _) 1 ⟨fun w => absurd w n10, fun _ => ?_⟩
          refine am_run (am_cK _) 7 (show am_call (d + 5) 75 [.int (-(stc (1000 + i'))), .int (nI (rk f n)), .int (nI n), .int (nI a)] h' _ from ?_)
          rw [hs.2.1]
          refine U_trait hi' hn0 hn hf ?_
          refine am_run (am_cK _) 1 (am_obj_in f0 (U_push hV (by omega) (nI (trV f n a i')) (fun h2 ha2 hV2 => ?_)))
          exact am_run (am_cK _) 1 (nxt _ h2 _ _ (ha.trans ha2) hV2 (by rw [List.length_cons]; omega) hsp hpr)
        · rw [if_neg c2] at hsp
          by_cases c3 : y < 2000
          · rw [if_pos c3] at hsp; cases hsp
          · rw [if_neg c3] at hsp hpr
            by_cases c4 : y < 2007
            · rw [if_pos c4] at hsp
              rw [if_pos (by omega)] at hpr
              obtain ⟨i', hi', rfl⟩ : ∃ i', i' < 7 ∧ y = 2000 + i' := ⟨y - 2000, by omega, by omega⟩
              rw [Nat.add_sub_cancel_left] at hpr
              have hs := stc_op i' hi'
              by_cases h2l : 2 ≤ st.length
              · rw [if_pos h2l] at hsp
                match st, h2l, hV, f0, hst, hsp, hpr with
                | v2 :: v1 :: r, _, hV, f0, hst, hsp, hpr =>
                  have hst' : r.length + 2 ≤ i := hst
                  refine am_run (am_cK _) 3 ⟨fun _ => ?_, fun w => absurd hs.1 w⟩
                  refine am_run (am_cK _) 3 (show am_call (d + 5) 73 [.int (-(stc (2000 + i')))] h' _ from ?_)
                  rw [hs.2.1]
                  refine U_isTrait hs.2.2.2.1 ?_
                  rw [hs.2.2.1]
                  refine am_run (am_cK _) 1 ⟨fun _ => ?_, fun w => absurd rfl w⟩
                  refine am_run (am_cK _) 3 ⟨fun _ => ?_, fun w => absurd hs.2.2.2.2 w⟩
                  refine am_run (am_cK _) 2 (am_obj_in f0 (U_pop hV (by rw [List.length_cons]; omega) (fun h2 ha2 hV2 => ?_)))
                  refine am_run (am_cK _) 6 (am_obj_in hV2.1 (U_pop hV2 (by omega) (fun h3 ha3 hV3 => ?_)))
                  refine am_run (am_cK _) 2 (show am_call (d + 5) 76 [.int (-(stc (2000 + i'))), .int v1, .int v2] h3 _ from ?_)
                  rw [hs.2.1]
                  refine U_joined hi' v1 v2 (am_run (am_cK _) 1 (am_obj_in hV3.1 (U_push hV3 (by omega) (jnI i' v1 v2) (fun h4 ha4 hV4 => ?_))))
                  exact nxt _ h4 _ _ (ha.trans (ha2.trans (ha3.trans ha4))) hV4 (by rw [List.length_cons]; omega) (by rw [List.length_cons] at *; exact hsp) hpr
              · rw [if_neg h2l] at hsp; cases hsp
            · rw [if_neg c4] at hsp
              by_cases c5 : y = 3000
              · subst c5
                rw [if_pos rfl] at hsp
                rw [if_neg (by decide)] at hpr
                by_cases h1l : 1 ≤ st.length
                · rw [if_pos h1l] at hsp
                  match st, h1l, hV, f0, hst, hsp, hpr with
                  | v :: r, _, hV, f0, hst, hsp, hpr =>
                    have hst' : r.length + 1 ≤ i := hst
                    have hs3 : stc 3000 = -126 := by decide
                    rw [hs3]
                    refine am_run (am_cK _) 3 ⟨fun _ => ?_, fun w => absurd (show (-126 : Int32) < 0 by decide) w⟩
                    refine am_run (am_cK _) 3 (show am_call (d + 5) 73 [.int (nI 126)] h' _ from ?_)
                    refine U_isTrait (by omega) (am_run (am_cK _) 1 ⟨fun _ => ?_, fun w => absurd rfl w⟩)
                    refine am_run (am_cK _) 3 ⟨fun w => absurd rfl w, fun _ => ?_⟩
                    refine am_run (am_cK _) 3 (am_obj_in f0 (U_pop hV (by omega) (fun h2 ha2 hV2 => ?_)))
                    refine am_run (am_cK _) 2 (am_obj_in hV2.1 (U_push hV2 (by omega) (-v) (fun h3 ha3 hV3 => ?_)))
                    exact am_run (am_cK _) 1 (nxt _ h3 _ _ (ha.trans (ha2.trans ha3)) hV3 (by rw [List.length_cons]; omega) hsp hpr)
                · rw [if_neg h1l] at hsp; cases hsp
              · rw [if_neg c5] at hsp; cases hsp
  · have hl0 : L = [] := by
      have : L.length = 0 := (nI_eq (b := 0) (by omega) (by omega)).mp (Classical.not_not.mp z)
      exact List.length_eq_zero_iff.mp this
    have q := hQ h AgN.rf hR
    rw [show prc L f n a = n + 2 * nCl f n from if_pos hl0, ← nI_add, ← pk_mul] at q
    refine am_run (am_cK _) 5 (B_colourBits hn hf (am_run (am_cK _) 1 (J_bitCount _ ?_)))
    rw [bc_cbt]
    exact am_run (am_cK _) 3 q
end
