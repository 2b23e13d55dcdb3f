theorem work_sw : ∀ i, i < 7 → am_tsw 1 93 0 5 #[39, 53, 67, 81, 85, 89] (nI i) = [40, 54, 68, 82, 86, 90, 94].getD i 0 := by decide +kernel
/-- what a code gives -/
def rdV (tv : Nat → Int32) (L : List Nat) : Int32 := if L = [] then tv 0 + 2 * tv 1 else match ev tv L.reverse [] with
  | some (v :: _) => v
  | _ => 0
theorem prc_rdV {L : List Nat} {f : Nat → Nat} {n a : Nat} (hn : n ≤ 10) : clp 99 (rdV (fun i => nI (trV f n a i)) L) = prc L f n a := by
  unfold rdV prc
  by_cases e : L = []
  · rw [if_pos e, if_pos e]
    have h4 := nCl_le f n
    have e1 : nI (trV f n a 0) + 2 * nI (trV f n a 1) = nI (n + 2 * nCl f n) := by
      show nI n + 2 * nI (nCl f n) = _
      rw [two_n, nI_add]
    rw [e1]
    unfold clp
    rw [if_neg (nI_pos (by omega)), if_neg (nI_nlt (by omega) (by omega)), nI_clamp (by omega)]
  · rw [if_neg e, if_neg e]
    match ev (fun i => nI (trV f n a i)) L.reverse [] with
    | some (v :: _) => rfl
    | some [] => rfl
    | none => rfl
def IL (u : Int32) (a : Nat → Int32) (L : List Nat) : Prop := u = nI L.length ∧ Ar a nI L ∧ Cok L
section
variable {d : Nat} {h0 h : am_H} {Q : Option Value → am_H → Prop} {F : Nat → Int32} {A : Nat → Nat → Int32} {R : Nat → Int64} {n : Nat} {f : Nat → Nat}
theorem M_worked {i : Nat} (hi : i < 7) (x y : Int32) (hQ : Q (some (.int (jnI i x y))) h) : am_call (d + 2) 219 [.int (nI i), .int x, .int y] h Q := by
  refine en_X11_worked (Nat.le_of_ble_eq_true rfl) ?_
  refine am_run (am_cK _) 2 (show am_wp (am_call (d + 1)) (0, 0) cm_X11_worked Q (fun _ => False) (am_tsw 1 93 0 5 #[39, 53, 67, 81, 85, 89] (nI i), [some (.int (nI i)), some (.int x), some (.int y)], [], 0, 0) h from ?_)
  rw [work_sw i hi]
  match i, hi, hQ with
  | 0, _, hQ =>
    refine am_run (am_cK _) 3 (⟨fun c => ?_, fun c => ?_⟩)
    · have e : jnI 0 x y = 0 := if_neg (Int32.not_lt.mpr c)
      rw [e] at hQ
      exact am_run (am_cK _) 2 (M_flag0 (am_run (am_cK _) 1 (hQ)))
    · have e : jnI 0 x y = 1 := if_pos (Int32.not_le.mp c)
      rw [e] at hQ
      exact am_run (am_cK _) 3 (M_flag1 (am_run (am_cK _) 1 (hQ)))
  | 1, _, hQ =>
    refine am_run (am_cK _) 3 (⟨fun c => ?_, fun c => ?_⟩)
    · have e : jnI 1 x y = 0 := if_neg (Int32.not_lt.mpr c)
      rw [e] at hQ
      exact am_run (am_cK _) 2 (M_flag0 (am_run (am_cK _) 1 (hQ)))
    · have e : jnI 1 x y = 1 := if_pos (Int32.not_le.mp c)
      rw [e] at hQ
      exact am_run (am_cK _) 3 (M_flag1 (am_run (am_cK _) 1 (hQ)))
  | 2, _, hQ =>
    refine am_run (am_cK _) 3 (⟨fun c => ?_, fun c => ?_⟩)
    · have e : jnI 2 x y = 0 := if_neg c
      rw [e] at hQ
      exact am_run (am_cK _) 2 (M_flag0 (am_run (am_cK _) 1 (hQ)))
    · have e : jnI 2 x y = 1 := if_pos (Classical.not_not.mp c)
      rw [e] at hQ
      exact am_run (am_cK _) 3 (M_flag1 (am_run (am_cK _) 1 (hQ)))
  | 3, _, hQ => exact am_run (am_cK _) 4 (hQ)
  | 4, _, hQ => exact am_run (am_cK _) 4 (hQ)
  | 5, _, hQ => exact am_run (am_cK _) 4 (hQ)
  | 6, _, hQ =>
    refine am_run (am_cK _) 2 (⟨fun c => ?_, fun c => ?_⟩)
    · have e : jnI 6 x y = x / y := if_neg c
      rw [e] at hQ
      exact am_run (am_cK _) 3 (⟨c, am_run (am_cK _) 1 (hQ)⟩)
    · have e : jnI 6 x y = 0 := if_pos (Classical.not_not.mp c)
      rw [e] at hQ
      exact am_run (am_cK _) 3 (hQ)
theorem M_ruled (W : RM h0 h F A R) {L : List Nat} {tv : Nat → Int32} (hI : IL (F 16) (A 159) L) (ht : ∀ i, i < 7 → A 162 i = tv i) (hQ : ∀ h' s, RM h0 h' F (va_up A 161 s) R → Q (some (.int (rdV tv L))) h') : am_call (d + 3) 220 [.ref 152] h Q := by
  obtain ⟨hl, hA, hC⟩ := hI
  have hlen := hC.1
  refine en_X11_ruled (Nat.le_of_ble_eq_true rfl) (am_run (am_cK _) 4 ?_)
  by_cases hne : L = []
  · subst hne
    have q := hQ h (A 161) (by rw [va_same rfl]; exact W)
    unfold rdV at q
    rw [if_pos rfl] at q
    refine am_run (am_cK _) 3 (am_obj_in W.o (am_run (am_cK _) 1 (pk_le 0 0 (fun _ => ?_) (fun c => by omega) (hx := hl))))
    refine am_run (am_cK _) 2 (am_obj_in W.o (am_run (am_cK _) 1 (⟨fun c => absurd hl c, fun _ => ?_⟩)))
    refine am_run (am_cK _) 2 (am_obj_in W.o (am_run (am_cK _) 2 (am_ld W.a162 0 (by omega) ?_)))
    rw [show A 162 (Int32.toNatClampNeg 0) = tv 0 from ht 0 (by omega)]
    refine am_run (am_cK _) 3 (am_obj_in W.o (am_run (am_cK _) 2 (am_ld W.a162 1 (by omega) ?_)))
    rw [show A 162 (Int32.toNatClampNeg 1) = tv 1 from ht 1 (by omega)]
    exact am_run (am_cK _) 4 (q)
  · have hsh := hC.2.resolve_left hne
    have hl0 : 0 < L.length := by
      cases L with
      | nil => exact absurd rfl hne
      | cons _ _ => simp
    suffices H : ∀ (cs : List Nat) (i : Nat) (st : List Int32) (s : Nat → Int32) (h' : am_H) (x : Option Value), (∀ j y, cs[j]? = some y → A 159 (i + j) = nI y) → i + cs.length = L.length → RM h0 h' F (va_up A 161 s) R → Ar s (fun v => v) st → st.length ≤ i → shp cs st.length = some 1 → rdV tv L = (match ev tv cs st with | some (v :: _) => v | _ => 0) → am_wp (am_call (d + 2)) (0, 0) cm_X11_ruled Q (fun _ => False) (4, [some (.ref 152), some (.int (nI st.length)), some (.int (nI i)), x], [], 0, 0) h' from
      H L.reverse 0 [] (A 161) h none (fun j y hy => by rw [Nat.zero_add]; exact Ar_rev hA hy) (by rw [List.length_reverse]; omega) (by rw [va_same rfl]; exact W) Ar_nil (Nat.le_refl _) hsh (if_neg hne)
    intro cs
    induction cs with
    | nil =>
      intro i st s h' x hg hi W' hA' hst hsp hpr
      have hl1 : st.length = 1 := by simpa [shp] using hsp
      match st, hl1, hA', hpr with
      | [v], _, hA', hpr =>
        have hpr' : rdV tv L = v := hpr
        have hi' : i = L.length := by simpa using hi
        refine am_run (am_cK _) 3 (am_obj_in W'.o (am_run (am_cK _) 1 (pk_le L.length i (fun _ => ?_) (fun c => by omega) (hx := hl))))
        refine am_run (am_cK _) 2 (am_obj_in W'.o (am_run (am_cK _) 1 (⟨fun c => ?_, fun c => ?_⟩)))
        · refine am_run (am_cK _) 2 (am_obj_in W'.o (am_run (am_cK _) 2 (am_ld W'.a161 0 (by omega) ?_)))
          rw [am_up_s, show s (Int32.toNatClampNeg 0) = v from Ar_top hA']
          rw [hpr'] at hQ
          exact am_run (am_cK _) 1 (hQ h' s W')
        · have z : F 16 = 0 := Classical.not_not.mp c
          rw [hl] at z
          have := (nI_eq (b := 0) (by omega) (by omega)).mp z
          omega
    | cons y cs ih =>
      intro i st s h' x hg hi W' hA' hst hsp hpr
      have hil : i + (cs.length + 1) = L.length := hi
      have hgi : A 159 i = nI y := hg 0 y rfl
      have hg' : ∀ j z, cs[j]? = some z → A 159 (i + 1 + j) = nI z := fun j z hz => by
        have := hg (j + 1) z hz
        rwa [show i + 1 + j = i + (j + 1) by omega]
      refine am_run (am_cK _) 3 (am_obj_in W'.o (am_run (am_cK _) 1 (pk_le L.length i (fun c => by omega) (fun _ => ?_) (hx := hl))))
      refine am_run (am_cK _) 2 (am_obj_in W'.o (am_run (am_cK _) 2 (am_ld W'.a159 i (by omega) ?_)))
      rw [nI_clamp (by omega), show va_up A 161 s 159 i = nI y from hgi]
      rw [shp] at hsp
      rw [ev_cons] at hpr
      by_cases c1 : y < 1007
      · have hsp' : shp cs (st.length + 1) = some 1 := by
          by_cases c : y < 1000
          · rw [if_pos c] at hsp; exact hsp
          · rw [if_neg c, if_pos c1] at hsp; exact hsp
        have push : ∀ (v : Int32) (h2 : am_H), RM h0 h2 F (va_up A 161 (upd s st.length v)) R → rdV tv L = (match ev tv cs (v :: st) with | some (v :: _) => v | _ => 0) → am_wp (am_call (d + 2)) (0, 0) cm_X11_ruled Q (fun _ => False) (116, [some (.ref 152), some (.int (nI st.length)), some (.int (nI i)), some (.int (nI y))], [], 0, 0) h2 := by
          intro v h2 W2 hp2
          have zz := ih (i + 1) (v :: st) (upd s st.length v) h2 (some (.int (nI y))) hg' (by omega) W2 (Ar_push hA' rfl) (by rw [List.length_cons]; omega) hsp' hp2
          rw [nI_succ, List.length_cons, nI_succ] at zz
          exact am_run (am_cK _) 3 (zz)
        refine am_run (am_cK _) 4 (⟨fun _ => ?_, fun c => absurd ((nI_eq (b := 3000) (by omega) (by omega)).mp (Classical.not_not.mp c)) (by omega)⟩)
        refine am_run (am_cK _) 3 (pk_lt y 2000 (fun _ => ?_) (fun c => by omega))
        refine am_run (am_cK _) 2 (am_obj_in W'.o (am_run (am_cK _) 4 (pk_lt y 1000 (fun c => ?_) (fun c => ?_))))
        · rw [if_pos c] at hpr
          refine am_run (am_cK _) 2 (am_stI (p := 161) W' (j := st.length) rfl (show st.length < 80 by omega) rfl (fun h2 W2 => ?_))
          rw [am_up_s, va_up2] at W2
          exact push _ h2 W2 hpr
        · rw [if_neg (by omega), if_pos (by omega)] at hpr
          have e1 : nI y - 1000 = nI (y - 1000) := pk_sub (a := y) (b := 1000) (by omega)
          refine am_run (am_cK _) 2 (am_obj_in W'.o (am_run (am_cK _) 4 (am_ld W'.a162 (y - 1000) (by omega) ?_ e1)))
          rw [e1, nI_clamp (by omega), show va_up A 161 s 162 (y - 1000) = tv (y - 1000) from ht _ (by omega)]
          refine am_run (am_cK _) 2 (am_stI (p := 161) W' (j := st.length) rfl (show st.length < 80 by omega) rfl (fun h2 W2 => ?_))
          rw [am_up_s, va_up2] at W2
          exact push _ h2 W2 hpr
      · rw [if_neg (by omega), if_neg c1] at hsp
        by_cases c3 : y < 2000
        · rw [if_pos c3] at hsp; cases hsp
        · rw [if_neg c3] at hsp
          rw [if_neg (by omega), if_neg c3] at hpr
          by_cases c4 : y < 2007
          · rw [if_pos c4] at hsp
            rw [if_pos (by omega)] at hpr
            by_cases h2l : 2 ≤ st.length
            · rw [if_pos h2l] at hsp
              match st, h2l, hA', hst, hsp, hpr with
              | v2 :: v1 :: r, _, hA', hst, hsp, hpr =>
                have hst' : r.length + 2 ≤ i := hst
                refine am_run (am_cK _) 4 (⟨fun _ => ?_, fun c => absurd ((nI_eq (b := 3000) (by omega) (by omega)).mp (Classical.not_not.mp c)) (by omega)⟩)
                refine am_run (am_cK _) 3 (pk_lt y 2000 (fun c => by omega) (fun _ => ?_))
                have q1 : nI (v2 :: v1 :: r).length + (-1) = nI (r.length + 1) := pk_m1 (r.length + 1)
                have q2 : nI (r.length + 1) - 1 = nI r.length := pk_sub (a := r.length + 1) (b := 1) (by omega)
                have q3 : nI y - 2000 = nI (y - 2000) := pk_sub (a := y) (b := 2000) (by omega)
                refine am_run (am_cK _) 3 (am_obj_in W'.o (am_run (am_cK _) 8 (am_obj_in W'.o (am_run (am_cK _) 4 (am_ld W'.a161 r.length (by omega) ?_ (by rw [q1, q2]))))))
                rw [q1, q2, nI_clamp (by omega), am_up_s, show s r.length = v1 from Ar_top (Ar_pop hA')]
                refine am_run (am_cK _) 2 (am_obj_in W'.o (am_run (am_cK _) 2 (am_ld W'.a161 (r.length + 1) (by omega) ?_)))
                rw [nI_clamp (by omega), am_up_s, show s (r.length + 1) = v2 from Ar_top hA']
                refine am_run (am_cK _) 1 (show am_call (d + 2) 219 [.int (nI y - 2000), .int v1, .int v2] h' _ from ?_)
                rw [q3]
                refine M_worked (by omega) v1 v2 ?_
                refine am_run (am_cK _) 1 (am_stI (p := 161) W' (j := r.length) rfl (show r.length < 80 by omega) rfl (fun h2 W2 => ?_))
                rw [am_up_s, va_up2] at W2
                have zz := ih (i + 1) (jnI (y - 2000) v1 v2 :: r) _ h2 (some (.int (nI y))) hg' (by omega) W2 (Ar_push (Ar_pop (Ar_pop hA')) rfl) (by rw [List.length_cons]; omega) hsp hpr
                rw [nI_succ, List.length_cons] at zz
                exact am_run (am_cK _) 3 (zz)
            · rw [if_neg h2l] at hsp; cases hsp
          · rw [if_neg c4] at hsp
            by_cases c5 : y = 3000
            · subst c5
              rw [if_pos rfl] at hsp
              rw [if_neg (by omega)] at hpr
              by_cases h1l : 1 ≤ st.length
              · rw [if_pos h1l] at hsp
                match st, h1l, hA', hst, hsp, hpr with
                | v :: r, _, hA', hst, hsp, hpr =>
                  have hst' : r.length + 1 ≤ i := hst
                  refine am_run (am_cK _) 4 (⟨fun c => absurd rfl c, fun _ => ?_⟩)
                  have q2 : nI (v :: r).length - 1 = nI r.length := pk_sub (a := r.length + 1) (b := 1) (by omega)
                  refine am_run (am_cK _) 2 (am_obj_in W'.o (am_run (am_cK _) 5 (am_obj_in W'.o (am_run (am_cK _) 4 (am_ld W'.a161 r.length (by omega) ?_ q2)))))
                  rw [q2, nI_clamp (by omega), am_up_s, show s r.length = v from Ar_top hA']
                  refine am_run (am_cK _) 2 (am_stI (p := 161) W' (j := r.length) rfl (show r.length < 80 by omega) rfl (fun h2 W2 => ?_))
                  rw [am_up_s, va_up2] at W2
                  have zz := ih (i + 1) (-v :: r) _ h2 (some (.int (nI 3000))) hg' (by omega) W2 (Ar_push (Ar_pop hA') rfl) (by rw [List.length_cons]; omega) hsp hpr
                  rw [nI_succ] at zz
                  exact am_run (am_cK _) 3 (zz)
              · rw [if_neg h1l] at hsp; cases hsp
            · rw [if_neg c5] at hsp; cases hsp
theorem M_priceOfLook (W : RM h0 h F A R) (hL : LK F A f n) {p : Nat} {σ : Sg} {L : List Nat} (hp : p = 154 ∨ p = 155) (hS : RSm (A p) σ) (hs : Sok σ) (hI : IL (F 16) (A 159) L) (but : Int32) (hQ : ∀ h' a s, RM h0 h' F (va_up (va_up A 162 a) 161 s) R → Q (some (.int (nI (prc L f n (alN f n σ but))))) h') : am_call (d + 5) 221 [.ref 152, .ref p, .int but] h Q := by
  obtain ⟨hl, hn0, hn, hg, hf⟩ := id hL
  have hp2 : p ≠ 162 := by omega
  refine en_X11_priceOfLook (Nat.le_of_ble_eq_true rfl) ?_
  refine am_run (am_cK _) 2 (am_obj_in W.o (am_run (am_cK _) 3 (am_obj_in W.o (am_run (am_cK _) 1 ?_))))
  rw [hl]
  refine am_stI (p := 162) W (j := 0) rfl (show 0 < 7 by omega) rfl (fun h1 W1 => ?_)
  refine am_run (am_cK _) 2 (am_obj_in W1.o (am_run (am_cK _) 3 (am_obj_in W1.o ((M_coloursOf W1 hL ?_)))))
  refine am_run (am_cK _) 1 (J_bitCount _ ?_)
  rw [bc_cbt]
  refine am_run (am_cK _) 1 (am_stI (p := 162) W1 (j := 1) rfl (show 1 < 7 by omega) rfl (fun h2 W2 => ?_))
  rw [am_up_s, va_up2] at W2
  refine am_run (am_cK _) 2 (am_obj_in W2.o (am_run (am_cK _) 3 (am_obj_in W2.o ((M_period W2 hL ?_)))))
  refine am_run (am_cK _) 1 (am_stI (p := 162) W2 (j := 2) rfl (show 2 < 7 by omega) rfl (fun h3 W3 => ?_))
  rw [am_up_s, va_up2] at W3
  refine am_run (am_cK _) 2 (am_obj_in W3.o (am_run (am_cK _) 3 (am_obj_in W3.o ((M_mirrors W3 hL ?_)))))
  refine am_run (am_cK _) 1 (am_stI (p := 162) W3 (j := 3) rfl (show 3 < 7 by omega) rfl (fun h4 W4 => ?_))
  rw [am_up_s, va_up2] at W4
  refine am_run (am_cK _) 2 (am_obj_in W4.o (am_run (am_cK _) 3 (am_obj_in W4.o ((M_mostOfOne W4 hL ?_)))))
  refine am_run (am_cK _) 1 (am_stI (p := 162) W4 (j := 4) rfl (show 4 < 7 by omega) rfl (fun h5 W5 => ?_))
  rw [am_up_s, va_up2] at W5
  refine am_run (am_cK _) 2 (am_obj_in W5.o (am_run (am_cK _) 3 (am_stI (p := 162) W5 (j := 5) rfl (show 5 < 7 by omega) rfl (fun h6 W6 => ?_))))
  rw [am_up_s, va_up2] at W6
  refine am_run (am_cK _) 2 ?_
  refine am_lp (α := Nat → Int32) (fun q _ => (62, [some (.ref 152), some (.ref p), some (.int but), some (.int (nI q))], [], 0, 0)) (fun q a h' => RM h0 h' F (va_up A 162 a) R ∧ a 0 = nI n ∧ a 1 = nI (nCl f n) ∧ a 2 = nI (per f n) ∧ a 3 = nI (mir f n) ∧ a 4 = nI (mst f n) ∧ a 5 = nI (cnt (fun i => f i != rol f n 1 i) q)) n (fun q a h7 hq P K => ?_) (fun a h7 P => ?_) 0 _ h6 (Nat.zero_le _) ⟨W6, rfl, rfl, rfl, rfl, rfl, rfl⟩
  · obtain ⟨W7, a0, a1, a2, a3, a4, a5⟩ := P
    have hm : (q + 1) % n < n := Nat.mod_lt _ hn0
    refine am_run (am_cK _) 3 (am_obj_in W7.o (am_run (am_cK _) 1 (pk_le n q (fun c => by omega) (fun _ => ?_) (hx := hl))))
    refine am_run (am_cK _) 2 (am_obj_in W7.o (am_run (am_cK _) 3 (am_ld W7.a162 5 (by omega) ?_)))
    rw [am_up_s, show a (Int32.toNatClampNeg 5) = _ from a5]
    refine am_run (am_cK _) 2 (am_obj_in W7.o (am_run (am_cK _) 2 (am_ld W7.a158 q (by omega) ?_)))
    rw [nI_clamp (by omega), show va_up A 162 a 158 q = nI (f q) from hg q hq]
    refine am_run (am_cK _) 2 (am_obj_in W7.o (am_run (am_cK _) 5 (am_obj_in W7.o (am_run (am_cK _) 1 ?_))))
    rw [hl, nI_1]
    refine ⟨nI_ne0 hn0 (by omega), ?_⟩
    rw [show nI (q + 1) - nI (q + 1) / nI n * nI n = nI ((q + 1) % n) from pk_rem (by omega) hn0 (by omega)]
    refine am_run (am_cK _) 1 (am_ld W7.a158 ((q + 1) % n) (by omega) ?_)
    rw [nI_clamp (by omega), show va_up A 162 a 158 ((q + 1) % n) = nI (f ((q + 1) % n)) from hg _ hm]
    have f1 := hf q hq
    have f2 := hf _ hm
    have er : rol f n 1 q = f ((q + 1) % n) := rfl
    refine am_run (am_cK _) 1 (⟨fun c => ?_, fun c => ?_⟩)
    · have ec : f q = f ((q + 1) % n) := (nI_eq (by omega) (by omega)).mp c
      refine am_run (am_cK _) 2 (M_flag0 (am_run (am_cK _) 2 (am_stI (p := 162) W7 (j := 5) rfl (show 5 < 7 by omega) rfl (fun h8 W8 => ?_))))
      rw [am_up_s, va_up2] at W8
      have K2 := K _ h8 ⟨W8, a0, a1, a2, a3, a4, by rw [upd_s, cnt, if_neg (by rw [er, ← ec]; simp), ← nI_add]; rfl⟩
      rw [nI_succ] at K2
      exact am_run (am_cK _) 2 (K2)
    · have ec : ¬ f q = f ((q + 1) % n) := fun z => c (congrArg nI z)
      refine am_run (am_cK _) 3 (M_flag1 (am_run (am_cK _) 2 (am_stI (p := 162) W7 (j := 5) rfl (show 5 < 7 by omega) rfl (fun h8 W8 => ?_))))
      rw [am_up_s, va_up2] at W8
      have K2 := K _ h8 ⟨W8, a0, a1, a2, a3, a4, by rw [upd_s, cnt, if_pos (by rw [er, bne_iff_ne]; exact ec), ← nI_add]; rfl⟩
      rw [nI_succ] at K2
      exact am_run (am_cK _) 2 (K2)
  · obtain ⟨W7, a0, a1, a2, a3, a4, a5⟩ := P
    have w := W7.ap hp
    rw [am_up_n hp2] at w
    refine am_run (am_cK _) 3 (am_obj_in W7.o (am_run (am_cK _) 1 (pk_le n n (fun _ => ?_) (fun c => by omega) (hx := hl))))
    refine am_run (am_cK _) 2 (am_obj_in W7.o (am_run (am_cK _) 5 (am_obj_in W7.o ((M_alikeMany W7 hL w hS hs but ?_)))))
    refine am_run (am_cK _) 1 (am_stI (p := 162) W7 (j := 6) rfl (show 6 < 7 by omega) rfl (fun h8 W8 => ?_))
    rw [am_up_s, va_up2] at W8
    refine am_run (am_cK _) 4 (am_obj_in W8.o ((M_ruled W8 (tv := fun i => nI (trV f n (alN f n σ but) i)) hI (fun i hi => ?_) (fun h9 s W9 => ?_))))
    · rw [am_up_s]
      match i, hi with
      | 0, _ => exact a0
      | 1, _ => exact a1
      | 2, _ => exact a2
      | 3, _ => exact a3
      | 4, _ => exact a4
      | 5, _ => exact a5
      | 6, _ => rfl
    · refine am_run (am_cK _) 1 (J_minI 99 _ (am_run (am_cK _) 1 (J_maxI 0 _ ?_)))
      have q := hQ h9 _ _ W9
      rw [← prc_rdV (by omega), ← clp_eq (by omega)] at q
      exact am_run (am_cK _) 1 (q)
end
