/-! THE MODEL: rule, law -/
def KR (F F' : Nat → Int32) : Prop := F' 6 = 0 ∧ ∀ i, i ≠ 6 → i ≠ 7 → i ≠ 8 → i ≠ 9 → i ≠ 17 → F' i = F i
section
variable {h0 h : am_H} {Q : Option Value → am_H → Prop} {F F' : Nat → Int32} {A A' : Nat → Nat → Int32} {R : Nat → Int64} {tx : Nat → Nat} {t d : Nat} {M : Ms}
theorem CT_up {D D' m : Nat} (hD : D ≤ D') (I : CT h0 F A R tx t D m) : CT h0 F A R tx t D' m := fun h F' A' a L W dep cmp Q x1 x2 x3 x4 x5 x6 => am_call_mono D D' hD _ _ _ _ _ (fun _ _ z => z) (I h F' A' a L W dep cmp Q x1 x2 x3 x4 x5 x6)
theorem M_reads (ht : F 8 = nI t) (ht80 : t ≤ 40) (hx : TX A tx t) : ∀ m, CT h0 F A R tx t (d + 5 * m + 12) m ∧ C0 h0 F A R tx t (d + 5 * m + 16) m := by
  have up : ∀ D m, CT h0 F A R tx t (D + 12) m → C0 h0 F A R tx t (D + 16) m := fun D m I => M_rank0 ht ht80 hx (M_rank1 ht ht80 hx (M_rank2 ht ht80 hx (M_rank3 I)))
  intro m
  induction m with
  | zero =>
    have I := M_thing (d := d + 5 * 0) (m := 0) (h0 := h0) (R := R) ht ht80 hx (fun w => absurd rfl w) (fun w => absurd rfl w)
    exact ⟨I, up _ _ I⟩
  | succ m ih =>
    have I := M_thing (d := d + 5 * (m + 1)) (m := m + 1) (h0 := h0) (R := R) ht ht80 hx (fun _ => CT_up (by omega) ih.1) (fun _ => by
      rw [show d + 5 * (m + 1) + 11 = d + 5 * m + 16 by omega]
      exact ih.2)
    exact ⟨I, up _ _ I⟩
theorem Fl_rdF {n a : Nat} (hn : 0 < n) (h : Fl tx (Nat.min n 40) a) : ∃ f, f ≤ 40 ∧ rdF tx n = some f ∧ fOf n 40 a (Nat.min n 40) false = -1 - nI f := by
  have m1 : Nat.min n 40 ≤ 40 := Nat.min_le_right _ _
  have m2 : Nat.min n 40 ≤ n := Nat.min_le_left _ _
  unfold rdF rdE fOf
  rcases h with ⟨h1, h2⟩ | ⟨h1, s, h2, h3⟩
  · rw [h2]
    refine ⟨a, by omega, rfl, ?_⟩
    rw [if_neg (by rintro ⟨_, z | z⟩; exact absurd z.1 Bool.false_ne_true; omega), if_neg (fun z => absurd z.1 Bool.false_ne_true)]
  · rw [h2]
    by_cases c : 40 < n
    · have m3 : Nat.min n 40 = 40 := Nat.min_eq_right (by omega)
      refine ⟨40, by omega, if_pos c, ?_⟩
      rw [if_pos ⟨c, Or.inr (by omega)⟩]
    · have m3 : Nat.min n 40 = n := Nat.min_eq_left (by omega)
      refine ⟨n, by omega, (if_neg c).trans (if_pos ⟨hn, h3⟩), ?_⟩
      rw [if_neg (fun z => c z.1), if_neg (fun z => absurd z.1 Bool.false_ne_true), h1, m3]
theorem S0_rdF {n a : Nat} {L2 : List Nat} (h : S0 tx (Nat.min n 40) a L2 [] 0 0) : (∃ f, f ≤ 40 ∧ rdF tx n = some f ∧ fOf n 40 a (Nat.min n 40) true = -1 - nI f) ∨ (rdF tx n = none ∧ fOf n 40 a (Nat.min n 40) true = 0 ∧ rdC tx n = L2) := by
  have m1 : Nat.min n 40 ≤ 40 := Nat.min_le_right _ _
  have m2 : Nat.min n 40 ≤ n := Nat.min_le_left _ _
  obtain ⟨h0, L1, W1, dig1, cmp1, h1, h2, h3, h4⟩ := h
  by_cases c : a < Nat.min n 40
  · have hk : tk (L1, W1, 0, dig1, cmp1, false) (tx a) = none := by
      by_cases e : tx a = 41
      · rw [e]; rfl
      · exact h4 c e
    have hf := Rc_f h1 c hk
    rcases hf with ⟨f1, f2⟩ | ⟨f1, _⟩
    · refine Or.inl ⟨a, by omega, ?_, ?_⟩
      · unfold rdF rdE
        rw [f2]
      · unfold fOf
        rw [if_neg (by rintro ⟨_, z | z⟩ <;> omega), if_neg (fun z => by omega)]
    · omega
  · have ea : a = Nat.min n 40 := by omega
    have he : rdL tx (Nat.min n 40) 0 ru0 = (Nat.min n 40, some (L1, W1, 0, dig1, cmp1, false)) := by
      rw [← ea]
      exact Rc_e h1
    by_cases c4 : 40 < n
    · refine Or.inl ⟨40, by omega, ?_, ?_⟩
      · unfold rdF rdE
        rw [he]
        exact if_pos c4
      · unfold fOf
        rw [if_pos ⟨c4, Or.inl ⟨rfl, ea⟩⟩]
    · refine Or.inr ⟨?_, ?_, ?_⟩
      · unfold rdF rdE
        rw [he]
        refine (if_neg c4).trans (if_neg ?_)
        rintro ⟨_, z | z⟩
        · exact absurd z Bool.false_ne_true
        · exact absurd z (Nat.lt_irrefl 0)
      · unfold fOf
        rw [if_neg (fun z => c4 z.1), if_pos ⟨rfl, ea⟩]
      · unfold rdC rdE
        rw [he]
        show (stl 1 L1 W1).1 = L2
        rw [h2]
theorem M_readsRule {n : Nat} (W : RM h0 h F A R) (hn : F 6 = nI n) (hn80 : n ≤ 80) (hx : TX A tx n) (h1 : ∀ f, rdF tx n = some f → f ≤ 40 → ∀ h' F' A', RM h0 h' F' A' R → KR F F' → KAr A A' → Q (some (.int (-1 - nI f))) h') (h2 : rdF tx n = none → ∀ h' F' A', RM h0 h' F' A' R → KR F F' → KAr A A' → F' 17 = nI (rdC tx n).length → Ar (A' 160) nI (rdC tx n) → Q (some (.int 0)) h') : am_call (d + 220) 216 [.ref 152] h Q := by
  have m1 : Nat.min n 40 ≤ 40 := Nat.min_le_right _ _
  have m2 : Nat.min n 40 ≤ n := Nat.min_le_left _ _
  refine en_X11_readsRule (Nat.le_of_ble_eq_true rfl) ?_
  refine am_run (am_cK _) 3 (am_obj_in W.o ((M_begins W hn hn80 (m := 40) (by omega) (fun g1 W1 => ?_))))
  generalize et : Nat.min n 40 = t at m1 m2 W1
  have hxt : TX A tx t := fun i hi => hx i (by omega)
  refine am_run (am_cK _) 1 (show am_wp (am_call (d + 219)) (0, 0) cm_X11_readsRule Q (fun _ => False) (7, [some (.ref 152), some (.int (nI n)), none], [], 0, 0) g1 from ?_)
  refine am_run (am_cK _) 3 (am_putI W1 rfl (by decide) (fun g2 W2 => ?_))
  have kb : KR F (upd (bgF F t) 17 0) := ⟨rfl, fun i i1 i2 i3 i4 i5 => (upd_n i5).trans ((upd_n i3).trans ((upd_n i4).trans ((upd_n i2).trans (upd_n i1))))⟩
  have fin : ∀ (is : Bool) (a : Nat) (g : am_H) (F3 : Nat → Int32) (A3 : Nat → Nat → Int32), RM h0 g F3 A3 R → F3 7 = nI a → F3 8 = nI t → a ≤ 80 → Q (some (.int (fOf n 40 a t is))) g → am_wp (am_call (d + 219)) (0, 0) cm_X11_readsRule Q (fun _ => False) (30, [some (.ref 152), some (.int (nI n)), some (.int (bI is))], [], 0, 0) g := by
    intro is a g F3 A3 W3 e7 e8 ha q
    exact am_run (am_cK _) 5 (am_obj_in W3.o ((M_faultOf W3 e7 e8 (by omega) ha hn80 (m := 40) (by omega) is (am_run (am_cK _) 1 (q)))))
  have key : ∀ (a : Nat) (g : am_H) (F3 : Nat → Int32) (A3 : Nat → Nat → Int32), RM h0 g F3 A3 R → KFr (upd (bgF F t) 17 0) F3 → KR F F3 := fun a g F3 A3 _ kf => ⟨(kf 6 (by decide) (by decide) (by decide)).trans rfl, fun i i1 i2 i3 i4 i5 => (kf i i2 i4 i5).trans (kb.2 i i1 i2 i3 i4 i5)⟩
  by_cases c0 : n = 0
  · subst c0
    have t0 : t = 0 := by omega
    have e1 : rdF tx 0 = none := rfl
    refine am_run (am_cK _) 2 (⟨fun _ => ?_, fun z => absurd rfl z⟩)
    refine am_run (am_cK _) 3 (show am_wp (am_call (d + 219)) (0, 0) cm_X11_readsRule Q (fun _ => False) (30, [some (.ref 152), some (.int (nI 0)), some (.int (bI true))], [], 0, 0) g2 from ?_)
    refine fin true 0 g2 _ A W2 rfl rfl (by omega) ?_
    have q := h2 e1 g2 _ A W2 kb (fun _ _ => rfl) rfl Ar_nil
    have e2 : fOf 0 40 0 t true = 0 := by rw [t0]; rfl
    rw [e2]
    exact q
  · refine am_run (am_cK _) 2 (⟨fun z => absurd ((nI_eq (b := 0) (by omega) (by omega)).mp z) c0, fun _ => ?_⟩)
    have hr := (M_reads (d := d + 3) (h0 := h0) (F := upd (bgF F t) 17 0) (A := A) (R := R) (tx := tx) (t := t) rfl m1 hxt 40).2
    refine am_run (am_cK _) 3 (am_obj_in W2.o ((hr g2 _ A 0 [] [] 0 0 _ (by omega) (by omega) ⟨W2, fun _ _ _ _ => rfl, fun _ _ => rfl, rfl, rfl, rfl, Ar_nil⟩ Rc_0 (fun w W' ew => by cases ew) (by decide) (fun g3 F3 A3 a3 L3 _ X3 hS => ?_) (fun g3 F3 A3 a3 _ X3 => ?_))))
    · obtain ⟨W3, y1, y2, y3, y4, y5, y6⟩ := X3
      have hs0 := hS.1
      have kk := key a3 g3 F3 A3 W3 y1
      refine am_run (am_cK _) 1 (⟨fun z => absurd z n10, fun _ => ?_⟩)
      refine am_run (am_cK _) 3 (show am_wp (am_call (d + 219)) (0, 0) cm_X11_readsRule Q (fun _ => False) (30, [some (.ref 152), some (.int (nI n)), some (.int (bI true))], [], 0, 0) g3 from ?_)
      refine fin true a3 g3 F3 A3 W3 y3 ((y1 8 (by decide) (by decide) (by decide)).trans rfl) (by omega) ?_
      rw [← et] at hS
      rcases S0_rdF hS with ⟨f, f1, f2, f3⟩ | ⟨f1, f2, f3⟩
      · rw [← et, f3]
        exact h1 f f2 f1 g3 F3 A3 W3 kk y2
      · rw [← et, f2]
        exact h2 f1 g3 F3 A3 W3 kk y2 (by rw [f3]; exact y5) (by rw [f3]; exact y6)
    · obtain ⟨W3, y1, y2, y3, _, y5, y6⟩ := X3
      have kk := key a3 g3 F3 A3 W3 y1
      refine am_run (am_cK _) 1 (⟨fun _ => ?_, fun z => absurd rfl z⟩)
      refine am_run (am_cK _) 2 (show am_wp (am_call (d + 219)) (0, 0) cm_X11_readsRule Q (fun _ => False) (30, [some (.ref 152), some (.int (nI n)), some (.int (bI false))], [], 0, 0) g3 from ?_)
      refine fin false a3 g3 F3 A3 W3 y3 ((y1 8 (by decide) (by decide) (by decide)).trans rfl) (by omega) ?_
      rw [← et] at y5
      obtain ⟨f, f1, f2, f3⟩ := Fl_rdF (by omega) y5
      rw [← et, f3]
      exact h1 f f2 f1 g3 F3 A3 W3 kk y2
theorem Ar_congr {g g' : Nat → Int32} {L : List Nat} (h : Ar g nI L) (he : ∀ i, i < L.length → g' i = g i) : Ar g' nI L := fun j x hx => by
  have hj := (List.getElem?_eq_some_iff.mp hx).1
  rw [he _ (by omega)]
  exact h j x hx
theorem M_laysCode {p len : Nat} (W : RM h0 h F A R) (hp : p = 160 ∨ p = 178) (hl : len ≤ 80) (hQ : ∀ h' g, RM h0 h' (upd F 16 (nI len)) (va_up A 159 g) R → (∀ i, i < len → g i = A p i) → Q none h') : am_call (d + 1) 217 [.ref 152, .ref p, .int (nI len)] h Q := by
  have hAp : ∀ {h : am_H} {F : Nat → Int32} {g : Nat → Int32}, RM h0 h F (va_up A 159 g) R → h.2 p = aI 80 (A p) := fun W => by
    rcases hp with rfl | rfl
    · have := W.a160
      rw [am_up_n (by decide)] at this
      exact this
    · have := W.a178
      rw [am_up_n (by decide)] at this
      exact this
  refine en_X11_laysCode (Nat.le_of_ble_eq_true rfl) ?_
  refine am_run (am_cK _) 3 (am_putI W rfl (by decide) (fun h1 W1 => ?_))
  refine am_run (am_cK _) 2 ?_
  refine am_lp (α := Nat → Int32) (fun q _ => (7, [some (.ref 152), some (.ref p), some (.int (nI len)), some (.int (nI q))], [], 0, 0)) (fun q g h' => RM h0 h' (upd F 16 (nI len)) (va_up A 159 g) R ∧ ∀ i, i < q → g i = A p i) len (fun q g h2 hq P K => ?_) (fun g h2 P => ?_) 0 (A 159) h1 (Nat.zero_le _) ⟨by rw [va_same rfl]; exact W1, fun i hi => by omega⟩
  · obtain ⟨W2, P1⟩ := P
    refine am_run (am_cK _) 3 (pk_le len q (fun c => by omega) (fun _ => ?_))
    refine am_run (am_cK _) 2 (am_obj_in W2.o (am_run (am_cK _) 4 (am_ld (hAp W2) q (by omega) ?_)))
    rw [nI_clamp (by omega)]
    refine am_run (am_cK _) 1 (am_stI (p := 159) W2 (j := q) rfl (show q < 80 by omega) rfl (fun h3 W3 => ?_))
    rw [am_up_s, va_up2] at W3
    have K2 := K _ h3 ⟨W3, fun i hi => (by
      by_cases e : i = q
      · subst e; exact upd_s
      · exact (upd_n e).trans (P1 i (by omega)))⟩
    rw [nI_succ] at K2
    exact am_run (am_cK _) 2 (K2)
  · obtain ⟨W2, P1⟩ := P
    exact am_run (am_cK _) 3 (pk_le len len (fun _ => am_run (am_cK _) 1 (hQ h2 g W2 P1)) (fun c => by omega))
theorem neg41 : ∀ f, f < 41 → ¬ (-1 - nI f = 0) ∧ ¬ (0 ≤ -1 - nI f) ∧ -1 - nI f + 1 - 10000 = -10000 - nI f := by decide +kernel
theorem Iv_t0 (v : Iv F A R M) (kF : KR F F') (kA : KAr A A') {L : List Nat} (hL : IL (F' 16) (A' 159) L) : Iv F' A' R (pL (pT M (0, (mT M).2)) L) := by
  refine ⟨?_, ?_, ?_, ⟨kF.1, Nat.zero_le _, fun i hi => absurd hi (Nat.not_lt_zero i)⟩, ?_, ?_, ?_, hL⟩
  · rw [kA 154 (by decide)]; exact v.s
  · rw [kA 163 (by decide), kF.2 20 (by decide) (by decide) (by decide) (by decide) (by decide)]; exact v.u
  · rw [kA 179 (by decide), kA 180 (by decide)]; exact v.k
  · rw [kF.2 1 (by decide) (by decide) (by decide) (by decide) (by decide)]; exact v.d
  · rw [kA 172 (by decide), kA 173 (by decide), kF.2 33 (by decide) (by decide) (by decide) (by decide) (by decide)]; exact v.f
  · rw [kA 174 (by decide), kA 175 (by decide), kF.2 36 (by decide) (by decide) (by decide) (by decide) (by decide)]; exact v.hr
theorem Z_rule (hY : RY h M) (hQ : ∀ h', Fy h h' → RY h' (oRule M).2 → Q (some (.int (oRule M).1)) h') : am_call (d + 230) 218 [.ref 152] h Q := by
  obtain ⟨F, A, R, W, iv⟩ := hY
  have ht := iv.t
  have htx : ∀ i, i < (mT M).1 → (mT M).2 i < 256 := fun i hi => (ht.2.2 i hi).2
  unfold oRule at hQ
  refine en_X11_rule (Nat.le_of_ble_eq_true rfl) ?_
  refine am_run (am_cK _) 3 (am_putI W rfl (by decide) (fun h1 W1 => ?_))
  refine am_run (am_cK _) 2 (am_obj_in W1.o ((M_readsRule (tx := (mT M).2) (n := (mT M).1) W1 ht.1 ht.2.1 ht.2.2 (fun f ef hf h2 F2 A2 W2 kF kA => ?_) (fun ef h2 F2 A2 W2 kF kA e17 hA => ?_))))
  · rw [ef] at hQ
    have hL2 : IL (F2 16) (A2 159) (mL M) := by
      rw [kA 159 (by decide), kF.2 16 (by decide) (by decide) (by decide) (by decide) (by decide)]
      exact iv.l
    refine am_run (am_cK _) 1 (show am_wp (am_call (d + 229)) (0, 0) cm_X11_rule Q (fun _ => False) (10, [some (.ref 152), some (.int (-1 - nI f))], [], 0, 0) h2 from ?_)
    exact am_run (am_cK _) 2 (⟨fun _ => am_run (am_cK _) 2 (hQ h2 W2.y ⟨_, _, _, W2.re, Iv_t0 (F := upd F 0 0) (M := M) iv kF kA hL2⟩), fun z => absurd (neg41 f (by omega)).1 z⟩)
  · rw [ef] at hQ
    have hok := rdC_ok htx ef
    refine am_run (am_cK _) 1 (show am_wp (am_call (d + 229)) (0, 0) cm_X11_rule Q (fun _ => False) (10, [some (.ref 152), some (.int 0)], [], 0, 0) h2 from ?_)
    refine am_run (am_cK _) 2 (⟨fun z => absurd rfl z, fun _ => ?_⟩)
    refine am_run (am_cK _) 3 (am_obj_in W2.o (am_run (am_cK _) 2 (am_obj_in W2.o (am_run (am_cK _) 1 (am_obj_in W2.o (?_))))))
    rw [e17]
    refine M_laysCode W2 (Or.inl rfl) (by have := hok.1; omega) (fun h3 g W3 hg => ?_)
    refine am_run (am_cK _) 2 (hQ h3 W3.y ⟨_, _, _, W3.re, ?_⟩)
    have hL3 : IL (nI (rdC (mT M).2 (mT M).1).length) g (rdC (mT M).2 (mT M).1) := ⟨rfl, Ar_congr hA hg, hok⟩
    have iv2 := Iv_t0 (F := upd F 0 0) (F' := F2) (A' := A2) (L := mL M) (M := M) iv kF kA (by
      rw [kA 159 (by decide), kF.2 16 (by decide) (by decide) (by decide) (by decide) (by decide)]
      exact iv.l)
    exact ⟨iv2.s, iv2.u, iv2.k, iv2.t, iv2.d, iv2.f, iv2.hr, hL3⟩
theorem Z_law (hY : RY h M) (hQ : ∀ h', Fy h h' → RY h' (oLaw M).2 → Q (some (.int (oLaw M).1)) h') : am_call (d + 230) 310 [.ref 152] h Q := by
  obtain ⟨F, A, R, W, iv⟩ := hY
  have ht := iv.t
  have hs := iv.s.2
  have htx : ∀ i, i < (mT M).1 → (mT M).2 i < 256 := fun i hi => (ht.2.2 i hi).2
  unfold oLaw at hQ
  refine en_X11_law (Nat.le_of_ble_eq_true rfl) ?_
  refine am_run (am_cK _) 3 (am_putI W rfl (by decide) (fun h1 W1 => ?_))
  refine am_run (am_cK _) 2 (am_obj_in W1.o ((M_readsRule (tx := (mT M).2) (n := (mT M).1) W1 ht.1 ht.2.1 ht.2.2 (fun f ef hf h2 F2 A2 W2 kF kA => ?_) (fun ef h2 F2 A2 W2 kF kA e17 hA => ?_))))
  · rw [ef] at hQ
    have hL2 : IL (F2 16) (A2 159) (mL M) := by
      rw [kA 159 (by decide), kF.2 16 (by decide) (by decide) (by decide) (by decide) (by decide)]
      exact iv.l
    refine am_run (am_cK _) 1 (show am_wp (am_call (d + 229)) (0, 0) cm_X11_law Q (fun _ => False) (10, [some (.ref 152), some (.int (-1 - nI f)), none, none, none], [], 0, 0) h2 from ?_)
    have n3 := neg41 f (by omega)
    refine am_run (am_cK _) 2 (⟨fun z => absurd z n3.2.1, fun _ => ?_⟩)
    have q : Q (some (.int (-10000 - nI f))) h2 := hQ h2 W2.y ⟨_, _, _, W2.re, Iv_t0 (F := upd F 0 0) (M := M) iv kF kA hL2⟩
    rw [← n3.2.2] at q
    exact am_run (am_cK _) 6 (q)
  rw [ef] at hQ
  have hok := rdC_ok htx ef
  have hokM := iv.l.2.2
  have iv2 := Iv_t0 (F := upd F 0 0) (F' := F2) (A' := A2) (L := mL M) (M := M) iv kF kA (by
    rw [kA 159 (by decide), kF.2 16 (by decide) (by decide) (by decide) (by decide) (by decide)]
    exact iv.l)
  generalize eC : rdC (mT M).2 (mT M).1 = C at hQ e17 hA hok
  have hl1 := hok.1
  have hl2 := hokM.1
  refine am_run (am_cK _) 1 (show am_wp (am_call (d + 229)) (0, 0) cm_X11_law Q (fun _ => False) (10, [some (.ref 152), some (.int 0), none, none, none], [], 0, 0) h2 from ?_)
  refine am_run (am_cK _) 2 (⟨fun _ => ?_, fun z => absurd (show (0 : Int32) ≤ 0 by decide) z⟩)
  refine am_run (am_cK _) 2 (am_obj_in W2.o ((M_prices W2 iv2.s.1 hs iv2.l (fun h3 F3 A3 W3 f3 a3 => ?_))))
  refine am_run (am_cK _) 1 (show am_wp (am_call (d + 229)) (0, 0) cm_X11_law Q (fun _ => False) (27, [some (.ref 152), some (.int 0), some (.int (nI (sPrs (mL M) (mS M)))), none, none], [], 0, 0) h3 from ?_)
  have e16 : F3 16 = nI (mL M).length := (f3 16 (by decide)).trans iv2.l.1
  have e159 : A3 159 = A2 159 := a3 159 (by decide) (by decide) (by decide) (by decide)
  have e160 : A3 160 = A2 160 := a3 160 (by decide) (by decide) (by decide) (by decide)
  refine am_run (am_cK _) 2 (am_obj_in W3.o (am_run (am_cK _) 3 ?_))
  rw [e16]
  refine am_lp (α := Nat → Int32) (fun q _ => (35, [some (.ref 152), some (.int 0), some (.int (nI (sPrs (mL M) (mS M)))), some (.int (nI (mL M).length)), some (.int (nI q))], [], 0, 0)) (fun q g h' => RM h h' F3 (va_up A3 178 g) R ∧ ∀ i, i < q → g i = A3 159 i) (mL M).length (fun q g h4 hq P K => ?_) (fun g h4 P => ?_) 0 (A3 178) h3 (Nat.zero_le _) ⟨by rw [va_same rfl]; exact W3, fun i hi => by omega⟩
  · obtain ⟨W4, P1⟩ := P
    refine am_run (am_cK _) 3 (am_obj_in W4.o (am_run (am_cK _) 1 (pk_le (mL M).length q (fun c => by omega) (fun _ => ?_) (hx := e16))))
    have w := W4.a159
    rw [am_up_n (by decide)] at w
    refine am_run (am_cK _) 2 (am_obj_in W4.o (am_run (am_cK _) 3 (am_obj_in W4.o (am_run (am_cK _) 2 (am_ld w q (by omega) ?_)))))
    rw [nI_clamp (by omega)]
    refine am_run (am_cK _) 1 (am_stI (p := 178) W4 (j := q) rfl (show q < 80 by omega) rfl (fun h5 W5 => ?_))
    rw [am_up_s, va_up2] at W5
    have K2 := K _ h5 ⟨W5, fun i hi => (by
      by_cases e : i = q
      · subst e; exact upd_s
      · exact (upd_n e).trans (P1 i (by omega)))⟩
    rw [nI_succ] at K2
    exact am_run (am_cK _) 2 (K2)
  obtain ⟨W4, P1⟩ := P
  refine am_run (am_cK _) 3 (am_obj_in W4.o (am_run (am_cK _) 1 (pk_le (mL M).length (mL M).length (fun _ => ?_) (fun c => by omega) (hx := e16))))
  refine am_run (am_cK _) 3 (am_obj_in W4.o (am_run (am_cK _) 2 (am_obj_in W4.o (am_run (am_cK _) 1 (am_obj_in W4.o (?_))))))
  rw [show F3 17 = nI C.length from (f3 17 (by decide)).trans e17]
  refine M_laysCode W4 (Or.inl rfl) (by omega) (fun h5 g5 W5 hg5 => ?_)
  have e154 : A3 154 = A2 154 := a3 154 (by decide) (by decide) (by decide) (by decide)
  have hS5 : RSm (va_up (va_up A3 178 g) 159 g5 154) (mS M) := by
    rw [show va_up (va_up A3 178 g) 159 g5 154 = A3 154 from rfl, e154]
    exact iv2.s.1
  have hI5 : IL (upd F3 16 (nI C.length) 16) (va_up (va_up A3 178 g) 159 g5 159) C := ⟨rfl, by
    rw [am_up_s]
    refine Ar_congr hA (fun i hi => (hg5 i hi).trans ?_)
    rw [show va_up A3 178 g 160 = A3 160 from rfl, e160], hok⟩
  refine am_run (am_cK _) 2 (am_obj_in W5.o ((M_prices W5 hS5 hs hI5 (fun h6 F6 A6 W6 f6 a6 => ?_))))
  refine am_run (am_cK _) 1 (show am_wp (am_call (d + 229)) (0, 0) cm_X11_law Q (fun _ => False) (82, [some (.ref 152), some (.int 0), some (.int (nI (sPrs (mL M) (mS M)))), some (.int (nI (mL M).length)), some (.int (nI (sPrs C (mS M))))], [], 0, 0) h6 from ?_)
  refine am_run (am_cK _) 3 (am_obj_in W6.o (am_run (am_cK _) 2 (am_obj_in W6.o ((M_laysCode W6 (Or.inr rfl) (by omega) (fun h7 g7 W7 hg7 => ?_))))))
  refine am_run (am_cK _) 3 (am_putI W7 rfl (by decide) (fun h8 W8 => ?_))
  refine am_run (am_cK _) 4 (am_obj_in W8.o ((M_enters W8 (m := 0) rfl (by omega) _ (fun h9 W9 => ?_))))
  refine am_run (am_cK _) 4 (am_obj_in W9.o ((M_enters W9 (m := 1) rfl (by omega) _ (fun h10 W10 => ?_))))
  refine am_run (am_cK _) 4 (hQ h10 W10.y ⟨_, _, _, W10.re, ?_⟩)
  have gA : ∀ k, k ≠ 158 → k ≠ 161 → k ≠ 162 → k ≠ 164 → k ≠ 178 → k ≠ 159 → A6 k = A2 k := fun k k1 k2 k3 k4 k5 k6 => (a6 k k1 k2 k3 k4).trans ((am_up_n k6).trans ((am_up_n k5).trans (a3 k k1 k2 k3 k4)))
  have gF : ∀ i, i ≠ 13 → i ≠ 16 → F6 i = F2 i := fun i i1 i2 => (f6 i i1).trans ((upd_n i2).trans (f3 i i1))
  refine ⟨?_, ?_, ?_, ?_, ⟨rfl, show 2 ≤ 16 by decide, fun i hi => ?_⟩, ?_, ?_, ⟨rfl, ?_, hokM⟩⟩
  · rw [show va_up A6 159 g7 154 = A6 154 from rfl, gA 154 (by decide) (by decide) (by decide) (by decide) (by decide) (by decide)]; exact iv2.s
  · rw [show va_up A6 159 g7 163 = A6 163 from rfl, gA 163 (by decide) (by decide) (by decide) (by decide) (by decide) (by decide)]
    show IU (F6 20) _ _
    rw [gF 20 (by decide) (by decide)]; exact iv2.u
  · rw [show va_up A6 159 g7 179 = A6 179 from rfl, show va_up A6 159 g7 180 = A6 180 from rfl, gA 179 (by decide) (by decide) (by decide) (by decide) (by decide) (by decide), gA 180 (by decide) (by decide) (by decide) (by decide) (by decide) (by decide)]; exact iv2.k
  · rw [show va_up A6 159 g7 156 = A6 156 from rfl, gA 156 (by decide) (by decide) (by decide) (by decide) (by decide) (by decide)]
    show IT (F6 6) _ _
    rw [gF 6 (by decide) (by decide)]; exact iv2.t
  · have hi2 : i < 2 := hi
    show vp_updL (vp_updL R 0 (nI (sPrs C (mS M))).toInt64) 1 (nI (sPrs (mL M) (mS M))).toInt64 i = (w2 (nI (sPrs C (mS M))) (nI (sPrs (mL M) (mS M))) i).toInt64
    rcases (show i = 0 ∨ i = 1 by omega) with e | e
    · subst e; rfl
    · subst e; rfl
  · rw [show va_up A6 159 g7 172 = A6 172 from rfl, show va_up A6 159 g7 173 = A6 173 from rfl, gA 172 (by decide) (by decide) (by decide) (by decide) (by decide) (by decide), gA 173 (by decide) (by decide) (by decide) (by decide) (by decide) (by decide)]
    show IF (F6 33) _ _ _
    rw [gF 33 (by decide) (by decide)]; exact iv2.f
  · rw [show va_up A6 159 g7 174 = A6 174 from rfl, show va_up A6 159 g7 175 = A6 175 from rfl, gA 174 (by decide) (by decide) (by decide) (by decide) (by decide) (by decide), gA 175 (by decide) (by decide) (by decide) (by decide) (by decide) (by decide)]
    show IH (F6 36) _ _ _
    rw [gF 36 (by decide) (by decide)]; exact iv2.hr
  · rw [am_up_s]
    refine Ar_congr iv2.l.2.1 (fun i hi => (hg7 i hi).trans ?_)
    have e178 : A6 178 = g := (a6 178 (by decide) (by decide) (by decide) (by decide)).trans ((am_up_n (by decide)).trans am_up_s)
    rw [e178, P1 i hi, e159]
end
