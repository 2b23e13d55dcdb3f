/-- how many of each colour -/
def tal (f : Nat → Nat) (n : Nat) : Nat → Nat := fun c => [num f n 0, num f n 1, num f n 2, num f n 3].getD c 0
theorem tal_at (f : Nat → Nat) (n : Nat) : ∀ c, c < 4 → tal f n c = num f n c
  | 0, _ => rfl
  | 1, _ => rfl
  | 2, _ => rfl
  | 3, _ => rfl
  | c + 4, h => by omega
theorem tal_sum {f : Nat → Nat} : ∀ {n : Nat}, (∀ i, i < n → f i < 4) → num f n 0 + num f n 1 + num f n 2 + num f n 3 = n
  | 0, _ => rfl
  | n + 1, h => by
    have ih := tal_sum (f := f) (n := n) (fun i hi => h i (by omega))
    have hn := h n (by omega)
    unfold num at *
    rw [cnt, cnt, cnt, cnt]
    rcases (by omega : f n = 0 ∨ f n = 1 ∨ f n = 2 ∨ f n = 3) with e | e | e | e <;> rw [e] <;> simp <;> omega
theorem tal_smf {f : Nat → Nat} {n : Nat} (h : ∀ i, i < n → f i < 4) : smf (tal f n) 4 = n := by
  have := tal_sum h
  show 0 + num f n 0 + num f n 1 + num f n 2 + num f n 3 = n
  omega
/-- the model's rows: its = its * n / j -/
def rI (n its : Nat) : Nat → Nat
  | 0 => its
  | m + 1 => rI n its m * (n + m + 1) / (m + 1)
def rMn (t : Nat → Nat) (e l c : Nat) : Nat := (t c - (if c = l then 2 else 0)) / e
def rO (t : Nat → Nat) (e l : Nat) : Nat → Nat × Nat
  | 0 => (0, 1)
  | c + 1 => ((rO t e l c).1 + rMn t e l c, rI (rO t e l c).1 (rO t e l c).2 (rMn t e l c))
def rOv (t : Nat → Nat) (e l : Nat) : Nat := (rO t e l 4).2
def odO (t : Nat → Nat) : Nat := smf (fun c => t c % 2) 4
def fRw (t : Nat → Nat) (n : Nat) (two : Bool) : Nat := if n % 2 = 1 then (if odO t = 1 then rOv t 2 4 else 0) else if two = false then (if odO t = 0 then rOv t 2 4 else 0) else if odO t = 2 then 2 * rOv t 2 4 else smf (fun c => if odO t = 0 ∧ 1 < t c then rOv t 2 c else 0) 4
def wrl (t : Nat → Nat) (n i : Nat) : Nat := if allB (fun c => t c % (n / Nat.gcd n i) == 0) 4 then rOv t (n / Nat.gcd n i) 4 else 0
def T4 (a b c e : Nat) : Nat → Nat := fun i => [a, b, c, e].getD i 0
def wok (t : Nat → Nat) (n : Nat) : Bool := tkr t n == smf (wrl t n) n && (tkf t n == smf (fun i => fRw t n (i % 2 == 1)) n && (rwO t 1 == rOv t 1 4 && (decide (tkr t n < 2 ^ 30) && (decide (tkf t n < 2 ^ 30) && (decide (1 ≤ rwO t 1) && decide (rwO t 1 < 2 ^ 30))))))
theorem wok_all : allB (fun a => allB (fun b => allB (fun c => allB (fun e => decide (10 < a + b + c + e) || (decide (a + b + c + e = 0) || wok (T4 a b c e) (a + b + c + e))) 11) 11) 11) 11 = true := by decide +kernel
theorem wok_tal {f : Nat → Nat} {n : Nat} (hn0 : 0 < n) (hn : n ≤ 10) (hf : ∀ i, i < n → f i < 4) : wok (tal f n) n = true := by
  have s := tal_sum hf
  have h1 := (allB_iff _ _).mp wok_all (num f n 0) (by omega)
  have h2 := (allB_iff _ _).mp h1 (num f n 1) (by omega)
  have h3 := (allB_iff _ _).mp h2 (num f n 2) (by omega)
  have h4 := (allB_iff _ _).mp h3 (num f n 3) (by omega)
  rw [s, decide_eq_false (by omega : ¬ 10 < n), decide_eq_false (by omega : ¬ n = 0), Bool.false_or, Bool.false_or] at h4
  exact h4
theorem wok_use {t : Nat → Nat} {n : Nat} (h : wok t n = true) : tkr t n = smf (wrl t n) n ∧ tkf t n = smf (fun i => fRw t n (i % 2 == 1)) n ∧ rwO t 1 = rOv t 1 4 ∧ tkr t n < 2 ^ 30 ∧ tkf t n < 2 ^ 30 ∧ 1 ≤ rwO t 1 ∧ rwO t 1 < 2 ^ 30 := by
  unfold wok at h
  simp only [Bool.and_eq_true, beq_iff_eq, decide_eq_true_eq] at h
  exact h
def oWaysN (M : Ms) : Int32 × Ms :=
  let t := tal (wBd (mT M).2) (mT M).1
  (nI ((tkr t (mT M).1 + tkf t (mT M).1) / (2 * (mT M).1)), pD (pT M (0, (mT M).2)) (2, w2 (nI (tkr t (mT M).1 / (mT M).1)) (nI (rwO t 1))))
def oWays (M : Ms) : Int32 × Ms := if wFl (mT M).2 (mT M).1 = 0 then oWaysN M else (wFl (mT M).2 (mT M).1, pT M (0, (mT M).2))
def oOddsN (M : Ms) (j : Nat) : Int32 × Ms :=
  let up := 2 * sZ (mS M) j / sty (sB (mS M) j) (sZ (mS M) j)
  let dn := rwO (tal (sB (mS M) j) (sZ (mS M) j)) 1
  (0, pD M (2, w2 (nI (up / Nat.gcd up dn)) (nI (dn / Nat.gcd up dn))))
def oOdds (M : Ms) (b : Int32) : Int32 × Ms := if b < 0 ∨ nI (sN (mS M)) ≤ b then (-1, M) else oOddsN M b.toNatClampNeg
theorem sty_in {f : Nat → Nat} {n : Nat} (hn0 : 0 < n) (hf : ∀ i, i < n → f i < 4) : 1 ≤ sty f n ∧ sty f n ≤ 2 * n := by
  have h1 := per_in (f := f) hn0
  have h2 : 1 ≤ n / per f n := (Nat.one_le_div_iff (by omega)).mpr h1.2
  refine ⟨by unfold sty; omega, ?_⟩
  rw [← cnt_stay hn0 hf]
  exact cnt_le _ _
section
variable {d : Nat} {h0 h : am_H} {Q : Option Value → am_H → Prop} {F : Nat → Int32} {A : Nat → Nat → Int32} {R : Nat → Int64} {M : Ms}
theorem X_ways (hX : RX h M) (hQ : ∀ h', Fx h h' → RX h' (oWays M).2 → Q (some (.int (oWays M).1)) h') : am_call (d + 20) 143 [.ref 40] h Q := by
  obtain ⟨a, b', dr, hX⟩ := hX
  obtain ⟨wd, wz, hT⟩ := hX.t
  unfold oWays at hQ
  refine en_X10_ways (Nat.le_of_ble_eq_true rfl) ?_
  refine am_run (am_cK _) 2 (am_obj_in hX.o.1 (am_run (am_cK _) 1 (am_obj_in hT.1 (T_takeWord hT (fun h1 wd' a1 t1 hw => ?_) (fun h1 a1 t1 hw hn0 hn10 hf4 => ?_)))))
  · rw [if_neg hw] at hQ
    have hX1 := hX.pT t1 (fun x hx => a1.2 x (by omega))
    exact am_run (am_cK _) 3 (⟨fun z => absurd (wFl_neg hw) (Int32.not_lt.mpr z), fun _ => am_run (am_cK _) 2 (hQ h1 (a1.fx (by omega) (by omega)) ⟨a, b', dr, hX1⟩)⟩)
  · rw [if_pos hw] at hQ
    have hX1 := hX.pT t1 (fun x hx => a1.2 x (by omega))
    have F1 : Fx h h1 := a1.fx (by omega) (by omega)
    unfold oWaysN at hQ
    simp only at hQ
    have wo := wok_use (wok_tal hn0 hn10 hf4)
    have ts := tal_smf hf4
    have ta := tal_at (wBd (mT M).2) (mT M).1
    generalize hwd : wBd (mT M).2 = f at *
    generalize hnn : (mT M).1 = n at *
    generalize htt : tal f n = t at *
    obtain ⟨t0, et0⟩ := hX1.y
    refine am_run (am_cK _) 3 (⟨fun _ => ?_, fun w => absurd (show (0 : Int32) ≤ 0 by decide) w⟩)
    refine am_run (am_cK _) 2 (am_obj_in hX1.o.1 (am_run (am_cK _) 1 (am_obj_in t1.1 (am_run (am_cK _) 3 (am_obj_in hX1.o.1 (am_run (am_cK _) 2 (am_obj_in hX1.o.1 (am_run (am_cK _) 1 (am_obj_in t1.1 (am_run (am_cK _) 2 (B_tallyInto et0 hn10 hf4 (fun t' ht' => ?_))))))))))))
    have hX2 : RXc (am_set h1 142 (aI 4 t')) (pT M (0, (mT M).2)) a b' dr := hX1.pY as_s (fun x hx => as_n hx)
    have ht2 : ∀ c, c < 4 → t' c = nI (t c) := fun c hc => by rw [ht' c hc, ta c hc]
    generalize hh2 : am_set h1 142 (aI 4 t') = h2 at *
    have e142 : h2.2 142 = aI 4 t' := by rw [← hh2]; exact as_s
    have F2 : Fx h h2 := F1.tr (by rw [← hh2]; exact ⟨rfl, fun x hx => as_n (by omega)⟩)
    refine am_run (am_cK _) 2 (am_obj_in hX2.o.1 (am_run (am_cK _) 2 (N_toldKeptByRolls hX2.c e142 ht2 (by omega) hn10 ?_)))
    refine am_run (am_cK _) 3 (am_obj_in hX2.o.1 (am_run (am_cK _) 1 (am_obj_in hX2.d.1.1 ((X_begin hX2 (fun h3 a3 hX3 => ?_))))))
    have e142' : h3.2 142 = aI 4 t' := (a3.2 142 (by omega)).trans e142
    refine am_run (am_cK _) 2 (am_obj_in hX3.o.1 (am_run (am_cK _) 3 (⟨nI_ne0 (by omega) (by omega), ?_⟩)))
    rw [pk_div (by omega) (by omega) (by omega)]
    refine am_run (am_cK _) 1 (am_obj_in hX3.d.1.1 ((X_add hX3 (show 0 < 16 by omega) _ (fun h4 a4 hX4 => ?_))))
    have e142'' : h4.2 142 = aI 4 t' := (a4.2 142 (by omega)).trans e142'
    refine am_run (am_cK _) 2 (am_obj_in hX4.o.1 (am_run (am_cK _) 2 (am_obj_in hX4.o.1 (am_run (am_cK _) 2 (N_rowsOf (e := 1) hX4.c e142'' ht2 (by omega) (by omega) (by omega) ?_)))))
    refine am_run (am_cK _) 1 (am_obj_in hX4.d.1.1 ((X_add hX4 (show 0 + 1 < 16 by omega) _ (fun h5 a5 hX5 => ?_))))
    have e5 : h5.2 142 = aI 4 t' := (a5.2 142 (by omega)).trans e142''
    refine am_run (am_cK _) 3 (am_obj_in hX5.o.1 (am_run (am_cK _) 2 (N_toldKeptByFlips hX5.c (by omega) e5 ht2 (by omega) hn10 ?_)))
    refine am_run (am_cK _) 4 (show am_wp (am_call (d + 19)) (0, 0) cm_X10_ways Q (fun _ => False) (91, [some (.ref 40), some (.int 0), some (.int (nI n)), some (.int (nI (tkr t n)))], [.int (2 * nI n), .int (nI (tkr t n) + nI (tkf t n))], 0, 0) h5 from ?_)
    rw [two_n, nI_add]
    refine am_run (am_cK _) 1 ⟨nI_ne0 (by omega) (by omega), ?_⟩
    rw [pk_div (by omega) (by omega) (by omega)]
    exact am_run (am_cK _) 1 (hQ h5 (F2.tr ((Fx2 a3 a4).tr (a5.fx (by omega) (by omega)))) ⟨a, b', dr, RX_dc hX5 (fun i hi => i_lt2 (P := fun i => upd (upd (mD M).2 0 (nI (tkr t n / n))) (0 + 1) (nI (rwO t 1)) i = w2 (nI (tkr t n / n)) (nI (rwO t 1)) i) hi rfl rfl)⟩)
theorem X_odds (hX : RX h M) (b : Int32) (hQ : ∀ h', Fx h h' → RX h' (oOdds M b).2 → Q (some (.int (oOdds M b).1)) h') : am_call (d + 20) 150 [.ref 40, .int b] h Q := by
  obtain ⟨a, b', dr, hX⟩ := hX
  have hs := hX.s.2
  have hN := hs.1
  obtain ⟨r, z, kk, e0, e1, e2, e3, e4, e5⟩ := hX.s.1
  unfold oOdds at hQ
  refine en_X10_odds (Nat.le_of_ble_eq_true rfl) ?_
  refine am_run (am_cK _) 2 (am_obj_in hX.o.1 (am_run (am_cK _) 2 (am_obj_in hX.so ((S_lacks hX.s.1 hs b (fun c => ?_) (fun j hj e => ?_))))))
  · rw [if_pos c] at hQ
    exact am_run (am_cK _) 1 (⟨fun w => absurd w n10, fun _ => am_run (am_cK _) 2 (hQ h Fx.rf ⟨a, b', dr, hX⟩)⟩)
  subst e
  rw [if_neg (S_no hs hj), nI_clamp (by omega)] at hQ
  have hz := hs.2.1 j hj
  unfold oOddsN at hQ
  simp only at hQ
  refine am_run (am_cK _) 1 (⟨fun _ => ?_, fun w => absurd rfl w⟩)
  refine am_run (am_cK _) 2 (am_obj_in hX.o.1 (am_run (am_cK _) 1 (am_obj_in hX.so (am_run (am_cK _) 2 (am_ld e1 j (by omega) ?_)))))
  rw [nI_clamp (by omega), (e4 j hj).1]
  refine am_run (am_cK _) 3 (am_obj_in hX.o.1 (am_run (am_cK _) 1 (am_obj_in hX.so (am_run (am_cK _) 2 (am_ld e2 j (by omega) ?_)))))
  rw [nI_clamp (by omega), (e4 j hj).2]
  have hn0 : 0 < sZ (mS M) j := by omega
  have hn10 := hz.2.1
  have hf4 := hz.2.2
  have wo := wok_use (wok_tal hn0 hn10 hf4)
  have ts := tal_smf hf4
  have ta := tal_at (sB (mS M) j) (sZ (mS M) j)
  have si := sty_in hn0 hf4
  generalize hff : sB (mS M) j = f at *
  generalize hnn : sZ (mS M) j = n at *
  generalize htt : tal f n = t at *
  obtain ⟨t0, et0⟩ := hX.y
  refine am_run (am_cK _) 3 (am_obj_in hX.o.1 (am_run (am_cK _) 3 (B_tallyInto et0 hn10 hf4 (fun t' ht' => ?_))))
  have hX2 : RXc (am_set h 142 (aI 4 t')) M a b' dr := hX.pY as_s (fun x hx => as_n hx)
  have ht2 : ∀ c, c < 4 → t' c = nI (t c) := fun c hc => by rw [ht' c hc, ta c hc]
  generalize hh2 : am_set h 142 (aI 4 t') = h2 at *
  have e142 : h2.2 142 = aI 4 t' := by rw [← hh2]; exact as_s
  have F2 : Fx h h2 := by rw [← hh2]; exact ⟨rfl, fun x hx => as_n (by omega)⟩
  refine am_run (am_cK _) 7 (B_stays hn0 hn10 hf4 ?_)
  refine am_run (am_cK _) 1 (J_max (a := 1) (b := sty f n) (by omega) (by omega) ?_)
  rw [show Nat.max 1 (sty f n) = sty f n from Nat.max_eq_right si.1]
  refine am_run (am_cK _) 1 (show ¬ nI (sty f n) = 0 ∧ am_wp (am_call (d + 19)) (0, 0) cm_X10_odds Q (fun _ => False) (55, [some (.ref 40), some (.int (nI j)), some (.int (nI (rk f n))), some (.int (nI n)), none, none, none], [.int (2 * nI n / nI (sty f n))], 0, 0) h2 from ⟨nI_ne0 (by omega) (by omega), ?_⟩)
  rw [two_n, pk_div (by omega) (by omega) (by omega)]
  have hup : 1 ≤ 2 * n / sty f n := (Nat.one_le_div_iff (by omega)).mpr si.2
  have hup2 : 2 * n / sty f n ≤ 2 * n := Nat.div_le_self _ _
  generalize hu : 2 * n / sty f n = up at *
  refine am_run (am_cK _) 3 (am_obj_in hX2.o.1 (am_run (am_cK _) 2 (N_rowsOf (e := 1) hX2.c e142 ht2 (by omega) (by omega) (by omega) ?_)))
  generalize hdn : rwO t 1 = dn at *
  refine am_run (am_cK _) 5 (N_commonDivisor (by omega) (by omega) ?_)
  rw [cdv_gcd hup]
  have hg1 := Nat.gcd_pos_of_pos_left dn hup
  have hg2 : Nat.gcd up dn ≤ up := Nat.gcd_le_left dn hup
  refine am_run (am_cK _) 1 (J_max (a := 1) (b := Nat.gcd up dn) (by omega) (by omega) ?_)
  rw [show Nat.max 1 (Nat.gcd up dn) = Nat.gcd up dn from Nat.max_eq_right hg1]
  refine am_run (am_cK _) 1 (show am_wp (am_call (d + 19)) (0, 0) cm_X10_odds Q (fun _ => False) (80, [some (.ref 40), some (.int (nI j)), some (.int (nI (rk f n))), some (.int (nI n)), some (.int (nI up)), some (.int (nI dn)), some (.int (nI (Nat.gcd up dn)))], [], 0, 0) h2 from ?_)
  refine am_run (am_cK _) 2 (am_obj_in hX2.o.1 (am_run (am_cK _) 1 (am_obj_in hX2.d.1.1 (X_begin hX2 (fun h3 a3 hX3 => ?_)))))
  refine am_run (am_cK _) 2 (am_obj_in hX3.o.1 (am_run (am_cK _) 3 (⟨nI_ne0 (by omega) (by omega), ?_⟩)))
  rw [pk_div (by omega) (by omega) (by omega)]
  refine am_run (am_cK _) 1 (am_obj_in hX3.d.1.1 ((X_add hX3 (show 0 < 16 by omega) _ (fun h4 a4 hX4 => ?_))))
  refine am_run (am_cK _) 2 (am_obj_in hX4.o.1 (am_run (am_cK _) 3 (⟨nI_ne0 (by omega) (by omega), ?_⟩)))
  rw [pk_div (by omega) (by omega) (by omega)]
  refine am_run (am_cK _) 1 (am_obj_in hX4.d.1.1 ((X_add hX4 (show 0 + 1 < 16 by omega) _ (fun h5 a5 hX5 => ?_))))
  exact am_run (am_cK _) 2 (hQ h5 (F2.tr ((Fx2 a3 a4).tr (a5.fx (by omega) (by omega)))) ⟨a, b', dr, RX_dc hX5 (fun i hi => i_lt2 (P := fun i => upd (upd (mD M).2 0 (nI (up / Nat.gcd up dn))) (0 + 1) (nI (dn / Nat.gcd up dn)) i = w2 (nI (up / Nat.gcd up dn)) (nI (dn / Nat.gcd up dn)) i) hi rfl rfl)⟩)
end
