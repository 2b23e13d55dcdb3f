def dRn (L : List Nat) (tx : Nat → Nat) (n : Nat) : Nat → Nat → Nat → Sg → Nat × Bool × Sg
  | 0, _, k, σ => (k, false, σ)
  | f + 1, p, k, σ => if p < n then (if (dAct L tx n p σ).1 < 0 then (k, true, (dAct L tx n p σ).2) else dRn L tx n f (p + (1 + ftl (frm (sgn tx n p)))) (k + 1) (dAct L tx n p σ).2) else (k, false, σ)
def dRs (M : Ms) : Nat × Bool × Sg := dRn (mL M) (mT M).2 (mT M).1 ((mT M).1 + 1) 0 0 (mS M)
def oDay (M : Ms) : Int32 × Ms := match dyF (mT M).2 (mT M).1 with
  | some f => (-1 - nI f, pT M (0, (mT M).2))
  | none => (nI (dRs M).1, pD (pU (pT (pS M (dRs M).2.2) (0, (mT M).2)) (if 0 < (dRs M).1 then (mS M :: mU M).take 15 else mU M)) (2, w2 (bI (dRs M).2.1) (nI (sN (dRs M).2.2))))
def oCount (M : Ms) (x : Int32) : Int32 := if x = 0 then nI (sN (mS M)) else if x = 1 then nI (smf (sZ (mS M)) (sN (mS M))) else if x = 2 then nI (smf (sK (mS M)) 4) else if x = 3 then nI (sP (mS M)) else if x = 4 then nI (sPrs (mL M) (mS M)) else if x = 5 then nI (mF M).1 else if x = 6 then nI (mH M).1 else if x = 7 then nI (mU M).length else if x = 8 then nI (mD M).1 else if x = 9 then nI (mT M).1 else -100
def oBr (M : Ms) (b w : Int32) : Option Int32 := if b < 0 ∨ nI (sN (mS M)) ≤ b then none else
  let j := b.toNatClampNeg
  let f := sB (mS M) j
  let n := sZ (mS M) j
  if w = 0 then some (nI n) else if w = 1 then some (nI (cbt f n)) else if w = 2 then some (nI (per f n)) else if w = 3 then some (nI (mir f n)) else if w = 4 then some (nI (sPrc (mL M) (mS M) j)) else if w = 5 then some (nI (oAl (mS M) j)) else none
def oBd (M : Ms) (b i : Int32) : Option Int32 := if b < 0 ∨ nI (sN (mS M)) ≤ b then none else if i < 0 ∨ nI (sZ (mS M) b.toNatClampNeg) ≤ i then none else some (nI (sB (mS M) b.toNatClampNeg i.toNatClampNeg))
def oSt (M : Ms) (c : Int32) : Option Int32 := if c < 0 ∨ 4 ≤ c then none else some (nI (sK (mS M) c.toNatClampNeg))
def oRw (M : Ms) (i : Int32) : Option Int32 := if i < 0 ∨ nI (mD M).1 ≤ i then none else some ((mD M).2 i.toNatClampNeg)
theorem tsw_out {pc k : Nat} {dflt lo hi : Int} {offs : Array Int} {x : Int32} (h : x.toInt < lo ∨ hi < x.toInt) (hk : ((pc : Int) + dflt).toNat = k) : am_tsw pc dflt lo hi offs x = k := by
  unfold am_tsw
  rw [if_pos h]
  exact hk
theorem toInt_lt {x : Int32} {k : Nat} (hk : k < 2 ^ 31) (h : nI k < x) : (k : Int) < x.toInt := by
  have h1 : ¬ x < 0 := fun z => nI_pos hk (Int32.lt_trans h z)
  obtain ⟨q, hq, rfl⟩ := nI_of h1
  have h2 := (nI_ltI hk hq).mp h
  have e : (nI q).toInt = (q : Int) := by
    show (Int32.ofNat q).toInt = _
    exact Int32.toInt_ofNat_of_lt (by omega)
  rw [e]
  omega
theorem toInt_neg {x : Int32} (h : x < 0) : x.toInt < 0 := by
  have := Int32.lt_iff_toInt_lt.mp h
  exact this
section
variable {d : Nat} {h : am_H} {Q : Option Value → am_H → Prop} {X : am_H → Prop} {M : Ms} {a b : Nat} {dr : Int32}
theorem RX_pSR {h' : am_H} {σ : Sg} (hX : RXc h M a b dr) (hn : RS h' 41 σ) (hs : Sok σ) (hr : RF h' a (mL M)) (hf : ∀ x, (x < 41 ∨ 45 ≤ x) → (x < a ∨ a + 4 ≤ x) → h'.2 x = h.2 x) : RXc h' (pS M σ) a b dr := by
  have hab := hX.o.2
  exact ⟨⟨(hf 40 (by omega) (by omega)).trans hX.o.1, hX.o.2⟩, ⟨hn, hs⟩, ⟨hX.z.choose, RS_fr hX.z.choose_spec (fun x _ _ => hf x (by omega) (by omega))⟩, RPm_fr hX.p (fun x _ _ => hf x (by omega) (by omega)), ⟨hX.t.choose, hX.t.choose_spec.choose, RT_fr hX.t.choose_spec.choose_spec (fun x _ _ => hf x (by omega) (by omega))⟩, ⟨RD_fr hX.d.1 (fun x _ _ => hf x (by omega) (by omega)), hX.d.2⟩, RK_fr hX.k (fun x _ _ => hf x (by omega) (by omega)), ⟨RC_fr hX.f.1 (fun x _ _ => hf x (by omega) (by omega)), hX.f.2⟩, ⟨RC_fr hX.hr.1 (fun x _ _ => hf x (by omega) (by omega)), hX.hr.2⟩, ⟨hX.y.choose, (hf 142 (by omega) (by omega)).trans hX.y.choose_spec⟩, ⟨hX.l.choose, (hf 143 (by omega) (by omega)).trans hX.l.choose_spec⟩, ⟨hr, hX.r.2⟩, RU0_fr hX.u (fun x _ _ => hf x (by omega) (by omega)), RO_fr hX.c (fun x _ => hf x (by omega) (by omega))⟩
theorem X_day (hX : RX h M) (hQ : ∀ h', Fx h h' → RX h' (oDay M).2 → Q (some (.int (oDay M).1)) h') : am_call (d + 12) 132 [.ref 40] h Q := by
  obtain ⟨a, b, dr, hX⟩ := hX
  obtain ⟨wd, wz, hT⟩ := hX.t
  have hab := hX.o.2
  have hn80 := hT.2.1
  unfold oDay at hQ
  refine en_X10_day (Nat.le_of_ble_eq_true rfl) (am_run (am_cK _) 2 (am_obj_in hX.o.1 (am_run (am_cK _) 1 (Y_fault hT (fun f ef hf60 => ?_) (fun ef => ?_)))))
  · rw [ef] at hQ
    refine am_run (am_cK _) 3 ⟨fun c => absurd c (nI_pos (by omega)), fun _ => ?_⟩
    refine am_run (am_cK _) 2 (am_obj_in hX.o.1 (am_run (am_cK _) 1 (am_obj_in hT.1 (T_empty hT (fun h2 a2 t2 => ?_)))))
    exact am_run (am_cK _) 4 (hQ h2 (a2.fx (by omega) (by omega)) ⟨a, b, dr, hX.pT t2 (fun x hx => a2.2 x (by omega))⟩)
  · rw [ef] at hQ
    simp only at hQ
    obtain ⟨m0, q0⟩ := hX.p.obj
    refine am_run (am_cK _) 3 ⟨fun _ => ?_, fun c => absurd (show (-1 : Int32) < 0 by decide) c⟩
    refine am_run (am_cK _) 2 (am_obj_in hX.o.1 (am_run (am_cK _) 2 (am_obj_in hX.o.1 (am_run (am_cK _) 1 (am_obj_in q0 (X_mark hX (fun h2 f2 hX2 p2 => ?_)))))))
    have out : ∀ k (rf : Bool) σ' p h', dRs M = (k, rf, σ') → k ≤ 100 → Fx h h' → RXc h' (pS M σ') a b dr → RPk h' (mS M) (mU M) (mK M) → am_wp (am_call (d + 11)) (0, 0) cm_X10_day Q (fun _ => False) (110, [some (.ref 40), some (.int (-1)), some (.int (nI k)), some (.int (bI rf)), some (.int p)], [], 0, 0) h' := by
      intro k rf σ' p h' hr hk100 hF hX' p'
      rw [hr] at hQ
      simp only at hQ
      obtain ⟨wd', wz', hT'⟩ := hX'.t
      refine am_run (am_cK _) 2 (am_obj_in hX'.o.1 (am_run (am_cK _) 1 (am_obj_in hT'.1 (T_empty hT' (fun h3 a3 t3 => ?_)))))
      have hX3 := hX'.pT t3 (fun x hx => a3.2 x (by omega))
      have p3 := RPk_fr p' (fun x _ _ => a3.2 x (by omega))
      obtain ⟨m3, q3⟩ := p3.obj
      have fin : ∀ U' v h4, Fx h h4 → RXc h4 (pU (pT (pS M σ') (0, (mT M).2)) U') a b dr → U' = (if 0 < k then (mS M :: mU M).take 15 else mU M) → am_wp (am_call (d + 11)) (0, 0) cm_X10_day Q (fun _ => False) (133, [some (.ref 40), some (.int (-1)), some (.int (nI k)), some (.int (bI rf)), some (.int p)], [.int v], 0, 0) h4 := by
        intro U' v h4 hF4 hX4 hU
        refine am_run (am_cK _) 3 (am_obj_in hX4.o.1 (am_run (am_cK _) 1 (am_obj_in hX4.d.1.1 (X_begin hX4 (fun h5 a5 hX5 => ?_)))))
        refine am_run (am_cK _) 2 (am_obj_in hX5.o.1 (am_run (am_cK _) 2 (am_obj_in hX5.d.1.1 (X_add hX5 (by show 0 < 16; omega) _ (fun h6 a6 hX6 => ?_)))))
        refine am_run (am_cK _) 2 (am_obj_in hX6.o.1 (am_run (am_cK _) 2 (am_obj_in hX6.o.1 (am_run (am_cK _) 1 (am_obj_in hX6.so (am_run (am_cK _) 1 (am_obj_in hX6.d.1.1 (X_add hX6 (by show 0 + 1 < 16; omega) _ (fun h7 a7 hX7 => ?_)))))))))
        rw [← hU] at hQ
        refine am_run (am_cK _) 2 (hQ h7 (hF4.tr ((a5.fx (by omega) (by omega)).tr ((a6.fx (by omega) (by omega)).tr (a7.fx (by omega) (by omega))))) ⟨a, b, dr, RX_dc hX7 (fun i hi => ?_)⟩)
        have hi2 : i < 2 := hi
        rcases (by omega : i = 0 ∨ i = 1) with e | e <;> subst e <;> rfl
      have hF3 := hF.tr (a3.fx (by omega) (by omega))
      refine am_run (am_cK _) 2 (am_obj_in hX3.o.1 (am_run (am_cK _) 2 ⟨fun c => ?_, fun c => ?_⟩))
      · have hk0 : k = 0 := by
          have := (nI_leI (b := 0) (by omega) (by omega)).mp c
          omega
        refine am_run (am_cK _) 2 (am_obj_in q3 (PM_settle p3 (-1) (fun _ => ?_) (fun w => absurd (show (-1 : Int32) < 0 by decide) w)))
        exact fin (mU M) (-1) h3 hF3 hX3 (by rw [if_neg (by omega)])
      · have hk0 : 0 < k := Nat.pos_of_ne_zero (fun z => c (show nI k ≤ 0 by rw [z]; decide))
        refine am_run (am_cK _) 3 (am_obj_in q3 (PM_settle p3 (nI k) (fun w => absurd w (nI_pos (by omega))) (fun _ h4 a4 p4 => ?_)))
        exact fin ((mS M :: mU M).take 15) (nI k) h4 (hF3.tr (a4.fx (by omega) (by omega))) (RXc.pP (U := (mS M :: mU M).take 15) (Kk := mK M) hX3 p4 (fun x hx => a4.2 x (by omega))) (by rw [if_pos hk0])
    suffices H : ∀ f p k σ' h', (mT M).1 < p + f → p ≤ (mT M).1 + 4 → k ≤ p → dRs M = dRn (mL M) (mT M).2 (mT M).1 f p k σ' → Fx h h' → RXc h' (pS M σ') a b dr → RPk h' (mS M) (mU M) (mK M) → am_wp (am_call (d + 11)) (0, 0) cm_X10_day Q (fun _ => False) (41, [some (.ref 40), some (.int (-1)), some (.int (nI k)), some (.int 0), some (.int (nI p))], [], 0, 0) h' from
      am_run (am_cK _) 6 (H ((mT M).1 + 1) 0 0 (mS M) h2 (by omega) (by omega) (by omega) rfl (f2.fx (by omega) (by omega)) hX2 p2)
    intro f
    induction f with
    | zero =>
      intro p k σ' h' hpf hp4 hkp hD hF hX' p'
      obtain ⟨wd', wz', hT'⟩ := hX'.t
      replace hT' : RT h' 129 (mT M).1 (mT M).2 wd' wz' := hT'
      exact am_run (am_cK _) 3 (am_obj_in hX'.o.1 (am_run (am_cK _) 1 (am_obj_in hT'.1 (T_size hT' (am_run (am_cK _) 1 ⟨fun _ => out k false σ' _ h' hD (by omega) hF hX' p', fun c => absurd (nI_le (by omega) (by omega)) c⟩)))))
    | succ f ih =>
      intro p k σ' h' hpf hp4 hkp hD hF hX' p'
      obtain ⟨wd', wz', hT'⟩ := hX'.t
      replace hT' : RT h' 129 (mT M).1 (mT M).2 wd' wz' := hT'
      rw [dRn] at hD
      refine am_run (am_cK _) 3 (am_obj_in hX'.o.1 (am_run (am_cK _) 1 (am_obj_in hT'.1 (T_size hT' (am_run (am_cK _) 1 ⟨fun c => ?_, fun c => ?_⟩)))))
      · have hc : (mT M).1 ≤ p := (nI_leI (by omega) (by omega)).mp c
        rw [if_neg (by omega)] at hD
        exact out k false σ' _ h' hD (by omega) hF hX' p'
      · have hc : p < (mT M).1 := Nat.lt_of_not_le (fun z => c ((nI_leI (by omega) (by omega)).mpr z))
        rw [if_pos hc] at hD
        have hsg : sgn (mT M).2 (mT M).1 p < 256 := by
          unfold sgn
          rw [if_pos hc]
          exact hX.htx p hc
        have hfl := frm_lt (sgn (mT M).2 (mT M).1 p)
        have hlen := txt_len _ hfl
        refine am_run (am_cK _) 2 ⟨fun z => absurd rfl z, fun _ => ?_⟩
        refine am_run (am_cK _) 2 (am_obj_in hX'.o.1 (am_run (am_cK _) 3 (am_obj_in hX'.o.1 (am_run (am_cK _) 2 (am_obj_in hX'.o.1 (am_run (am_cK _) 1 (Y_act hT' hX'.s.1 hX'.s.2 hX'.r.1 hX'.r.2 (by omega) hc (fun h3 a3 s3 r3 => ?_))))))))
        have hX3 := RX_pSR hX' s3 (dAct_ok hX'.s.2) r3 (fun x hx hx2 => a3.2 x hx hx2)
        have p3 := RPk_fr p' (fun x _ _ => a3.2 x (by omega) (by omega))
        have hF3 : Fx h h3 := hF.tr ⟨a3.1, fun x hx => a3.2 x (by omega) (by omega)⟩
        obtain ⟨wd3, wz3, hT3⟩ := hX3.t
        have adv : ∀ k' rf, k' ≤ 100 → (∀ x, am_wp (am_call (d + 11)) (0, 0) cm_X10_day Q (fun _ => False) (41, [some (.ref 40), some (.int (-1)), some (.int (nI k')), some (.int rf), some (.int x)], [], 0, 0) h3 → True) → am_wp (am_call (d + 11)) (0, 0) cm_X10_day Q (fun _ => False) (41, [some (.ref 40), some (.int (-1)), some (.int (nI k')), some (.int rf), some (.int (nI (p + (1 + ftl (frm (sgn (mT M).2 (mT M).1 p))))))], [], 0, 0) h3 → am_wp (am_call (d + 11)) (0, 0) cm_X10_day Q (fun _ => False) (85, [some (.ref 40), some (.int (-1)), some (.int (nI k')), some (.int rf), some (.int (nI p))], [], 0, 0) h3 := by
          intro k' rf _ _ K
          refine am_run (am_cK _) 4 (am_obj_in hX3.o.1 (am_run (am_cK _) 2 (am_obj_in hT3.1 (T_signN hT3 (by omega) (am_run (am_cK _) 1 (Y_form hsg (am_run (am_cK _) 1 ⟨show frm (sgn (mT M).2 (mT M).1 p) < 16 by omega, by omega, ?_⟩)))))))
          rw [hlen.1]
          rw [← nI_add, ← nI_add] at K
          exact am_run (am_cK _) 4 K
        refine am_run (am_cK _) 1 ⟨fun c => ?_, fun c => ?_⟩
        · rw [if_neg (Int32.not_lt.mpr c)] at hD
          have zz := ih (p + (1 + ftl (frm (sgn (mT M).2 (mT M).1 p)))) (k + 1) _ h3 (by omega) (by omega) (by omega) hD hF3 hX3 p3
          have zz2 := adv (k + 1) 0 (by omega) (fun _ _ => trivial) zz
          rw [nI_succ] at zz2
          exact am_run (am_cK _) 1 zz2
        · rw [if_pos (Int32.not_le.mp c)] at hD
          refine am_run (am_cK _) 3 (adv k 1 (by omega) (fun _ _ => trivial) ?_)
          have hpl : p + (1 + ftl (frm (sgn (mT M).2 (mT M).1 p))) < 2 ^ 31 := by omega
          refine am_run (am_cK _) 3 (am_obj_in hX3.o.1 (am_run (am_cK _) 1 (am_obj_in hT3.1 (T_size hT3 (am_run (am_cK _) 1 ⟨fun _ => out k true _ _ h3 hD (by omega) hF3 hX3 p3, fun _ => am_run (am_cK _) 2 ⟨fun _ => out k true _ _ h3 hD (by omega) hF3 hX3 p3, fun w => absurd n10 w⟩⟩)))))
end
