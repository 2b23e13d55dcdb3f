/-! kinds that the stock allows: the class -/
def hasK (σ : Sg) (n q : Nat) : Bool := hsB σ (dg (kR n q) n) n == 4
def mdD (M : Ms) (n i : Nat) : Nat × (Nat → Int32) := if cnt (hasK (mS M) n) i = 0 then (0, (mD M).2) else (n, fun x => nI (dg (kR n (fnd (hasK (mS M) n) 0 (kN n))) n x))
def oMade (M : Ms) (n : Int32) : Int32 × Ms := if n < 1 ∨ 7 < n then (-1, M) else (nI (cnt (hasK (mS M) n.toNatClampNeg) (kN n.toNatClampNeg)), pD M (mdD M n.toNatClampNeg (kN n.toNatClampNeg)))
theorem cnt_z {p : Nat → Bool} : ∀ {i : Nat}, cnt p i = 0 → ∀ q, q < i → p q = false
  | 0, _, q, hq => absurd hq (Nat.not_lt_zero q)
  | i + 1, h, q, hq => by
    rw [cnt] at h
    by_cases e : q = i
    · subst e
      cases hp : p q with
      | false => rfl
      | true => rw [hp, if_pos rfl] at h; omega
    · exact cnt_z (p := p) (i := i) (by omega) q (by omega)
theorem cnt_f {p : Nat → Bool} {i : Nat} (h : p i = false) : cnt p (i + 1) = cnt p i := by
  rw [cnt, h, if_neg Bool.false_ne_true, Nat.add_zero]
theorem cnt_t {p : Nat → Bool} {i : Nat} (h : p i = true) : cnt p (i + 1) = cnt p i + 1 := by
  rw [cnt, h, if_pos rfl]
theorem cnt_i (p : Nat → Bool) : ∀ i, cnt p i ≤ i
  | 0 => Nat.le_refl _
  | i + 1 => by
    have := cnt_i p i
    cases hp : p i with
    | false => rw [cnt_f hp]; omega
    | true => rw [cnt_t hp]; omega
section
variable {d : Nat} {h : am_H} {Q : Option Value → am_H → Prop} {M : Ms}
theorem X_made (hX : RX h M) (n : Int32) (hQ : ∀ h', Fx h h' → RX h' (oMade M n).2 → Q (some (.int (oMade M n).1)) h') : am_call (d + 20) 148 [.ref 40, .int n] h Q := by
  obtain ⟨a, b', dr, hX⟩ := hX
  have hs := hX.s.2
  unfold oMade at hQ
  refine en_X10_made (Nat.le_of_ble_eq_true rfl) ?_
  refine am_run (am_cK _) 2 (K_lacks n (fun c => ?_) (fun c => ?_))
  · rw [if_pos c] at hQ
    exact am_run (am_cK _) 1 (⟨fun w => absurd w n10, fun _ => am_run (am_cK _) 2 (hQ h Fx.rf ⟨a, b', dr, hX⟩)⟩)
  obtain ⟨N, N1, N7, rfl⟩ := num_in (a := 1) (b := 7) (by omega) (by omega) (fun w => c (Or.inl w)) (fun w => c (Or.inr w))
  rw [if_neg c, nI_clamp (by omega)] at hQ
  have hkn := kN_le N1 N7
  refine am_run (am_cK _) 1 (⟨fun _ => ?_, fun w => absurd rfl w⟩)
  refine am_run (am_cK _) 4 (am_obj_in hX.o.1 (am_run (am_cK _) 1 (am_obj_in hX.d.1.1 ((X_begin hX (fun h1 a1 hX1 => ?_))))))
  refine am_run (am_cK _) 4 (am_obj_in hX1.o.1 (am_run (am_cK _) 2 (am_obj_in hX1.k.choose_spec.choose_spec.choose_spec.1 ((K_number hX1.c hX1.k (by omega) N1 N7 (fun h2 a2 k2 _ => ?_))))))
  have hX2 := hX1.pKL k2 (fun x hx => a2.2 x (by omega))
  have F2 : Fx h h2 := (a1.fx (by omega) (by omega)).tr (a2.fx (by omega) (by omega))
  refine am_run (am_cK _) 1 (show am_wp (am_call (d + 19)) (0, 0) cm_X10_made Q (fun _ => False) (30, [some (.ref 40), some (.int (nI N)), some (.int (nI 0)), some (.int (nI 0)), some (.int (nI (kN N))), none], [], 0, 0) h2 from ?_)
  refine am_lp (α := Option Value) (fun i v => (30, [some (.ref 40), some (.int (nI N)), some (.int (nI (cnt (hasK (mS M) N) i))), some (.int (nI i)), some (.int (nI (kN N))), v], [], 0, 0)) (fun i _ h' => Fx h h' ∧ RXc h' (pD M (mdD M N i)) a b' dr) (kN N) (fun i v h3 hi P K => ?_) (fun v h3 P => ?_) 0 none h2 (Nat.zero_le _) ⟨F2, hX2⟩
  · obtain ⟨F3, hX3⟩ := P
    have hc := cnt_i (hasK (mS M) N) i
    refine am_run (am_cK _) 3 (pk_le (kN N) i (fun c => by omega) (fun _ => ?_))
    refine am_run (am_cK _) 2 (am_obj_in hX3.o.1 (am_run (am_cK _) 3 (am_obj_in hX3.k.choose_spec.choose_spec.choose_spec.1 ((K_kind hX3.c hX3.k (by omega) N1 N7 hi (fun h4 a4 k4 => ?_))))))
    have hX4 := hX3.pKL k4 (fun x hx => a4.2 x (by omega))
    have F4 : Fx h h4 := F3.tr (a4.fx (by omega) (by omega))
    have hk := kR_lt (n := N) (i := i) N1
    rw [← rk_dg hk]
    refine am_run (am_cK _) 1 (show am_wp (am_call (d + 19)) (0, 0) cm_X10_made Q (fun _ => False) (47, [some (.ref 40), some (.int (nI N)), some (.int (nI (cnt (hasK (mS M) N) i))), some (.int (nI i)), some (.int (nI (kN N))), some (.int (nI (rk (dg (kR N i) N) N)))], [], 0, 0) h4 from ?_)
    refine am_run (am_cK _) 2 (am_obj_in hX4.o.1 (am_run (am_cK _) 3 (am_obj_in hX4.so ((S_hasBeadsFor hX4.s.1 hs (f := dg (kR N i) N) (n := N) (by omega) (fun x _ => dg_lt _ _ x) (fun c => ?_) (fun c => ?_))))))
    · have hh : hasK (mS M) N i = false := by
        unfold hasK
        rw [beq_eq_false_iff_ne]
        exact Nat.ne_of_lt c
      have em : mdD M N (i + 1) = mdD M N i := by
        unfold mdD
        rw [cnt_f hh]
      have K2 := K (some (.int (nI (rk (dg (kR N i) N) N)))) h4 ⟨F4, by rw [em]; exact hX4⟩
      rw [cnt_f hh, nI_succ i] at K2
      exact am_run (am_cK _) 1 (⟨fun _ => am_run (am_cK _) 2 (K2), fun w => absurd rfl w⟩)
    · have hh : hasK (mS M) N i = true := by
        unfold hasK
        rw [c]
        rfl
      refine am_run (am_cK _) 1 (⟨fun w => absurd w n10, fun _ => ?_⟩)
      by_cases c0 : cnt (hasK (mS M) N) i = 0
      · have ef : fnd (hasK (mS M) N) 0 (kN N) = i := fnd_eq (Nat.zero_le _) (by omega) (fun q _ hq => cnt_z c0 q hq) (Or.inr hh)
        have em : mdD M N (i + 1) = (N, fun x => nI (dg (kR N i) N x)) := by
          unfold mdD
          rw [cnt_t hh, if_neg (by omega), ef]
        refine am_run (am_cK _) 2 (⟨fun w => absurd (show nI (cnt (hasK (mS M) N) i) = 0 by rw [c0]; rfl) w, fun _ => ?_⟩)
        refine am_run (am_cK _) 2 (am_obj_in hX4.o.1 (am_run (am_cK _) 3 (am_obj_in hX4.d.1.1 ((X_addRow hX4 (show (mdD M N i).1 = 0 by unfold mdD; rw [if_pos c0]) (show N ≤ 10 by omega) (fun x _ => dg_lt (kR N i) N x) (fun h5 a5 hX5 => ?_))))))
        have K2 := K (some (.int (nI (rk (dg (kR N i) N) N)))) h5 ⟨F4.tr (a5.fx (by omega) (by omega)), by rw [em]; exact hX5⟩
        rw [cnt_t hh, nI_succ i, nI_succ (cnt (hasK (mS M) N) i)] at K2
        exact am_run (am_cK _) 3 (K2)
      · have em : mdD M N (i + 1) = mdD M N i := by
          unfold mdD
          rw [cnt_t hh, if_neg (by omega), if_neg c0]
        have K2 := K (some (.int (nI (rk (dg (kR N i) N) N)))) h4 ⟨F4, by rw [em]; exact hX4⟩
        rw [cnt_t hh, nI_succ i, nI_succ (cnt (hasK (mS M) N) i)] at K2
        exact am_run (am_cK _) 2 (⟨fun _ => am_run (am_cK _) 3 (K2), fun w => absurd (fun e => c0 ((nI_eq (b := 0) (by omega) (by omega)).mp e)) w⟩)
  · obtain ⟨F3, hX3⟩ := P
    exact am_run (am_cK _) 3 (pk_le (kN N) (kN N) (fun _ => am_run (am_cK _) 2 (hQ h3 F3 ⟨a, b', dr, hX3⟩)) (fun c => by omega))
end
