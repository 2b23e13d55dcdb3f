/-! the two constructors -/
def Sg0 : Sg := (0, fun _ => 0, fun _ _ => 0, fun _ => 0, 0)
theorem Sok0 : Sok Sg0 := ⟨by decide, fun b hb => absurd hb (Nat.not_lt_zero b), fun _ _ => Nat.zero_le _, Nat.zero_le _⟩
theorem lt_len {i n : Nat} (h : Nat.ble (i + 1) n = true) : i < n := Nat.le_of_ble_eq_true h
section
variable {d p : Nat} {h : am_H} {Q : Option Value → am_H → Prop}
/-- an array is made and put -/
theorem am_na {ci i : Nat} {fs : List Value} {c : am_C} {K : am_H → Prop} (hp : h.2 p = .inr (ci, fs)) (hlt : p < h.1) (hi : i < fs.length) (H : ∀ h', h'.1 = h.1 + 1 → h'.2 p = .inr (ci, fs.set i (.ref h.1)) → h'.2 h.1 = c → (∀ q, q < h.1 → q ≠ p → h'.2 q = h.2 q) → K h') : am_obj (am_add h c) p ci (fun fs => if i < fs.length then am_fit 1 (.ref h.1) (K (am_set (am_add h c) p (.inr (ci, fs.set i (.ref h.1))))) else False) := by
  refine am_obj_in (show (am_add h c).2 p = .inr (ci, fs) from (am_up_n (by omega)).trans hp) ?_
  show if i < fs.length then am_fit 1 (.ref h.1) (K (am_set (am_add h c) p (.inr (ci, fs.set i (.ref h.1))))) else False
  rw [if_pos hi]
  exact H _ rfl as_s ((as_n (by omega)).trans am_up_s) (fun q q1 q2 => (as_n q2).trans (am_up_n (by omega)))
/-- what was made is put -/
theorem am_pf {ci i : Nat} {fs : List Value} {v : Nat} {K : am_H → Prop} (hp : h.2 p = .inr (ci, fs)) (hi : i < fs.length) (H : ∀ h', h'.1 = h.1 → h'.2 p = .inr (ci, fs.set i (.ref v)) → (∀ q, q ≠ p → h'.2 q = h.2 q) → K h') : am_obj h p ci (fun fs => if i < fs.length then am_fit 1 (.ref v) (K (am_set h p (.inr (ci, fs.set i (.ref v))))) else False) := by
  refine am_obj_in hp ?_
  show if i < fs.length then am_fit 1 (.ref v) (K (am_set h p (.inr (ci, fs.set i (.ref v))))) else False
  rw [if_pos hi]
  exact H _ rfl as_s (fun q hq => as_n hq)
theorem I_stall (hp : h.2 p = .inr (4, am_newf 4)) (h1 : h.1 = p + 1) (hQ : ∀ h', h'.1 = p + 4 → RS h' p Sg0 → (∀ q, q < p → h'.2 q = h.2 q) → Q none h') : am_call (d + 2) 77 [.ref p] h Q := by
  refine en_X7_init (Nat.le_of_ble_eq_true rfl) ?_
  refine am_run (am_cK _) 2 (show am_wp (am_call (d + 1)) (3, 14) cm_X7_init Q (fun _ => False) (4, [some (.ref p)], [], 0, 0) h from ?_)
  refine am_run (am_cK _) 3 ⟨by decide, by decide, by decide, by decide, am_run (am_cK _) 1 (am_na hp (by omega) (lt_len rfl) (fun g1 a1 b1 c1 f1 => ?_))⟩
  refine am_run (am_cK _) 3 ⟨by decide, by decide, by decide, by decide, am_run (am_cK _) 1 (am_na b1 (by omega) (lt_len rfl) (fun g2 a2 b2 c2 f2 => ?_))⟩
  refine am_run (am_cK _) 3 ⟨by decide, by decide, by decide, by decide, am_run (am_cK _) 1 (am_na b2 (by omega) (lt_len rfl) (fun g3 a3 b3 c3 f3 => ?_))⟩
  rw [h1] at a1 b1 c1 b2 b3
  rw [a1] at a2 b2 c2 b3
  rw [a2] at a3 b3 c3
  refine am_run (am_cK _) 1 (hQ g3 a3 ⟨fun _ => 0, fun _ => 0, fun _ => 0, b3, (f3 _ (by omega) (by omega)).trans ((f2 _ (by omega) (by omega)).trans c1), (f3 _ (by omega) (by omega)).trans c2, c3, fun b hb => absurd hb (Nat.not_lt_zero b), fun _ _ => rfl⟩ (fun q hq => (f3 q (by omega) (by omega)).trans ((f2 q (by omega) (by omega)).trans (f1 q (by omega) (by omega)))))
theorem I_text (hp : h.2 p = .inr (5, am_newf 5)) (h1 : h.1 = p + 1) (hQ : ∀ h', h'.1 = p + 2 → RT h' p 0 (fun _ => 0) 0 0 → (∀ q, q < p → h'.2 q = h.2 q) → Q none h') : am_call (d + 2) 103 [.ref p] h Q := by
  refine en_X8_init (Nat.le_of_ble_eq_true rfl) ?_
  refine am_run (am_cK _) 2 (show am_wp (am_call (d + 1)) (1, 80) cm_X8_init Q (fun _ => False) (4, [some (.ref p)], [], 0, 0) h from ?_)
  refine am_run (am_cK _) 3 ⟨by decide, by decide, by decide, by decide, am_run (am_cK _) 1 (am_na hp (by omega) (lt_len rfl) (fun g1 a1 b1 c1 f1 => ?_))⟩
  rw [h1] at a1 b1 c1
  exact am_run (am_cK _) 1 (hQ g1 a1 ⟨b1, by decide, fun _ => 0, c1, fun i hi => absurd hi (Nat.not_lt_zero i)⟩ (fun q hq => f1 q (by omega) (by omega)))
theorem I_told (hp : h.2 p = .inr (6, am_newf 6)) (h1 : h.1 = p + 1) (hQ : ∀ h', h'.1 = p + 2 → RD h' p 0 (fun _ => 0) → (∀ q, q < p → h'.2 q = h.2 q) → Q none h') : am_call (d + 2) 110 [.ref p] h Q := by
  refine en_X9_init (Nat.le_of_ble_eq_true rfl) ?_
  refine am_run (am_cK _) 2 (show am_wp (am_call (d + 1)) (1, 16) cm_X9_init Q (fun _ => False) (4, [some (.ref p)], [], 0, 0) h from ?_)
  refine am_run (am_cK _) 3 ⟨by decide, by decide, by decide, by decide, am_run (am_cK _) 1 (am_na hp (by omega) (lt_len rfl) (fun g1 a1 b1 c1 f1 => ?_))⟩
  rw [h1] at a1 b1 c1
  exact am_run (am_cK _) 1 (hQ g1 a1 ⟨b1, fun _ => 0, c1, fun i hi => absurd hi (Nat.not_lt_zero i)⟩ (fun q hq => f1 q (by omega) (by omega)))
theorem I_lists (hO : RO h) (hp40 : 40 ≤ p) (hp : h.2 p = .inr (1, am_newf 1)) (h1 : h.1 = p + 1) (hQ : ∀ h', h'.1 = p + 3 → RK h' p → (∀ q, q < p → h'.2 q = h.2 q) → Q none h') : am_call (d + 2) 49 [.ref p] h Q := by
  refine en_X4_init (Nat.le_of_ble_eq_true rfl) ?_
  refine am_run (am_cK _) 2 (show am_wp (am_call (d + 1)) (2, 1963) cm_X4_init Q (fun _ => False) (4, [some (.ref p)], [], 0, 0) h from ?_)
  refine am_run (am_cK _) 4 (am_rdi_ro hO.1 ⟨vp_in_nI (n := 8) (N := 9) (by omega) (by omega), ?_⟩)
  refine am_run (am_cK _) 1 ⟨by decide, by decide, by decide, by decide, am_run (am_cK _) 1 (am_na hp (by omega) (lt_len rfl) (fun g1 a1 b1 c1 f1 => ?_))⟩
  refine am_run (am_cK _) 3 ⟨by decide, by decide, by decide, by decide, am_run (am_cK _) 1 (am_na b1 (by omega) (lt_len rfl) (fun g2 a2 b2 c2 f2 => ?_))⟩
  rw [h1] at a1 b1 c1 b2
  rw [a1] at a2 b2 c2
  exact am_run (am_cK _) 1 (hQ g2 a2 ⟨0, fun _ => 0, fun _ => 0, b2, (f2 _ (by omega) (by omega)).trans c1, c2, fun n _ _ => Or.inl rfl⟩ (fun q hq => (f2 q (by omega) (by omega)).trans (f1 q (by omega) (by omega))))
theorem I_clues10 (hp : h.2 p = .inr (0, am_newf 0)) (h1 : h.1 = p + 1) (hQ : ∀ h', h'.1 = p + 3 → RC h' p 10 0 (fun _ => 0) (fun _ => 0) → (∀ q, q < p → h'.2 q = h.2 q) → Q none h') : am_call (d + 2) 22 [.ref p, .int 10] h Q := by
  refine en_X1_init (Nat.le_of_ble_eq_true rfl) ?_
  refine am_run (am_cK _) 2 (show am_wp (am_call (d + 1)) (2, 24) cm_X1_init Q (fun _ => False) (4, [some (.ref p), some (.int 10)], [], 0, 0) h from ?_)
  refine am_run (am_cK _) 4 (J_maxE 0 10 rfl rfl (by omega) (by omega) ?_)
  refine am_run (am_cK _) 1 ⟨by decide, by decide, by decide, by decide, am_run (am_cK _) 1 (am_na hp (by omega) (lt_len rfl) (fun g1 a1 b1 c1 f1 => ?_))⟩
  refine am_run (am_cK _) 4 (J_maxE 0 10 rfl rfl (by omega) (by omega) ?_)
  refine am_run (am_cK _) 1 ⟨by decide, by decide, by decide, by decide, am_run (am_cK _) 1 (am_na b1 (by omega) (lt_len rfl) (fun g2 a2 b2 c2 f2 => ?_))⟩
  rw [h1] at a1 b1 c1 b2
  rw [a1] at a2 b2 c2
  exact am_run (am_cK _) 1 (hQ g2 a2 ⟨b2, by decide, by decide, fun _ => 0, fun _ => 0, (f2 _ (by omega) (by omega)).trans c1, c2, fun i hi => absurd hi (Nat.not_lt_zero i)⟩ (fun q hq => (f2 q (by omega) (by omega)).trans (f1 q (by omega) (by omega))))
theorem I_clues12 (hp : h.2 p = .inr (0, am_newf 0)) (h1 : h.1 = p + 1) (hQ : ∀ h', h'.1 = p + 3 → RC h' p 12 0 (fun _ => 0) (fun _ => 0) → (∀ q, q < p → h'.2 q = h.2 q) → Q none h') : am_call (d + 2) 22 [.ref p, .int 12] h Q := by
  refine en_X1_init (Nat.le_of_ble_eq_true rfl) ?_
  refine am_run (am_cK _) 2 (show am_wp (am_call (d + 1)) (2, 24) cm_X1_init Q (fun _ => False) (4, [some (.ref p), some (.int 12)], [], 0, 0) h from ?_)
  refine am_run (am_cK _) 4 (J_maxE 0 12 rfl rfl (by omega) (by omega) ?_)
  refine am_run (am_cK _) 1 ⟨by decide, by decide, by decide, by decide, am_run (am_cK _) 1 (am_na hp (by omega) (lt_len rfl) (fun g1 a1 b1 c1 f1 => ?_))⟩
  refine am_run (am_cK _) 4 (J_maxE 0 12 rfl rfl (by omega) (by omega) ?_)
  refine am_run (am_cK _) 1 ⟨by decide, by decide, by decide, by decide, am_run (am_cK _) 1 (am_na b1 (by omega) (lt_len rfl) (fun g2 a2 b2 c2 f2 => ?_))⟩
  rw [h1] at a1 b1 c1 b2
  rw [a1] at a2 b2 c2
  exact am_run (am_cK _) 1 (hQ g2 a2 ⟨b2, by decide, by decide, fun _ => 0, fun _ => 0, (f2 _ (by omega) (by omega)).trans c1, c2, fun i hi => absurd hi (Nat.not_lt_zero i)⟩ (fun q hq => (f2 q (by omega) (by omega)).trans (f1 q (by omega) (by omega))))
theorem I_rule (hp : h.2 p = .inr (3, am_newf 3)) (h1 : h.1 = p + 1) (hQ : ∀ h', h'.1 = p + 4 → RF h' p [] → (∀ q, q < p → h'.2 q = h.2 q) → Q none h') : am_call (d + 2) 63 [.ref p] h Q := by
  refine en_X6_init (Nat.le_of_ble_eq_true rfl) ?_
  refine am_run (am_cK _) 2 (show am_wp (am_call (d + 1)) (3, 120) cm_X6_init Q (fun _ => False) (4, [some (.ref p)], [], 0, 0) h from ?_)
  refine am_run (am_cK _) 3 ⟨by decide, by decide, by decide, by decide, am_run (am_cK _) 1 (am_na hp (by omega) (lt_len rfl) (fun g1 a1 b1 c1 f1 => ?_))⟩
  refine am_run (am_cK _) 3 ⟨by decide, by decide, by decide, by decide, am_run (am_cK _) 1 (am_na b1 (by omega) (lt_len rfl) (fun g2 a2 b2 c2 f2 => ?_))⟩
  refine am_run (am_cK _) 3 ⟨by decide, by decide, by decide, by decide, am_run (am_cK _) 1 (am_na b2 (by omega) (lt_len rfl) (fun g3 a3 b3 c3 f3 => ?_))⟩
  rw [h1] at a1 b1 c1 b2 b3
  rw [a1] at a2 b2 c2 b3
  rw [a2] at a3 b3 c3
  exact am_run (am_cK _) 1 (hQ g3 a3 ⟨fun _ => 0, (fun _ => 0, 0), fun _ => 0, 0, 0, 0, 0, 0, b3, (f3 _ (by omega) (by omega)).trans ((f2 _ (by omega) (by omega)).trans c1), (f3 _ (by omega) (by omega)).trans c2, c3, Ar_nil⟩ (fun q hq => (f3 q (by omega) (by omega)).trans ((f2 q (by omega) (by omega)).trans (f1 q (by omega) (by omega)))))
end
