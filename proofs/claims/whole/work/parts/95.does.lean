/-! THE MODEL does what it read -/
theorem dsw : ∀ i, i < 9 → am_tsw 13 227 0 7 #[47, 65, 83, 101, 125, 149, 173, 197] (nI i) = [60, 78, 96, 114, 138, 162, 186, 210, 240].getD i 0 := by decide +kernel
section
variable {d : Nat} {h0 h : am_H} {Q : Option Value → am_H → Prop} {F : Nat → Int32} {A : Nat → Nat → Int32} {R : Nat → Int64} {g : Nat → Int32} {tx : Nat → Nat} {k n p : Nat} {σ : Sg} {L : List Nat}
theorem M_does (W : RM h0 h F (va_up A 154 g) R) (hk : k < 60) (hS : RSm g σ) (hs : Sok σ) (hI : IL (F 16) (A 159) L) (hA : aOK tx p (A 165 k) (A 166 k) (A 167 k) (A 168 k)) (hp : p + ftl (frm (tx p)) < n) (h1 : ∀ h' F' A' g', RM h0 h' F' (va_up A' 154 g') R → AgF F F' → AgA A A' → RSm g' (dAct L tx n p σ).2 → ¬ (dAct L tx n p σ).1 < 0 → Q (some (.int 1)) h') (h2 : ∀ h' F' A' g', RM h0 h' F' (va_up A' 154 g') R → AgF F F' → AgA A A' → RSm g' (dAct L tx n p σ).2 → (dAct L tx n p σ).1 < 0 → Q (some (.int 0)) h') : am_call (d + 8) 257 [.ref 152, .int (nI k)] h Q := by
  obtain ⟨s, s9, a1, a0, a2, a3, a4⟩ := hA
  have ef := aCh_fr s s9
  rw [a0] at hp
  refine en_X11_does (Nat.le_of_ble_eq_true rfl) ?_
  refine am_run (am_cK _) 2 (am_obj_in W.o (am_run (am_cK _) 2 (am_ld W.a166 k (by omega) ?_)))
  rw [nI_clamp (by omega), show va_up A 154 g 166 k = tld (tx (p + 1)) from a2]
  refine am_run (am_cK _) 3 (am_obj_in W.o (am_run (am_cK _) 2 (am_ld W.a165 k (by omega) ?_)))
  rw [nI_clamp (by omega), show va_up A 154 g 165 k = nI s from a1]
  refine am_run (am_cK _) 1 (show am_wp (am_call (d + 7)) (0, 0) cm_X11_does Q (fun _ => False) (am_tsw 13 227 0 7 #[47, 65, 83, 101, 125, 149, 173, 197] (nI s), [some (.ref 152), some (.int (nI k)), some (.int (tld (tx (p + 1))))], [], 0, 0) h from ?_)
  rw [dsw s s9]
  have e0 : sgn tx n p = tx p := if_pos (by omega)
  unfold dAct at h1 h2
  rw [e0, a0] at h1 h2
  have hc : s = 0 ∨ s = 1 ∨ s = 2 ∨ s = 3 ∨ s = 4 ∨ s = 5 ∨ s = 6 ∨ s = 7 ∨ s = 8 := by omega
  clear s9
  obtain rfl | rfl | rfl | rfl | rfl | rfl | rfl | rfl | rfl := hc
  · have hp2 : p + 1 < n := hp
    have e1 : sgn tx n (p + 1) = tx (p + 1) := if_pos (by omega)
    rw [if_neg (show ¬ aCh 0 = 114 by decide), if_pos (show aCh 0 = 102 from rfl), e1] at h1 h2
    show am_wp (am_call (d + 7)) (0, 0) cm_X11_does Q (fun _ => False) (60, [some (.ref 152), some (.int (nI k)), some (.int (tld (tx (p + 1))))], [], 0, 0) h
    refine am_run (am_cK _) 3 (am_obj_in W.o (am_run (am_cK _) 2 (am_obj_in W.o ((M_flipsOne W (Or.inl rfl) hS hs _ (fun h3 s3 g3 W3 hS3 => ?_))))))
    exact am_run (am_cK _) 1 (⟨fun c => am_run (am_cK _) 2 (⟨Or.inl rfl, h2 h3 _ _ g3 W3 AgF.rf (fun k _ _ _ k4 => am_up_n k4) hS3 c⟩), fun c => am_run (am_cK _) 3 (⟨Or.inr rfl, h1 h3 _ _ g3 W3 AgF.rf (fun k _ _ _ k4 => am_up_n k4) hS3 c⟩)⟩)
  · have hp2 : p + 1 < n := hp
    have e1 : sgn tx n (p + 1) = tx (p + 1) := if_pos (by omega)
    rw [if_neg (show ¬ aCh 1 = 114 by decide), if_neg (show ¬ aCh 1 = 102 by decide), if_neg (show ¬ aCh 1 = 120 by decide), if_neg (show ¬ aCh 1 = 116 by decide), if_neg (show ¬ aCh 1 = 99 by decide), if_neg (show ¬ aCh 1 = 106 by decide), if_pos (show aCh 1 = 117 from rfl), e1] at h1 h2
    show am_wp (am_call (d + 7)) (0, 0) cm_X11_does Q (fun _ => False) (78, [some (.ref 152), some (.int (nI k)), some (.int (tld (tx (p + 1))))], [], 0, 0) h
    refine am_run (am_cK _) 3 (am_obj_in W.o (am_run (am_cK _) 2 (am_obj_in W.o ((M_partsOne W (Or.inl rfl) hS hs _ (fun h3 g3 W3 hS3 => ?_))))))
    exact am_run (am_cK _) 1 (⟨fun c => am_run (am_cK _) 2 (⟨Or.inl rfl, h2 h3 _ _ g3 W3 AgF.rf AgA.rf hS3 c⟩), fun c => am_run (am_cK _) 3 (⟨Or.inr rfl, h1 h3 _ _ g3 W3 AgF.rf AgA.rf hS3 c⟩)⟩)
  · have hp2 : p + 1 < n := hp
    have e1 : sgn tx n (p + 1) = tx (p + 1) := if_pos (by omega)
    rw [if_neg (show ¬ aCh 2 = 114 by decide), if_neg (show ¬ aCh 2 = 102 by decide), if_neg (show ¬ aCh 2 = 120 by decide), if_neg (show ¬ aCh 2 = 116 by decide), if_neg (show ¬ aCh 2 = 99 by decide), if_neg (show ¬ aCh 2 = 106 by decide), if_neg (show ¬ aCh 2 = 117 by decide), if_pos (show aCh 2 = 115 from rfl), e1] at h1 h2
    show am_wp (am_call (d + 7)) (0, 0) cm_X11_does Q (fun _ => False) (96, [some (.ref 152), some (.int (nI k)), some (.int (tld (tx (p + 1))))], [], 0, 0) h
    refine am_run (am_cK _) 3 (am_obj_in W.o (am_run (am_cK _) 2 (am_obj_in W.o ((M_sellsOne W (Or.inl rfl) hS hs hI _ (fun h3 F3 A3 g3 W3 aF aA hS3 => ?_))))))
    exact am_run (am_cK _) 1 (⟨fun c => am_run (am_cK _) 2 (⟨Or.inl rfl, h2 h3 _ _ g3 W3 aF aA hS3 c⟩), fun c => am_run (am_cK _) 3 (⟨Or.inr rfl, h1 h3 _ _ g3 W3 aF aA hS3 c⟩)⟩)
  · have hp2 : p + 2 < n := hp
    have e1 : sgn tx n (p + 1) = tx (p + 1) := if_pos (by omega)
    have e2 : sgn tx n (p + 2) = tx (p + 2) := if_pos (by omega)
    rw [if_pos (show aCh 3 = 114 from rfl), e1, e2] at h1 h2
    show am_wp (am_call (d + 7)) (0, 0) cm_X11_does Q (fun _ => False) (114, [some (.ref 152), some (.int (nI k)), some (.int (tld (tx (p + 1))))], [], 0, 0) h
    refine am_run (am_cK _) 3 (am_obj_in W.o (am_run (am_cK _) 3 (am_obj_in W.o (am_run (am_cK _) 2 (am_ld W.a167 k (by omega) ?_)))))
    rw [nI_clamp (by omega), show va_up A 154 g 167 k = tld (tx (p + 2)) from a3 (by omega)]
    refine am_run (am_cK _) 1 (am_obj_in W.o ((M_rollsOne W (Or.inl rfl) hS hs _ _ (fun h3 s3 g3 W3 hS3 => ?_))))
    exact am_run (am_cK _) 1 (⟨fun c => am_run (am_cK _) 2 (⟨Or.inl rfl, h2 h3 _ _ g3 W3 AgF.rf (fun k _ _ _ k4 => am_up_n k4) hS3 c⟩), fun c => am_run (am_cK _) 3 (⟨Or.inr rfl, h1 h3 _ _ g3 W3 AgF.rf (fun k _ _ _ k4 => am_up_n k4) hS3 c⟩)⟩)
  · have hp2 : p + 2 < n := hp
    have e1 : sgn tx n (p + 1) = tx (p + 1) := if_pos (by omega)
    have e2 : sgn tx n (p + 2) = tx (p + 2) := if_pos (by omega)
    rw [if_neg (show ¬ aCh 4 = 114 by decide), if_neg (show ¬ aCh 4 = 102 by decide), if_pos (show aCh 4 = 120 from rfl), e1, e2] at h1 h2
    show am_wp (am_call (d + 7)) (0, 0) cm_X11_does Q (fun _ => False) (138, [some (.ref 152), some (.int (nI k)), some (.int (tld (tx (p + 1))))], [], 0, 0) h
    refine am_run (am_cK _) 3 (am_obj_in W.o (am_run (am_cK _) 3 (am_obj_in W.o (am_run (am_cK _) 2 (am_ld W.a167 k (by omega) ?_)))))
    rw [nI_clamp (by omega), show va_up A 154 g 167 k = tld (tx (p + 2)) from a3 (by omega)]
    refine am_run (am_cK _) 1 (am_obj_in W.o ((M_swapsOne W (Or.inl rfl) hS hs _ _ (fun h3 g3 W3 hS3 => ?_))))
    exact am_run (am_cK _) 1 (⟨fun c => am_run (am_cK _) 2 (⟨Or.inl rfl, h2 h3 _ _ g3 W3 AgF.rf AgA.rf hS3 c⟩), fun c => am_run (am_cK _) 3 (⟨Or.inr rfl, h1 h3 _ _ g3 W3 AgF.rf AgA.rf hS3 c⟩)⟩)
  · have hp2 : p + 2 < n := hp
    have e1 : sgn tx n (p + 1) = tx (p + 1) := if_pos (by omega)
    have e2 : sgn tx n (p + 2) = tx (p + 2) := if_pos (by omega)
    rw [if_neg (show ¬ aCh 5 = 114 by decide), if_neg (show ¬ aCh 5 = 102 by decide), if_neg (show ¬ aCh 5 = 120 by decide), if_neg (show ¬ aCh 5 = 116 by decide), if_pos (show aCh 5 = 99 from rfl), e1, e2] at h1 h2
    show am_wp (am_call (d + 7)) (0, 0) cm_X11_does Q (fun _ => False) (162, [some (.ref 152), some (.int (nI k)), some (.int (tld (tx (p + 1))))], [], 0, 0) h
    refine am_run (am_cK _) 3 (am_obj_in W.o (am_run (am_cK _) 3 (am_obj_in W.o (am_run (am_cK _) 2 (am_ld W.a167 k (by omega) ?_)))))
    rw [nI_clamp (by omega), show va_up A 154 g 167 k = tld (tx (p + 2)) from a3 (by omega)]
    refine am_run (am_cK _) 1 (am_obj_in W.o ((M_cutsOne W (Or.inl rfl) hS hs _ _ (fun h3 g3 W3 hS3 => ?_))))
    exact am_run (am_cK _) 1 (⟨fun c => am_run (am_cK _) 2 (⟨Or.inl rfl, h2 h3 _ _ g3 W3 AgF.rf AgA.rf hS3 c⟩), fun c => am_run (am_cK _) 3 (⟨Or.inr rfl, h1 h3 _ _ g3 W3 AgF.rf AgA.rf hS3 c⟩)⟩)
  · have hp2 : p + 2 < n := hp
    have e1 : sgn tx n (p + 1) = tx (p + 1) := if_pos (by omega)
    have e2 : sgn tx n (p + 2) = tx (p + 2) := if_pos (by omega)
    rw [if_neg (show ¬ aCh 6 = 114 by decide), if_neg (show ¬ aCh 6 = 102 by decide), if_neg (show ¬ aCh 6 = 120 by decide), if_neg (show ¬ aCh 6 = 116 by decide), if_neg (show ¬ aCh 6 = 99 by decide), if_pos (show aCh 6 = 106 from rfl), e1, e2] at h1 h2
    show am_wp (am_call (d + 7)) (0, 0) cm_X11_does Q (fun _ => False) (186, [some (.ref 152), some (.int (nI k)), some (.int (tld (tx (p + 1))))], [], 0, 0) h
    refine am_run (am_cK _) 3 (am_obj_in W.o (am_run (am_cK _) 3 (am_obj_in W.o (am_run (am_cK _) 2 (am_ld W.a167 k (by omega) ?_)))))
    rw [nI_clamp (by omega), show va_up A 154 g 167 k = tld (tx (p + 2)) from a3 (by omega)]
    refine am_run (am_cK _) 1 (am_obj_in W.o ((M_joinsOne W (Or.inl rfl) hS hs _ _ (fun h3 g3 W3 hS3 => ?_))))
    exact am_run (am_cK _) 1 (⟨fun c => am_run (am_cK _) 2 (⟨Or.inl rfl, h2 h3 _ _ g3 W3 AgF.rf AgA.rf hS3 c⟩), fun c => am_run (am_cK _) 3 (⟨Or.inr rfl, h1 h3 _ _ g3 W3 AgF.rf AgA.rf hS3 c⟩)⟩)
  · have hp2 : p + 3 < n := hp
    have e1 : sgn tx n (p + 1) = tx (p + 1) := if_pos (by omega)
    have e2 : sgn tx n (p + 2) = tx (p + 2) := if_pos (by omega)
    have e3 : sgn tx n (p + 3) = tx (p + 3) := if_pos (by omega)
    rw [if_neg (show ¬ aCh 7 = 114 by decide), if_neg (show ¬ aCh 7 = 102 by decide), if_neg (show ¬ aCh 7 = 120 by decide), if_pos (show aCh 7 = 116 from rfl), e1, e2, e3] at h1 h2
    show am_wp (am_call (d + 7)) (0, 0) cm_X11_does Q (fun _ => False) (210, [some (.ref 152), some (.int (nI k)), some (.int (tld (tx (p + 1))))], [], 0, 0) h
    refine am_run (am_cK _) 3 (am_obj_in W.o (am_run (am_cK _) 3 (am_obj_in W.o (am_run (am_cK _) 2 (am_ld W.a167 k (by omega) ?_)))))
    rw [nI_clamp (by omega), show va_up A 154 g 167 k = tld (tx (p + 2)) from a3 (by omega)]
    refine am_run (am_cK _) 2 (am_obj_in W.o (am_run (am_cK _) 2 (am_ld W.a168 k (by omega) ?_)))
    rw [nI_clamp (by omega), show va_up A 154 g 168 k = tld (tx (p + 3)) from a4 rfl]
    refine am_run (am_cK _) 1 (am_obj_in W.o ((M_threadsOne W (Or.inl rfl) hS hs _ _ _ (fun h3 g3 W3 hS3 => ?_))))
    exact am_run (am_cK _) 1 (⟨fun c => am_run (am_cK _) 2 (⟨Or.inl rfl, h2 h3 _ _ g3 W3 AgF.rf AgA.rf hS3 c⟩), fun c => am_run (am_cK _) 3 (⟨Or.inr rfl, h1 h3 _ _ g3 W3 AgF.rf AgA.rf hS3 c⟩)⟩)
  · have hp2 : p + 2 < n := hp
    have e1 : sgn tx n (p + 1) = tx (p + 1) := if_pos (by omega)
    have e2 : sgn tx n (p + 2) = tx (p + 2) := if_pos (by omega)
    rw [if_neg (show ¬ aCh 8 = 114 by decide), if_neg (show ¬ aCh 8 = 102 by decide), if_neg (show ¬ aCh 8 = 120 by decide), if_neg (show ¬ aCh 8 = 116 by decide), if_neg (show ¬ aCh 8 = 99 by decide), if_neg (show ¬ aCh 8 = 106 by decide), if_neg (show ¬ aCh 8 = 117 by decide), if_neg (show ¬ aCh 8 = 115 by decide), e1, e2] at h1 h2
    show am_wp (am_call (d + 7)) (0, 0) cm_X11_does Q (fun _ => False) (240, [some (.ref 152), some (.int (nI k)), some (.int (tld (tx (p + 1))))], [], 0, 0) h
    refine am_run (am_cK _) 3 (am_obj_in W.o (am_run (am_cK _) 3 (am_obj_in W.o (am_run (am_cK _) 2 (am_ld W.a167 k (by omega) ?_)))))
    rw [nI_clamp (by omega), show va_up A 154 g 167 k = tld (tx (p + 2)) from a3 (by omega)]
    refine am_run (am_cK _) 1 (am_obj_in W.o ((M_buysOne W (Or.inl rfl) hS hs _ _ (fun h3 g3 W3 hS3 => ?_))))
    exact am_run (am_cK _) 1 (⟨fun c => am_run (am_cK _) 2 (⟨Or.inl rfl, h2 h3 _ _ g3 W3 AgF.rf AgA.rf hS3 c⟩), fun c => am_run (am_cK _) 3 (⟨Or.inr rfl, h1 h3 _ _ g3 W3 AgF.rf AgA.rf hS3 c⟩)⟩)
end
