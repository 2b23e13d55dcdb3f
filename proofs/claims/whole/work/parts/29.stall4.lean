/-- a bead is put in at i -/
def ins (f : Nat → Nat) (i c : Nat) : Nat → Nat := fun j => if j < i then f j else if j = i then c else f (j - 1)
/-- the bead at i is taken out -/
def del (f : Nat → Nat) (i : Nat) : Nat → Nat := fun j => if j < i then f j else f (j + 1)
/-- two rows, one behind the other -/
def app (f : Nat → Nat) (n : Nat) (g : Nat → Nat) : Nat → Nat := fun j => if j < n then f j else g (j - n)
theorem ins_lt {f : Nat → Nat} {n i c : Nat} (hi : i ≤ n) (hc : c < 4) (hf : ∀ i, i < n → f i < 4) : ∀ j, j < n + 1 → ins f i c j < 4 := fun j hj => by
  unfold ins
  split
  · exact hf j (by omega)
  · split
    · exact hc
    · exact hf (j - 1) (by omega)
theorem del_lt {f : Nat → Nat} {n i : Nat} (hi : i < n) (hf : ∀ i, i < n → f i < 4) : ∀ j, j < n - 1 → del f i j < 4 := fun j hj => by
  unfold del
  split
  · exact hf j (by omega)
  · exact hf (j + 1) (by omega)
theorem app_lt {f g : Nat → Nat} {n m : Nat} (hf : ∀ i, i < n → f i < 4) (hg : ∀ i, i < m → g i < 4) : ∀ j, j < n + m → app f n g j < 4 := fun j hj => by
  unfold app
  split
  · exact hf j (by omega)
  · exact hg (j - n) (by omega)
theorem rk_low {f : Nat → Nat} {n m : Nat} (hm : m ≤ n) (hf : ∀ i, i < n → f i < 4) : rk f n % 4 ^ m = rk (fun i => f (n - m + i)) m := by
  have hs := rk_split f (n - m) m
  rw [show n - m + m = n by omega] at hs
  rw [hs, Nat.mul_comm, Nat.mul_add_mod, Nat.mod_eq_of_lt (rk_lt (fun j hj => hf _ (by omega)))]
theorem rk_ins {f : Nat → Nat} {n i c : Nat} (hi : i ≤ n) (hf : ∀ i, i < n → f i < 4) : rk (ins f i c) (n + 1) = (rk f n / 4 ^ (n - i) * 4 + c) * 4 ^ (n - i) + rk f n % 4 ^ (n - i) := by
  rw [rk_low (by omega) hf, show n - (n - i) = i by omega, rk_top hi hf]
  have hs := rk_split (ins f i c) (i + 1) (n - i)
  rw [show i + 1 + (n - i) = n + 1 by omega] at hs
  rw [hs, rk]
  have e1 : rk (ins f i c) i = rk f i := rk_congr (fun j hj => by unfold ins; rw [if_pos hj])
  have e2 : ins f i c i = c := by unfold ins; rw [if_neg (by omega), if_pos rfl]
  have e3 : rk (fun j => ins f i c (i + 1 + j)) (n - i) = rk (fun j => f (i + j)) (n - i) := rk_congr (fun j hj => by
    show ins f i c (i + 1 + j) = f (i + j)
    unfold ins
    rw [if_neg (by omega), if_neg (by omega), show i + 1 + j - 1 = i + j by omega])
  rw [e1, e2, e3, Nat.mul_comm 4]
theorem rk_del {f : Nat → Nat} {n i : Nat} (hi : i < n) (hf : ∀ i, i < n → f i < 4) : rk (del f i) (n - 1) = rk f n / 4 ^ (n - 1 - i + 1) * 4 ^ (n - 1 - i) + rk f n % 4 ^ (n - 1 - i) := by
  rw [rk_low (by omega) hf, show n - 1 - i + 1 = n - i by omega, rk_top (by omega) hf]
  have hs := rk_split (del f i) i (n - 1 - i)
  rw [show i + (n - 1 - i) = n - 1 by omega] at hs
  rw [hs]
  congr 1
  · congr 1
    exact rk_congr (fun j hj => by unfold del; rw [if_pos hj])
  · exact rk_congr (fun j hj => by
      show del f i (i + j) = f (n - (n - 1 - i) + j)
      unfold del
      rw [if_neg (by omega)]
      congr 1
      omega)
theorem rk_app {f g : Nat → Nat} {n m : Nat} : rk (app f n g) (n + m) = rk f n * 4 ^ m + rk g m := by
  rw [rk_split]
  congr 1
  · congr 1
    exact rk_congr (fun j hj => by unfold app; rw [if_pos hj])
  · exact rk_congr (fun j hj => by
      show app f n g (n + j) = g j
      unfold app
      rw [if_neg (by omega), Nat.add_sub_cancel_left])
def sThread (σ : Sg) (b i c : Int32) : Int32 × Sg := if b < 0 ∨ nI (sN σ) ≤ b then (-1, σ) else
  let j := b.toNatClampNeg
  if i < 0 ∨ nI (sZ σ j) < i ∨ c < 0 ∨ 4 ≤ c then (-1, σ) else
  if 10 ≤ sZ σ j then (-2, σ) else
  let x := c.toNatClampNeg
  if sK σ x = 0 then (-3, σ) else (nI (sZ σ j + 1), setK (setB σ j (sZ σ j + 1) (ins (sB σ j) i.toNatClampNeg x)) (va_up (sK σ) x (sK σ x - 1)))
def sCut (σ : Sg) (b i : Int32) : Int32 × Sg := if b < 0 ∨ nI (sN σ) ≤ b then (-1, σ) else
  let j := b.toNatClampNeg
  if i < 0 ∨ nI (sZ σ j) ≤ i then (-1, σ) else
  if sZ σ j = 1 then (-2, σ) else
  let x := i.toNatClampNeg
  (nI (sB σ j x), setK (setB σ j (sZ σ j - 1) (del (sB σ j) x)) (va_up (sK σ) (sB σ j x) (Nat.min 99 (sK σ (sB σ j x) + 1))))
def sJoin (σ : Sg) (b o : Int32) : Int32 × Sg := if b < 0 ∨ nI (sN σ) ≤ b ∨ o < 0 ∨ nI (sN σ) ≤ o ∨ b = o then (-1, σ) else
  let j := b.toNatClampNeg
  let k := o.toNatClampNeg
  if 10 < sZ σ j + sZ σ k then (-2, σ) else (nI (sZ σ j + sZ σ k), sDrop (setB σ j (sZ σ j + sZ σ k) (app (sB σ j) (sZ σ j) (sB σ k))) k)
def sPart (σ : Sg) (b : Int32) : Int32 × Sg := if b < 0 ∨ nI (sN σ) ≤ b then (-1, σ) else
  let j := b.toNatClampNeg
  (nI (sZ σ j), sDrop (setK σ (fun c => if c < 4 then Nat.min 99 (sK σ c + num (sB σ j) (sZ σ j) c) else sK σ c)) j)
section
variable {d : Nat} {h : am_H} {Q : Option Value → am_H → Prop} {p : Nat} {σ : Sg}
theorem S_no {j : Nat} (hs : Sok σ) (hj : j < sN σ) : ¬ (nI j < 0 ∨ nI (sN σ) ≤ nI j) := by
  have := hs.1
  rintro (c | c)
  · exact nI_pos (by omega) c
  · exact nI_ge hj (by omega) c
theorem S_buy (hR : RS h p σ) (hs : Sok σ) (c n : Int32) (hQ : ∀ h', Ag p h h' → RS h' p (sBuy σ c n).2 → Q (some (.int (sBuy σ c n).1)) h') : am_call (d + 2) 93 [.ref p, .int c, .int n] h Q := by
  have hR0 := hR
  obtain ⟨r, z, kk, e0, e1, e2, e3, e4, e5⟩ := hR
  have hP := hs.2.2.2
  have fin : ∀ a, sBuy σ c n = (a, σ) → Q (some (.int a)) h := fun a e => by
    have q := hQ h Ag.rf (by rw [e]; exact hR0)
    rw [e] at q
    exact q
  have no : (c < 0 ∨ 4 ≤ c ∨ n < 1 ∨ 9 < n) → Q (some (.int (-1))) h := fun w => fin _ (by unfold sBuy; rw [if_pos w])
  refine en_X7_buy (Nat.le_of_ble_eq_true rfl) (am_run (am_cK _) 2 (B_isNoColour c (fun w => ?_) (fun w => ?_)))
  · exact am_run (am_cK _) 1 ⟨fun _ => am_run (am_cK _) 2 (no (w.elim Or.inl (fun z => Or.inr (Or.inl z)))), fun z => absurd n10 z⟩
  · refine am_run (am_cK _) 1 ⟨fun z => absurd rfl z, fun _ => ?_⟩
    refine am_run (am_cK _) 3 ⟨fun w1 => am_run (am_cK _) 2 (no (Or.inr (Or.inr (Or.inl w1)))), fun w1 => ?_⟩
    refine am_run (am_cK _) 3 ⟨fun w2 => ?_, fun w2 => am_run (am_cK _) 2 (no (Or.inr (Or.inr (Or.inr (Int32.not_le.mp w2)))))⟩
    obtain ⟨j, hj31, hj⟩ := nI_of (fun z => w (Or.inl z))
    subst hj
    have hj4 : j < 4 := Nat.lt_of_not_le (fun z => w (Or.inr ((nI_leI (a := 4) (by omega) hj31).mpr z)))
    have hn0 : ¬ n < 0 := fun z => w1 (Int32.lt_trans z (by decide))
    obtain ⟨m, hm31, hm⟩ := nI_of hn0
    subst hm
    have hm9 : m ≤ 9 := (nI_leI (b := 9) hm31 (by omega)).mp w2
    have hk := hs.2.2.1 j hj4
    have hc1 : ¬ (nI j < 0 ∨ 4 ≤ nI j ∨ nI m < 1 ∨ 9 < nI m) := by
      rintro (z | z | z | z)
      · exact w (Or.inl z)
      · exact w (Or.inr z)
      · exact w1 z
      · exact nI_nlt (a := 9) (b := m) hm9 (by omega) z
    have esp : sBuy σ (nI j) (nI m) = if sP σ < m then (-2, σ) else if 99 < sK σ j + m then (-3, σ) else (nI (sK σ j + m), (sN σ, sZ σ, sB σ, va_up (sK σ) j (sK σ j + m), sP σ - m)) := by
      unfold sBuy
      rw [if_neg hc1, nI_clamp hj31, nI_clamp hm31]
    refine am_run (am_cK _) 2 (am_obj_in e0 (am_run (am_cK _) 2 ⟨fun w3 => ?_, fun w3 => ?_⟩))
    · have h3 : m ≤ sP σ := (nI_leI (by omega) (by omega)).mp w3
      rw [if_neg (by omega)] at esp
      refine am_run (am_cK _) 2 (am_obj_in e0 (am_run (am_cK _) 2 (am_rdi_in e3 ⟨vp_in_nI (by omega) (by omega), ?_⟩)))
      rw [nI_clamp hj31, e5 j hj4]
      refine am_run (am_cK _) 4 ⟨fun w4 => ?_, fun w4 => ?_⟩
      · have h4 : sK σ j + m ≤ 99 := (nI_leI (b := 99) (by omega) (by omega)).mp (show nI (sK σ j + m) ≤ nI 99 by rw [← nI_add]; exact w4)
        rw [if_neg (by omega)] at esp
        have q := hQ
        rw [esp] at q
        refine am_run (am_cK _) 3 (am_obj_in e0 (am_run (am_cK _) 3 (am_obj_in e0 ?_)))
        have e9 : nI (sP σ) - nI m = nI (sP σ - m) := pk_sub h3
        have f0 : (am_set h p (.inr (4, [Value.ref (p + 1), Value.ref (p + 2), Value.ref (p + 3), Value.int (nI (sN σ)), Value.int (nI (sP σ) - nI m)]))).2 p = cS p (sN σ) (sP σ - m) := by rw [as_s, e9]
        have f3 : (am_set h p (.inr (4, [Value.ref (p + 1), Value.ref (p + 2), Value.ref (p + 3), Value.int (nI (sN σ)), Value.int (nI (sP σ) - nI m)]))).2 (p + 3) = aI 4 kk := (as_n (by omega)).trans e3
        refine am_run (am_cK _) 2 (am_obj_in f0 (am_run (am_cK _) 3 (am_rdi_in f3 ⟨vp_in_nI (by omega) (by omega), ?_⟩)))
        rw [nI_clamp hj31, e5 j hj4]
        refine am_run (am_cK _) 3 (am_ari_in f3 ⟨vp_in_nI (by omega) (by omega), ?_⟩)
        rw [nI_clamp hj31, nI_add]
        refine am_run (am_cK _) 2 (am_obj_in ((as_n (by omega)).trans f0) (am_run (am_cK _) 2 (am_rdi_in as_s ⟨vp_in_nI (by omega) (by omega), ?_⟩)))
        rw [nI_clamp hj31, upd_s]
        refine am_run (am_cK _) 1 (q _ ((Ag.set (by omega)).trans (Ag.set (by omega))) ?_)
        refine ⟨r, z, upd kk j (nI (sK σ j + m)), (as_n (by omega)).trans f0, (as_n (by omega)).trans ((as_n (by omega)).trans e1), (as_n (by omega)).trans ((as_n (by omega)).trans e2), as_s, e4, fun c' hc' => ?_⟩
        show upd kk j (nI (sK σ j + m)) c' = nI (va_up (sK σ) j (sK σ j + m) c')
        by_cases e : c' = j
        · rw [e, upd_s, am_up_s]
        · rw [upd_n e, am_up_n e]; exact e5 c' hc'
      · have h4 : 99 < sK σ j + m := Nat.lt_of_not_le (fun z => w4 (show nI (sK σ j) + nI m ≤ nI 99 by rw [nI_add]; exact (nI_leI (by omega) (by omega)).mpr z))
        rw [if_pos h4] at esp
        exact am_run (am_cK _) 2 (fin _ esp)
    · have h3 : sP σ < m := Nat.lt_of_not_le (fun z => w3 ((nI_leI (by omega) (by omega)).mpr z))
      rw [if_pos h3] at esp
      exact am_run (am_cK _) 2 (fin _ esp)
theorem S_join (hR : RS h p σ) (hs : Sok σ) (b o : Int32) (hQ : ∀ h', Ag p h h' → RS h' p (sJoin σ b o).2 → Q (some (.int (sJoin σ b o).1)) h') : am_call (d + 2) 90 [.ref p, .int b, .int o] h Q := by
  have hR0 := hR
  obtain ⟨r, z, kk, e0, e1, e2, e3, e4, e5⟩ := hR
  have hN := hs.1
  have fin : ∀ a, sJoin σ b o = (a, σ) → Q (some (.int a)) h := fun a e => by
    have q := hQ h Ag.rf (by rw [e]; exact hR0)
    rw [e] at q
    exact q
  have no : (b < 0 ∨ nI (sN σ) ≤ b ∨ o < 0 ∨ nI (sN σ) ≤ o ∨ b = o) → Q (some (.int (-1))) h := fun w => fin _ (by unfold sJoin; rw [if_pos w])
  refine en_X7_join (Nat.le_of_ble_eq_true rfl) (am_run (am_cK _) 3 (am_obj_in e0 (S_lacks hR0 hs b (fun c => ?_) (fun j hj e => ?_))))
  · exact am_run (am_cK _) 1 ⟨fun _ => am_run (am_cK _) 2 (no (c.elim Or.inl (fun z => Or.inr (Or.inl z)))), fun z => absurd n10 z⟩
  subst e
  refine am_run (am_cK _) 1 ⟨fun z => absurd rfl z, fun _ => am_run (am_cK _) 3 (am_obj_in e0 (S_lacks hR0 hs o (fun c => ?_) (fun k hk e => ?_)))⟩
  · exact am_run (am_cK _) 1 ⟨fun _ => am_run (am_cK _) 2 (no (c.elim (fun z => Or.inr (Or.inr (Or.inl z))) (fun z => Or.inr (Or.inr (Or.inr (Or.inl z)))))), fun z => absurd n10 z⟩
  subst e
  have hzj := hs.2.1 j hj
  have hzk := hs.2.1 k hk
  refine am_run (am_cK _) 1 ⟨fun z => absurd rfl z, fun _ => am_run (am_cK _) 3 ⟨fun c => ?_, fun c => ?_⟩⟩
  · have hne : ¬ j = k := fun z => c (by rw [z])
    have hc1 : ¬ (nI j < 0 ∨ nI (sN σ) ≤ nI j ∨ nI k < 0 ∨ nI (sN σ) ≤ nI k ∨ nI j = nI k) := by
      rintro (w | w | w | w | w)
      · exact S_no hs hj (Or.inl w)
      · exact S_no hs hj (Or.inr w)
      · exact S_no hs hk (Or.inl w)
      · exact S_no hs hk (Or.inr w)
      · exact c w
    have esp : sJoin σ (nI j) (nI k) = if 10 < sZ σ j + sZ σ k then (-2, σ) else (nI (sZ σ j + sZ σ k), sDrop (setB σ j (sZ σ j + sZ σ k) (app (sB σ j) (sZ σ j) (sB σ k))) k) := by
      unfold sJoin
      rw [if_neg hc1, nI_clamp (by omega), nI_clamp (by omega)]
    refine am_run (am_cK _) 2 (am_obj_in e0 (am_run (am_cK _) 2 (am_rdi_in e2 ⟨vp_in_nI (by omega) (by omega), ?_⟩)))
    rw [nI_clamp (by omega), (e4 j hj).2]
    refine am_run (am_cK _) 2 (am_obj_in e0 (am_run (am_cK _) 2 (am_rdi_in e2 ⟨vp_in_nI (by omega) (by omega), ?_⟩)))
    rw [nI_clamp (by omega), (e4 k hk).2]
    refine am_run (am_cK _) 2 (show am_wp (am_call (d + 1)) (0, 0) cm_X7_join Q (fun _ => False) (37, [some (.ref p), some (.int (nI j)), some (.int (nI k)), some (.int (nI (sZ σ j) + nI (sZ σ k)))], [], 0, 0) h from ?_)
    rw [nI_add]
    refine am_run (am_cK _) 3 ⟨fun w => ?_, fun w => ?_⟩
    · have h10 : sZ σ j + sZ σ k ≤ 10 := (nI_leI (b := 10) (by omega) (by omega)).mp w
      rw [if_neg (by omega)] at esp
      have q := hQ
      rw [esp] at q
      refine am_run (am_cK _) 2 (am_obj_in e0 (am_run (am_cK _) 3 (am_obj_in e0 (am_run (am_cK _) 2 (am_rdi_in e1 ⟨vp_in_nI (by omega) (by omega), ?_⟩)))))
      rw [nI_clamp (by omega), (e4 j hj).1]
      refine am_run (am_cK _) 3 (am_obj_in e0 (am_run (am_cK _) 2 (am_rdi_in e2 ⟨vp_in_nI (by omega) (by omega), ?_⟩)))
      rw [nI_clamp (by omega), (e4 k hk).2]
      refine am_run (am_cK _) 4 (am_obj_in e0 (am_run (am_cK _) 2 (am_rdi_in e1 ⟨vp_in_nI (by omega) (by omega), ?_⟩)))
      rw [nI_clamp (by omega), (e4 k hk).1]
      have e9 : nI (rk (sB σ j) (sZ σ j)) <<< ((2 * nI (sZ σ k)) &&& 31) ||| nI (rk (sB σ k) (sZ σ k)) = nI (rk (app (sB σ j) (sZ σ j) (sB σ k)) (sZ σ j + sZ σ k)) := by
        have e1 : (2 : Int32) * nI (sZ σ k) = nI (2 * sZ σ k) := pk_mul 2 _
        have hl : rk (sB σ k) (sZ σ k) < 2 ^ (2 * sZ σ k) := by rw [← p4]; exact rk_lt hzk.2.2
        rw [e1, q_shl _ (by omega), q_or, q_orAdd hl, ← p4, rk_app]
      refine am_run (am_cK _) 2 (am_ari_in e1 ⟨vp_in_nI (by omega) (by omega), ?_⟩)
      rw [nI_clamp (by omega), e9]
      refine am_run (am_cK _) 2 (am_obj_in ((as_n (by omega)).trans e0) (am_run (am_cK _) 3 (am_ari_in ((as_n (by omega)).trans e2) ⟨vp_in_nI (by omega) (by omega), ?_⟩)))
      rw [nI_clamp (by omega)]
      have hs1 : Sok (setB σ j (sZ σ j + sZ σ k) (app (sB σ j) (sZ σ j) (sB σ k))) := setB_ok hs (by omega) h10 (app_lt hzj.2.2 hzk.2.2)
      have hR1 : RS (am_set (am_set h (p + 1) (aI 5 (upd r j (nI (rk (app (sB σ j) (sZ σ j) (sB σ k)) (sZ σ j + sZ σ k)))))) (p + 2) (aI 5 (upd z j (nI (sZ σ j + sZ σ k))))) p (setB σ j (sZ σ j + sZ σ k) (app (sB σ j) (sZ σ j) (sB σ k))) := by
        refine ⟨_, _, kk, (as_n (by omega)).trans ((as_n (by omega)).trans e0), (as_n (by omega)).trans as_s, as_s, (as_n (by omega)).trans ((as_n (by omega)).trans e3), fun b' hb' => ?_, e5⟩
        show upd r j _ b' = nI (rk (va_up (sB σ) j (app (sB σ j) (sZ σ j) (sB σ k)) b') (va_up (sZ σ) j (sZ σ j + sZ σ k) b')) ∧ upd z j _ b' = nI (va_up (sZ σ) j (sZ σ j + sZ σ k) b')
        by_cases e : b' = j
        · subst e; rw [upd_s, upd_s, am_up_s, am_up_s]; exact ⟨rfl, rfl⟩
        · rw [upd_n e, upd_n e, am_up_n e, am_up_n e]; exact e4 b' hb'
      refine am_run (am_cK _) 3 (am_obj_in ((as_n (by omega)).trans ((as_n (by omega)).trans e0)) (S_drop hR1 hs1 (b := k) hk (fun h' ha hR' => ?_)))
      exact am_run (am_cK _) 2 (q h' (((Ag.set (by omega)).trans (Ag.set (by omega))).trans ha) hR')
    · have h10 : 10 < sZ σ j + sZ σ k := Nat.lt_of_not_le (fun z => w ((nI_leI (b := 10) (by omega) (by omega)).mpr z))
      rw [if_pos h10] at esp
      exact am_run (am_cK _) 2 (fin _ esp)
  · have e : nI j = nI k := Classical.not_not.mp c
    exact am_run (am_cK _) 2 (no (Or.inr (Or.inr (Or.inr (Or.inr e)))))
end
