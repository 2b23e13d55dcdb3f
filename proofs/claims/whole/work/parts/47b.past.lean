section
variable {d : Nat} {h : am_H} {Q : Option Value → am_H → Prop} {σ : Sg} {U : List Sg} {Kk : Nat → Option Sg}
theorem RPm.len (hR : RPm h U Kk) : U.length ≤ 15 := by
  obtain ⟨S, K, ik, m, e0, _⟩ := hR
  obtain ⟨_, _, _, _, _, _, _, _, _, z⟩ := e0
  exact z.2
theorem RPm.obj (hR : RPm h U Kk) : ∃ m, h.2 49 = cP 49 m U.length := by
  obtain ⟨S, K, ik, m, e0, _⟩ := hR
  obtain ⟨_, _, _, z, _⟩ := e0
  exact ⟨m, z⟩
theorem RPk.obj (hR : RPk h σ U Kk) : ∃ m, h.2 49 = cP 49 m U.length := by
  obtain ⟨S, K, ik, m, e0, _⟩ := hR
  obtain ⟨_, _, _, z, _⟩ := e0
  exact ⟨m, z⟩
theorem RPk.m (hR : RPk h σ U Kk) : RPm h U Kk := by
  obtain ⟨S, K, ik, m, e0, _, e1⟩ := hR
  exact ⟨S, K, ik, m, e0, e1⟩
theorem PM_mark (hR : RPm h U Kk) (hS : RS h 41 σ) (hs : Sok σ) (hQ : ∀ h', AgN 49 80 h h' → RPk h' σ U Kk → Q none h') : am_call (d + 3) 58 [.ref 49, .ref 41] h Q := by
  obtain ⟨S, K, ik, m, e0, e1, e2⟩ := hR
  obtain ⟨_, _, _, _, _, _, _, _, _, hm, hu⟩ := id e0
  refine P_mark e0 hS hs (by omega) (fun h' ha hR' => hQ h' ha ⟨va_up S m σ, K, ik, m, hR', am_up_s, fun j x hx => ?_, e2⟩)
  have hj : j < U.length := (List.getElem?_eq_some_iff.mp hx).1
  rw [am_up_n (by omega)]
  exact e1 j x hx
theorem PM_settle (hR : RPk h σ U Kk) (a : Int32) (h1 : a < 0 → Q (some (.int a)) h) (h2 : ¬ a < 0 → ∀ h', AgN 49 80 h h' → RPm h' ((σ :: U).take 15) Kk → Q (some (.int a)) h') : am_call (d + 3) 59 [.ref 49, .int a] h Q := by
  obtain ⟨S, K, ik, m, e0, e1, e2, e3⟩ := hR
  obtain ⟨_, _, _, _, _, _, _, _, _, hm, hu⟩ := id e0
  refine P_settle e0 a h1 (fun c h' ha hR' => h2 c h' ha ⟨S, K, ik, mUp m, ?_, fun j x hx => ?_, e3⟩)
  · rw [List.length_take, List.length_cons]; exact hR'
  · rw [List.getElem?_take] at hx
    split at hx
    · rename_i hj
      cases j with
      | zero =>
        have ex : σ = x := by simpa using hx
        have es : (mUp m + 15 - 0) % 16 = m := by unfold mUp; split <;> omega
        rw [es, e1, ex]
      | succ j =>
        have hx' : U[j]? = some x := by simpa using hx
        have es : (mUp m + 15 - (j + 1)) % 16 = (m + 15 - j) % 16 := by unfold mUp; split <;> omega
        rw [es]
        exact e2 j x hx'
    · cases hx
theorem PM_bringBack {τ : Sg} (hR : RPm h U Kk) (hS : RS h 41 τ) (h1 : U = [] → Q (some (.int (-1))) h) (h2 : ∀ σ U', U = σ :: U' → Sok σ → ∀ h', h'.1 = h.1 → (∀ x, (x < 41 ∨ (45 ≤ x ∧ x < 49) ∨ 129 ≤ x) → h'.2 x = h.2 x) → RS h' 41 σ → RPm h' U' Kk → Q (some (.int (nI U'.length))) h') : am_call (d + 3) 60 [.ref 49, .ref 41] h Q := by
  obtain ⟨S, K, ik, m, e0, e1, e2⟩ := hR
  obtain ⟨_, _, _, _, _, _, _, e4, _, hm, hu⟩ := id e0
  refine P_bringBack e0 hS (by omega) (fun c => h1 (List.length_eq_zero_iff.mp c)) (fun c h' ha hf hS' hR' => ?_)
  cases U with
  | nil => exact absurd c (Nat.lt_irrefl 0)
  | cons σ U' =>
    have es : S (mDn m) = σ := by
      rw [← e1 0 σ rfl]
      congr 1
      unfold mDn
      split <;> omega
    rw [es] at hS'
    refine h2 σ U' rfl (by rw [← es]; exact (e4 (mDn m) (by unfold mDn; split <;> omega)).2.2) h' ha (fun x hx => hf x (by omega) (by omega)) hS' ⟨S, K, ik, mDn m, hR', fun j x hx => ?_, e2⟩
    rw [← e1 (j + 1) x hx]
    congr 1
    unfold mDn
    have hj : j < U'.length := (List.getElem?_eq_some_iff.mp hx).1
    rw [List.length_cons] at hu
    split <;> omega
theorem PM_keepUnder (hR : RPm h U Kk) (hS : RS h 41 σ) (hs : Sok σ) (i : Int32) (h1 : (i < 0 ∨ 3 ≤ i) → Q (some (.int 0)) h) (h2 : ∀ j, j < 3 → i = nI j → ∀ h', AgN 49 80 h h' → RPm h' U (va_up Kk j (some σ)) → Q (some (.int 1)) h') : am_call (d + 3) 61 [.ref 49, .int i, .ref 41] h Q := by
  obtain ⟨S, K, ik, m, e0, e1, e2⟩ := hR
  refine P_keepUnder e0 hS hs (by omega) i h1 (fun j hj ej h' ha hR' => h2 j hj ej h' ha ⟨S, _, _, m, hR', e1, fun x hx => ?_⟩)
  by_cases e : x = j
  · subst e; rw [am_up_s, am_up_s, am_up_s]; rfl
  · rw [am_up_n e, am_up_n e, am_up_n e]; exact e2 x hx
theorem PM_takeKept {τ : Sg} (hR : RPm h U Kk) (hS : RS h 41 τ) (i : Int32) (h1 : (i < 0 ∨ 3 ≤ i) → Q (some (.int 0)) h) (h2 : ∀ j, j < 3 → i = nI j → Kk j = none → Q (some (.int 0)) h) (h3 : ∀ j σ, j < 3 → i = nI j → Kk j = some σ → Sok σ → ∀ h', h'.1 = h.1 → (∀ x, (x < 41 ∨ (45 ≤ x ∧ x < 49) ∨ 129 ≤ x) → h'.2 x = h.2 x) → RS h' 41 σ → RPm h' [] Kk → Q (some (.int 1)) h') : am_call (d + 3) 62 [.ref 49, .int i, .ref 41] h Q := by
  obtain ⟨S, K, ik, m, e0, e1, e2⟩ := hR
  obtain ⟨_, _, _, _, _, _, _, _, e5, hm, hu⟩ := id e0
  refine P_takeKept e0 hS (by omega) i h1 (fun j hj ej hik => h2 j hj ej (by rw [e2 j hj, hik]; rfl)) (fun j hj ej hik h' ha hf hS' hR' => h3 j (K j) hj ej (by rw [e2 j hj, hik]; rfl) (e5 j hj).2.2.1 h' ha (fun x hx => hf x (by omega) (by omega)) hS' ⟨S, K, ik, m, hR', (fun j x hx => by cases hx), e2⟩)
end
