theorem kL_len6 : ∀ n, n < 7 → 1 ≤ n → sT n + (kL n).length = sT (n + 1) := by decide +kernel
theorem kL_len7 : sT 7 + (kL 7).length = sT 8 := by decide +kernel
theorem kL_len {n : Nat} (h1 : 1 ≤ n) (h7 : n ≤ 7) : sT n + (kL n).length = sT (n + 1) := by
  by_cases e : n = 7
  · subst e; exact kL_len7
  · exact kL_len6 n (by omega) h1
