/-! how a heap of numbered cells lies in the machine's heap: ad gives each number its address -/
def am_cv (ad : Nat → Nat) (v : Value) : Value := match v with
  | .ref i => .ref (ad i)
  | .int x => .int x
  | .long x => .long x
  | .float x => .float x
  | .double x => .double x
  | .null => .null
  | .retAddr x => .retAddr x
def am_cx (ad : Nat → Nat) (x : (Nat → Int32) ⊕ (Nat → Int64) ⊕ (Nat → UInt32) ⊕ (Nat → UInt64) ⊕ (Nat → Option Nat)) : (Nat → Int32) ⊕ (Nat → Int64) ⊕ (Nat → UInt32) ⊕ (Nat → UInt64) ⊕ (Nat → Option Nat) := match x with
  | .inr (.inr (.inr (.inr f))) => .inr (.inr (.inr (.inr (fun j => (f j).map ad))))
  | .inr (.inr (.inr (.inl f))) => .inr (.inr (.inr (.inl f)))
  | .inr (.inr (.inl f)) => .inr (.inr (.inl f))
  | .inr (.inl f) => .inr (.inl f)
  | .inl f => .inl f
def am_ca (dA : Nat → ClassId) (ty : FieldType) : ClassId := match ty with
  | .int => dA 0
  | .char => dA 1
  | .boolean => dA 2
  | .long => dA 3
  | _ => dA 4
def am_ce (dA : Nat → ClassId) (ad : Nat → Nat) (c : am_C) : va_E := match c with
  | .inl (ty, n, x) => .inl (am_ca dA ty, n, am_cx ad x)
  | .inr (ci, fs) => .inr (ci, fs.map (am_cv ad))
def am_ws (dA : Nat → ClassId) (ad : Nat → Nat) (h : am_H) : va_W := (List.range (h.1 - 40)).map (fun j => (ad (40 + j), am_ce dA ad (h.2 (40 + j))))
def am_tys (dA : Nat → ClassId) : List (ClassId × FieldType) := [(dA 0, .int), (dA 1, .char), (dA 2, .boolean), (dA 3, .long), (dA 4, .object RX7)]
def am_okv (n : Nat) (v : Value) : Prop := ∀ i, v = .ref i → i < n
def am_okc (n p : Nat) (c : am_C) : Prop := (∀ ty k f, c = .inl (ty, k, .inr (.inr (.inr (.inr f)))) → ∀ j q, f j = some q → q < n) ∧ (∀ ci fs, c = .inr (ci, fs) → ∀ v ∈ fs, am_okv n v) ∧ (40 ≤ p → ∀ k x, ¬ c = .inl (.float, k, x))
def am_okh (ro : Nat → am_C) (h : am_H) : Prop := 40 ≤ h.1 ∧ (∀ p, p < h.1 → am_okc h.1 p (h.2 p)) ∧ ∀ p, p < 40 → h.2 p = ro p
theorem am_up_s {α : Type} {f : Nat → α} {k : Nat} {v : α} : va_up f k v k = v := by simp [va_up]
theorem am_up_n {α : Type} {f : Nat → α} {k j : Nat} {v : α} (h : ¬ j = k) : va_up f k v j = f j := by simp [va_up, h]
theorem am_cv_int {ad : Nat → Nat} {x : Int32} : am_cv ad (.int x) = .int x := rfl
theorem am_cv_ref {ad : Nat → Nat} {x : Nat} : am_cv ad (.ref x) = .ref (ad x) := rfl
theorem am_cv_cat {ad : Nat → Nat} {v : Value} : (am_cv ad v).category = v.category := by cases v <;> rfl
theorem am_cats_cv {ad : Nat → Nat} (st : List Value) : ((st.map (am_cv ad)).map fun v => v.category).sum = am_cats st := by
  unfold am_cats
  rw [List.map_map]
  congr 1
  exact List.map_congr_left (fun v _ => am_cv_cat)
theorem am_cv_same {ad ad' : Nat → Nat} {n : Nat} (h : ∀ i, i < n → ad' i = ad i) {v : Value} (hv : am_okv n v) : am_cv ad' v = am_cv ad v := by
  cases v <;> first | rfl | (rename_i i; show Value.ref (ad' i) = Value.ref (ad i); rw [h i (hv i rfl)])
theorem am_okv_mono {n n' : Nat} (h : n ≤ n') {v : Value} (hv : am_okv n v) : am_okv n' v := fun i e => Nat.lt_of_lt_of_le (hv i e) h
theorem am_okv_int {n : Nat} {x : Int32} : am_okv n (.int x) := fun _ e => by cases e
theorem am_okv_long {n : Nat} {x : Int64} : am_okv n (.long x) := fun _ e => by cases e
theorem am_okv_ref {n i : Nat} (h : i < n) : am_okv n (.ref i) := fun _ e => by cases e; exact h
theorem am_okc_mono {n n' p : Nat} (h : n ≤ n') {c : am_C} (hc : am_okc n p c) : am_okc n' p c := ⟨fun ty k f e j q z => Nat.lt_of_lt_of_le (hc.1 ty k f e j q z) h, fun ci fs e v hv => am_okv_mono h (hc.2.1 ci fs e v hv), hc.2.2⟩
theorem am_ce_same {dA : Nat → ClassId} {ad ad' : Nat → Nat} {n p : Nat} (h : ∀ i, i < n → ad' i = ad i) {c : am_C} (hc : am_okc n p c) : am_ce dA ad' c = am_ce dA ad c := by
  rcases c with ⟨ty, k, x⟩ | ⟨ci, fs⟩
  · show Sum.inl (am_ca dA ty, k, am_cx ad' x) = Sum.inl (am_ca dA ty, k, am_cx ad x)
    rcases x with f | f | f | f | f
    · rfl
    · rfl
    · rfl
    · rfl
    · have e : (fun j => (f j).map ad') = (fun j => (f j).map ad) := by
        funext j
        cases hj : f j with
        | none => rfl
        | some q => show some (ad' q) = some (ad q); rw [h q (hc.1 ty k f rfl j q hj)]
      show Sum.inl (am_ca dA ty, k, Sum.inr (Sum.inr (Sum.inr (Sum.inr (fun j => (f j).map ad'))))) = Sum.inl (am_ca dA ty, k, Sum.inr (Sum.inr (Sum.inr (Sum.inr (fun j => (f j).map ad)))))
      rw [e]
  · show Sum.inr (ci, fs.map (am_cv ad')) = Sum.inr (ci, fs.map (am_cv ad))
    rw [List.map_congr_left (fun v hv => am_cv_same h (hc.2.1 ci fs rfl v hv))]
theorem am_ws_at {dA : Nat → ClassId} {ad : Nat → Nat} {h : am_H} {p : Nat} (h1 : 40 ≤ p) (h2 : p < h.1) : (am_ws dA ad h)[p - 40]? = some (ad p, am_ce dA ad (h.2 p)) := by
  unfold am_ws
  rw [List.getElem?_map, List.getElem?_range (by omega)]
  have e : 40 + (p - 40) = p := by omega
  simp only [Option.map_some, e]
theorem am_ws_len {dA : Nat → ClassId} {ad : Nat → Nat} {h : am_H} : (am_ws dA ad h).length = h.1 - 40 := by simp [am_ws]
theorem am_ws_set {dA : Nat → ClassId} {ad : Nat → Nat} {h : am_H} {p : Nat} (h1 : 40 ≤ p) (h2 : p < h.1) (c : am_C) : am_ws dA ad (am_set h p c) = (am_ws dA ad h).set (p - 40) (ad p, am_ce dA ad c) := by
  apply List.ext_getElem?
  intro i
  by_cases hi : i < h.1 - 40
  · have e1 := am_ws_at (dA := dA) (ad := ad) (h := am_set h p c) (p := 40 + i) (by omega) (by show 40 + i < h.1; omega)
    have e2 := am_ws_at (dA := dA) (ad := ad) (h := h) (p := 40 + i) (by omega) (by omega)
    have e3 : 40 + i - 40 = i := by omega
    rw [e3] at e1 e2
    rw [e1, List.getElem?_set]
    by_cases hip : p - 40 = i
    · have e4 : 40 + i = p := by omega
      rw [if_pos hip, if_pos (by rw [am_ws_len]; omega), e4]
      show some (ad p, am_ce dA ad (va_up h.2 p c p)) = some (ad p, am_ce dA ad c)
      rw [am_up_s]
    · rw [if_neg hip, e2]
      show some (ad (40 + i), am_ce dA ad (va_up h.2 p c (40 + i))) = _
      rw [am_up_n (by omega)]
  · rw [List.getElem?_eq_none (by rw [am_ws_len]; show h.1 - 40 ≤ i; omega), List.getElem?_eq_none (by rw [List.length_set, am_ws_len]; omega)]
theorem am_ws_add {dA : Nat → ClassId} {ad : Nat → Nat} {h : am_H} {q : Nat} {ro : Nat → am_C} (hok : am_okh ro h) (c : am_C) : am_ws dA (va_up ad h.1 q) (am_add h c) = am_ws dA ad h ++ [(q, am_ce dA (va_up ad h.1 q) c)] := by
  apply List.ext_getElem?
  intro i
  have hh := hok.1
  by_cases hi : i < h.1 - 40
  · have e1 := am_ws_at (dA := dA) (ad := va_up ad h.1 q) (h := am_add h c) (p := 40 + i) (by omega) (by show 40 + i < h.1 + 1; omega)
    have e2 := am_ws_at (dA := dA) (ad := ad) (h := h) (p := 40 + i) (by omega) (by omega)
    have e3 : 40 + i - 40 = i := by omega
    rw [e3] at e1 e2
    rw [e1, List.getElem?_append_left (by rw [am_ws_len]; omega), e2]
    show some (va_up ad h.1 q (40 + i), am_ce dA (va_up ad h.1 q) (va_up h.2 h.1 c (40 + i))) = _
    rw [am_up_n (by omega), am_up_n (by omega), am_ce_same (n := h.1) (fun j hj => am_up_n (by omega)) (hok.2.1 (40 + i) (by omega))]
  · by_cases hi2 : i = h.1 - 40
    · subst hi2
      have e1 := am_ws_at (dA := dA) (ad := va_up ad h.1 q) (h := am_add h c) (p := h.1) (by omega) (by show h.1 < h.1 + 1; omega)
      rw [e1, List.getElem?_append_right (by rw [am_ws_len]; omega), am_ws_len, Nat.sub_self]
      show some (va_up ad h.1 q h.1, am_ce dA (va_up ad h.1 q) (va_up h.2 h.1 c h.1)) = some (q, am_ce dA (va_up ad h.1 q) c)
      rw [am_up_s, am_up_s]
    · rw [List.getElem?_eq_none (by rw [am_ws_len]; show h.1 + 1 - 40 ≤ i; omega), List.getElem?_eq_none (by rw [List.length_append, am_ws_len]; simp; omega)]
theorem am_okh_set {ro : Nat → am_C} {h : am_H} {p : Nat} {c : am_C} (hok : am_okh ro h) (h1 : 40 ≤ p) (hc : am_okc h.1 p c) : am_okh ro (am_set h p c) := by
  refine ⟨hok.1, fun q hq => ?_, fun q hq => ?_⟩
  · show am_okc h.1 q (va_up h.2 p c q)
    by_cases e : q = p
    · subst e; rw [am_up_s]; exact hc
    · rw [am_up_n e]; exact hok.2.1 q hq
  · show va_up h.2 p c q = ro q
    rw [am_up_n (by omega)]; exact hok.2.2 q hq
theorem am_okh_add {ro : Nat → am_C} {h : am_H} {c : am_C} (hok : am_okh ro h) (hc : am_okc h.1 h.1 c) : am_okh ro (am_add h c) := by
  have hh := hok.1
  refine ⟨Nat.le_succ_of_le hok.1, fun q hq => ?_, fun q hq => ?_⟩
  · show am_okc (h.1 + 1) q (va_up h.2 h.1 c q)
    by_cases e : q = h.1
    · subst e; rw [am_up_s]; exact am_okc_mono (Nat.le_succ _) hc
    · have hq' : q < h.1 + 1 := hq
      rw [am_up_n e]; exact am_okc_mono (Nat.le_succ _) (hok.2.1 q (by omega))
  · show va_up h.2 h.1 c q = ro q
    rw [am_up_n (by omega)]; exact hok.2.2 q hq
/-! locals -/
def am_pr (L : List (Option Value)) (ad : Nat → Nat) : List (Nat × Value) := (List.range L.length).filterMap (fun i => (L.getD i none).map (fun v => (i, am_cv ad v)))
theorem am_pr_mem {L : List (Option Value)} {ad : Nat → Nat} {i : Nat} {w : Value} : (i, w) ∈ am_pr L ad ↔ ∃ v, L.getD i none = some v ∧ w = am_cv ad v := by
  unfold am_pr
  rw [List.mem_filterMap]
  constructor
  · rintro ⟨j, -, hj⟩
    cases hv : L.getD j none with
    | none => rw [hv] at hj; cases hj
    | some v =>
      rw [hv] at hj
      have e : (j, am_cv ad v) = (i, w) := Option.some.inj hj
      cases e
      exact ⟨v, hv, rfl⟩
  · rintro ⟨v, hv, rfl⟩
    refine ⟨i, List.mem_range.mpr ?_, by rw [hv]; rfl⟩
    by_cases hl : i < L.length
    · exact hl
    · rw [List.getD_eq_getElem?_getD, List.getElem?_eq_none (by omega)] at hv
      cases hv
theorem am_lv_mono {ls : Array Slot} {nL : Nat} {l l' : List (Nat × Value)} (h : lv_has ls nL l) (hs : ∀ q ∈ l', q ∈ l) : lv_has ls nL l' := ⟨h.1, h.2.1, fun q hq => h.2.2 q (hs q hq)⟩
theorem am_pr_at {ls : Array Slot} {nL : Nat} {L : List (Option Value)} {ad : Nat → Nat} (h : lv_has ls nL (am_pr L ad)) {i : Nat} {v : Value} (hv : L.getD i none = some v) : ls[i]? = some (.val (am_cv ad v)) :=
  h.2.2 (i, am_cv ad v) (am_pr_mem.mpr ⟨v, hv, rfl⟩)
theorem am_getD_set {L : List (Option Value)} {i j : Nat} {x : Option Value} : (L.set i x).getD j none = if j = i ∧ i < L.length then x else L.getD j none := by
  rw [List.getD_eq_getElem?_getD, List.getD_eq_getElem?_getD, List.getElem?_set]
  by_cases e : i = j
  · subst e
    by_cases hl : i < L.length
    · simp [hl]
    · simp [hl]
  · have e2 : ¬ j = i := fun z => e z.symm
    simp [e, e2]
theorem am_kill_len {L : List (Option Value)} {i : Nat} : (am_kill L i).length = L.length := by
  unfold am_kill
  split
  · rfl
  · split <;> simp
theorem am_kill_at {L : List (Option Value)} {i j : Nat} {v : Value} (h : (am_kill L i).getD j none = some v) : L.getD j none = some v ∧ ¬ (j + 1 = i ∧ v.category = 2) := by
  unfold am_kill at h
  split at h
  · exact ⟨h, fun z => by omega⟩
  · rename_i k
    split at h
    · rename_i x hx
      rw [am_getD_set] at h
      split at h
      · cases h
      · rename_i hn
        refine ⟨h, fun z => ?_⟩
        have e : j = k := by omega
        subst e
        refine hn ⟨rfl, ?_⟩
        by_cases hl : j < L.length
        · exact hl
        · rw [List.getD_eq_getElem?_getD, List.getElem?_eq_none (by omega)] at hx
          cases hx
    · rename_i x hx
      rw [am_getD_set] at h
      split at h
      · cases h
      · rename_i hn
        refine ⟨h, fun z => ?_⟩
        have e : j = k := by omega
        subst e
        refine hn ⟨rfl, ?_⟩
        by_cases hl : j < L.length
        · exact hl
        · rw [List.getD_eq_getElem?_getD, List.getElem?_eq_none (by omega)] at hx
          cases hx
    · rename_i h1 h2
      refine ⟨h, fun z => ?_⟩
      have e : j = k := by omega
      subst e
      obtain ⟨-, z⟩ := z
      cases v with
      | long x => exact h1 x h
      | double x => exact h2 x h
      | _ => simp [Value.category] at z
theorem am_st1_at {L : List (Option Value)} {i j : Nat} {v w : Value} (h : (am_st1 L i v).getD j none = some w) : (j = i ∧ w = v) ∨ (¬ j = i ∧ L.getD j none = some w ∧ ¬ (j + 1 = i ∧ w.category = 2)) := by
  unfold am_st1 at h
  rw [am_getD_set] at h
  split at h
  · rename_i hz; cases h; exact Or.inl ⟨hz.1, rfl⟩
  · rename_i hz
    obtain ⟨h1, h2⟩ := am_kill_at h
    by_cases e : j = i
    · subst e
      have hl : j < L.length := by
        by_cases hl : j < L.length
        · exact hl
        · rw [List.getD_eq_getElem?_getD, List.getElem?_eq_none (by omega)] at h1
          cases h1
      exact absurd ⟨rfl, by rw [am_kill_len]; exact hl⟩ hz
    · exact Or.inr ⟨e, h1, h2⟩
theorem am_st2_at {L : List (Option Value)} {i j : Nat} {v w : Value} (h : (am_st2 L i v).getD j none = some w) : (j = i ∧ w = v) ∨ (¬ j = i ∧ ¬ j = i + 1 ∧ L.getD j none = some w ∧ ¬ (j + 1 = i ∧ w.category = 2)) := by
  unfold am_st2 at h
  rw [am_getD_set] at h
  split at h
  · cases h
  · rename_i hz
    have h' : (am_st1 L i v).getD j none = some w := h
    rcases am_st1_at h' with h1 | ⟨h1, h2, h3⟩
    · exact Or.inl h1
    · refine Or.inr ⟨h1, fun e => ?_, h2, h3⟩
      subst e
      have hl : i + 1 < L.length := by
        by_cases hl : i + 1 < L.length
        · exact hl
        · rw [List.getD_eq_getElem?_getD, List.getElem?_eq_none (by omega)] at h2
          cases h2
      exact hz ⟨rfl, by rw [List.length_set, am_kill_len]; exact hl⟩
theorem am_st1_len {L : List (Option Value)} {i : Nat} {v : Value} : (am_st1 L i v).length = L.length := by
  unfold am_st1; rw [List.length_set, am_kill_len]
theorem am_st2_len {L : List (Option Value)} {i : Nat} {v : Value} : (am_st2 L i v).length = L.length := by
  unfold am_st2; rw [List.length_set, List.length_set, am_kill_len]
theorem am_lv_st1 {ls : Array Slot} {nL : Nat} {L : List (Option Value)} {ad : Nat → Nat} {i : Nat} {v : Value} (h : lv_has ls nL ((i, am_cv ad v) :: (am_pr L ad).filter (fun q => !(q.1 == i) && !(q.1 + 1 == i && q.2.category == 2)))) : lv_has ls nL (am_pr (am_st1 L i v) ad) := by
  refine am_lv_mono h (fun q hq => ?_)
  obtain ⟨j, w⟩ := q
  obtain ⟨x, hx, rfl⟩ := am_pr_mem.mp hq
  rcases am_st1_at hx with ⟨rfl, rfl⟩ | ⟨h1, h2, h3⟩
  · exact List.mem_cons_self
  · refine List.mem_cons_of_mem _ (List.mem_filter.mpr ⟨am_pr_mem.mpr ⟨x, h2, rfl⟩, ?_⟩)
    simp only [am_cv_cat, Bool.and_eq_true, Bool.not_eq_true', beq_eq_false_iff_ne, ne_eq, Bool.and_eq_false_iff]
    refine ⟨h1, ?_⟩
    by_cases e : j + 1 = i
    · exact Or.inr (fun z => h3 ⟨e, z⟩)
    · exact Or.inl e
theorem am_lv_st2 {ls : Array Slot} {nL : Nat} {L : List (Option Value)} {ad : Nat → Nat} {i : Nat} {v : Value} (h : lv_has ls nL ((i, am_cv ad v) :: (am_pr L ad).filter (fun q => !(q.1 == i) && (!(q.1 == i + 1) && !(q.1 + 1 == i && q.2.category == 2))))) : lv_has ls nL (am_pr (am_st2 L i v) ad) := by
  refine am_lv_mono h (fun q hq => ?_)
  obtain ⟨j, w⟩ := q
  obtain ⟨x, hx, rfl⟩ := am_pr_mem.mp hq
  rcases am_st2_at hx with ⟨rfl, rfl⟩ | ⟨h1, h1', h2, h3⟩
  · exact List.mem_cons_self
  · refine List.mem_cons_of_mem _ (List.mem_filter.mpr ⟨am_pr_mem.mpr ⟨x, h2, rfl⟩, ?_⟩)
    simp only [am_cv_cat, Bool.and_eq_true, Bool.not_eq_true', beq_eq_false_iff_ne, ne_eq, Bool.and_eq_false_iff]
    refine ⟨h1, h1', ?_⟩
    by_cases e : j + 1 = i
    · exact Or.inr (fun z => h3 ⟨e, z⟩)
    · exact Or.inl e
def am_okL (n : Nat) (L : List (Option Value)) : Prop := ∀ i v, L.getD i none = some v → am_okv n v
theorem am_okL_st1 {n : Nat} {L : List (Option Value)} {i : Nat} {v : Value} (h : am_okL n L) (hv : am_okv n v) : am_okL n (am_st1 L i v) := fun j w hw => by
  rcases am_st1_at hw with ⟨-, rfl⟩ | ⟨-, h2, -⟩
  · exact hv
  · exact h j w h2
theorem am_okL_st2 {n : Nat} {L : List (Option Value)} {i : Nat} {v : Value} (h : am_okL n L) (hv : am_okv n v) : am_okL n (am_st2 L i v) := fun j w hw => by
  rcases am_st2_at hw with ⟨-, rfl⟩ | ⟨-, -, h2, -⟩
  · exact hv
  · exact h j w h2
theorem am_okL_mono {n n' : Nat} (h : n ≤ n') {L : List (Option Value)} (hL : am_okL n L) : am_okL n' L := fun i v hv => am_okv_mono h (hL i v hv)
theorem am_pr_same {L : List (Option Value)} {ad ad' : Nat → Nat} {n : Nat} (h : ∀ i, i < n → ad' i = ad i) (hL : am_okL n L) : ∀ q ∈ am_pr L ad', q ∈ am_pr L ad := fun q hq => by
  obtain ⟨j, w⟩ := q
  obtain ⟨x, hx, rfl⟩ := am_pr_mem.mp hq
  exact am_pr_mem.mpr ⟨x, hx, am_cv_same h (hL j x hx)⟩
