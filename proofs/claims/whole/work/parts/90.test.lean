def tcd_flipped : List (Nat × am_E) := [(0, .iconst 0, 1, 0, 0, 0, 0, 0), (1, .istore_n 2, 1, 0, 0, 0, 0, 0), (2, .iconst 0, 1, 0, 0, 0, 0, 0), (3, .istore_n 3, 1, 0, 0, 0, 0, 0), (4, .iload_n 3, 1, 0, 0, 0, 0, 0), (5, .iload_n 1, 1, 0, 0, 0, 0, 0), (6, .if_icmp .ge 21, 3, 27, 0, 0, 0, 0), (9, .iload_n 2, 1, 0, 0, 0, 0, 0), (10, .iconst 2, 1, 0, 0, 0, 2, 0), (11, .ishl, 1, 0, 0, 0, 0, 0), (12, .iload_n 0, 1, 0, 0, 0, 0, 0), (13, .iconst 2, 1, 0, 0, 0, 2, 0), (14, .iload_n 3, 1, 0, 0, 0, 0, 0), (15, .imul, 1, 0, 0, 0, 0, 0), (16, .ishr, 1, 0, 0, 0, 0, 0), (17, .iconst 3, 1, 0, 0, 0, 3, 0), (18, .iand, 1, 0, 0, 0, 0, 0), (19, .ior, 1, 0, 0, 0, 0, 0), (20, .istore_n 2, 1, 0, 0, 0, 0, 0), (21, .iinc 3 1, 3, 0, 0, 0, 1, 0), (24, .goto (-20), 3, 4, 0, 0, 0, 0), (27, .iload_n 2, 1, 0, 0, 0, 0, 0), (28, .ireturn, 1, 0, 0, 0, 0, 0)]
def tm_flipped : am_M := fun pc => tcd_flipped.lookup pc
def tfl (row : Int32) : Nat → Int32
  | 0 => 0
  | n + 1 => tfl row n <<< ((2 : Int32) &&& 31) ||| row >>> ((2 * nI n) &&& 31) &&& 3

section
variable {call : am_K} {Q : Option Value → am_H → Prop} {X : am_H → Prop} {k : am_F → am_H → Prop} {h : am_H} {row : Int32} {n i : Nat} {fl : Int32}
set_option maxHeartbeats 100000
theorem tt0 : tm_flipped 24 = some (.goto (-20), 3, 4, 0, 0, 0, 0) := rfl
theorem tt1 : am_step call (0, 0) tm_flipped Q X k (24, [some (.int row)], [], 0, 0) h = k (4, [some (.int row)], [], 0, 0) h := rfl
theorem tt2 : am_step call (0, 0) tm_flipped Q X k (9, [some (.int row), some (.int (nI n)), some (.int fl), some (.int (nI i))], [], 0, 0) h = k (10, [some (.int row), some (.int (nI n)), some (.int fl), some (.int (nI i))], [.int fl], 0, 0) h := rfl
theorem tt3 : am_steps call (0, 0) tm_flipped Q X k 4 (0, [some (.int row), some (.int (nI n)), none, none], [], 0, 0) h = k (4, [some (.int row), some (.int (nI n)), some (.int 0), some (.int 0)], [], 0, 0) h := rfl
theorem tt4 : am_steps call (0, 0) tm_flipped Q X k 3 (4, [some (.int row), some (.int (nI n)), some (.int fl), some (.int (nI i))], [], 0, 0) h = ((nI n ≤ nI i → k (27, [some (.int row), some (.int (nI n)), some (.int fl), some (.int (nI i))], [], 0, 0) h) ∧ (¬ nI n ≤ nI i → k (9, [some (.int row), some (.int (nI n)), some (.int fl), some (.int (nI i))], [], 0, 0) h)) := rfl
theorem tt5 : am_steps call (0, 0) tm_flipped Q X k 4 (9, [some (.int row), some (.int (nI n)), some (.int fl), some (.int (nI i))], [], 0, 0) h = k (13, [some (.int row), some (.int (nI n)), some (.int fl), some (.int (nI i))], [.int row, .int (fl <<< ((2 : Int32) &&& 31))], 0, 0) h := rfl
theorem tt6 : am_steps call (0, 0) tm_flipped Q X k 14 (9, [some (.int row), some (.int (nI n)), some (.int fl), some (.int (nI i))], [], 0, 0) h = k (4, [some (.int row), some (.int (nI n)), some (.int (fl <<< ((2 : Int32) &&& 31) ||| row >>> ((2 * nI i) &&& 31) &&& 3)), some (.int (nI i + 1))], [], 0, 0) h := rfl
end
