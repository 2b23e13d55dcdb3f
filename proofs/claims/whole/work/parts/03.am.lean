/-! THE ABSTRACT MACHINE (am_): a frame of the JVM over a heap of numbered cells; every answer about a method is proved here, and am_sound ties it to the machine. -/
/-- a cell: an array (its component's type, its length, its contents), or an object (the number of its class in vwCl, its fields); a reference in it is a cell's number -/
abbrev am_C : Type := (FieldType × vp_A) ⊕ (Nat × List Value)
/-- a heap: the next number, the cells; numbers below 40 are what is only read (texts, static arrays, the script) -/
abbrev am_H : Type := Nat × (Nat → am_C)
/-- a frame: pc, locals, operand stack, cells and slots made so far -/
abbrev am_F : Type := Nat × List (Option Value) × List Value × Nat × Nat
/-- an instruction, its length, and what it links: three numbers and a constant -/
abbrev am_E : Type := Instr × Nat × Nat × Nat × Nat × Int32 × Int64
abbrev am_M : Type := Nat → Option am_E
abbrev am_K : Type := Nat → List Value → am_H → (Option Value → am_H → Prop) → Prop
def am_set (h : am_H) (p : Nat) (c : am_C) : am_H := (h.1, va_up h.2 p c)
def am_add (h : am_H) (c : am_C) : am_H := (h.1 + 1, va_up h.2 h.1 c)
def am_br (c a b : Prop) : Prop := (c → a) ∧ (¬ c → b)
def am_i1 (st : List Value) (g : Int32 → List Value → Prop) : Prop := match st with
  | .int x :: r => g x r
  | _ => False
def am_i2 (st : List Value) (g : Int32 → Int32 → List Value → Prop) : Prop := match st with
  | .int y :: .int x :: r => g x y r
  | _ => False
def am_l1 (st : List Value) (g : Int64 → List Value → Prop) : Prop := match st with
  | .long x :: r => g x r
  | _ => False
def am_l2 (st : List Value) (g : Int64 → Int64 → List Value → Prop) : Prop := match st with
  | .long y :: .long x :: r => g x y r
  | _ => False
def am_r1 (st : List Value) (g : Nat → List Value → Prop) : Prop := match st with
  | .ref p :: r => g p r
  | _ => False
def am_ir (st : List Value) (g : Int32 → Nat → List Value → Prop) : Prop := match st with
  | .int i :: .ref p :: r => g i p r
  | _ => False
def am_ldi (ls : List (Option Value)) (i : Nat) (g : Int32 → Prop) : Prop := match ls.getD i none with
  | some (.int x) => g x
  | _ => False
def am_ldl (ls : List (Option Value)) (i : Nat) (g : Int64 → Prop) : Prop := match ls.getD i none with
  | some (.long x) => g x
  | _ => False
def am_lda (ls : List (Option Value)) (i : Nat) (g : Nat → Prop) : Prop := match ls.getD i none with
  | some (.ref x) => g x
  | _ => False
/-- a store at i ends a long that lies at i - 1 -/
def am_kill (ls : List (Option Value)) (i : Nat) : List (Option Value) := match i with
  | 0 => ls
  | j + 1 => match ls.getD j none with
    | some (.long _) => ls.set j none
    | some (.double _) => ls.set j none
    | _ => ls
def am_st1 (ls : List (Option Value)) (i : Nat) (v : Value) : List (Option Value) := (am_kill ls i).set i (some v)
def am_st2 (ls : List (Option Value)) (i : Nat) (v : Value) : List (Option Value) := ((am_kill ls i).set i (some v)).set (i + 1) none
def am_cmp (cd : ClassFile.Cond) (x y : Int32) : Prop := match cd with
  | .eq => x = y
  | .ne => ¬ x = y
  | .lt => x < y
  | .ge => y ≤ x
  | .gt => y < x
  | .le => x ≤ y
/-- an object of class ci at p -/
def am_obj (h : am_H) (p ci : Nat) (g : List Value → Prop) : Prop := match h.2 p with
  | .inr (c, fs) => if c = ci then g fs else False
  | .inl _ => False
/-- a value that a field (or an answer) of this kind may hold: 0 int, 1 a reference, 2 boolean, 3 char -/
def am_fit (t : Nat) (v : Value) (g : Prop) : Prop := match t, v with
  | 0, .int _ => g
  | 1, .ref _ => g
  | 2, .int x => (x = 0 ∨ x = 1) ∧ g
  | 3, .int x => (∃ q : Nat, q < 65536 ∧ x = nI q) ∧ g
  | _, _ => False
def am_ari (h : am_H) (p : Nat) (ty : FieldType) (g : Nat → (Nat → Int32) → Prop) : Prop := match h.2 p with
  | .inl (ty', n, .inl f) => if ty' = ty then g n f else False
  | _ => False
/-- an int array to read: one of the heap, or one that is only read -/
def am_rdi (h : am_H) (p : Nat) (g : Nat → (Nat → Int32) → Prop) : Prop := match h.2 p with
  | .inl (.int, n, .inl f) => g n f
  | .inl (.float, n, .inl f) => g n f
  | _ => False
def am_arl (h : am_H) (p : Nat) (g : Nat → (Nat → Int64) → Prop) : Prop := match h.2 p with
  | .inl (.long, n, .inr (.inl f)) => g n f
  | _ => False
def am_arr (h : am_H) (p : Nat) (g : String → Nat → (Nat → Option Nat) → Prop) : Prop := match h.2 p with
  | .inl (.object C, n, .inr (.inr (.inr (.inr f)))) => g C n f
  | _ => False
def am_len (h : am_H) (p : Nat) (g : Nat → Prop) : Prop := match h.2 p with
  | .inl (_, n, _) => g n
  | .inr _ => False
def am_tsw (pc : Nat) (dflt lo hi : Int) (offs : Array Int) (x : Int32) : Nat := ((pc : Int) + (if x.toInt < lo ∨ hi < x.toInt then dflt else offs.toList.getD (x.toInt - lo).toNat 0)).toNat
def am_lsw (pc : Nat) (dflt : Int) (ps : Array (Int × Int)) (x : Int32) : Nat := ((pc : Int) + Op.lookupswitch.offset ps.toList dflt x.toInt).toNat
/-- what a new array of this kind holds -/
def am_new0 (ty : FieldType) (n : Nat) : vp_A := match ty with
  | .long => (n, .inr (.inl (fun _ => 0)))
  | _ => (n, .inl (fun _ => 0))
/-- a new object's fields, by the number of its class in vwCl -/
def am_newf (ci : Nat) : List Value := match ci with
  | 0 => [.null, .null, .int 0]
  | 1 => [.null, .null, .int 0]
  | 2 => [.null, .null, .null, .int 0, .int 0]
  | 3 => [.null, .null, .null, .int 0, .int 0, .int 0, .int 0, .int 0, .int 0, .int 0]
  | 4 => [.null, .null, .null, .int 0, .int 0]
  | 5 => [.null, .int 0, .int 0, .int 0]
  | 6 => [.null, .int 0]
  | 7 => [.null, .null, .null, .null, .null, .null, .null, .null, .null, .null, .null, .null, .int 0]
  | 8 => [.int 0, .int 0, .null, .null, .null, .null, .int 0, .int 0, .int 0, .int 0, .null, .int 0, .null, .int 0, .null, .null, .int 0, .int 0, .null, .null, .int 0, .null, .null, .null, .null, .null, .null, .int 0, .null, .int 0, .int 0, .null, .null, .int 0, .null, .null, .int 0, .null, .null, .null, .null, .null, .int 0, .null, .null]
  | _ => []
/-- the texts: what stands below 16 -/
def am_txt (i : Nat) : List Int32 := match i with
  | 0 => []
  | 1 => [100, 100]
  | 2 => [100]
  | 3 => [100, 100, 108]
  | 4 => [108, 112]
  | 5 => [110, 111, 32, 115, 117, 99, 104, 32, 98, 114, 97, 99, 101, 108, 101, 116]
  | 6 => [110, 111, 32, 115, 117, 99, 104, 32, 113, 117, 101, 115, 116, 105, 111, 110]
  | 7 => [110, 111, 32, 115, 117, 99, 104, 32, 98, 101, 97, 100]
  | 8 => [110, 111, 32, 115, 117, 99, 104, 32, 99, 111, 108, 111, 117, 114]
  | 9 => [116, 104, 101, 32, 114, 111, 119, 32, 104, 97, 115, 32, 110, 111, 32, 115, 117, 99, 104, 32, 110, 117, 109, 98, 101, 114]
  | 10 => [110, 99, 116, 102, 109, 100, 104]
  | 11 => [60, 62, 61]
  | 12 => [43, 45]
  | 13 => [42, 47]
  | 14 => [97, 98, 99, 100]
  | 15 => [102, 117, 115, 114, 120, 99, 106, 116, 98]
  | _ => []
/-- the cells and slots that a method may make, by its number -/
def am_lim (k : Nat) : Nat × Nat := match k with
  | 22 => (2, 24)
  | 49 => (2, 1963)
  | 57 => (79, 383)
  | 63 => (3, 120)
  | 77 => (3, 14)
  | 103 => (1, 80)
  | 110 => (1, 16)
  | 114 => (111, 2817)
  | 119 => (1, 6)
  | 120 => (1, 6)
  | 121 => (1, 6)
  | 166 => (1, 6)
  | 182 => (28, 2170)
  | 600 => (1, 6)
  | 601 => (1, 6)
  | 602 => (1, 6)
  | 603 => (1, 6)
  | _ => (0, 0)
def am_cats (st : List Value) : Nat := (st.map Value.category).sum
/-- a call's arguments and what lies below them -/
def am_inv (call : am_K) (mno n ci : Nat) (k : am_F → am_H → Prop) (lim : Nat × Nat) (pc : Nat) (ls : List (Option Value)) (st : List Value) (u : Nat × Nat) (h : am_H) : Prop :=
  if am_cats (st.drop n) ≤ 8 ∧ n ≤ st.length ∧ u.1 + (am_lim mno).1 ≤ lim.1 ∧ u.2 + (am_lim mno).2 ≤ lim.2 then
    (match ci with
      | c + 1 => (match (st.take n).getLast? with
        | some (.ref p) => am_obj h p c (fun _ => call mno (st.take n).reverse h (fun v h' => k (pc + 3, ls, v.toList ++ st.drop n, u.1 + (am_lim mno).1, u.2 + (am_lim mno).2) h'))
        | _ => False)
      | 0 => call mno (st.take n).reverse h (fun v h' => k (pc + 3, ls, v.toList ++ st.drop n, u.1 + (am_lim mno).1, u.2 + (am_lim mno).2) h'))
  else False
def am_ins (call : am_K) (lim : Nat × Nat) (e : am_E) (Q : Option Value → am_H → Prop) (X : am_H → Prop) (k : am_F → am_H → Prop) (pc : Nat) (ls : List (Option Value)) (st : List Value) (u : Nat × Nat) (h : am_H) : Prop :=
  match e with
  | (ei, _, ea, eb, et, ec, ed) => match ei with
  | .iconst _ => k (pc + 1, ls, .int ec :: st, u) h
  | .bipush _ => k (pc + 2, ls, .int ec :: st, u) h
  | .sipush _ => k (pc + 3, ls, .int ec :: st, u) h
  | .lconst _ => k (pc + 1, ls, .long ed :: st, u) h
  | .ldc _ => if eb = 0 then k (pc + 2, ls, .int ec :: st, u) h else k (pc + 2, ls, .ref ea :: st, u) h
  | .ldc_w _ => if eb = 0 then k (pc + 3, ls, .int ec :: st, u) h else k (pc + 3, ls, .ref ea :: st, u) h
  | .ldc2_w _ => k (pc + 3, ls, .long ed :: st, u) h
  | .iload_n i => am_ldi ls i (fun x => k (pc + 1, ls, .int x :: st, u) h)
  | .iload i => am_ldi ls i (fun x => k (pc + 2, ls, .int x :: st, u) h)
  | .lload_n i => am_ldl ls i (fun x => k (pc + 1, ls, .long x :: st, u) h)
  | .lload i => am_ldl ls i (fun x => k (pc + 2, ls, .long x :: st, u) h)
  | .aload_n i => am_lda ls i (fun x => k (pc + 1, ls, .ref x :: st, u) h)
  | .aload i => am_lda ls i (fun x => k (pc + 2, ls, .ref x :: st, u) h)
  | .istore_n i => am_i1 st (fun x r => k (pc + 1, am_st1 ls i (.int x), r, u) h)
  | .istore i => am_i1 st (fun x r => k (pc + 2, am_st1 ls i (.int x), r, u) h)
  | .lstore_n i => am_l1 st (fun x r => k (pc + 1, am_st2 ls i (.long x), r, u) h)
  | .lstore i => am_l1 st (fun x r => k (pc + 2, am_st2 ls i (.long x), r, u) h)
  | .astore_n i => am_r1 st (fun x r => k (pc + 1, am_st1 ls i (.ref x), r, u) h)
  | .astore i => am_r1 st (fun x r => k (pc + 2, am_st1 ls i (.ref x), r, u) h)
  | .iinc i _ => am_ldi ls i (fun x => k (pc + 3, am_st1 ls i (.int (x + ec)), st, u) h)
  | .iadd => am_i2 st (fun x y r => k (pc + 1, ls, .int (x + y) :: r, u) h)
  | .isub => am_i2 st (fun x y r => k (pc + 1, ls, .int (x - y) :: r, u) h)
  | .imul => am_i2 st (fun x y r => k (pc + 1, ls, .int (x * y) :: r, u) h)
  | .iand => am_i2 st (fun x y r => k (pc + 1, ls, .int (x &&& y) :: r, u) h)
  | .ior => am_i2 st (fun x y r => k (pc + 1, ls, .int (x ||| y) :: r, u) h)
  | .ixor => am_i2 st (fun x y r => k (pc + 1, ls, .int (x ^^^ y) :: r, u) h)
  | .idiv => am_i2 st (fun x y r => ¬ y = 0 ∧ k (pc + 1, ls, .int (x / y) :: r, u) h)
  | .irem => am_i2 st (fun x y r => ¬ y = 0 ∧ k (pc + 1, ls, .int (x - x / y * y) :: r, u) h)
  | .ineg => am_i1 st (fun x r => k (pc + 1, ls, .int (-x) :: r, u) h)
  | .ishl => am_i2 st (fun x y r => k (pc + 1, ls, .int (x <<< (y &&& 31)) :: r, u) h)
  | .ishr => am_i2 st (fun x y r => k (pc + 1, ls, .int (x >>> (y &&& 31)) :: r, u) h)
  | .iushr => am_i2 st (fun x y r => k (pc + 1, ls, .int (x.toUInt32 >>> (y.toUInt32 &&& Int32.toUInt32 31)).toInt32 :: r, u) h)
  | .ladd => am_l2 st (fun x y r => k (pc + 1, ls, .long (x + y) :: r, u) h)
  | .lsub => am_l2 st (fun x y r => k (pc + 1, ls, .long (x - y) :: r, u) h)
  | .lmul => am_l2 st (fun x y r => k (pc + 1, ls, .long (x * y) :: r, u) h)
  | .ldiv => am_l2 st (fun x y r => ¬ y = 0 ∧ k (pc + 1, ls, .long (x / y) :: r, u) h)
  | .lrem => am_l2 st (fun x y r => ¬ y = 0 ∧ k (pc + 1, ls, .long (x - x / y * y) :: r, u) h)
  | .lcmp => am_l2 st (fun x y r => k (pc + 1, ls, .int (lg_cmp x y) :: r, u) h)
  | .i2l => am_i1 st (fun x r => k (pc + 1, ls, .long x.toInt64 :: r, u) h)
  | .l2i => am_l1 st (fun x r => k (pc + 1, ls, .int x.toInt32 :: r, u) h)
  | .i2b => am_i1 st (fun x r => k (pc + 1, ls, .int x.toInt8.toInt32 :: r, u) h)
  | .i2s => am_i1 st (fun x r => k (pc + 1, ls, .int x.toInt16.toInt32 :: r, u) h)
  | .i2c => am_i1 st (fun x r => k (pc + 1, ls, .int (x.toUInt32 % 65536).toInt32 :: r, u) h)
  | .dup => (match st with
    | v :: r => if v.category = 1 then k (pc + 1, ls, v :: v :: r, u) h else False
    | _ => False)
  | .dup2 => (match st with
    | v :: w :: r => if v.category = 1 ∧ w.category = 1 then k (pc + 1, ls, v :: w :: v :: w :: r, u) h else False
    | _ => False)
  | .pop => (match st with
    | v :: r => if v.category = 1 then k (pc + 1, ls, r, u) h else False
    | _ => False)
  | .ifCond cd _ => am_i1 st (fun x r => am_br (am_cmp cd x 0) (k (ea, ls, r, u) h) (k (pc + 3, ls, r, u) h))
  | .if_icmp cd _ => am_i2 st (fun x y r => am_br (am_cmp cd x y) (k (ea, ls, r, u) h) (k (pc + 3, ls, r, u) h))
  | .goto _ => k (ea, ls, st, u) h
  | .tableswitch d lo hi offs => am_i1 st (fun x r => k (am_tsw pc d lo hi offs x, ls, r, u) h)
  | .lookupswitch d ps => am_i1 st (fun x r => k (am_lsw pc d ps x, ls, r, u) h)
  | .getfield _ => am_r1 st (fun p r => am_obj h p ea (fun fs => match fs[eb]? with
    | some v => k (pc + 3, ls, v :: r, u) h
    | none => False))
  | .putfield _ => (match st with
    | v :: .ref p :: r => am_obj h p ea (fun fs => if eb < fs.length then am_fit et v (k (pc + 3, ls, r, u) (am_set h p (.inr (ea, fs.set eb v)))) else False)
    | _ => False)
  | .getstatic _ => k (pc + 3, ls, .ref ea :: st, u) h
  | .iaload => am_ir st (fun i p r => am_rdi h p (fun n f => vp_in i n ∧ k (pc + 1, ls, .int (f i.toNatClampNeg) :: r, u) h))
  | .baload => am_ir st (fun i p r => am_ari h p .boolean (fun n f => vp_in i n ∧ k (pc + 1, ls, .int (f i.toNatClampNeg) :: r, u) h))
  | .caload => am_ir st (fun i p r => am_ari h p .char (fun n f => vp_in i n ∧ k (pc + 1, ls, .int (f i.toNatClampNeg) :: r, u) h))
  | .laload => am_ir st (fun i p r => am_arl h p (fun n f => vp_in i n ∧ k (pc + 1, ls, .long (f i.toNatClampNeg) :: r, u) h))
  | .aaload => am_ir st (fun i p r => am_arr h p (fun _ n f => vp_in i n ∧ ∃ q, f i.toNatClampNeg = some q ∧ k (pc + 1, ls, .ref q :: r, u) h))
  | .iastore => am_i1 st (fun x st' => am_ir st' (fun i p r => am_ari h p .int (fun n f => vp_in i n ∧ k (pc + 1, ls, r, u) (am_set h p (.inl (.int, n, .inl (upd f i.toNatClampNeg x)))))))
  | .bastore => am_i1 st (fun x st' => am_ir st' (fun i p r => am_ari h p .boolean (fun n f => vp_in i n ∧ k (pc + 1, ls, r, u) (am_set h p (.inl (.boolean, n, .inl (upd f i.toNatClampNeg (vp_nar .boolean x))))))))
  | .castore => am_i1 st (fun x st' => am_ir st' (fun i p r => am_ari h p .char (fun n f => vp_in i n ∧ k (pc + 1, ls, r, u) (am_set h p (.inl (.char, n, .inl (upd f i.toNatClampNeg (vp_nar .char x))))))))
  | .lastore => am_l1 st (fun x st' => am_ir st' (fun i p r => am_arl h p (fun n f => vp_in i n ∧ k (pc + 1, ls, r, u) (am_set h p (.inl (.long, n, .inr (.inl (vp_updL f i.toNatClampNeg x))))))))
  | .aastore => am_r1 st (fun v st' => am_ir st' (fun i p r => am_arr h p (fun C n f => am_obj h v 4 (fun _ => C = RX7 ∧ vp_in i n ∧ k (pc + 1, ls, r, u) (am_set h p (.inl (.object C, n, .inr (.inr (.inr (.inr (va_up f i.toNatClampNeg (some v)))))))))))) 
  | .arraylength => am_r1 st (fun p r => am_len h p (fun n => k (pc + 1, ls, .int (Int32.ofNat n) :: r, u) h))
  | .newarray at_ => am_i1 st (fun n r => ¬ n < 0 ∧ n.toNatClampNeg ≤ 10000 ∧ u.1 + 1 ≤ lim.1 ∧ u.2 + n.toNatClampNeg ≤ lim.2 ∧ k (pc + 2, ls, .ref h.1 :: r, u.1 + 1, u.2 + n.toNatClampNeg) (am_add h (.inl (newarray.typeOf at_, am_new0 (newarray.typeOf at_) n.toNatClampNeg))))
  | .anewarray _ => am_i1 st (fun n r => ¬ n < 0 ∧ n.toNatClampNeg ≤ 10000 ∧ u.1 + 1 ≤ lim.1 ∧ u.2 + n.toNatClampNeg ≤ lim.2 ∧ k (pc + 3, ls, .ref h.1 :: r, u.1 + 1, u.2 + n.toNatClampNeg) (am_add h (.inl (.object RX7, n.toNatClampNeg, .inr (.inr (.inr (.inr (fun _ => none))))))))
  | .new _ => if eb = 1 then st = [] ∧ X h else u.1 + 1 ≤ lim.1 ∧ u.2 + (am_newf ea).length ≤ lim.2 ∧ k (pc + 3, ls, .ref h.1 :: st, u.1 + 1, u.2 + (am_newf ea).length) (am_add h (.inr (ea, am_newf ea)))
  | .invokevirtual _ => am_inv call ea eb et k lim pc ls st u h
  | .invokestatic _ => am_inv call ea eb et k lim pc ls st u h
  | .invokespecial _ => am_inv call ea eb et k lim pc ls st u h
  | .ireturn => (match st with
    | [.int x] => am_fit et (.int x) (Q (some (.int x)) h)
    | _ => False)
  | .lreturn => (match st with
    | [.long x] => Q (some (.long x)) h
    | _ => False)
  | .areturn => (match st with
    | [.ref x] => Q (some (.ref x)) h
    | _ => False)
  | .return_ => (match st with
    | [] => Q none h
    | _ => False)
  | _ => False
def am_step (call : am_K) (lim : Nat × Nat) (M : am_M) (Q : Option Value → am_H → Prop) (X : am_H → Prop) (k : am_F → am_H → Prop) (f : am_F) (h : am_H) : Prop := match f with
  | (pc, ls, st, u) => match M pc with
    | some e => am_ins call lim e Q X k pc ls st u h
    | none => False
/-- the least predicate that is closed under am_step: from this frame the method ends as Q or X says -/
def am_wp (call : am_K) (lim : Nat × Nat) (M : am_M) (Q : Option Value → am_H → Prop) (X : am_H → Prop) (f : am_F) (h : am_H) : Prop :=
  ∀ P : am_F → am_H → Prop, (∀ f h, am_step call lim M Q X P f h → P f h) → P f h
def am_steps (call : am_K) (lim : Nat × Nat) (M : am_M) (Q : Option Value → am_H → Prop) (X : am_H → Prop) (k : am_F → am_H → Prop) : Nat → am_F → am_H → Prop
  | 0 => k
  | n + 1 => am_step call lim M Q X (am_steps call lim M Q X k n)
