def am_okE (ow : Nat) (own : String) (nL : Nat) (ini : Bool) (rt : Option FieldType) (pc : Nat) (en : am_E) : Bool := match en with
  | (i, len, a, b, t, c, d) => match i with
    | .iconst n => len == 1 && decide (Int32.ofInt n = c)
    | .bipush n => len == 2 && decide ((Int8.ofInt n).toInt32 = c)
    | .sipush n => len == 3 && decide ((Int16.ofInt n).toInt32 = c)
    | .lconst n => len == 1 && decide (Int64.ofNat (n : Nat) = d)
    | .ldc idx => len == 2 && ((b == 0 && am_inT (.constant own idx c)) || (b == 1 && am_strs.any (fun q => q.1 == own && q.2.1 == idx && q.2.2.2 == a)))
    | .ldc_w idx => len == 3 && ((b == 0 && am_inT (.constant own idx c)) || (b == 1 && am_strs.any (fun q => q.1 == own && q.2.1 == idx && q.2.2.2 == a)))
    | .ldc2_w idx => len == 3 && am_inT (.constantLong own idx d)
    | .iload_n _ => len == 1
    | .iload _ => len == 2
    | .lload_n _ => len == 1
    | .lload _ => len == 2
    | .aload_n _ => len == 1
    | .aload _ => len == 2
    | .istore_n k => len == 1 && decide ((k : Nat) < nL)
    | .istore k => len == 2 && decide (k < nL)
    | .lstore_n k => len == 1 && decide ((k : Nat) + 1 < nL)
    | .lstore k => len == 2 && decide (k + 1 < nL)
    | .astore_n k => len == 1 && decide ((k : Nat) < nL)
    | .astore k => len == 2 && decide (k < nL)
    | .iinc k n => len == 3 && decide (k < nL) && decide (Int32.ofInt n = c)
    | .ifCond _ off => len == 3 && decide ((pc : Int) + off = (a : Int))
    | .if_icmp _ off => len == 3 && decide ((pc : Int) + off = (a : Int))
    | .goto off => len == 3 && decide ((pc : Int) + off = (a : Int))
    | .tableswitch df lo hi offs => decide (0 ≤ (pc : Int) + df) && offs.toList.all (fun o => decide (0 ≤ (pc : Int) + o)) && decide ((offs.size : Int) = hi - lo + 1)
    | .lookupswitch df ps => decide (0 ≤ (pc : Int) + df) && ps.toList.all (fun o => decide (0 ≤ (pc : Int) + o.2)) && (ps.toList.zip (ps.toList.drop 1)).all (fun (a, next) => a.1 < next.1)
    | .getfield idx => len == 3 && am_fl ow idx a b
    | .putfield idx => len == 3 && am_fl ow idx a b && am_ftyB t (am_tyOf a b) && (match vwCl[a]? with
      | some (_, T, _) => (T b).2.2.2 == false || (ini && (T b).1 == own)
      | none => false)
    | .getstatic idx => len == 3 && ((a == 32 && am_inT (.fieldLink own idx RX4 "STARTS" "[I")) || (a == 33 && am_inT (.fieldLink own idx RX2 "FACTORIALS" "[I")))
    | .newarray at_ => len == 2 && am_inT (.arrayClass (newarray.typeOf at_)) && (newarray.typeOf at_ == .int || newarray.typeOf at_ == .char || newarray.typeOf at_ == .boolean || newarray.typeOf at_ == .long)
    | .anewarray idx => len == 3 && am_inT (.classLink own idx RX7)
    | .new idx => b == 1 || len == 3 && b == 0 && (match vwCl[a]? with
      | some (C, _, N) => am_inT (.classLink own idx C) && am_inT (.instantiable C N) && am_inT (.initialized C)
      | none => false)
    | .invokestatic idx => len == 3 && t == 0 && (if 900 ≤ a then (a == 900 && b == 5 && am_inT (.methodLink own idx arraycopyName)) else match am_mt[a]? with
      | some (y, _, _, _, kd, np) => kd == 0 && b == np && (am_ml ow idx a || am_nst.any (fun q => decide (q.1 = own) && (q.2.1 == idx && decide (q.2.2 = y))))
      | none => false)
    | .invokevirtual idx => len == 3 && (if 900 ≤ a then t == 0 && ((a == 901 && b == 1 && am_inT (.methodLink own idx yJ0_length_8abf5)) || (a == 902 && b == 2 && am_inT (.methodLink own idx yJ0_charAt_5068e)) || (a == 903 && b == 1 && am_inT (.methodLink own idx yJ0_isEmpty_aae02))) else match am_mt[a]?, vwCl[t - 1]? with
      | some (y, _, _, _, kd, np), some (C, _, _) => kd == 1 && b == np + 1 && t != 0 && C == y.cls && am_ml ow idx a
      | _, _ => false)
    | .invokespecial idx => len == 3 && (if 900 ≤ a then (t == 0 && a == 904 && b == 1 && am_inT (.methodLink own idx Lib.objectInit)) else match am_mt[a]? with
      | some (y, _, _, _, kd, np) => kd == 2 && b == np + 1 && t != 0 && (am_ml ow idx a || am_nst.any (fun q => decide (q.1 = own) && (q.2.1 == idx && decide (q.2.2 = y))))
      | none => false)
    | .ireturn => len == 1 && ((t == 0 && rt == some .int) || (t == 2 && rt == some .boolean) || (t == 3 && rt == some .char))
    | .lreturn => len == 1 && rt == some .long
    | .areturn => len == 1 && rt == some (.object "java/lang/String")
    | .return_ => len == 1 && rt == none
    | _ => len == 1
/-- a method's row, its code, and places of words: code, static or of an object, selects, initialized -/
def am_okM (r : am_R) (cd : List (Nat × am_E)) (ow : Nat) (w0 w1 w2 w3 : Nat) : Bool := match r with
  | (y, bytes, ml, rt, kd, np) => decide (am_cn ow = y.cls) && am_inAt w0 (.code y bytes ml rt) && am_inAt w3 (.initialized y.cls) && (if kd = 0 then am_inAt w1 (.static y) else am_inAt w1 (.instanceMethod y)) && (if kd = 1 then am_inAt w2 (.selects y.cls y y) else true) && (if kd = 2 then decide (y.name = "<init>") && decide (rt = none) else true)
    && decide (y.cls ≠ "java/lang/invoke/MethodHandle") && decide (y.cls ≠ "java/lang/invoke/VarHandle") && decide ((parseMethodDescriptor y.desc).map (fun d => d.parameters.length) = some np) && plainFor y && decide (ml ≤ 20)
    && cd.all (fun q => decide (decode bytes q.1 = .ok (q.2.1, q.2.2.1)) && am_okE ow y.cls ml (decide (y.name = "<init>")) rt q.1 q.2)
