/-! THE WHOLE SMALL MACHINE ON THE BIG ONE -/
def ax_ws (y : Nat) : List Cond := .code (ax_nm y) (ax_by y) (ax_ml y) (ax_rt y) :: ax_U
def ax_rm (d : Nat) (y : Nat) : Room := { frames := d, cells := (ax_kc y).1, slots := (ax_kc y).2, locals := 40 * d }
def ax_E (xl : Nat) (xs : Nat → Int32) : am_E := (ax_rc, ax_kc, (ax_ns, ax_sn, ax_sv), (xl, xs), ax_sw)
/-- is a micro-op what stands in the bytes? -/
def ax_ok (y pc : Nat) (I : am_In) : Bool :=
  match I with
  | (op, i, j, z, nx) => match op with
    | 0 => decide ((j = 0 ∧ decode (ax_by y) pc = .ok (.iconst z, 1) ∧ nx = pc + 1) ∨ (j = 1 ∧ decode (ax_by y) pc = .ok (.bipush z, 2) ∧ (Int8.ofInt z).toInt32 = Int32.ofInt z ∧ nx = pc + 2) ∨ (j = 2 ∧ decode (ax_by y) pc = .ok (.sipush z, 3) ∧ (Int16.ofInt z).toInt32 = Int32.ofInt z ∧ nx = pc + 3) ∨ (j = 3 ∧ decode (ax_by y) pc = .ok (.ldc i, 2) ∧ ax_in (Cond.constant (ax_nm y).cls i (Int32.ofInt z)) = true ∧ nx = pc + 2))
    | 1 => decide (if h : i < 4 then decode (ax_by y) pc = .ok (.iload_n ⟨i, h⟩, 1) ∧ nx = pc + 1 else decode (ax_by y) pc = .ok (.iload i, 2) ∧ nx = pc + 2)
    | 2 => decide (if h : i < 4 then decode (ax_by y) pc = .ok (.aload_n ⟨i, h⟩, 1) ∧ nx = pc + 1 else decode (ax_by y) pc = .ok (.aload i, 2) ∧ nx = pc + 2)
    | 3 => decide (if h : i < 4 then decode (ax_by y) pc = .ok (.lload_n ⟨i, h⟩, 1) ∧ nx = pc + 1 else decode (ax_by y) pc = .ok (.lload i, 2) ∧ nx = pc + 2)
    | 4 => decide ((if h : i < 4 then decode (ax_by y) pc = .ok (.istore_n ⟨i, h⟩, 1) ∧ nx = pc + 1 else decode (ax_by y) pc = .ok (.istore i, 2) ∧ nx = pc + 2) ∧ i < ax_ml y)
    | 5 => decide ((if h : i < 4 then decode (ax_by y) pc = .ok (.astore_n ⟨i, h⟩, 1) ∧ nx = pc + 1 else decode (ax_by y) pc = .ok (.astore i, 2) ∧ nx = pc + 2) ∧ i < ax_ml y)
    | 6 => decide ((if h : i < 4 then decode (ax_by y) pc = .ok (.lstore_n ⟨i, h⟩, 1) ∧ nx = pc + 1 else decode (ax_by y) pc = .ok (.lstore i, 2) ∧ nx = pc + 2) ∧ i + 1 < ax_ml y)
    | 7 => decide (decode (ax_by y) pc = .ok (.iinc i z, 3) ∧ nx = pc + 3 ∧ i < ax_ml y)
    | 8 => decide (decode (ax_by y) pc = .ok (.iadd, 1) ∧ nx = pc + 1)
    | 9 => decide (decode (ax_by y) pc = .ok (.isub, 1) ∧ nx = pc + 1)
    | 10 => decide (decode (ax_by y) pc = .ok (.imul, 1) ∧ nx = pc + 1)
    | 11 => decide (decode (ax_by y) pc = .ok (.idiv, 1) ∧ nx = pc + 1)
    | 12 => decide (decode (ax_by y) pc = .ok (.irem, 1) ∧ nx = pc + 1)
    | 13 => decide (decode (ax_by y) pc = .ok (.iand, 1) ∧ nx = pc + 1)
    | 14 => decide (nx = pc + 3 ∧ ((j = 0 ∧ decode (ax_by y) pc = .ok (.ifCond .eq ((i : Int) - (pc : Int)), 3)) ∨ (j = 1 ∧ decode (ax_by y) pc = .ok (.ifCond .ne ((i : Int) - (pc : Int)), 3)) ∨ (j = 2 ∧ decode (ax_by y) pc = .ok (.ifCond .lt ((i : Int) - (pc : Int)), 3)) ∨ (j = 3 ∧ decode (ax_by y) pc = .ok (.ifCond .ge ((i : Int) - (pc : Int)), 3)) ∨ (j = 4 ∧ decode (ax_by y) pc = .ok (.ifCond .gt ((i : Int) - (pc : Int)), 3)) ∨ (j = 5 ∧ decode (ax_by y) pc = .ok (.ifCond .le ((i : Int) - (pc : Int)), 3))))
    | 15 => decide (nx = pc + 3 ∧ ((j = 0 ∧ decode (ax_by y) pc = .ok (.if_icmp .eq ((i : Int) - (pc : Int)), 3)) ∨ (j = 1 ∧ decode (ax_by y) pc = .ok (.if_icmp .ne ((i : Int) - (pc : Int)), 3)) ∨ (j = 2 ∧ decode (ax_by y) pc = .ok (.if_icmp .lt ((i : Int) - (pc : Int)), 3)) ∨ (j = 3 ∧ decode (ax_by y) pc = .ok (.if_icmp .ge ((i : Int) - (pc : Int)), 3)) ∨ (j = 4 ∧ decode (ax_by y) pc = .ok (.if_icmp .gt ((i : Int) - (pc : Int)), 3)) ∨ (j = 5 ∧ decode (ax_by y) pc = .ok (.if_icmp .le ((i : Int) - (pc : Int)), 3))))
    | 16 => decide (decode (ax_by y) pc = .ok (.goto ((i : Int) - (pc : Int)), 3))
    | 17 => match ax_cl[i]? with
      | some (_, T, N) => decide (j < N) && ax_in (Cond.fieldLink (ax_nm y).cls z.toNat (T j).1 (T j).2.1 (T j).2.2.1) && decide (ax_ft i j = false) && decide (decode (ax_by y) pc = .ok (.getfield z.toNat, 3)) && decide (nx = pc + 3)
      | none => false
    | 18 => match ax_cl[i]? with
      | some (_, T, N) => decide (j < N) && ax_in (Cond.fieldLink (ax_nm y).cls z.toNat (T j).1 (T j).2.1 (T j).2.2.1) && decide (ax_ft i j = true) && decide (decode (ax_by y) pc = .ok (.getfield z.toNat, 3)) && decide (nx = pc + 3)
      | none => false
    | 19 => match ax_cl[i]? with
      | some (_, T, N) => decide (j < N) && ax_in (Cond.fieldLink (ax_nm y).cls z.toNat (T j).1 (T j).2.1 (T j).2.2.1) && decide (parseFieldDescriptor (T j).2.2.1 = some .int) && decide (ax_ft i j = false) && decide ((T j).2.2.2 = false ∨ ((T j).2.2.2 = true ∧ (ax_nm y).name = "<init>" ∧ (T j).1 = (ax_nm y).cls)) && decide (decode (ax_by y) pc = .ok (.putfield z.toNat, 3)) && decide (nx = pc + 3)
      | none => false
    | 20 => match ax_cl[i]? with
      | some (_, T, N) => decide (j < N) && ax_in (Cond.fieldLink (ax_nm y).cls z.toNat (T j).1 (T j).2.1 (T j).2.2.1) && decide (parseFieldDescriptor (T j).2.2.1 = some .boolean) && decide (ax_ft i j = false) && decide ((T j).2.2.2 = false ∨ ((T j).2.2.2 = true ∧ (ax_nm y).name = "<init>" ∧ (T j).1 = (ax_nm y).cls)) && decide (decode (ax_by y) pc = .ok (.putfield z.toNat, 3)) && decide (nx = pc + 3)
      | none => false
    | 21 => match ax_cl[i]? with
      | some (_, T, N) => decide (j < N) && ax_in (Cond.fieldLink (ax_nm y).cls z.toNat (T j).1 (T j).2.1 (T j).2.2.1) && decide (ax_ft i j = true) && decide ((T j).2.2.2 = false ∨ ((T j).2.2.2 = true ∧ (ax_nm y).name = "<init>" ∧ (T j).1 = (ax_nm y).cls)) && decide (decode (ax_by y) pc = .ok (.putfield z.toNat, 3)) && decide (nx = pc + 3)
      | none => false
    | 22 => decide (decode (ax_by y) pc = .ok (.iaload, 1) ∧ nx = pc + 1)
    | 23 => decide (decode (ax_by y) pc = .ok (.baload, 1) ∧ nx = pc + 1)
    | 24 => decide (decode (ax_by y) pc = .ok (.aaload, 1) ∧ nx = pc + 1)
    | 25 => decide (decode (ax_by y) pc = .ok (.iastore, 1) ∧ nx = pc + 1)
    | 26 => decide (decode (ax_by y) pc = .ok (.bastore, 1) ∧ nx = pc + 1)
    | 27 => decide (decode (ax_by y) pc = .ok (.arraylength, 1) ∧ nx = pc + 1)
    | 28 => decide (i < ax_nM) && decide ((ax_nm i).cls ≠ "java/lang/invoke/MethodHandle" ∧ (ax_nm i).cls ≠ "java/lang/invoke/VarHandle") && decide ((parseMethodDescriptor (ax_nm i).desc).map (fun d => d.parameters.length) = some j) && ax_in (Cond.static (ax_nm i)) && ax_in (Cond.initialized (ax_nm i).cls) && (ax_in (Cond.methodLink (ax_nm y).cls z.toNat (ax_nm i)) || decide (Cond.methodLinkNest (ax_nm y).cls z.toNat (ax_nm i) ax_host ∈ ax_nw)) && decide (decode (ax_by y) pc = .ok (.invokestatic z.toNat, 3) ∧ nx = pc + 3)
    | 29 => decide (i < ax_nM) && decide ((ax_nm i).cls ≠ "java/lang/invoke/MethodHandle" ∧ (ax_nm i).cls ≠ "java/lang/invoke/VarHandle") && decide ((parseMethodDescriptor (ax_nm i).desc).map (fun d => d.parameters.length) = some (j - 1)) && decide (1 ≤ j) && ax_in (Cond.instanceMethod (ax_nm i)) && ax_in (Cond.initialized (ax_nm i).cls) && decide ((ax_cl[ax_rc i]?).map (fun q => q.1) = some (ax_nm i).cls) && decide (nx = pc + 3) && ((ax_in (Cond.methodLink (ax_nm y).cls z.toNat (ax_nm i)) && ax_in (Cond.selects (ax_nm i).cls (ax_nm i) (ax_nm i)) && decide (decode (ax_by y) pc = .ok (.invokevirtual z.toNat, 3))) || (decide ((ax_nm i).name = "<init>") && decide (ax_rt i = none) && (ax_in (Cond.methodLink (ax_nm y).cls z.toNat (ax_nm i)) || decide (Cond.methodLinkNest (ax_nm y).cls z.toNat (ax_nm i) ax_host ∈ ax_nw)) && decide (decode (ax_by y) pc = .ok (.invokespecial z.toNat, 3))))
    | 30 => decide (decode (ax_by y) pc = .ok (.return_, 1) ∧ ax_rt y = none)
    | 31 => decide (decode (ax_by y) pc = .ok (.ireturn, 1) ∧ ax_rt y = some .int)
    | 32 => decide (decode (ax_by y) pc = .ok (.ireturn, 1) ∧ ax_rt y = some .boolean)
    | 33 => decide (decode (ax_by y) pc = .ok (.areturn, 1) ∧ ax_rt y = some (.array .int))
    | 34 => decide (decode (ax_by y) pc = .ok (.lreturn, 1) ∧ ax_rt y = some .long)
    | 35 => match ax_cl[i]? with
      | some (C, _, N) => decide (j = N) && ax_in (Cond.classLink (ax_nm y).cls z.toNat C) && ax_in (Cond.instantiable C N) && ax_in (Cond.initialized C) && decide (decode (ax_by y) pc = .ok (.new z.toNat, 3) ∧ nx = pc + 3)
      | none => false
    | 36 => (decide (i = 0) && ax_in (Cond.arrayClass .int) && decide (decode (ax_by y) pc = .ok (.newarray .int, 2) ∧ nx = pc + 2)) || (decide (i = 1) && ax_in (Cond.arrayClass .boolean) && decide (decode (ax_by y) pc = .ok (.newarray .boolean, 2) ∧ nx = pc + 2))
    | 37 => ax_in (Cond.classLink (ax_nm y).cls z.toNat ("[" ++ (FieldType.array .int).toString)) && ax_in (Cond.arrayClass .int) && decide (decode (ax_by y) pc = .ok (.multianewarray z.toNat 2, 4) ∧ nx = pc + 4)
    | 38 => decide (decode (ax_by y) pc = .ok (.dup, 1) ∧ nx = pc + 1)
    | 39 => decide (decode (ax_by y) pc = .ok (.pop, 1) ∧ nx = pc + 1)
    | 40 => decide (decode (ax_by y) pc = .ok (.dup_x1, 1) ∧ nx = pc + 1)
    | 41 => decide (decode (ax_by y) pc = .ok (.dup2, 1) ∧ nx = pc + 1)
    | 42 => decide ((j = 0 ∧ z = 0 ∧ decode (ax_by y) pc = .ok (.lconst 0, 1) ∧ nx = pc + 1) ∨ (j = 1 ∧ z = 1 ∧ decode (ax_by y) pc = .ok (.lconst 1, 1) ∧ nx = pc + 1) ∨ (j = 2 ∧ decode (ax_by y) pc = .ok (.ldc2_w i, 3) ∧ ax_in (Cond.constantLong (ax_nm y).cls i (Int64.ofInt z)) = true ∧ nx = pc + 3))
    | 43 => decide (decode (ax_by y) pc = .ok (.i2l, 1) ∧ nx = pc + 1)
    | 44 => decide (decode (ax_by y) pc = .ok (.l2i, 1) ∧ nx = pc + 1)
    | 45 => decide (decode (ax_by y) pc = .ok (.ladd, 1) ∧ nx = pc + 1)
    | 46 => decide (decode (ax_by y) pc = .ok (.lsub, 1) ∧ nx = pc + 1)
    | 47 => decide (decode (ax_by y) pc = .ok (.lmul, 1) ∧ nx = pc + 1)
    | 48 => decide (decode (ax_by y) pc = .ok (.ldiv, 1) ∧ nx = pc + 1)
    | 49 => decide (decode (ax_by y) pc = .ok (.lcmp, 1) ∧ nx = pc + 1)
    | 50 => decide (i < ax_ns) && ax_in (Cond.fieldLink (ax_nm y).cls z.toNat (ax_sc i).1 (ax_sc i).2 "[I") && decide (decode (ax_by y) pc = .ok (.getstatic z.toNat, 3) ∧ nx = pc + 3)
    | 51 => decide (decode (ax_by y) pc = .ok (.iaload, 1) ∧ nx = pc + 1)
    | 52 => decide (decode (ax_by y) pc = .ok (.arraylength, 1) ∧ nx = pc + 1)
    | 53 => ax_in (Cond.methodLink (ax_nm y).cls z.toNat Lib.Math.max.name) && ax_in (Cond.static Lib.Math.max.name) && ax_in (Cond.initialized "java/lang/Math") && decide (decode (ax_by y) pc = .ok (.invokestatic z.toNat, 3) ∧ nx = pc + 3)
    | 54 => ax_in (Cond.methodLink (ax_nm y).cls z.toNat Lib.Math.min.name) && ax_in (Cond.static Lib.Math.min.name) && ax_in (Cond.initialized "java/lang/Math") && decide (decode (ax_by y) pc = .ok (.invokestatic z.toNat, 3) ∧ nx = pc + 3)
    | 55 => ax_in (Cond.methodLink (ax_nm y).cls z.toNat Lib.Math.abs.name) && ax_in (Cond.static Lib.Math.abs.name) && ax_in (Cond.initialized "java/lang/Math") && decide (decode (ax_by y) pc = .ok (.invokestatic z.toNat, 3) ∧ nx = pc + 3)
    | 56 => ax_in (Cond.methodLink (ax_nm y).cls z.toNat Lib.MathLoose.min_long.x) && ax_in (Cond.static Lib.MathLoose.min_long.x) && ax_in (Cond.initialized "java/lang/Math") && decide (decode (ax_by y) pc = .ok (.invokestatic z.toNat, 3) ∧ nx = pc + 3)
    | 57 => ax_in (Cond.methodLink (ax_nm y).cls z.toNat arraycopyName) && ax_in (Cond.native arraycopyName) && ax_in (Cond.static arraycopyName) && ax_in (Cond.initialized "java/lang/System") && decide (decode (ax_by y) pc = .ok (.invokestatic z.toNat, 3) ∧ nx = pc + 3)
    | 58 => ax_in (Cond.methodLink (ax_nm y).cls z.toNat Lib.objectInit) && ax_in (Cond.instanceMethod Lib.objectInit) && decide (decode (ax_by y) pc = .ok (.invokespecial z.toNat, 3) ∧ nx = pc + 3)
    | 59 => decide (y = ax_law) && decide (decode (ax_by y) pc = .ok (.iaload, 1) ∧ nx = pc + 1)
    | 60 => decide (y = ax_law) && decide (decode (ax_by y) pc = .ok (.arraylength, 1) ∧ nx = pc + 1)
    | 61 => decide (y = ax_law ∧ pc = 33)
    | _ => false
