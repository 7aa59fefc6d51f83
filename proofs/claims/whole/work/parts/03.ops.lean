/-! THE SMALL MACHINE'S STEP. An instruction: its kind, two numbers, an int, the next place. X: what is to hold at the next place. -/
def ao_push (v : Value) (nx : Nat) (X : am_X) (L : List (Option Value)) (S : List Value) (u : am_St) (b c : Nat) : Prop := X nx L (v :: S) u b c
def ao_iload (i nx : Nat) (X : am_X) (L : List (Option Value)) (S : List Value) (u : am_St) (b c : Nat) : Prop := match am_ld L i with
  | some (.int x) => X nx L (.int x :: S) u b c
  | _ => False
def ao_aload (i nx : Nat) (X : am_X) (L : List (Option Value)) (S : List Value) (u : am_St) (b c : Nat) : Prop := match am_ld L i with
  | some (.ref x) => X nx L (.ref x :: S) u b c
  | _ => False
def ao_lload (i nx : Nat) (X : am_X) (L : List (Option Value)) (S : List Value) (u : am_St) (b c : Nat) : Prop := match am_ld L i with
  | some (.long x) => X nx L (.long x :: S) u b c
  | _ => False
def ao_istore (i nx : Nat) (X : am_X) (L : List (Option Value)) (S : List Value) (u : am_St) (b c : Nat) : Prop := match S with
  | .int x :: S => X nx (am_st1 L i (.int x)) S u b c
  | _ => False
def ao_astore (i nx : Nat) (X : am_X) (L : List (Option Value)) (S : List Value) (u : am_St) (b c : Nat) : Prop := match S with
  | .ref x :: S => X nx (am_st1 L i (.ref x)) S u b c
  | _ => False
def ao_lstore (i nx : Nat) (X : am_X) (L : List (Option Value)) (S : List Value) (u : am_St) (b c : Nat) : Prop := match S with
  | .long x :: S => X nx (am_st2 L i (.long x)) S u b c
  | _ => False
def ao_iinc (i : Nat) (z : Int) (nx : Nat) (X : am_X) (L : List (Option Value)) (S : List Value) (u : am_St) (b c : Nat) : Prop := match am_ld L i with
  | some (.int x) => X nx (am_st1 L i (.int (x + Int32.ofInt z))) S u b c
  | _ => False
def ao_ibin (f : Int32 → Int32 → Int32) (nx : Nat) (X : am_X) (L : List (Option Value)) (S : List Value) (u : am_St) (b c : Nat) : Prop := match S with
  | .int y :: .int x :: S => X nx L (.int (f x y) :: S) u b c
  | _ => False
def ao_idiv (f : Int32 → Int32 → Int32) (nx : Nat) (X : am_X) (L : List (Option Value)) (S : List Value) (u : am_St) (b c : Nat) : Prop := match S with
  | .int y :: .int x :: S => ¬ y = 0 ∧ X nx L (.int (f x y) :: S) u b c
  | _ => False
def ao_lbin (f : Int64 → Int64 → Int64) (nx : Nat) (X : am_X) (L : List (Option Value)) (S : List Value) (u : am_St) (b c : Nat) : Prop := match S with
  | .long y :: .long x :: S => X nx L (.long (f x y) :: S) u b c
  | _ => False
def ao_ldiv (f : Int64 → Int64 → Int64) (nx : Nat) (X : am_X) (L : List (Option Value)) (S : List Value) (u : am_St) (b c : Nat) : Prop := match S with
  | .long y :: .long x :: S => ¬ y = 0 ∧ X nx L (.long (f x y) :: S) u b c
  | _ => False
def ao_lcmp (nx : Nat) (X : am_X) (L : List (Option Value)) (S : List Value) (u : am_St) (b c : Nat) : Prop := match S with
  | .long y :: .long x :: S => X nx L (.int (lg_cmp x y) :: S) u b c
  | _ => False
def ao_i2l (nx : Nat) (X : am_X) (L : List (Option Value)) (S : List Value) (u : am_St) (b c : Nat) : Prop := match S with
  | .int x :: S => X nx L (.long x.toInt64 :: S) u b c
  | _ => False
def ao_l2i (nx : Nat) (X : am_X) (L : List (Option Value)) (S : List Value) (u : am_St) (b c : Nat) : Prop := match S with
  | .long x :: S => X nx L (.int x.toInt32 :: S) u b c
  | _ => False
def ao_if (k tg nx : Nat) (X : am_X) (L : List (Option Value)) (S : List Value) (u : am_St) (b c : Nat) : Prop := match S with
  | .int x :: S => match k with
    | 0 => (x = 0 → X tg L S u b c) ∧ (¬ x = 0 → X nx L S u b c)
    | 1 => (¬ x = 0 → X tg L S u b c) ∧ (x = 0 → X nx L S u b c)
    | 2 => (x < 0 → X tg L S u b c) ∧ (¬ x < 0 → X nx L S u b c)
    | 3 => (0 ≤ x → X tg L S u b c) ∧ (¬ 0 ≤ x → X nx L S u b c)
    | 4 => (0 < x → X tg L S u b c) ∧ (¬ 0 < x → X nx L S u b c)
    | 5 => (x ≤ 0 → X tg L S u b c) ∧ (¬ x ≤ 0 → X nx L S u b c)
    | _ => False
  | _ => False
def ao_icmp (k tg nx : Nat) (X : am_X) (L : List (Option Value)) (S : List Value) (u : am_St) (b c : Nat) : Prop := match S with
  | .int y :: .int x :: S => match k with
    | 0 => (x = y → X tg L S u b c) ∧ (¬ x = y → X nx L S u b c)
    | 1 => (¬ x = y → X tg L S u b c) ∧ (x = y → X nx L S u b c)
    | 2 => (x < y → X tg L S u b c) ∧ (¬ x < y → X nx L S u b c)
    | 3 => (y ≤ x → X tg L S u b c) ∧ (¬ y ≤ x → X nx L S u b c)
    | 4 => (y < x → X tg L S u b c) ∧ (¬ y < x → X nx L S u b c)
    | 5 => (x ≤ y → X tg L S u b c) ∧ (¬ x ≤ y → X nx L S u b c)
    | _ => False
  | _ => False
def ao_goto (tg : Nat) (X : am_X) (L : List (Option Value)) (S : List Value) (u : am_St) (b c : Nat) : Prop := X tg L S u b c
def ao_getI (t k nx : Nat) (X : am_X) (L : List (Option Value)) (S : List Value) (u : am_St) (b c : Nat) : Prop := match S with
  | .ref a :: S => match u.1[a]? with
    | some (t', n, _) => if t' = t + 3 ∧ k < n then X nx L (.int (u.2 a k) :: S) u b c else False
    | none => False
  | _ => False
def ao_getR (t k nx : Nat) (X : am_X) (L : List (Option Value)) (S : List Value) (u : am_St) (b c : Nat) : Prop := match S with
  | .ref a :: S => match u.1[a]? with
    | some (t', n, rs) => if t' = t + 3 ∧ k < n then (match am_rg rs k with
      | some a' => X nx L (.ref a' :: S) u b c
      | none => False) else False
    | none => False
  | _ => False
def ao_putI (t k nx : Nat) (X : am_X) (L : List (Option Value)) (S : List Value) (u : am_St) (b c : Nat) : Prop := match S with
  | .int x :: .ref a :: S => match u.1[a]? with
    | some (t', n, _) => if t' = t + 3 ∧ k < n then X nx L S (u.1, am_up u.2 a k x) b c else False
    | none => False
  | _ => False
def ao_putZ (t k nx : Nat) (X : am_X) (L : List (Option Value)) (S : List Value) (u : am_St) (b c : Nat) : Prop := match S with
  | .int x :: .ref a :: S => match u.1[a]? with
    | some (t', n, _) => if t' = t + 3 ∧ k < n then ((x = 0 ∨ x = 1) ∧ X nx L S (u.1, am_up u.2 a k x) b c) else False
    | none => False
  | _ => False
def ao_putR (t k nx : Nat) (X : am_X) (L : List (Option Value)) (S : List Value) (u : am_St) (b c : Nat) : Prop := match S with
  | .ref v :: .ref a :: S => match u.1[a]? with
    | some (t', n, rs) => if t' = t + 3 ∧ k < n ∧ k < rs.length then X nx L S (u.1.set a (t', n, rs.set k (some v)), u.2) b c else False
    | none => False
  | _ => False
def ao_ald (t nx : Nat) (X : am_X) (L : List (Option Value)) (S : List Value) (u : am_St) (b c : Nat) : Prop := match S with
  | .int x :: .ref a :: S => ∃ n rs, u.1[a]? = some (t, n, rs) ∧ vp_in x n ∧ X nx L (.int (u.2 a x.toNatClampNeg) :: S) u b c
  | _ => False
def ao_aald (nx : Nat) (X : am_X) (L : List (Option Value)) (S : List Value) (u : am_St) (b c : Nat) : Prop := match S with
  | .int x :: .ref a :: S => ∃ n rs a', u.1[a]? = some (2, n, rs) ∧ vp_in x n ∧ am_rg rs x.toNatClampNeg = some a' ∧ X nx L (.ref a' :: S) u b c
  | _ => False
def ao_iast (nx : Nat) (X : am_X) (L : List (Option Value)) (S : List Value) (u : am_St) (b c : Nat) : Prop := match S with
  | .int v :: .int x :: .ref a :: S => ∃ n rs, u.1[a]? = some (0, n, rs) ∧ vp_in x n ∧ X nx L S (u.1, am_up u.2 a x.toNatClampNeg v) b c
  | _ => False
def ao_zast (nx : Nat) (X : am_X) (L : List (Option Value)) (S : List Value) (u : am_St) (b c : Nat) : Prop := match S with
  | .int v :: .int x :: .ref a :: S => ∃ n rs, u.1[a]? = some (1, n, rs) ∧ vp_in x n ∧ X nx L S (u.1, am_up u.2 a x.toNatClampNeg (vp_nar .boolean v)) b c
  | _ => False
def ao_alen (nx : Nat) (X : am_X) (L : List (Option Value)) (S : List Value) (u : am_St) (b c : Nat) : Prop := match S with
  | .ref a :: S => ∃ t n rs, u.1[a]? = some (t, n, rs) ∧ t < 3 ∧ X nx L (.int (Int32.ofNat n) :: S) u b c
  | _ => False
/-- every reference is to a cell that is there, or to one given from the start -/
def am_vr (n a : Nat) : Bool := Nat.blt a n || Nat.ble am_sb a
def am_vv (n : Nat) : Value → Bool
  | .ref a => am_vr n a
  | _ => true
def am_vo (n : Nat) : Option Value → Bool
  | some v => am_vv n v
  | none => true
def am_vn (n : Nat) : Option Nat → Bool
  | some a => Nat.blt a n
  | none => true
def am_val (sh : am_Sh) (L : List (Option Value)) (S : List Value) : Bool := S.all (am_vv sh.length) && (L.all (am_vo sh.length) && sh.all (fun e => e.2.2.all (am_vn sh.length)))
def am_h8 (S : List Value) : Bool := Nat.ble ((S.map fun v => v.category).sum) 8
def ao_call (y k : Nat) (kc : Nat × Nat) (C : am_C) (nx : Nat) (X : am_X) (L : List (Option Value)) (S : List Value) (u : am_St) (b c : Nat) : Prop :=
  if kc.1 ≤ b ∧ kc.2 ≤ c ∧ k ≤ S.length ∧ am_h8 (S.drop k) = true ∧ (kc.1 = 0 ∨ am_val u.1 L (S.drop k) = true) then C y (S.take k).reverse u (fun r u' => X nx L (r.toList ++ S.drop k) u' (b - kc.1) (c - kc.2)) else False
def ao_vcall (y k rc : Nat) (kc : Nat × Nat) (C : am_C) (nx : Nat) (X : am_X) (L : List (Option Value)) (S : List Value) (u : am_St) (b c : Nat) : Prop := match (S.take k).reverse with
  | .ref a :: _ => match u.1[a]? with
    | some (t', _, _) => if t' = rc + 3 then ao_call y k kc C nx X L S u b c else False
    | none => False
  | _ => False
def ao_ret (Q : am_Q) (S : List Value) (u : am_St) : Prop := match S with
  | [] => Q none u
  | _ => False
def ao_iret (Q : am_Q) (S : List Value) (u : am_St) : Prop := match S with
  | [.int v] => Q (some (.int v)) u
  | _ => False
def ao_zret (Q : am_Q) (S : List Value) (u : am_St) : Prop := match S with
  | [.int v] => (v = 0 ∨ v = 1) ∧ Q (some (.int v)) u
  | _ => False
def ao_aret (Q : am_Q) (S : List Value) (u : am_St) : Prop := match S with
  | [.ref v] => Q (some (.ref v)) u
  | _ => False
def ao_lret (Q : am_Q) (S : List Value) (u : am_St) : Prop := match S with
  | [.long v] => Q (some (.long v)) u
  | _ => False
def ao_new (t n nx : Nat) (X : am_X) (L : List (Option Value)) (S : List Value) (u : am_St) (b c : Nat) : Prop :=
  if 1 ≤ b ∧ n ≤ c ∧ u.1.length < am_sb ∧ am_val u.1 L S = true then X nx L (.ref u.1.length :: S) (u.1 ++ [(t + 3, n, List.replicate n none)], am_zr u.2 u.1.length 1) (b - 1) (c - n) else False
def ao_newa (t n nx : Nat) (X : am_X) (L : List (Option Value)) (S : List Value) (u : am_St) (b c : Nat) : Prop := match S with
  | .int x :: S => if x = Int32.ofNat n ∧ n < 100000 ∧ 1 ≤ b ∧ n ≤ c ∧ u.1.length < am_sb ∧ am_val u.1 L S = true then X nx L (.ref u.1.length :: S) (u.1 ++ [(t, n, [])], am_zr u.2 u.1.length 1) (b - 1) (c - n) else False
  | _ => False
def ao_newg (n k nx : Nat) (X : am_X) (L : List (Option Value)) (S : List Value) (u : am_St) (b c : Nat) : Prop := match S with
  | .int y :: .int x :: S => if x = Int32.ofNat n ∧ y = Int32.ofNat k ∧ n < 1000 ∧ k < 1000 ∧ 1 + n ≤ b ∧ n + n * k ≤ c ∧ u.1.length + 1 + n ≤ am_sb ∧ am_val u.1 L S = true then
      X nx L (.ref u.1.length :: S) (u.1 ++ (2, n, (List.range n).map fun j => some (u.1.length + 1 + j)) :: List.replicate n (0, k, []), am_zr u.2 u.1.length (1 + n)) (b - (1 + n)) (c - (n + n * k)) else False
  | _ => False
def ao_dup (nx : Nat) (X : am_X) (L : List (Option Value)) (S : List Value) (u : am_St) (b c : Nat) : Prop := match S with
  | v :: S => if v.category = 1 then X nx L (v :: v :: S) u b c else False
  | _ => False
def ao_pop (nx : Nat) (X : am_X) (L : List (Option Value)) (S : List Value) (u : am_St) (b c : Nat) : Prop := match S with
  | v :: S => if v.category = 1 then X nx L S u b c else False
  | _ => False
def ao_dupx1 (nx : Nat) (X : am_X) (L : List (Option Value)) (S : List Value) (u : am_St) (b c : Nat) : Prop := match S with
  | v :: w :: S => if v.category = 1 ∧ w.category = 1 then X nx L (v :: w :: v :: S) u b c else False
  | _ => False
def ao_dup2 (nx : Nat) (X : am_X) (L : List (Option Value)) (S : List Value) (u : am_St) (b c : Nat) : Prop := match S with
  | v :: w :: S => if v.category = 1 ∧ w.category = 1 then X nx L (v :: w :: v :: w :: S) u b c else False
  | _ => False
def ao_sld (sn : Nat → Nat) (sv : Nat → Nat → Int32) (ns nx : Nat) (X : am_X) (L : List (Option Value)) (S : List Value) (u : am_St) (b c : Nat) : Prop := match S with
  | .int x :: .ref a :: S => ∃ k, a = am_sb + k ∧ k < ns ∧ vp_in x (sn k) ∧ X nx L (.int (sv k x.toNatClampNeg) :: S) u b c
  | _ => False
def ao_slen (sn : Nat → Nat) (ns nx : Nat) (X : am_X) (L : List (Option Value)) (S : List Value) (u : am_St) (b c : Nat) : Prop := match S with
  | .ref a :: S => ∃ k, a = am_sb + k ∧ k < ns ∧ X nx L (.int (Int32.ofNat (sn k)) :: S) u b c
  | _ => False
def ao_math2 (f : Int32 → Int32 → Int32) (nx : Nat) (X : am_X) (L : List (Option Value)) (S : List Value) (u : am_St) (b c : Nat) : Prop := match S with
  | .int y :: .int x :: S => if am_h8 S = true then X nx L (.int (f x y) :: S) u b c else False
  | _ => False
def ao_math1 (f : Int32 → Int32) (nx : Nat) (X : am_X) (L : List (Option Value)) (S : List Value) (u : am_St) (b c : Nat) : Prop := match S with
  | .int x :: S => if am_h8 S = true then X nx L (.int (f x) :: S) u b c else False
  | _ => False
def ao_math2l (f : Int64 → Int64 → Int64) (nx : Nat) (X : am_X) (L : List (Option Value)) (S : List Value) (u : am_St) (b c : Nat) : Prop := match S with
  | .long y :: .long x :: S => if am_h8 S = true then X nx L (.long (f x y) :: S) u b c else False
  | _ => False
def ao_copy (nx : Nat) (X : am_X) (L : List (Option Value)) (S : List Value) (u : am_St) (b c : Nat) : Prop := match S with
  | .int n :: .int dp :: .ref a1 :: .int sp :: .ref a0 :: S => am_h8 S = true ∧ ∃ n0 r0 n1 r1, u.1[a0]? = some (0, n0, r0) ∧ u.1[a1]? = some (0, n1, r1) ∧ ¬ sp < 0 ∧ ¬ dp < 0 ∧ ¬ n < 0 ∧ sp.toNatClampNeg + n.toNatClampNeg ≤ n0 ∧ dp.toNatClampNeg + n.toNatClampNeg ≤ n1 ∧
      X nx L S (u.1, am_cp u.2 a1 (va_cpy (u.2 a0) (u.2 a1) sp.toNatClampNeg dp.toNatClampNeg n.toNatClampNeg)) b c
  | _ => False
def ao_oini (nx : Nat) (X : am_X) (L : List (Option Value)) (S : List Value) (u : am_St) (b c : Nat) : Prop := match S with
  | .ref _ :: S => if am_h8 S = true then X nx L S u b c else False
  | _ => False
def ao_xld (xl : Nat) (xs : Nat → Int32) (nx : Nat) (X : am_X) (L : List (Option Value)) (S : List Value) (u : am_St) (b c : Nat) : Prop := match S with
  | .int x :: .ref a :: S => a = am_xb ∧ vp_in x xl ∧ X nx L (.int (xs x.toNatClampNeg) :: S) u b c
  | _ => False
def ao_xlen (xl nx : Nat) (X : am_X) (L : List (Option Value)) (S : List Value) (u : am_St) (b c : Nat) : Prop := match S with
  | .ref a :: S => a = am_xb ∧ X nx L (.int (Int32.ofNat xl) :: S) u b c
  | _ => False
def ao_switch (f : Int32 → Nat) (X : am_X) (L : List (Option Value)) (S : List Value) (u : am_St) (b c : Nat) : Prop := match S with
  | .int x :: S => X (f x) L S u b c
  | _ => False
/-- the surroundings: kinds of the methods' receivers, what they make, the static rows, the script, where a switch leads -/
abbrev am_E : Type := (Nat → Nat) × (Nat → Nat × Nat) × (Nat × (Nat → Nat) × (Nat → Nat → Int32)) × (Nat × (Nat → Int32)) × (Nat → Int32 → Nat)
def am_op (E : am_E) (C : am_C) (Q : am_Q) (pc : Nat) (I : am_In) (X : am_X) (L : List (Option Value)) (S : List Value) (u : am_St) (b c : Nat) : Prop :=
  match I with
  | (op, i, j, z, nx) => match op with
    | 0 => ao_push (.int (Int32.ofInt z)) nx X L S u b c
    | 1 => ao_iload i nx X L S u b c
    | 2 => ao_aload i nx X L S u b c
    | 3 => ao_lload i nx X L S u b c
    | 4 => ao_istore i nx X L S u b c
    | 5 => ao_astore i nx X L S u b c
    | 6 => ao_lstore i nx X L S u b c
    | 7 => ao_iinc i z nx X L S u b c
    | 8 => ao_ibin (fun x y => x + y) nx X L S u b c
    | 9 => ao_ibin (fun x y => x - y) nx X L S u b c
    | 10 => ao_ibin (fun x y => x * y) nx X L S u b c
    | 11 => ao_idiv (fun x y => x / y) nx X L S u b c
    | 12 => ao_idiv (fun x y => x - x / y * y) nx X L S u b c
    | 13 => ao_ibin (fun x y => x &&& y) nx X L S u b c
    | 14 => ao_if j i nx X L S u b c
    | 15 => ao_icmp j i nx X L S u b c
    | 16 => ao_goto i X L S u b c
    | 17 => ao_getI i j nx X L S u b c
    | 18 => ao_getR i j nx X L S u b c
    | 19 => ao_putI i j nx X L S u b c
    | 20 => ao_putZ i j nx X L S u b c
    | 21 => ao_putR i j nx X L S u b c
    | 22 => ao_ald 0 nx X L S u b c
    | 23 => ao_ald 1 nx X L S u b c
    | 24 => ao_aald nx X L S u b c
    | 25 => ao_iast nx X L S u b c
    | 26 => ao_zast nx X L S u b c
    | 27 => ao_alen nx X L S u b c
    | 28 => ao_call i j (E.2.1 i) C nx X L S u b c
    | 29 => ao_vcall i j (E.1 i) (E.2.1 i) C nx X L S u b c
    | 30 => ao_ret Q S u
    | 31 => ao_iret Q S u
    | 32 => ao_zret Q S u
    | 33 => ao_aret Q S u
    | 34 => ao_lret Q S u
    | 35 => ao_new i j nx X L S u b c
    | 36 => ao_newa i j nx X L S u b c
    | 37 => ao_newg i j nx X L S u b c
    | 38 => ao_dup nx X L S u b c
    | 39 => ao_pop nx X L S u b c
    | 40 => ao_dupx1 nx X L S u b c
    | 41 => ao_dup2 nx X L S u b c
    | 42 => ao_push (.long (Int64.ofInt z)) nx X L S u b c
    | 43 => ao_i2l nx X L S u b c
    | 44 => ao_l2i nx X L S u b c
    | 45 => ao_lbin (fun x y => x + y) nx X L S u b c
    | 46 => ao_lbin (fun x y => x - y) nx X L S u b c
    | 47 => ao_lbin (fun x y => x * y) nx X L S u b c
    | 48 => ao_ldiv (fun x y => x / y) nx X L S u b c
    | 49 => ao_lcmp nx X L S u b c
    | 50 => ao_push (.ref (am_sb + i)) nx X L S u b c
    | 51 => ao_sld E.2.2.1.2.1 E.2.2.1.2.2 E.2.2.1.1 nx X L S u b c
    | 52 => ao_slen E.2.2.1.2.1 E.2.2.1.1 nx X L S u b c
    | 53 => ao_math2 (fun x y => if x < y then y else x) nx X L S u b c
    | 54 => ao_math2 (fun x y => if y < x then y else x) nx X L S u b c
    | 55 => ao_math1 (fun x => if 0 ≤ x then x else 0 - x) nx X L S u b c
    | 56 => ao_math2l (fun x y => if y < x then y else x) nx X L S u b c
    | 57 => ao_copy nx X L S u b c
    | 58 => ao_oini nx X L S u b c
    | 59 => ao_xld E.2.2.2.1.1 E.2.2.2.1.2 nx X L S u b c
    | 60 => ao_xlen E.2.2.2.1.1 nx X L S u b c
    | 61 => ao_switch (E.2.2.2.2 pc) X L S u b c
    | _ => False
def am_F (E : am_E) (cd : Nat → Option am_In) (C : am_C) (Q : am_Q) (X : am_X) : am_X := fun pc L S u b c => match cd pc with
  | some I => am_op E C Q pc I X L S u b c
  | none => False
/-- the weakest start: by every X that is closed under steps backwards -/
def am_wp (E : am_E) (cd : Nat → Option am_In) (C : am_C) (Q : am_Q) : am_X := fun pc L S u b c => ∀ X : am_X, (∀ pc L S u b c, am_F E cd C Q X pc L S u b c → X pc L S u b c) → X pc L S u b c
set_option maxHeartbeats 4000000 in
theorem am_op_mono {E : am_E} {C C' : am_C} {Q Q' : am_Q} {X Y : am_X} (hC : ∀ y As u P P', (∀ r u, P r u → P' r u) → C y As u P → C' y As u P') (hQ : ∀ r u, Q r u → Q' r u) (hX : ∀ pc L S u b c, X pc L S u b c → Y pc L S u b c)
    (pc : Nat) (I : am_In) (L : List (Option Value)) (S : List Value) (u : am_St) (b c : Nat) (h : am_op E C Q pc I X L S u b c) : am_op E C' Q' pc I Y L S u b c := by
  have hcall : ∀ (y k : Nat) (kc : Nat × Nat) (nx : Nat), ao_call y k kc C nx X L S u b c → ao_call y k kc C' nx Y L S u b c := by
    intro y k kc nx
    unfold ao_call
    split
    · exact fun h => hC _ _ _ _ _ (fun r u hr => hX _ _ _ _ _ _ hr) h
    · exact id
  obtain ⟨op, i, j, z, nx⟩ := I
  revert h
  unfold am_op
  dsimp only
  split
  · exact hX _ _ _ _ _ _
  · unfold ao_iload; split; exact hX _ _ _ _ _ _; exact id
  · unfold ao_aload; split; exact hX _ _ _ _ _ _; exact id
  · unfold ao_lload; split; exact hX _ _ _ _ _ _; exact id
  · unfold ao_istore; split; exact hX _ _ _ _ _ _; exact id
  · unfold ao_astore; split; exact hX _ _ _ _ _ _; exact id
  · unfold ao_lstore; split; exact hX _ _ _ _ _ _; exact id
  · unfold ao_iinc; split; exact hX _ _ _ _ _ _; exact id
  · unfold ao_ibin; split; exact hX _ _ _ _ _ _; exact id
  · unfold ao_ibin; split; exact hX _ _ _ _ _ _; exact id
  · unfold ao_ibin; split; exact hX _ _ _ _ _ _; exact id
  · unfold ao_idiv; split; exact fun h => ⟨h.1, hX _ _ _ _ _ _ h.2⟩; exact id
  · unfold ao_idiv; split; exact fun h => ⟨h.1, hX _ _ _ _ _ _ h.2⟩; exact id
  · unfold ao_ibin; split; exact hX _ _ _ _ _ _; exact id
  · unfold ao_if; split
    · split <;> first | exact fun h => ⟨fun q => hX _ _ _ _ _ _ (h.1 q), fun q => hX _ _ _ _ _ _ (h.2 q)⟩ | exact id
    · exact id
  · unfold ao_icmp; split
    · split <;> first | exact fun h => ⟨fun q => hX _ _ _ _ _ _ (h.1 q), fun q => hX _ _ _ _ _ _ (h.2 q)⟩ | exact id
    · exact id
  · exact hX _ _ _ _ _ _
  · unfold ao_getI; split
    · split
      · split; exact hX _ _ _ _ _ _; exact id
      · exact id
    · exact id
  · unfold ao_getR; split
    · split
      · split
        · split; exact hX _ _ _ _ _ _; exact id
        · exact id
      · exact id
    · exact id
  · unfold ao_putI; split
    · split
      · split; exact hX _ _ _ _ _ _; exact id
      · exact id
    · exact id
  · unfold ao_putZ; split
    · split
      · split; exact fun h => ⟨h.1, hX _ _ _ _ _ _ h.2⟩; exact id
      · exact id
    · exact id
  · unfold ao_putR; split
    · split
      · split; exact hX _ _ _ _ _ _; exact id
      · exact id
    · exact id
  · unfold ao_ald; split; exact fun ⟨n, rs, h1, h2, h3⟩ => ⟨n, rs, h1, h2, hX _ _ _ _ _ _ h3⟩; exact id
  · unfold ao_ald; split; exact fun ⟨n, rs, h1, h2, h3⟩ => ⟨n, rs, h1, h2, hX _ _ _ _ _ _ h3⟩; exact id
  · unfold ao_aald; split; exact fun ⟨n, rs, a, h1, h2, h3, h4⟩ => ⟨n, rs, a, h1, h2, h3, hX _ _ _ _ _ _ h4⟩; exact id
  · unfold ao_iast; split; exact fun ⟨n, rs, h1, h2, h3⟩ => ⟨n, rs, h1, h2, hX _ _ _ _ _ _ h3⟩; exact id
  · unfold ao_zast; split; exact fun ⟨n, rs, h1, h2, h3⟩ => ⟨n, rs, h1, h2, hX _ _ _ _ _ _ h3⟩; exact id
  · unfold ao_alen; split; exact fun ⟨t, n, rs, h1, h2, h3⟩ => ⟨t, n, rs, h1, h2, hX _ _ _ _ _ _ h3⟩; exact id
  · exact hcall _ _ _ _
  · unfold ao_vcall; split
    · split
      · split; exact hcall _ _ _ _; exact id
      · exact id
    · exact id
  · unfold ao_ret; split; exact hQ _ _; exact id
  · unfold ao_iret; split; exact hQ _ _; exact id
  · unfold ao_zret; split; exact fun h => ⟨h.1, hQ _ _ h.2⟩; exact id
  · unfold ao_aret; split; exact hQ _ _; exact id
  · unfold ao_lret; split; exact hQ _ _; exact id
  · unfold ao_new; split; exact hX _ _ _ _ _ _; exact id
  · unfold ao_newa; split
    · split; exact hX _ _ _ _ _ _; exact id
    · exact id
  · unfold ao_newg; split
    · split; exact hX _ _ _ _ _ _; exact id
    · exact id
  · unfold ao_dup; split
    · split; exact hX _ _ _ _ _ _; exact id
    · exact id
  · unfold ao_pop; split
    · split; exact hX _ _ _ _ _ _; exact id
    · exact id
  · unfold ao_dupx1; split
    · split; exact hX _ _ _ _ _ _; exact id
    · exact id
  · unfold ao_dup2; split
    · split; exact hX _ _ _ _ _ _; exact id
    · exact id
  · exact hX _ _ _ _ _ _
  · unfold ao_i2l; split; exact hX _ _ _ _ _ _; exact id
  · unfold ao_l2i; split; exact hX _ _ _ _ _ _; exact id
  · unfold ao_lbin; split; exact hX _ _ _ _ _ _; exact id
  · unfold ao_lbin; split; exact hX _ _ _ _ _ _; exact id
  · unfold ao_lbin; split; exact hX _ _ _ _ _ _; exact id
  · unfold ao_ldiv; split; exact fun h => ⟨h.1, hX _ _ _ _ _ _ h.2⟩; exact id
  · unfold ao_lcmp; split; exact hX _ _ _ _ _ _; exact id
  · exact hX _ _ _ _ _ _
  · unfold ao_sld; split; exact fun ⟨k, h1, h2, h3, h4⟩ => ⟨k, h1, h2, h3, hX _ _ _ _ _ _ h4⟩; exact id
  · unfold ao_slen; split; exact fun ⟨k, h1, h2, h4⟩ => ⟨k, h1, h2, hX _ _ _ _ _ _ h4⟩; exact id
  · unfold ao_math2; split
    · split; exact hX _ _ _ _ _ _; exact id
    · exact id
  · unfold ao_math2; split
    · split; exact hX _ _ _ _ _ _; exact id
    · exact id
  · unfold ao_math1; split
    · split; exact hX _ _ _ _ _ _; exact id
    · exact id
  · unfold ao_math2l; split
    · split; exact hX _ _ _ _ _ _; exact id
    · exact id
  · unfold ao_copy; split
    · exact fun ⟨h0, n0, r0, n1, r1, h1, h2, h3, h4, h5, h6, h7, h8⟩ => ⟨h0, n0, r0, n1, r1, h1, h2, h3, h4, h5, h6, h7, hX _ _ _ _ _ _ h8⟩
    · exact id
  · unfold ao_oini; split
    · split; exact hX _ _ _ _ _ _; exact id
    · exact id
  · unfold ao_xld; split; exact fun ⟨h1, h2, h3⟩ => ⟨h1, h2, hX _ _ _ _ _ _ h3⟩; exact id
  · unfold ao_xlen; split; exact fun ⟨h1, h3⟩ => ⟨h1, hX _ _ _ _ _ _ h3⟩; exact id
  · unfold ao_switch; split; exact hX _ _ _ _ _ _; exact id
  · exact id
theorem am_F_mono {E : am_E} {cd : Nat → Option am_In} {C C' : am_C} {Q Q' : am_Q} {X Y : am_X} (hC : ∀ y As u P P', (∀ r u, P r u → P' r u) → C y As u P → C' y As u P') (hQ : ∀ r u, Q r u → Q' r u) (hX : ∀ pc L S u b c, X pc L S u b c → Y pc L S u b c)
    (pc : Nat) (L : List (Option Value)) (S : List Value) (u : am_St) (b c : Nat) (h : am_F E cd C Q X pc L S u b c) : am_F E cd C' Q' Y pc L S u b c := by
  revert h
  unfold am_F
  split
  · exact am_op_mono hC hQ hX _ _ _ _ _ _ _
  · exact id
/-- a call's meaning is monotone -/
def am_mo (C : am_C) : Prop := ∀ y As u P P', (∀ r u, P r u → P' r u) → C y As u P → C y As u P'
theorem am_wp_in {E : am_E} {cd : Nat → Option am_In} {C : am_C} {Q : am_Q} (hC : am_mo C) {pc : Nat} {L : List (Option Value)} {S : List Value} {u : am_St} {b c : Nat} (h : am_F E cd C Q (am_wp E cd C Q) pc L S u b c) : am_wp E cd C Q pc L S u b c :=
  fun X hX => hX _ _ _ _ _ _ (am_F_mono hC (fun _ _ q => q) (fun _ _ _ _ _ _ hw => hw X hX) _ _ _ _ _ _ h)
theorem am_wp_mono {E : am_E} {cd : Nat → Option am_In} {C C' : am_C} {Q Q' : am_Q} (hC : ∀ y As u P P', (∀ r u, P r u → P' r u) → C y As u P → C' y As u P') (hQ : ∀ r u, Q r u → Q' r u) {pc : Nat} {L : List (Option Value)} {S : List Value} {u : am_St} {b c : Nat} (h : am_wp E cd C Q pc L S u b c) : am_wp E cd C' Q' pc L S u b c :=
  fun X hX => h X (fun _ _ _ _ _ _ hF => hX _ _ _ _ _ _ (am_F_mono hC hQ (fun _ _ _ _ _ _ q => q) _ _ _ _ _ _ hF))
def am_fr (E : am_E) (cd : Nat → Option am_In) (C : am_C) (Q : am_Q) (stop : Nat → Bool) (X : am_X) : Nat → am_X
  | 0 => X
  | n + 1 => fun pc L S u b c => if stop pc = true then X pc L S u b c else am_F E cd C Q (am_fr E cd C Q stop X n) pc L S u b c
theorem am_fr_in {E : am_E} {cd : Nat → Option am_In} {C : am_C} {Q : am_Q} (hC : am_mo C) (stop : Nat → Bool) : ∀ (n pc : Nat) (L : List (Option Value)) (S : List Value) (u : am_St) (b c : Nat), am_fr E cd C Q stop (am_wp E cd C Q) n pc L S u b c → am_wp E cd C Q pc L S u b c
  | 0, _, _, _, _, _, _, h => h
  | n + 1, pc, L, S, u, b, c, h => by
    revert h
    unfold am_fr
    split
    · exact id
    · exact fun h => am_wp_in hC (am_F_mono hC (fun _ _ q => q) (am_fr_in hC stop n) _ _ _ _ _ _ h)
theorem am_go {E : am_E} {cd : Nat → Option am_In} {C : am_C} {Q : am_Q} (hC : am_mo C) (stop : Nat → Bool) (n : Nat) {pc : Nat} {L : List (Option Value)} {S : List Value} {u : am_St} {b c : Nat} (h : ∀ X : am_X, (∀ pc L S u b c, am_wp E cd C Q pc L S u b c → X pc L S u b c) → am_F E cd C Q (am_fr E cd C Q stop X n) pc L S u b c) : am_wp E cd C Q pc L S u b c :=
  am_wp_in hC (am_F_mono hC (fun _ _ q => q) (am_fr_in hC stop n) _ _ _ _ _ _ (h _ (fun _ _ _ _ _ _ q => q)))
/-- the locals at a method's entry -/
def am_la : List Value → List (Option Value)
  | [] => []
  | v :: r => if v.category = 2 then some v :: none :: am_la r else some v :: am_la r
def am_lo (n : Nat) (As : List Value) : List (Option Value) := am_la As ++ List.replicate (n - (am_la As).length) none
/-- a method's meaning, calls at most d deep -/
def am_sp (E : am_E) (cds : Nat → Nat → Option am_In) (ml : Nat → Nat) : Nat → am_C
  | 0 => fun _ _ _ _ => False
  | d + 1 => fun y As u Q => (am_la As).length ≤ ml y ∧ am_wp E (cds y) (am_sp E cds ml d) Q 0 (am_lo (ml y) As) [] u (E.2.1 y).1 (E.2.1 y).2
theorem am_sp_mo {E : am_E} {cds : Nat → Nat → Option am_In} {ml : Nat → Nat} : ∀ d, am_mo (am_sp E cds ml d)
  | 0 => fun _ _ _ _ _ _ h => h
  | d + 1 => fun _ _ _ _ _ hP h => ⟨h.1, am_wp_mono (am_sp_mo d) hP h.2⟩
theorem am_sp_s {E : am_E} {cds : Nat → Nat → Option am_In} {ml : Nat → Nat} : ∀ d y As u P P', (∀ r u, P r u → P' r u) → am_sp E cds ml d y As u P → am_sp E cds ml (d + 1) y As u P'
  | 0, _, _, _, _, _, _, h => h.elim
  | d + 1, _, _, _, _, _, hP, h => ⟨h.1, am_wp_mono (am_sp_s d) hP h.2⟩
theorem am_sp_le {E : am_E} {cds : Nat → Nat → Option am_In} {ml : Nat → Nat} {d d' y : Nat} {As : List Value} {u : am_St} {P P' : am_Q} (hd : d ≤ d') (hP : ∀ r u, P r u → P' r u) (h : am_sp E cds ml d y As u P) : am_sp E cds ml d' y As u P' := by
  induction d' with
  | zero =>
    have : d = 0 := by omega
    subst this
    exact h.elim
  | succ n ih =>
    rcases Nat.lt_or_ge n d with q | q
    · have : d = n + 1 := by omega
      subst this
      exact am_sp_mo _ _ _ _ _ _ hP h
    · exact am_sp_s n _ _ _ _ _ (fun _ _ q => q) (ih q)
