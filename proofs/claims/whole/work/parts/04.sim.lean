/-! THE SMALL MACHINE ON THE BIG ONE: what each kind of instruction of the small one asks for at the next place gives the walk of the big one from here. -/
def am_ty (kA : Nat → ClassId) : List (ClassId × FieldType) := [(kA 0, .int), (kA 1, .boolean), (kA 2, .array .int)]
/-- what is given from the start: the classes, links across the nest, the static rows -/
def am_Am (D : va_G) (cl : List vw_C) (kA : Nat → ClassId) (nw : List Cond) (sc : Nat → String × String) (ns : Nat) (sn : Nat → Nat) (sv : Nat → Nat → Int32) (A : Nat → Prop) (ad : Nat → Nat) (U : State) : Prop :=
  va_K D cl (am_ty kA) U ∧ (∀ w ∈ nw, va_Nw w U) ∧ va_AOA .int U ∧ ∀ k, k < ns → va_Z (sc k).1 (sc k).2 "[I" (.ref (ad (am_sb + k))) A U U.heap ∧ va_T .int (ad (am_sb + k)) (sn k) (fun j => .int (sv k j)) A U U.heap
/-- the heap is as the small machine has it -/
def am_Rh (D : va_G) (cl : List vw_C) (kA : Nat → ClassId) (ft : Nat → Nat → Bool) (A : Nat → Prop) (H0 : Heap) (ad0 : Nat → Nat) (n0 mc ms : Nat) (u : am_St) (b c : Nat) (ad : Nat → Nat) (H : Heap) (locs : List Loc) (cells slots : Nat) : Prop :=
  va_P D cl (am_wl kA ft ad u) H ∧ va_D A (am_wl kA ft ad u) ∧ va_S A H0 H locs ∧ cells + b ≤ mc ∧ slots + c ≤ ms ∧ n0 ≤ u.1.length ∧ u.1.length ≤ am_sb ∧ (∀ i, i < n0 ∨ am_sb ≤ i → ad i = ad0 i) ∧ (mc = 0 → ad = ad0)
def am_Xs (p : Program) (l : Launch) (e : Env) (R : Room) (s : State) (m : MethodId) (args : Array Value) (below : List Frame) (meth : Method) (c0 : Code) (Qs : State → Prop) (D : va_G) (cl : List vw_C) (kA : Nat → ClassId) (ft : Nat → Nat → Bool) (A : Nat → Prop) (ad0 : Nat → Nat) (n0 mc ms nL : Nat) : am_X := fun pc L S u b c =>
  ∀ (ad : Nat → Nat) (H : Heap) (locs : List Loc) (cells slots : Nat) (ls : Array Slot), lv_has ls nL (am_kn ad L) → am_Rh D cl kA ft A s.heap ad0 n0 mc ms u b c ad H locs cells slots → W p l e R s m args below meth c0 H locs cells slots Qs (F0 m pc ls (S.map (am_cv ad)))
def am_clok (cl : List vw_C) (Ts : List Cond) (ft : Nat → Nat → Bool) : Prop := ∀ (t : Nat) (q : vw_C), cl[t]? = some q → (∀ w ∈ u_ws q.1 q.2.1 q.2.2, w ∈ Ts) ∧ ∃ ty : Nat → FieldType, (∀ k, k < q.2.2 → parseFieldDescriptor (q.2.1 k).2.2.1 = some (ty k)) ∧ (∀ a, a < q.2.2 → ∀ b, b < q.2.2 → a ≠ b → (q.2.1 a).2.1 ≠ (q.2.1 b).2.1) ∧
  (∀ k, k < q.2.2 → (ft t k = true → (∃ C, ty k = .object C) ∨ ∃ f, ty k = .array f) ∧ (ft t k = false → ty k = .int ∨ ty k = .boolean))
def am_Cx (p : Program) (R : Room) (s : State) (m : MethodId) (args : Array Value) (meth : Method) (c0 : Code) (D : va_G) (cl : List vw_C) (kA : Nat → ClassId) (ft : Nat → Nat → Bool) (A : Nat → Prop) (ad0 : Nat → Nat) (mc ms nL : Nat) (cc : ByteArray) (own : String) (Ts nw : List Cond) (nm : String) (sc : Nat → String × String) (ns : Nat) (sn : Nat → Nat) (sv : Nat → Nat → Int32) (lg : Bool) (xl : Nat) (xs : Nat → Int32) : Prop :=
  p.tables.exec = Jvm.exec ∧ c0.code = cc ∧ c0.maxLocals = nL ∧ s.vm.findClass own = some m.cls ∧ (∀ w ∈ Ts, w.before args s = true) ∧ (∀ q, s.heap.size ≤ q → A q) ∧ am_Am D cl kA nw sc ns sn sv A ad0 s ∧ meth.name = nm ∧ 1 ≤ R.frames ∧ 40 ≤ R.locals ∧ mc ≤ R.cells ∧ ms ≤ R.slots ∧ am_clok cl Ts ft ∧ (lg = true → va_X (ad0 am_xb) xl xs s s.heap ∧ ad0 am_xb < s.heap.size ∧ ¬ A (ad0 am_xb))
section SIM
variable {p : Program} {l : Launch} {e : Env} {R : Room} {s : State} {m : MethodId} {args : Array Value} {below : List Frame} {meth : Method} {c0 : Code} {Qs : State → Prop} {D : va_G} {cl : List vw_C} {kA : Nat → ClassId} {ft : Nat → Nat → Bool} {A : Nat → Prop} {ad0 : Nat → Nat} {n0 mc ms nL : Nat} {cc : ByteArray} {own : String} {Ts nw : List Cond} {nm : String} {sc : Nat → String × String} {ns : Nat} {sn : Nat → Nat} {sv : Nat → Nat → Int32} {lg : Bool} {xl : Nat} {xs : Nat → Int32}
variable {pc nx i j : Nat} {z : Int} {L : List (Option Value)} {S : List Value} {u : am_St} {b c : Nat}
theorem as_push (cx : am_Cx p R s m args meth c0 D cl kA ft A ad0 mc ms nL cc own Ts nw nm sc ns sn sv lg xl xs) (hck : (j = 0 ∧ decode cc pc = .ok (.iconst z, 1) ∧ nx = pc + 1) ∨ (j = 1 ∧ decode cc pc = .ok (.bipush z, 2) ∧ (Int8.ofInt z).toInt32 = Int32.ofInt z ∧ nx = pc + 2) ∨ (j = 2 ∧ decode cc pc = .ok (.sipush z, 3) ∧ (Int16.ofInt z).toInt32 = Int32.ofInt z ∧ nx = pc + 3) ∨ (j = 3 ∧ decode cc pc = .ok (.ldc i, 2) ∧ Cond.constant own i (Int32.ofInt z) ∈ Ts ∧ nx = pc + 2)) (hF : ao_push (.int (Int32.ofInt z)) nx (am_Xs p l e R s m args below meth c0 Qs D cl kA ft A ad0 n0 mc ms nL) L S u b c) : (am_Xs p l e R s m args below meth c0 Qs D cl kA ft A ad0 n0 mc ms nL) pc L S u b c := by
  obtain ⟨hx, hb, hml, hown, hts, hA, hAm, hnm, hfr, hlo, hmc, hms, hcl, hxs⟩ := cx
  intro ad H locs cells slots ls hl hR
  have h := hF ad H locs cells slots ls hl hR
  rcases hck with ⟨-, h1, rfl⟩ | ⟨-, h1, h2, rfl⟩ | ⟨-, h1, h2, rfl⟩ | ⟨-, h1, h2, rfl⟩
  · exact lv_iconst hx hb h1 rfl h
  · exact lv_bipush hx hb h1 h2 h
  · exact lv_sipush hx hb h1 h2 h
  · exact lv_ldc hx hb hown (hts _ h2) h1 h
theorem as_iload (cx : am_Cx p R s m args meth c0 D cl kA ft A ad0 mc ms nL cc own Ts nw nm sc ns sn sv lg xl xs) (hck : if h : i < 4 then decode cc pc = .ok (.iload_n ⟨i, h⟩, 1) ∧ nx = pc + 1 else decode cc pc = .ok (.iload i, 2) ∧ nx = pc + 2) (hF : ao_iload i nx (am_Xs p l e R s m args below meth c0 Qs D cl kA ft A ad0 n0 mc ms nL) L S u b c) : (am_Xs p l e R s m args below meth c0 Qs D cl kA ft A ad0 n0 mc ms nL) pc L S u b c := by
  obtain ⟨hx, hb, hml, hown, hts, hA, hAm, hnm, hfr, hlo, hmc, hms, hcl, hxs⟩ := cx
  unfold ao_iload at hF
  split at hF
  · rename_i x hv
    intro ad H locs cells slots ls hl hR
    have h := hF ad H locs cells slots ls hl hR
    split at hck
    · obtain ⟨h1, rfl⟩ := hck
      exact lv_iload_n hx hb h1 rfl (am_at hl hv) h
    · obtain ⟨h1, rfl⟩ := hck
      exact lv_iload hx hb h1 (am_at hl hv) h
  · exact hF.elim
theorem as_aload (cx : am_Cx p R s m args meth c0 D cl kA ft A ad0 mc ms nL cc own Ts nw nm sc ns sn sv lg xl xs) (hck : if h : i < 4 then decode cc pc = .ok (.aload_n ⟨i, h⟩, 1) ∧ nx = pc + 1 else decode cc pc = .ok (.aload i, 2) ∧ nx = pc + 2) (hF : ao_aload i nx (am_Xs p l e R s m args below meth c0 Qs D cl kA ft A ad0 n0 mc ms nL) L S u b c) : (am_Xs p l e R s m args below meth c0 Qs D cl kA ft A ad0 n0 mc ms nL) pc L S u b c := by
  obtain ⟨hx, hb, hml, hown, hts, hA, hAm, hnm, hfr, hlo, hmc, hms, hcl, hxs⟩ := cx
  unfold ao_aload at hF
  split at hF
  · rename_i x hv
    intro ad H locs cells slots ls hl hR
    have h := hF ad H locs cells slots ls hl hR
    split at hck
    · obtain ⟨h1, rfl⟩ := hck
      exact lv_aload_n hx hb h1 rfl (am_at hl hv) h
    · obtain ⟨h1, rfl⟩ := hck
      exact lv_aload hx hb h1 (am_at hl hv) h
  · exact hF.elim
theorem as_lload (cx : am_Cx p R s m args meth c0 D cl kA ft A ad0 mc ms nL cc own Ts nw nm sc ns sn sv lg xl xs) (hck : if h : i < 4 then decode cc pc = .ok (.lload_n ⟨i, h⟩, 1) ∧ nx = pc + 1 else decode cc pc = .ok (.lload i, 2) ∧ nx = pc + 2) (hF : ao_lload i nx (am_Xs p l e R s m args below meth c0 Qs D cl kA ft A ad0 n0 mc ms nL) L S u b c) : (am_Xs p l e R s m args below meth c0 Qs D cl kA ft A ad0 n0 mc ms nL) pc L S u b c := by
  obtain ⟨hx, hb, hml, hown, hts, hA, hAm, hnm, hfr, hlo, hmc, hms, hcl, hxs⟩ := cx
  unfold ao_lload at hF
  split at hF
  · rename_i x hv
    intro ad H locs cells slots ls hl hR
    have h := hF ad H locs cells slots ls hl hR
    split at hck
    · obtain ⟨h1, rfl⟩ := hck
      exact lv_lload_n hx hb h1 rfl (am_at hl hv) h
    · obtain ⟨h1, rfl⟩ := hck
      exact lv_lload hx hb h1 (am_at hl hv) h
  · exact hF.elim
theorem as_istore (cx : am_Cx p R s m args meth c0 D cl kA ft A ad0 mc ms nL cc own Ts nw nm sc ns sn sv lg xl xs) (hck : (if h : i < 4 then decode cc pc = .ok (.istore_n ⟨i, h⟩, 1) ∧ nx = pc + 1 else decode cc pc = .ok (.istore i, 2) ∧ nx = pc + 2) ∧ i < nL) (hF : ao_istore i nx (am_Xs p l e R s m args below meth c0 Qs D cl kA ft A ad0 n0 mc ms nL) L S u b c) : (am_Xs p l e R s m args below meth c0 Qs D cl kA ft A ad0 n0 mc ms nL) pc L S u b c := by
  obtain ⟨hx, hb, hml, hown, hts, hA, hAm, hnm, hfr, hlo, hmc, hms, hcl, hxs⟩ := cx
  unfold ao_istore at hF
  split at hF
  · rename_i x S
    intro ad H locs cells slots ls hl hR
    obtain ⟨hck, hn⟩ := hck
    split at hck
    · obtain ⟨h1, rfl⟩ := hck
      exact lv_istore_n hx hb h1 rfl hl hn rfl (fun ls' hl' => hF ad H locs cells slots ls' (am_has1 (v := .int x) hl') hR)
    · obtain ⟨h1, rfl⟩ := hck
      exact lv_istore hx hb h1 hl hn rfl (fun ls' hl' => hF ad H locs cells slots ls' (am_has1 (v := .int x) hl') hR)
  · exact hF.elim
theorem as_astore (cx : am_Cx p R s m args meth c0 D cl kA ft A ad0 mc ms nL cc own Ts nw nm sc ns sn sv lg xl xs) (hck : (if h : i < 4 then decode cc pc = .ok (.astore_n ⟨i, h⟩, 1) ∧ nx = pc + 1 else decode cc pc = .ok (.astore i, 2) ∧ nx = pc + 2) ∧ i < nL) (hF : ao_astore i nx (am_Xs p l e R s m args below meth c0 Qs D cl kA ft A ad0 n0 mc ms nL) L S u b c) : (am_Xs p l e R s m args below meth c0 Qs D cl kA ft A ad0 n0 mc ms nL) pc L S u b c := by
  obtain ⟨hx, hb, hml, hown, hts, hA, hAm, hnm, hfr, hlo, hmc, hms, hcl, hxs⟩ := cx
  unfold ao_astore at hF
  split at hF
  · rename_i x S
    intro ad H locs cells slots ls hl hR
    obtain ⟨hck, hn⟩ := hck
    split at hck
    · obtain ⟨h1, rfl⟩ := hck
      exact lv_astore_n hx hb h1 rfl hl hn rfl (fun ls' hl' => hF ad H locs cells slots ls' (am_has1 (v := .ref x) hl') hR)
    · obtain ⟨h1, rfl⟩ := hck
      exact lv_astore hx hb h1 hl hn rfl (fun ls' hl' => hF ad H locs cells slots ls' (am_has1 (v := .ref x) hl') hR)
  · exact hF.elim
theorem as_lstore (cx : am_Cx p R s m args meth c0 D cl kA ft A ad0 mc ms nL cc own Ts nw nm sc ns sn sv lg xl xs) (hck : (if h : i < 4 then decode cc pc = .ok (.lstore_n ⟨i, h⟩, 1) ∧ nx = pc + 1 else decode cc pc = .ok (.lstore i, 2) ∧ nx = pc + 2) ∧ i + 1 < nL) (hF : ao_lstore i nx (am_Xs p l e R s m args below meth c0 Qs D cl kA ft A ad0 n0 mc ms nL) L S u b c) : (am_Xs p l e R s m args below meth c0 Qs D cl kA ft A ad0 n0 mc ms nL) pc L S u b c := by
  obtain ⟨hx, hb, hml, hown, hts, hA, hAm, hnm, hfr, hlo, hmc, hms, hcl, hxs⟩ := cx
  unfold ao_lstore at hF
  split at hF
  · rename_i x S
    intro ad H locs cells slots ls hl hR
    obtain ⟨hck, hn⟩ := hck
    split at hck
    · obtain ⟨h1, rfl⟩ := hck
      exact lv_lstore_n hx hb h1 rfl hl hn rfl (fun ls' hl' => hF ad H locs cells slots ls' (am_has2 (v := .long x) hl') hR)
    · obtain ⟨h1, rfl⟩ := hck
      exact lv_lstore hx hb h1 hl hn rfl (fun ls' hl' => hF ad H locs cells slots ls' (am_has2 (v := .long x) hl') hR)
  · exact hF.elim
theorem as_iinc (cx : am_Cx p R s m args meth c0 D cl kA ft A ad0 mc ms nL cc own Ts nw nm sc ns sn sv lg xl xs) (hck : decode cc pc = .ok (.iinc i z, 3) ∧ nx = pc + 3 ∧ i < nL) (hF : ao_iinc i z nx (am_Xs p l e R s m args below meth c0 Qs D cl kA ft A ad0 n0 mc ms nL) L S u b c) : (am_Xs p l e R s m args below meth c0 Qs D cl kA ft A ad0 n0 mc ms nL) pc L S u b c := by
  obtain ⟨hx, hb, hml, hown, hts, hA, hAm, hnm, hfr, hlo, hmc, hms, hcl, hxs⟩ := cx
  unfold ao_iinc at hF
  split at hF
  · rename_i x hv
    intro ad H locs cells slots ls hl hR
    obtain ⟨h1, rfl, hn⟩ := hck
    obtain ⟨k, hk⟩ := List.getElem?_of_mem (am_kn_in (ad := ad) hv)
    exact lv_iinc hx hb h1 hl (k := k) hk rfl hn rfl (fun ls' hl' => hF ad H locs cells slots ls' (am_has1 (v := .int (x + Int32.ofInt z)) hl') hR)
  · exact hF.elim
theorem as_iadd (cx : am_Cx p R s m args meth c0 D cl kA ft A ad0 mc ms nL cc own Ts nw nm sc ns sn sv lg xl xs) (hck : decode cc pc = .ok (.iadd, 1) ∧ nx = pc + 1) (hF : ao_ibin (fun x y => x + y) nx (am_Xs p l e R s m args below meth c0 Qs D cl kA ft A ad0 n0 mc ms nL) L S u b c) : (am_Xs p l e R s m args below meth c0 Qs D cl kA ft A ad0 n0 mc ms nL) pc L S u b c := by
  obtain ⟨hx, hb, hml, hown, hts, hA, hAm, hnm, hfr, hlo, hmc, hms, hcl, hxs⟩ := cx
  unfold ao_ibin at hF
  split at hF
  · intro ad H locs cells slots ls hl hR
    obtain ⟨h1, rfl⟩ := hck
    exact lv_iadd hx hb h1 (hF ad H locs cells slots ls hl hR)
  · exact hF.elim
theorem as_isub (cx : am_Cx p R s m args meth c0 D cl kA ft A ad0 mc ms nL cc own Ts nw nm sc ns sn sv lg xl xs) (hck : decode cc pc = .ok (.isub, 1) ∧ nx = pc + 1) (hF : ao_ibin (fun x y => x - y) nx (am_Xs p l e R s m args below meth c0 Qs D cl kA ft A ad0 n0 mc ms nL) L S u b c) : (am_Xs p l e R s m args below meth c0 Qs D cl kA ft A ad0 n0 mc ms nL) pc L S u b c := by
  obtain ⟨hx, hb, hml, hown, hts, hA, hAm, hnm, hfr, hlo, hmc, hms, hcl, hxs⟩ := cx
  unfold ao_ibin at hF
  split at hF
  · intro ad H locs cells slots ls hl hR
    obtain ⟨h1, rfl⟩ := hck
    exact lv_isub hx hb h1 (hF ad H locs cells slots ls hl hR)
  · exact hF.elim
theorem as_imul (cx : am_Cx p R s m args meth c0 D cl kA ft A ad0 mc ms nL cc own Ts nw nm sc ns sn sv lg xl xs) (hck : decode cc pc = .ok (.imul, 1) ∧ nx = pc + 1) (hF : ao_ibin (fun x y => x * y) nx (am_Xs p l e R s m args below meth c0 Qs D cl kA ft A ad0 n0 mc ms nL) L S u b c) : (am_Xs p l e R s m args below meth c0 Qs D cl kA ft A ad0 n0 mc ms nL) pc L S u b c := by
  obtain ⟨hx, hb, hml, hown, hts, hA, hAm, hnm, hfr, hlo, hmc, hms, hcl, hxs⟩ := cx
  unfold ao_ibin at hF
  split at hF
  · intro ad H locs cells slots ls hl hR
    obtain ⟨h1, rfl⟩ := hck
    exact lv_imul hx hb h1 (hF ad H locs cells slots ls hl hR)
  · exact hF.elim
theorem as_iand (cx : am_Cx p R s m args meth c0 D cl kA ft A ad0 mc ms nL cc own Ts nw nm sc ns sn sv lg xl xs) (hck : decode cc pc = .ok (.iand, 1) ∧ nx = pc + 1) (hF : ao_ibin (fun x y => x &&& y) nx (am_Xs p l e R s m args below meth c0 Qs D cl kA ft A ad0 n0 mc ms nL) L S u b c) : (am_Xs p l e R s m args below meth c0 Qs D cl kA ft A ad0 n0 mc ms nL) pc L S u b c := by
  obtain ⟨hx, hb, hml, hown, hts, hA, hAm, hnm, hfr, hlo, hmc, hms, hcl, hxs⟩ := cx
  unfold ao_ibin at hF
  split at hF
  · intro ad H locs cells slots ls hl hR
    obtain ⟨h1, rfl⟩ := hck
    exact lv_iand hx hb h1 (hF ad H locs cells slots ls hl hR)
  · exact hF.elim
theorem as_idiv (cx : am_Cx p R s m args meth c0 D cl kA ft A ad0 mc ms nL cc own Ts nw nm sc ns sn sv lg xl xs) (hck : decode cc pc = .ok (.idiv, 1) ∧ nx = pc + 1) (hF : ao_idiv (fun x y => x / y) nx (am_Xs p l e R s m args below meth c0 Qs D cl kA ft A ad0 n0 mc ms nL) L S u b c) : (am_Xs p l e R s m args below meth c0 Qs D cl kA ft A ad0 n0 mc ms nL) pc L S u b c := by
  obtain ⟨hx, hb, hml, hown, hts, hA, hAm, hnm, hfr, hlo, hmc, hms, hcl, hxs⟩ := cx
  unfold ao_idiv at hF
  split at hF
  · intro ad H locs cells slots ls hl hR
    obtain ⟨h1, rfl⟩ := hck
    exact lv_idiv hx hb h1 hF.1 (hF.2 ad H locs cells slots ls hl hR)
  · exact hF.elim
theorem as_irem (cx : am_Cx p R s m args meth c0 D cl kA ft A ad0 mc ms nL cc own Ts nw nm sc ns sn sv lg xl xs) (hck : decode cc pc = .ok (.irem, 1) ∧ nx = pc + 1) (hF : ao_idiv (fun x y => x - x / y * y) nx (am_Xs p l e R s m args below meth c0 Qs D cl kA ft A ad0 n0 mc ms nL) L S u b c) : (am_Xs p l e R s m args below meth c0 Qs D cl kA ft A ad0 n0 mc ms nL) pc L S u b c := by
  obtain ⟨hx, hb, hml, hown, hts, hA, hAm, hnm, hfr, hlo, hmc, hms, hcl, hxs⟩ := cx
  unfold ao_idiv at hF
  split at hF
  · intro ad H locs cells slots ls hl hR
    obtain ⟨h1, rfl⟩ := hck
    exact lv_irem hx hb h1 hF.1 (hF.2 ad H locs cells slots ls hl hR)
  · exact hF.elim
theorem as_ladd (cx : am_Cx p R s m args meth c0 D cl kA ft A ad0 mc ms nL cc own Ts nw nm sc ns sn sv lg xl xs) (hck : decode cc pc = .ok (.ladd, 1) ∧ nx = pc + 1) (hF : ao_lbin (fun x y => x + y) nx (am_Xs p l e R s m args below meth c0 Qs D cl kA ft A ad0 n0 mc ms nL) L S u b c) : (am_Xs p l e R s m args below meth c0 Qs D cl kA ft A ad0 n0 mc ms nL) pc L S u b c := by
  obtain ⟨hx, hb, hml, hown, hts, hA, hAm, hnm, hfr, hlo, hmc, hms, hcl, hxs⟩ := cx
  unfold ao_lbin at hF
  split at hF
  · intro ad H locs cells slots ls hl hR
    obtain ⟨h1, rfl⟩ := hck
    exact lv_ladd hx hb h1 (hF ad H locs cells slots ls hl hR)
  · exact hF.elim
theorem as_lsub (cx : am_Cx p R s m args meth c0 D cl kA ft A ad0 mc ms nL cc own Ts nw nm sc ns sn sv lg xl xs) (hck : decode cc pc = .ok (.lsub, 1) ∧ nx = pc + 1) (hF : ao_lbin (fun x y => x - y) nx (am_Xs p l e R s m args below meth c0 Qs D cl kA ft A ad0 n0 mc ms nL) L S u b c) : (am_Xs p l e R s m args below meth c0 Qs D cl kA ft A ad0 n0 mc ms nL) pc L S u b c := by
  obtain ⟨hx, hb, hml, hown, hts, hA, hAm, hnm, hfr, hlo, hmc, hms, hcl, hxs⟩ := cx
  unfold ao_lbin at hF
  split at hF
  · intro ad H locs cells slots ls hl hR
    obtain ⟨h1, rfl⟩ := hck
    exact lv_lsub hx hb h1 (hF ad H locs cells slots ls hl hR)
  · exact hF.elim
theorem as_lmul (cx : am_Cx p R s m args meth c0 D cl kA ft A ad0 mc ms nL cc own Ts nw nm sc ns sn sv lg xl xs) (hck : decode cc pc = .ok (.lmul, 1) ∧ nx = pc + 1) (hF : ao_lbin (fun x y => x * y) nx (am_Xs p l e R s m args below meth c0 Qs D cl kA ft A ad0 n0 mc ms nL) L S u b c) : (am_Xs p l e R s m args below meth c0 Qs D cl kA ft A ad0 n0 mc ms nL) pc L S u b c := by
  obtain ⟨hx, hb, hml, hown, hts, hA, hAm, hnm, hfr, hlo, hmc, hms, hcl, hxs⟩ := cx
  unfold ao_lbin at hF
  split at hF
  · intro ad H locs cells slots ls hl hR
    obtain ⟨h1, rfl⟩ := hck
    exact lv_lmul hx hb h1 (hF ad H locs cells slots ls hl hR)
  · exact hF.elim
theorem as_ldiv (cx : am_Cx p R s m args meth c0 D cl kA ft A ad0 mc ms nL cc own Ts nw nm sc ns sn sv lg xl xs) (hck : decode cc pc = .ok (.ldiv, 1) ∧ nx = pc + 1) (hF : ao_ldiv (fun x y => x / y) nx (am_Xs p l e R s m args below meth c0 Qs D cl kA ft A ad0 n0 mc ms nL) L S u b c) : (am_Xs p l e R s m args below meth c0 Qs D cl kA ft A ad0 n0 mc ms nL) pc L S u b c := by
  obtain ⟨hx, hb, hml, hown, hts, hA, hAm, hnm, hfr, hlo, hmc, hms, hcl, hxs⟩ := cx
  unfold ao_ldiv at hF
  split at hF
  · intro ad H locs cells slots ls hl hR
    obtain ⟨h1, rfl⟩ := hck
    exact lv_ldiv hx hb h1 hF.1 (hF.2 ad H locs cells slots ls hl hR)
  · exact hF.elim
theorem as_lcmp (cx : am_Cx p R s m args meth c0 D cl kA ft A ad0 mc ms nL cc own Ts nw nm sc ns sn sv lg xl xs) (hck : decode cc pc = .ok (.lcmp, 1) ∧ nx = pc + 1) (hF : ao_lcmp nx (am_Xs p l e R s m args below meth c0 Qs D cl kA ft A ad0 n0 mc ms nL) L S u b c) : (am_Xs p l e R s m args below meth c0 Qs D cl kA ft A ad0 n0 mc ms nL) pc L S u b c := by
  obtain ⟨hx, hb, hml, hown, hts, hA, hAm, hnm, hfr, hlo, hmc, hms, hcl, hxs⟩ := cx
  unfold ao_lcmp at hF
  split at hF
  · intro ad H locs cells slots ls hl hR
    obtain ⟨h1, rfl⟩ := hck
    exact W.lcmp hx hb h1 (hF ad H locs cells slots ls hl hR)
  · exact hF.elim
theorem as_i2l (cx : am_Cx p R s m args meth c0 D cl kA ft A ad0 mc ms nL cc own Ts nw nm sc ns sn sv lg xl xs) (hck : decode cc pc = .ok (.i2l, 1) ∧ nx = pc + 1) (hF : ao_i2l nx (am_Xs p l e R s m args below meth c0 Qs D cl kA ft A ad0 n0 mc ms nL) L S u b c) : (am_Xs p l e R s m args below meth c0 Qs D cl kA ft A ad0 n0 mc ms nL) pc L S u b c := by
  obtain ⟨hx, hb, hml, hown, hts, hA, hAm, hnm, hfr, hlo, hmc, hms, hcl, hxs⟩ := cx
  unfold ao_i2l at hF
  split at hF
  · intro ad H locs cells slots ls hl hR
    obtain ⟨h1, rfl⟩ := hck
    exact lv_i2l hx hb h1 rfl (hF ad H locs cells slots ls hl hR)
  · exact hF.elim
theorem as_l2i (cx : am_Cx p R s m args meth c0 D cl kA ft A ad0 mc ms nL cc own Ts nw nm sc ns sn sv lg xl xs) (hck : decode cc pc = .ok (.l2i, 1) ∧ nx = pc + 1) (hF : ao_l2i nx (am_Xs p l e R s m args below meth c0 Qs D cl kA ft A ad0 n0 mc ms nL) L S u b c) : (am_Xs p l e R s m args below meth c0 Qs D cl kA ft A ad0 n0 mc ms nL) pc L S u b c := by
  obtain ⟨hx, hb, hml, hown, hts, hA, hAm, hnm, hfr, hlo, hmc, hms, hcl, hxs⟩ := cx
  unfold ao_l2i at hF
  split at hF
  · intro ad H locs cells slots ls hl hR
    obtain ⟨h1, rfl⟩ := hck
    exact lv_l2i hx hb h1 rfl (hF ad H locs cells slots ls hl hR)
  · exact hF.elim
theorem as_pushl (cx : am_Cx p R s m args meth c0 D cl kA ft A ad0 mc ms nL cc own Ts nw nm sc ns sn sv lg xl xs) (hck : (j = 0 ∧ z = 0 ∧ decode cc pc = .ok (.lconst 0, 1) ∧ nx = pc + 1) ∨ (j = 1 ∧ z = 1 ∧ decode cc pc = .ok (.lconst 1, 1) ∧ nx = pc + 1) ∨ (j = 2 ∧ decode cc pc = .ok (.ldc2_w i, 3) ∧ Cond.constantLong own i (Int64.ofInt z) ∈ Ts ∧ nx = pc + 3)) (hF : ao_push (.long (Int64.ofInt z)) nx (am_Xs p l e R s m args below meth c0 Qs D cl kA ft A ad0 n0 mc ms nL) L S u b c) : (am_Xs p l e R s m args below meth c0 Qs D cl kA ft A ad0 n0 mc ms nL) pc L S u b c := by
  obtain ⟨hx, hb, hml, hown, hts, hA, hAm, hnm, hfr, hlo, hmc, hms, hcl, hxs⟩ := cx
  intro ad H locs cells slots ls hl hR
  have h := hF ad H locs cells slots ls hl hR
  rcases hck with ⟨-, rfl, h1, rfl⟩ | ⟨-, rfl, h1, rfl⟩ | ⟨-, h1, h2, rfl⟩
  · exact lv_lconst hx hb h1 (by decide) h
  · exact lv_lconst hx hb h1 (by decide) h
  · exact lv_ldc2 hx hb hown (hts _ h2) h1 h
theorem as_if (cx : am_Cx p R s m args meth c0 D cl kA ft A ad0 mc ms nL cc own Ts nw nm sc ns sn sv lg xl xs) (hck : nx = pc + 3 ∧ ((j = 0 ∧ decode cc pc = .ok (.ifCond .eq ((i : Int) - (pc : Int)), 3)) ∨ (j = 1 ∧ decode cc pc = .ok (.ifCond .ne ((i : Int) - (pc : Int)), 3)) ∨ (j = 2 ∧ decode cc pc = .ok (.ifCond .lt ((i : Int) - (pc : Int)), 3)) ∨ (j = 3 ∧ decode cc pc = .ok (.ifCond .ge ((i : Int) - (pc : Int)), 3)) ∨ (j = 4 ∧ decode cc pc = .ok (.ifCond .gt ((i : Int) - (pc : Int)), 3)) ∨ (j = 5 ∧ decode cc pc = .ok (.ifCond .le ((i : Int) - (pc : Int)), 3)))) (hF : ao_if j i nx (am_Xs p l e R s m args below meth c0 Qs D cl kA ft A ad0 n0 mc ms nL) L S u b c) : (am_Xs p l e R s m args below meth c0 Qs D cl kA ft A ad0 n0 mc ms nL) pc L S u b c := by
  obtain ⟨hx, hb, hml, hown, hts, hA, hAm, hnm, hfr, hlo, hmc, hms, hcl, hxs⟩ := cx
  obtain ⟨rfl, hck⟩ := hck
  unfold ao_if at hF
  split at hF
  · intro ad H locs cells slots ls hl hR
    rcases hck with ⟨rfl, h1⟩ | ⟨rfl, h1⟩ | ⟨rfl, h1⟩ | ⟨rfl, h1⟩ | ⟨rfl, h1⟩ | ⟨rfl, h1⟩
    · exact lv_if_eq hx hb h1 (by omega) (fun q => hF.1 q ad H locs cells slots ls hl hR) (fun q => hF.2 q ad H locs cells slots ls hl hR)
    · exact lv_if_ne hx hb h1 (by omega) (fun q => hF.1 q ad H locs cells slots ls hl hR) (fun q => hF.2 q ad H locs cells slots ls hl hR)
    · exact lv_if_lt hx hb h1 (by omega) (fun q => hF.1 q ad H locs cells slots ls hl hR) (fun q => hF.2 q ad H locs cells slots ls hl hR)
    · exact lv_if_ge hx hb h1 (by omega) (fun q => hF.1 q ad H locs cells slots ls hl hR) (fun q => hF.2 q ad H locs cells slots ls hl hR)
    · exact lv_if_gt hx hb h1 (by omega) (fun q => hF.1 q ad H locs cells slots ls hl hR) (fun q => hF.2 q ad H locs cells slots ls hl hR)
    · exact lv_if_le hx hb h1 (by omega) (fun q => hF.1 q ad H locs cells slots ls hl hR) (fun q => hF.2 q ad H locs cells slots ls hl hR)
  · exact hF.elim
theorem as_icmp (cx : am_Cx p R s m args meth c0 D cl kA ft A ad0 mc ms nL cc own Ts nw nm sc ns sn sv lg xl xs) (hck : nx = pc + 3 ∧ ((j = 0 ∧ decode cc pc = .ok (.if_icmp .eq ((i : Int) - (pc : Int)), 3)) ∨ (j = 1 ∧ decode cc pc = .ok (.if_icmp .ne ((i : Int) - (pc : Int)), 3)) ∨ (j = 2 ∧ decode cc pc = .ok (.if_icmp .lt ((i : Int) - (pc : Int)), 3)) ∨ (j = 3 ∧ decode cc pc = .ok (.if_icmp .ge ((i : Int) - (pc : Int)), 3)) ∨ (j = 4 ∧ decode cc pc = .ok (.if_icmp .gt ((i : Int) - (pc : Int)), 3)) ∨ (j = 5 ∧ decode cc pc = .ok (.if_icmp .le ((i : Int) - (pc : Int)), 3)))) (hF : ao_icmp j i nx (am_Xs p l e R s m args below meth c0 Qs D cl kA ft A ad0 n0 mc ms nL) L S u b c) : (am_Xs p l e R s m args below meth c0 Qs D cl kA ft A ad0 n0 mc ms nL) pc L S u b c := by
  obtain ⟨hx, hb, hml, hown, hts, hA, hAm, hnm, hfr, hlo, hmc, hms, hcl, hxs⟩ := cx
  obtain ⟨rfl, hck⟩ := hck
  unfold ao_icmp at hF
  split at hF
  · intro ad H locs cells slots ls hl hR
    rcases hck with ⟨rfl, h1⟩ | ⟨rfl, h1⟩ | ⟨rfl, h1⟩ | ⟨rfl, h1⟩ | ⟨rfl, h1⟩ | ⟨rfl, h1⟩
    · exact lv_icmp_eq hx hb h1 (by omega) (fun q => hF.1 q ad H locs cells slots ls hl hR) (fun q => hF.2 q ad H locs cells slots ls hl hR)
    · exact lv_icmp_ne hx hb h1 (by omega) (fun q => hF.1 q ad H locs cells slots ls hl hR) (fun q => hF.2 q ad H locs cells slots ls hl hR)
    · exact lv_icmp_lt hx hb h1 (by omega) (fun q => hF.1 q ad H locs cells slots ls hl hR) (fun q => hF.2 q ad H locs cells slots ls hl hR)
    · exact lv_icmp_ge hx hb h1 (by omega) (fun q => hF.1 q ad H locs cells slots ls hl hR) (fun q => hF.2 q ad H locs cells slots ls hl hR)
    · exact lv_icmp_gt hx hb h1 (by omega) (fun q => hF.1 q ad H locs cells slots ls hl hR) (fun q => hF.2 q ad H locs cells slots ls hl hR)
    · exact lv_icmp_le hx hb h1 (by omega) (fun q => hF.1 q ad H locs cells slots ls hl hR) (fun q => hF.2 q ad H locs cells slots ls hl hR)
  · exact hF.elim
theorem as_goto (cx : am_Cx p R s m args meth c0 D cl kA ft A ad0 mc ms nL cc own Ts nw nm sc ns sn sv lg xl xs) (hck : decode cc pc = .ok (.goto ((i : Int) - (pc : Int)), 3)) (hF : ao_goto i (am_Xs p l e R s m args below meth c0 Qs D cl kA ft A ad0 n0 mc ms nL) L S u b c) : (am_Xs p l e R s m args below meth c0 Qs D cl kA ft A ad0 n0 mc ms nL) pc L S u b c := by
  obtain ⟨hx, hb, hml, hown, hts, hA, hAm, hnm, hfr, hlo, hmc, hms, hcl, hxs⟩ := cx
  intro ad H locs cells slots ls hl hR
  exact lv_goto hx hb hck (by omega) (hF ad H locs cells slots ls hl hR)
theorem am_fl_get {t n k : Nat} {ad : Nat → Nat} {f : Nat → Int32} {rs : List (Option Nat)} (hk : k < n) : ((List.range n).map (am_fl ft ad f rs t))[k]? = some (am_fl ft ad f rs t k) := by
  rw [List.getElem?_map, List.getElem?_range hk]
  rfl
theorem am_fl_setI {t n k : Nat} {ad : Nat → Nat} {f : Nat → Int32} {rs : List (Option Nat)} {x : Int32} (hf : ft t k = false) : ((List.range n).map (am_fl ft ad f rs t)).set k (.int x) = (List.range n).map (am_fl ft ad (upd f k x) rs t) := by
  apply List.ext_getElem?
  intro q
  by_cases hq : q < n
  · rw [am_fl_get hq]
    by_cases e : k = q
    · subst e
      rw [List.getElem?_set_self (by simpa using hq)]
      simp [am_fl, hf, upd]
    · rw [List.getElem?_set_ne e, am_fl_get hq]
      simp [am_fl, upd, show ¬ q = k from fun h => e h.symm]
  · rw [List.getElem?_eq_none (by simp; omega), List.getElem?_eq_none (by simp; omega)]
theorem am_fl_setR {t n k : Nat} {ad : Nat → Nat} {f : Nat → Int32} {rs : List (Option Nat)} {v : Nat} (hf : ft t k = true) (hl : k < rs.length) : ((List.range n).map (am_fl ft ad f rs t)).set k (.ref (ad v)) = (List.range n).map (am_fl ft ad f (rs.set k (some v)) t) := by
  apply List.ext_getElem?
  intro q
  by_cases hq : q < n
  · rw [am_fl_get hq]
    by_cases e : k = q
    · subst e
      rw [List.getElem?_set_self (by simpa using hq)]
      simp [am_fl, hf, am_rg, hl, va_rf]
    · rw [List.getElem?_set_ne e, am_fl_get hq]
      simp [am_fl, am_rg, List.getElem?_set_ne e]
  · rw [List.getElem?_eq_none (by simp; omega), List.getElem?_eq_none (by simp; omega)]
theorem as_getI (cx : am_Cx p R s m args meth c0 D cl kA ft A ad0 mc ms nL cc own Ts nw nm sc ns sn sv lg xl xs) (C : String) (T : u_T) (N : Nat) (hc : cl[i]? = some (C, T, N)) (hjN : j < N) (hk : Cond.fieldLink own z.toNat (T j).1 (T j).2.1 (T j).2.2.1 ∈ Ts) (hft : ft i j = false) (hdg : decode cc pc = .ok (.getfield z.toNat, 3)) (hnx : nx = pc + 3) (hF : ao_getI i j nx (am_Xs p l e R s m args below meth c0 Qs D cl kA ft A ad0 n0 mc ms nL) L S u b c) : (am_Xs p l e R s m args below meth c0 Qs D cl kA ft A ad0 n0 mc ms nL) pc L S u b c := by
  obtain ⟨hx, hb, hml, hown, hts, hA, hAm, hnm, hfr, hlo, hmc, hms, hcl, hxs⟩ := cx
  subst hnx
  unfold ao_getI at hF
  split at hF
  · rename_i a S
    split at hF
    · rename_i t' n rs hu
      split at hF
      · rename_i hq
        obtain ⟨rfl, hq⟩ := hq
        intro ad H locs cells slots ls hl hR
        have he := am_wl_at (kA := kA) (ft := ft) (ad := ad) hu
        refine va_get (D := D) (ci := i) (v := .int (u.2 a j)) (C := C) (T := T) (N := N) hx hb hts (hcl i _ hc).1 hown hAm.1 hR.1 a he hc j hjN (hts _ hk) (fun _ h9 => h9) ?_ hdg (hF ad H locs cells slots ls hl hR)
        rw [am_fl_get hq]
        simp [am_fl, hft]
      · exact hF.elim
    · exact hF.elim
  · exact hF.elim
theorem as_getR (cx : am_Cx p R s m args meth c0 D cl kA ft A ad0 mc ms nL cc own Ts nw nm sc ns sn sv lg xl xs) (C : String) (T : u_T) (N : Nat) (hc : cl[i]? = some (C, T, N)) (hjN : j < N) (hk : Cond.fieldLink own z.toNat (T j).1 (T j).2.1 (T j).2.2.1 ∈ Ts) (hft : ft i j = true) (hdg : decode cc pc = .ok (.getfield z.toNat, 3)) (hnx : nx = pc + 3) (hF : ao_getR i j nx (am_Xs p l e R s m args below meth c0 Qs D cl kA ft A ad0 n0 mc ms nL) L S u b c) : (am_Xs p l e R s m args below meth c0 Qs D cl kA ft A ad0 n0 mc ms nL) pc L S u b c := by
  obtain ⟨hx, hb, hml, hown, hts, hA, hAm, hnm, hfr, hlo, hmc, hms, hcl, hxs⟩ := cx
  subst hnx
  unfold ao_getR at hF
  split at hF
  · rename_i a S
    split at hF
    · rename_i t' n rs hu
      split at hF
      · rename_i hq
        obtain ⟨rfl, hq⟩ := hq
        split at hF
        · rename_i a' ha
          intro ad H locs cells slots ls hl hR
          have he := am_wl_at (kA := kA) (ft := ft) (ad := ad) hu
          refine va_get (D := D) (ci := i) (v := .ref (ad a')) (C := C) (T := T) (N := N) hx hb hts (hcl i _ hc).1 hown hAm.1 hR.1 a he hc j hjN (hts _ hk) (fun _ h9 => h9) ?_ hdg (hF ad H locs cells slots ls hl hR)
          rw [am_fl_get hq]
          simp [am_fl, hft, ha, va_rf]
        · exact hF.elim
      · exact hF.elim
    · exact hF.elim
  · exact hF.elim
theorem am_nar_z {x : Int32} (h : x = 0 ∨ x = 1) : narrow .boolean (.int x) = .int x ∧ fits .boolean (.int x) = true := by
  rcases h with rfl | rfl <;> exact ⟨by decide, by decide⟩
theorem as_putI (cx : am_Cx p R s m args meth c0 D cl kA ft A ad0 mc ms nL cc own Ts nw nm sc ns sn sv lg xl xs) (C : String) (T : u_T) (N : Nat) (hc : cl[i]? = some (C, T, N)) (hjN : j < N) (hk : Cond.fieldLink own z.toNat (T j).1 (T j).2.1 (T j).2.2.1 ∈ Ts) (hfd : parseFieldDescriptor (T j).2.2.1 = some .int) (hft : ft i j = false) (hfn : (T j).2.2.2 = false ∨ ((T j).2.2.2 = true ∧ nm = "<init>" ∧ (T j).1 = own)) (hdg : decode cc pc = .ok (.putfield z.toNat, 3)) (hnx : nx = pc + 3) (hF : ao_putI i j nx (am_Xs p l e R s m args below meth c0 Qs D cl kA ft A ad0 n0 mc ms nL) L S u b c) : (am_Xs p l e R s m args below meth c0 Qs D cl kA ft A ad0 n0 mc ms nL) pc L S u b c := by
  obtain ⟨hx, hb, hml, hown, hts, hA, hAm, hnm, hfr, hlo, hmc, hms, hcl, hxs⟩ := cx
  subst hnx
  unfold ao_putI at hF
  split at hF
  · rename_i x a S
    split at hF
    · rename_i t' n rs hu
      split at hF
      · rename_i hq
        obtain ⟨rfl, hq⟩ := hq
        obtain ⟨hcw, ty, hty, hnms, hrf⟩ := hcl i _ hc
        intro ad H locs cells slots ls hl hR
        obtain ⟨hP, hD, hS, hRr⟩ := hR
        have he := am_wl_at (kA := kA) (ft := ft) (ad := ad) hu
        have hd : parseFieldDescriptor (T j).2.2.1 = some .int := hfd
        have hn2 : narrow .int (.int x) = .int x ∧ fits .int (.int x) = true := ⟨rfl, rfl⟩
        have hset : (am_wl kA ft ad u).set a (ad a, .inr (i, ((List.range n).map (am_fl ft ad (u.2 a) rs i)).set j (.int x))) = am_wl kA ft ad (u.1, am_up u.2 a j x) := by
          rw [am_fl_setI hft]
          exact am_wl_seti hu (upd (u.2 a) j x)
        have hln : n0 ≤ u.1.length ∧ u.1.length ≤ am_sb := ⟨hRr.2.2.1, hRr.2.2.2.1⟩
        have kk : ∀ (H1 : Heap) (locs1 : List Loc), va_P D cl ((am_wl kA ft ad u).set a (ad a, .inr (i, ((List.range n).map (am_fl ft ad (u.2 a) rs i)).set j (.int x)))) H1 → va_D A ((am_wl kA ft ad u).set a (ad a, .inr (i, ((List.range n).map (am_fl ft ad (u.2 a) rs i)).set j (.int x)))) → va_S A s.heap H1 locs1 → W p l e R s m args below meth c0 H1 locs1 cells slots Qs (F0 m (pc + 3) ls (S.map (am_cv ad))) := by
          intro H1 locs1 hP1 hD1 hS1
          rw [hset] at hP1 hD1
          exact hF ad H1 locs1 cells slots ls hl ⟨hP1, hD1, hS1, hRr.1, hRr.2.1, hln.1, hln.2, hRr.2.2.2.2⟩
        have hll : j < ((List.range n).map (am_fl ft ad (u.2 a) rs i)).length := by simpa using hq
        rcases hfn with hfin | ⟨hfin, hin, hdc⟩
        · exact va_put (D := D) (ci := i) (v := .int x) (C := C) (T := T) (N := N) hx hb hts hcw ty hty hnms hown hAm.1 hP hD hS a he hc j hjN (hts _ hk) (fun _ h9 => h9) hfin hd hn2.1 hn2.2 hll hdg kk
        · exact va_putF (D := D) (ci := i) (v := .int x) (C := C) (T := T) (N := N) hx hb hts hcw ty hty hnms hown hAm.1 hP hD hS a he hc j hjN (hts _ hk) (fun _ h9 => h9) hfin (hnm.trans hin) hdc hd hn2.1 hn2.2 hll hdg kk
      · exact hF.elim
    · exact hF.elim
  · exact hF.elim
theorem as_putZ (cx : am_Cx p R s m args meth c0 D cl kA ft A ad0 mc ms nL cc own Ts nw nm sc ns sn sv lg xl xs) (C : String) (T : u_T) (N : Nat) (hc : cl[i]? = some (C, T, N)) (hjN : j < N) (hk : Cond.fieldLink own z.toNat (T j).1 (T j).2.1 (T j).2.2.1 ∈ Ts) (hfd : parseFieldDescriptor (T j).2.2.1 = some .boolean) (hft : ft i j = false) (hfn : (T j).2.2.2 = false ∨ ((T j).2.2.2 = true ∧ nm = "<init>" ∧ (T j).1 = own)) (hdg : decode cc pc = .ok (.putfield z.toNat, 3)) (hnx : nx = pc + 3) (hF : ao_putZ i j nx (am_Xs p l e R s m args below meth c0 Qs D cl kA ft A ad0 n0 mc ms nL) L S u b c) : (am_Xs p l e R s m args below meth c0 Qs D cl kA ft A ad0 n0 mc ms nL) pc L S u b c := by
  obtain ⟨hx, hb, hml, hown, hts, hA, hAm, hnm, hfr, hlo, hmc, hms, hcl, hxs⟩ := cx
  subst hnx
  unfold ao_putZ at hF
  split at hF
  · rename_i x a S
    split at hF
    · rename_i t' n rs hu
      split at hF
      · rename_i hq
        obtain ⟨rfl, hq⟩ := hq
        obtain ⟨hz, hF⟩ := hF
        obtain ⟨hcw, ty, hty, hnms, hrf⟩ := hcl i _ hc
        intro ad H locs cells slots ls hl hR
        obtain ⟨hP, hD, hS, hRr⟩ := hR
        have he := am_wl_at (kA := kA) (ft := ft) (ad := ad) hu
        have hd : parseFieldDescriptor (T j).2.2.1 = some .boolean := hfd
        have hn2 := am_nar_z hz
        have hset : (am_wl kA ft ad u).set a (ad a, .inr (i, ((List.range n).map (am_fl ft ad (u.2 a) rs i)).set j (.int x))) = am_wl kA ft ad (u.1, am_up u.2 a j x) := by
          rw [am_fl_setI hft]
          exact am_wl_seti hu (upd (u.2 a) j x)
        have hln : n0 ≤ u.1.length ∧ u.1.length ≤ am_sb := ⟨hRr.2.2.1, hRr.2.2.2.1⟩
        have kk : ∀ (H1 : Heap) (locs1 : List Loc), va_P D cl ((am_wl kA ft ad u).set a (ad a, .inr (i, ((List.range n).map (am_fl ft ad (u.2 a) rs i)).set j (.int x)))) H1 → va_D A ((am_wl kA ft ad u).set a (ad a, .inr (i, ((List.range n).map (am_fl ft ad (u.2 a) rs i)).set j (.int x)))) → va_S A s.heap H1 locs1 → W p l e R s m args below meth c0 H1 locs1 cells slots Qs (F0 m (pc + 3) ls (S.map (am_cv ad))) := by
          intro H1 locs1 hP1 hD1 hS1
          rw [hset] at hP1 hD1
          exact hF ad H1 locs1 cells slots ls hl ⟨hP1, hD1, hS1, hRr.1, hRr.2.1, hln.1, hln.2, hRr.2.2.2.2⟩
        have hll : j < ((List.range n).map (am_fl ft ad (u.2 a) rs i)).length := by simpa using hq
        rcases hfn with hfin | ⟨hfin, hin, hdc⟩
        · exact va_put (D := D) (ci := i) (v := .int x) (C := C) (T := T) (N := N) hx hb hts hcw ty hty hnms hown hAm.1 hP hD hS a he hc j hjN (hts _ hk) (fun _ h9 => h9) hfin hd hn2.1 hn2.2 hll hdg kk
        · exact va_putF (D := D) (ci := i) (v := .int x) (C := C) (T := T) (N := N) hx hb hts hcw ty hty hnms hown hAm.1 hP hD hS a he hc j hjN (hts _ hk) (fun _ h9 => h9) hfin (hnm.trans hin) hdc hd hn2.1 hn2.2 hll hdg kk
      · exact hF.elim
    · exact hF.elim
  · exact hF.elim
theorem as_putR (cx : am_Cx p R s m args meth c0 D cl kA ft A ad0 mc ms nL cc own Ts nw nm sc ns sn sv lg xl xs) (C : String) (T : u_T) (N : Nat) (hc : cl[i]? = some (C, T, N)) (hjN : j < N) (hk : Cond.fieldLink own z.toNat (T j).1 (T j).2.1 (T j).2.2.1 ∈ Ts) (hft : ft i j = true) (hfn : (T j).2.2.2 = false ∨ ((T j).2.2.2 = true ∧ nm = "<init>" ∧ (T j).1 = own)) (hdg : decode cc pc = .ok (.putfield z.toNat, 3)) (hnx : nx = pc + 3) (hF : ao_putR i j nx (am_Xs p l e R s m args below meth c0 Qs D cl kA ft A ad0 n0 mc ms nL) L S u b c) : (am_Xs p l e R s m args below meth c0 Qs D cl kA ft A ad0 n0 mc ms nL) pc L S u b c := by
  obtain ⟨hx, hb, hml, hown, hts, hA, hAm, hnm, hfr, hlo, hmc, hms, hcl, hxs⟩ := cx
  subst hnx
  unfold ao_putR at hF
  split at hF
  · rename_i v a S
    split at hF
    · rename_i t' n rs hu
      split at hF
      · rename_i hq
        obtain ⟨rfl, hq⟩ := hq
        obtain ⟨hcw, ty, hty, hnms, hrf⟩ := hcl i _ hc
        intro ad H locs cells slots ls hl hR
        obtain ⟨hP, hD, hS, hRr⟩ := hR
        have he := am_wl_at (kA := kA) (ft := ft) (ad := ad) hu
        have hd : parseFieldDescriptor (T j).2.2.1 = some (ty j) := hty j hjN
        have hn2 : narrow (ty j) (.ref (ad v)) = .ref (ad v) ∧ fits (ty j) (.ref (ad v)) = true := by
          rcases (hrf j hjN).1 hft with ⟨C9, e9⟩ | ⟨f9, e9⟩ <;> rw [e9] <;> exact ⟨rfl, rfl⟩
        have hset : (am_wl kA ft ad u).set a (ad a, .inr (i, ((List.range n).map (am_fl ft ad (u.2 a) rs i)).set j (.ref (ad v)))) = am_wl kA ft ad (u.1.set a (i + 3, n, rs.set j (some v)), u.2) := by
          rw [am_fl_setR hft hq.2]
          have := am_wl_set (kA := kA) (ft := ft) (ad := ad) (u := u) (q := a) (i + 3, n, rs.set j (some v)) (u.2 a)
          rw [show am_cp u.2 a (u.2 a) = u.2 from funext fun q => by by_cases h : q = a <;> simp [am_cp, h]] at this
          exact this
        have hln : n0 ≤ (u.1.set a (i + 3, n, rs.set j (some v))).length ∧ (u.1.set a (i + 3, n, rs.set j (some v))).length ≤ am_sb := by rw [List.length_set]; exact ⟨hRr.2.2.1, hRr.2.2.2.1⟩
        have kk : ∀ (H1 : Heap) (locs1 : List Loc), va_P D cl ((am_wl kA ft ad u).set a (ad a, .inr (i, ((List.range n).map (am_fl ft ad (u.2 a) rs i)).set j (.ref (ad v))))) H1 → va_D A ((am_wl kA ft ad u).set a (ad a, .inr (i, ((List.range n).map (am_fl ft ad (u.2 a) rs i)).set j (.ref (ad v))))) → va_S A s.heap H1 locs1 → W p l e R s m args below meth c0 H1 locs1 cells slots Qs (F0 m (pc + 3) ls (S.map (am_cv ad))) := by
          intro H1 locs1 hP1 hD1 hS1
          rw [hset] at hP1 hD1
          exact hF ad H1 locs1 cells slots ls hl ⟨hP1, hD1, hS1, hRr.1, hRr.2.1, hln.1, hln.2, hRr.2.2.2.2⟩
        have hll : j < ((List.range n).map (am_fl ft ad (u.2 a) rs i)).length := by simpa using hq.1
        rcases hfn with hfin | ⟨hfin, hin, hdc⟩
        · exact va_put (D := D) (ci := i) (v := .ref (ad v)) (C := C) (T := T) (N := N) hx hb hts hcw ty hty hnms hown hAm.1 hP hD hS a he hc j hjN (hts _ hk) (fun _ h9 => h9) hfin hd hn2.1 hn2.2 hll hdg kk
        · exact va_putF (D := D) (ci := i) (v := .ref (ad v)) (C := C) (T := T) (N := N) hx hb hts hcw ty hty hnms hown hAm.1 hP hD hS a he hc j hjN (hts _ hk) (fun _ h9 => h9) hfin (hnm.trans hin) hdc hd hn2.1 hn2.2 hll hdg kk
      · exact hF.elim
    · exact hF.elim
  · exact hF.elim
theorem as_iald (cx : am_Cx p R s m args meth c0 D cl kA ft A ad0 mc ms nL cc own Ts nw nm sc ns sn sv lg xl xs) (hck : decode cc pc = .ok (.iaload, 1) ∧ nx = pc + 1) (hF : ao_ald 0 nx (am_Xs p l e R s m args below meth c0 Qs D cl kA ft A ad0 n0 mc ms nL) L S u b c) : (am_Xs p l e R s m args below meth c0 Qs D cl kA ft A ad0 n0 mc ms nL) pc L S u b c := by
  obtain ⟨hx, hb, hml, hown, hts, hA, hAm, hnm, hfr, hlo, hmc, hms, hcl, hxs⟩ := cx
  unfold ao_ald at hF
  split at hF
  · rename_i x a S
    obtain ⟨h1, rfl⟩ := hck
    obtain ⟨n, rs, hu, hin, hF⟩ := hF
    intro ad H locs cells slots ls hl hR
    exact va_iald hx hb hAm.1 hR.1 a 0 (am_wl_at (kA := kA) (ft := ft) (ad := ad) hu) rfl hin h1 (hF ad H locs cells slots ls hl hR)
  · exact hF.elim
theorem as_zald (cx : am_Cx p R s m args meth c0 D cl kA ft A ad0 mc ms nL cc own Ts nw nm sc ns sn sv lg xl xs) (hck : decode cc pc = .ok (.baload, 1) ∧ nx = pc + 1) (hF : ao_ald 1 nx (am_Xs p l e R s m args below meth c0 Qs D cl kA ft A ad0 n0 mc ms nL) L S u b c) : (am_Xs p l e R s m args below meth c0 Qs D cl kA ft A ad0 n0 mc ms nL) pc L S u b c := by
  obtain ⟨hx, hb, hml, hown, hts, hA, hAm, hnm, hfr, hlo, hmc, hms, hcl, hxs⟩ := cx
  unfold ao_ald at hF
  split at hF
  · rename_i x a S
    obtain ⟨h1, rfl⟩ := hck
    obtain ⟨n, rs, hu, hin, hF⟩ := hF
    intro ad H locs cells slots ls hl hR
    exact va_zald hx hb hAm.1 hR.1 a 1 (am_wl_at (kA := kA) (ft := ft) (ad := ad) hu) rfl hin h1 (hF ad H locs cells slots ls hl hR)
  · exact hF.elim
theorem as_aald (cx : am_Cx p R s m args meth c0 D cl kA ft A ad0 mc ms nL cc own Ts nw nm sc ns sn sv lg xl xs) (hck : decode cc pc = .ok (.aaload, 1) ∧ nx = pc + 1) (hF : ao_aald nx (am_Xs p l e R s m args below meth c0 Qs D cl kA ft A ad0 n0 mc ms nL) L S u b c) : (am_Xs p l e R s m args below meth c0 Qs D cl kA ft A ad0 n0 mc ms nL) pc L S u b c := by
  obtain ⟨hx, hb, hml, hown, hts, hA, hAm, hnm, hfr, hlo, hmc, hms, hcl, hxs⟩ := cx
  unfold ao_aald at hF
  split at hF
  · rename_i x a S
    obtain ⟨h1, rfl⟩ := hck
    obtain ⟨n, rs, a', hu, hin, ha, hF⟩ := hF
    intro ad H locs cells slots ls hl hR
    have h := hF ad H locs cells slots ls hl hR
    refine W.aald (v := va_rf ((am_rg rs x.toNatClampNeg).map ad)) (ty := .array .int) hx hb (hR.1 a _ (am_wl_at (kA := kA) (ft := ft) (ad := ad) hu)) ((hAm.1.2 2 (kA 2, .array .int) rfl).1 n (fun j => va_rf ((am_rg rs j).map ad))) rfl (fun q => by cases q) (by show ¬ (x < 0 ∨ (arrV _ _ _).slots.size ≤ _); rw [arrV_size]; exact hin) (by show (arrV _ _ _).slots[_]? = _; rw [arrV_read _ _ (Nat.not_le.mp fun q => hin (Or.inr q))]) rfl rfl h1 ?_
    rw [ha]
    exact h
  · exact hF.elim
theorem as_iast (cx : am_Cx p R s m args meth c0 D cl kA ft A ad0 mc ms nL cc own Ts nw nm sc ns sn sv lg xl xs) (hck : decode cc pc = .ok (.iastore, 1) ∧ nx = pc + 1) (hF : ao_iast nx (am_Xs p l e R s m args below meth c0 Qs D cl kA ft A ad0 n0 mc ms nL) L S u b c) : (am_Xs p l e R s m args below meth c0 Qs D cl kA ft A ad0 n0 mc ms nL) pc L S u b c := by
  obtain ⟨hx, hb, hml, hown, hts, hA, hAm, hnm, hfr, hlo, hmc, hms, hcl, hxs⟩ := cx
  unfold ao_iast at hF
  split at hF
  · rename_i v x a S
    obtain ⟨h1, rfl⟩ := hck
    obtain ⟨n, rs, hu, hin, hF⟩ := hF
    intro ad H locs cells slots ls hl hR
    obtain ⟨hP, hD, hS, hRr⟩ := hR
    refine va_iast hx hb hAm.1 hP hD hS a 0 (am_wl_at (kA := kA) (ft := ft) (ad := ad) hu) rfl hin h1 fun H1 locs1 hP1 hD1 hS1 => ?_
    have hset : (am_wl kA ft ad u).set a (ad a, .inl (kA 0, n, .inl (upd (u.2 a) x.toNatClampNeg v))) = am_wl kA ft ad (u.1, am_up u.2 a x.toNatClampNeg v) := am_wl_seti hu (upd (u.2 a) x.toNatClampNeg v)
    rw [hset] at hP1 hD1
    exact hF ad H1 locs1 cells slots ls hl ⟨hP1, hD1, hS1, hRr⟩
  · exact hF.elim
theorem as_zast (cx : am_Cx p R s m args meth c0 D cl kA ft A ad0 mc ms nL cc own Ts nw nm sc ns sn sv lg xl xs) (hck : decode cc pc = .ok (.bastore, 1) ∧ nx = pc + 1) (hF : ao_zast nx (am_Xs p l e R s m args below meth c0 Qs D cl kA ft A ad0 n0 mc ms nL) L S u b c) : (am_Xs p l e R s m args below meth c0 Qs D cl kA ft A ad0 n0 mc ms nL) pc L S u b c := by
  obtain ⟨hx, hb, hml, hown, hts, hA, hAm, hnm, hfr, hlo, hmc, hms, hcl, hxs⟩ := cx
  unfold ao_zast at hF
  split at hF
  · rename_i v x a S
    obtain ⟨h1, rfl⟩ := hck
    obtain ⟨n, rs, hu, hin, hF⟩ := hF
    intro ad H locs cells slots ls hl hR
    obtain ⟨hP, hD, hS, hRr⟩ := hR
    refine va_zast hx hb hAm.1 hP hD hS a 1 (am_wl_at (kA := kA) (ft := ft) (ad := ad) hu) rfl hin h1 fun H1 locs1 hP1 hD1 hS1 => ?_
    have hset : (am_wl kA ft ad u).set a (ad a, .inl (kA 1, n, .inl (upd (u.2 a) x.toNatClampNeg (vp_nar .boolean v)))) = am_wl kA ft ad (u.1, am_up u.2 a x.toNatClampNeg (vp_nar .boolean v)) := am_wl_seti hu (upd (u.2 a) x.toNatClampNeg (vp_nar .boolean v))
    rw [hset] at hP1 hD1
    exact hF ad H1 locs1 cells slots ls hl ⟨hP1, hD1, hS1, hRr⟩
  · exact hF.elim
theorem as_alen (cx : am_Cx p R s m args meth c0 D cl kA ft A ad0 mc ms nL cc own Ts nw nm sc ns sn sv lg xl xs) (hck : decode cc pc = .ok (.arraylength, 1) ∧ nx = pc + 1) (hF : ao_alen nx (am_Xs p l e R s m args below meth c0 Qs D cl kA ft A ad0 n0 mc ms nL) L S u b c) : (am_Xs p l e R s m args below meth c0 Qs D cl kA ft A ad0 n0 mc ms nL) pc L S u b c := by
  obtain ⟨hx, hb, hml, hown, hts, hA, hAm, hnm, hfr, hlo, hmc, hms, hcl, hxs⟩ := cx
  unfold ao_alen at hF
  split at hF
  · rename_i a S
    obtain ⟨h1, rfl⟩ := hck
    obtain ⟨t, n, rs, hu, ht, hF⟩ := hF
    intro ad H locs cells slots ls hl hR
    have he := am_wl_at (kA := kA) (ft := ft) (ad := ad) hu
    have h := hF ad H locs cells slots ls hl hR
    match t, ht, he with
    | 0, _, he => exact va_alen hx hb hAm.1 hR.1 a 0 he rfl rfl h1 h
    | 1, _, he => exact va_alen hx hb hAm.1 hR.1 a 1 he rfl rfl h1 h
    | 2, _, he => exact va_alen hx hb hAm.1 hR.1 a 2 he rfl rfl h1 h
  · exact hF.elim
theorem as_dup (cx : am_Cx p R s m args meth c0 D cl kA ft A ad0 mc ms nL cc own Ts nw nm sc ns sn sv lg xl xs) (hck : decode cc pc = .ok (.dup, 1) ∧ nx = pc + 1) (hF : ao_dup nx (am_Xs p l e R s m args below meth c0 Qs D cl kA ft A ad0 n0 mc ms nL) L S u b c) : (am_Xs p l e R s m args below meth c0 Qs D cl kA ft A ad0 n0 mc ms nL) pc L S u b c := by
  obtain ⟨hx, hb, hml, hown, hts, hA, hAm, hnm, hfr, hlo, hmc, hms, hcl, hxs⟩ := cx
  unfold ao_dup at hF
  split at hF
  · split at hF
    · rename_i hv
      intro ad H locs cells slots ls hl hR
      obtain ⟨h1, rfl⟩ := hck
      exact lv_dup hx hb h1 (by rw [am_cv_cat]; exact hv) (hF ad H locs cells slots ls hl hR)
    · exact hF.elim
  · exact hF.elim
theorem as_pop (cx : am_Cx p R s m args meth c0 D cl kA ft A ad0 mc ms nL cc own Ts nw nm sc ns sn sv lg xl xs) (hck : decode cc pc = .ok (.pop, 1) ∧ nx = pc + 1) (hF : ao_pop nx (am_Xs p l e R s m args below meth c0 Qs D cl kA ft A ad0 n0 mc ms nL) L S u b c) : (am_Xs p l e R s m args below meth c0 Qs D cl kA ft A ad0 n0 mc ms nL) pc L S u b c := by
  obtain ⟨hx, hb, hml, hown, hts, hA, hAm, hnm, hfr, hlo, hmc, hms, hcl, hxs⟩ := cx
  unfold ao_pop at hF
  split at hF
  · split at hF
    · rename_i hv
      intro ad H locs cells slots ls hl hR
      obtain ⟨h1, rfl⟩ := hck
      exact lv_pop hx hb h1 (by rw [am_cv_cat]; exact hv) (hF ad H locs cells slots ls hl hR)
    · exact hF.elim
  · exact hF.elim
theorem as_dupx1 (cx : am_Cx p R s m args meth c0 D cl kA ft A ad0 mc ms nL cc own Ts nw nm sc ns sn sv lg xl xs) (hck : decode cc pc = .ok (.dup_x1, 1) ∧ nx = pc + 1) (hF : ao_dupx1 nx (am_Xs p l e R s m args below meth c0 Qs D cl kA ft A ad0 n0 mc ms nL) L S u b c) : (am_Xs p l e R s m args below meth c0 Qs D cl kA ft A ad0 n0 mc ms nL) pc L S u b c := by
  obtain ⟨hx, hb, hml, hown, hts, hA, hAm, hnm, hfr, hlo, hmc, hms, hcl, hxs⟩ := cx
  unfold ao_dupx1 at hF
  split at hF
  · split at hF
    · rename_i hv
      intro ad H locs cells slots ls hl hR
      obtain ⟨h1, rfl⟩ := hck
      exact lv_dup_x1 hx hb h1 (by rw [am_cv_cat]; exact hv.1) (by rw [am_cv_cat]; exact hv.2) (hF ad H locs cells slots ls hl hR)
    · exact hF.elim
  · exact hF.elim
theorem as_dup2 (cx : am_Cx p R s m args meth c0 D cl kA ft A ad0 mc ms nL cc own Ts nw nm sc ns sn sv lg xl xs) (hck : decode cc pc = .ok (.dup2, 1) ∧ nx = pc + 1) (hF : ao_dup2 nx (am_Xs p l e R s m args below meth c0 Qs D cl kA ft A ad0 n0 mc ms nL) L S u b c) : (am_Xs p l e R s m args below meth c0 Qs D cl kA ft A ad0 n0 mc ms nL) pc L S u b c := by
  obtain ⟨hx, hb, hml, hown, hts, hA, hAm, hnm, hfr, hlo, hmc, hms, hcl, hxs⟩ := cx
  unfold ao_dup2 at hF
  split at hF
  · split at hF
    · rename_i hv
      intro ad H locs cells slots ls hl hR
      obtain ⟨h1, rfl⟩ := hck
      exact lv_dup2_11 hx hb h1 (by rw [am_cv_cat]; exact hv.1) (by rw [am_cv_cat]; exact hv.2) (hF ad H locs cells slots ls hl hR)
    · exact hF.elim
  · exact hF.elim
theorem as_gets (cx : am_Cx p R s m args meth c0 D cl kA ft A ad0 mc ms nL cc own Ts nw nm sc ns sn sv lg xl xs) (hi : i < ns) (hk : Cond.fieldLink own z.toNat (sc i).1 (sc i).2 "[I" ∈ Ts) (hck : decode cc pc = .ok (.getstatic z.toNat, 3) ∧ nx = pc + 3) (hF : ao_push (.ref (am_sb + i)) nx (am_Xs p l e R s m args below meth c0 Qs D cl kA ft A ad0 n0 mc ms nL) L S u b c) : (am_Xs p l e R s m args below meth c0 Qs D cl kA ft A ad0 n0 mc ms nL) pc L S u b c := by
  obtain ⟨hx, hb, hml, hown, hts, hA, hAm, hnm, hfr, hlo, hmc, hms, hcl, hxs⟩ := cx
  intro ad H locs cells slots ls hl hR
  obtain ⟨h1, rfl⟩ := hck
  have h := hF ad H locs cells slots ls hl hR
  have ha : ad (am_sb + i) = ad0 (am_sb + i) := hR.2.2.2.2.2.2.2.1 _ (Or.inr (Nat.le_add_right _ _))
  have h2 : W p l e R s m args below meth c0 H locs cells slots Qs (F0 m (pc + 3) ls (.ref (ad0 (am_sb + i)) :: S.map (am_cv ad))) := by rw [← ha]; exact h
  exact va_gets hx hb (hAm.2.2.2 i hi).1 hR.2.2.1 hown (hts _ hk) (fun _ h9 => h9) h1 h2
theorem as_sld (cx : am_Cx p R s m args meth c0 D cl kA ft A ad0 mc ms nL cc own Ts nw nm sc ns sn sv lg xl xs) (hck : decode cc pc = .ok (.iaload, 1) ∧ nx = pc + 1) (hF : ao_sld sn sv ns nx (am_Xs p l e R s m args below meth c0 Qs D cl kA ft A ad0 n0 mc ms nL) L S u b c) : (am_Xs p l e R s m args below meth c0 Qs D cl kA ft A ad0 n0 mc ms nL) pc L S u b c := by
  obtain ⟨hx, hb, hml, hown, hts, hA, hAm, hnm, hfr, hlo, hmc, hms, hcl, hxs⟩ := cx
  unfold ao_sld at hF
  split at hF
  · rename_i x a S
    obtain ⟨h1, rfl⟩ := hck
    obtain ⟨k, rfl, hk, hin, hF⟩ := hF
    intro ad H locs cells slots ls hl hR
    have ha : ad (am_sb + k) = ad0 (am_sb + k) := hR.2.2.2.2.2.2.2.1 _ (Or.inr (Nat.le_add_right _ _))
    show W p l e R s m args below meth c0 H locs cells slots Qs (F0 m pc ls (.int x :: .ref (ad (am_sb + k)) :: S.map (am_cv ad)))
    rw [ha]
    exact va_ti hx hb (hAm.2.2.2 k hk).2 hR.2.2.1 hin rfl h1 (hF ad H locs cells slots ls hl hR)
  · exact hF.elim
theorem as_slen (cx : am_Cx p R s m args meth c0 D cl kA ft A ad0 mc ms nL cc own Ts nw nm sc ns sn sv lg xl xs) (hck : decode cc pc = .ok (.arraylength, 1) ∧ nx = pc + 1) (hF : ao_slen sn ns nx (am_Xs p l e R s m args below meth c0 Qs D cl kA ft A ad0 n0 mc ms nL) L S u b c) : (am_Xs p l e R s m args below meth c0 Qs D cl kA ft A ad0 n0 mc ms nL) pc L S u b c := by
  obtain ⟨hx, hb, hml, hown, hts, hA, hAm, hnm, hfr, hlo, hmc, hms, hcl, hxs⟩ := cx
  unfold ao_slen at hF
  split at hF
  · rename_i a S
    obtain ⟨h1, rfl⟩ := hck
    obtain ⟨k, rfl, hk, hF⟩ := hF
    intro ad H locs cells slots ls hl hR
    have ha : ad (am_sb + k) = ad0 (am_sb + k) := hR.2.2.2.2.2.2.2.1 _ (Or.inr (Nat.le_add_right _ _))
    show W p l e R s m args below meth c0 H locs cells slots Qs (F0 m pc ls (.ref (ad (am_sb + k)) :: S.map (am_cv ad)))
    rw [ha]
    exact va_tlen hx hb (hAm.2.2.2 k hk).2 hR.2.2.1 rfl h1 (hF ad H locs cells slots ls hl hR)
  · exact hF.elim
theorem as_xld (cx : am_Cx p R s m args meth c0 D cl kA ft A ad0 mc ms nL cc own Ts nw nm sc ns sn sv lg xl xs) (hlg : lg = true) (hck : decode cc pc = .ok (.iaload, 1) ∧ nx = pc + 1) (hF : ao_xld xl xs nx (am_Xs p l e R s m args below meth c0 Qs D cl kA ft A ad0 n0 mc ms nL) L S u b c) : (am_Xs p l e R s m args below meth c0 Qs D cl kA ft A ad0 n0 mc ms nL) pc L S u b c := by
  obtain ⟨hx, hb, hml, hown, hts, hA, hAm, hnm, hfr, hlo, hmc, hms, hcl, hxs⟩ := cx
  unfold ao_xld at hF
  split at hF
  · rename_i x a S
    obtain ⟨h1, rfl⟩ := hck
    obtain ⟨rfl, hin, hF⟩ := hF
    intro ad H locs cells slots ls hl hR
    obtain ⟨hX, hbl, hbA⟩ := hxs hlg
    have ha : ad am_xb = ad0 am_xb := hR.2.2.2.2.2.2.2.1 _ (Or.inr (by decide))
    show W p l e R s m args below meth c0 H locs cells slots Qs (F0 m pc ls (.int x :: .ref (ad am_xb) :: S.map (am_cv ad)))
    rw [ha]
    exact va_sld hx hb hX hbl hbA hR.2.2.1 hin h1 (hF ad H locs cells slots ls hl hR)
  · exact hF.elim
theorem as_xlen (cx : am_Cx p R s m args meth c0 D cl kA ft A ad0 mc ms nL cc own Ts nw nm sc ns sn sv lg xl xs) (hlg : lg = true) (hck : decode cc pc = .ok (.arraylength, 1) ∧ nx = pc + 1) (hF : ao_xlen xl nx (am_Xs p l e R s m args below meth c0 Qs D cl kA ft A ad0 n0 mc ms nL) L S u b c) : (am_Xs p l e R s m args below meth c0 Qs D cl kA ft A ad0 n0 mc ms nL) pc L S u b c := by
  obtain ⟨hx, hb, hml, hown, hts, hA, hAm, hnm, hfr, hlo, hmc, hms, hcl, hxs⟩ := cx
  unfold ao_xlen at hF
  split at hF
  · rename_i a S
    obtain ⟨h1, rfl⟩ := hck
    obtain ⟨rfl, hF⟩ := hF
    intro ad H locs cells slots ls hl hR
    obtain ⟨hX, hbl, hbA⟩ := hxs hlg
    have ha : ad am_xb = ad0 am_xb := hR.2.2.2.2.2.2.2.1 _ (Or.inr (by decide))
    show W p l e R s m args below meth c0 H locs cells slots Qs (F0 m pc ls (.ref (ad am_xb) :: S.map (am_cv ad)))
    rw [ha]
    exact va_slen hx hb hX hbl hbA hR.2.2.1 h1 (hF ad H locs cells slots ls hl hR)
  · exact hF.elim
theorem am_h8_of {S : List Value} (ad : Nat → Nat) (h : am_h8 S = true) : ((S.map (am_cv ad)).map fun v => v.category).sum ≤ 8 := by
  rw [am_cv_sum]
  exact Nat.le_of_ble_eq_true h
theorem as_max (cx : am_Cx p R s m args meth c0 D cl kA ft A ad0 mc ms nL cc own Ts nw nm sc ns sn sv lg xl xs) (w1 : Cond.methodLink own z.toNat Lib.Math.max.name ∈ Ts) (w2 : Cond.static Lib.Math.max.name ∈ Ts) (w3 : Cond.initialized "java/lang/Math" ∈ Ts) (w4 : Cond.code Lib.Math.max.name Lib.Math.max.code 2 (some .int) ∈ Ts) (hck : decode cc pc = .ok (.invokestatic z.toNat, 3) ∧ nx = pc + 3) (hF : ao_math2 (fun x y => if x < y then y else x) nx (am_Xs p l e R s m args below meth c0 Qs D cl kA ft A ad0 n0 mc ms nL) L S u b c) : (am_Xs p l e R s m args below meth c0 Qs D cl kA ft A ad0 n0 mc ms nL) pc L S u b c := by
  obtain ⟨hx, hb, hml, hown, hts, hA, hAm, hnm, hfr, hlo, hmc, hms, hcl, hxs⟩ := cx
  unfold ao_math2 at hF
  split at hF
  · rename_i y x S
    split at hF
    · rename_i h8
      intro ad H locs cells slots ls hl hR
      obtain ⟨h1, rfl⟩ := hck
      have h9 := am_h8_of ad h8
      exact va_mmax hx hb (hml.trans hl.1.symm) hown (hts _ w1) (hts _ w2) (hts _ w3) (hts _ w4) hfr (by omega) (by have := hR.2.2.2.1; omega) (by have := hR.2.2.2.2.1; omega) h1 (hF ad H locs cells slots ls hl hR)
    · exact hF.elim
  · exact hF.elim
theorem as_min (cx : am_Cx p R s m args meth c0 D cl kA ft A ad0 mc ms nL cc own Ts nw nm sc ns sn sv lg xl xs) (w1 : Cond.methodLink own z.toNat Lib.Math.min.name ∈ Ts) (w2 : Cond.static Lib.Math.min.name ∈ Ts) (w3 : Cond.initialized "java/lang/Math" ∈ Ts) (w4 : Cond.code Lib.Math.min.name Lib.Math.min.code 2 (some .int) ∈ Ts) (hck : decode cc pc = .ok (.invokestatic z.toNat, 3) ∧ nx = pc + 3) (hF : ao_math2 (fun x y => if y < x then y else x) nx (am_Xs p l e R s m args below meth c0 Qs D cl kA ft A ad0 n0 mc ms nL) L S u b c) : (am_Xs p l e R s m args below meth c0 Qs D cl kA ft A ad0 n0 mc ms nL) pc L S u b c := by
  obtain ⟨hx, hb, hml, hown, hts, hA, hAm, hnm, hfr, hlo, hmc, hms, hcl, hxs⟩ := cx
  unfold ao_math2 at hF
  split at hF
  · rename_i y x S
    split at hF
    · rename_i h8
      intro ad H locs cells slots ls hl hR
      obtain ⟨h1, rfl⟩ := hck
      have h9 := am_h8_of ad h8
      exact va_mmin hx hb (hml.trans hl.1.symm) hown (hts _ w1) (hts _ w2) (hts _ w3) (hts _ w4) hfr (by omega) (by have := hR.2.2.2.1; omega) (by have := hR.2.2.2.2.1; omega) h1 (hF ad H locs cells slots ls hl hR)
    · exact hF.elim
  · exact hF.elim
theorem as_abs (cx : am_Cx p R s m args meth c0 D cl kA ft A ad0 mc ms nL cc own Ts nw nm sc ns sn sv lg xl xs) (w1 : Cond.methodLink own z.toNat Lib.Math.abs.name ∈ Ts) (w2 : Cond.static Lib.Math.abs.name ∈ Ts) (w3 : Cond.initialized "java/lang/Math" ∈ Ts) (w4 : Cond.code Lib.Math.abs.name Lib.Math.abs.code 1 (some .int) ∈ Ts) (hck : decode cc pc = .ok (.invokestatic z.toNat, 3) ∧ nx = pc + 3) (hF : ao_math1 (fun x => if 0 ≤ x then x else 0 - x) nx (am_Xs p l e R s m args below meth c0 Qs D cl kA ft A ad0 n0 mc ms nL) L S u b c) : (am_Xs p l e R s m args below meth c0 Qs D cl kA ft A ad0 n0 mc ms nL) pc L S u b c := by
  obtain ⟨hx, hb, hml, hown, hts, hA, hAm, hnm, hfr, hlo, hmc, hms, hcl, hxs⟩ := cx
  unfold ao_math1 at hF
  split at hF
  · rename_i x S
    split at hF
    · rename_i h8
      intro ad H locs cells slots ls hl hR
      obtain ⟨h1, rfl⟩ := hck
      have h9 := am_h8_of ad h8
      exact va_mabs hx hb (hml.trans hl.1.symm) hown (hts _ w1) (hts _ w2) (hts _ w3) (hts _ w4) hfr (by omega) (by have := hR.2.2.2.1; omega) (by have := hR.2.2.2.2.1; omega) h1 (hF ad H locs cells slots ls hl hR)
    · exact hF.elim
  · exact hF.elim
theorem as_minl (cx : am_Cx p R s m args meth c0 D cl kA ft A ad0 mc ms nL cc own Ts nw nm sc ns sn sv lg xl xs) (w1 : Cond.methodLink own z.toNat Lib.MathLoose.min_long.x ∈ Ts) (w2 : Cond.static Lib.MathLoose.min_long.x ∈ Ts) (w3 : Cond.initialized "java/lang/Math" ∈ Ts) (w4 : Cond.code Lib.MathLoose.min_long.x Lib.MathLoose.min_long.code 4 (some .long) ∈ Ts) (hck : decode cc pc = .ok (.invokestatic z.toNat, 3) ∧ nx = pc + 3) (hF : ao_math2l (fun x y => if y < x then y else x) nx (am_Xs p l e R s m args below meth c0 Qs D cl kA ft A ad0 n0 mc ms nL) L S u b c) : (am_Xs p l e R s m args below meth c0 Qs D cl kA ft A ad0 n0 mc ms nL) pc L S u b c := by
  obtain ⟨hx, hb, hml, hown, hts, hA, hAm, hnm, hfr, hlo, hmc, hms, hcl, hxs⟩ := cx
  unfold ao_math2l at hF
  split at hF
  · rename_i y x S
    split at hF
    · rename_i h8
      intro ad H locs cells slots ls hl hR
      obtain ⟨h1, rfl⟩ := hck
      have h9 := am_h8_of ad h8
      exact va_mmin_long hx hb (hml.trans hl.1.symm) hown (hts _ w1) (hts _ w2) (hts _ w3) (hts _ w4) hfr (by omega) (by have := hR.2.2.2.1; omega) (by have := hR.2.2.2.2.1; omega) h1 (hF ad H locs cells slots ls hl hR)
    · exact hF.elim
  · exact hF.elim
theorem as_copy (cx : am_Cx p R s m args meth c0 D cl kA ft A ad0 mc ms nL cc own Ts nw nm sc ns sn sv lg xl xs) (w1 : Cond.methodLink own z.toNat arraycopyName ∈ Ts) (w2 : Cond.native arraycopyName ∈ Ts) (w3 : Cond.static arraycopyName ∈ Ts) (w4 : Cond.initialized "java/lang/System" ∈ Ts) (hck : decode cc pc = .ok (.invokestatic z.toNat, 3) ∧ nx = pc + 3) (hF : ao_copy nx (am_Xs p l e R s m args below meth c0 Qs D cl kA ft A ad0 n0 mc ms nL) L S u b c) : (am_Xs p l e R s m args below meth c0 Qs D cl kA ft A ad0 n0 mc ms nL) pc L S u b c := by
  obtain ⟨hx, hb, hml, hown, hts, hA, hAm, hnm, hfr, hlo, hmc, hms, hcl, hxs⟩ := cx
  unfold ao_copy at hF
  split at hF
  · rename_i n dp a1 sp a0 S
    obtain ⟨h1, rfl⟩ := hck
    obtain ⟨h8, n0', r0, n1, r1, hu0, hu1, g1, g2, g3, g4, g5, hF⟩ := hF
    intro ad H locs cells slots ls hl hR
    have h9 := am_h8_of ad h8
    obtain ⟨hP, hD, hS, hRr⟩ := hR
    have hfw : nativeFrameWords "java/lang/System" "arraycopy" 5 + 11 ≤ 32 := by decide
    refine va_copyi (rest := S.map (am_cv ad)) hx hb (hml.trans hl.1.symm) hown (hts _ w1) (hts _ w2) (hts _ w3) (hts _ w4) hAm.1 hP hD hS a0 a1 0 0 (am_wl_at (kA := kA) (ft := ft) (ad := ad) hu0) (am_wl_at (kA := kA) (ft := ft) (ad := ad) hu1) rfl rfl rfl g1 g2 g3 g4 g5 (fun _ _ => rfl) hfr (by omega) h1 fun H1 locs1 hP1 hD1 hS1 => ?_
    have hset : (am_wl kA ft ad u).set a1 (ad a1, .inl (kA 0, n1, .inl (va_cpy (u.2 a0) (u.2 a1) sp.toNatClampNeg dp.toNatClampNeg n.toNatClampNeg))) = am_wl kA ft ad (u.1, am_cp u.2 a1 (va_cpy (u.2 a0) (u.2 a1) sp.toNatClampNeg dp.toNatClampNeg n.toNatClampNeg)) := am_wl_seti hu1 _
    rw [hset] at hP1 hD1
    exact hF ad H1 locs1 cells slots ls hl ⟨hP1, hD1, hS1, hRr⟩
  · exact hF.elim
theorem as_oini (cx : am_Cx p R s m args meth c0 D cl kA ft A ad0 mc ms nL cc own Ts nw nm sc ns sn sv lg xl xs) (w1 : Cond.methodLink own z.toNat Lib.objectInit ∈ Ts) (w2 : Cond.instanceMethod Lib.objectInit ∈ Ts) (w3 : Cond.code Lib.objectInit ⟨#[0xb1]⟩ 1 none ∈ Ts) (hck : decode cc pc = .ok (.invokespecial z.toNat, 3) ∧ nx = pc + 3) (hF : ao_oini nx (am_Xs p l e R s m args below meth c0 Qs D cl kA ft A ad0 n0 mc ms nL) L S u b c) : (am_Xs p l e R s m args below meth c0 Qs D cl kA ft A ad0 n0 mc ms nL) pc L S u b c := by
  obtain ⟨hx, hb, hml, hown, hts, hA, hAm, hnm, hfr, hlo, hmc, hms, hcl, hxs⟩ := cx
  unfold ao_oini at hF
  split at hF
  · rename_i a S
    split at hF
    · rename_i h8
      intro ad H locs cells slots ls hl hR
      obtain ⟨h1, rfl⟩ := hck
      have h9 := am_h8_of ad h8
      exact W.objInit hx hb hown (hts _ w1) (hts _ w2) (hts _ w3) rfl (by rw [hml]; exact hl.1) rfl h1 hfr (by have := lv_room (m := m) (pc := pc) (ls := ls) (rest := S.map (am_cv ad)) h9; have e0 : (F0 m pc ls (Value.ref (ad a) :: S.map (am_cv ad))).monitorRoom = (F0 m pc ls (S.map (am_cv ad))).monitorRoom := rfl; show 2 * (F0 m pc ls (Value.ref (ad a) :: S.map (am_cv ad))).monitorRoom + _ + 12 ≤ _; omega) (hF ad H locs cells slots ls hl hR)
    · exact hF.elim
  · exact hF.elim
theorem as_switch (cx : am_Cx p R s m args meth c0 D cl kA ft A ad0 mc ms nL cc own Ts nw nm sc ns sn sv lg xl xs) (f : Int32 → Nat) (dflt lo hi : Int) (offs : Array Int) (len : Nat) (hdg : decode cc pc = .ok (.tableswitch dflt lo hi offs, len)) (hf1 : ∀ x : Int32, (x.toInt < lo ∨ hi < x.toInt) → (pc : Int) + dflt = (f x : Int)) (hf2 : ∀ x : Int32, ¬ x.toInt < lo → ¬ hi < x.toInt → ∃ off, offs[(x.toInt - lo).toNat]? = some off ∧ (pc : Int) + off = (f x : Int)) (hF : ao_switch f (am_Xs p l e R s m args below meth c0 Qs D cl kA ft A ad0 n0 mc ms nL) L S u b c) : (am_Xs p l e R s m args below meth c0 Qs D cl kA ft A ad0 n0 mc ms nL) pc L S u b c := by
  obtain ⟨hx, hb, hml, hown, hts, hA, hAm, hnm, hfr, hlo, hmc, hms, hcl, hxs⟩ := cx
  unfold ao_switch at hF
  split at hF
  · rename_i x S
    intro ad H locs cells slots ls hl hR
    have h := hF ad H locs cells slots ls hl hR
    by_cases g1 : x.toInt < lo
    · exact lv_tableOut hx hb hdg (Or.inl g1) (hf1 x (Or.inl g1)) h
    · by_cases g2 : hi < x.toInt
      · exact lv_tableOut hx hb hdg (Or.inr g2) (hf1 x (Or.inr g2)) h
      · obtain ⟨off, h1, h2⟩ := hf2 x g1 g2
        exact lv_tableIn hx hb hdg g1 g2 h1 h2 h
  · exact hF.elim
end SIM
