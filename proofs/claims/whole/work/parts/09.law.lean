/-! THE CLAIM OUT OF ONE WALK OF THE LAW'S BODY. Your part is whole_start (and what it stands on); all else here is the same for every law, but numbers. -/
def R_law : String := "AdvisoryMatchLaw"
def lw_P (b : Addr) (xs : List Int32) (args : Array Value) (s : State) : Prop := args = #[.ref b] ∧ s.IntsAt b xs ∧ xs.length ≤ 3584 ∧ (Jvm.Cond.and given_1 narrow_1).before args s = true
def lw_Q (_ : Array Value) (s : State) (o : Outcome) (t : State) : Prop := o = .returned (some (.int 1)) ∧ Framed s o t [] 600000 7302250
def lw_Z (below : List Frame) (a : Array Value) (s : State) : State → Prop := fun t => ∃ o, t.status = .running ∧ Ended t below o ∧ lw_Q a s o t
/-- the law's own end, with 1 on the stack, nothing written that was there before, its room as the claim has it -/
theorem lw_ret {p : Program} {l : Launch} {e : Env} {s : State} {m : MethodId} {below : List Frame} {meth : Method} {c : Code} {b : Nat} (hx : p.tables.exec = Jvm.exec) (hb : c.code = code) (hr : meth.sig.returnType = ret) (hlocks : meth.locks = false) {pc : Nat} {H : Heap} {ls : Array Slot} (hdg : decode code pc = .ok (.ireturn, 1)) : W p l e room_1 s m #[Value.ref b] below meth c H [] 600000 7302250 (lw_Z below #[Value.ref b] s) (F0 m pc ls [.int 1]) := by
  intro T hT X
  obtain ⟨fs, hret, hrun, hended, hW, hframe⟩ := X.leave (v := some (.int 1)) (hlocks := hlocks) (fun h => by rw [hr] at h; cases h)
  have hmeth' : T.vm.method? m = some meth := X.method'
  refine ⟨T.setFrames fs, ?_, .returned (some (.int 1)), hrun, hended, rfl, ⟨_, rfl⟩, hW, hframe⟩
  jvm_step X.here [X.here.top, hx, hb, hdg, hmeth', hr, ret, narrow_b1]
  (try refine ⟨rfl, ?_⟩); (try refine ⟨rfl, ?_⟩)
  first | (intro acts; rw [hret _ acts rfl rfl rfl]) | rw [hret _ _ rfl rfl rfl]
  exact Steps.refl _
/-- what holds at the law's entry: the machine, the code, the tables' words (any of lw_tbl by 'hts w (by decide +kernel)'), the script of L ints xs at the cell b, what the Statement gives of the start (any of its parts by flat_of_before) -/
def lw_At (p : Program) (s : State) (m : MethodId) (meth : Method) (c : Code) (b L : Nat) (xs : Nat → Int32) : Prop :=
  p.tables.exec = Jvm.exec ∧ c.code = code ∧ meth.sig.returnType = ret ∧ c.maxLocals = 4 ∧ s.vm.findClass R_law = some m.cls ∧ (∀ w ∈ lw_tbl, w.before #[Value.ref b] s = true) ∧ va_X b L xs s s.heap ∧ b < s.heap.size ∧ meth.locks = false ∧ (Jvm.Cond.and given_1 narrow_1).before #[Value.ref b] s = true

set_option maxRecDepth 100000 in
theorem ax_nwin : ∀ w ∈ ax_nw, w ∈ lw_tbl := by decide +kernel
theorem ax_st0 {args : Array Value} {s : State} {A : Nat → Prop} (hgv : (Jvm.Cond.and given_1 narrow_1).before args s = true) (hA : ∀ a : Nat, a < s.heap.size → ¬ A a) : ∃ t : Nat, (Term.static "AdvisoryMatch$Severity" "REACHES" "[I").eval args s none [] s = some (.ref t) ∧ va_T .int t (ax_sn 0) (fun j => .int (ax_sv 0 j)) A s s.heap := by
  have hs := flat_of_before _ hgv
  refine va_Tof (tm := (Term.static "AdvisoryMatch$Severity" "REACHES" "[I")) (N := 4) (by decide) (hs _ (by decide +kernel)) (va_eqt (z := 4) (hs _ (by decide +kernel))) ?_ hA
  intro j hj
  match j, hj with
  | 0, _ => exact va_eqt (t := Term.elem (Term.static "AdvisoryMatch$Severity" "REACHES" "[I") (.int 0)) (z := 85) (hs _ (by decide +kernel))
  | 1, _ => exact va_eqt (t := Term.elem (Term.static "AdvisoryMatch$Severity" "REACHES" "[I") (.int 1)) (z := 62) (hs _ (by decide +kernel))
  | 2, _ => exact va_eqt (t := Term.elem (Term.static "AdvisoryMatch$Severity" "REACHES" "[I") (.int 2)) (z := 55) (hs _ (by decide +kernel))
  | 3, _ => exact va_eqt (t := Term.elem (Term.static "AdvisoryMatch$Severity" "REACHES" "[I") (.int 3)) (z := 20) (hs _ (by decide +kernel))
  | n + 4, h => exact absurd h (by omega)
theorem ax_st1 {args : Array Value} {s : State} {A : Nat → Prop} (hgv : (Jvm.Cond.and given_1 narrow_1).before args s = true) (hA : ∀ a : Nat, a < s.heap.size → ¬ A a) : ∃ t : Nat, (Term.static "AdvisoryMatch$Severity" "EASES" "[I").eval args s none [] s = some (.ref t) ∧ va_T .int t (ax_sn 1) (fun j => .int (ax_sv 1 j)) A s s.heap := by
  have hs := flat_of_before _ hgv
  refine va_Tof (tm := (Term.static "AdvisoryMatch$Severity" "EASES" "[I")) (N := 2) (by decide) (hs _ (by decide +kernel)) (va_eqt (z := 2) (hs _ (by decide +kernel))) ?_ hA
  intro j hj
  match j, hj with
  | 0, _ => exact va_eqt (t := Term.elem (Term.static "AdvisoryMatch$Severity" "EASES" "[I") (.int 0)) (z := 77) (hs _ (by decide +kernel))
  | 1, _ => exact va_eqt (t := Term.elem (Term.static "AdvisoryMatch$Severity" "EASES" "[I") (.int 1)) (z := 44) (hs _ (by decide +kernel))
  | n + 2, h => exact absurd h (by omega)
theorem ax_st2 {args : Array Value} {s : State} {A : Nat → Prop} (hgv : (Jvm.Cond.and given_1 narrow_1).before args s = true) (hA : ∀ a : Nat, a < s.heap.size → ¬ A a) : ∃ t : Nat, (Term.static "AdvisoryMatch$Severity" "RIGHTS" "[I").eval args s none [] s = some (.ref t) ∧ va_T .int t (ax_sn 2) (fun j => .int (ax_sv 2 j)) A s s.heap := by
  have hs := flat_of_before _ hgv
  refine va_Tof (tm := (Term.static "AdvisoryMatch$Severity" "RIGHTS" "[I")) (N := 3) (by decide) (hs _ (by decide +kernel)) (va_eqt (z := 3) (hs _ (by decide +kernel))) ?_ hA
  intro j hj
  match j, hj with
  | 0, _ => exact va_eqt (t := Term.elem (Term.static "AdvisoryMatch$Severity" "RIGHTS" "[I") (.int 0)) (z := 85) (hs _ (by decide +kernel))
  | 1, _ => exact va_eqt (t := Term.elem (Term.static "AdvisoryMatch$Severity" "RIGHTS" "[I") (.int 1)) (z := 62) (hs _ (by decide +kernel))
  | 2, _ => exact va_eqt (t := Term.elem (Term.static "AdvisoryMatch$Severity" "RIGHTS" "[I") (.int 2)) (z := 27) (hs _ (by decide +kernel))
  | n + 3, h => exact absurd h (by omega)
theorem ax_st3 {args : Array Value} {s : State} {A : Nat → Prop} (hgv : (Jvm.Cond.and given_1 narrow_1).before args s = true) (hA : ∀ a : Nat, a < s.heap.size → ¬ A a) : ∃ t : Nat, (Term.static "AdvisoryMatch$Severity" "HELPS" "[I").eval args s none [] s = some (.ref t) ∧ va_T .int t (ax_sn 3) (fun j => .int (ax_sv 3 j)) A s s.heap := by
  have hs := flat_of_before _ hgv
  refine va_Tof (tm := (Term.static "AdvisoryMatch$Severity" "HELPS" "[I")) (N := 2) (by decide) (hs _ (by decide +kernel)) (va_eqt (z := 2) (hs _ (by decide +kernel))) ?_ hA
  intro j hj
  match j, hj with
  | 0, _ => exact va_eqt (t := Term.elem (Term.static "AdvisoryMatch$Severity" "HELPS" "[I") (.int 0)) (z := 85) (hs _ (by decide +kernel))
  | 1, _ => exact va_eqt (t := Term.elem (Term.static "AdvisoryMatch$Severity" "HELPS" "[I") (.int 1)) (z := 62) (hs _ (by decide +kernel))
  | n + 2, h => exact absurd h (by omega)
theorem ax_st4 {args : Array Value} {s : State} {A : Nat → Prop} (hgv : (Jvm.Cond.and given_1 narrow_1).before args s = true) (hA : ∀ a : Nat, a < s.heap.size → ¬ A a) : ∃ t : Nat, (Term.static "AdvisoryMatch$Severity" "HARMLESS" "[I").eval args s none [] s = some (.ref t) ∧ va_T .int t (ax_sn 4) (fun j => .int (ax_sv 4 j)) A s s.heap := by
  have hs := flat_of_before _ hgv
  refine va_Tof (tm := (Term.static "AdvisoryMatch$Severity" "HARMLESS" "[I")) (N := 3) (by decide) (hs _ (by decide +kernel)) (va_eqt (z := 3) (hs _ (by decide +kernel))) ?_ hA
  intro j hj
  match j, hj with
  | 0, _ => exact va_eqt (t := Term.elem (Term.static "AdvisoryMatch$Severity" "HARMLESS" "[I") (.int 0)) (z := 100) (hs _ (by decide +kernel))
  | 1, _ => exact va_eqt (t := Term.elem (Term.static "AdvisoryMatch$Severity" "HARMLESS" "[I") (.int 1)) (z := 78) (hs _ (by decide +kernel))
  | 2, _ => exact va_eqt (t := Term.elem (Term.static "AdvisoryMatch$Severity" "HARMLESS" "[I") (.int 2)) (z := 44) (hs _ (by decide +kernel))
  | n + 3, h => exact absurd h (by omega)
set_option maxHeartbeats 4000000 in
set_option maxRecDepth 100000 in
theorem ax_whole {p : Program} {e : Env} {s : State} {m : MethodId} {below : List Frame} {meth : Method} {c : Code} (l : Launch) {b L : Nat} {xs : Nat → Int32} (C0 : lw_At p s m meth c b L xs)
    (hwp : am_wp (ax_E L xs) (ax_cd ax_law) (am_sp (ax_E L xs) ax_cd ax_ml 60) (fun r _ => r = some (.int 1)) 0 (am_lo 4 [.ref am_xb]) [] ([], fun _ _ => 0) 600000 7302250) :
    W p l e room_1 s m #[Value.ref b] below meth c s.heap [] 0 0 (lw_Z below #[Value.ref b] s) (entryFrame m ([Value.ref b] : List Value).toArray 4) := by
  obtain ⟨hx, hb, hr, hml, hown, hts, hX, hbl, hlocks, hgv⟩ := C0
  have hA : ∀ q : Nat, s.heap.size ≤ q → (fun q : Nat => s.heap.size ≤ q) q := fun _ h => h
  have hbA : ¬ (fun q : Nat => s.heap.size ≤ q) b := Nat.not_le.mpr hbl
  have hAs : ∀ a : Nat, a < s.heap.size → ¬ (fun q : Nat => s.heap.size ≤ q) a := fun a h => Nat.not_le.mpr h
  have hU : ∀ w ∈ ax_U, w.before #[Value.ref b] s = true := fun w h => hts w (List.mem_filter.mp h).1
  have hI : ∀ w, ax_in w = true → w.before #[Value.ref b] s = true := fun w h => hU w (ax_inU h)
  obtain ⟨c0, iS0, hKn0⟩ := u_known (C := R_AM) (T := F_AM) (N := 9) (n := 9) (ws := ax_U) hU (fun w h => ax_inU (ax_ws_AM w h)) (hI (.instantiable R_AM 9) (by decide +kernel))
  obtain ⟨c1, iS1, hKn1⟩ := u_known (C := R_Packs) (T := F_Packs) (N := 6) (n := 6) (ws := ax_U) hU (fun w h => ax_inU (ax_ws_Packs w h)) (hI (.instantiable R_Packs 6) (by decide +kernel))
  obtain ⟨c2, iS2, hKn2⟩ := u_known (C := R_Needs) (T := F_Needs) (N := 7) (n := 7) (ws := ax_U) hU (fun w h => ax_inU (ax_ws_Needs w h)) (hI (.instantiable R_Needs 7) (by decide +kernel))
  obtain ⟨c3, iS3, hKn3⟩ := u_known (C := R_Advisories) (T := F_Advisories) (N := 8) (n := 8) (ws := ax_U) hU (fun w h => ax_inU (ax_ws_Advisories w h)) (hI (.instantiable R_Advisories 8) (by decide +kernel))
  obtain ⟨c4, iS4, hKn4⟩ := u_known (C := R_Exceptions) (T := F_Exceptions) (N := 1) (n := 1) (ws := ax_U) hU (fun w h => ax_inU (ax_ws_Exceptions w h)) (hI (.instantiable R_Exceptions 1) (by decide +kernel))
  obtain ⟨c5, iS5, hKn5⟩ := u_known (C := R_Ways) (T := F_Ways) (N := 4) (n := 4) (ws := ax_U) hU (fun w h => ax_inU (ax_ws_Ways w h)) (hI (.instantiable R_Ways 4) (by decide +kernel))
  obtain ⟨c6, iS6, hKn6⟩ := u_known (C := R_HitList) (T := F_HitList) (N := 2) (n := 2) (ws := ax_U) hU (fun w h => ax_inU (ax_ws_HitList w h)) (hI (.instantiable R_HitList 2) (by decide +kernel))
  obtain ⟨c7, iS7, hKn7⟩ := u_known (C := R_Planner) (T := F_Planner) (N := 8) (n := 8) (ws := ax_U) hU (fun w h => ax_inU (ax_ws_Planner w h)) (hI (.instantiable R_Planner 8) (by decide +kernel))
  obtain ⟨c8, iS8, hKn8⟩ := u_known (C := R_Model) (T := F_Model) (N := 31) (n := 31) (ws := ax_U) hU (fun w h => ax_inU (ax_ws_Model w h)) (hI (.instantiable R_Model 31) (by decide +kernel))
  obtain ⟨dC, dI, hKc⟩ : ∃ (dC : Nat → ClassId) (dI : Nat → Nat → Nat), ∀ (k : Nat) (q : vw_C), ax_cl[k]? = some q → u_Kn s q.1 q.2.1 q.2.2 (dC k) (dI k) := by
    refine ⟨fun k => if k = 0 then c0 else if k = 1 then c1 else if k = 2 then c2 else if k = 3 then c3 else if k = 4 then c4 else if k = 5 then c5 else if k = 6 then c6 else if k = 7 then c7 else c8, fun k => if k = 0 then iS0 else if k = 1 then iS1 else if k = 2 then iS2 else if k = 3 then iS3 else if k = 4 then iS4 else if k = 5 then iS5 else if k = 6 then iS6 else if k = 7 then iS7 else iS8, ?_⟩
    intro k q hq
    match k, hq with
    | 0, hq => cases hq; exact hKn0
    | 1, hq => cases hq; exact hKn1
    | 2, hq => cases hq; exact hKn2
    | 3, hq => cases hq; exact hKn3
    | 4, hq => cases hq; exact hKn4
    | 5, hq => cases hq; exact hKn5
    | 6, hq => cases hq; exact hKn6
    | 7, hq => cases hq; exact hKn7
    | 8, hq => cases hq; exact hKn8
    | k + 9, hq => simp [ax_cl] at hq
  obtain ⟨aI, kI, coI, hI1, hI2, hI3⟩ := Cond.arrayClass_spec (hI (.arrayClass .int) (by decide +kernel))
  obtain ⟨aZ, kZ, coZ, hZ1, hZ2, hZ3⟩ := Cond.arrayClass_spec (hI (.arrayClass .boolean) (by decide +kernel))
  have hov : (Cond.arrayOver (.array .int)).before #[Value.ref b] s = true := hts _ (by decide +kernel)
  obtain ⟨coG, aG, kG, hG1, -, hG2, hG3, hG4⟩ := arrayOver_specB hov
  obtain ⟨kA, hkA0, hkA1, hkA2⟩ : ∃ kA : Nat → ClassId, kA 0 = aI ∧ kA 1 = aZ ∧ kA 2 = aG := ⟨fun k => if k = 0 then aI else if k = 1 then aZ else aG, rfl, rfl, rfl⟩
  have hK : va_K (dC, dI) ax_cl (am_ty kA) s := by
    refine ⟨hKc, fun k q hq => ?_⟩
    match k, hq with
    | 0, hq =>
      cases hq
      rw [hkA0]
      exact ⟨fun N z => ⟨(fun q hq => by cases hq), kI, hI2, coI, hI3⟩, hI1⟩
    | 1, hq =>
      cases hq
      rw [hkA1]
      exact ⟨fun N z => ⟨(fun q hq => by cases hq), kZ, hZ2, coZ, hZ3⟩, hZ1⟩
    | 2, hq =>
      cases hq
      rw [hkA2]
      exact ⟨fun N z => ⟨(fun q hq => by cases hq), kG, hG2, coG, hG3⟩, hG4⟩
    | k + 3, hq => simp [am_ty] at hq
  obtain ⟨t0, ht0, hT0⟩ := ax_st0 (A := fun q : Nat => s.heap.size ≤ q) hgv hAs
  have hZ0 : va_Z "AdvisoryMatch$Severity" "REACHES" "[I" (.ref t0) (fun q : Nat => s.heap.size ≤ q) s s.heap := va_Zref (hts _ (by decide +kernel)) (hI (.initialized "AdvisoryMatch$Severity") (by decide +kernel)) ht0 hAs
  obtain ⟨t1, ht1, hT1⟩ := ax_st1 (A := fun q : Nat => s.heap.size ≤ q) hgv hAs
  have hZ1 : va_Z "AdvisoryMatch$Severity" "EASES" "[I" (.ref t1) (fun q : Nat => s.heap.size ≤ q) s s.heap := va_Zref (hts _ (by decide +kernel)) (hI (.initialized "AdvisoryMatch$Severity") (by decide +kernel)) ht1 hAs
  obtain ⟨t2, ht2, hT2⟩ := ax_st2 (A := fun q : Nat => s.heap.size ≤ q) hgv hAs
  have hZ2 : va_Z "AdvisoryMatch$Severity" "RIGHTS" "[I" (.ref t2) (fun q : Nat => s.heap.size ≤ q) s s.heap := va_Zref (hts _ (by decide +kernel)) (hI (.initialized "AdvisoryMatch$Severity") (by decide +kernel)) ht2 hAs
  obtain ⟨t3, ht3, hT3⟩ := ax_st3 (A := fun q : Nat => s.heap.size ≤ q) hgv hAs
  have hZ3 : va_Z "AdvisoryMatch$Severity" "HELPS" "[I" (.ref t3) (fun q : Nat => s.heap.size ≤ q) s s.heap := va_Zref (hts _ (by decide +kernel)) (hI (.initialized "AdvisoryMatch$Severity") (by decide +kernel)) ht3 hAs
  obtain ⟨t4, ht4, hT4⟩ := ax_st4 (A := fun q : Nat => s.heap.size ≤ q) hgv hAs
  have hZ4 : va_Z "AdvisoryMatch$Severity" "HARMLESS" "[I" (.ref t4) (fun q : Nat => s.heap.size ≤ q) s s.heap := va_Zref (hts _ (by decide +kernel)) (hI (.initialized "AdvisoryMatch$Severity") (by decide +kernel)) ht4 hAs
  obtain ⟨ad0, had, hadx⟩ : ∃ ad0 : Nat → Nat, (ad0 (am_sb + 0) = t0 ∧ ad0 (am_sb + 1) = t1 ∧ ad0 (am_sb + 2) = t2 ∧ ad0 (am_sb + 3) = t3 ∧ ad0 (am_sb + 4) = t4) ∧ ad0 am_xb = b := ⟨fun i => if i = am_xb then b else if i = am_sb + 0 then t0 else if i = am_sb + 1 then t1 else if i = am_sb + 2 then t2 else if i = am_sb + 3 then t3 else if i = am_sb + 4 then t4 else 0, ⟨rfl, rfl, rfl, rfl, rfl⟩, rfl⟩
  have hAm : am_Am (dC, dI) ax_cl kA ax_nw ax_sc ax_ns ax_sn ax_sv (fun q : Nat => s.heap.size ≤ q) ad0 s := by
    refine ⟨hK, fun w hw => ?_, hov, fun k hk => ?_⟩
    · have hw2 : w ∈ lw_tbl := ax_nwin w hw
      obtain ⟨a9, i9, x9, h9, rfl⟩ := ax_nwok w hw
      exact va_Nw.of rfl (hts _ hw2)
    · match k, hk with
      | 0, _ => rw [had.1]; exact ⟨hZ0, hT0⟩
      | 1, _ => rw [had.2.1]; exact ⟨hZ1, hT1⟩
      | 2, _ => rw [had.2.2.1]; exact ⟨hZ2, hT2⟩
      | 3, _ => rw [had.2.2.2.1]; exact ⟨hZ3, hT3⟩
      | 4, _ => rw [had.2.2.2.2]; exact ⟨hZ4, hT4⟩
      | n + 5, h => exact absurd h (by unfold ax_ns; omega)
  have cx : am_Cx p room_1 s m #[Value.ref b] meth c (dC, dI) ax_cl kA ax_ft (fun q : Nat => s.heap.size ≤ q) ad0 600000 7302250 (ax_ml ax_law) (ax_by ax_law) (ax_nm ax_law).cls ax_U ax_nw meth.name ax_sc ax_ns ax_sn ax_sv true L xs :=
    ⟨hx, hb, hml, hown, hU, hA, hAm, rfl, by decide, by decide, Nat.le_refl _, Nat.le_refl _, ax_clok0 ax_U (fun w h => h), fun _ => by rw [hadx]; exact ⟨hX, hbl, hbA⟩⟩
  rw [lg_entry_eq]
  have hl := am_entry (ad := ad0) (As := [.ref am_xb]) (n := 4) (by decide)
  have e0 : ([.ref am_xb] : List Value).map (am_cv ad0) = [.ref b] := by show [Value.ref (ad0 am_xb)] = _; rw [hadx]
  rw [e0] at hl
  refine hwp (am_Xs p l e room_1 s m #[Value.ref b] below meth c (lw_Z below #[Value.ref b] s) (dC, dI) ax_cl kA ax_ft (fun q : Nat => s.heap.size ≤ q) ad0 0 600000 7302250 (ax_ml ax_law)) ?_ ad0 s.heap [] 0 0 _ hl ⟨fun k q h => by simp [am_wl] at h, ⟨fun i j p q h => by simp [am_wl] at h, fun k q h => by simp [am_wl] at h⟩, va_S.rf, Nat.le_refl _, Nat.le_refl _, Nat.le_refl _, Nat.zero_le _, fun _ _ => rfl, fun _ => rfl⟩
  intro pc L' S u' b' c' hF
  unfold am_F at hF
  split at hF
  · rename_i I hI9
    refine ax_step (y := ax_law) (d := 60) cx (fun w h => h) (fun h => absurd h (by decide)) (fun _ => rfl) (by decide) (by decide) (ax_all 60) ?_ (ax_cdok ax_law pc I (Nat.le_refl _) hI9) hF
    intro r u2 b2 c2 pc2 ad2 H locs cells slots ls hq hR hrk
    obtain ⟨hP2, hD2, hS2, r1, r2, r3, r4, r5, r6⟩ := hR
    subst hq
    refine va_forget (fun q hq => hS2.2.2 q hq) ?_
    refine W.widen (k := 600000) (n := 7302250) (by omega) (by omega) ?_
    rcases hrk with ⟨h0, h1, h2⟩ | ⟨v, h0, h1, h2⟩ | ⟨a, h0, h1, h2⟩ | ⟨v, h0, h1, h2⟩
    · cases h0
    · exact lw_ret hx hb hr hlocks h1
    · cases h0
    · cases h0
  · exact hF.elim
