/-! CALLS AND ENDS -/
def am_Pc (D : va_G) (cl : List vw_C) (kA : Nat → ClassId) (ft : Nat → Nat → Bool) (nw : List Cond) (sc : Nat → String × String) (ns : Nat) (sn : Nat → Nat) (sv : Nat → Nat → Int32) (As : List Value) (u : am_St) (ad : Nat → Nat) (sz : Nat) : Array Value → State → Prop :=
  va_Pc (As.map (am_cv ad)) (fun U => U.heap.size = sz ∧ va_P D cl (am_wl kA ft ad u) U.heap ∧ va_D (fun _ => True) (am_wl kA ft ad u) ∧ am_Am D cl kA nw sc ns sn sv (va_A (am_wl kA ft ad u) sz) ad U ∧ u.1.length ≤ am_sb)
def am_Qc (D : va_G) (cl : List vw_C) (kA : Nat → ClassId) (ft : Nat → Nat → Bool) (P : am_Q) (u : am_St) (ad : Nat → Nat) (sz k0 : Nat) : Array Value → State → Outcome → State → Prop := fun _ st oc t =>
  (∃ (r : Option Value) (u' : am_St) (ad' : Nat → Nat), oc = .returned (r.map (am_cv ad')) ∧ P r u' ∧ u.1.length ≤ u'.1.length ∧ u'.1.length ≤ am_sb ∧ (∀ i, i < u.1.length ∨ am_sb ≤ i → ad' i = ad i) ∧ (k0 = 0 → ad' = ad) ∧ va_P D cl (am_wl kA ft ad' u') t.heap ∧ va_D (va_A (am_wl kA ft ad u) sz) (am_wl kA ft ad' u')) ∧ va_F (va_A (am_wl kA ft ad u) sz) st t
/-- links across the nest: of methods -/
def am_nwok (nw : List Cond) : Prop := ∀ w ∈ nw, ∃ a i x h, w = .methodLinkNest a i x h
theorem am_blind {D : va_G} {cl : List vw_C} {kA : Nat → ClassId} {ft : Nat → Nat → Bool} {nw : List Cond} {sc : Nat → String × String} {ns : Nat} {sn : Nat → Nat} {sv : Nat → Nat → Int32} (hnw : am_nwok nw) (As : List Value) (u : am_St) (ad : Nat → Nat) (sz : Nat) : FrameBlind (am_Pc D cl kA ft nw sc ns sn sv As u ad sz) := by
  intro a U g mk q
  obtain ⟨q0, q1, qP, qD, ⟨qK, qN, qO, qZ⟩, ql⟩ := q
  refine ⟨q0, q1, qP, qD, ⟨va_K.moved (u := U) (U := U.calling g mk a) (Vm.Alike.refl U.vm) qK, fun w hw => ?_, va_AOA.moved (u := U) (U := U.calling g mk a) (Vm.Alike.refl U.vm) qO, fun k hk => ⟨va_Z.moved (u := U) (U := U.calling g mk a) (Vm.Alike.refl U.vm) (qZ k hk).1, va_T.moved (u := U) (U := U.calling g mk a) (Vm.Alike.refl U.vm) (qZ k hk).2⟩⟩, ql⟩
  obtain ⟨a9, i9, x9, h9, rfl⟩ := hnw w hw
  exact va_Nw.same rfl (rfl : U.vm = (U.calling g mk a).vm) (qN _ hw)
theorem am_Am_to {D : va_G} {cl : List vw_C} {kA : Nat → ClassId} {nw : List Cond} {sc : Nat → String × String} {ns : Nat} {sn : Nat → Nat} {sv : Nat → Nat → Int32} {A A' : Nat → Prop} {ad ad0 : Nat → Nat} {s U : State} {H : Heap} {locs : List Loc} (hnw : am_nwok nw) (h : am_Am D cl kA nw sc ns sn sv A ad0 s) (hS : va_S A s.heap H locs) (hU : U.heap = H) (hW : s.WarmedH U.vm) (hAA : ∀ q, A' q → A q) (had : ∀ i, am_sb ≤ i → ad i = ad0 i) : am_Am D cl kA nw sc ns sn sv A' ad U := by
  obtain ⟨qK, qN, qO, qZ⟩ := h
  refine ⟨va_K.moved hW.alike qK, fun w hw => ?_, va_AOA.moved hW.alike qO, fun k hk => ?_⟩
  · obtain ⟨a9, i9, x9, h9, rfl⟩ := hnw w hw
    exact va_Nw.warmM hW (qN _ hw)
  · rw [had (am_sb + k) (Nat.le_add_right _ _), hU]
    exact ⟨((((qZ k hk).1).moved hW.alike).kept hS.2.1).narrow hAA, ((((qZ k hk).2).moved hW.alike).kept hS.2.1).narrow hAA⟩
section SIM3
variable {p : Program} {l : Launch} {e : Env} {R : Room} {s : State} {m : MethodId} {args : Array Value} {below : List Frame} {meth : Method} {c0 : Code} {Qs : State → Prop} {D : va_G} {cl : List vw_C} {kA : Nat → ClassId} {ft : Nat → Nat → Bool} {A : Nat → Prop} {ad0 : Nat → Nat} {n0 mc ms nL : Nat} {cc : ByteArray} {own : String} {Ts nw : List Cond} {nm : String} {sc : Nat → String × String} {ns : Nat} {sn : Nat → Nat} {sv : Nat → Nat → Int32} {lg : Bool} {xl : Nat} {xs : Nat → Int32}
variable {pc nx i j : Nat} {z : Int} {L : List (Option Value)} {S : List Value} {u : am_St} {b c : Nat}
theorem am_after {P : am_Q} {ad : Nat → Nat} {sz k0 mc' ms' : Nat} {H : Heap} {locs : List Loc} {cells slots : Nat} {ls : Array Slot} {st0 rest : List Value} {a : Array Value} {free : Addr → Prop} (hr : va_Run p l e R s m args below meth c0 H locs cells slots mc' ms' (F0 m pc ls st0) rest (am_Qc D cl kA ft P u ad sz k0 a) free) (hS : va_S A s.heap H locs) (hAA : ∀ q, va_A (am_wl kA ft ad u) sz q → A q) (hf : ∀ q, free q → A q)
    (kk : ∀ (r : Option Value) (u' : am_St) (ad' : Nat → Nat) (H1 : Heap) (locs1 : List Loc), P r u' → u.1.length ≤ u'.1.length → u'.1.length ≤ am_sb → (∀ i, i < u.1.length ∨ am_sb ≤ i → ad' i = ad i) → (k0 = 0 → ad' = ad) → va_P D cl (am_wl kA ft ad' u') H1 → va_D A (am_wl kA ft ad' u') → va_S A s.heap H1 locs1 → W p l e R s m args below meth c0 H1 locs1 (cells + mc') (slots + ms') Qs (F0 m (pc + 3) ls ((r.map (am_cv ad')).toList ++ rest))) : W p l e R s m args below meth c0 H locs cells slots Qs (F0 m pc ls st0) := by
  intro T hT X
  obtain ⟨v, st₀, t, T', L', h0, X', hL, e1, e2, ⟨⟨r, u', ad', hv, hp, q1, q2, q3, q4, q5, q6⟩, hz, hk⟩, st⟩ := hr T hT X
  cases hv
  rw [h0] at hz hk
  obtain ⟨t2, a1, b1⟩ := kk r u' ad' T'.heap (locs ++ L') hp q1 q2 q3 q4 (by rw [e1]; exact q5) (q6.weaken fun _ q _ h => hAA q.1 h)
    ⟨Nat.le_trans hS.1 (by rw [e1]; exact hz), fun q h1 h2 => by rw [e1, hk q (Nat.lt_of_lt_of_le h1 hS.1) (fun z => h2 (hAA q z))]; exact hS.2.1 q h1 h2, fun q hq => by
      rcases List.mem_append.mp hq with h | h
      · exact hS.2.2 q h
      · exact hf _ (hL q h)⟩ T' rfl X'
  exact ⟨t2, st t2 a1, b1⟩
theorem am_AA {ad : Nat → Nat} {H : Heap} {locs : List Loc} (hA : ∀ q, s.heap.size ≤ q → A q) (hD : va_D A (am_wl kA ft ad u)) (hS : va_S A s.heap H locs) : ∀ q, va_A (am_wl kA ft ad u) H.size q → A q := by
  rintro q (⟨k, e, hk⟩ | h)
  · exact hD.2 k _ hk
  · exact hA q (Nat.le_trans hS.1 h)
theorem as_core {k : Nat} {kc : Nat × Nat} (cx : am_Cx p R s m args meth c0 D cl kA ft A ad0 mc ms nL cc own Ts nw nm sc ns sn sv lg xl xs) (hcond : kc.1 ≤ b ∧ kc.2 ≤ c ∧ (kc.1 = 0 ∨ am_val u.1 L (S.drop k) = true))
    (hrun : ∀ (ad : Nat → Nat) (H : Heap) (locs : List Loc) (cells slots : Nat) (ls : Array Slot), lv_has ls nL (am_kn ad L) → am_Rh D cl kA ft A s.heap ad0 n0 mc ms u b c ad H locs cells slots → ∃ aa : Array Value, va_Run p l e R s m args below meth c0 H locs cells slots kc.1 kc.2 (F0 m pc ls (S.map (am_cv ad))) ((S.drop k).map (am_cv ad)) (am_Qc D cl kA ft (fun r u' => (am_Xs p l e R s m args below meth c0 Qs D cl kA ft A ad0 n0 mc ms nL) (pc + 3) L (r.toList ++ S.drop k) u' (b - kc.1) (c - kc.2)) u ad H.size kc.1 aa) (va_A (am_wl kA ft ad u) H.size)) : (am_Xs p l e R s m args below meth c0 Qs D cl kA ft A ad0 n0 mc ms nL) pc L S u b c := by
  obtain ⟨hx, hb, hml, hown, hts, hA, hAm, hnm, hfr, hlo, hmc, hms, hcl, hxs⟩ := cx
  intro ad H locs cells slots ls hl hR
  obtain ⟨aa, hrun⟩ := hrun ad H locs cells slots ls hl hR
  obtain ⟨hP, hD, hS, r1, r2, r3, r4, r5, r6⟩ := hR
  have hAA := am_AA hA hD hS
  refine am_after hrun hS hAA hAA ?_
  intro r u' ad' H1 locs1 hp q1 q2 q3 q4 hP1 hD1 hS1
  have hst : (S.drop k).map (am_cv ad') = (S.drop k).map (am_cv ad) ∧ am_kn ad' L = am_kn ad L := by
    rcases hcond.2.2 with h0 | hv
    · rw [q4 h0]
      exact ⟨rfl, rfl⟩
    · obtain ⟨hvS, hvL, -⟩ := am_val_of hv
      have hag : ∀ a, am_vr u.1.length a = true → ad' a = ad a := fun a ha => q3 a (am_vr_of ha)
      exact ⟨am_S_ag hag hvS, am_kn_ag hag hvL⟩
  have h := hp ad' H1 locs1 (cells + kc.1) (slots + kc.2) ls (by rw [hst.2]; exact hl) ⟨hP1, hD1, hS1, by omega, by omega, by omega, q2, fun i hi => by rw [q3 i (by omega)]; exact r5 i hi, fun h0 => by rw [q4 (by omega)]; exact r6 h0⟩
  have e1 : (r.toList ++ S.drop k).map (am_cv ad') = (r.map (am_cv ad')).toList ++ (S.drop k).map (am_cv ad) := by
    rw [List.map_append, hst.1]
    cases r <;> rfl
  rw [e1] at h
  exact h
theorem am_stk {ad : Nat → Nat} {k : Nat} : S.map (am_cv ad) = (((S.take k).reverse.map (am_cv ad))).reverse ++ (S.drop k).map (am_cv ad) := by
  rw [List.map_reverse, List.reverse_reverse, ← List.map_append, List.take_append_drop]
theorem am_pre {As : List Value} {ad : Nat → Nat} {H : Heap} {locs : List Loc} {cells slots : Nat} (hnw : am_nwok nw) (hA : ∀ q, s.heap.size ≤ q → A q) (hAm : am_Am D cl kA nw sc ns sn sv A ad0 s) (hR : am_Rh D cl kA ft A s.heap ad0 n0 mc ms u b c ad H locs cells slots) : ∀ U : State, U.heap = H → s.WarmedH U.vm → am_Pc D cl kA ft nw sc ns sn sv As u ad H.size (As.map (am_cv ad)).toArray U := by
  obtain ⟨hP, hD, hS, r1, r2, r3, r4, r5, r6⟩ := hR
  intro U hU hW
  exact ⟨rfl, by rw [hU], by rw [hU]; exact hP, hD.weaken (fun _ _ _ _ => trivial), am_Am_to hnw hAm hS hU hW (am_AA hA hD hS) (fun i hi => r5 i (Or.inr hi)), r4⟩
/-- a call of a static method, of this class (nest: of a nest mate) -/
theorem as_scall {k : Nat} {kc : Nat × Nat} {y : MethodName} {bytes : ByteArray} {maxL : Nat} {ret : Option FieldType} {ws : List Cond} {rm : Room} (cx : am_Cx p R s m args meth c0 D cl kA ft A ad0 mc ms nL cc own Ts nw nm sc ns sn sv lg xl xs) (hnw : am_nwok nw)
    (hcond : kc.1 ≤ b ∧ kc.2 ≤ c ∧ k ≤ S.length ∧ am_h8 (S.drop k) = true ∧ (kc.1 = 0 ∨ am_val u.1 L (S.drop k) = true))
    (hM : ∀ (ad : Nat → Nat) (sz : Nat), Met l y ws rm (am_Pc D cl kA ft nw sc ns sn sv (S.take k).reverse u ad sz) (am_Qc D cl kA ft (fun r u' => (am_Xs p l e R s m args below meth c0 Qs D cl kA ft A ad0 n0 mc ms nL) (pc + 3) L (r.toList ++ S.drop k) u' (b - kc.1) (c - kc.2)) u ad sz kc.1) kc.1 kc.2 (va_A (am_wl kA ft ad u) sz))
    (cw : (CallB R s args own z.toNat y bytes maxL ret ws rm kc.1 kc.2 k ∧ (Cond.static y).before args s = true) ∨ ∃ host, va_CN R s args own z.toNat y host bytes maxL ret ws rm kc.1 kc.2 k ∧ (Cond.static y).before args s = true ∧ True)
    (hdg : decode cc pc = .ok (.invokestatic z.toNat, 3)) : (am_Xs p l e R s m args below meth c0 Qs D cl kA ft A ad0 n0 mc ms nL) pc L S u b c := by
  refine as_core (k := k) (kc := kc) cx ⟨hcond.1, hcond.2.1, hcond.2.2.2.2⟩ ?_
  obtain ⟨hx, hb, hml, hown, hts, hA, hAm, hnm, hfr, hlo, hmc, hms, hcl, hxs⟩ := cx
  intro ad H locs cells slots ls hl hR
  have h9 := am_h8_of ad hcond.2.2.2.1
  have hp : PreS s H (am_Pc D cl kA ft nw sc ns sn sv (S.take k).reverse u ad H.size) ((S.take k).reverse.map (am_cv ad)) := ⟨am_blind hnw _ _ _ _, am_pre hnw hA hAm hR⟩
  have hlen : ((S.take k).reverse.map (am_cv ad)).length = k := by rw [List.length_map, List.length_reverse, List.length_take]; omega
  have hcs : cells + kc.1 ≤ R.cells ∧ slots + kc.2 ≤ R.slots := ⟨by have := hR.2.2.2.1; omega, by have := hR.2.2.2.2.1; omega⟩
  rcases cw with cw | ⟨host, cw⟩
  · exact ⟨_, va_runS (As := (S.take k).reverse.map (am_cv ad)) (rest := (S.drop k).map (am_cv ad)) (g := F0 m pc ls (S.map (am_cv ad))) ⟨hx, hb, hml, hown, hts⟩ (hM ad H.size) cw hp rfl hlen hl.1 am_stk (lv_room h9) hdg hcs⟩
  · exact ⟨_, va_runSN (As := (S.take k).reverse.map (am_cv ad)) (rest := (S.drop k).map (am_cv ad)) (g := F0 m pc ls (S.map (am_cv ad))) ⟨hx, hb, hml, hown, hts⟩ (hM ad H.size) cw hp rfl hlen hl.1 am_stk (lv_room h9) hdg hcs⟩
/-- a call on an object: a method of its class, or (init) its constructor -/
theorem as_vcall {k rc a n : Nat} {rs : List (Option Nat)} {As : List Value} {kc : Nat × Nat} {C : String} {T : u_T} {N : Nat} {y : MethodName} {bytes : ByteArray} {maxL : Nat} {ret : Option FieldType} {ws : List Cond} {rm : Room} (cx : am_Cx p R s m args meth c0 D cl kA ft A ad0 mc ms nL cc own Ts nw nm sc ns sn sv lg xl xs) (hnw : am_nwok nw)
    (hAs : (S.take k).reverse = .ref a :: As) (hu : u.1[a]? = some (rc + 3, n, rs)) (hc : cl[rc]? = some (C, T, N))
    (hcond : kc.1 ≤ b ∧ kc.2 ≤ c ∧ k ≤ S.length ∧ am_h8 (S.drop k) = true ∧ (kc.1 = 0 ∨ am_val u.1 L (S.drop k) = true))
    (hM : ∀ (ad : Nat → Nat) (sz : Nat), Met l y ws rm (am_Pc D cl kA ft nw sc ns sn sv (S.take k).reverse u ad sz) (am_Qc D cl kA ft (fun r u' => (am_Xs p l e R s m args below meth c0 Qs D cl kA ft A ad0 n0 mc ms nL) (pc + 3) L (r.toList ++ S.drop k) u' (b - kc.1) (c - kc.2)) u ad sz kc.1) kc.1 kc.2 (va_A (am_wl kA ft ad u) sz))
    (cw : (CallW R s args own C z.toNat y bytes maxL ret ws rm kc.1 kc.2 (k - 1) ∧ decode cc pc = .ok (.invokevirtual z.toNat, 3)) ∨ (ret = none ∧ ((CallB R s args own z.toNat y bytes maxL none ws rm kc.1 kc.2 (k - 1) ∧ y.name = "<init>" ∧ (Cond.instanceMethod y).before args s = true) ∨ ∃ host, va_CN R s args own z.toNat y host bytes maxL none ws rm kc.1 kc.2 (k - 1) ∧ y.name = "<init>" ∧ (Cond.instanceMethod y).before args s = true) ∧ decode cc pc = .ok (.invokespecial z.toNat, 3))) : (am_Xs p l e R s m args below meth c0 Qs D cl kA ft A ad0 n0 mc ms nL) pc L S u b c := by
  refine as_core (k := k) (kc := kc) cx ⟨hcond.1, hcond.2.1, hcond.2.2.2.2⟩ ?_
  obtain ⟨hx, hb, hml, hown, hts, hA, hAm, hnm, hfr, hlo, hmc, hms, hcl, hxs⟩ := cx
  intro ad H locs cells slots ls hl hR
  have h9 := am_h8_of ad hcond.2.2.2.1
  have hpre := am_pre (As := (S.take k).reverse) hnw hA hAm hR
  have hlenk : (S.take k).reverse.length = k := by rw [List.length_reverse, List.length_take]; omega
  have hlen : (As.map (am_cv ad)).length = k - 1 := by rw [hAs] at hlenk; rw [List.length_map]; simp at hlenk; omega
  have hcs : cells + kc.1 ≤ R.cells ∧ slots + kc.2 ≤ R.slots := ⟨by have := hR.2.2.2.1; omega, by have := hR.2.2.2.2.1; omega⟩
  have hst : S.map (am_cv ad) = (As.map (am_cv ad)).reverse ++ .ref (ad a) :: (S.drop k).map (am_cv ad) := by
    have := am_stk (S := S) (ad := ad) (k := k)
    rw [hAs] at this
    rw [this]
    simp [am_cv]
  have he := am_wl_at (kA := kA) (ft := ft) (ad := ad) hu
  rw [hAs] at hpre hM
  rcases cw with ⟨cw, hdg⟩ | ⟨rfl, cw | ⟨host, cw⟩, hdg⟩
  · exact ⟨_, va_runV (As := As.map (am_cv ad)) (b := ad a) (rest := (S.drop k).map (am_cv ad)) (g := F0 m pc ls (S.map (am_cv ad))) ⟨hx, hb, hml, hown, hts⟩ (hM ad H.size) cw ⟨am_blind hnw _ _ _ _, va_recv hAm.1 hR.1 (ci := rc) (q0 := a) hc he, hpre⟩ rfl hlen hl.1 hst (lv_room h9) hdg hcs⟩
  · exact ⟨_, va_runI (As := As.map (am_cv ad)) (b := ad a) (rest := (S.drop k).map (am_cv ad)) (g := F0 m pc ls (S.map (am_cv ad))) ⟨hx, hb, hml, hown, hts⟩ (hM ad H.size) cw ⟨am_blind hnw _ _ _ _, hpre⟩ rfl hlen hl.1 hst (lv_room h9) hdg hcs⟩
  · exact ⟨_, va_runIN (As := As.map (am_cv ad)) (b := ad a) (rest := (S.drop k).map (am_cv ad)) (g := F0 m pc ls (S.map (am_cv ad))) ⟨hx, hb, hml, hown, hts⟩ (hM ad H.size) cw ⟨am_blind hnw _ _ _ _, hpre⟩ rfl hlen hl.1 hst (lv_room h9) hdg hcs⟩
end SIM3
