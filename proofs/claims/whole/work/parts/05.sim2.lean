/-! NEW CELLS, CALLS, ENDS -/
theorem am_cv_ag {ad ad' : Nat → Nat} {n : Nat} (hag : ∀ a, am_vr n a = true → ad' a = ad a) {v : Value} (h : am_vv n v = true) : am_cv ad' v = am_cv ad v := by
  cases v <;> first | rfl | exact congrArg Value.ref (hag _ h)
theorem am_S_ag {ad ad' : Nat → Nat} {n : Nat} (hag : ∀ a, am_vr n a = true → ad' a = ad a) {S : List Value} (h : S.all (am_vv n) = true) : S.map (am_cv ad') = S.map (am_cv ad) :=
  List.map_congr_left fun v hv => am_cv_ag hag (List.all_eq_true.mp h v hv)
theorem am_kn_ag {ad ad' : Nat → Nat} {n : Nat} (hag : ∀ a, am_vr n a = true → ad' a = ad a) {L : List (Option Value)} (h : L.all (am_vo n) = true) : am_kn ad' L = am_kn ad L := by
  unfold am_kn
  refine congrArg (fun f => List.filterMap f (List.range L.length)) (funext fun i => ?_)
  cases hv : am_ld L i with
  | none => rfl
  | some v =>
    have hm : (some v) ∈ L := by
      unfold am_ld at hv
      cases ho : L[i]? with
      | none => rw [ho] at hv; cases hv
      | some w =>
        rw [ho] at hv
        have : w = some v := hv
        subst this
        exact List.mem_of_getElem? ho
    have := List.all_eq_true.mp h _ hm
    simp only [Option.map_some]
    rw [am_cv_ag hag this]
theorem am_rg_ag {ad ad' : Nat → Nat} {n : Nat} (hag : ∀ a, am_vr n a = true → ad' a = ad a) {rs : List (Option Nat)} (h : rs.all (am_vn n) = true) (j : Nat) : (am_rg rs j).map ad' = (am_rg rs j).map ad := by
  cases hv : am_rg rs j with
  | none => rfl
  | some a =>
    have hm : (some a) ∈ rs := by
      unfold am_rg at hv
      cases ho : rs[j]? with
      | none => rw [ho] at hv; cases hv
      | some w =>
        rw [ho] at hv
        have : w = some a := hv
        subst this
        exact List.mem_of_getElem? ho
    have h2 := List.all_eq_true.mp h _ hm
    simp only [Option.map_some]
    rw [hag a (by unfold am_vr; rw [show Nat.blt a n = true from h2]; rfl)]
theorem am_en_ag {kA : Nat → ClassId} {ft : Nat → Nat → Bool} {ad ad' : Nat → Nat} {n : Nat} (hag : ∀ a, am_vr n a = true → ad' a = ad a) {f : Nat → Int32} {e : Nat × Nat × List (Option Nat)} (h : e.2.2.all (am_vn n) = true) : am_en kA ft ad' f e = am_en kA ft ad f e := by
  obtain ⟨t, k, rs⟩ := e
  match t with
  | 0 => rfl
  | 1 => rfl
  | 2 =>
    show (Sum.inl (kA 2, k, Sum.inr (Sum.inr (Sum.inr (Sum.inr (fun j => (am_rg rs j).map ad'))))) : va_E) = Sum.inl (kA 2, k, Sum.inr (Sum.inr (Sum.inr (Sum.inr (fun j => (am_rg rs j).map ad)))))
    rw [show (fun j => (am_rg rs j).map ad') = fun j => (am_rg rs j).map ad from funext fun j => am_rg_ag hag h j]
  | t + 3 =>
    show (Sum.inr (t, (List.range k).map (am_fl ft ad' f rs t)) : va_E) = Sum.inr (t, (List.range k).map (am_fl ft ad f rs t))
    rw [show am_fl ft ad' f rs t = am_fl ft ad f rs t from funext fun j => by unfold am_fl; rw [am_rg_ag hag h j]]
theorem am_wl_ag {kA : Nat → ClassId} {ft : Nat → Nat → Bool} {ad ad' : Nat → Nat} {u : am_St} (hag : ∀ a, am_vr u.1.length a = true → ad' a = ad a) (h : u.1.all (fun e => e.2.2.all (am_vn u.1.length)) = true) : am_wl kA ft ad' u = am_wl kA ft ad u := by
  unfold am_wl
  refine List.map_congr_left fun q hq => ?_
  have hl : q < u.1.length := List.mem_range.mp hq
  rw [List.getElem?_eq_getElem hl, Option.getD_some, am_en_ag hag (List.all_eq_true.mp h _ (List.getElem_mem hl)), hag q (by unfold am_vr; rw [show Nat.blt q u.1.length = true from Nat.le_of_lt_succ (Nat.succ_lt_succ hl) |> Nat.ble_eq_true_of_le]; rfl)]
theorem am_wl_app (kA : Nat → ClassId) (ft : Nat → Nat → Bool) (ad : Nat → Nat) (u : am_St) (es : am_Sh) : am_wl kA ft ad (u.1 ++ es, am_zr u.2 u.1.length es.length) = am_wl kA ft ad u ++ (List.range es.length).map fun q => (ad (u.1.length + q), am_en kA ft ad (fun _ => 0) ((es[q]?).getD (0, 0, []))) := by
  unfold am_wl
  rw [show (u.1 ++ es, am_zr u.2 u.1.length es.length).1.length = u.1.length + es.length from List.length_append, List.range_add, List.map_append, List.map_map]
  congr 1
  · refine List.map_congr_left fun q hq => ?_
    have hl : q < u.1.length := List.mem_range.mp hq
    show (ad q, am_en kA ft ad (am_zr u.2 u.1.length es.length q) (((u.1 ++ es)[q]?).getD (0, 0, []))) = _
    rw [List.getElem?_append_left hl]
    simp [am_zr, show ¬ u.1.length ≤ q by omega]
  · refine List.map_congr_left fun q hq => ?_
    have hl : q < es.length := List.mem_range.mp hq
    show (ad (u.1.length + q), am_en kA ft ad (am_zr u.2 u.1.length es.length (u.1.length + q)) (((u.1 ++ es)[u.1.length + q]?).getD (0, 0, []))) = _
    rw [List.getElem?_append_right (Nat.le_add_right _ _), Nat.add_sub_cancel_left]
    simp [am_zr, hl]
theorem am_val_of {sh : am_Sh} {L : List (Option Value)} {S : List Value} (h : am_val sh L S = true) : S.all (am_vv sh.length) = true ∧ L.all (am_vo sh.length) = true ∧ sh.all (fun e => e.2.2.all (am_vn sh.length)) = true := by
  unfold am_val at h
  rw [Bool.and_eq_true, Bool.and_eq_true] at h
  exact h
theorem am_vr_of {n a : Nat} (h : am_vr n a = true) : a < n ∨ am_sb ≤ a := by
  unfold am_vr at h
  rw [Bool.or_eq_true] at h
  rcases h with h | h
  · exact Or.inl (Nat.le_of_ble_eq_true h)
  · exact Or.inr (Nat.le_of_ble_eq_true h)
section SIM2
variable {p : Program} {l : Launch} {e : Env} {R : Room} {s : State} {m : MethodId} {args : Array Value} {below : List Frame} {meth : Method} {c0 : Code} {Qs : State → Prop} {D : va_G} {cl : List vw_C} {kA : Nat → ClassId} {ft : Nat → Nat → Bool} {A : Nat → Prop} {ad0 : Nat → Nat} {n0 mc ms nL : Nat} {cc : ByteArray} {own : String} {Ts nw : List Cond} {nm : String} {sc : Nat → String × String} {ns : Nat} {sn : Nat → Nat} {sv : Nat → Nat → Int32} {lg : Bool} {xl : Nat} {xs : Nat → Int32}
variable {pc nx i j : Nat} {z : Int} {L : List (Option Value)} {S : List Value} {u : am_St} {b c : Nat}
theorem as_new (cx : am_Cx p R s m args meth c0 D cl kA ft A ad0 mc ms nL cc own Ts nw nm sc ns sn sv lg xl xs) (C : String) (T : u_T) (N : Nat) (hc : cl[i]? = some (C, T, N)) (hjN : j = N) (w1 : Cond.classLink own z.toNat C ∈ Ts) (w2 : Cond.instantiable C N ∈ Ts) (w3 : Cond.initialized C ∈ Ts) (hck : decode cc pc = .ok (.new z.toNat, 3) ∧ nx = pc + 3) (hF : ao_new i j nx (am_Xs p l e R s m args below meth c0 Qs D cl kA ft A ad0 n0 mc ms nL) L S u b c) : (am_Xs p l e R s m args below meth c0 Qs D cl kA ft A ad0 n0 mc ms nL) pc L S u b c := by
  obtain ⟨hx, hb, hml, hown, hts, hA, hAm, hnm, hfr, hlo, hmc, hms, hcl, hxs⟩ := cx
  subst hjN
  unfold ao_new at hF
  split at hF
  · rename_i hq
    obtain ⟨hb1, hc1, hsb, hval⟩ := hq
    obtain ⟨hvS, hvL, hvu⟩ := am_val_of hval
    obtain ⟨h1, rfl⟩ := hck
    obtain ⟨hcw, ty, hty, hnms, hrf⟩ := hcl i _ hc
    intro ad H locs cells slots ls hl hR
    obtain ⟨hP, hD, hS, r1, r2, r3, r4, r5, r6⟩ := hR
    have hfs : ∀ k, k < j → defaultValue (ty k) = vp_V ((List.range j).map (am_fl ft ad (fun _ => 0) (List.replicate j none) i)) k := by
      intro k hk
      have hg : am_rg (List.replicate j none) k = none := by unfold am_rg; rw [List.getElem?_replicate_of_lt hk]; rfl
      unfold vp_V
      rw [List.getD_eq_getElem?_getD, am_fl_get hk]
      show _ = am_fl ft ad (fun _ => 0) (List.replicate j none) i k
      unfold am_fl
      rw [hg]
      cases hf : ft i k with
      | true => rcases (hrf k hk).1 hf with ⟨C9, e9⟩ | ⟨f9, e9⟩ <;> rw [e9] <;> rfl
      | false => rcases (hrf k hk).2 hf with e9 | e9 <;> rw [e9] <;> rfl
    refine va_new (ci := i) (fs := (List.range j).map (am_fl ft ad (fun _ => 0) (List.replicate j none) i)) (C := C) (T := T) (N := j) hx hb hts hcw ty hty hown (hts _ w1) (hts _ w2) (hts _ w3) hAm.1 hP hD hS hA hc hfs (by omega) (by omega) h1 (fun q H1 hP1 hD1 hS1 => ?_)
    have hag : ∀ a, am_vr u.1.length a = true → (fun k => if k = u.1.length then q else ad k) a = ad a := fun a ha => by
      have := am_vr_of ha
      exact if_neg (by omega)
    have hw : am_wl kA ft ad u ++ [(q, .inr (i, (List.range j).map (am_fl ft ad (fun _ => 0) (List.replicate j none) i)))] = am_wl kA ft (fun k => if k = u.1.length then q else ad k) (u.1 ++ [(i + 3, j, List.replicate j none)], am_zr u.2 u.1.length 1) := by
      have h9 := am_wl_app kA ft (fun k => if k = u.1.length then q else ad k) u [(i + 3, j, List.replicate j none)]
      rw [am_wl_ag hag hvu] at h9
      refine Eq.trans ?_ h9.symm
      congr 1
      show [(q, _)] = [(if u.1.length + 0 = u.1.length then q else _, _)]
      rw [if_pos (Nat.add_zero _)]
      have := am_en_ag (kA := kA) (ft := ft) (f := fun _ => 0) hag (e := (i + 3, j, List.replicate j none)) (by rw [List.all_eq_true]; intro x hx9; rw [(List.mem_replicate.mp hx9).2]; rfl)
      exact congrArg (fun w => [(q, w)]) this.symm
    rw [hw] at hP1 hD1
    have h := hF (fun k => if k = u.1.length then q else ad k) H1 locs (cells + 1) (slots + j) ls (by rw [am_kn_ag hag hvL]; exact hl) ⟨hP1, hD1, hS1, by omega, by omega, by simp; omega, by simp; omega, fun k hk => by rw [← r5 k hk]; exact if_neg (by omega), fun h0 => by omega⟩
    have e1 : (Value.ref u.1.length :: S).map (am_cv (fun k => if k = u.1.length then q else ad k)) = .ref q :: S.map (am_cv ad) := by
      rw [List.map_cons, am_S_ag hag hvS]
      show Value.ref (if u.1.length = u.1.length then q else _) :: _ = _
      rw [if_pos rfl]
    rw [e1] at h
    exact h
  · exact hF.elim
theorem as_newi (cx : am_Cx p R s m args meth c0 D cl kA ft A ad0 mc ms nL cc own Ts nw nm sc ns sn sv lg xl xs) (w1 : Cond.arrayClass .int ∈ Ts) (hck : decode cc pc = .ok (.newarray .int, 2) ∧ nx = pc + 2) (hF : ao_newa 0 j nx (am_Xs p l e R s m args below meth c0 Qs D cl kA ft A ad0 n0 mc ms nL) L S u b c) : (am_Xs p l e R s m args below meth c0 Qs D cl kA ft A ad0 n0 mc ms nL) pc L S u b c := by
  obtain ⟨hx, hb, hml, hown, hts, hA, hAm, hnm, hfr, hlo, hmc, hms, hcl, hxs⟩ := cx
  unfold ao_newa at hF
  split at hF
  · rename_i x S
    split at hF
    · rename_i hq
      obtain ⟨hxe, hj, hb1, hc1, hsb, hval⟩ := hq
      obtain ⟨hvS, hvL, hvu⟩ := am_val_of hval
      obtain ⟨h1, rfl⟩ := hck
      intro ad H locs cells slots ls hl hR
      obtain ⟨hP, hD, hS, r1, r2, r3, r4, r5, r6⟩ := hR
      have hx0 : ¬ x < 0 := by rw [hxe]; exact nI_pos (by omega)
      have hxn : x.toNatClampNeg = j := by rw [hxe]; exact nI_clamp (by omega)
      have hby : j * componentBytes .int ≤ 536870912 := Nat.le_trans (Nat.mul_le_mul_left j (show componentBytes .int ≤ 8 by decide)) (by omega)
      refine va_newa (atype := .int) (ty := .int) (a0 := (j, .inl (fun _ => 0))) hx hb (hts _ w1) rfl hAm.1 hP hD hS hA (fun cA => rfl) hx0 hxn hby (by omega) (by omega) h1 (fun q cA H1 hK1 hP1 hD1 hS1 => ?_)
      have hcA : cA = kA 0 := by
        have g1 : va_RA s cA .int := (hK1.2 3 (cA, .int) rfl).2
        have g2 : va_RA s (kA 0) .int := (hAm.1.2 0 (kA 0, .int) rfl).2
        exact Option.some.inj (g1.symm.trans g2)
      subst hcA
      have hag : ∀ a, am_vr u.1.length a = true → (fun k => if k = u.1.length then q else ad k) a = ad a := fun a ha => by
        have := am_vr_of ha
        exact if_neg (by omega)
      have hw : am_wl kA ft ad u ++ [(q, .inl (kA 0, j, .inl (fun _ => 0)))] = am_wl kA ft (fun k => if k = u.1.length then q else ad k) (u.1 ++ [(0, j, [])], am_zr u.2 u.1.length 1) := by
        have h9 := am_wl_app kA ft (fun k => if k = u.1.length then q else ad k) u [(0, j, [])]
        rw [am_wl_ag hag hvu] at h9
        refine Eq.trans ?_ h9.symm
        congr 1
        show [(q, _)] = [(if u.1.length + 0 = u.1.length then q else _, _)]
        rw [if_pos (Nat.add_zero _)]
        rfl
      rw [hw] at hP1 hD1
      have h := hF (fun k => if k = u.1.length then q else ad k) H1 locs (cells + 1) (slots + j) ls (by rw [am_kn_ag hag hvL]; exact hl) ⟨hP1, hD1, hS1, by omega, by omega, by simp; omega, by simp; omega, fun k hk => by rw [← r5 k hk]; exact if_neg (by omega), fun h0 => by omega⟩
      have e1 : (Value.ref u.1.length :: S).map (am_cv (fun k => if k = u.1.length then q else ad k)) = .ref q :: S.map (am_cv ad) := by
        rw [List.map_cons, am_S_ag hag hvS]
        show Value.ref (if u.1.length = u.1.length then q else _) :: _ = _
        rw [if_pos rfl]
      rw [e1] at h
      exact h
    · exact hF.elim
  · exact hF.elim
theorem as_newz (cx : am_Cx p R s m args meth c0 D cl kA ft A ad0 mc ms nL cc own Ts nw nm sc ns sn sv lg xl xs) (w1 : Cond.arrayClass .boolean ∈ Ts) (hck : decode cc pc = .ok (.newarray .boolean, 2) ∧ nx = pc + 2) (hF : ao_newa 1 j nx (am_Xs p l e R s m args below meth c0 Qs D cl kA ft A ad0 n0 mc ms nL) L S u b c) : (am_Xs p l e R s m args below meth c0 Qs D cl kA ft A ad0 n0 mc ms nL) pc L S u b c := by
  obtain ⟨hx, hb, hml, hown, hts, hA, hAm, hnm, hfr, hlo, hmc, hms, hcl, hxs⟩ := cx
  unfold ao_newa at hF
  split at hF
  · rename_i x S
    split at hF
    · rename_i hq
      obtain ⟨hxe, hj, hb1, hc1, hsb, hval⟩ := hq
      obtain ⟨hvS, hvL, hvu⟩ := am_val_of hval
      obtain ⟨h1, rfl⟩ := hck
      intro ad H locs cells slots ls hl hR
      obtain ⟨hP, hD, hS, r1, r2, r3, r4, r5, r6⟩ := hR
      have hx0 : ¬ x < 0 := by rw [hxe]; exact nI_pos (by omega)
      have hxn : x.toNatClampNeg = j := by rw [hxe]; exact nI_clamp (by omega)
      have hby : j * componentBytes .boolean ≤ 536870912 := Nat.le_trans (Nat.mul_le_mul_left j (show componentBytes .boolean ≤ 8 by decide)) (by omega)
      refine va_newa (atype := .boolean) (ty := .boolean) (a0 := (j, .inl (fun _ => 0))) hx hb (hts _ w1) rfl hAm.1 hP hD hS hA (fun cA => rfl) hx0 hxn hby (by omega) (by omega) h1 (fun q cA H1 hK1 hP1 hD1 hS1 => ?_)
      have hcA : cA = kA 1 := by
        have g1 : va_RA s cA .boolean := (hK1.2 3 (cA, .boolean) rfl).2
        have g2 : va_RA s (kA 1) .boolean := (hAm.1.2 1 (kA 1, .boolean) rfl).2
        exact Option.some.inj (g1.symm.trans g2)
      subst hcA
      have hag : ∀ a, am_vr u.1.length a = true → (fun k => if k = u.1.length then q else ad k) a = ad a := fun a ha => by
        have := am_vr_of ha
        exact if_neg (by omega)
      have hw : am_wl kA ft ad u ++ [(q, .inl (kA 1, j, .inl (fun _ => 0)))] = am_wl kA ft (fun k => if k = u.1.length then q else ad k) (u.1 ++ [(1, j, [])], am_zr u.2 u.1.length 1) := by
        have h9 := am_wl_app kA ft (fun k => if k = u.1.length then q else ad k) u [(1, j, [])]
        rw [am_wl_ag hag hvu] at h9
        refine Eq.trans ?_ h9.symm
        congr 1
        show [(q, _)] = [(if u.1.length + 0 = u.1.length then q else _, _)]
        rw [if_pos (Nat.add_zero _)]
        rfl
      rw [hw] at hP1 hD1
      have h := hF (fun k => if k = u.1.length then q else ad k) H1 locs (cells + 1) (slots + j) ls (by rw [am_kn_ag hag hvL]; exact hl) ⟨hP1, hD1, hS1, by omega, by omega, by simp; omega, by simp; omega, fun k hk => by rw [← r5 k hk]; exact if_neg (by omega), fun h0 => by omega⟩
      have e1 : (Value.ref u.1.length :: S).map (am_cv (fun k => if k = u.1.length then q else ad k)) = .ref q :: S.map (am_cv ad) := by
        rw [List.map_cons, am_S_ag hag hvS]
        show Value.ref (if u.1.length = u.1.length then q else _) :: _ = _
        rw [if_pos rfl]
      rw [e1] at h
      exact h
    · exact hF.elim
  · exact hF.elim
theorem as_newg (cx : am_Cx p R s m args meth c0 D cl kA ft A ad0 mc ms nL cc own Ts nw nm sc ns sn sv lg xl xs) (w1 : Cond.classLink own z.toNat ("[" ++ (FieldType.array .int).toString) ∈ Ts) (w2 : Cond.arrayClass .int ∈ Ts) (hck : decode cc pc = .ok (.multianewarray z.toNat 2, 4) ∧ nx = pc + 4) (hF : ao_newg i j nx (am_Xs p l e R s m args below meth c0 Qs D cl kA ft A ad0 n0 mc ms nL) L S u b c) : (am_Xs p l e R s m args below meth c0 Qs D cl kA ft A ad0 n0 mc ms nL) pc L S u b c := by
  obtain ⟨hx, hb, hml, hown, hts, hA, hAm, hnm, hfr, hlo, hmc, hms, hcl, hxs⟩ := cx
  unfold ao_newg at hF
  split at hF
  · rename_i y x S
    split at hF
    · rename_i hq
      obtain ⟨hxe, hye, hi, hj, hb1, hc1, hsb, hval⟩ := hq
      obtain ⟨hvS, hvL, hvu⟩ := am_val_of hval
      obtain ⟨h1, rfl⟩ := hck
      intro ad H locs cells slots ls hl hR
      obtain ⟨hP, hD, hS, r1, r2, r3, r4, r5, r6⟩ := hR
      have hx0 : ¬ x < 0 := by rw [hxe]; exact nI_pos (by omega)
      have hxn : x.toNatClampNeg = i := by rw [hxe]; exact nI_clamp (by omega)
      have hy0 : ¬ y < 0 := by rw [hye]; exact nI_pos (by omega)
      have hyn : y.toNatClampNeg = j := by rw [hye]; exact nI_clamp (by omega)
      have hcy : s.vm.findClass (FieldType.array .int).toString = some (kA 0) := (hAm.1.2 0 (kA 0, .int) rfl).2
      have hby : j * componentBytes .int ≤ 536870912 := Nat.le_trans (Nat.mul_le_mul_left j (show componentBytes .int ≤ 8 by decide)) (by omega)
      refine va_mna (X := am_wl kA ft ad u) (L := []) (f := fun _ => .inl (kA 0, 0, .inl (fun _ => 0))) (ty := .int) (cy := kA 0) (z := (j, .inl (fun _ => 0))) hx hb hown (hts _ w1) hAm.2.2.1 (hts _ w2) hcy hAm.1 (by rw [show va_pl [] _ = ([] : va_W) from rfl, List.append_nil]; exact hP) (by rw [show va_pl [] _ = ([] : va_W) from rfl, List.append_nil]; exact hD) hS hA hx0 hy0 hxn hyn (by omega) hby (by omega) (by decide) (by decide) (by omega) (by omega) (fun cA => by first | rfl | (rw [vp_cell_i, ← arrV_new]; rfl)) h1 (fun q r cA H1 hinj hnl hK1 hP1 hD1 hS1 => ?_)
      have hcA : cA = kA 2 := by
        have g1 : va_RA s cA (.array .int) := (hK1.2 3 (cA, .array .int) rfl).2
        have g2 : va_RA s (kA 2) (.array .int) := (hAm.1.2 2 (kA 2, .array .int) rfl).2
        exact Option.some.inj (g1.symm.trans g2)
      subst hcA
      generalize hade : (fun k => if k = u.1.length then q else if u.1.length < k ∧ k ≤ u.1.length + i then r (k - u.1.length - 1) else ad k) = ad'
      have had : ∀ k, ad' k = if k = u.1.length then q else if u.1.length < k ∧ k ≤ u.1.length + i then r (k - u.1.length - 1) else ad k := fun k => by rw [← hade]
      have hag : ∀ a, am_vr u.1.length a = true → ad' a = ad a := fun a ha => by
        have := am_vr_of ha
        rw [had, if_neg (by omega), if_neg (by omega)]
      have hw : (am_wl kA ft ad u ++ [(q, .inl (kA 2, i, .inr (.inr (.inr (.inr (fun k => if k < i then some (r k) else none))))))]) ++ va_pl ([] ++ (List.range i).map r) (vr_up (fun _ => .inl (kA 0, 0, .inl (fun _ => 0))) ((List.range i).map r) (.inl (kA 0, j, .inl (fun _ => 0)))) = am_wl kA ft ad' (u.1 ++ (2, i, (List.range i).map fun k => some (u.1.length + 1 + k)) :: List.replicate i (0, j, []), am_zr u.2 u.1.length (1 + i)) := by
        have h9 := am_wl_app kA ft ad' u ((2, i, (List.range i).map fun k => some (u.1.length + 1 + k)) :: List.replicate i (0, j, []))
        rw [am_wl_ag hag hvu, show ((2, i, (List.range i).map fun k => some (u.1.length + 1 + k)) :: List.replicate i (0, j, []) : am_Sh).length = 1 + i by simp; omega] at h9
        refine Eq.trans ?_ h9.symm
        rw [List.append_assoc]
        congr 1
        rw [List.range_add, List.map_append, List.map_map]
        congr 1
        · show [(q, _)] = [(ad' (u.1.length + 0), am_en kA ft ad' (fun _ => 0) (2, i, (List.range i).map fun k => some (u.1.length + 1 + k)))]
          rw [had, if_pos (Nat.add_zero _)]
          unfold am_en
          refine congrArg (fun w => [(q, Sum.inl (kA 2, i, Sum.inr (Sum.inr (Sum.inr (Sum.inr w)))))]) (funext fun k => ?_)
          unfold am_rg
          by_cases hk : k < i
          · rw [if_pos hk, List.getElem?_map, List.getElem?_range hk]
            show some (r k) = some (ad' (u.1.length + 1 + k))
            rw [had, if_neg (by omega), if_pos (by omega), show u.1.length + 1 + k - u.1.length - 1 = k by omega]
          · rw [if_neg hk, List.getElem?_eq_none (by simp; omega)]
            rfl
        · unfold va_pl
          rw [List.nil_append, List.map_map]
          refine List.map_congr_left fun k hk => ?_
          have hk : k < i := List.mem_range.mp hk
          have e2 : ad' (u.1.length + (1 + k)) = r k := by rw [had, if_neg (by omega), if_pos (by omega), show u.1.length + (1 + k) - u.1.length - 1 = k by omega]
          have e3 : (((2, i, (List.range i).map fun k => some (u.1.length + 1 + k)) :: List.replicate i (0, j, []) : am_Sh)[1 + k]?).getD (0, 0, []) = (0, j, []) := by rw [Nat.add_comm 1 k, List.getElem?_cons_succ, List.getElem?_replicate_of_lt hk]; rfl
          simp only [Function.comp]
          rw [e2, e3, vr_up_in (List.mem_map.mpr ⟨k, List.mem_range.mpr hk, rfl⟩)]
          rfl
      rw [hw] at hP1 hD1
      have h := hF ad' H1 locs (cells + 1 + i) (slots + i + i * j) ls (by rw [am_kn_ag hag hvL]; exact hl) ⟨hP1, hD1, hS1, by omega, by omega, by simp; omega, by simp; omega, fun k hk => by rw [← r5 k hk, had, if_neg (by omega), if_neg (by omega)], fun h0 => by omega⟩
      have e1 : (Value.ref u.1.length :: S).map (am_cv ad') = .ref q :: S.map (am_cv ad) := by
        rw [List.map_cons, am_S_ag hag hvS]
        show Value.ref (ad' u.1.length) :: _ = _
        rw [had, if_pos rfl]
      rw [e1] at h
      exact h
    · exact hF.elim
  · exact hF.elim
end SIM2
