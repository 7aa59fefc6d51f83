/-! A METHOD'S MEANING ON THE SMALL MACHINE IS ITS CONTRACT ON THE BIG ONE -/
theorem am_la_len (ad : Nat → Nat) : ∀ As : List Value, (lg_sl (As.map (am_cv ad))).length = (am_la As).length
  | [] => rfl
  | v :: r => by
    have ih := am_la_len ad r
    unfold lg_sl at ih ⊢
    rw [List.map_cons, List.flatMap_cons, List.length_append, ih, am_cv_cat, am_la]
    split <;> simp <;> omega
theorem am_la_in (ad : Nat → Nat) : ∀ (As : List Value) (k i : Nat) (v : Value), am_ld (am_la As) i = some v → (k + i, am_cv ad v) ∈ lv_args k (As.map (am_cv ad))
  | [], k, i, v, h => by simp [am_la, am_ld] at h
  | w :: r, k, i, v, h => by
    rw [List.map_cons, lv_args, am_cv_cat]
    rw [am_la] at h
    by_cases hw : w.category = 2
    · rw [if_pos hw] at h
      rw [if_pos hw]
      match i, h with
      | 0, h =>
        rw [am_ld_0] at h
        cases h
        exact List.mem_cons_self
      | 1, h => rw [am_ld_s, am_ld_0] at h; cases h
      | i + 2, h =>
        rw [am_ld_s, am_ld_s] at h
        have := am_la_in ad r (k + 2) i v h
        rw [show k + (i + 2) = k + 2 + i by omega]
        exact List.mem_cons_of_mem _ this
    · rw [if_neg hw] at h
      rw [if_neg hw]
      match i, h with
      | 0, h =>
        rw [am_ld_0] at h
        cases h
        exact List.mem_cons_self
      | i + 1, h =>
        rw [am_ld_s] at h
        have := am_la_in ad r (k + 1) i v h
        rw [show k + (i + 1) = k + 1 + i by omega]
        exact List.mem_cons_of_mem _ this
theorem am_lo_ld {n i : Nat} {As : List Value} {v : Value} (h : am_ld (am_lo n As) i = some v) : am_ld (am_la As) i = some v := by
  unfold am_ld am_lo at *
  by_cases hi : i < (am_la As).length
  · rw [List.getElem?_append_left hi] at h
    exact h
  · rw [List.getElem?_append_right (by omega)] at h
    rw [List.getElem?_replicate] at h
    split at h <;> cases h
theorem am_entry {ad : Nat → Nat} {As : List Value} {n : Nat} (h : (am_la As).length ≤ n) : lv_has ((lg_sl (As.map (am_cv ad)) ++ List.replicate (n - (lg_sl (As.map (am_cv ad))).length) Slot.unset).toArray) n (am_kn ad (am_lo n As)) := by
  have hl := lv_entry (As.map (am_cv ad)) (n := n) (by rw [am_la_len]; exact h)
  refine am_has_mem hl fun q hq => ?_
  obtain ⟨v, h1, h2⟩ := am_kn_of hq
  have h3 := am_la_in ad As 0 q.1 v (am_lo_ld h1)
  rw [Nat.zero_add] at h3
  rw [show q = (q.1, am_cv ad v) from Prod.ext rfl h2]
  exact h3
set_option maxHeartbeats 4000000 in
set_option maxRecDepth 100000 in
theorem ax_met {l : Launch} {D : va_G} {kA : Nat → ClassId} {d : Nat} {C : am_C} {xl : Nat} {xs : Nat → Int32} (hC : ax_snd l D kA d C) : ax_snd l D kA (d + 1) (fun y As u P => (am_la As).length ≤ ax_ml y ∧ am_wp (ax_E xl xs) (ax_cd y) C P 0 (am_lo (ax_ml y) As) [] u (ax_kc y).1 (ax_kc y).2) := by
  intro y As u P hy hwp ad sz
  obtain ⟨hlen0, hwp⟩ := hwp
  refine Met.ofW (cc := ax_by y) (maxL := ax_ml y) (ret := ax_rt y) (ax_plain y hy) rfl ?_
  intro p e s m args below meth c0 s₁ B hml hv
  obtain ⟨rfl, hsz, hP, hD0, hAm, hlen⟩ := hv
  have hx := B.exec
  have hb := B.bytes
  have hr := B.returns
  have hts := atoms_spec (ws := ax_ws y) B.pre
  have hown : s.vm.findClass (ax_nm y).cls = some m.cls := findClass_of_methodNamed B.named
  have hlocks := B.notSynchronized
  have hnm : meth.name = (ax_nm y).name := (name_of_methodNamed B.named B.method).1
  subst hsz
  have hD := hD0.self (sz := s.heap.size)
  generalize hAe : va_A (am_wl kA ax_ft ad u) s.heap.size = A at hD hAm ⊢
  have hA : ∀ q, s.heap.size ≤ q → A q := fun q h => by rw [← hAe]; exact Or.inr h
  have cx : am_Cx p (headSpec (ax_ws y) (ax_rm (d + 1) y)).room s m (As.map (am_cv ad)).toArray meth c0 D ax_cl kA ax_ft A ad (ax_kc y).1 (ax_kc y).2 (ax_ml y) (ax_by y) (ax_nm y).cls (ax_ws y) ax_nw (ax_nm y).name ax_sc ax_ns ax_sn ax_sv false xl xs :=
    ⟨hx, hb, hml, hown, hts, hA, hAm, hnm, by show 1 ≤ d + 1; omega, by show 40 ≤ 40 * (d + 1); omega, Nat.le_refl _, Nat.le_refl _, ax_clok0 (ax_ws y) (fun w h => List.mem_cons_of_mem _ h), fun h => by cases h⟩
  rw [lg_entry_eq]
  have hl := am_entry (ad := ad) (n := ax_ml y) hlen0
  refine hwp (am_Xs p l e (headSpec (ax_ws y) (ax_rm (d + 1) y)).room s m (As.map (am_cv ad)).toArray below meth c0 (MQ below (am_Qc D ax_cl kA ax_ft P u ad s.heap.size (ax_kc y).1) (As.map (am_cv ad)).toArray s (ax_kc y).1 (ax_kc y).2 A) D ax_cl kA ax_ft A ad u.1.length (ax_kc y).1 (ax_kc y).2 (ax_ml y)) ?_ ad s.heap [] 0 0 _ hl ⟨hP, hD, va_S.rf, by omega, by omega, Nat.le_refl _, hlen, fun _ _ => rfl, fun _ => rfl⟩
  intro pc L S u' b c hF
  unfold am_F at hF
  split at hF
  · rename_i I hI
    refine ax_step (y := y) (d := d) cx (fun w h => List.mem_cons_of_mem _ h) (fun h => h) (fun h => absurd h (Nat.ne_of_lt hy)) (Nat.le_refl _) (Nat.le_refl _) hC ?_ (ax_cdok y pc I (Nat.le_of_lt hy) hI) hF
    intro r u2 b2 c2 pc2 ad2 H locs cells slots ls hq hR hrk
    obtain ⟨hP2, hD2, hS2, r1, r2, r3, r4, r5, r6⟩ := hR
    have hpost : ∀ t : State, t.heap = H → s.WarmedH t.vm → am_Qc D ax_cl kA ax_ft P u ad s.heap.size (ax_kc y).1 (As.map (am_cv ad)).toArray s (.returned (r.map (am_cv ad2))) t := by
      intro t ht hW
      rw [am_Qc, hAe]
      exact ⟨⟨r, u2, ad2, rfl, hq, r3, r4, r5, r6, by rw [ht]; exact hP2, hD2⟩, hS2.F ht⟩
    refine W.widen (k := (ax_kc y).1) (n := (ax_kc y).2) (by omega) (by omega) ?_
    rcases hrk with ⟨rfl, h1, h2⟩ | ⟨v, rfl, h1, h2⟩ | ⟨a, rfl, h1, h2⟩ | ⟨v, rfl, h1, h2⟩
    · exact W.vret hx hb (hr.trans h2) hpost hS2.2.2 h1 hlocks
    · rcases h2 with h2 | ⟨h2, h3⟩
      · exact W.iret hx hb (hr.trans h2) hpost hS2.2.2 h1 hlocks
      · exact W.zret hx hb (hr.trans h2) (am_nar_z h3).1 hpost hS2.2.2 h1 hlocks
    · exact W.aret hx hb (hr.trans h2) (Or.inr ⟨_, rfl⟩) (Or.inr ⟨_, rfl⟩) hpost hS2.2.2 h1 hlocks
    · exact W.lret hx hb (hr.trans h2) hpost hS2.2.2 h1 hlocks
  · exact hF.elim
/-- every method, calls at most d deep -/
theorem ax_all {l : Launch} {D : va_G} {kA : Nat → ClassId} {xl : Nat} {xs : Nat → Int32} : ∀ d, ax_snd l D kA d (am_sp (ax_E xl xs) ax_cd ax_ml d)
  | 0 => fun _ _ _ _ _ h => h.elim
  | d + 1 => ax_met (ax_all d)
