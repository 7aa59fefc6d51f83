theorem ax_good {Ts : List Cond} (hUT : ∀ w ∈ ax_U, w ∈ Ts) {i : Nat} (hi : i < ax_nM) : GoodIn Ts (ax_ws i) := by
  intro w hw
  rcases List.mem_cons.mp hw with rfl | hw
  · exact ⟨hUT _ (ax_codes i hi), ax_goodU _ (ax_codes i hi)⟩
  · exact ⟨hUT _ hw, ax_goodU w hw⟩
/-- what the calls of methods at most d deep are worth on the big machine -/
def ax_snd (l : Launch) (D : va_G) (kA : Nat → ClassId) (d : Nat) (C : am_C) : Prop := ∀ (y : Nat) (As : List Value) (u : am_St) (P : am_Q), y < ax_nM → C y As u P → ∀ (ad : Nat → Nat) (sz : Nat), Met l (ax_nm y) (ax_ws y) (ax_rm d y) (am_Pc D ax_cl kA ax_ft ax_nw ax_sc ax_ns ax_sn ax_sv As u ad sz) (am_Qc D ax_cl kA ax_ft P u ad sz (ax_kc y).1) (ax_kc y).1 (ax_kc y).2 (va_A (am_wl kA ax_ft ad u) sz)
/-- the end of a method: what is left to show there -/
def ax_rk (y pc : Nat) (r : Option Value) : Prop := (r = none ∧ decode (ax_by y) pc = .ok (.return_, 1) ∧ ax_rt y = none) ∨ (∃ v, r = some (.int v) ∧ decode (ax_by y) pc = .ok (.ireturn, 1) ∧ (ax_rt y = some .int ∨ (ax_rt y = some .boolean ∧ (v = 0 ∨ v = 1)))) ∨ (∃ a, r = some (.ref a) ∧ decode (ax_by y) pc = .ok (.areturn, 1) ∧ ax_rt y = some (.array .int)) ∨ (∃ v, r = some (.long v) ∧ decode (ax_by y) pc = .ok (.lreturn, 1) ∧ ax_rt y = some .long)
section MASTER
variable {p : Program} {l : Launch} {e : Env} {R : Room} {s : State} {m : MethodId} {args : Array Value} {below : List Frame} {meth : Method} {c0 : Code} {Qs : State → Prop} {D : va_G} {kA : Nat → ClassId} {A : Nat → Prop} {ad0 : Nat → Nat} {n0 mc ms : Nat} {lg : Bool} {xl : Nat} {xs : Nat → Int32} {y : Nat} {Ts : List Cond} {nmx : String}
variable {pc : Nat} {L : List (Option Value)} {S : List Value} {u : am_St} {b c : Nat}
set_option maxHeartbeats 8000000 in
set_option maxRecDepth 20000 in
theorem ax_step {d : Nat} {C : am_C} {Q : am_Q} {I : am_In} (cx : am_Cx p R s m args meth c0 D ax_cl kA ax_ft A ad0 mc ms (ax_ml y) (ax_by y) (ax_nm y).cls Ts ax_nw nmx ax_sc ax_ns ax_sn ax_sv lg xl xs) (hUT : ∀ w ∈ ax_U, w ∈ Ts) (hnx : (ax_nm y).name = "<init>" → nmx = "<init>") (hlg : y = ax_law → lg = true) (hR1 : d + 1 ≤ R.frames) (hR2 : 40 * (d + 1) ≤ R.locals) (hC : ax_snd l D kA d C)
    (hret : ∀ (r : Option Value) (u : am_St) (b c : Nat) (pc : Nat) (ad : Nat → Nat) (H : Heap) (locs : List Loc) (cells slots : Nat) (ls : Array Slot), Q r u → am_Rh D ax_cl kA ax_ft A s.heap ad0 n0 mc ms u b c ad H locs cells slots → ax_rk y pc r → W p l e R s m args below meth c0 H locs cells slots Qs (F0 m pc ls (r.map (am_cv ad)).toList))
    (hok : ax_ok y pc I = true) (hF : am_op (ax_E xl xs) C Q pc I (am_Xs p l e R s m args below meth c0 Qs D ax_cl kA ax_ft A ad0 n0 mc ms (ax_ml y)) L S u b c) : (am_Xs p l e R s m args below meth c0 Qs D ax_cl kA ax_ft A ad0 n0 mc ms (ax_ml y)) pc L S u b c := by
  have hU : ∀ w, ax_in w = true → w ∈ Ts := fun w h => hUT _ (ax_inU h)
  have hts : ∀ w ∈ Ts, w.before args s = true := cx.2.2.2.2.1
  obtain ⟨op, i, j, z, nx⟩ := I
  match op, hok, hF with
  | 0, hok, hF => exact as_push cx ((of_decide_eq_true hok).imp id (Or.imp id (Or.imp id (fun h => ⟨h.1, h.2.1, hU _ h.2.2.1, h.2.2.2⟩)))) hF
  | 1, hok, hF => exact as_iload cx (of_decide_eq_true hok) hF
  | 2, hok, hF => exact as_aload cx (of_decide_eq_true hok) hF
  | 3, hok, hF => exact as_lload cx (of_decide_eq_true hok) hF
  | 4, hok, hF => exact as_istore cx (of_decide_eq_true hok) hF
  | 5, hok, hF => exact as_astore cx (of_decide_eq_true hok) hF
  | 6, hok, hF => exact as_lstore cx (of_decide_eq_true hok) hF
  | 7, hok, hF => exact as_iinc cx (of_decide_eq_true hok) hF
  | 8, hok, hF => exact as_iadd cx (of_decide_eq_true hok) hF
  | 9, hok, hF => exact as_isub cx (of_decide_eq_true hok) hF
  | 10, hok, hF => exact as_imul cx (of_decide_eq_true hok) hF
  | 11, hok, hF => exact as_idiv cx (of_decide_eq_true hok) hF
  | 12, hok, hF => exact as_irem cx (of_decide_eq_true hok) hF
  | 13, hok, hF => exact as_iand cx (of_decide_eq_true hok) hF
  | 14, hok, hF => exact as_if cx (of_decide_eq_true hok) hF
  | 15, hok, hF => exact as_icmp cx (of_decide_eq_true hok) hF
  | 16, hok, hF => exact as_goto cx (of_decide_eq_true hok) hF
  | 17, hok, hF =>
    simp only [ax_ok] at hok
    split at hok
    · rename_i C9 T9 N9 hc
      simp only [Bool.and_eq_true, decide_eq_true_eq] at hok
      obtain ⟨⟨⟨⟨h1, h2⟩, h3⟩, h4⟩, h5⟩ := hok
      exact as_getI cx C9 T9 N9 hc h1 (hU _ h2) h3 h4 h5 hF
    · cases hok
  | 18, hok, hF =>
    simp only [ax_ok] at hok
    split at hok
    · rename_i C9 T9 N9 hc
      simp only [Bool.and_eq_true, decide_eq_true_eq] at hok
      obtain ⟨⟨⟨⟨h1, h2⟩, h3⟩, h4⟩, h5⟩ := hok
      exact as_getR cx C9 T9 N9 hc h1 (hU _ h2) h3 h4 h5 hF
    · cases hok
  | 19, hok, hF =>
    simp only [ax_ok] at hok
    split at hok
    · rename_i C9 T9 N9 hc
      simp only [Bool.and_eq_true, decide_eq_true_eq] at hok
      obtain ⟨⟨⟨⟨⟨⟨h1, h2⟩, h3⟩, h4⟩, h5⟩, h6⟩, h7⟩ := hok
      exact as_putI cx C9 T9 N9 hc h1 (hU _ h2) h3 h4 (h5.imp id fun h => ⟨h.1, hnx h.2.1, h.2.2⟩) h6 h7 hF
    · cases hok
  | 20, hok, hF =>
    simp only [ax_ok] at hok
    split at hok
    · rename_i C9 T9 N9 hc
      simp only [Bool.and_eq_true, decide_eq_true_eq] at hok
      obtain ⟨⟨⟨⟨⟨⟨h1, h2⟩, h3⟩, h4⟩, h5⟩, h6⟩, h7⟩ := hok
      exact as_putZ cx C9 T9 N9 hc h1 (hU _ h2) h3 h4 (h5.imp id fun h => ⟨h.1, hnx h.2.1, h.2.2⟩) h6 h7 hF
    · cases hok
  | 21, hok, hF =>
    simp only [ax_ok] at hok
    split at hok
    · rename_i C9 T9 N9 hc
      simp only [Bool.and_eq_true, decide_eq_true_eq] at hok
      obtain ⟨⟨⟨⟨⟨h1, h2⟩, h3⟩, h4⟩, h5⟩, h6⟩ := hok
      exact as_putR cx C9 T9 N9 hc h1 (hU _ h2) h3 (h4.imp id fun h => ⟨h.1, hnx h.2.1, h.2.2⟩) h5 h6 hF
    · cases hok
  | 22, hok, hF => exact as_iald cx (of_decide_eq_true hok) hF
  | 23, hok, hF => exact as_zald cx (of_decide_eq_true hok) hF
  | 24, hok, hF => exact as_aald cx (of_decide_eq_true hok) hF
  | 25, hok, hF => exact as_iast cx (of_decide_eq_true hok) hF
  | 26, hok, hF => exact as_zast cx (of_decide_eq_true hok) hF
  | 27, hok, hF => exact as_alen cx (of_decide_eq_true hok) hF
  | 28, hok, hF =>
    simp only [ax_ok] at hok
    simp only [Bool.and_eq_true, Bool.or_eq_true, decide_eq_true_eq] at hok
    obtain ⟨⟨⟨⟨⟨⟨h1, h2⟩, h3⟩, h4⟩, h5⟩, h6⟩, h7, rfl⟩ := hok
    have hF : ao_call i j (ax_kc i) C (pc + 3) (am_Xs p l e R s m args below meth c0 Qs D ax_cl kA ax_ft A ad0 n0 mc ms (ax_ml y)) L S u b c := hF
    unfold ao_call at hF
    split at hF
    · rename_i hcond
      refine as_scall (y := ax_nm i) (bytes := ax_by i) (maxL := ax_ml i) (ret := ax_rt i) (ws := ax_ws i) (rm := ax_rm d i) cx ax_nwok hcond (fun ad sz => hC i _ u _ h1 hF ad sz) ?_ h7
      have hm := ax_mlb i h1
      have hRR : (ax_rm d i).frames + 1 ≤ R.frames ∧ 8 + (ax_ml i + 11) + (ax_rm d i).locals ≤ R.locals := ⟨hR1, by show 8 + (ax_ml i + 11) + 40 * d ≤ _; omega⟩
      rcases h6 with h6 | h6
      · exact Or.inl ⟨callB_of j hts (ax_good hUT h1) rfl rfl rfl (hts _ (hU _ h5)) (hts _ (hU _ h6)) ⟨h2.1, h2.2, h3⟩ hRR, hts _ (hU _ h4)⟩
      · exact Or.inr ⟨ax_host, va_cnB j hts (ax_good hUT h1) rfl rfl rfl (cx.2.2.2.2.2.2.1.2.1 _ h6) (hts _ (hU _ h5)) ⟨h2.1, h2.2, h3⟩ hRR, hts _ (hU _ h4), trivial⟩
    · exact hF.elim
  | 29, hok, hF =>
    simp only [ax_ok] at hok
    simp only [Bool.and_eq_true, Bool.or_eq_true, decide_eq_true_eq] at hok
    obtain ⟨⟨⟨⟨⟨⟨⟨⟨h1, h2⟩, h3⟩, h4⟩, h5⟩, h6⟩, h7⟩, rfl⟩, h8⟩ := hok
    have hF : ao_vcall i j (ax_rc i) (ax_kc i) C (pc + 3) (am_Xs p l e R s m args below meth c0 Qs D ax_cl kA ax_ft A ad0 n0 mc ms (ax_ml y)) L S u b c := hF
    unfold ao_vcall at hF
    split at hF
    · rename_i a As hAs
      split at hF
      · rename_i t' n rs hu
        split at hF
        · rename_i ht
          subst ht
          unfold ao_call at hF
          split at hF
          · rename_i hcond
            obtain ⟨⟨C9, T9, N9⟩, hc, hcn⟩ := Option.map_eq_some_iff.mp h7
            have hcn : C9 = (ax_nm i).cls := hcn
            subst hcn
            have hm := ax_mlb i h1
            have hRR : (ax_rm d i).frames + 1 ≤ R.frames ∧ 8 + (ax_ml i + 11) + (ax_rm d i).locals ≤ R.locals := ⟨hR1, by show 8 + (ax_ml i + 11) + 40 * d ≤ _; omega⟩
            refine as_vcall (z := z) (y := ax_nm i) (bytes := ax_by i) (maxL := ax_ml i) (ret := ax_rt i) (ws := ax_ws i) (rm := ax_rm d i) cx ax_nwok hAs hu hc hcond (fun ad sz => hC i _ u _ h1 hF ad sz) ?_
            rcases h8 with ⟨⟨h8, h9⟩, h10⟩ | ⟨⟨⟨h8, h9⟩, h10⟩, h11⟩
            · exact Or.inl ⟨⟨callB_of (j - 1) hts (ax_good hUT h1) rfl rfl rfl (hts _ (hU _ h6)) (hts _ (hU _ h8)) ⟨h2.1, h2.2, h3⟩ hRR, hts _ (hU _ h5), hts _ (hU _ h9)⟩, h10⟩
            · refine Or.inr ⟨h9, ?_, h11⟩
              rcases h10 with h10 | h10
              · exact Or.inl ⟨callB_of (j - 1) hts (ax_good hUT h1) (by rw [ax_ws, h9]) rfl rfl (hts _ (hU _ h6)) (hts _ (hU _ h10)) ⟨h2.1, h2.2, h3⟩ hRR, h8, hts _ (hU _ h5)⟩
              · exact Or.inr ⟨ax_host, va_cnB (j - 1) hts (ax_good hUT h1) (by rw [ax_ws, h9]) rfl rfl (cx.2.2.2.2.2.2.1.2.1 _ h10) (hts _ (hU _ h6)) ⟨h2.1, h2.2, h3⟩ hRR, h8, hts _ (hU _ h5)⟩
          · exact hF.elim
        · exact hF.elim
      · exact hF.elim
    · exact hF.elim
  | 30, hok, hF =>
    have hF : ao_ret Q S u := hF
    unfold ao_ret at hF
    split at hF
    · intro ad H locs cells slots ls hl hR
      exact hret none u b c pc ad H locs cells slots ls hF hR (Or.inl ⟨rfl, (of_decide_eq_true hok).1, (of_decide_eq_true hok).2⟩)
    · exact hF.elim
  | 31, hok, hF =>
    have hF : ao_iret Q S u := hF
    unfold ao_iret at hF
    split at hF
    · rename_i v _h _h2
      intro ad H locs cells slots ls hl hR
      exact hret (some (.int v)) u b c pc ad H locs cells slots ls hF hR (Or.inr (Or.inl ⟨v, rfl, (of_decide_eq_true hok).1, Or.inl (of_decide_eq_true hok).2⟩))
    · exact hF.elim
  | 32, hok, hF =>
    have hF : ao_zret Q S u := hF
    unfold ao_zret at hF
    split at hF
    · rename_i v _h _h2
      intro ad H locs cells slots ls hl hR
      exact hret (some (.int v)) u b c pc ad H locs cells slots ls hF.2 hR (Or.inr (Or.inl ⟨v, rfl, (of_decide_eq_true hok).1, Or.inr ⟨(of_decide_eq_true hok).2, hF.1⟩⟩))
    · exact hF.elim
  | 33, hok, hF =>
    have hF : ao_aret Q S u := hF
    unfold ao_aret at hF
    split at hF
    · rename_i v _h _h2
      intro ad H locs cells slots ls hl hR
      exact hret (some (.ref v)) u b c pc ad H locs cells slots ls hF hR (Or.inr (Or.inr (Or.inl ⟨v, rfl, (of_decide_eq_true hok).1, (of_decide_eq_true hok).2⟩)))
    · exact hF.elim
  | 34, hok, hF =>
    have hF : ao_lret Q S u := hF
    unfold ao_lret at hF
    split at hF
    · rename_i v _h _h2
      intro ad H locs cells slots ls hl hR
      exact hret (some (.long v)) u b c pc ad H locs cells slots ls hF hR (Or.inr (Or.inr (Or.inr ⟨v, rfl, (of_decide_eq_true hok).1, (of_decide_eq_true hok).2⟩)))
    · exact hF.elim
  | 35, hok, hF =>
    simp only [ax_ok] at hok
    split at hok
    · rename_i C9 T9 N9 hc
      simp only [Bool.and_eq_true, decide_eq_true_eq] at hok
      obtain ⟨⟨⟨⟨h1, h2⟩, h3⟩, h4⟩, h5⟩ := hok
      exact as_new cx C9 T9 N9 hc h1 (hU _ h2) (hU _ h3) (hU _ h4) h5 hF
    · cases hok
  | 36, hok, hF =>
    simp only [ax_ok] at hok
    simp only [Bool.and_eq_true, Bool.or_eq_true, decide_eq_true_eq] at hok
    rcases hok with ⟨⟨rfl, h2⟩, h3⟩ | ⟨⟨rfl, h2⟩, h3⟩
    · exact as_newi cx (hU _ h2) h3 hF
    · exact as_newz cx (hU _ h2) h3 hF
  | 37, hok, hF =>
    simp only [ax_ok] at hok
    simp only [Bool.and_eq_true, decide_eq_true_eq] at hok
    obtain ⟨⟨h1, h2⟩, h3⟩ := hok
    exact as_newg cx (hU _ h1) (hU _ h2) h3 hF
  | 38, hok, hF => exact as_dup cx (of_decide_eq_true hok) hF
  | 39, hok, hF => exact as_pop cx (of_decide_eq_true hok) hF
  | 40, hok, hF => exact as_dupx1 cx (of_decide_eq_true hok) hF
  | 41, hok, hF => exact as_dup2 cx (of_decide_eq_true hok) hF
  | 42, hok, hF => exact as_pushl cx ((of_decide_eq_true hok).imp id (Or.imp id (fun h => ⟨h.1, h.2.1, hU _ h.2.2.1, h.2.2.2⟩))) hF
  | 43, hok, hF => exact as_i2l cx (of_decide_eq_true hok) hF
  | 44, hok, hF => exact as_l2i cx (of_decide_eq_true hok) hF
  | 45, hok, hF => exact as_ladd cx (of_decide_eq_true hok) hF
  | 46, hok, hF => exact as_lsub cx (of_decide_eq_true hok) hF
  | 47, hok, hF => exact as_lmul cx (of_decide_eq_true hok) hF
  | 48, hok, hF => exact as_ldiv cx (of_decide_eq_true hok) hF
  | 49, hok, hF => exact as_lcmp cx (of_decide_eq_true hok) hF
  | 50, hok, hF =>
    simp only [ax_ok] at hok
    simp only [Bool.and_eq_true, decide_eq_true_eq] at hok
    obtain ⟨⟨h1, h2⟩, h3⟩ := hok
    exact as_gets cx h1 (hU _ h2) h3 hF
  | 51, hok, hF => exact as_sld cx (of_decide_eq_true hok) hF
  | 52, hok, hF => exact as_slen cx (of_decide_eq_true hok) hF
  | 53, hok, hF =>
    simp only [ax_ok] at hok
    simp only [Bool.and_eq_true, decide_eq_true_eq] at hok
    obtain ⟨⟨⟨h1, h2⟩, h3⟩, h4⟩ := hok
    exact as_max cx (hU _ h1) (hU _ h2) (hU _ h3) (hUT _ ax_wmax) h4 hF
  | 54, hok, hF =>
    simp only [ax_ok] at hok
    simp only [Bool.and_eq_true, decide_eq_true_eq] at hok
    obtain ⟨⟨⟨h1, h2⟩, h3⟩, h4⟩ := hok
    exact as_min cx (hU _ h1) (hU _ h2) (hU _ h3) (hUT _ ax_wmin) h4 hF
  | 55, hok, hF =>
    simp only [ax_ok] at hok
    simp only [Bool.and_eq_true, decide_eq_true_eq] at hok
    obtain ⟨⟨⟨h1, h2⟩, h3⟩, h4⟩ := hok
    exact as_abs cx (hU _ h1) (hU _ h2) (hU _ h3) (hUT _ ax_wabs) h4 hF
  | 56, hok, hF =>
    simp only [ax_ok] at hok
    simp only [Bool.and_eq_true, decide_eq_true_eq] at hok
    obtain ⟨⟨⟨h1, h2⟩, h3⟩, h4⟩ := hok
    exact as_minl cx (hU _ h1) (hU _ h2) (hU _ h3) (hUT _ ax_wminl) h4 hF
  | 57, hok, hF =>
    simp only [ax_ok] at hok
    simp only [Bool.and_eq_true, decide_eq_true_eq] at hok
    obtain ⟨⟨⟨⟨h1, h2⟩, h3⟩, h4⟩, h5⟩ := hok
    exact as_copy cx (hU _ h1) (hU _ h2) (hU _ h3) (hU _ h4) h5 hF
  | 58, hok, hF =>
    simp only [ax_ok] at hok
    simp only [Bool.and_eq_true, decide_eq_true_eq] at hok
    obtain ⟨⟨h1, h2⟩, h3⟩ := hok
    exact as_oini cx (hU _ h1) (hU _ h2) (hUT _ ax_woini) h3 hF
  | 59, hok, hF =>
    simp only [ax_ok] at hok
    simp only [Bool.and_eq_true, decide_eq_true_eq] at hok
    exact as_xld cx (hlg hok.1) hok.2 hF
  | 60, hok, hF =>
    simp only [ax_ok] at hok
    simp only [Bool.and_eq_true, decide_eq_true_eq] at hok
    exact as_xlen cx (hlg hok.1) hok.2 hF
  | 61, hok, hF =>
    have hF : ao_switch (ax_sw pc) (am_Xs p l e R s m args below meth c0 Qs D ax_cl kA ax_ft A ad0 n0 mc ms (ax_ml y)) L S u b c := hF
    obtain ⟨rfl, rfl⟩ := of_decide_eq_true hok
    exact as_switch cx (ax_sw 33) _ _ _ _ _ ax_swd ax_sw1 ax_sw2 hF
  | n + 62, hok, hF => exact False.elim hF
end MASTER
