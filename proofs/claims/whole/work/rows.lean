section
-- ===== PART A: goes FIRST, ahead of the names: the tables' words, and 'selects' of the private methods out of them =====
/-- a private method of a class that the tables say can be made, by its rows of tables_1 -/
def lw_okq (q : MethodName × Nat) : Prop := (q.1.cls ≠ "java/lang/invoke/MethodHandle" ∧ q.1.cls ≠ "java/lang/invoke/VarHandle") ∧ Cond.instantiable q.1.cls q.2 ∈ tables_1 ∧ Cond.privateMethod q.1 ∈ tables_1 ∧ Cond.instanceMethod q.1 ∈ tables_1
theorem lw_p0 : lw_okq (⟨"AdvisoryMatch$Ways", "goOnByEachNeed", "()V"⟩, 4) := ⟨⟨by decide +kernel, by decide +kernel⟩, List.mem_of_getElem? (i := 126) (by decide +kernel), List.mem_of_getElem? (i := 410) (by decide +kernel), List.mem_of_getElem? (i := 411) (by decide +kernel)⟩
theorem lw_p1 : lw_okq (⟨"AdvisoryMatch$Needs", "isActive", "(I[I)Z"⟩, 7) := ⟨⟨by decide +kernel, by decide +kernel⟩, List.mem_of_getElem? (i := 55) (by decide +kernel), List.mem_of_getElem? (i := 426) (by decide +kernel), List.mem_of_getElem? (i := 427) (by decide +kernel)⟩
theorem lw_p2 : lw_okq (⟨"AdvisoryMatch$Needs", "holds", "(I[I)Z"⟩, 7) := ⟨⟨by decide +kernel, by decide +kernel⟩, List.mem_of_getElem? (i := 55) (by decide +kernel), List.mem_of_getElem? (i := 430) (by decide +kernel), List.mem_of_getElem? (i := 431) (by decide +kernel)⟩
theorem lw_p3 : lw_okq (⟨"AdvisoryMatch$Ways", "goOn", "(II)V"⟩, 4) := ⟨⟨by decide +kernel, by decide +kernel⟩, List.mem_of_getElem? (i := 126) (by decide +kernel), List.mem_of_getElem? (i := 446) (by decide +kernel), List.mem_of_getElem? (i := 447) (by decide +kernel)⟩
theorem lw_p4 : lw_okq (⟨"AdvisoryMatch", "noteHitsOf", "(I)V"⟩, 9) := ⟨⟨by decide +kernel, by decide +kernel⟩, List.mem_of_getElem? (i := 15) (by decide +kernel), List.mem_of_getElem? (i := 463) (by decide +kernel), List.mem_of_getElem? (i := 464) (by decide +kernel)⟩
theorem lw_p5 : lw_okq (⟨"AdvisoryMatch$Advisories", "hasSpanWith", "(II)Z"⟩, 8) := ⟨⟨by decide +kernel, by decide +kernel⟩, List.mem_of_getElem? (i := 83) (by decide +kernel), List.mem_of_getElem? (i := 481) (by decide +kernel), List.mem_of_getElem? (i := 482) (by decide +kernel)⟩
theorem lw_p6 : lw_okq (⟨"AdvisoryMatch$Needs", "isBroken", "(I[I)Z"⟩, 7) := ⟨⟨by decide +kernel, by decide +kernel⟩, List.mem_of_getElem? (i := 55) (by decide +kernel), List.mem_of_getElem? (i := 517) (by decide +kernel), List.mem_of_getElem? (i := 518) (by decide +kernel)⟩
theorem lw_p7 : lw_okq (⟨"AdvisoryMatch", "markPlacesOf", "(I)V"⟩, 9) := ⟨⟨by decide +kernel, by decide +kernel⟩, List.mem_of_getElem? (i := 15) (by decide +kernel), List.mem_of_getElem? (i := 525) (by decide +kernel), List.mem_of_getElem? (i := 526) (by decide +kernel)⟩
theorem lw_p8 : lw_okq (⟨"AdvisoryMatch", "isClear", "(II)Z"⟩, 9) := ⟨⟨by decide +kernel, by decide +kernel⟩, List.mem_of_getElem? (i := 15) (by decide +kernel), List.mem_of_getElem? (i := 533) (by decide +kernel), List.mem_of_getElem? (i := 534) (by decide +kernel)⟩
theorem lw_p9 : lw_okq (⟨"AdvisoryMatch$Planner", "choose", "(II)V"⟩, 8) := ⟨⟨by decide +kernel, by decide +kernel⟩, List.mem_of_getElem? (i := 160) (by decide +kernel), List.mem_of_getElem? (i := 547) (by decide +kernel), List.mem_of_getElem? (i := 548) (by decide +kernel)⟩
theorem lw_p10 : lw_okq (⟨"AdvisoryMatch$Planner", "keepTried", "(I)V"⟩, 8) := ⟨⟨by decide +kernel, by decide +kernel⟩, List.mem_of_getElem? (i := 160) (by decide +kernel), List.mem_of_getElem? (i := 551) (by decide +kernel), List.mem_of_getElem? (i := 552) (by decide +kernel)⟩
theorem lw_p11 : lw_okq (⟨"AdvisoryMatch$Planner", "settle", "(III)V"⟩, 8) := ⟨⟨by decide +kernel, by decide +kernel⟩, List.mem_of_getElem? (i := 160) (by decide +kernel), List.mem_of_getElem? (i := 559) (by decide +kernel), List.mem_of_getElem? (i := 560) (by decide +kernel)⟩
theorem lw_p12 : lw_okq (⟨"AdvisoryMatch$Planner", "isClearPlace", "(II)Z"⟩, 8) := ⟨⟨by decide +kernel, by decide +kernel⟩, List.mem_of_getElem? (i := 160) (by decide +kernel), List.mem_of_getElem? (i := 570) (by decide +kernel), List.mem_of_getElem? (i := 571) (by decide +kernel)⟩
theorem lw_p13 : lw_okq (⟨"AdvisoryMatchModel", "isPack", "(I)Z"⟩, 31) := ⟨⟨by decide +kernel, by decide +kernel⟩, List.mem_of_getElem? (i := 597) (by decide +kernel), List.mem_of_getElem? (i := 705) (by decide +kernel), List.mem_of_getElem? (i := 706) (by decide +kernel)⟩
theorem lw_p14 : lw_okq (⟨"AdvisoryMatchModel", "lookAtInstalled", "()V"⟩, 31) := ⟨⟨by decide +kernel, by decide +kernel⟩, List.mem_of_getElem? (i := 597) (by decide +kernel), List.mem_of_getElem? (i := 729) (by decide +kernel), List.mem_of_getElem? (i := 730) (by decide +kernel)⟩
theorem lw_p15 : lw_okq (⟨"AdvisoryMatchModel", "lacking", "()I"⟩, 31) := ⟨⟨by decide +kernel, by decide +kernel⟩, List.mem_of_getElem? (i := 597) (by decide +kernel), List.mem_of_getElem? (i := 733) (by decide +kernel), List.mem_of_getElem? (i := 734) (by decide +kernel)⟩
def lw_privs_1 : List (MethodName × Nat) := [(⟨"AdvisoryMatch$Ways", "goOnByEachNeed", "()V"⟩, 4), (⟨"AdvisoryMatch$Needs", "isActive", "(I[I)Z"⟩, 7), (⟨"AdvisoryMatch$Needs", "holds", "(I[I)Z"⟩, 7), (⟨"AdvisoryMatch$Ways", "goOn", "(II)V"⟩, 4), (⟨"AdvisoryMatch", "noteHitsOf", "(I)V"⟩, 9), (⟨"AdvisoryMatch$Advisories", "hasSpanWith", "(II)Z"⟩, 8), (⟨"AdvisoryMatch$Needs", "isBroken", "(I[I)Z"⟩, 7), (⟨"AdvisoryMatch", "markPlacesOf", "(I)V"⟩, 9), (⟨"AdvisoryMatch", "isClear", "(II)Z"⟩, 9), (⟨"AdvisoryMatch$Planner", "choose", "(II)V"⟩, 8), (⟨"AdvisoryMatch$Planner", "keepTried", "(I)V"⟩, 8), (⟨"AdvisoryMatch$Planner", "settle", "(III)V"⟩, 8), (⟨"AdvisoryMatch$Planner", "isClearPlace", "(II)Z"⟩, 8), (⟨"AdvisoryMatchModel", "isPack", "(I)Z"⟩, 31), (⟨"AdvisoryMatchModel", "lookAtInstalled", "()V"⟩, 31), (⟨"AdvisoryMatchModel", "lacking", "()I"⟩, 31)]
theorem lw_r1 : ∀ q ∈ lw_privs_1, lw_okq q := List.forall_mem_cons.mpr ⟨lw_p0, List.forall_mem_cons.mpr ⟨lw_p1, List.forall_mem_cons.mpr ⟨lw_p2, List.forall_mem_cons.mpr ⟨lw_p3, List.forall_mem_cons.mpr ⟨lw_p4, List.forall_mem_cons.mpr ⟨lw_p5, List.forall_mem_cons.mpr ⟨lw_p6, List.forall_mem_cons.mpr ⟨lw_p7, List.forall_mem_cons.mpr ⟨lw_p8, List.forall_mem_cons.mpr ⟨lw_p9, List.forall_mem_cons.mpr ⟨lw_p10, List.forall_mem_cons.mpr ⟨lw_p11, List.forall_mem_cons.mpr ⟨lw_p12, List.forall_mem_cons.mpr ⟨lw_p13, List.forall_mem_cons.mpr ⟨lw_p14, List.forall_mem_cons.mpr ⟨lw_p15, fun _ h => absurd h List.not_mem_nil⟩⟩⟩⟩⟩⟩⟩⟩⟩⟩⟩⟩⟩⟩⟩⟩
theorem lw_p16 : lw_okq (⟨"AdvisoryMatchModel", "isActive", "(I)Z"⟩, 31) := ⟨⟨by decide +kernel, by decide +kernel⟩, List.mem_of_getElem? (i := 597) (by decide +kernel), List.mem_of_getElem? (i := 737) (by decide +kernel), List.mem_of_getElem? (i := 738) (by decide +kernel)⟩
theorem lw_p17 : lw_okq (⟨"AdvisoryMatchModel", "doesHold", "(I)Z"⟩, 31) := ⟨⟨by decide +kernel, by decide +kernel⟩, List.mem_of_getElem? (i := 597) (by decide +kernel), List.mem_of_getElem? (i := 741) (by decide +kernel), List.mem_of_getElem? (i := 742) (by decide +kernel)⟩
theorem lw_p18 : lw_okq (⟨"AdvisoryMatchModel", "isAdvisory", "(I)Z"⟩, 31) := ⟨⟨by decide +kernel, by decide +kernel⟩, List.mem_of_getElem? (i := 597) (by decide +kernel), List.mem_of_getElem? (i := 753) (by decide +kernel), List.mem_of_getElem? (i := 754) (by decide +kernel)⟩
theorem lw_p19 : lw_okq (⟨"AdvisoryMatchModel", "scoreOf", "(I)I"⟩, 31) := ⟨⟨by decide +kernel, by decide +kernel⟩, List.mem_of_getElem? (i := 597) (by decide +kernel), List.mem_of_getElem? (i := 777) (by decide +kernel), List.mem_of_getElem? (i := 778) (by decide +kernel)⟩
theorem lw_p20 : lw_okq (⟨"AdvisoryMatchModel", "findWays", "()V"⟩, 31) := ⟨⟨by decide +kernel, by decide +kernel⟩, List.mem_of_getElem? (i := 597) (by decide +kernel), List.mem_of_getElem? (i := 803) (by decide +kernel), List.mem_of_getElem? (i := 804) (by decide +kernel)⟩
theorem lw_p21 : lw_okq (⟨"AdvisoryMatchModel", "scoreThere", "(III)I"⟩, 31) := ⟨⟨by decide +kernel, by decide +kernel⟩, List.mem_of_getElem? (i := 597) (by decide +kernel), List.mem_of_getElem? (i := 807) (by decide +kernel), List.mem_of_getElem? (i := 808) (by decide +kernel)⟩
theorem lw_p22 : lw_okq (⟨"AdvisoryMatchModel", "hasSpan", "(II)Z"⟩, 31) := ⟨⟨by decide +kernel, by decide +kernel⟩, List.mem_of_getElem? (i := 597) (by decide +kernel), List.mem_of_getElem? (i := 811) (by decide +kernel), List.mem_of_getElem? (i := 812) (by decide +kernel)⟩
theorem lw_p23 : lw_okq (⟨"AdvisoryMatchModel", "tell", "(III)V"⟩, 31) := ⟨⟨by decide +kernel, by decide +kernel⟩, List.mem_of_getElem? (i := 597) (by decide +kernel), List.mem_of_getElem? (i := 815) (by decide +kernel), List.mem_of_getElem? (i := 816) (by decide +kernel)⟩
theorem lw_p24 : lw_okq (⟨"AdvisoryMatchModel", "isExcepted", "(II)Z"⟩, 31) := ⟨⟨by decide +kernel, by decide +kernel⟩, List.mem_of_getElem? (i := 597) (by decide +kernel), List.mem_of_getElem? (i := 819) (by decide +kernel), List.mem_of_getElem? (i := 820) (by decide +kernel)⟩
theorem lw_p25 : lw_okq (⟨"AdvisoryMatchModel", "findBad", "()V"⟩, 31) := ⟨⟨by decide +kernel, by decide +kernel⟩, List.mem_of_getElem? (i := 597) (by decide +kernel), List.mem_of_getElem? (i := 831) (by decide +kernel), List.mem_of_getElem? (i := 832) (by decide +kernel)⟩
theorem lw_p26 : lw_okq (⟨"AdvisoryMatchModel", "mayBe", "()Z"⟩, 31) := ⟨⟨by decide +kernel, by decide +kernel⟩, List.mem_of_getElem? (i := 597) (by decide +kernel), List.mem_of_getElem? (i := 835) (by decide +kernel), List.mem_of_getElem? (i := 836) (by decide +kernel)⟩
theorem lw_p27 : lw_okq (⟨"AdvisoryMatchModel", "cost", "()I"⟩, 31) := ⟨⟨by decide +kernel, by decide +kernel⟩, List.mem_of_getElem? (i := 597) (by decide +kernel), List.mem_of_getElem? (i := 839) (by decide +kernel), List.mem_of_getElem? (i := 840) (by decide +kernel)⟩
theorem lw_p28 : lw_okq (⟨"AdvisoryMatchModel", "goesOn", "()Z"⟩, 31) := ⟨⟨by decide +kernel, by decide +kernel⟩, List.mem_of_getElem? (i := 597) (by decide +kernel), List.mem_of_getElem? (i := 843) (by decide +kernel), List.mem_of_getElem? (i := 844) (by decide +kernel)⟩
def lw_privs_2 : List (MethodName × Nat) := [(⟨"AdvisoryMatchModel", "isActive", "(I)Z"⟩, 31), (⟨"AdvisoryMatchModel", "doesHold", "(I)Z"⟩, 31), (⟨"AdvisoryMatchModel", "isAdvisory", "(I)Z"⟩, 31), (⟨"AdvisoryMatchModel", "scoreOf", "(I)I"⟩, 31), (⟨"AdvisoryMatchModel", "findWays", "()V"⟩, 31), (⟨"AdvisoryMatchModel", "scoreThere", "(III)I"⟩, 31), (⟨"AdvisoryMatchModel", "hasSpan", "(II)Z"⟩, 31), (⟨"AdvisoryMatchModel", "tell", "(III)V"⟩, 31), (⟨"AdvisoryMatchModel", "isExcepted", "(II)Z"⟩, 31), (⟨"AdvisoryMatchModel", "findBad", "()V"⟩, 31), (⟨"AdvisoryMatchModel", "mayBe", "()Z"⟩, 31), (⟨"AdvisoryMatchModel", "cost", "()I"⟩, 31), (⟨"AdvisoryMatchModel", "goesOn", "()Z"⟩, 31)]
theorem lw_r2 : ∀ q ∈ lw_privs_2, lw_okq q := List.forall_mem_cons.mpr ⟨lw_p16, List.forall_mem_cons.mpr ⟨lw_p17, List.forall_mem_cons.mpr ⟨lw_p18, List.forall_mem_cons.mpr ⟨lw_p19, List.forall_mem_cons.mpr ⟨lw_p20, List.forall_mem_cons.mpr ⟨lw_p21, List.forall_mem_cons.mpr ⟨lw_p22, List.forall_mem_cons.mpr ⟨lw_p23, List.forall_mem_cons.mpr ⟨lw_p24, List.forall_mem_cons.mpr ⟨lw_p25, List.forall_mem_cons.mpr ⟨lw_p26, List.forall_mem_cons.mpr ⟨lw_p27, List.forall_mem_cons.mpr ⟨lw_p28, fun _ h => absurd h List.not_mem_nil⟩⟩⟩⟩⟩⟩⟩⟩⟩⟩⟩⟩⟩
def lw_privs : List (MethodName × Nat) := lw_privs_1 ++ (lw_privs_2)
def lw_tbl : List Cond := k2_sels lw_privs ++ tables_1
theorem lw_privs_ok : ∀ q ∈ lw_privs, lw_okq q := by
  show ∀ q ∈ lw_privs_1 ++ (lw_privs_2), lw_okq q
  exact List.forall_mem_append.mpr ⟨lw_r1, lw_r2⟩
end
section
/-! THE SMALL MACHINE. Cells have small numbers (ids); 'ad' says where each lies. A state: the shape (kind, length, references of each cell) and the ints of each cell. -/
abbrev am_Sh : Type := List (Nat × Nat × List (Option Nat))
abbrev am_St : Type := am_Sh × (Nat → Nat → Int32)
abbrev am_X : Type := Nat → List (Option Value) → List Value → am_St → Nat → Nat → Prop
abbrev am_Q : Type := Option Value → am_St → Prop
abbrev am_C : Type := Nat → List Value → am_St → am_Q → Prop
abbrev am_In : Type := Nat × Nat × Nat × Int × Nat
def am_sb : Nat := 1000000
def am_xb : Nat := 2000000
def am_cv (ad : Nat → Nat) : Value → Value
  | .ref a => .ref (ad a)
  | v => v
theorem am_cv_cat (ad : Nat → Nat) (v : Value) : (am_cv ad v).category = v.category := by cases v <;> rfl
theorem am_cv_sum (ad : Nat → Nat) (S : List Value) : ((S.map (am_cv ad)).map fun v => v.category).sum = (S.map fun v => v.category).sum := by
  rw [List.map_map]
  exact congrArg List.sum (List.map_congr_left fun v _ => am_cv_cat ad v)
def am_ld (L : List (Option Value)) (i : Nat) : Option Value := (L[i]?).join
def am_nl : Option Value → Option Value
  | some (.long _) => none
  | some (.double _) => none
  | o => o
def am_st1 : List (Option Value) → Nat → Value → List (Option Value)
  | [], _, _ => []
  | _ :: r, 0, v => some v :: r
  | o :: r, 1, v => am_nl o :: am_st1 r 0 v
  | o :: r, i + 2, v => o :: am_st1 r (i + 1) v
def am_st2 : List (Option Value) → Nat → Value → List (Option Value)
  | [], _, _ => []
  | [_], 0, v => [some v]
  | _ :: _ :: r, 0, v => some v :: none :: r
  | o :: r, 1, v => am_nl o :: am_st2 r 0 v
  | o :: r, i + 2, v => o :: am_st2 r (i + 1) v
/-- what is known of the locals -/
def am_kn (ad : Nat → Nat) (L : List (Option Value)) : List (Nat × Value) := (List.range L.length).filterMap fun i => (am_ld L i).map fun v => (i, am_cv ad v)
theorem am_ld_lt {L : List (Option Value)} {i : Nat} {v : Value} (h : am_ld L i = some v) : i < L.length := by
  rcases Nat.lt_or_ge i L.length with q | q
  · exact q
  · rw [am_ld, List.getElem?_eq_none q] at h
    cases h
theorem am_kn_in {ad : Nat → Nat} {L : List (Option Value)} {i : Nat} {v : Value} (h : am_ld L i = some v) : (i, am_cv ad v) ∈ am_kn ad L :=
  List.mem_filterMap.mpr ⟨i, List.mem_range.mpr (am_ld_lt h), by rw [h]; rfl⟩
theorem am_kn_of {ad : Nat → Nat} {L : List (Option Value)} {q : Nat × Value} (h : q ∈ am_kn ad L) : ∃ v, am_ld L q.1 = some v ∧ q.2 = am_cv ad v := by
  obtain ⟨i, -, hi⟩ := List.mem_filterMap.mp h
  cases hv : am_ld L i with
  | none => rw [hv] at hi; cases hi
  | some v =>
    rw [hv] at hi
    cases hi
    exact ⟨v, hv, rfl⟩
theorem am_at {ad : Nat → Nat} {L : List (Option Value)} {ls : Array Slot} {nL i : Nat} {v : Value} (h : lv_has ls nL (am_kn ad L)) (hi : am_ld L i = some v) : ls[i]? = some (.val (am_cv ad v)) := h.2.2 _ (am_kn_in hi)
theorem am_ld_0 (o : Option Value) (r : List (Option Value)) : am_ld (o :: r) 0 = o := by simp [am_ld]
theorem am_ld_s (o : Option Value) (r : List (Option Value)) (i : Nat) : am_ld (o :: r) (i + 1) = am_ld r i := by simp [am_ld]
theorem am_nl_of {o : Option Value} {w : Value} (h : am_nl o = some w) : o = some w ∧ ¬ w.category = 2 := by
  cases o with
  | none => cases h
  | some v => cases v <;> first | (cases h; done) | (cases h; exact ⟨rfl, by simp [Value.category]⟩)
theorem am_st1_of : ∀ (L : List (Option Value)) (i : Nat) (v : Value) (j : Nat) (w : Value), am_ld (am_st1 L i v) j = some w → (j = i ∧ w = v) ∨ (j ≠ i ∧ am_ld L j = some w ∧ ¬ (j + 1 = i ∧ w.category = 2))
  | [], i, v, j, w, h => by simp [am_st1, am_ld] at h
  | o :: r, 0, v, 0, w, h => by
    rw [am_st1, am_ld_0] at h
    exact Or.inl ⟨rfl, (Option.some.inj h).symm⟩
  | o :: r, 0, v, j + 1, w, h => by
    rw [am_st1, am_ld_s] at h
    exact Or.inr ⟨by omega, by rw [am_ld_s]; exact h, by omega⟩
  | o :: r, 1, v, 0, w, h => by
    rw [am_st1, am_ld_0] at h
    obtain ⟨h1, h2⟩ := am_nl_of h
    exact Or.inr ⟨by omega, by rw [am_ld_0]; exact h1, fun q => h2 q.2⟩
  | o :: r, 1, v, j + 1, w, h => by
    rw [am_st1, am_ld_s] at h
    rcases am_st1_of r 0 v j w h with ⟨h1, h2⟩ | ⟨h1, h2, h3⟩
    · exact Or.inl ⟨by omega, h2⟩
    · exact Or.inr ⟨by omega, by rw [am_ld_s]; exact h2, by omega⟩
  | o :: r, i + 2, v, 0, w, h => by
    rw [am_st1, am_ld_0] at h
    exact Or.inr ⟨by omega, by rw [am_ld_0]; exact h, by omega⟩
  | o :: r, i + 2, v, j + 1, w, h => by
    rw [am_st1, am_ld_s] at h
    rcases am_st1_of r (i + 1) v j w h with ⟨h1, h2⟩ | ⟨h1, h2, h3⟩
    · exact Or.inl ⟨by omega, h2⟩
    · exact Or.inr ⟨by omega, by rw [am_ld_s]; exact h2, fun q => h3 ⟨by omega, q.2⟩⟩
theorem am_st2_of : ∀ (L : List (Option Value)) (i : Nat) (v : Value) (j : Nat) (w : Value), am_ld (am_st2 L i v) j = some w → (j = i ∧ w = v) ∨ (j ≠ i ∧ j ≠ i + 1 ∧ am_ld L j = some w ∧ ¬ (j + 1 = i ∧ w.category = 2))
  | [], i, v, j, w, h => by simp [am_st2, am_ld] at h
  | [o], 0, v, 0, w, h => by
    rw [am_st2, am_ld_0] at h
    exact Or.inl ⟨rfl, (Option.some.inj h).symm⟩
  | [o], 0, v, j + 1, w, h => by
    rw [am_st2, am_ld_s] at h
    simp [am_ld] at h
  | o :: o2 :: r, 0, v, 0, w, h => by
    rw [am_st2, am_ld_0] at h
    exact Or.inl ⟨rfl, (Option.some.inj h).symm⟩
  | o :: o2 :: r, 0, v, 1, w, h => by
    rw [am_st2, am_ld_s, am_ld_0] at h
    cases h
  | o :: o2 :: r, 0, v, j + 2, w, h => by
    rw [am_st2, am_ld_s, am_ld_s] at h
    exact Or.inr ⟨by omega, by omega, by rw [am_ld_s, am_ld_s]; exact h, by omega⟩
  | o :: r, 1, v, 0, w, h => by
    rw [am_st2.eq_def] at h
    cases r <;>
    · simp only [am_ld_0] at h
      obtain ⟨h1, h2⟩ := am_nl_of h
      exact Or.inr ⟨by omega, by omega, by rw [am_ld_0]; exact h1, fun q => h2 q.2⟩
  | o :: r, 1, v, j + 1, w, h => by
    have h : am_ld (am_st2 r 0 v) j = some w := by
      rw [am_st2.eq_def] at h
      cases r <;> (simp only [am_ld_s] at h; exact h)
    rcases am_st2_of r 0 v j w h with ⟨h1, h2⟩ | ⟨h1, h2, h3, h4⟩
    · exact Or.inl ⟨by omega, h2⟩
    · exact Or.inr ⟨by omega, by omega, by rw [am_ld_s]; exact h3, by omega⟩
  | o :: r, i + 2, v, 0, w, h => by
    rw [am_st2.eq_def] at h
    cases r <;>
    · simp only [am_ld_0] at h
      exact Or.inr ⟨by omega, by omega, by rw [am_ld_0]; exact h, by omega⟩
  | o :: r, i + 2, v, j + 1, w, h => by
    have h : am_ld (am_st2 r (i + 1) v) j = some w := by
      rw [am_st2.eq_def] at h
      cases r <;> (simp only [am_ld_s] at h; exact h)
    rcases am_st2_of r (i + 1) v j w h with ⟨h1, h2⟩ | ⟨h1, h2, h3, h4⟩
    · exact Or.inl ⟨by omega, h2⟩
    · exact Or.inr ⟨by omega, by omega, by rw [am_ld_s]; exact h3, fun q => h4 ⟨by omega, q.2⟩⟩
theorem am_has_mem {ls : Array Slot} {nL : Nat} {l l' : List (Nat × Value)} (h : lv_has ls nL l) (hs : ∀ q ∈ l', q ∈ l) : lv_has ls nL l' := ⟨h.1, h.2.1, fun q hq => h.2.2 q (hs q hq)⟩
theorem am_has1 {ad : Nat → Nat} {L : List (Option Value)} {ls : Array Slot} {nL i : Nat} {v : Value} (h : lv_has ls nL ((i, am_cv ad v) :: (am_kn ad L).filter (fun q => !(q.1 == i) && !(q.1 + 1 == i && q.2.category == 2)))) : lv_has ls nL (am_kn ad (am_st1 L i v)) := by
  refine am_has_mem h fun q hq => ?_
  obtain ⟨w, h1, h2⟩ := am_kn_of hq
  rcases am_st1_of L i v q.1 w h1 with ⟨e1, e2⟩ | ⟨e1, e2, e3⟩
  · subst e2
    rw [show q = (i, am_cv ad w) from Prod.ext e1 h2]
    exact List.mem_cons_self
  · refine List.mem_cons_of_mem _ (List.mem_filter.mpr ⟨?_, ?_⟩)
    · rw [show q = (q.1, am_cv ad w) from Prod.ext rfl h2]
      exact am_kn_in e2
    · rw [h2, am_cv_cat]
      by_cases g1 : q.1 + 1 = i <;> by_cases g2 : w.category = 2 <;> simp [e1, g1, g2] <;> exact e3 ⟨g1, g2⟩
theorem am_has2 {ad : Nat → Nat} {L : List (Option Value)} {ls : Array Slot} {nL i : Nat} {v : Value} (h : lv_has ls nL ((i, am_cv ad v) :: (am_kn ad L).filter (fun q => !(q.1 == i) && (!(q.1 == i + 1) && !(q.1 + 1 == i && q.2.category == 2))))) : lv_has ls nL (am_kn ad (am_st2 L i v)) := by
  refine am_has_mem h fun q hq => ?_
  obtain ⟨w, h1, h2⟩ := am_kn_of hq
  rcases am_st2_of L i v q.1 w h1 with ⟨e1, e2⟩ | ⟨e1, e4, e2, e3⟩
  · subst e2
    rw [show q = (i, am_cv ad w) from Prod.ext e1 h2]
    exact List.mem_cons_self
  · refine List.mem_cons_of_mem _ (List.mem_filter.mpr ⟨?_, ?_⟩)
    · rw [show q = (q.1, am_cv ad w) from Prod.ext rfl h2]
      exact am_kn_in e2
    · rw [h2, am_cv_cat]
      by_cases g1 : q.1 + 1 = i <;> by_cases g2 : w.category = 2 <;> simp [e1, e4, g1, g2] <;> exact e3 ⟨g1, g2⟩
/-- the ints of one cell anew -/
def am_cp (f : Nat → Nat → Int32) (a : Nat) (g : Nat → Int32) : Nat → Nat → Int32 := fun q => if q = a then g else f q
def am_up (f : Nat → Nat → Int32) (a i : Nat) (x : Int32) : Nat → Nat → Int32 := am_cp f a (upd (f a) i x)
def am_zr (f : Nat → Nat → Int32) (a n : Nat) : Nat → Nat → Int32 := fun q => if a ≤ q ∧ q < a + n then (fun _ => 0) else f q
def am_rg (rs : List (Option Nat)) (j : Nat) : Option Nat := (rs[j]?).join
def am_fl (ft : Nat → Nat → Bool) (ad : Nat → Nat) (f : Nat → Int32) (rs : List (Option Nat)) (t k : Nat) : Value := if ft t k = true then va_rf ((am_rg rs k).map ad) else .int (f k)
def am_en (kA : Nat → ClassId) (ft : Nat → Nat → Bool) (ad : Nat → Nat) (f : Nat → Int32) : Nat × Nat × List (Option Nat) → va_E
  | (0, n, _) => .inl (kA 0, n, .inl f)
  | (1, n, _) => .inl (kA 1, n, .inl f)
  | (2, n, rs) => .inl (kA 2, n, .inr (.inr (.inr (.inr (fun j => (am_rg rs j).map ad)))))
  | (t + 3, n, rs) => .inr (t, (List.range n).map (am_fl ft ad f rs t))
def am_wl (kA : Nat → ClassId) (ft : Nat → Nat → Bool) (ad : Nat → Nat) (u : am_St) : va_W := (List.range u.1.length).map fun q => (ad q, am_en kA ft ad (u.2 q) ((u.1[q]?).getD (0, 0, [])))
theorem am_wl_len (kA : Nat → ClassId) (ft : Nat → Nat → Bool) (ad : Nat → Nat) (u : am_St) : (am_wl kA ft ad u).length = u.1.length := by simp [am_wl]
theorem am_wl_at {kA : Nat → ClassId} {ft : Nat → Nat → Bool} {ad : Nat → Nat} {u : am_St} {q : Nat} {e : Nat × Nat × List (Option Nat)} (h : u.1[q]? = some e) : (am_wl kA ft ad u)[q]? = some (ad q, am_en kA ft ad (u.2 q) e) := by
  have hl : q < u.1.length := (List.getElem?_eq_some_iff.mp h).1
  rw [am_wl, List.getElem?_map, List.getElem?_range hl]
  show some (ad q, am_en kA ft ad (u.2 q) ((u.1[q]?).getD (0, 0, []))) = _
  rw [h]
  rfl
theorem am_wl_no {kA : Nat → ClassId} {ft : Nat → Nat → Bool} {ad : Nat → Nat} {u : am_St} {q : Nat} (h : u.1.length ≤ q) : (am_wl kA ft ad u)[q]? = none := List.getElem?_eq_none (by rw [am_wl_len]; exact h)
theorem am_wl_set {kA : Nat → ClassId} {ft : Nat → Nat → Bool} {ad : Nat → Nat} {u : am_St} {q : Nat} (e : Nat × Nat × List (Option Nat)) (f : Nat → Int32) : (am_wl kA ft ad u).set q (ad q, am_en kA ft ad f e) = am_wl kA ft ad (u.1.set q e, am_cp u.2 q f) := by
  apply List.ext_getElem?
  intro k
  by_cases hk : k < u.1.length
  · by_cases hq : q = k
    · subst hq
      rw [List.getElem?_set_self (by rw [am_wl_len]; exact hk)]
      rw [am_wl_at (u := (u.1.set q e, am_cp u.2 q f)) (e := e) (List.getElem?_set_self hk)]
      simp [am_cp]
    · rw [List.getElem?_set_ne hq]
      have h1 : u.1[k]? = some u.1[k] := List.getElem?_eq_getElem hk
      rw [am_wl_at h1, am_wl_at (u := (u.1.set q e, am_cp u.2 q f)) (e := u.1[k]) (by show (u.1.set q e)[k]? = _; rw [List.getElem?_set_ne hq]; exact h1)]
      simp [am_cp, show ¬ k = q from fun h => hq h.symm]
  · rw [am_wl_no (u := (u.1.set q e, am_cp u.2 q f)) (by show (u.1.set q e).length ≤ k; rw [List.length_set]; omega)]
    exact List.getElem?_eq_none (by rw [List.length_set, am_wl_len]; omega)
theorem am_wl_seti {kA : Nat → ClassId} {ft : Nat → Nat → Bool} {ad : Nat → Nat} {u : am_St} {q : Nat} {e : Nat × Nat × List (Option Nat)} (h : u.1[q]? = some e) (f : Nat → Int32) : (am_wl kA ft ad u).set q (ad q, am_en kA ft ad f e) = am_wl kA ft ad (u.1, am_cp u.2 q f) := by
  rw [am_wl_set e f]
  obtain ⟨h1, h2⟩ := List.getElem?_eq_some_iff.mp h
  rw [← h2, List.set_getElem_self]
end
section
/-! THE SMALL MACHINE'S STEP. An instruction: its kind, two numbers, an int, the next place. X: what is to hold at the next place. -/
def ao_push (v : Value) (nx : Nat) (X : am_X) (L : List (Option Value)) (S : List Value) (u : am_St) (b c : Nat) : Prop := X nx L (v :: S) u b c
def ao_iload (i nx : Nat) (X : am_X) (L : List (Option Value)) (S : List Value) (u : am_St) (b c : Nat) : Prop := match am_ld L i with
  | some (.int x) => X nx L (.int x :: S) u b c
  | _ => False
def ao_aload (i nx : Nat) (X : am_X) (L : List (Option Value)) (S : List Value) (u : am_St) (b c : Nat) : Prop := match am_ld L i with
  | some (.ref x) => X nx L (.ref x :: S) u b c
  | _ => False
def ao_lload (i nx : Nat) (X : am_X) (L : List (Option Value)) (S : List Value) (u : am_St) (b c : Nat) : Prop := match am_ld L i with
  | some (.long x) => X nx L (.long x :: S) u b c
  | _ => False
def ao_istore (i nx : Nat) (X : am_X) (L : List (Option Value)) (S : List Value) (u : am_St) (b c : Nat) : Prop := match S with
  | .int x :: S => X nx (am_st1 L i (.int x)) S u b c
  | _ => False
def ao_astore (i nx : Nat) (X : am_X) (L : List (Option Value)) (S : List Value) (u : am_St) (b c : Nat) : Prop := match S with
  | .ref x :: S => X nx (am_st1 L i (.ref x)) S u b c
  | _ => False
def ao_lstore (i nx : Nat) (X : am_X) (L : List (Option Value)) (S : List Value) (u : am_St) (b c : Nat) : Prop := match S with
  | .long x :: S => X nx (am_st2 L i (.long x)) S u b c
  | _ => False
def ao_iinc (i : Nat) (z : Int) (nx : Nat) (X : am_X) (L : List (Option Value)) (S : List Value) (u : am_St) (b c : Nat) : Prop := match am_ld L i with
  | some (.int x) => X nx (am_st1 L i (.int (x + Int32.ofInt z))) S u b c
  | _ => False
def ao_ibin (f : Int32 → Int32 → Int32) (nx : Nat) (X : am_X) (L : List (Option Value)) (S : List Value) (u : am_St) (b c : Nat) : Prop := match S with
  | .int y :: .int x :: S => X nx L (.int (f x y) :: S) u b c
  | _ => False
def ao_idiv (f : Int32 → Int32 → Int32) (nx : Nat) (X : am_X) (L : List (Option Value)) (S : List Value) (u : am_St) (b c : Nat) : Prop := match S with
  | .int y :: .int x :: S => ¬ y = 0 ∧ X nx L (.int (f x y) :: S) u b c
  | _ => False
def ao_lbin (f : Int64 → Int64 → Int64) (nx : Nat) (X : am_X) (L : List (Option Value)) (S : List Value) (u : am_St) (b c : Nat) : Prop := match S with
  | .long y :: .long x :: S => X nx L (.long (f x y) :: S) u b c
  | _ => False
def ao_ldiv (f : Int64 → Int64 → Int64) (nx : Nat) (X : am_X) (L : List (Option Value)) (S : List Value) (u : am_St) (b c : Nat) : Prop := match S with
  | .long y :: .long x :: S => ¬ y = 0 ∧ X nx L (.long (f x y) :: S) u b c
  | _ => False
def ao_lcmp (nx : Nat) (X : am_X) (L : List (Option Value)) (S : List Value) (u : am_St) (b c : Nat) : Prop := match S with
  | .long y :: .long x :: S => X nx L (.int (lg_cmp x y) :: S) u b c
  | _ => False
def ao_i2l (nx : Nat) (X : am_X) (L : List (Option Value)) (S : List Value) (u : am_St) (b c : Nat) : Prop := match S with
  | .int x :: S => X nx L (.long x.toInt64 :: S) u b c
  | _ => False
def ao_l2i (nx : Nat) (X : am_X) (L : List (Option Value)) (S : List Value) (u : am_St) (b c : Nat) : Prop := match S with
  | .long x :: S => X nx L (.int x.toInt32 :: S) u b c
  | _ => False
def ao_if (k tg nx : Nat) (X : am_X) (L : List (Option Value)) (S : List Value) (u : am_St) (b c : Nat) : Prop := match S with
  | .int x :: S => match k with
    | 0 => (x = 0 → X tg L S u b c) ∧ (¬ x = 0 → X nx L S u b c)
    | 1 => (¬ x = 0 → X tg L S u b c) ∧ (x = 0 → X nx L S u b c)
    | 2 => (x < 0 → X tg L S u b c) ∧ (¬ x < 0 → X nx L S u b c)
    | 3 => (0 ≤ x → X tg L S u b c) ∧ (¬ 0 ≤ x → X nx L S u b c)
    | 4 => (0 < x → X tg L S u b c) ∧ (¬ 0 < x → X nx L S u b c)
    | 5 => (x ≤ 0 → X tg L S u b c) ∧ (¬ x ≤ 0 → X nx L S u b c)
    | _ => False
  | _ => False
def ao_icmp (k tg nx : Nat) (X : am_X) (L : List (Option Value)) (S : List Value) (u : am_St) (b c : Nat) : Prop := match S with
  | .int y :: .int x :: S => match k with
    | 0 => (x = y → X tg L S u b c) ∧ (¬ x = y → X nx L S u b c)
    | 1 => (¬ x = y → X tg L S u b c) ∧ (x = y → X nx L S u b c)
    | 2 => (x < y → X tg L S u b c) ∧ (¬ x < y → X nx L S u b c)
    | 3 => (y ≤ x → X tg L S u b c) ∧ (¬ y ≤ x → X nx L S u b c)
    | 4 => (y < x → X tg L S u b c) ∧ (¬ y < x → X nx L S u b c)
    | 5 => (x ≤ y → X tg L S u b c) ∧ (¬ x ≤ y → X nx L S u b c)
    | _ => False
  | _ => False
def ao_goto (tg : Nat) (X : am_X) (L : List (Option Value)) (S : List Value) (u : am_St) (b c : Nat) : Prop := X tg L S u b c
def ao_getI (t k nx : Nat) (X : am_X) (L : List (Option Value)) (S : List Value) (u : am_St) (b c : Nat) : Prop := match S with
  | .ref a :: S => match u.1[a]? with
    | some (t', n, _) => if t' = t + 3 ∧ k < n then X nx L (.int (u.2 a k) :: S) u b c else False
    | none => False
  | _ => False
def ao_getR (t k nx : Nat) (X : am_X) (L : List (Option Value)) (S : List Value) (u : am_St) (b c : Nat) : Prop := match S with
  | .ref a :: S => match u.1[a]? with
    | some (t', n, rs) => if t' = t + 3 ∧ k < n then (match am_rg rs k with
      | some a' => X nx L (.ref a' :: S) u b c
      | none => False) else False
    | none => False
  | _ => False
def ao_putI (t k nx : Nat) (X : am_X) (L : List (Option Value)) (S : List Value) (u : am_St) (b c : Nat) : Prop := match S with
  | .int x :: .ref a :: S => match u.1[a]? with
    | some (t', n, _) => if t' = t + 3 ∧ k < n then X nx L S (u.1, am_up u.2 a k x) b c else False
    | none => False
  | _ => False
def ao_putZ (t k nx : Nat) (X : am_X) (L : List (Option Value)) (S : List Value) (u : am_St) (b c : Nat) : Prop := match S with
  | .int x :: .ref a :: S => match u.1[a]? with
    | some (t', n, _) => if t' = t + 3 ∧ k < n then ((x = 0 ∨ x = 1) ∧ X nx L S (u.1, am_up u.2 a k x) b c) else False
    | none => False
  | _ => False
def ao_putR (t k nx : Nat) (X : am_X) (L : List (Option Value)) (S : List Value) (u : am_St) (b c : Nat) : Prop := match S with
  | .ref v :: .ref a :: S => match u.1[a]? with
    | some (t', n, rs) => if t' = t + 3 ∧ k < n ∧ k < rs.length then X nx L S (u.1.set a (t', n, rs.set k (some v)), u.2) b c else False
    | none => False
  | _ => False
def ao_ald (t nx : Nat) (X : am_X) (L : List (Option Value)) (S : List Value) (u : am_St) (b c : Nat) : Prop := match S with
  | .int x :: .ref a :: S => ∃ n rs, u.1[a]? = some (t, n, rs) ∧ vp_in x n ∧ X nx L (.int (u.2 a x.toNatClampNeg) :: S) u b c
  | _ => False
def ao_aald (nx : Nat) (X : am_X) (L : List (Option Value)) (S : List Value) (u : am_St) (b c : Nat) : Prop := match S with
  | .int x :: .ref a :: S => ∃ n rs a', u.1[a]? = some (2, n, rs) ∧ vp_in x n ∧ am_rg rs x.toNatClampNeg = some a' ∧ X nx L (.ref a' :: S) u b c
  | _ => False
def ao_iast (nx : Nat) (X : am_X) (L : List (Option Value)) (S : List Value) (u : am_St) (b c : Nat) : Prop := match S with
  | .int v :: .int x :: .ref a :: S => ∃ n rs, u.1[a]? = some (0, n, rs) ∧ vp_in x n ∧ X nx L S (u.1, am_up u.2 a x.toNatClampNeg v) b c
  | _ => False
def ao_zast (nx : Nat) (X : am_X) (L : List (Option Value)) (S : List Value) (u : am_St) (b c : Nat) : Prop := match S with
  | .int v :: .int x :: .ref a :: S => ∃ n rs, u.1[a]? = some (1, n, rs) ∧ vp_in x n ∧ X nx L S (u.1, am_up u.2 a x.toNatClampNeg (vp_nar .boolean v)) b c
  | _ => False
def ao_alen (nx : Nat) (X : am_X) (L : List (Option Value)) (S : List Value) (u : am_St) (b c : Nat) : Prop := match S with
  | .ref a :: S => ∃ t n rs, u.1[a]? = some (t, n, rs) ∧ t < 3 ∧ X nx L (.int (Int32.ofNat n) :: S) u b c
  | _ => False
/-- every reference is to a cell that is there, or to one given from the start -/
def am_vr (n a : Nat) : Bool := Nat.blt a n || Nat.ble am_sb a
def am_vv (n : Nat) : Value → Bool
  | .ref a => am_vr n a
  | _ => true
def am_vo (n : Nat) : Option Value → Bool
  | some v => am_vv n v
  | none => true
def am_vn (n : Nat) : Option Nat → Bool
  | some a => Nat.blt a n
  | none => true
def am_val (sh : am_Sh) (L : List (Option Value)) (S : List Value) : Bool := S.all (am_vv sh.length) && (L.all (am_vo sh.length) && sh.all (fun e => e.2.2.all (am_vn sh.length)))
def am_h8 (S : List Value) : Bool := Nat.ble ((S.map fun v => v.category).sum) 8
def ao_call (y k : Nat) (kc : Nat × Nat) (C : am_C) (nx : Nat) (X : am_X) (L : List (Option Value)) (S : List Value) (u : am_St) (b c : Nat) : Prop :=
  if kc.1 ≤ b ∧ kc.2 ≤ c ∧ k ≤ S.length ∧ am_h8 (S.drop k) = true ∧ (kc.1 = 0 ∨ am_val u.1 L (S.drop k) = true) then C y (S.take k).reverse u (fun r u' => X nx L (r.toList ++ S.drop k) u' (b - kc.1) (c - kc.2)) else False
def ao_vcall (y k rc : Nat) (kc : Nat × Nat) (C : am_C) (nx : Nat) (X : am_X) (L : List (Option Value)) (S : List Value) (u : am_St) (b c : Nat) : Prop := match (S.take k).reverse with
  | .ref a :: _ => match u.1[a]? with
    | some (t', _, _) => if t' = rc + 3 then ao_call y k kc C nx X L S u b c else False
    | none => False
  | _ => False
def ao_ret (Q : am_Q) (S : List Value) (u : am_St) : Prop := match S with
  | [] => Q none u
  | _ => False
def ao_iret (Q : am_Q) (S : List Value) (u : am_St) : Prop := match S with
  | [.int v] => Q (some (.int v)) u
  | _ => False
def ao_zret (Q : am_Q) (S : List Value) (u : am_St) : Prop := match S with
  | [.int v] => (v = 0 ∨ v = 1) ∧ Q (some (.int v)) u
  | _ => False
def ao_aret (Q : am_Q) (S : List Value) (u : am_St) : Prop := match S with
  | [.ref v] => Q (some (.ref v)) u
  | _ => False
def ao_lret (Q : am_Q) (S : List Value) (u : am_St) : Prop := match S with
  | [.long v] => Q (some (.long v)) u
  | _ => False
def ao_new (t n nx : Nat) (X : am_X) (L : List (Option Value)) (S : List Value) (u : am_St) (b c : Nat) : Prop :=
  if 1 ≤ b ∧ n ≤ c ∧ u.1.length < am_sb ∧ am_val u.1 L S = true then X nx L (.ref u.1.length :: S) (u.1 ++ [(t + 3, n, List.replicate n none)], am_zr u.2 u.1.length 1) (b - 1) (c - n) else False
def ao_newa (t n nx : Nat) (X : am_X) (L : List (Option Value)) (S : List Value) (u : am_St) (b c : Nat) : Prop := match S with
  | .int x :: S => if x = Int32.ofNat n ∧ n < 100000 ∧ 1 ≤ b ∧ n ≤ c ∧ u.1.length < am_sb ∧ am_val u.1 L S = true then X nx L (.ref u.1.length :: S) (u.1 ++ [(t, n, [])], am_zr u.2 u.1.length 1) (b - 1) (c - n) else False
  | _ => False
def ao_newg (n k nx : Nat) (X : am_X) (L : List (Option Value)) (S : List Value) (u : am_St) (b c : Nat) : Prop := match S with
  | .int y :: .int x :: S => if x = Int32.ofNat n ∧ y = Int32.ofNat k ∧ n < 1000 ∧ k < 1000 ∧ 1 + n ≤ b ∧ n + n * k ≤ c ∧ u.1.length + 1 + n ≤ am_sb ∧ am_val u.1 L S = true then
      X nx L (.ref u.1.length :: S) (u.1 ++ (2, n, (List.range n).map fun j => some (u.1.length + 1 + j)) :: List.replicate n (0, k, []), am_zr u.2 u.1.length (1 + n)) (b - (1 + n)) (c - (n + n * k)) else False
  | _ => False
def ao_dup (nx : Nat) (X : am_X) (L : List (Option Value)) (S : List Value) (u : am_St) (b c : Nat) : Prop := match S with
  | v :: S => if v.category = 1 then X nx L (v :: v :: S) u b c else False
  | _ => False
def ao_pop (nx : Nat) (X : am_X) (L : List (Option Value)) (S : List Value) (u : am_St) (b c : Nat) : Prop := match S with
  | v :: S => if v.category = 1 then X nx L S u b c else False
  | _ => False
def ao_dupx1 (nx : Nat) (X : am_X) (L : List (Option Value)) (S : List Value) (u : am_St) (b c : Nat) : Prop := match S with
  | v :: w :: S => if v.category = 1 ∧ w.category = 1 then X nx L (v :: w :: v :: S) u b c else False
  | _ => False
def ao_dup2 (nx : Nat) (X : am_X) (L : List (Option Value)) (S : List Value) (u : am_St) (b c : Nat) : Prop := match S with
  | v :: w :: S => if v.category = 1 ∧ w.category = 1 then X nx L (v :: w :: v :: w :: S) u b c else False
  | _ => False
def ao_sld (sn : Nat → Nat) (sv : Nat → Nat → Int32) (ns nx : Nat) (X : am_X) (L : List (Option Value)) (S : List Value) (u : am_St) (b c : Nat) : Prop := match S with
  | .int x :: .ref a :: S => ∃ k, a = am_sb + k ∧ k < ns ∧ vp_in x (sn k) ∧ X nx L (.int (sv k x.toNatClampNeg) :: S) u b c
  | _ => False
def ao_slen (sn : Nat → Nat) (ns nx : Nat) (X : am_X) (L : List (Option Value)) (S : List Value) (u : am_St) (b c : Nat) : Prop := match S with
  | .ref a :: S => ∃ k, a = am_sb + k ∧ k < ns ∧ X nx L (.int (Int32.ofNat (sn k)) :: S) u b c
  | _ => False
def ao_math2 (f : Int32 → Int32 → Int32) (nx : Nat) (X : am_X) (L : List (Option Value)) (S : List Value) (u : am_St) (b c : Nat) : Prop := match S with
  | .int y :: .int x :: S => if am_h8 S = true then X nx L (.int (f x y) :: S) u b c else False
  | _ => False
def ao_math1 (f : Int32 → Int32) (nx : Nat) (X : am_X) (L : List (Option Value)) (S : List Value) (u : am_St) (b c : Nat) : Prop := match S with
  | .int x :: S => if am_h8 S = true then X nx L (.int (f x) :: S) u b c else False
  | _ => False
def ao_math2l (f : Int64 → Int64 → Int64) (nx : Nat) (X : am_X) (L : List (Option Value)) (S : List Value) (u : am_St) (b c : Nat) : Prop := match S with
  | .long y :: .long x :: S => if am_h8 S = true then X nx L (.long (f x y) :: S) u b c else False
  | _ => False
def ao_copy (nx : Nat) (X : am_X) (L : List (Option Value)) (S : List Value) (u : am_St) (b c : Nat) : Prop := match S with
  | .int n :: .int dp :: .ref a1 :: .int sp :: .ref a0 :: S => am_h8 S = true ∧ ∃ n0 r0 n1 r1, u.1[a0]? = some (0, n0, r0) ∧ u.1[a1]? = some (0, n1, r1) ∧ ¬ sp < 0 ∧ ¬ dp < 0 ∧ ¬ n < 0 ∧ sp.toNatClampNeg + n.toNatClampNeg ≤ n0 ∧ dp.toNatClampNeg + n.toNatClampNeg ≤ n1 ∧
      X nx L S (u.1, am_cp u.2 a1 (va_cpy (u.2 a0) (u.2 a1) sp.toNatClampNeg dp.toNatClampNeg n.toNatClampNeg)) b c
  | _ => False
def ao_oini (nx : Nat) (X : am_X) (L : List (Option Value)) (S : List Value) (u : am_St) (b c : Nat) : Prop := match S with
  | .ref _ :: S => if am_h8 S = true then X nx L S u b c else False
  | _ => False
def ao_xld (xl : Nat) (xs : Nat → Int32) (nx : Nat) (X : am_X) (L : List (Option Value)) (S : List Value) (u : am_St) (b c : Nat) : Prop := match S with
  | .int x :: .ref a :: S => a = am_xb ∧ vp_in x xl ∧ X nx L (.int (xs x.toNatClampNeg) :: S) u b c
  | _ => False
def ao_xlen (xl nx : Nat) (X : am_X) (L : List (Option Value)) (S : List Value) (u : am_St) (b c : Nat) : Prop := match S with
  | .ref a :: S => a = am_xb ∧ X nx L (.int (Int32.ofNat xl) :: S) u b c
  | _ => False
def ao_switch (f : Int32 → Nat) (X : am_X) (L : List (Option Value)) (S : List Value) (u : am_St) (b c : Nat) : Prop := match S with
  | .int x :: S => X (f x) L S u b c
  | _ => False
/-- the surroundings: kinds of the methods' receivers, what they make, the static rows, the script, where a switch leads -/
abbrev am_E : Type := (Nat → Nat) × (Nat → Nat × Nat) × (Nat × (Nat → Nat) × (Nat → Nat → Int32)) × (Nat × (Nat → Int32)) × (Nat → Int32 → Nat)
def am_op (E : am_E) (C : am_C) (Q : am_Q) (pc : Nat) (I : am_In) (X : am_X) (L : List (Option Value)) (S : List Value) (u : am_St) (b c : Nat) : Prop :=
  match I with
  | (op, i, j, z, nx) => match op with
    | 0 => ao_push (.int (Int32.ofInt z)) nx X L S u b c
    | 1 => ao_iload i nx X L S u b c
    | 2 => ao_aload i nx X L S u b c
    | 3 => ao_lload i nx X L S u b c
    | 4 => ao_istore i nx X L S u b c
    | 5 => ao_astore i nx X L S u b c
    | 6 => ao_lstore i nx X L S u b c
    | 7 => ao_iinc i z nx X L S u b c
    | 8 => ao_ibin (fun x y => x + y) nx X L S u b c
    | 9 => ao_ibin (fun x y => x - y) nx X L S u b c
    | 10 => ao_ibin (fun x y => x * y) nx X L S u b c
    | 11 => ao_idiv (fun x y => x / y) nx X L S u b c
    | 12 => ao_idiv (fun x y => x - x / y * y) nx X L S u b c
    | 13 => ao_ibin (fun x y => x &&& y) nx X L S u b c
    | 14 => ao_if j i nx X L S u b c
    | 15 => ao_icmp j i nx X L S u b c
    | 16 => ao_goto i X L S u b c
    | 17 => ao_getI i j nx X L S u b c
    | 18 => ao_getR i j nx X L S u b c
    | 19 => ao_putI i j nx X L S u b c
    | 20 => ao_putZ i j nx X L S u b c
    | 21 => ao_putR i j nx X L S u b c
    | 22 => ao_ald 0 nx X L S u b c
    | 23 => ao_ald 1 nx X L S u b c
    | 24 => ao_aald nx X L S u b c
    | 25 => ao_iast nx X L S u b c
    | 26 => ao_zast nx X L S u b c
    | 27 => ao_alen nx X L S u b c
    | 28 => ao_call i j (E.2.1 i) C nx X L S u b c
    | 29 => ao_vcall i j (E.1 i) (E.2.1 i) C nx X L S u b c
    | 30 => ao_ret Q S u
    | 31 => ao_iret Q S u
    | 32 => ao_zret Q S u
    | 33 => ao_aret Q S u
    | 34 => ao_lret Q S u
    | 35 => ao_new i j nx X L S u b c
    | 36 => ao_newa i j nx X L S u b c
    | 37 => ao_newg i j nx X L S u b c
    | 38 => ao_dup nx X L S u b c
    | 39 => ao_pop nx X L S u b c
    | 40 => ao_dupx1 nx X L S u b c
    | 41 => ao_dup2 nx X L S u b c
    | 42 => ao_push (.long (Int64.ofInt z)) nx X L S u b c
    | 43 => ao_i2l nx X L S u b c
    | 44 => ao_l2i nx X L S u b c
    | 45 => ao_lbin (fun x y => x + y) nx X L S u b c
    | 46 => ao_lbin (fun x y => x - y) nx X L S u b c
    | 47 => ao_lbin (fun x y => x * y) nx X L S u b c
    | 48 => ao_ldiv (fun x y => x / y) nx X L S u b c
    | 49 => ao_lcmp nx X L S u b c
    | 50 => ao_push (.ref (am_sb + i)) nx X L S u b c
    | 51 => ao_sld E.2.2.1.2.1 E.2.2.1.2.2 E.2.2.1.1 nx X L S u b c
    | 52 => ao_slen E.2.2.1.2.1 E.2.2.1.1 nx X L S u b c
    | 53 => ao_math2 (fun x y => if x < y then y else x) nx X L S u b c
    | 54 => ao_math2 (fun x y => if y < x then y else x) nx X L S u b c
    | 55 => ao_math1 (fun x => if 0 ≤ x then x else 0 - x) nx X L S u b c
    | 56 => ao_math2l (fun x y => if y < x then y else x) nx X L S u b c
    | 57 => ao_copy nx X L S u b c
    | 58 => ao_oini nx X L S u b c
    | 59 => ao_xld E.2.2.2.1.1 E.2.2.2.1.2 nx X L S u b c
    | 60 => ao_xlen E.2.2.2.1.1 nx X L S u b c
    | 61 => ao_switch (E.2.2.2.2 pc) X L S u b c
    | _ => False
def am_F (E : am_E) (cd : Nat → Option am_In) (C : am_C) (Q : am_Q) (X : am_X) : am_X := fun pc L S u b c => match cd pc with
  | some I => am_op E C Q pc I X L S u b c
  | none => False
/-- the weakest start: by every X that is closed under steps backwards -/
def am_wp (E : am_E) (cd : Nat → Option am_In) (C : am_C) (Q : am_Q) : am_X := fun pc L S u b c => ∀ X : am_X, (∀ pc L S u b c, am_F E cd C Q X pc L S u b c → X pc L S u b c) → X pc L S u b c
set_option maxHeartbeats 4000000 in
theorem am_op_mono {E : am_E} {C C' : am_C} {Q Q' : am_Q} {X Y : am_X} (hC : ∀ y As u P P', (∀ r u, P r u → P' r u) → C y As u P → C' y As u P') (hQ : ∀ r u, Q r u → Q' r u) (hX : ∀ pc L S u b c, X pc L S u b c → Y pc L S u b c)
    (pc : Nat) (I : am_In) (L : List (Option Value)) (S : List Value) (u : am_St) (b c : Nat) (h : am_op E C Q pc I X L S u b c) : am_op E C' Q' pc I Y L S u b c := by
  have hcall : ∀ (y k : Nat) (kc : Nat × Nat) (nx : Nat), ao_call y k kc C nx X L S u b c → ao_call y k kc C' nx Y L S u b c := by
    intro y k kc nx
    unfold ao_call
    split
    · exact fun h => hC _ _ _ _ _ (fun r u hr => hX _ _ _ _ _ _ hr) h
    · exact id
  obtain ⟨op, i, j, z, nx⟩ := I
  revert h
  unfold am_op
  dsimp only
  split
  · exact hX _ _ _ _ _ _
  · unfold ao_iload; split; exact hX _ _ _ _ _ _; exact id
  · unfold ao_aload; split; exact hX _ _ _ _ _ _; exact id
  · unfold ao_lload; split; exact hX _ _ _ _ _ _; exact id
  · unfold ao_istore; split; exact hX _ _ _ _ _ _; exact id
  · unfold ao_astore; split; exact hX _ _ _ _ _ _; exact id
  · unfold ao_lstore; split; exact hX _ _ _ _ _ _; exact id
  · unfold ao_iinc; split; exact hX _ _ _ _ _ _; exact id
  · unfold ao_ibin; split; exact hX _ _ _ _ _ _; exact id
  · unfold ao_ibin; split; exact hX _ _ _ _ _ _; exact id
  · unfold ao_ibin; split; exact hX _ _ _ _ _ _; exact id
  · unfold ao_idiv; split; exact fun h => ⟨h.1, hX _ _ _ _ _ _ h.2⟩; exact id
  · unfold ao_idiv; split; exact fun h => ⟨h.1, hX _ _ _ _ _ _ h.2⟩; exact id
  · unfold ao_ibin; split; exact hX _ _ _ _ _ _; exact id
  · unfold ao_if; split
    · split <;> first | exact fun h => ⟨fun q => hX _ _ _ _ _ _ (h.1 q), fun q => hX _ _ _ _ _ _ (h.2 q)⟩ | exact id
    · exact id
  · unfold ao_icmp; split
    · split <;> first | exact fun h => ⟨fun q => hX _ _ _ _ _ _ (h.1 q), fun q => hX _ _ _ _ _ _ (h.2 q)⟩ | exact id
    · exact id
  · exact hX _ _ _ _ _ _
  · unfold ao_getI; split
    · split
      · split; exact hX _ _ _ _ _ _; exact id
      · exact id
    · exact id
  · unfold ao_getR; split
    · split
      · split
        · split; exact hX _ _ _ _ _ _; exact id
        · exact id
      · exact id
    · exact id
  · unfold ao_putI; split
    · split
      · split; exact hX _ _ _ _ _ _; exact id
      · exact id
    · exact id
  · unfold ao_putZ; split
    · split
      · split; exact fun h => ⟨h.1, hX _ _ _ _ _ _ h.2⟩; exact id
      · exact id
    · exact id
  · unfold ao_putR; split
    · split
      · split; exact hX _ _ _ _ _ _; exact id
      · exact id
    · exact id
  · unfold ao_ald; split; exact fun ⟨n, rs, h1, h2, h3⟩ => ⟨n, rs, h1, h2, hX _ _ _ _ _ _ h3⟩; exact id
  · unfold ao_ald; split; exact fun ⟨n, rs, h1, h2, h3⟩ => ⟨n, rs, h1, h2, hX _ _ _ _ _ _ h3⟩; exact id
  · unfold ao_aald; split; exact fun ⟨n, rs, a, h1, h2, h3, h4⟩ => ⟨n, rs, a, h1, h2, h3, hX _ _ _ _ _ _ h4⟩; exact id
  · unfold ao_iast; split; exact fun ⟨n, rs, h1, h2, h3⟩ => ⟨n, rs, h1, h2, hX _ _ _ _ _ _ h3⟩; exact id
  · unfold ao_zast; split; exact fun ⟨n, rs, h1, h2, h3⟩ => ⟨n, rs, h1, h2, hX _ _ _ _ _ _ h3⟩; exact id
  · unfold ao_alen; split; exact fun ⟨t, n, rs, h1, h2, h3⟩ => ⟨t, n, rs, h1, h2, hX _ _ _ _ _ _ h3⟩; exact id
  · exact hcall _ _ _ _
  · unfold ao_vcall; split
    · split
      · split; exact hcall _ _ _ _; exact id
      · exact id
    · exact id
  · unfold ao_ret; split; exact hQ _ _; exact id
  · unfold ao_iret; split; exact hQ _ _; exact id
  · unfold ao_zret; split; exact fun h => ⟨h.1, hQ _ _ h.2⟩; exact id
  · unfold ao_aret; split; exact hQ _ _; exact id
  · unfold ao_lret; split; exact hQ _ _; exact id
  · unfold ao_new; split; exact hX _ _ _ _ _ _; exact id
  · unfold ao_newa; split
    · split; exact hX _ _ _ _ _ _; exact id
    · exact id
  · unfold ao_newg; split
    · split; exact hX _ _ _ _ _ _; exact id
    · exact id
  · unfold ao_dup; split
    · split; exact hX _ _ _ _ _ _; exact id
    · exact id
  · unfold ao_pop; split
    · split; exact hX _ _ _ _ _ _; exact id
    · exact id
  · unfold ao_dupx1; split
    · split; exact hX _ _ _ _ _ _; exact id
    · exact id
  · unfold ao_dup2; split
    · split; exact hX _ _ _ _ _ _; exact id
    · exact id
  · exact hX _ _ _ _ _ _
  · unfold ao_i2l; split; exact hX _ _ _ _ _ _; exact id
  · unfold ao_l2i; split; exact hX _ _ _ _ _ _; exact id
  · unfold ao_lbin; split; exact hX _ _ _ _ _ _; exact id
  · unfold ao_lbin; split; exact hX _ _ _ _ _ _; exact id
  · unfold ao_lbin; split; exact hX _ _ _ _ _ _; exact id
  · unfold ao_ldiv; split; exact fun h => ⟨h.1, hX _ _ _ _ _ _ h.2⟩; exact id
  · unfold ao_lcmp; split; exact hX _ _ _ _ _ _; exact id
  · exact hX _ _ _ _ _ _
  · unfold ao_sld; split; exact fun ⟨k, h1, h2, h3, h4⟩ => ⟨k, h1, h2, h3, hX _ _ _ _ _ _ h4⟩; exact id
  · unfold ao_slen; split; exact fun ⟨k, h1, h2, h4⟩ => ⟨k, h1, h2, hX _ _ _ _ _ _ h4⟩; exact id
  · unfold ao_math2; split
    · split; exact hX _ _ _ _ _ _; exact id
    · exact id
  · unfold ao_math2; split
    · split; exact hX _ _ _ _ _ _; exact id
    · exact id
  · unfold ao_math1; split
    · split; exact hX _ _ _ _ _ _; exact id
    · exact id
  · unfold ao_math2l; split
    · split; exact hX _ _ _ _ _ _; exact id
    · exact id
  · unfold ao_copy; split
    · exact fun ⟨h0, n0, r0, n1, r1, h1, h2, h3, h4, h5, h6, h7, h8⟩ => ⟨h0, n0, r0, n1, r1, h1, h2, h3, h4, h5, h6, h7, hX _ _ _ _ _ _ h8⟩
    · exact id
  · unfold ao_oini; split
    · split; exact hX _ _ _ _ _ _; exact id
    · exact id
  · unfold ao_xld; split; exact fun ⟨h1, h2, h3⟩ => ⟨h1, h2, hX _ _ _ _ _ _ h3⟩; exact id
  · unfold ao_xlen; split; exact fun ⟨h1, h3⟩ => ⟨h1, hX _ _ _ _ _ _ h3⟩; exact id
  · unfold ao_switch; split; exact hX _ _ _ _ _ _; exact id
  · exact id
theorem am_F_mono {E : am_E} {cd : Nat → Option am_In} {C C' : am_C} {Q Q' : am_Q} {X Y : am_X} (hC : ∀ y As u P P', (∀ r u, P r u → P' r u) → C y As u P → C' y As u P') (hQ : ∀ r u, Q r u → Q' r u) (hX : ∀ pc L S u b c, X pc L S u b c → Y pc L S u b c)
    (pc : Nat) (L : List (Option Value)) (S : List Value) (u : am_St) (b c : Nat) (h : am_F E cd C Q X pc L S u b c) : am_F E cd C' Q' Y pc L S u b c := by
  revert h
  unfold am_F
  split
  · exact am_op_mono hC hQ hX _ _ _ _ _ _ _
  · exact id
/-- a call's meaning is monotone -/
def am_mo (C : am_C) : Prop := ∀ y As u P P', (∀ r u, P r u → P' r u) → C y As u P → C y As u P'
theorem am_wp_in {E : am_E} {cd : Nat → Option am_In} {C : am_C} {Q : am_Q} (hC : am_mo C) {pc : Nat} {L : List (Option Value)} {S : List Value} {u : am_St} {b c : Nat} (h : am_F E cd C Q (am_wp E cd C Q) pc L S u b c) : am_wp E cd C Q pc L S u b c :=
  fun X hX => hX _ _ _ _ _ _ (am_F_mono hC (fun _ _ q => q) (fun _ _ _ _ _ _ hw => hw X hX) _ _ _ _ _ _ h)
theorem am_wp_mono {E : am_E} {cd : Nat → Option am_In} {C C' : am_C} {Q Q' : am_Q} (hC : ∀ y As u P P', (∀ r u, P r u → P' r u) → C y As u P → C' y As u P') (hQ : ∀ r u, Q r u → Q' r u) {pc : Nat} {L : List (Option Value)} {S : List Value} {u : am_St} {b c : Nat} (h : am_wp E cd C Q pc L S u b c) : am_wp E cd C' Q' pc L S u b c :=
  fun X hX => h X (fun _ _ _ _ _ _ hF => hX _ _ _ _ _ _ (am_F_mono hC hQ (fun _ _ _ _ _ _ q => q) _ _ _ _ _ _ hF))
def am_fr (E : am_E) (cd : Nat → Option am_In) (C : am_C) (Q : am_Q) (stop : Nat → Bool) (X : am_X) : Nat → am_X
  | 0 => X
  | n + 1 => fun pc L S u b c => if stop pc = true then X pc L S u b c else am_F E cd C Q (am_fr E cd C Q stop X n) pc L S u b c
theorem am_fr_in {E : am_E} {cd : Nat → Option am_In} {C : am_C} {Q : am_Q} (hC : am_mo C) (stop : Nat → Bool) : ∀ (n pc : Nat) (L : List (Option Value)) (S : List Value) (u : am_St) (b c : Nat), am_fr E cd C Q stop (am_wp E cd C Q) n pc L S u b c → am_wp E cd C Q pc L S u b c
  | 0, _, _, _, _, _, _, h => h
  | n + 1, pc, L, S, u, b, c, h => by
    revert h
    unfold am_fr
    split
    · exact id
    · exact fun h => am_wp_in hC (am_F_mono hC (fun _ _ q => q) (am_fr_in hC stop n) _ _ _ _ _ _ h)
theorem am_go {E : am_E} {cd : Nat → Option am_In} {C : am_C} {Q : am_Q} (hC : am_mo C) (stop : Nat → Bool) (n : Nat) {pc : Nat} {L : List (Option Value)} {S : List Value} {u : am_St} {b c : Nat} (h : ∀ X : am_X, (∀ pc L S u b c, am_wp E cd C Q pc L S u b c → X pc L S u b c) → am_F E cd C Q (am_fr E cd C Q stop X n) pc L S u b c) : am_wp E cd C Q pc L S u b c :=
  am_wp_in hC (am_F_mono hC (fun _ _ q => q) (am_fr_in hC stop n) _ _ _ _ _ _ (h _ (fun _ _ _ _ _ _ q => q)))
/-- the locals at a method's entry -/
def am_la : List Value → List (Option Value)
  | [] => []
  | v :: r => if v.category = 2 then some v :: none :: am_la r else some v :: am_la r
def am_lo (n : Nat) (As : List Value) : List (Option Value) := am_la As ++ List.replicate (n - (am_la As).length) none
/-- a method's meaning, calls at most d deep -/
def am_sp (E : am_E) (cds : Nat → Nat → Option am_In) (ml : Nat → Nat) : Nat → am_C
  | 0 => fun _ _ _ _ => False
  | d + 1 => fun y As u Q => (am_la As).length ≤ ml y ∧ am_wp E (cds y) (am_sp E cds ml d) Q 0 (am_lo (ml y) As) [] u (E.2.1 y).1 (E.2.1 y).2
theorem am_sp_mo {E : am_E} {cds : Nat → Nat → Option am_In} {ml : Nat → Nat} : ∀ d, am_mo (am_sp E cds ml d)
  | 0 => fun _ _ _ _ _ _ h => h
  | d + 1 => fun _ _ _ _ _ hP h => ⟨h.1, am_wp_mono (am_sp_mo d) hP h.2⟩
theorem am_sp_s {E : am_E} {cds : Nat → Nat → Option am_In} {ml : Nat → Nat} : ∀ d y As u P P', (∀ r u, P r u → P' r u) → am_sp E cds ml d y As u P → am_sp E cds ml (d + 1) y As u P'
  | 0, _, _, _, _, _, _, h => h.elim
  | d + 1, _, _, _, _, _, hP, h => ⟨h.1, am_wp_mono (am_sp_s d) hP h.2⟩
theorem am_sp_le {E : am_E} {cds : Nat → Nat → Option am_In} {ml : Nat → Nat} {d d' y : Nat} {As : List Value} {u : am_St} {P P' : am_Q} (hd : d ≤ d') (hP : ∀ r u, P r u → P' r u) (h : am_sp E cds ml d y As u P) : am_sp E cds ml d' y As u P' := by
  induction d' with
  | zero =>
    have : d = 0 := by omega
    subst this
    exact h.elim
  | succ n ih =>
    rcases Nat.lt_or_ge n d with q | q
    · have : d = n + 1 := by omega
      subst this
      exact am_sp_mo _ _ _ _ _ _ hP h
    · exact am_sp_s n _ _ _ _ _ (fun _ _ q => q) (ih q)
end
section
/-! arrays of arrays: the word on their class; the rest of this part is the starting text of claim/NAMES.whole.lean.txt -/
def va_AOA (t : FieldType) (U : State) : Prop := (Cond.arrayOver (.array t)).before #[] U = true
theorem va_AOA.use {t : FieldType} {A : Array Value} {U : State} (h : va_AOA t U) : (Cond.arrayOver (.array t)).before A U = true := h
theorem va_AOA.moved {t : FieldType} {u U : State} (hvm : u.vm.Alike U.vm) (h : va_AOA t u) : va_AOA t U := by
  have h1 : (Cond.arrayOver (.array t)).before #[] (u.setVm U.vm) = true := by
    rw [Cond.arrayOver_setVmC hvm]
    exact h
  exact h1
/-! ===== BEGIN new T[n][m]: the outer array a place, the inner ones among the pooled ===== -/
/-- f, but v at every address of l -/
def vr_up {α : Type} (f : Nat → α) (l : List Nat) (v : α) : Nat → α := fun a => if a ∈ l then v else f a
theorem vr_up_in {α : Type} {f : Nat → α} {l : List Nat} {v : α} {a : Nat} (h : a ∈ l) : vr_up f l v a = v := if_pos h
theorem vr_up_ne {α : Type} {f : Nat → α} {l : List Nat} {v : α} {a : Nat} (h : a ∉ l) : vr_up f l v a = f a := if_neg h
theorem vr_rows {L l : List Nat} {f : Nat → va_E} {e : va_E} (h : ∀ a, a ∈ l → a ∉ L) : va_pl L f ++ l.map (fun a => (a, e)) = va_pl (L ++ l) (vr_up f l e) := by
  unfold va_pl
  rw [List.map_append]
  congr 1
  · apply List.map_congr_left
    intro a ha
    rw [vr_up_ne (fun q => h a q ha)]
  · apply List.map_congr_left
    intro a ha
    rw [vr_up_in ha]
theorem vr_lay {X rows : va_W} {x : Nat × va_E} {pl : va_W} {D : va_G} {cl : List vw_C} {H : Heap} (hP : va_P D cl (((X ++ pl) ++ [x]) ++ rows) H) : va_P D cl ((X ++ [x]) ++ (pl ++ rows)) H := by
  rw [List.append_assoc (X ++ pl)] at hP
  have h := va_P.swap hP
  rw [← List.append_assoc X] at h
  have h2 := va_P.swap h
  rw [List.append_assoc (X ++ [x])] at h2
  exact h2
theorem vr_layD {X rows : va_W} {x : Nat × va_E} {pl : va_W} {A : Nat → Prop} (hD : va_D A (((X ++ pl) ++ [x]) ++ rows)) : va_D A ((X ++ [x]) ++ (pl ++ rows)) := by
  rw [List.append_assoc (X ++ pl)] at hD
  have h := va_D.swap hD
  rw [← List.append_assoc X] at h
  have h2 := va_D.swap h
  rw [List.append_assoc (X ++ [x])] at h2
  exact h2
theorem vr_outer (c : ClassId) (N h0 : Nat) : ∀ i : Nat, Jvm.Free.Multi.outerC c N h0 i = arrV c N (fun j => va_rf (if j < i then some (h0 + 1 + j) else none))
  | 0 => by
    show ({ cls := c, slots := Array.replicate N .null, vm := .none } : Cell) = _
    rw [arrV_new]
    refine congrArg (arrV c N) (funext fun j => ?_)
    simp [va_rf]
  | i + 1 => by
    show (Jvm.Free.Multi.outerC c N h0 i).setSlot i (.ref (h0 + 1 + i)) = _
    rw [vr_outer c N h0 i, arrV_store]
    refine congrArg (arrV c N) (funext fun j => ?_)
    by_cases e : j = i
    · subst e
      simp [updV, va_rf]
    · by_cases h : j < i
      · simp [updV, e, h, Nat.lt_succ_of_lt h]
      · simp [updV, e, h, show ¬ j < i + 1 by omega]
section VGM
variable {p : Program} {l : Launch} {e : Env} {R : Room} {s : State} {m : MethodId} {args : Array Value} {below : List Frame} {meth : Method} {c : Code} {H : Heap} {locs : List Loc} {cells slots : Nat} {Q : State → Prop}
variable {cc : ByteArray} {pc : Nat} {ls : Array Slot} {rest : List Value} {D : va_G} {cl : List vw_C} {A : Nat → Prop} {a : Nat} {tys : List (ClassId × FieldType)} {ws : va_W} {H0 : Heap}
theorem va_mna {X : va_W} {L : List Nat} {f : Nat → va_E} {cc : ByteArray} (hexec : p.tables.exec = Jvm.exec) (hb : c.code = cc) {own : String} {index : Nat} {ty : FieldType} {cy : ClassId} (hown : s.vm.findClass own = some m.cls) (hclink : (Cond.classLink own index ("[" ++ (FieldType.array ty).toString)).before args s = true) (hover : va_AOA ty s) (harr : (Cond.arrayClass ty).before args s = true) (hcy : s.vm.findClass (FieldType.array ty).toString = some cy)
    (hK : va_K D cl tys s) (hP : va_P D cl (X ++ va_pl L f) H) (hD : va_D A (X ++ va_pl L f)) (hS : va_S A H0 H locs) (hA : ∀ q, H0.size ≤ q → A q) {n k : Int32} {N' K' : Nat} {z : vp_A} (hn : ¬ n < 0) (hk : ¬ k < 0) (hN : n.toNatClampNeg = N') (hM : k.toNatClampNeg = K')
    (hb1 : N' * 4 ≤ 536870912) (hb2 : K' * componentBytes ty ≤ 536870912) (hb3 : K' ≤ 536870912) (hdf : fits ty (defaultValue ty) = true) (hdd : (defaultValue ty).isDefault = true) (hcells : cells + (1 + N') ≤ R.cells) (hslots : slots + (N' + N' * K') ≤ R.slots) (hz : ∀ c : ClassId, Jvm.Free.Multi.innerC c K' (defaultValue ty) = vp_cell c z) (hdg : decode cc pc = .ok (.multianewarray index 2, 4))
    (kk : ∀ (q : Nat) (r : Nat → Nat) (cA : ClassId) (H1 : Heap), (∀ i j : Nat, i < N' → j < N' → r i = r j → i = j) → (∀ i : Nat, i < N' → r i ∉ L) → va_K D cl (tys ++ [(cA, .array ty)]) s →
      va_P D cl ((X ++ [(q, .inl (cA, N', .inr (.inr (.inr (.inr (fun i => if i < N' then some (r i) else none))))))]) ++ va_pl (L ++ (List.range N').map r) (vr_up f ((List.range N').map r) (.inl (cy, z)))) H1 → va_D A ((X ++ [(q, .inl (cA, N', .inr (.inr (.inr (.inr (fun i => if i < N' then some (r i) else none))))))]) ++ va_pl (L ++ (List.range N').map r) (vr_up f ((List.range N').map r) (.inl (cy, z)))) → va_S A H0 H1 locs →
      W p l e R s m args below meth c H1 locs (cells + 1 + N') (slots + N' + N' * K') Q (F0 m (pc + 4) ls (.ref q :: rest))) : W p l e R s m args below meth c H locs cells slots Q (F0 m pc ls (.int k :: .int n :: rest)) := by
  subst hN
  subst hM
  intro T hT Xs
  obtain ⟨vm₁, cA, comp, -, fA, fC, hO, -, X', step⟩ := Xs.multianewarray2F hexec hown hclink (va_AOA.use hover) harr (g := F0 m pc ls (.int k :: .int n :: rest)) rfl (by rw [hb]; exact hdg) rfl hn hk hb1 hb2 hb3 hdf hdd hcells hslots
  have ec : some cy = some comp := hcy.symm.trans fC
  cases ec
  generalize hF : Jvm.Free.Multi.fill (T.setVm vm₁) cA cy n.toNatClampNeg k.toNatClampNeg (defaultValue ty) n.toNatClampNeg = F at X' step
  have hTh : (T.setVm vm₁).heap = H := hT
  obtain ⟨f1, f2, -, -⟩ := Jvm.Free.Multi.fill_facts (T.setVm vm₁) cA cy n.toNatClampNeg k.toNatClampNeg (defaultValue ty) n.toNatClampNeg
  rw [hF, hTh] at f1 f2
  have hold : ∀ x : Nat, x < H.size → F.heap[x]? = H[x]? := fun x hx => by
    have := Jvm.Free.Multi.fill_old (T.setVm vm₁) cA cy n.toNatClampNeg k.toNatClampNeg (defaultValue ty) (a := x) (by rw [hTh]; exact hx) n.toNatClampNeg
    rw [hF, hTh] at this
    exact this
  have hrow : ∀ j : Nat, j < n.toNatClampNeg → F.heap[H.size + 1 + j]? = some (vp_cell cy z) := fun j hj => by
    have := Jvm.Free.Multi.fill_inner (T.setVm vm₁) cA cy n.toNatClampNeg k.toNatClampNeg (defaultValue ty) n.toNatClampNeg j hj
    rw [hF, hTh, hz] at this
    exact this
  have hout : Jvm.Free.Multi.outerC cA n.toNatClampNeg H.size n.toNatClampNeg = vp_cell cA (n.toNatClampNeg, .inr (.inr (.inr (.inr (fun i => if i < n.toNatClampNeg then some (H.size + 1 + i) else none))))) := by
    rw [vp_cell_q]
    exact vr_outer cA n.toNatClampNeg H.size n.toNatClampNeg
  rw [hout] at f2
  have hlt : ∀ a, a ∈ L → a < H.size := fun a ha => by
    obtain ⟨k9, hk9⟩ := va_pl_get (X := X) (f := f) ha
    exact (hP k9 _ hk9).lt
  have hnl : ∀ i : Nat, i < n.toNatClampNeg → H.size + 1 + i ∉ L := fun i _ h => by
    have := hlt _ h
    omega
  have hnm : ∀ a, a ∈ (List.range n.toNatClampNeg).map (fun i => H.size + 1 + i) → a ∉ L := fun a ha h => by
    obtain ⟨i, -, rfl⟩ := List.mem_map.mp ha
    have := hlt _ h
    omega
  have hP0 : va_P D cl (X ++ va_pl L f) F.heap := hP.kept (fun k9 x hx => hold x.1 ((hP k9 x hx).lt))
  have hP1 : va_P D cl ((X ++ va_pl L f) ++ [(H.size, .inl (cA, n.toNatClampNeg, .inr (.inr (.inr (.inr (fun i => if i < n.toNatClampNeg then some (H.size + 1 + i) else none))))))]) F.heap := hP0.app (fun k9 x hx => by
    have h0 : k9 < 1 := (List.getElem?_eq_some_iff.mp hx).1
    rw [show k9 = 0 by omega] at hx
    cases hx
    exact f2)
  have hP2 : va_P D cl (((X ++ va_pl L f) ++ [(H.size, .inl (cA, n.toNatClampNeg, .inr (.inr (.inr (.inr (fun i => if i < n.toNatClampNeg then some (H.size + 1 + i) else none))))))]) ++ ((List.range n.toNatClampNeg).map (fun i => H.size + 1 + i)).map (fun a => (a, .inl (cy, z)))) F.heap := hP1.app (fun k9 x hx => by
    obtain ⟨a, ha, rfl⟩ := List.mem_map.mp (List.mem_of_getElem? hx)
    obtain ⟨i, hi, rfl⟩ := List.mem_map.mp ha
    exact hrow i (List.mem_range.mp hi))
  have hD2 : va_D A (((X ++ va_pl L f) ++ [(H.size, .inl (cA, n.toNatClampNeg, .inr (.inr (.inr (.inr (fun i => if i < n.toNatClampNeg then some (H.size + 1 + i) else none))))))]) ++ ((List.range n.toNatClampNeg).map (fun i => H.size + 1 + i)).map (fun a => (a, .inl (cy, z)))) := by
    have hD1 := hD.push (e := .inl (cA, n.toNatClampNeg, .inr (.inr (.inr (.inr (fun i => if i < n.toNatClampNeg then some (H.size + 1 + i) else none)))))) hP rfl (hA _ hS.1)
    generalize hW1 : (X ++ va_pl L f) ++ [(H.size, .inl (cA, n.toNatClampNeg, .inr (.inr (.inr (.inr (fun i => if i < n.toNatClampNeg then some (H.size + 1 + i) else none))))))] = W1 at hD1 hP1 ⊢
    have hle : ∀ (k9 : Nat) (x : Nat × va_E), W1[k9]? = some x → x.1 ≤ H.size := fun k9 x hx => by
      rw [← hW1] at hx
      by_cases hl : k9 < (X ++ va_pl L f).length
      · rw [List.getElem?_append_left hl] at hx
        exact Nat.le_of_lt ((hP k9 x hx).lt)
      · rw [List.getElem?_append_right (by omega)] at hx
        have h0 : k9 - (X ++ va_pl L f).length < 1 := (List.getElem?_eq_some_iff.mp hx).1
        rw [show k9 - (X ++ va_pl L f).length = 0 by omega] at hx
        cases hx
        exact Nat.le_refl _
    have hr : ∀ (k9 : Nat) (x : Nat × va_E), (((List.range n.toNatClampNeg).map (fun i => H.size + 1 + i)).map (fun a => ((a, .inl (cy, z)) : Nat × va_E)))[k9]? = some x → x.1 = H.size + 1 + k9 := fun k9 x hx => by
      rw [List.getElem?_map, List.getElem?_map] at hx
      by_cases h9 : k9 < n.toNatClampNeg
      · rw [List.getElem?_range h9] at hx
        cases hx
        rfl
      · have hn0 : (List.range n.toNatClampNeg)[k9]? = none := List.getElem?_eq_none (by rw [List.length_range]; omega)
        rw [hn0] at hx
        cases hx
    refine ⟨fun i j x y hi hj hxy => ?_, fun k9 x hx => ?_⟩
    · by_cases h1 : i < W1.length <;> by_cases h2 : j < W1.length
      · rw [List.getElem?_append_left h1] at hi
        rw [List.getElem?_append_left h2] at hj
        exact hD1.1 i j x y hi hj hxy
      · rw [List.getElem?_append_left h1] at hi
        rw [List.getElem?_append_right (by omega)] at hj
        have := hle _ _ hi
        have := hr _ _ hj
        omega
      · rw [List.getElem?_append_right (by omega)] at hi
        rw [List.getElem?_append_left h2] at hj
        have := hle _ _ hj
        have := hr _ _ hi
        omega
      · rw [List.getElem?_append_right (by omega)] at hi hj
        have := hr _ _ hi
        have := hr _ _ hj
        omega
    · by_cases h1 : k9 < W1.length
      · rw [List.getElem?_append_left h1] at hx
        exact hD1.2 k9 x hx
      · rw [List.getElem?_append_right (by omega)] at hx
        have := hr _ _ hx
        exact hA _ (by have := hS.1; omega)
  have hAr : ArrOfT s cA (.array ty) := fun N9 z9 => by
    obtain ⟨-, k9, hk9, cm9, hkk9⟩ := (hO 0 0 0).1
    exact ⟨(fun q hq => by cases hq), k9, hk9, cm9, hkk9⟩
  have hK2 : va_K D cl (tys ++ [(cA, .array ty)]) s := ⟨hK.1, fun k9 x hx => by
    by_cases hl : k9 < tys.length
    · rw [List.getElem?_append_left hl] at hx
      exact hK.2 k9 x hx
    · rw [List.getElem?_append_right (by omega)] at hx
      have h0 : k9 - tys.length < 1 := (List.getElem?_eq_some_iff.mp hx).1
      rw [show k9 - tys.length = 0 by omega] at hx
      cases hx
      exact ⟨hAr, fA⟩⟩
  obtain ⟨t, a1, b1⟩ := kk H.size (fun i => H.size + 1 + i) cA F.heap (fun i j _ _ h => by have h9 : H.size + 1 + i = H.size + 1 + j := h; omega) hnl hK2 (by rw [← vr_rows hnm]; exact vr_lay hP2) (by rw [← vr_rows hnm]; exact vr_layD hD2) ⟨by rw [f1]; have := hS.1; omega, fun x h1 h2 => (hold x (Nat.lt_of_lt_of_le h1 hS.1)).trans (hS.2.1 x h1 h2), hS.2.2⟩ F rfl X'
  refine ⟨t, step t ?_, b1⟩
  have e : T.heap.size = H.size := by rw [hT]
  rw [e]
  exact a1
end VGM
/-! ===== END ===== -/
end
section
/-! THE SMALL MACHINE ON THE BIG ONE: what each kind of instruction of the small one asks for at the next place gives the walk of the big one from here. -/
def am_ty (kA : Nat → ClassId) : List (ClassId × FieldType) := [(kA 0, .int), (kA 1, .boolean), (kA 2, .array .int)]
/-- what is given from the start: the classes, links across the nest, the static rows -/
def am_Am (D : va_G) (cl : List vw_C) (kA : Nat → ClassId) (nw : List Cond) (sc : Nat → String × String) (ns : Nat) (sn : Nat → Nat) (sv : Nat → Nat → Int32) (A : Nat → Prop) (ad : Nat → Nat) (U : State) : Prop :=
  va_K D cl (am_ty kA) U ∧ (∀ w ∈ nw, va_Nw w U) ∧ va_AOA .int U ∧ ∀ k, k < ns → va_Z (sc k).1 (sc k).2 "[I" (.ref (ad (am_sb + k))) A U U.heap ∧ va_T .int (ad (am_sb + k)) (sn k) (fun j => .int (sv k j)) A U U.heap
/-- the heap is as the small machine has it -/
def am_Rh (D : va_G) (cl : List vw_C) (kA : Nat → ClassId) (ft : Nat → Nat → Bool) (A : Nat → Prop) (H0 : Heap) (ad0 : Nat → Nat) (n0 mc ms : Nat) (u : am_St) (b c : Nat) (ad : Nat → Nat) (H : Heap) (locs : List Loc) (cells slots : Nat) : Prop :=
  va_P D cl (am_wl kA ft ad u) H ∧ va_D A (am_wl kA ft ad u) ∧ va_S A H0 H locs ∧ cells + b ≤ mc ∧ slots + c ≤ ms ∧ n0 ≤ u.1.length ∧ u.1.length ≤ am_sb ∧ (∀ i, i < n0 ∨ am_sb ≤ i → ad i = ad0 i) ∧ (mc = 0 → ad = ad0)
def am_Xs (p : Program) (l : Launch) (e : Env) (R : Room) (s : State) (m : MethodId) (args : Array Value) (below : List Frame) (meth : Method) (c0 : Code) (Qs : State → Prop) (D : va_G) (cl : List vw_C) (kA : Nat → ClassId) (ft : Nat → Nat → Bool) (A : Nat → Prop) (ad0 : Nat → Nat) (n0 mc ms nL : Nat) : am_X := fun pc L S u b c =>
  ∀ (ad : Nat → Nat) (H : Heap) (locs : List Loc) (cells slots : Nat) (ls : Array Slot), lv_has ls nL (am_kn ad L) → am_Rh D cl kA ft A s.heap ad0 n0 mc ms u b c ad H locs cells slots → W p l e R s m args below meth c0 H locs cells slots Qs (F0 m pc ls (S.map (am_cv ad)))
def am_clok (cl : List vw_C) (Ts : List Cond) (ft : Nat → Nat → Bool) : Prop := ∀ (t : Nat) (q : vw_C), cl[t]? = some q → (∀ w ∈ u_ws q.1 q.2.1 q.2.2, w ∈ Ts) ∧ ∃ ty : Nat → FieldType, (∀ k, k < q.2.2 → parseFieldDescriptor (q.2.1 k).2.2.1 = some (ty k)) ∧ (∀ a, a < q.2.2 → ∀ b, b < q.2.2 → a ≠ b → (q.2.1 a).2.1 ≠ (q.2.1 b).2.1) ∧
  (∀ k, k < q.2.2 → (ft t k = true → (∃ C, ty k = .object C) ∨ ∃ f, ty k = .array f) ∧ (ft t k = false → ty k = .int ∨ ty k = .boolean))
def am_Cx (p : Program) (R : Room) (s : State) (m : MethodId) (args : Array Value) (meth : Method) (c0 : Code) (D : va_G) (cl : List vw_C) (kA : Nat → ClassId) (ft : Nat → Nat → Bool) (A : Nat → Prop) (ad0 : Nat → Nat) (mc ms nL : Nat) (cc : ByteArray) (own : String) (Ts nw : List Cond) (nm : String) (sc : Nat → String × String) (ns : Nat) (sn : Nat → Nat) (sv : Nat → Nat → Int32) (lg : Bool) (xl : Nat) (xs : Nat → Int32) : Prop :=
  p.tables.exec = Jvm.exec ∧ c0.code = cc ∧ c0.maxLocals = nL ∧ s.vm.findClass own = some m.cls ∧ (∀ w ∈ Ts, w.before args s = true) ∧ (∀ q, s.heap.size ≤ q → A q) ∧ am_Am D cl kA nw sc ns sn sv A ad0 s ∧ meth.name = nm ∧ 1 ≤ R.frames ∧ 40 ≤ R.locals ∧ mc ≤ R.cells ∧ ms ≤ R.slots ∧ am_clok cl Ts ft ∧ (lg = true → va_X (ad0 am_xb) xl xs s s.heap ∧ ad0 am_xb < s.heap.size ∧ ¬ A (ad0 am_xb))
section SIM
variable {p : Program} {l : Launch} {e : Env} {R : Room} {s : State} {m : MethodId} {args : Array Value} {below : List Frame} {meth : Method} {c0 : Code} {Qs : State → Prop} {D : va_G} {cl : List vw_C} {kA : Nat → ClassId} {ft : Nat → Nat → Bool} {A : Nat → Prop} {ad0 : Nat → Nat} {n0 mc ms nL : Nat} {cc : ByteArray} {own : String} {Ts nw : List Cond} {nm : String} {sc : Nat → String × String} {ns : Nat} {sn : Nat → Nat} {sv : Nat → Nat → Int32} {lg : Bool} {xl : Nat} {xs : Nat → Int32}
variable {pc nx i j : Nat} {z : Int} {L : List (Option Value)} {S : List Value} {u : am_St} {b c : Nat}
theorem as_push (cx : am_Cx p R s m args meth c0 D cl kA ft A ad0 mc ms nL cc own Ts nw nm sc ns sn sv lg xl xs) (hck : (j = 0 ∧ decode cc pc = .ok (.iconst z, 1) ∧ nx = pc + 1) ∨ (j = 1 ∧ decode cc pc = .ok (.bipush z, 2) ∧ (Int8.ofInt z).toInt32 = Int32.ofInt z ∧ nx = pc + 2) ∨ (j = 2 ∧ decode cc pc = .ok (.sipush z, 3) ∧ (Int16.ofInt z).toInt32 = Int32.ofInt z ∧ nx = pc + 3) ∨ (j = 3 ∧ decode cc pc = .ok (.ldc i, 2) ∧ Cond.constant own i (Int32.ofInt z) ∈ Ts ∧ nx = pc + 2)) (hF : ao_push (.int (Int32.ofInt z)) nx (am_Xs p l e R s m args below meth c0 Qs D cl kA ft A ad0 n0 mc ms nL) L S u b c) : (am_Xs p l e R s m args below meth c0 Qs D cl kA ft A ad0 n0 mc ms nL) pc L S u b c := by
  obtain ⟨hx, hb, hml, hown, hts, hA, hAm, hnm, hfr, hlo, hmc, hms, hcl, hxs⟩ := cx
  intro ad H locs cells slots ls hl hR
  have h := hF ad H locs cells slots ls hl hR
  rcases hck with ⟨-, h1, rfl⟩ | ⟨-, h1, h2, rfl⟩ | ⟨-, h1, h2, rfl⟩ | ⟨-, h1, h2, rfl⟩
  · exact lv_iconst hx hb h1 rfl h
  · exact lv_bipush hx hb h1 h2 h
  · exact lv_sipush hx hb h1 h2 h
  · exact lv_ldc hx hb hown (hts _ h2) h1 h
theorem as_iload (cx : am_Cx p R s m args meth c0 D cl kA ft A ad0 mc ms nL cc own Ts nw nm sc ns sn sv lg xl xs) (hck : if h : i < 4 then decode cc pc = .ok (.iload_n ⟨i, h⟩, 1) ∧ nx = pc + 1 else decode cc pc = .ok (.iload i, 2) ∧ nx = pc + 2) (hF : ao_iload i nx (am_Xs p l e R s m args below meth c0 Qs D cl kA ft A ad0 n0 mc ms nL) L S u b c) : (am_Xs p l e R s m args below meth c0 Qs D cl kA ft A ad0 n0 mc ms nL) pc L S u b c := by
  obtain ⟨hx, hb, hml, hown, hts, hA, hAm, hnm, hfr, hlo, hmc, hms, hcl, hxs⟩ := cx
  unfold ao_iload at hF
  split at hF
  · rename_i x hv
    intro ad H locs cells slots ls hl hR
    have h := hF ad H locs cells slots ls hl hR
    split at hck
    · obtain ⟨h1, rfl⟩ := hck
      exact lv_iload_n hx hb h1 rfl (am_at hl hv) h
    · obtain ⟨h1, rfl⟩ := hck
      exact lv_iload hx hb h1 (am_at hl hv) h
  · exact hF.elim
theorem as_aload (cx : am_Cx p R s m args meth c0 D cl kA ft A ad0 mc ms nL cc own Ts nw nm sc ns sn sv lg xl xs) (hck : if h : i < 4 then decode cc pc = .ok (.aload_n ⟨i, h⟩, 1) ∧ nx = pc + 1 else decode cc pc = .ok (.aload i, 2) ∧ nx = pc + 2) (hF : ao_aload i nx (am_Xs p l e R s m args below meth c0 Qs D cl kA ft A ad0 n0 mc ms nL) L S u b c) : (am_Xs p l e R s m args below meth c0 Qs D cl kA ft A ad0 n0 mc ms nL) pc L S u b c := by
  obtain ⟨hx, hb, hml, hown, hts, hA, hAm, hnm, hfr, hlo, hmc, hms, hcl, hxs⟩ := cx
  unfold ao_aload at hF
  split at hF
  · rename_i x hv
    intro ad H locs cells slots ls hl hR
    have h := hF ad H locs cells slots ls hl hR
    split at hck
    · obtain ⟨h1, rfl⟩ := hck
      exact lv_aload_n hx hb h1 rfl (am_at hl hv) h
    · obtain ⟨h1, rfl⟩ := hck
      exact lv_aload hx hb h1 (am_at hl hv) h
  · exact hF.elim
theorem as_lload (cx : am_Cx p R s m args meth c0 D cl kA ft A ad0 mc ms nL cc own Ts nw nm sc ns sn sv lg xl xs) (hck : if h : i < 4 then decode cc pc = .ok (.lload_n ⟨i, h⟩, 1) ∧ nx = pc + 1 else decode cc pc = .ok (.lload i, 2) ∧ nx = pc + 2) (hF : ao_lload i nx (am_Xs p l e R s m args below meth c0 Qs D cl kA ft A ad0 n0 mc ms nL) L S u b c) : (am_Xs p l e R s m args below meth c0 Qs D cl kA ft A ad0 n0 mc ms nL) pc L S u b c := by
  obtain ⟨hx, hb, hml, hown, hts, hA, hAm, hnm, hfr, hlo, hmc, hms, hcl, hxs⟩ := cx
  unfold ao_lload at hF
  split at hF
  · rename_i x hv
    intro ad H locs cells slots ls hl hR
    have h := hF ad H locs cells slots ls hl hR
    split at hck
    · obtain ⟨h1, rfl⟩ := hck
      exact lv_lload_n hx hb h1 rfl (am_at hl hv) h
    · obtain ⟨h1, rfl⟩ := hck
      exact lv_lload hx hb h1 (am_at hl hv) h
  · exact hF.elim
theorem as_istore (cx : am_Cx p R s m args meth c0 D cl kA ft A ad0 mc ms nL cc own Ts nw nm sc ns sn sv lg xl xs) (hck : (if h : i < 4 then decode cc pc = .ok (.istore_n ⟨i, h⟩, 1) ∧ nx = pc + 1 else decode cc pc = .ok (.istore i, 2) ∧ nx = pc + 2) ∧ i < nL) (hF : ao_istore i nx (am_Xs p l e R s m args below meth c0 Qs D cl kA ft A ad0 n0 mc ms nL) L S u b c) : (am_Xs p l e R s m args below meth c0 Qs D cl kA ft A ad0 n0 mc ms nL) pc L S u b c := by
  obtain ⟨hx, hb, hml, hown, hts, hA, hAm, hnm, hfr, hlo, hmc, hms, hcl, hxs⟩ := cx
  unfold ao_istore at hF
  split at hF
  · rename_i x S
    intro ad H locs cells slots ls hl hR
    obtain ⟨hck, hn⟩ := hck
    split at hck
    · obtain ⟨h1, rfl⟩ := hck
      exact lv_istore_n hx hb h1 rfl hl hn rfl (fun ls' hl' => hF ad H locs cells slots ls' (am_has1 (v := .int x) hl') hR)
    · obtain ⟨h1, rfl⟩ := hck
      exact lv_istore hx hb h1 hl hn rfl (fun ls' hl' => hF ad H locs cells slots ls' (am_has1 (v := .int x) hl') hR)
  · exact hF.elim
theorem as_astore (cx : am_Cx p R s m args meth c0 D cl kA ft A ad0 mc ms nL cc own Ts nw nm sc ns sn sv lg xl xs) (hck : (if h : i < 4 then decode cc pc = .ok (.astore_n ⟨i, h⟩, 1) ∧ nx = pc + 1 else decode cc pc = .ok (.astore i, 2) ∧ nx = pc + 2) ∧ i < nL) (hF : ao_astore i nx (am_Xs p l e R s m args below meth c0 Qs D cl kA ft A ad0 n0 mc ms nL) L S u b c) : (am_Xs p l e R s m args below meth c0 Qs D cl kA ft A ad0 n0 mc ms nL) pc L S u b c := by
  obtain ⟨hx, hb, hml, hown, hts, hA, hAm, hnm, hfr, hlo, hmc, hms, hcl, hxs⟩ := cx
  unfold ao_astore at hF
  split at hF
  · rename_i x S
    intro ad H locs cells slots ls hl hR
    obtain ⟨hck, hn⟩ := hck
    split at hck
    · obtain ⟨h1, rfl⟩ := hck
      exact lv_astore_n hx hb h1 rfl hl hn rfl (fun ls' hl' => hF ad H locs cells slots ls' (am_has1 (v := .ref x) hl') hR)
    · obtain ⟨h1, rfl⟩ := hck
      exact lv_astore hx hb h1 hl hn rfl (fun ls' hl' => hF ad H locs cells slots ls' (am_has1 (v := .ref x) hl') hR)
  · exact hF.elim
theorem as_lstore (cx : am_Cx p R s m args meth c0 D cl kA ft A ad0 mc ms nL cc own Ts nw nm sc ns sn sv lg xl xs) (hck : (if h : i < 4 then decode cc pc = .ok (.lstore_n ⟨i, h⟩, 1) ∧ nx = pc + 1 else decode cc pc = .ok (.lstore i, 2) ∧ nx = pc + 2) ∧ i + 1 < nL) (hF : ao_lstore i nx (am_Xs p l e R s m args below meth c0 Qs D cl kA ft A ad0 n0 mc ms nL) L S u b c) : (am_Xs p l e R s m args below meth c0 Qs D cl kA ft A ad0 n0 mc ms nL) pc L S u b c := by
  obtain ⟨hx, hb, hml, hown, hts, hA, hAm, hnm, hfr, hlo, hmc, hms, hcl, hxs⟩ := cx
  unfold ao_lstore at hF
  split at hF
  · rename_i x S
    intro ad H locs cells slots ls hl hR
    obtain ⟨hck, hn⟩ := hck
    split at hck
    · obtain ⟨h1, rfl⟩ := hck
      exact lv_lstore_n hx hb h1 rfl hl hn rfl (fun ls' hl' => hF ad H locs cells slots ls' (am_has2 (v := .long x) hl') hR)
    · obtain ⟨h1, rfl⟩ := hck
      exact lv_lstore hx hb h1 hl hn rfl (fun ls' hl' => hF ad H locs cells slots ls' (am_has2 (v := .long x) hl') hR)
  · exact hF.elim
theorem as_iinc (cx : am_Cx p R s m args meth c0 D cl kA ft A ad0 mc ms nL cc own Ts nw nm sc ns sn sv lg xl xs) (hck : decode cc pc = .ok (.iinc i z, 3) ∧ nx = pc + 3 ∧ i < nL) (hF : ao_iinc i z nx (am_Xs p l e R s m args below meth c0 Qs D cl kA ft A ad0 n0 mc ms nL) L S u b c) : (am_Xs p l e R s m args below meth c0 Qs D cl kA ft A ad0 n0 mc ms nL) pc L S u b c := by
  obtain ⟨hx, hb, hml, hown, hts, hA, hAm, hnm, hfr, hlo, hmc, hms, hcl, hxs⟩ := cx
  unfold ao_iinc at hF
  split at hF
  · rename_i x hv
    intro ad H locs cells slots ls hl hR
    obtain ⟨h1, rfl, hn⟩ := hck
    obtain ⟨k, hk⟩ := List.getElem?_of_mem (am_kn_in (ad := ad) hv)
    exact lv_iinc hx hb h1 hl (k := k) hk rfl hn rfl (fun ls' hl' => hF ad H locs cells slots ls' (am_has1 (v := .int (x + Int32.ofInt z)) hl') hR)
  · exact hF.elim
theorem as_iadd (cx : am_Cx p R s m args meth c0 D cl kA ft A ad0 mc ms nL cc own Ts nw nm sc ns sn sv lg xl xs) (hck : decode cc pc = .ok (.iadd, 1) ∧ nx = pc + 1) (hF : ao_ibin (fun x y => x + y) nx (am_Xs p l e R s m args below meth c0 Qs D cl kA ft A ad0 n0 mc ms nL) L S u b c) : (am_Xs p l e R s m args below meth c0 Qs D cl kA ft A ad0 n0 mc ms nL) pc L S u b c := by
  obtain ⟨hx, hb, hml, hown, hts, hA, hAm, hnm, hfr, hlo, hmc, hms, hcl, hxs⟩ := cx
  unfold ao_ibin at hF
  split at hF
  · intro ad H locs cells slots ls hl hR
    obtain ⟨h1, rfl⟩ := hck
    exact lv_iadd hx hb h1 (hF ad H locs cells slots ls hl hR)
  · exact hF.elim
theorem as_isub (cx : am_Cx p R s m args meth c0 D cl kA ft A ad0 mc ms nL cc own Ts nw nm sc ns sn sv lg xl xs) (hck : decode cc pc = .ok (.isub, 1) ∧ nx = pc + 1) (hF : ao_ibin (fun x y => x - y) nx (am_Xs p l e R s m args below meth c0 Qs D cl kA ft A ad0 n0 mc ms nL) L S u b c) : (am_Xs p l e R s m args below meth c0 Qs D cl kA ft A ad0 n0 mc ms nL) pc L S u b c := by
  obtain ⟨hx, hb, hml, hown, hts, hA, hAm, hnm, hfr, hlo, hmc, hms, hcl, hxs⟩ := cx
  unfold ao_ibin at hF
  split at hF
  · intro ad H locs cells slots ls hl hR
    obtain ⟨h1, rfl⟩ := hck
    exact lv_isub hx hb h1 (hF ad H locs cells slots ls hl hR)
  · exact hF.elim
theorem as_imul (cx : am_Cx p R s m args meth c0 D cl kA ft A ad0 mc ms nL cc own Ts nw nm sc ns sn sv lg xl xs) (hck : decode cc pc = .ok (.imul, 1) ∧ nx = pc + 1) (hF : ao_ibin (fun x y => x * y) nx (am_Xs p l e R s m args below meth c0 Qs D cl kA ft A ad0 n0 mc ms nL) L S u b c) : (am_Xs p l e R s m args below meth c0 Qs D cl kA ft A ad0 n0 mc ms nL) pc L S u b c := by
  obtain ⟨hx, hb, hml, hown, hts, hA, hAm, hnm, hfr, hlo, hmc, hms, hcl, hxs⟩ := cx
  unfold ao_ibin at hF
  split at hF
  · intro ad H locs cells slots ls hl hR
    obtain ⟨h1, rfl⟩ := hck
    exact lv_imul hx hb h1 (hF ad H locs cells slots ls hl hR)
  · exact hF.elim
theorem as_iand (cx : am_Cx p R s m args meth c0 D cl kA ft A ad0 mc ms nL cc own Ts nw nm sc ns sn sv lg xl xs) (hck : decode cc pc = .ok (.iand, 1) ∧ nx = pc + 1) (hF : ao_ibin (fun x y => x &&& y) nx (am_Xs p l e R s m args below meth c0 Qs D cl kA ft A ad0 n0 mc ms nL) L S u b c) : (am_Xs p l e R s m args below meth c0 Qs D cl kA ft A ad0 n0 mc ms nL) pc L S u b c := by
  obtain ⟨hx, hb, hml, hown, hts, hA, hAm, hnm, hfr, hlo, hmc, hms, hcl, hxs⟩ := cx
  unfold ao_ibin at hF
  split at hF
  · intro ad H locs cells slots ls hl hR
    obtain ⟨h1, rfl⟩ := hck
    exact lv_iand hx hb h1 (hF ad H locs cells slots ls hl hR)
  · exact hF.elim
theorem as_idiv (cx : am_Cx p R s m args meth c0 D cl kA ft A ad0 mc ms nL cc own Ts nw nm sc ns sn sv lg xl xs) (hck : decode cc pc = .ok (.idiv, 1) ∧ nx = pc + 1) (hF : ao_idiv (fun x y => x / y) nx (am_Xs p l e R s m args below meth c0 Qs D cl kA ft A ad0 n0 mc ms nL) L S u b c) : (am_Xs p l e R s m args below meth c0 Qs D cl kA ft A ad0 n0 mc ms nL) pc L S u b c := by
  obtain ⟨hx, hb, hml, hown, hts, hA, hAm, hnm, hfr, hlo, hmc, hms, hcl, hxs⟩ := cx
  unfold ao_idiv at hF
  split at hF
  · intro ad H locs cells slots ls hl hR
    obtain ⟨h1, rfl⟩ := hck
    exact lv_idiv hx hb h1 hF.1 (hF.2 ad H locs cells slots ls hl hR)
  · exact hF.elim
theorem as_irem (cx : am_Cx p R s m args meth c0 D cl kA ft A ad0 mc ms nL cc own Ts nw nm sc ns sn sv lg xl xs) (hck : decode cc pc = .ok (.irem, 1) ∧ nx = pc + 1) (hF : ao_idiv (fun x y => x - x / y * y) nx (am_Xs p l e R s m args below meth c0 Qs D cl kA ft A ad0 n0 mc ms nL) L S u b c) : (am_Xs p l e R s m args below meth c0 Qs D cl kA ft A ad0 n0 mc ms nL) pc L S u b c := by
  obtain ⟨hx, hb, hml, hown, hts, hA, hAm, hnm, hfr, hlo, hmc, hms, hcl, hxs⟩ := cx
  unfold ao_idiv at hF
  split at hF
  · intro ad H locs cells slots ls hl hR
    obtain ⟨h1, rfl⟩ := hck
    exact lv_irem hx hb h1 hF.1 (hF.2 ad H locs cells slots ls hl hR)
  · exact hF.elim
theorem as_ladd (cx : am_Cx p R s m args meth c0 D cl kA ft A ad0 mc ms nL cc own Ts nw nm sc ns sn sv lg xl xs) (hck : decode cc pc = .ok (.ladd, 1) ∧ nx = pc + 1) (hF : ao_lbin (fun x y => x + y) nx (am_Xs p l e R s m args below meth c0 Qs D cl kA ft A ad0 n0 mc ms nL) L S u b c) : (am_Xs p l e R s m args below meth c0 Qs D cl kA ft A ad0 n0 mc ms nL) pc L S u b c := by
  obtain ⟨hx, hb, hml, hown, hts, hA, hAm, hnm, hfr, hlo, hmc, hms, hcl, hxs⟩ := cx
  unfold ao_lbin at hF
  split at hF
  · intro ad H locs cells slots ls hl hR
    obtain ⟨h1, rfl⟩ := hck
    exact lv_ladd hx hb h1 (hF ad H locs cells slots ls hl hR)
  · exact hF.elim
theorem as_lsub (cx : am_Cx p R s m args meth c0 D cl kA ft A ad0 mc ms nL cc own Ts nw nm sc ns sn sv lg xl xs) (hck : decode cc pc = .ok (.lsub, 1) ∧ nx = pc + 1) (hF : ao_lbin (fun x y => x - y) nx (am_Xs p l e R s m args below meth c0 Qs D cl kA ft A ad0 n0 mc ms nL) L S u b c) : (am_Xs p l e R s m args below meth c0 Qs D cl kA ft A ad0 n0 mc ms nL) pc L S u b c := by
  obtain ⟨hx, hb, hml, hown, hts, hA, hAm, hnm, hfr, hlo, hmc, hms, hcl, hxs⟩ := cx
  unfold ao_lbin at hF
  split at hF
  · intro ad H locs cells slots ls hl hR
    obtain ⟨h1, rfl⟩ := hck
    exact lv_lsub hx hb h1 (hF ad H locs cells slots ls hl hR)
  · exact hF.elim
theorem as_lmul (cx : am_Cx p R s m args meth c0 D cl kA ft A ad0 mc ms nL cc own Ts nw nm sc ns sn sv lg xl xs) (hck : decode cc pc = .ok (.lmul, 1) ∧ nx = pc + 1) (hF : ao_lbin (fun x y => x * y) nx (am_Xs p l e R s m args below meth c0 Qs D cl kA ft A ad0 n0 mc ms nL) L S u b c) : (am_Xs p l e R s m args below meth c0 Qs D cl kA ft A ad0 n0 mc ms nL) pc L S u b c := by
  obtain ⟨hx, hb, hml, hown, hts, hA, hAm, hnm, hfr, hlo, hmc, hms, hcl, hxs⟩ := cx
  unfold ao_lbin at hF
  split at hF
  · intro ad H locs cells slots ls hl hR
    obtain ⟨h1, rfl⟩ := hck
    exact lv_lmul hx hb h1 (hF ad H locs cells slots ls hl hR)
  · exact hF.elim
theorem as_ldiv (cx : am_Cx p R s m args meth c0 D cl kA ft A ad0 mc ms nL cc own Ts nw nm sc ns sn sv lg xl xs) (hck : decode cc pc = .ok (.ldiv, 1) ∧ nx = pc + 1) (hF : ao_ldiv (fun x y => x / y) nx (am_Xs p l e R s m args below meth c0 Qs D cl kA ft A ad0 n0 mc ms nL) L S u b c) : (am_Xs p l e R s m args below meth c0 Qs D cl kA ft A ad0 n0 mc ms nL) pc L S u b c := by
  obtain ⟨hx, hb, hml, hown, hts, hA, hAm, hnm, hfr, hlo, hmc, hms, hcl, hxs⟩ := cx
  unfold ao_ldiv at hF
  split at hF
  · intro ad H locs cells slots ls hl hR
    obtain ⟨h1, rfl⟩ := hck
    exact lv_ldiv hx hb h1 hF.1 (hF.2 ad H locs cells slots ls hl hR)
  · exact hF.elim
theorem as_lcmp (cx : am_Cx p R s m args meth c0 D cl kA ft A ad0 mc ms nL cc own Ts nw nm sc ns sn sv lg xl xs) (hck : decode cc pc = .ok (.lcmp, 1) ∧ nx = pc + 1) (hF : ao_lcmp nx (am_Xs p l e R s m args below meth c0 Qs D cl kA ft A ad0 n0 mc ms nL) L S u b c) : (am_Xs p l e R s m args below meth c0 Qs D cl kA ft A ad0 n0 mc ms nL) pc L S u b c := by
  obtain ⟨hx, hb, hml, hown, hts, hA, hAm, hnm, hfr, hlo, hmc, hms, hcl, hxs⟩ := cx
  unfold ao_lcmp at hF
  split at hF
  · intro ad H locs cells slots ls hl hR
    obtain ⟨h1, rfl⟩ := hck
    exact W.lcmp hx hb h1 (hF ad H locs cells slots ls hl hR)
  · exact hF.elim
theorem as_i2l (cx : am_Cx p R s m args meth c0 D cl kA ft A ad0 mc ms nL cc own Ts nw nm sc ns sn sv lg xl xs) (hck : decode cc pc = .ok (.i2l, 1) ∧ nx = pc + 1) (hF : ao_i2l nx (am_Xs p l e R s m args below meth c0 Qs D cl kA ft A ad0 n0 mc ms nL) L S u b c) : (am_Xs p l e R s m args below meth c0 Qs D cl kA ft A ad0 n0 mc ms nL) pc L S u b c := by
  obtain ⟨hx, hb, hml, hown, hts, hA, hAm, hnm, hfr, hlo, hmc, hms, hcl, hxs⟩ := cx
  unfold ao_i2l at hF
  split at hF
  · intro ad H locs cells slots ls hl hR
    obtain ⟨h1, rfl⟩ := hck
    exact lv_i2l hx hb h1 rfl (hF ad H locs cells slots ls hl hR)
  · exact hF.elim
theorem as_l2i (cx : am_Cx p R s m args meth c0 D cl kA ft A ad0 mc ms nL cc own Ts nw nm sc ns sn sv lg xl xs) (hck : decode cc pc = .ok (.l2i, 1) ∧ nx = pc + 1) (hF : ao_l2i nx (am_Xs p l e R s m args below meth c0 Qs D cl kA ft A ad0 n0 mc ms nL) L S u b c) : (am_Xs p l e R s m args below meth c0 Qs D cl kA ft A ad0 n0 mc ms nL) pc L S u b c := by
  obtain ⟨hx, hb, hml, hown, hts, hA, hAm, hnm, hfr, hlo, hmc, hms, hcl, hxs⟩ := cx
  unfold ao_l2i at hF
  split at hF
  · intro ad H locs cells slots ls hl hR
    obtain ⟨h1, rfl⟩ := hck
    exact lv_l2i hx hb h1 rfl (hF ad H locs cells slots ls hl hR)
  · exact hF.elim
theorem as_pushl (cx : am_Cx p R s m args meth c0 D cl kA ft A ad0 mc ms nL cc own Ts nw nm sc ns sn sv lg xl xs) (hck : (j = 0 ∧ z = 0 ∧ decode cc pc = .ok (.lconst 0, 1) ∧ nx = pc + 1) ∨ (j = 1 ∧ z = 1 ∧ decode cc pc = .ok (.lconst 1, 1) ∧ nx = pc + 1) ∨ (j = 2 ∧ decode cc pc = .ok (.ldc2_w i, 3) ∧ Cond.constantLong own i (Int64.ofInt z) ∈ Ts ∧ nx = pc + 3)) (hF : ao_push (.long (Int64.ofInt z)) nx (am_Xs p l e R s m args below meth c0 Qs D cl kA ft A ad0 n0 mc ms nL) L S u b c) : (am_Xs p l e R s m args below meth c0 Qs D cl kA ft A ad0 n0 mc ms nL) pc L S u b c := by
  obtain ⟨hx, hb, hml, hown, hts, hA, hAm, hnm, hfr, hlo, hmc, hms, hcl, hxs⟩ := cx
  intro ad H locs cells slots ls hl hR
  have h := hF ad H locs cells slots ls hl hR
  rcases hck with ⟨-, rfl, h1, rfl⟩ | ⟨-, rfl, h1, rfl⟩ | ⟨-, h1, h2, rfl⟩
  · exact lv_lconst hx hb h1 (by decide) h
  · exact lv_lconst hx hb h1 (by decide) h
  · exact lv_ldc2 hx hb hown (hts _ h2) h1 h
theorem as_if (cx : am_Cx p R s m args meth c0 D cl kA ft A ad0 mc ms nL cc own Ts nw nm sc ns sn sv lg xl xs) (hck : nx = pc + 3 ∧ ((j = 0 ∧ decode cc pc = .ok (.ifCond .eq ((i : Int) - (pc : Int)), 3)) ∨ (j = 1 ∧ decode cc pc = .ok (.ifCond .ne ((i : Int) - (pc : Int)), 3)) ∨ (j = 2 ∧ decode cc pc = .ok (.ifCond .lt ((i : Int) - (pc : Int)), 3)) ∨ (j = 3 ∧ decode cc pc = .ok (.ifCond .ge ((i : Int) - (pc : Int)), 3)) ∨ (j = 4 ∧ decode cc pc = .ok (.ifCond .gt ((i : Int) - (pc : Int)), 3)) ∨ (j = 5 ∧ decode cc pc = .ok (.ifCond .le ((i : Int) - (pc : Int)), 3)))) (hF : ao_if j i nx (am_Xs p l e R s m args below meth c0 Qs D cl kA ft A ad0 n0 mc ms nL) L S u b c) : (am_Xs p l e R s m args below meth c0 Qs D cl kA ft A ad0 n0 mc ms nL) pc L S u b c := by
  obtain ⟨hx, hb, hml, hown, hts, hA, hAm, hnm, hfr, hlo, hmc, hms, hcl, hxs⟩ := cx
  obtain ⟨rfl, hck⟩ := hck
  unfold ao_if at hF
  split at hF
  · intro ad H locs cells slots ls hl hR
    rcases hck with ⟨rfl, h1⟩ | ⟨rfl, h1⟩ | ⟨rfl, h1⟩ | ⟨rfl, h1⟩ | ⟨rfl, h1⟩ | ⟨rfl, h1⟩
    · exact lv_if_eq hx hb h1 (by omega) (fun q => hF.1 q ad H locs cells slots ls hl hR) (fun q => hF.2 q ad H locs cells slots ls hl hR)
    · exact lv_if_ne hx hb h1 (by omega) (fun q => hF.1 q ad H locs cells slots ls hl hR) (fun q => hF.2 q ad H locs cells slots ls hl hR)
    · exact lv_if_lt hx hb h1 (by omega) (fun q => hF.1 q ad H locs cells slots ls hl hR) (fun q => hF.2 q ad H locs cells slots ls hl hR)
    · exact lv_if_ge hx hb h1 (by omega) (fun q => hF.1 q ad H locs cells slots ls hl hR) (fun q => hF.2 q ad H locs cells slots ls hl hR)
    · exact lv_if_gt hx hb h1 (by omega) (fun q => hF.1 q ad H locs cells slots ls hl hR) (fun q => hF.2 q ad H locs cells slots ls hl hR)
    · exact lv_if_le hx hb h1 (by omega) (fun q => hF.1 q ad H locs cells slots ls hl hR) (fun q => hF.2 q ad H locs cells slots ls hl hR)
  · exact hF.elim
theorem as_icmp (cx : am_Cx p R s m args meth c0 D cl kA ft A ad0 mc ms nL cc own Ts nw nm sc ns sn sv lg xl xs) (hck : nx = pc + 3 ∧ ((j = 0 ∧ decode cc pc = .ok (.if_icmp .eq ((i : Int) - (pc : Int)), 3)) ∨ (j = 1 ∧ decode cc pc = .ok (.if_icmp .ne ((i : Int) - (pc : Int)), 3)) ∨ (j = 2 ∧ decode cc pc = .ok (.if_icmp .lt ((i : Int) - (pc : Int)), 3)) ∨ (j = 3 ∧ decode cc pc = .ok (.if_icmp .ge ((i : Int) - (pc : Int)), 3)) ∨ (j = 4 ∧ decode cc pc = .ok (.if_icmp .gt ((i : Int) - (pc : Int)), 3)) ∨ (j = 5 ∧ decode cc pc = .ok (.if_icmp .le ((i : Int) - (pc : Int)), 3)))) (hF : ao_icmp j i nx (am_Xs p l e R s m args below meth c0 Qs D cl kA ft A ad0 n0 mc ms nL) L S u b c) : (am_Xs p l e R s m args below meth c0 Qs D cl kA ft A ad0 n0 mc ms nL) pc L S u b c := by
  obtain ⟨hx, hb, hml, hown, hts, hA, hAm, hnm, hfr, hlo, hmc, hms, hcl, hxs⟩ := cx
  obtain ⟨rfl, hck⟩ := hck
  unfold ao_icmp at hF
  split at hF
  · intro ad H locs cells slots ls hl hR
    rcases hck with ⟨rfl, h1⟩ | ⟨rfl, h1⟩ | ⟨rfl, h1⟩ | ⟨rfl, h1⟩ | ⟨rfl, h1⟩ | ⟨rfl, h1⟩
    · exact lv_icmp_eq hx hb h1 (by omega) (fun q => hF.1 q ad H locs cells slots ls hl hR) (fun q => hF.2 q ad H locs cells slots ls hl hR)
    · exact lv_icmp_ne hx hb h1 (by omega) (fun q => hF.1 q ad H locs cells slots ls hl hR) (fun q => hF.2 q ad H locs cells slots ls hl hR)
    · exact lv_icmp_lt hx hb h1 (by omega) (fun q => hF.1 q ad H locs cells slots ls hl hR) (fun q => hF.2 q ad H locs cells slots ls hl hR)
    · exact lv_icmp_ge hx hb h1 (by omega) (fun q => hF.1 q ad H locs cells slots ls hl hR) (fun q => hF.2 q ad H locs cells slots ls hl hR)
    · exact lv_icmp_gt hx hb h1 (by omega) (fun q => hF.1 q ad H locs cells slots ls hl hR) (fun q => hF.2 q ad H locs cells slots ls hl hR)
    · exact lv_icmp_le hx hb h1 (by omega) (fun q => hF.1 q ad H locs cells slots ls hl hR) (fun q => hF.2 q ad H locs cells slots ls hl hR)
  · exact hF.elim
theorem as_goto (cx : am_Cx p R s m args meth c0 D cl kA ft A ad0 mc ms nL cc own Ts nw nm sc ns sn sv lg xl xs) (hck : decode cc pc = .ok (.goto ((i : Int) - (pc : Int)), 3)) (hF : ao_goto i (am_Xs p l e R s m args below meth c0 Qs D cl kA ft A ad0 n0 mc ms nL) L S u b c) : (am_Xs p l e R s m args below meth c0 Qs D cl kA ft A ad0 n0 mc ms nL) pc L S u b c := by
  obtain ⟨hx, hb, hml, hown, hts, hA, hAm, hnm, hfr, hlo, hmc, hms, hcl, hxs⟩ := cx
  intro ad H locs cells slots ls hl hR
  exact lv_goto hx hb hck (by omega) (hF ad H locs cells slots ls hl hR)
theorem am_fl_get {t n k : Nat} {ad : Nat → Nat} {f : Nat → Int32} {rs : List (Option Nat)} (hk : k < n) : ((List.range n).map (am_fl ft ad f rs t))[k]? = some (am_fl ft ad f rs t k) := by
  rw [List.getElem?_map, List.getElem?_range hk]
  rfl
theorem am_fl_setI {t n k : Nat} {ad : Nat → Nat} {f : Nat → Int32} {rs : List (Option Nat)} {x : Int32} (hf : ft t k = false) : ((List.range n).map (am_fl ft ad f rs t)).set k (.int x) = (List.range n).map (am_fl ft ad (upd f k x) rs t) := by
  apply List.ext_getElem?
  intro q
  by_cases hq : q < n
  · rw [am_fl_get hq]
    by_cases e : k = q
    · subst e
      rw [List.getElem?_set_self (by simpa using hq)]
      simp [am_fl, hf, upd]
    · rw [List.getElem?_set_ne e, am_fl_get hq]
      simp [am_fl, upd, show ¬ q = k from fun h => e h.symm]
  · rw [List.getElem?_eq_none (by simp; omega), List.getElem?_eq_none (by simp; omega)]
theorem am_fl_setR {t n k : Nat} {ad : Nat → Nat} {f : Nat → Int32} {rs : List (Option Nat)} {v : Nat} (hf : ft t k = true) (hl : k < rs.length) : ((List.range n).map (am_fl ft ad f rs t)).set k (.ref (ad v)) = (List.range n).map (am_fl ft ad f (rs.set k (some v)) t) := by
  apply List.ext_getElem?
  intro q
  by_cases hq : q < n
  · rw [am_fl_get hq]
    by_cases e : k = q
    · subst e
      rw [List.getElem?_set_self (by simpa using hq)]
      simp [am_fl, hf, am_rg, hl, va_rf]
    · rw [List.getElem?_set_ne e, am_fl_get hq]
      simp [am_fl, am_rg, List.getElem?_set_ne e]
  · rw [List.getElem?_eq_none (by simp; omega), List.getElem?_eq_none (by simp; omega)]
theorem as_getI (cx : am_Cx p R s m args meth c0 D cl kA ft A ad0 mc ms nL cc own Ts nw nm sc ns sn sv lg xl xs) (C : String) (T : u_T) (N : Nat) (hc : cl[i]? = some (C, T, N)) (hjN : j < N) (hk : Cond.fieldLink own z.toNat (T j).1 (T j).2.1 (T j).2.2.1 ∈ Ts) (hft : ft i j = false) (hdg : decode cc pc = .ok (.getfield z.toNat, 3)) (hnx : nx = pc + 3) (hF : ao_getI i j nx (am_Xs p l e R s m args below meth c0 Qs D cl kA ft A ad0 n0 mc ms nL) L S u b c) : (am_Xs p l e R s m args below meth c0 Qs D cl kA ft A ad0 n0 mc ms nL) pc L S u b c := by
  obtain ⟨hx, hb, hml, hown, hts, hA, hAm, hnm, hfr, hlo, hmc, hms, hcl, hxs⟩ := cx
  subst hnx
  unfold ao_getI at hF
  split at hF
  · rename_i a S
    split at hF
    · rename_i t' n rs hu
      split at hF
      · rename_i hq
        obtain ⟨rfl, hq⟩ := hq
        intro ad H locs cells slots ls hl hR
        have he := am_wl_at (kA := kA) (ft := ft) (ad := ad) hu
        refine va_get (D := D) (ci := i) (v := .int (u.2 a j)) (C := C) (T := T) (N := N) hx hb hts (hcl i _ hc).1 hown hAm.1 hR.1 a he hc j hjN (hts _ hk) (fun _ h9 => h9) ?_ hdg (hF ad H locs cells slots ls hl hR)
        rw [am_fl_get hq]
        simp [am_fl, hft]
      · exact hF.elim
    · exact hF.elim
  · exact hF.elim
theorem as_getR (cx : am_Cx p R s m args meth c0 D cl kA ft A ad0 mc ms nL cc own Ts nw nm sc ns sn sv lg xl xs) (C : String) (T : u_T) (N : Nat) (hc : cl[i]? = some (C, T, N)) (hjN : j < N) (hk : Cond.fieldLink own z.toNat (T j).1 (T j).2.1 (T j).2.2.1 ∈ Ts) (hft : ft i j = true) (hdg : decode cc pc = .ok (.getfield z.toNat, 3)) (hnx : nx = pc + 3) (hF : ao_getR i j nx (am_Xs p l e R s m args below meth c0 Qs D cl kA ft A ad0 n0 mc ms nL) L S u b c) : (am_Xs p l e R s m args below meth c0 Qs D cl kA ft A ad0 n0 mc ms nL) pc L S u b c := by
  obtain ⟨hx, hb, hml, hown, hts, hA, hAm, hnm, hfr, hlo, hmc, hms, hcl, hxs⟩ := cx
  subst hnx
  unfold ao_getR at hF
  split at hF
  · rename_i a S
    split at hF
    · rename_i t' n rs hu
      split at hF
      · rename_i hq
        obtain ⟨rfl, hq⟩ := hq
        split at hF
        · rename_i a' ha
          intro ad H locs cells slots ls hl hR
          have he := am_wl_at (kA := kA) (ft := ft) (ad := ad) hu
          refine va_get (D := D) (ci := i) (v := .ref (ad a')) (C := C) (T := T) (N := N) hx hb hts (hcl i _ hc).1 hown hAm.1 hR.1 a he hc j hjN (hts _ hk) (fun _ h9 => h9) ?_ hdg (hF ad H locs cells slots ls hl hR)
          rw [am_fl_get hq]
          simp [am_fl, hft, ha, va_rf]
        · exact hF.elim
      · exact hF.elim
    · exact hF.elim
  · exact hF.elim
theorem am_nar_z {x : Int32} (h : x = 0 ∨ x = 1) : narrow .boolean (.int x) = .int x ∧ fits .boolean (.int x) = true := by
  rcases h with rfl | rfl <;> exact ⟨by decide, by decide⟩
theorem as_putI (cx : am_Cx p R s m args meth c0 D cl kA ft A ad0 mc ms nL cc own Ts nw nm sc ns sn sv lg xl xs) (C : String) (T : u_T) (N : Nat) (hc : cl[i]? = some (C, T, N)) (hjN : j < N) (hk : Cond.fieldLink own z.toNat (T j).1 (T j).2.1 (T j).2.2.1 ∈ Ts) (hfd : parseFieldDescriptor (T j).2.2.1 = some .int) (hft : ft i j = false) (hfn : (T j).2.2.2 = false ∨ ((T j).2.2.2 = true ∧ nm = "<init>" ∧ (T j).1 = own)) (hdg : decode cc pc = .ok (.putfield z.toNat, 3)) (hnx : nx = pc + 3) (hF : ao_putI i j nx (am_Xs p l e R s m args below meth c0 Qs D cl kA ft A ad0 n0 mc ms nL) L S u b c) : (am_Xs p l e R s m args below meth c0 Qs D cl kA ft A ad0 n0 mc ms nL) pc L S u b c := by
  obtain ⟨hx, hb, hml, hown, hts, hA, hAm, hnm, hfr, hlo, hmc, hms, hcl, hxs⟩ := cx
  subst hnx
  unfold ao_putI at hF
  split at hF
  · rename_i x a S
    split at hF
    · rename_i t' n rs hu
      split at hF
      · rename_i hq
        obtain ⟨rfl, hq⟩ := hq
        obtain ⟨hcw, ty, hty, hnms, hrf⟩ := hcl i _ hc
        intro ad H locs cells slots ls hl hR
        obtain ⟨hP, hD, hS, hRr⟩ := hR
        have he := am_wl_at (kA := kA) (ft := ft) (ad := ad) hu
        have hd : parseFieldDescriptor (T j).2.2.1 = some .int := hfd
        have hn2 : narrow .int (.int x) = .int x ∧ fits .int (.int x) = true := ⟨rfl, rfl⟩
        have hset : (am_wl kA ft ad u).set a (ad a, .inr (i, ((List.range n).map (am_fl ft ad (u.2 a) rs i)).set j (.int x))) = am_wl kA ft ad (u.1, am_up u.2 a j x) := by
          rw [am_fl_setI hft]
          exact am_wl_seti hu (upd (u.2 a) j x)
        have hln : n0 ≤ u.1.length ∧ u.1.length ≤ am_sb := ⟨hRr.2.2.1, hRr.2.2.2.1⟩
        have kk : ∀ (H1 : Heap) (locs1 : List Loc), va_P D cl ((am_wl kA ft ad u).set a (ad a, .inr (i, ((List.range n).map (am_fl ft ad (u.2 a) rs i)).set j (.int x)))) H1 → va_D A ((am_wl kA ft ad u).set a (ad a, .inr (i, ((List.range n).map (am_fl ft ad (u.2 a) rs i)).set j (.int x)))) → va_S A s.heap H1 locs1 → W p l e R s m args below meth c0 H1 locs1 cells slots Qs (F0 m (pc + 3) ls (S.map (am_cv ad))) := by
          intro H1 locs1 hP1 hD1 hS1
          rw [hset] at hP1 hD1
          exact hF ad H1 locs1 cells slots ls hl ⟨hP1, hD1, hS1, hRr.1, hRr.2.1, hln.1, hln.2, hRr.2.2.2.2⟩
        have hll : j < ((List.range n).map (am_fl ft ad (u.2 a) rs i)).length := by simpa using hq
        rcases hfn with hfin | ⟨hfin, hin, hdc⟩
        · exact va_put (D := D) (ci := i) (v := .int x) (C := C) (T := T) (N := N) hx hb hts hcw ty hty hnms hown hAm.1 hP hD hS a he hc j hjN (hts _ hk) (fun _ h9 => h9) hfin hd hn2.1 hn2.2 hll hdg kk
        · exact va_putF (D := D) (ci := i) (v := .int x) (C := C) (T := T) (N := N) hx hb hts hcw ty hty hnms hown hAm.1 hP hD hS a he hc j hjN (hts _ hk) (fun _ h9 => h9) hfin (hnm.trans hin) hdc hd hn2.1 hn2.2 hll hdg kk
      · exact hF.elim
    · exact hF.elim
  · exact hF.elim
theorem as_putZ (cx : am_Cx p R s m args meth c0 D cl kA ft A ad0 mc ms nL cc own Ts nw nm sc ns sn sv lg xl xs) (C : String) (T : u_T) (N : Nat) (hc : cl[i]? = some (C, T, N)) (hjN : j < N) (hk : Cond.fieldLink own z.toNat (T j).1 (T j).2.1 (T j).2.2.1 ∈ Ts) (hfd : parseFieldDescriptor (T j).2.2.1 = some .boolean) (hft : ft i j = false) (hfn : (T j).2.2.2 = false ∨ ((T j).2.2.2 = true ∧ nm = "<init>" ∧ (T j).1 = own)) (hdg : decode cc pc = .ok (.putfield z.toNat, 3)) (hnx : nx = pc + 3) (hF : ao_putZ i j nx (am_Xs p l e R s m args below meth c0 Qs D cl kA ft A ad0 n0 mc ms nL) L S u b c) : (am_Xs p l e R s m args below meth c0 Qs D cl kA ft A ad0 n0 mc ms nL) pc L S u b c := by
  obtain ⟨hx, hb, hml, hown, hts, hA, hAm, hnm, hfr, hlo, hmc, hms, hcl, hxs⟩ := cx
  subst hnx
  unfold ao_putZ at hF
  split at hF
  · rename_i x a S
    split at hF
    · rename_i t' n rs hu
      split at hF
      · rename_i hq
        obtain ⟨rfl, hq⟩ := hq
        obtain ⟨hz, hF⟩ := hF
        obtain ⟨hcw, ty, hty, hnms, hrf⟩ := hcl i _ hc
        intro ad H locs cells slots ls hl hR
        obtain ⟨hP, hD, hS, hRr⟩ := hR
        have he := am_wl_at (kA := kA) (ft := ft) (ad := ad) hu
        have hd : parseFieldDescriptor (T j).2.2.1 = some .boolean := hfd
        have hn2 := am_nar_z hz
        have hset : (am_wl kA ft ad u).set a (ad a, .inr (i, ((List.range n).map (am_fl ft ad (u.2 a) rs i)).set j (.int x))) = am_wl kA ft ad (u.1, am_up u.2 a j x) := by
          rw [am_fl_setI hft]
          exact am_wl_seti hu (upd (u.2 a) j x)
        have hln : n0 ≤ u.1.length ∧ u.1.length ≤ am_sb := ⟨hRr.2.2.1, hRr.2.2.2.1⟩
        have kk : ∀ (H1 : Heap) (locs1 : List Loc), va_P D cl ((am_wl kA ft ad u).set a (ad a, .inr (i, ((List.range n).map (am_fl ft ad (u.2 a) rs i)).set j (.int x)))) H1 → va_D A ((am_wl kA ft ad u).set a (ad a, .inr (i, ((List.range n).map (am_fl ft ad (u.2 a) rs i)).set j (.int x)))) → va_S A s.heap H1 locs1 → W p l e R s m args below meth c0 H1 locs1 cells slots Qs (F0 m (pc + 3) ls (S.map (am_cv ad))) := by
          intro H1 locs1 hP1 hD1 hS1
          rw [hset] at hP1 hD1
          exact hF ad H1 locs1 cells slots ls hl ⟨hP1, hD1, hS1, hRr.1, hRr.2.1, hln.1, hln.2, hRr.2.2.2.2⟩
        have hll : j < ((List.range n).map (am_fl ft ad (u.2 a) rs i)).length := by simpa using hq
        rcases hfn with hfin | ⟨hfin, hin, hdc⟩
        · exact va_put (D := D) (ci := i) (v := .int x) (C := C) (T := T) (N := N) hx hb hts hcw ty hty hnms hown hAm.1 hP hD hS a he hc j hjN (hts _ hk) (fun _ h9 => h9) hfin hd hn2.1 hn2.2 hll hdg kk
        · exact va_putF (D := D) (ci := i) (v := .int x) (C := C) (T := T) (N := N) hx hb hts hcw ty hty hnms hown hAm.1 hP hD hS a he hc j hjN (hts _ hk) (fun _ h9 => h9) hfin (hnm.trans hin) hdc hd hn2.1 hn2.2 hll hdg kk
      · exact hF.elim
    · exact hF.elim
  · exact hF.elim
theorem as_putR (cx : am_Cx p R s m args meth c0 D cl kA ft A ad0 mc ms nL cc own Ts nw nm sc ns sn sv lg xl xs) (C : String) (T : u_T) (N : Nat) (hc : cl[i]? = some (C, T, N)) (hjN : j < N) (hk : Cond.fieldLink own z.toNat (T j).1 (T j).2.1 (T j).2.2.1 ∈ Ts) (hft : ft i j = true) (hfn : (T j).2.2.2 = false ∨ ((T j).2.2.2 = true ∧ nm = "<init>" ∧ (T j).1 = own)) (hdg : decode cc pc = .ok (.putfield z.toNat, 3)) (hnx : nx = pc + 3) (hF : ao_putR i j nx (am_Xs p l e R s m args below meth c0 Qs D cl kA ft A ad0 n0 mc ms nL) L S u b c) : (am_Xs p l e R s m args below meth c0 Qs D cl kA ft A ad0 n0 mc ms nL) pc L S u b c := by
  obtain ⟨hx, hb, hml, hown, hts, hA, hAm, hnm, hfr, hlo, hmc, hms, hcl, hxs⟩ := cx
  subst hnx
  unfold ao_putR at hF
  split at hF
  · rename_i v a S
    split at hF
    · rename_i t' n rs hu
      split at hF
      · rename_i hq
        obtain ⟨rfl, hq⟩ := hq
        obtain ⟨hcw, ty, hty, hnms, hrf⟩ := hcl i _ hc
        intro ad H locs cells slots ls hl hR
        obtain ⟨hP, hD, hS, hRr⟩ := hR
        have he := am_wl_at (kA := kA) (ft := ft) (ad := ad) hu
        have hd : parseFieldDescriptor (T j).2.2.1 = some (ty j) := hty j hjN
        have hn2 : narrow (ty j) (.ref (ad v)) = .ref (ad v) ∧ fits (ty j) (.ref (ad v)) = true := by
          rcases (hrf j hjN).1 hft with ⟨C9, e9⟩ | ⟨f9, e9⟩ <;> rw [e9] <;> exact ⟨rfl, rfl⟩
        have hset : (am_wl kA ft ad u).set a (ad a, .inr (i, ((List.range n).map (am_fl ft ad (u.2 a) rs i)).set j (.ref (ad v)))) = am_wl kA ft ad (u.1.set a (i + 3, n, rs.set j (some v)), u.2) := by
          rw [am_fl_setR hft hq.2]
          have := am_wl_set (kA := kA) (ft := ft) (ad := ad) (u := u) (q := a) (i + 3, n, rs.set j (some v)) (u.2 a)
          rw [show am_cp u.2 a (u.2 a) = u.2 from funext fun q => by by_cases h : q = a <;> simp [am_cp, h]] at this
          exact this
        have hln : n0 ≤ (u.1.set a (i + 3, n, rs.set j (some v))).length ∧ (u.1.set a (i + 3, n, rs.set j (some v))).length ≤ am_sb := by rw [List.length_set]; exact ⟨hRr.2.2.1, hRr.2.2.2.1⟩
        have kk : ∀ (H1 : Heap) (locs1 : List Loc), va_P D cl ((am_wl kA ft ad u).set a (ad a, .inr (i, ((List.range n).map (am_fl ft ad (u.2 a) rs i)).set j (.ref (ad v))))) H1 → va_D A ((am_wl kA ft ad u).set a (ad a, .inr (i, ((List.range n).map (am_fl ft ad (u.2 a) rs i)).set j (.ref (ad v))))) → va_S A s.heap H1 locs1 → W p l e R s m args below meth c0 H1 locs1 cells slots Qs (F0 m (pc + 3) ls (S.map (am_cv ad))) := by
          intro H1 locs1 hP1 hD1 hS1
          rw [hset] at hP1 hD1
          exact hF ad H1 locs1 cells slots ls hl ⟨hP1, hD1, hS1, hRr.1, hRr.2.1, hln.1, hln.2, hRr.2.2.2.2⟩
        have hll : j < ((List.range n).map (am_fl ft ad (u.2 a) rs i)).length := by simpa using hq.1
        rcases hfn with hfin | ⟨hfin, hin, hdc⟩
        · exact va_put (D := D) (ci := i) (v := .ref (ad v)) (C := C) (T := T) (N := N) hx hb hts hcw ty hty hnms hown hAm.1 hP hD hS a he hc j hjN (hts _ hk) (fun _ h9 => h9) hfin hd hn2.1 hn2.2 hll hdg kk
        · exact va_putF (D := D) (ci := i) (v := .ref (ad v)) (C := C) (T := T) (N := N) hx hb hts hcw ty hty hnms hown hAm.1 hP hD hS a he hc j hjN (hts _ hk) (fun _ h9 => h9) hfin (hnm.trans hin) hdc hd hn2.1 hn2.2 hll hdg kk
      · exact hF.elim
    · exact hF.elim
  · exact hF.elim
theorem as_iald (cx : am_Cx p R s m args meth c0 D cl kA ft A ad0 mc ms nL cc own Ts nw nm sc ns sn sv lg xl xs) (hck : decode cc pc = .ok (.iaload, 1) ∧ nx = pc + 1) (hF : ao_ald 0 nx (am_Xs p l e R s m args below meth c0 Qs D cl kA ft A ad0 n0 mc ms nL) L S u b c) : (am_Xs p l e R s m args below meth c0 Qs D cl kA ft A ad0 n0 mc ms nL) pc L S u b c := by
  obtain ⟨hx, hb, hml, hown, hts, hA, hAm, hnm, hfr, hlo, hmc, hms, hcl, hxs⟩ := cx
  unfold ao_ald at hF
  split at hF
  · rename_i x a S
    obtain ⟨h1, rfl⟩ := hck
    obtain ⟨n, rs, hu, hin, hF⟩ := hF
    intro ad H locs cells slots ls hl hR
    exact va_iald hx hb hAm.1 hR.1 a 0 (am_wl_at (kA := kA) (ft := ft) (ad := ad) hu) rfl hin h1 (hF ad H locs cells slots ls hl hR)
  · exact hF.elim
theorem as_zald (cx : am_Cx p R s m args meth c0 D cl kA ft A ad0 mc ms nL cc own Ts nw nm sc ns sn sv lg xl xs) (hck : decode cc pc = .ok (.baload, 1) ∧ nx = pc + 1) (hF : ao_ald 1 nx (am_Xs p l e R s m args below meth c0 Qs D cl kA ft A ad0 n0 mc ms nL) L S u b c) : (am_Xs p l e R s m args below meth c0 Qs D cl kA ft A ad0 n0 mc ms nL) pc L S u b c := by
  obtain ⟨hx, hb, hml, hown, hts, hA, hAm, hnm, hfr, hlo, hmc, hms, hcl, hxs⟩ := cx
  unfold ao_ald at hF
  split at hF
  · rename_i x a S
    obtain ⟨h1, rfl⟩ := hck
    obtain ⟨n, rs, hu, hin, hF⟩ := hF
    intro ad H locs cells slots ls hl hR
    exact va_zald hx hb hAm.1 hR.1 a 1 (am_wl_at (kA := kA) (ft := ft) (ad := ad) hu) rfl hin h1 (hF ad H locs cells slots ls hl hR)
  · exact hF.elim
theorem as_aald (cx : am_Cx p R s m args meth c0 D cl kA ft A ad0 mc ms nL cc own Ts nw nm sc ns sn sv lg xl xs) (hck : decode cc pc = .ok (.aaload, 1) ∧ nx = pc + 1) (hF : ao_aald nx (am_Xs p l e R s m args below meth c0 Qs D cl kA ft A ad0 n0 mc ms nL) L S u b c) : (am_Xs p l e R s m args below meth c0 Qs D cl kA ft A ad0 n0 mc ms nL) pc L S u b c := by
  obtain ⟨hx, hb, hml, hown, hts, hA, hAm, hnm, hfr, hlo, hmc, hms, hcl, hxs⟩ := cx
  unfold ao_aald at hF
  split at hF
  · rename_i x a S
    obtain ⟨h1, rfl⟩ := hck
    obtain ⟨n, rs, a', hu, hin, ha, hF⟩ := hF
    intro ad H locs cells slots ls hl hR
    have h := hF ad H locs cells slots ls hl hR
    refine W.aald (v := va_rf ((am_rg rs x.toNatClampNeg).map ad)) (ty := .array .int) hx hb (hR.1 a _ (am_wl_at (kA := kA) (ft := ft) (ad := ad) hu)) ((hAm.1.2 2 (kA 2, .array .int) rfl).1 n (fun j => va_rf ((am_rg rs j).map ad))) rfl (fun q => by cases q) (by show ¬ (x < 0 ∨ (arrV _ _ _).slots.size ≤ _); rw [arrV_size]; exact hin) (by show (arrV _ _ _).slots[_]? = _; rw [arrV_read _ _ (Nat.not_le.mp fun q => hin (Or.inr q))]) rfl rfl h1 ?_
    rw [ha]
    exact h
  · exact hF.elim
theorem as_iast (cx : am_Cx p R s m args meth c0 D cl kA ft A ad0 mc ms nL cc own Ts nw nm sc ns sn sv lg xl xs) (hck : decode cc pc = .ok (.iastore, 1) ∧ nx = pc + 1) (hF : ao_iast nx (am_Xs p l e R s m args below meth c0 Qs D cl kA ft A ad0 n0 mc ms nL) L S u b c) : (am_Xs p l e R s m args below meth c0 Qs D cl kA ft A ad0 n0 mc ms nL) pc L S u b c := by
  obtain ⟨hx, hb, hml, hown, hts, hA, hAm, hnm, hfr, hlo, hmc, hms, hcl, hxs⟩ := cx
  unfold ao_iast at hF
  split at hF
  · rename_i v x a S
    obtain ⟨h1, rfl⟩ := hck
    obtain ⟨n, rs, hu, hin, hF⟩ := hF
    intro ad H locs cells slots ls hl hR
    obtain ⟨hP, hD, hS, hRr⟩ := hR
    refine va_iast hx hb hAm.1 hP hD hS a 0 (am_wl_at (kA := kA) (ft := ft) (ad := ad) hu) rfl hin h1 fun H1 locs1 hP1 hD1 hS1 => ?_
    have hset : (am_wl kA ft ad u).set a (ad a, .inl (kA 0, n, .inl (upd (u.2 a) x.toNatClampNeg v))) = am_wl kA ft ad (u.1, am_up u.2 a x.toNatClampNeg v) := am_wl_seti hu (upd (u.2 a) x.toNatClampNeg v)
    rw [hset] at hP1 hD1
    exact hF ad H1 locs1 cells slots ls hl ⟨hP1, hD1, hS1, hRr⟩
  · exact hF.elim
theorem as_zast (cx : am_Cx p R s m args meth c0 D cl kA ft A ad0 mc ms nL cc own Ts nw nm sc ns sn sv lg xl xs) (hck : decode cc pc = .ok (.bastore, 1) ∧ nx = pc + 1) (hF : ao_zast nx (am_Xs p l e R s m args below meth c0 Qs D cl kA ft A ad0 n0 mc ms nL) L S u b c) : (am_Xs p l e R s m args below meth c0 Qs D cl kA ft A ad0 n0 mc ms nL) pc L S u b c := by
  obtain ⟨hx, hb, hml, hown, hts, hA, hAm, hnm, hfr, hlo, hmc, hms, hcl, hxs⟩ := cx
  unfold ao_zast at hF
  split at hF
  · rename_i v x a S
    obtain ⟨h1, rfl⟩ := hck
    obtain ⟨n, rs, hu, hin, hF⟩ := hF
    intro ad H locs cells slots ls hl hR
    obtain ⟨hP, hD, hS, hRr⟩ := hR
    refine va_zast hx hb hAm.1 hP hD hS a 1 (am_wl_at (kA := kA) (ft := ft) (ad := ad) hu) rfl hin h1 fun H1 locs1 hP1 hD1 hS1 => ?_
    have hset : (am_wl kA ft ad u).set a (ad a, .inl (kA 1, n, .inl (upd (u.2 a) x.toNatClampNeg (vp_nar .boolean v)))) = am_wl kA ft ad (u.1, am_up u.2 a x.toNatClampNeg (vp_nar .boolean v)) := am_wl_seti hu (upd (u.2 a) x.toNatClampNeg (vp_nar .boolean v))
    rw [hset] at hP1 hD1
    exact hF ad H1 locs1 cells slots ls hl ⟨hP1, hD1, hS1, hRr⟩
  · exact hF.elim
theorem as_alen (cx : am_Cx p R s m args meth c0 D cl kA ft A ad0 mc ms nL cc own Ts nw nm sc ns sn sv lg xl xs) (hck : decode cc pc = .ok (.arraylength, 1) ∧ nx = pc + 1) (hF : ao_alen nx (am_Xs p l e R s m args below meth c0 Qs D cl kA ft A ad0 n0 mc ms nL) L S u b c) : (am_Xs p l e R s m args below meth c0 Qs D cl kA ft A ad0 n0 mc ms nL) pc L S u b c := by
  obtain ⟨hx, hb, hml, hown, hts, hA, hAm, hnm, hfr, hlo, hmc, hms, hcl, hxs⟩ := cx
  unfold ao_alen at hF
  split at hF
  · rename_i a S
    obtain ⟨h1, rfl⟩ := hck
    obtain ⟨t, n, rs, hu, ht, hF⟩ := hF
    intro ad H locs cells slots ls hl hR
    have he := am_wl_at (kA := kA) (ft := ft) (ad := ad) hu
    have h := hF ad H locs cells slots ls hl hR
    match t, ht, he with
    | 0, _, he => exact va_alen hx hb hAm.1 hR.1 a 0 he rfl rfl h1 h
    | 1, _, he => exact va_alen hx hb hAm.1 hR.1 a 1 he rfl rfl h1 h
    | 2, _, he => exact va_alen hx hb hAm.1 hR.1 a 2 he rfl rfl h1 h
  · exact hF.elim
theorem as_dup (cx : am_Cx p R s m args meth c0 D cl kA ft A ad0 mc ms nL cc own Ts nw nm sc ns sn sv lg xl xs) (hck : decode cc pc = .ok (.dup, 1) ∧ nx = pc + 1) (hF : ao_dup nx (am_Xs p l e R s m args below meth c0 Qs D cl kA ft A ad0 n0 mc ms nL) L S u b c) : (am_Xs p l e R s m args below meth c0 Qs D cl kA ft A ad0 n0 mc ms nL) pc L S u b c := by
  obtain ⟨hx, hb, hml, hown, hts, hA, hAm, hnm, hfr, hlo, hmc, hms, hcl, hxs⟩ := cx
  unfold ao_dup at hF
  split at hF
  · split at hF
    · rename_i hv
      intro ad H locs cells slots ls hl hR
      obtain ⟨h1, rfl⟩ := hck
      exact lv_dup hx hb h1 (by rw [am_cv_cat]; exact hv) (hF ad H locs cells slots ls hl hR)
    · exact hF.elim
  · exact hF.elim
theorem as_pop (cx : am_Cx p R s m args meth c0 D cl kA ft A ad0 mc ms nL cc own Ts nw nm sc ns sn sv lg xl xs) (hck : decode cc pc = .ok (.pop, 1) ∧ nx = pc + 1) (hF : ao_pop nx (am_Xs p l e R s m args below meth c0 Qs D cl kA ft A ad0 n0 mc ms nL) L S u b c) : (am_Xs p l e R s m args below meth c0 Qs D cl kA ft A ad0 n0 mc ms nL) pc L S u b c := by
  obtain ⟨hx, hb, hml, hown, hts, hA, hAm, hnm, hfr, hlo, hmc, hms, hcl, hxs⟩ := cx
  unfold ao_pop at hF
  split at hF
  · split at hF
    · rename_i hv
      intro ad H locs cells slots ls hl hR
      obtain ⟨h1, rfl⟩ := hck
      exact lv_pop hx hb h1 (by rw [am_cv_cat]; exact hv) (hF ad H locs cells slots ls hl hR)
    · exact hF.elim
  · exact hF.elim
theorem as_dupx1 (cx : am_Cx p R s m args meth c0 D cl kA ft A ad0 mc ms nL cc own Ts nw nm sc ns sn sv lg xl xs) (hck : decode cc pc = .ok (.dup_x1, 1) ∧ nx = pc + 1) (hF : ao_dupx1 nx (am_Xs p l e R s m args below meth c0 Qs D cl kA ft A ad0 n0 mc ms nL) L S u b c) : (am_Xs p l e R s m args below meth c0 Qs D cl kA ft A ad0 n0 mc ms nL) pc L S u b c := by
  obtain ⟨hx, hb, hml, hown, hts, hA, hAm, hnm, hfr, hlo, hmc, hms, hcl, hxs⟩ := cx
  unfold ao_dupx1 at hF
  split at hF
  · split at hF
    · rename_i hv
      intro ad H locs cells slots ls hl hR
      obtain ⟨h1, rfl⟩ := hck
      exact lv_dup_x1 hx hb h1 (by rw [am_cv_cat]; exact hv.1) (by rw [am_cv_cat]; exact hv.2) (hF ad H locs cells slots ls hl hR)
    · exact hF.elim
  · exact hF.elim
theorem as_dup2 (cx : am_Cx p R s m args meth c0 D cl kA ft A ad0 mc ms nL cc own Ts nw nm sc ns sn sv lg xl xs) (hck : decode cc pc = .ok (.dup2, 1) ∧ nx = pc + 1) (hF : ao_dup2 nx (am_Xs p l e R s m args below meth c0 Qs D cl kA ft A ad0 n0 mc ms nL) L S u b c) : (am_Xs p l e R s m args below meth c0 Qs D cl kA ft A ad0 n0 mc ms nL) pc L S u b c := by
  obtain ⟨hx, hb, hml, hown, hts, hA, hAm, hnm, hfr, hlo, hmc, hms, hcl, hxs⟩ := cx
  unfold ao_dup2 at hF
  split at hF
  · split at hF
    · rename_i hv
      intro ad H locs cells slots ls hl hR
      obtain ⟨h1, rfl⟩ := hck
      exact lv_dup2_11 hx hb h1 (by rw [am_cv_cat]; exact hv.1) (by rw [am_cv_cat]; exact hv.2) (hF ad H locs cells slots ls hl hR)
    · exact hF.elim
  · exact hF.elim
theorem as_gets (cx : am_Cx p R s m args meth c0 D cl kA ft A ad0 mc ms nL cc own Ts nw nm sc ns sn sv lg xl xs) (hi : i < ns) (hk : Cond.fieldLink own z.toNat (sc i).1 (sc i).2 "[I" ∈ Ts) (hck : decode cc pc = .ok (.getstatic z.toNat, 3) ∧ nx = pc + 3) (hF : ao_push (.ref (am_sb + i)) nx (am_Xs p l e R s m args below meth c0 Qs D cl kA ft A ad0 n0 mc ms nL) L S u b c) : (am_Xs p l e R s m args below meth c0 Qs D cl kA ft A ad0 n0 mc ms nL) pc L S u b c := by
  obtain ⟨hx, hb, hml, hown, hts, hA, hAm, hnm, hfr, hlo, hmc, hms, hcl, hxs⟩ := cx
  intro ad H locs cells slots ls hl hR
  obtain ⟨h1, rfl⟩ := hck
  have h := hF ad H locs cells slots ls hl hR
  have ha : ad (am_sb + i) = ad0 (am_sb + i) := hR.2.2.2.2.2.2.2.1 _ (Or.inr (Nat.le_add_right _ _))
  have h2 : W p l e R s m args below meth c0 H locs cells slots Qs (F0 m (pc + 3) ls (.ref (ad0 (am_sb + i)) :: S.map (am_cv ad))) := by rw [← ha]; exact h
  exact va_gets hx hb (hAm.2.2.2 i hi).1 hR.2.2.1 hown (hts _ hk) (fun _ h9 => h9) h1 h2
theorem as_sld (cx : am_Cx p R s m args meth c0 D cl kA ft A ad0 mc ms nL cc own Ts nw nm sc ns sn sv lg xl xs) (hck : decode cc pc = .ok (.iaload, 1) ∧ nx = pc + 1) (hF : ao_sld sn sv ns nx (am_Xs p l e R s m args below meth c0 Qs D cl kA ft A ad0 n0 mc ms nL) L S u b c) : (am_Xs p l e R s m args below meth c0 Qs D cl kA ft A ad0 n0 mc ms nL) pc L S u b c := by
  obtain ⟨hx, hb, hml, hown, hts, hA, hAm, hnm, hfr, hlo, hmc, hms, hcl, hxs⟩ := cx
  unfold ao_sld at hF
  split at hF
  · rename_i x a S
    obtain ⟨h1, rfl⟩ := hck
    obtain ⟨k, rfl, hk, hin, hF⟩ := hF
    intro ad H locs cells slots ls hl hR
    have ha : ad (am_sb + k) = ad0 (am_sb + k) := hR.2.2.2.2.2.2.2.1 _ (Or.inr (Nat.le_add_right _ _))
    show W p l e R s m args below meth c0 H locs cells slots Qs (F0 m pc ls (.int x :: .ref (ad (am_sb + k)) :: S.map (am_cv ad)))
    rw [ha]
    exact va_ti hx hb (hAm.2.2.2 k hk).2 hR.2.2.1 hin rfl h1 (hF ad H locs cells slots ls hl hR)
  · exact hF.elim
theorem as_slen (cx : am_Cx p R s m args meth c0 D cl kA ft A ad0 mc ms nL cc own Ts nw nm sc ns sn sv lg xl xs) (hck : decode cc pc = .ok (.arraylength, 1) ∧ nx = pc + 1) (hF : ao_slen sn ns nx (am_Xs p l e R s m args below meth c0 Qs D cl kA ft A ad0 n0 mc ms nL) L S u b c) : (am_Xs p l e R s m args below meth c0 Qs D cl kA ft A ad0 n0 mc ms nL) pc L S u b c := by
  obtain ⟨hx, hb, hml, hown, hts, hA, hAm, hnm, hfr, hlo, hmc, hms, hcl, hxs⟩ := cx
  unfold ao_slen at hF
  split at hF
  · rename_i a S
    obtain ⟨h1, rfl⟩ := hck
    obtain ⟨k, rfl, hk, hF⟩ := hF
    intro ad H locs cells slots ls hl hR
    have ha : ad (am_sb + k) = ad0 (am_sb + k) := hR.2.2.2.2.2.2.2.1 _ (Or.inr (Nat.le_add_right _ _))
    show W p l e R s m args below meth c0 H locs cells slots Qs (F0 m pc ls (.ref (ad (am_sb + k)) :: S.map (am_cv ad)))
    rw [ha]
    exact va_tlen hx hb (hAm.2.2.2 k hk).2 hR.2.2.1 rfl h1 (hF ad H locs cells slots ls hl hR)
  · exact hF.elim
theorem as_xld (cx : am_Cx p R s m args meth c0 D cl kA ft A ad0 mc ms nL cc own Ts nw nm sc ns sn sv lg xl xs) (hlg : lg = true) (hck : decode cc pc = .ok (.iaload, 1) ∧ nx = pc + 1) (hF : ao_xld xl xs nx (am_Xs p l e R s m args below meth c0 Qs D cl kA ft A ad0 n0 mc ms nL) L S u b c) : (am_Xs p l e R s m args below meth c0 Qs D cl kA ft A ad0 n0 mc ms nL) pc L S u b c := by
  obtain ⟨hx, hb, hml, hown, hts, hA, hAm, hnm, hfr, hlo, hmc, hms, hcl, hxs⟩ := cx
  unfold ao_xld at hF
  split at hF
  · rename_i x a S
    obtain ⟨h1, rfl⟩ := hck
    obtain ⟨rfl, hin, hF⟩ := hF
    intro ad H locs cells slots ls hl hR
    obtain ⟨hX, hbl, hbA⟩ := hxs hlg
    have ha : ad am_xb = ad0 am_xb := hR.2.2.2.2.2.2.2.1 _ (Or.inr (by decide))
    show W p l e R s m args below meth c0 H locs cells slots Qs (F0 m pc ls (.int x :: .ref (ad am_xb) :: S.map (am_cv ad)))
    rw [ha]
    exact va_sld hx hb hX hbl hbA hR.2.2.1 hin h1 (hF ad H locs cells slots ls hl hR)
  · exact hF.elim
theorem as_xlen (cx : am_Cx p R s m args meth c0 D cl kA ft A ad0 mc ms nL cc own Ts nw nm sc ns sn sv lg xl xs) (hlg : lg = true) (hck : decode cc pc = .ok (.arraylength, 1) ∧ nx = pc + 1) (hF : ao_xlen xl nx (am_Xs p l e R s m args below meth c0 Qs D cl kA ft A ad0 n0 mc ms nL) L S u b c) : (am_Xs p l e R s m args below meth c0 Qs D cl kA ft A ad0 n0 mc ms nL) pc L S u b c := by
  obtain ⟨hx, hb, hml, hown, hts, hA, hAm, hnm, hfr, hlo, hmc, hms, hcl, hxs⟩ := cx
  unfold ao_xlen at hF
  split at hF
  · rename_i a S
    obtain ⟨h1, rfl⟩ := hck
    obtain ⟨rfl, hF⟩ := hF
    intro ad H locs cells slots ls hl hR
    obtain ⟨hX, hbl, hbA⟩ := hxs hlg
    have ha : ad am_xb = ad0 am_xb := hR.2.2.2.2.2.2.2.1 _ (Or.inr (by decide))
    show W p l e R s m args below meth c0 H locs cells slots Qs (F0 m pc ls (.ref (ad am_xb) :: S.map (am_cv ad)))
    rw [ha]
    exact va_slen hx hb hX hbl hbA hR.2.2.1 h1 (hF ad H locs cells slots ls hl hR)
  · exact hF.elim
theorem am_h8_of {S : List Value} (ad : Nat → Nat) (h : am_h8 S = true) : ((S.map (am_cv ad)).map fun v => v.category).sum ≤ 8 := by
  rw [am_cv_sum]
  exact Nat.le_of_ble_eq_true h
theorem as_max (cx : am_Cx p R s m args meth c0 D cl kA ft A ad0 mc ms nL cc own Ts nw nm sc ns sn sv lg xl xs) (w1 : Cond.methodLink own z.toNat Lib.Math.max.name ∈ Ts) (w2 : Cond.static Lib.Math.max.name ∈ Ts) (w3 : Cond.initialized "java/lang/Math" ∈ Ts) (w4 : Cond.code Lib.Math.max.name Lib.Math.max.code 2 (some .int) ∈ Ts) (hck : decode cc pc = .ok (.invokestatic z.toNat, 3) ∧ nx = pc + 3) (hF : ao_math2 (fun x y => if x < y then y else x) nx (am_Xs p l e R s m args below meth c0 Qs D cl kA ft A ad0 n0 mc ms nL) L S u b c) : (am_Xs p l e R s m args below meth c0 Qs D cl kA ft A ad0 n0 mc ms nL) pc L S u b c := by
  obtain ⟨hx, hb, hml, hown, hts, hA, hAm, hnm, hfr, hlo, hmc, hms, hcl, hxs⟩ := cx
  unfold ao_math2 at hF
  split at hF
  · rename_i y x S
    split at hF
    · rename_i h8
      intro ad H locs cells slots ls hl hR
      obtain ⟨h1, rfl⟩ := hck
      have h9 := am_h8_of ad h8
      exact va_mmax hx hb (hml.trans hl.1.symm) hown (hts _ w1) (hts _ w2) (hts _ w3) (hts _ w4) hfr (by omega) (by have := hR.2.2.2.1; omega) (by have := hR.2.2.2.2.1; omega) h1 (hF ad H locs cells slots ls hl hR)
    · exact hF.elim
  · exact hF.elim
theorem as_min (cx : am_Cx p R s m args meth c0 D cl kA ft A ad0 mc ms nL cc own Ts nw nm sc ns sn sv lg xl xs) (w1 : Cond.methodLink own z.toNat Lib.Math.min.name ∈ Ts) (w2 : Cond.static Lib.Math.min.name ∈ Ts) (w3 : Cond.initialized "java/lang/Math" ∈ Ts) (w4 : Cond.code Lib.Math.min.name Lib.Math.min.code 2 (some .int) ∈ Ts) (hck : decode cc pc = .ok (.invokestatic z.toNat, 3) ∧ nx = pc + 3) (hF : ao_math2 (fun x y => if y < x then y else x) nx (am_Xs p l e R s m args below meth c0 Qs D cl kA ft A ad0 n0 mc ms nL) L S u b c) : (am_Xs p l e R s m args below meth c0 Qs D cl kA ft A ad0 n0 mc ms nL) pc L S u b c := by
  obtain ⟨hx, hb, hml, hown, hts, hA, hAm, hnm, hfr, hlo, hmc, hms, hcl, hxs⟩ := cx
  unfold ao_math2 at hF
  split at hF
  · rename_i y x S
    split at hF
    · rename_i h8
      intro ad H locs cells slots ls hl hR
      obtain ⟨h1, rfl⟩ := hck
      have h9 := am_h8_of ad h8
      exact va_mmin hx hb (hml.trans hl.1.symm) hown (hts _ w1) (hts _ w2) (hts _ w3) (hts _ w4) hfr (by omega) (by have := hR.2.2.2.1; omega) (by have := hR.2.2.2.2.1; omega) h1 (hF ad H locs cells slots ls hl hR)
    · exact hF.elim
  · exact hF.elim
theorem as_abs (cx : am_Cx p R s m args meth c0 D cl kA ft A ad0 mc ms nL cc own Ts nw nm sc ns sn sv lg xl xs) (w1 : Cond.methodLink own z.toNat Lib.Math.abs.name ∈ Ts) (w2 : Cond.static Lib.Math.abs.name ∈ Ts) (w3 : Cond.initialized "java/lang/Math" ∈ Ts) (w4 : Cond.code Lib.Math.abs.name Lib.Math.abs.code 1 (some .int) ∈ Ts) (hck : decode cc pc = .ok (.invokestatic z.toNat, 3) ∧ nx = pc + 3) (hF : ao_math1 (fun x => if 0 ≤ x then x else 0 - x) nx (am_Xs p l e R s m args below meth c0 Qs D cl kA ft A ad0 n0 mc ms nL) L S u b c) : (am_Xs p l e R s m args below meth c0 Qs D cl kA ft A ad0 n0 mc ms nL) pc L S u b c := by
  obtain ⟨hx, hb, hml, hown, hts, hA, hAm, hnm, hfr, hlo, hmc, hms, hcl, hxs⟩ := cx
  unfold ao_math1 at hF
  split at hF
  · rename_i x S
    split at hF
    · rename_i h8
      intro ad H locs cells slots ls hl hR
      obtain ⟨h1, rfl⟩ := hck
      have h9 := am_h8_of ad h8
      exact va_mabs hx hb (hml.trans hl.1.symm) hown (hts _ w1) (hts _ w2) (hts _ w3) (hts _ w4) hfr (by omega) (by have := hR.2.2.2.1; omega) (by have := hR.2.2.2.2.1; omega) h1 (hF ad H locs cells slots ls hl hR)
    · exact hF.elim
  · exact hF.elim
theorem as_minl (cx : am_Cx p R s m args meth c0 D cl kA ft A ad0 mc ms nL cc own Ts nw nm sc ns sn sv lg xl xs) (w1 : Cond.methodLink own z.toNat Lib.MathLoose.min_long.x ∈ Ts) (w2 : Cond.static Lib.MathLoose.min_long.x ∈ Ts) (w3 : Cond.initialized "java/lang/Math" ∈ Ts) (w4 : Cond.code Lib.MathLoose.min_long.x Lib.MathLoose.min_long.code 4 (some .long) ∈ Ts) (hck : decode cc pc = .ok (.invokestatic z.toNat, 3) ∧ nx = pc + 3) (hF : ao_math2l (fun x y => if y < x then y else x) nx (am_Xs p l e R s m args below meth c0 Qs D cl kA ft A ad0 n0 mc ms nL) L S u b c) : (am_Xs p l e R s m args below meth c0 Qs D cl kA ft A ad0 n0 mc ms nL) pc L S u b c := by
  obtain ⟨hx, hb, hml, hown, hts, hA, hAm, hnm, hfr, hlo, hmc, hms, hcl, hxs⟩ := cx
  unfold ao_math2l at hF
  split at hF
  · rename_i y x S
    split at hF
    · rename_i h8
      intro ad H locs cells slots ls hl hR
      obtain ⟨h1, rfl⟩ := hck
      have h9 := am_h8_of ad h8
      exact va_mmin_long hx hb (hml.trans hl.1.symm) hown (hts _ w1) (hts _ w2) (hts _ w3) (hts _ w4) hfr (by omega) (by have := hR.2.2.2.1; omega) (by have := hR.2.2.2.2.1; omega) h1 (hF ad H locs cells slots ls hl hR)
    · exact hF.elim
  · exact hF.elim
theorem as_copy (cx : am_Cx p R s m args meth c0 D cl kA ft A ad0 mc ms nL cc own Ts nw nm sc ns sn sv lg xl xs) (w1 : Cond.methodLink own z.toNat arraycopyName ∈ Ts) (w2 : Cond.native arraycopyName ∈ Ts) (w3 : Cond.static arraycopyName ∈ Ts) (w4 : Cond.initialized "java/lang/System" ∈ Ts) (hck : decode cc pc = .ok (.invokestatic z.toNat, 3) ∧ nx = pc + 3) (hF : ao_copy nx (am_Xs p l e R s m args below meth c0 Qs D cl kA ft A ad0 n0 mc ms nL) L S u b c) : (am_Xs p l e R s m args below meth c0 Qs D cl kA ft A ad0 n0 mc ms nL) pc L S u b c := by
  obtain ⟨hx, hb, hml, hown, hts, hA, hAm, hnm, hfr, hlo, hmc, hms, hcl, hxs⟩ := cx
  unfold ao_copy at hF
  split at hF
  · rename_i n dp a1 sp a0 S
    obtain ⟨h1, rfl⟩ := hck
    obtain ⟨h8, n0', r0, n1, r1, hu0, hu1, g1, g2, g3, g4, g5, hF⟩ := hF
    intro ad H locs cells slots ls hl hR
    have h9 := am_h8_of ad h8
    obtain ⟨hP, hD, hS, hRr⟩ := hR
    have hfw : nativeFrameWords "java/lang/System" "arraycopy" 5 + 11 ≤ 32 := by decide
    refine va_copyi (rest := S.map (am_cv ad)) hx hb (hml.trans hl.1.symm) hown (hts _ w1) (hts _ w2) (hts _ w3) (hts _ w4) hAm.1 hP hD hS a0 a1 0 0 (am_wl_at (kA := kA) (ft := ft) (ad := ad) hu0) (am_wl_at (kA := kA) (ft := ft) (ad := ad) hu1) rfl rfl rfl g1 g2 g3 g4 g5 (fun _ _ => rfl) hfr (by omega) h1 fun H1 locs1 hP1 hD1 hS1 => ?_
    have hset : (am_wl kA ft ad u).set a1 (ad a1, .inl (kA 0, n1, .inl (va_cpy (u.2 a0) (u.2 a1) sp.toNatClampNeg dp.toNatClampNeg n.toNatClampNeg))) = am_wl kA ft ad (u.1, am_cp u.2 a1 (va_cpy (u.2 a0) (u.2 a1) sp.toNatClampNeg dp.toNatClampNeg n.toNatClampNeg)) := am_wl_seti hu1 _
    rw [hset] at hP1 hD1
    exact hF ad H1 locs1 cells slots ls hl ⟨hP1, hD1, hS1, hRr⟩
  · exact hF.elim
theorem as_oini (cx : am_Cx p R s m args meth c0 D cl kA ft A ad0 mc ms nL cc own Ts nw nm sc ns sn sv lg xl xs) (w1 : Cond.methodLink own z.toNat Lib.objectInit ∈ Ts) (w2 : Cond.instanceMethod Lib.objectInit ∈ Ts) (w3 : Cond.code Lib.objectInit ⟨#[0xb1]⟩ 1 none ∈ Ts) (hck : decode cc pc = .ok (.invokespecial z.toNat, 3) ∧ nx = pc + 3) (hF : ao_oini nx (am_Xs p l e R s m args below meth c0 Qs D cl kA ft A ad0 n0 mc ms nL) L S u b c) : (am_Xs p l e R s m args below meth c0 Qs D cl kA ft A ad0 n0 mc ms nL) pc L S u b c := by
  obtain ⟨hx, hb, hml, hown, hts, hA, hAm, hnm, hfr, hlo, hmc, hms, hcl, hxs⟩ := cx
  unfold ao_oini at hF
  split at hF
  · rename_i a S
    split at hF
    · rename_i h8
      intro ad H locs cells slots ls hl hR
      obtain ⟨h1, rfl⟩ := hck
      have h9 := am_h8_of ad h8
      exact W.objInit hx hb hown (hts _ w1) (hts _ w2) (hts _ w3) rfl (by rw [hml]; exact hl.1) rfl h1 hfr (by have := lv_room (m := m) (pc := pc) (ls := ls) (rest := S.map (am_cv ad)) h9; have e0 : (F0 m pc ls (Value.ref (ad a) :: S.map (am_cv ad))).monitorRoom = (F0 m pc ls (S.map (am_cv ad))).monitorRoom := rfl; show 2 * (F0 m pc ls (Value.ref (ad a) :: S.map (am_cv ad))).monitorRoom + _ + 12 ≤ _; omega) (hF ad H locs cells slots ls hl hR)
    · exact hF.elim
  · exact hF.elim
theorem as_switch (cx : am_Cx p R s m args meth c0 D cl kA ft A ad0 mc ms nL cc own Ts nw nm sc ns sn sv lg xl xs) (f : Int32 → Nat) (dflt lo hi : Int) (offs : Array Int) (len : Nat) (hdg : decode cc pc = .ok (.tableswitch dflt lo hi offs, len)) (hf1 : ∀ x : Int32, (x.toInt < lo ∨ hi < x.toInt) → (pc : Int) + dflt = (f x : Int)) (hf2 : ∀ x : Int32, ¬ x.toInt < lo → ¬ hi < x.toInt → ∃ off, offs[(x.toInt - lo).toNat]? = some off ∧ (pc : Int) + off = (f x : Int)) (hF : ao_switch f (am_Xs p l e R s m args below meth c0 Qs D cl kA ft A ad0 n0 mc ms nL) L S u b c) : (am_Xs p l e R s m args below meth c0 Qs D cl kA ft A ad0 n0 mc ms nL) pc L S u b c := by
  obtain ⟨hx, hb, hml, hown, hts, hA, hAm, hnm, hfr, hlo, hmc, hms, hcl, hxs⟩ := cx
  unfold ao_switch at hF
  split at hF
  · rename_i x S
    intro ad H locs cells slots ls hl hR
    have h := hF ad H locs cells slots ls hl hR
    by_cases g1 : x.toInt < lo
    · exact lv_tableOut hx hb hdg (Or.inl g1) (hf1 x (Or.inl g1)) h
    · by_cases g2 : hi < x.toInt
      · exact lv_tableOut hx hb hdg (Or.inr g2) (hf1 x (Or.inr g2)) h
      · obtain ⟨off, h1, h2⟩ := hf2 x g1 g2
        exact lv_tableIn hx hb hdg g1 g2 h1 h2 h
  · exact hF.elim
end SIM
end
section
/-! NEW CELLS, CALLS, ENDS -/
theorem am_cv_ag {ad ad' : Nat → Nat} {n : Nat} (hag : ∀ a, am_vr n a = true → ad' a = ad a) {v : Value} (h : am_vv n v = true) : am_cv ad' v = am_cv ad v := by
  cases v <;> first | rfl | exact congrArg Value.ref (hag _ h)
theorem am_S_ag {ad ad' : Nat → Nat} {n : Nat} (hag : ∀ a, am_vr n a = true → ad' a = ad a) {S : List Value} (h : S.all (am_vv n) = true) : S.map (am_cv ad') = S.map (am_cv ad) :=
  List.map_congr_left fun v hv => am_cv_ag hag (List.all_eq_true.mp h v hv)
theorem am_kn_ag {ad ad' : Nat → Nat} {n : Nat} (hag : ∀ a, am_vr n a = true → ad' a = ad a) {L : List (Option Value)} (h : L.all (am_vo n) = true) : am_kn ad' L = am_kn ad L := by
  unfold am_kn
  refine congrArg (fun f => List.filterMap f (List.range L.length)) (funext fun i => ?_)
  cases hv : am_ld L i with
  | none => rfl
  | some v =>
    have hm : (some v) ∈ L := by
      unfold am_ld at hv
      cases ho : L[i]? with
      | none => rw [ho] at hv; cases hv
      | some w =>
        rw [ho] at hv
        have : w = some v := hv
        subst this
        exact List.mem_of_getElem? ho
    have := List.all_eq_true.mp h _ hm
    simp only [Option.map_some]
    rw [am_cv_ag hag this]
theorem am_rg_ag {ad ad' : Nat → Nat} {n : Nat} (hag : ∀ a, am_vr n a = true → ad' a = ad a) {rs : List (Option Nat)} (h : rs.all (am_vn n) = true) (j : Nat) : (am_rg rs j).map ad' = (am_rg rs j).map ad := by
  cases hv : am_rg rs j with
  | none => rfl
  | some a =>
    have hm : (some a) ∈ rs := by
      unfold am_rg at hv
      cases ho : rs[j]? with
      | none => rw [ho] at hv; cases hv
      | some w =>
        rw [ho] at hv
        have : w = some a := hv
        subst this
        exact List.mem_of_getElem? ho
    have h2 := List.all_eq_true.mp h _ hm
    simp only [Option.map_some]
    rw [hag a (by unfold am_vr; rw [show Nat.blt a n = true from h2]; rfl)]
theorem am_en_ag {kA : Nat → ClassId} {ft : Nat → Nat → Bool} {ad ad' : Nat → Nat} {n : Nat} (hag : ∀ a, am_vr n a = true → ad' a = ad a) {f : Nat → Int32} {e : Nat × Nat × List (Option Nat)} (h : e.2.2.all (am_vn n) = true) : am_en kA ft ad' f e = am_en kA ft ad f e := by
  obtain ⟨t, k, rs⟩ := e
  match t with
  | 0 => rfl
  | 1 => rfl
  | 2 =>
    show (Sum.inl (kA 2, k, Sum.inr (Sum.inr (Sum.inr (Sum.inr (fun j => (am_rg rs j).map ad'))))) : va_E) = Sum.inl (kA 2, k, Sum.inr (Sum.inr (Sum.inr (Sum.inr (fun j => (am_rg rs j).map ad)))))
    rw [show (fun j => (am_rg rs j).map ad') = fun j => (am_rg rs j).map ad from funext fun j => am_rg_ag hag h j]
  | t + 3 =>
    show (Sum.inr (t, (List.range k).map (am_fl ft ad' f rs t)) : va_E) = Sum.inr (t, (List.range k).map (am_fl ft ad f rs t))
    rw [show am_fl ft ad' f rs t = am_fl ft ad f rs t from funext fun j => by unfold am_fl; rw [am_rg_ag hag h j]]
theorem am_wl_ag {kA : Nat → ClassId} {ft : Nat → Nat → Bool} {ad ad' : Nat → Nat} {u : am_St} (hag : ∀ a, am_vr u.1.length a = true → ad' a = ad a) (h : u.1.all (fun e => e.2.2.all (am_vn u.1.length)) = true) : am_wl kA ft ad' u = am_wl kA ft ad u := by
  unfold am_wl
  refine List.map_congr_left fun q hq => ?_
  have hl : q < u.1.length := List.mem_range.mp hq
  rw [List.getElem?_eq_getElem hl, Option.getD_some, am_en_ag hag (List.all_eq_true.mp h _ (List.getElem_mem hl)), hag q (by unfold am_vr; rw [show Nat.blt q u.1.length = true from Nat.le_of_lt_succ (Nat.succ_lt_succ hl) |> Nat.ble_eq_true_of_le]; rfl)]
theorem am_wl_app (kA : Nat → ClassId) (ft : Nat → Nat → Bool) (ad : Nat → Nat) (u : am_St) (es : am_Sh) : am_wl kA ft ad (u.1 ++ es, am_zr u.2 u.1.length es.length) = am_wl kA ft ad u ++ (List.range es.length).map fun q => (ad (u.1.length + q), am_en kA ft ad (fun _ => 0) ((es[q]?).getD (0, 0, []))) := by
  unfold am_wl
  rw [show (u.1 ++ es, am_zr u.2 u.1.length es.length).1.length = u.1.length + es.length from List.length_append, List.range_add, List.map_append, List.map_map]
  congr 1
  · refine List.map_congr_left fun q hq => ?_
    have hl : q < u.1.length := List.mem_range.mp hq
    show (ad q, am_en kA ft ad (am_zr u.2 u.1.length es.length q) (((u.1 ++ es)[q]?).getD (0, 0, []))) = _
    rw [List.getElem?_append_left hl]
    simp [am_zr, show ¬ u.1.length ≤ q by omega]
  · refine List.map_congr_left fun q hq => ?_
    have hl : q < es.length := List.mem_range.mp hq
    show (ad (u.1.length + q), am_en kA ft ad (am_zr u.2 u.1.length es.length (u.1.length + q)) (((u.1 ++ es)[u.1.length + q]?).getD (0, 0, []))) = _
    rw [List.getElem?_append_right (Nat.le_add_right _ _), Nat.add_sub_cancel_left]
    simp [am_zr, hl]
theorem am_val_of {sh : am_Sh} {L : List (Option Value)} {S : List Value} (h : am_val sh L S = true) : S.all (am_vv sh.length) = true ∧ L.all (am_vo sh.length) = true ∧ sh.all (fun e => e.2.2.all (am_vn sh.length)) = true := by
  unfold am_val at h
  rw [Bool.and_eq_true, Bool.and_eq_true] at h
  exact h
theorem am_vr_of {n a : Nat} (h : am_vr n a = true) : a < n ∨ am_sb ≤ a := by
  unfold am_vr at h
  rw [Bool.or_eq_true] at h
  rcases h with h | h
  · exact Or.inl (Nat.le_of_ble_eq_true h)
  · exact Or.inr (Nat.le_of_ble_eq_true h)
section SIM2
variable {p : Program} {l : Launch} {e : Env} {R : Room} {s : State} {m : MethodId} {args : Array Value} {below : List Frame} {meth : Method} {c0 : Code} {Qs : State → Prop} {D : va_G} {cl : List vw_C} {kA : Nat → ClassId} {ft : Nat → Nat → Bool} {A : Nat → Prop} {ad0 : Nat → Nat} {n0 mc ms nL : Nat} {cc : ByteArray} {own : String} {Ts nw : List Cond} {nm : String} {sc : Nat → String × String} {ns : Nat} {sn : Nat → Nat} {sv : Nat → Nat → Int32} {lg : Bool} {xl : Nat} {xs : Nat → Int32}
variable {pc nx i j : Nat} {z : Int} {L : List (Option Value)} {S : List Value} {u : am_St} {b c : Nat}
theorem as_new (cx : am_Cx p R s m args meth c0 D cl kA ft A ad0 mc ms nL cc own Ts nw nm sc ns sn sv lg xl xs) (C : String) (T : u_T) (N : Nat) (hc : cl[i]? = some (C, T, N)) (hjN : j = N) (w1 : Cond.classLink own z.toNat C ∈ Ts) (w2 : Cond.instantiable C N ∈ Ts) (w3 : Cond.initialized C ∈ Ts) (hck : decode cc pc = .ok (.new z.toNat, 3) ∧ nx = pc + 3) (hF : ao_new i j nx (am_Xs p l e R s m args below meth c0 Qs D cl kA ft A ad0 n0 mc ms nL) L S u b c) : (am_Xs p l e R s m args below meth c0 Qs D cl kA ft A ad0 n0 mc ms nL) pc L S u b c := by
  obtain ⟨hx, hb, hml, hown, hts, hA, hAm, hnm, hfr, hlo, hmc, hms, hcl, hxs⟩ := cx
  subst hjN
  unfold ao_new at hF
  split at hF
  · rename_i hq
    obtain ⟨hb1, hc1, hsb, hval⟩ := hq
    obtain ⟨hvS, hvL, hvu⟩ := am_val_of hval
    obtain ⟨h1, rfl⟩ := hck
    obtain ⟨hcw, ty, hty, hnms, hrf⟩ := hcl i _ hc
    intro ad H locs cells slots ls hl hR
    obtain ⟨hP, hD, hS, r1, r2, r3, r4, r5, r6⟩ := hR
    have hfs : ∀ k, k < j → defaultValue (ty k) = vp_V ((List.range j).map (am_fl ft ad (fun _ => 0) (List.replicate j none) i)) k := by
      intro k hk
      have hg : am_rg (List.replicate j none) k = none := by unfold am_rg; rw [List.getElem?_replicate_of_lt hk]; rfl
      unfold vp_V
      rw [List.getD_eq_getElem?_getD, am_fl_get hk]
      show _ = am_fl ft ad (fun _ => 0) (List.replicate j none) i k
      unfold am_fl
      rw [hg]
      cases hf : ft i k with
      | true => rcases (hrf k hk).1 hf with ⟨C9, e9⟩ | ⟨f9, e9⟩ <;> rw [e9] <;> rfl
      | false => rcases (hrf k hk).2 hf with e9 | e9 <;> rw [e9] <;> rfl
    refine va_new (ci := i) (fs := (List.range j).map (am_fl ft ad (fun _ => 0) (List.replicate j none) i)) (C := C) (T := T) (N := j) hx hb hts hcw ty hty hown (hts _ w1) (hts _ w2) (hts _ w3) hAm.1 hP hD hS hA hc hfs (by omega) (by omega) h1 (fun q H1 hP1 hD1 hS1 => ?_)
    have hag : ∀ a, am_vr u.1.length a = true → (fun k => if k = u.1.length then q else ad k) a = ad a := fun a ha => by
      have := am_vr_of ha
      exact if_neg (by omega)
    have hw : am_wl kA ft ad u ++ [(q, .inr (i, (List.range j).map (am_fl ft ad (fun _ => 0) (List.replicate j none) i)))] = am_wl kA ft (fun k => if k = u.1.length then q else ad k) (u.1 ++ [(i + 3, j, List.replicate j none)], am_zr u.2 u.1.length 1) := by
      have h9 := am_wl_app kA ft (fun k => if k = u.1.length then q else ad k) u [(i + 3, j, List.replicate j none)]
      rw [am_wl_ag hag hvu] at h9
      refine Eq.trans ?_ h9.symm
      congr 1
      show [(q, _)] = [(if u.1.length + 0 = u.1.length then q else _, _)]
      rw [if_pos (Nat.add_zero _)]
      have := am_en_ag (kA := kA) (ft := ft) (f := fun _ => 0) hag (e := (i + 3, j, List.replicate j none)) (by rw [List.all_eq_true]; intro x hx9; rw [(List.mem_replicate.mp hx9).2]; rfl)
      exact congrArg (fun w => [(q, w)]) this.symm
    rw [hw] at hP1 hD1
    have h := hF (fun k => if k = u.1.length then q else ad k) H1 locs (cells + 1) (slots + j) ls (by rw [am_kn_ag hag hvL]; exact hl) ⟨hP1, hD1, hS1, by omega, by omega, by simp; omega, by simp; omega, fun k hk => by rw [← r5 k hk]; exact if_neg (by omega), fun h0 => by omega⟩
    have e1 : (Value.ref u.1.length :: S).map (am_cv (fun k => if k = u.1.length then q else ad k)) = .ref q :: S.map (am_cv ad) := by
      rw [List.map_cons, am_S_ag hag hvS]
      show Value.ref (if u.1.length = u.1.length then q else _) :: _ = _
      rw [if_pos rfl]
    rw [e1] at h
    exact h
  · exact hF.elim
theorem as_newi (cx : am_Cx p R s m args meth c0 D cl kA ft A ad0 mc ms nL cc own Ts nw nm sc ns sn sv lg xl xs) (w1 : Cond.arrayClass .int ∈ Ts) (hck : decode cc pc = .ok (.newarray .int, 2) ∧ nx = pc + 2) (hF : ao_newa 0 j nx (am_Xs p l e R s m args below meth c0 Qs D cl kA ft A ad0 n0 mc ms nL) L S u b c) : (am_Xs p l e R s m args below meth c0 Qs D cl kA ft A ad0 n0 mc ms nL) pc L S u b c := by
  obtain ⟨hx, hb, hml, hown, hts, hA, hAm, hnm, hfr, hlo, hmc, hms, hcl, hxs⟩ := cx
  unfold ao_newa at hF
  split at hF
  · rename_i x S
    split at hF
    · rename_i hq
      obtain ⟨hxe, hj, hb1, hc1, hsb, hval⟩ := hq
      obtain ⟨hvS, hvL, hvu⟩ := am_val_of hval
      obtain ⟨h1, rfl⟩ := hck
      intro ad H locs cells slots ls hl hR
      obtain ⟨hP, hD, hS, r1, r2, r3, r4, r5, r6⟩ := hR
      have hx0 : ¬ x < 0 := by rw [hxe]; exact nI_pos (by omega)
      have hxn : x.toNatClampNeg = j := by rw [hxe]; exact nI_clamp (by omega)
      have hby : j * componentBytes .int ≤ 536870912 := Nat.le_trans (Nat.mul_le_mul_left j (show componentBytes .int ≤ 8 by decide)) (by omega)
      refine va_newa (atype := .int) (ty := .int) (a0 := (j, .inl (fun _ => 0))) hx hb (hts _ w1) rfl hAm.1 hP hD hS hA (fun cA => rfl) hx0 hxn hby (by omega) (by omega) h1 (fun q cA H1 hK1 hP1 hD1 hS1 => ?_)
      have hcA : cA = kA 0 := by
        have g1 : va_RA s cA .int := (hK1.2 3 (cA, .int) rfl).2
        have g2 : va_RA s (kA 0) .int := (hAm.1.2 0 (kA 0, .int) rfl).2
        exact Option.some.inj (g1.symm.trans g2)
      subst hcA
      have hag : ∀ a, am_vr u.1.length a = true → (fun k => if k = u.1.length then q else ad k) a = ad a := fun a ha => by
        have := am_vr_of ha
        exact if_neg (by omega)
      have hw : am_wl kA ft ad u ++ [(q, .inl (kA 0, j, .inl (fun _ => 0)))] = am_wl kA ft (fun k => if k = u.1.length then q else ad k) (u.1 ++ [(0, j, [])], am_zr u.2 u.1.length 1) := by
        have h9 := am_wl_app kA ft (fun k => if k = u.1.length then q else ad k) u [(0, j, [])]
        rw [am_wl_ag hag hvu] at h9
        refine Eq.trans ?_ h9.symm
        congr 1
        show [(q, _)] = [(if u.1.length + 0 = u.1.length then q else _, _)]
        rw [if_pos (Nat.add_zero _)]
        rfl
      rw [hw] at hP1 hD1
      have h := hF (fun k => if k = u.1.length then q else ad k) H1 locs (cells + 1) (slots + j) ls (by rw [am_kn_ag hag hvL]; exact hl) ⟨hP1, hD1, hS1, by omega, by omega, by simp; omega, by simp; omega, fun k hk => by rw [← r5 k hk]; exact if_neg (by omega), fun h0 => by omega⟩
      have e1 : (Value.ref u.1.length :: S).map (am_cv (fun k => if k = u.1.length then q else ad k)) = .ref q :: S.map (am_cv ad) := by
        rw [List.map_cons, am_S_ag hag hvS]
        show Value.ref (if u.1.length = u.1.length then q else _) :: _ = _
        rw [if_pos rfl]
      rw [e1] at h
      exact h
    · exact hF.elim
  · exact hF.elim
theorem as_newz (cx : am_Cx p R s m args meth c0 D cl kA ft A ad0 mc ms nL cc own Ts nw nm sc ns sn sv lg xl xs) (w1 : Cond.arrayClass .boolean ∈ Ts) (hck : decode cc pc = .ok (.newarray .boolean, 2) ∧ nx = pc + 2) (hF : ao_newa 1 j nx (am_Xs p l e R s m args below meth c0 Qs D cl kA ft A ad0 n0 mc ms nL) L S u b c) : (am_Xs p l e R s m args below meth c0 Qs D cl kA ft A ad0 n0 mc ms nL) pc L S u b c := by
  obtain ⟨hx, hb, hml, hown, hts, hA, hAm, hnm, hfr, hlo, hmc, hms, hcl, hxs⟩ := cx
  unfold ao_newa at hF
  split at hF
  · rename_i x S
    split at hF
    · rename_i hq
      obtain ⟨hxe, hj, hb1, hc1, hsb, hval⟩ := hq
      obtain ⟨hvS, hvL, hvu⟩ := am_val_of hval
      obtain ⟨h1, rfl⟩ := hck
      intro ad H locs cells slots ls hl hR
      obtain ⟨hP, hD, hS, r1, r2, r3, r4, r5, r6⟩ := hR
      have hx0 : ¬ x < 0 := by rw [hxe]; exact nI_pos (by omega)
      have hxn : x.toNatClampNeg = j := by rw [hxe]; exact nI_clamp (by omega)
      have hby : j * componentBytes .boolean ≤ 536870912 := Nat.le_trans (Nat.mul_le_mul_left j (show componentBytes .boolean ≤ 8 by decide)) (by omega)
      refine va_newa (atype := .boolean) (ty := .boolean) (a0 := (j, .inl (fun _ => 0))) hx hb (hts _ w1) rfl hAm.1 hP hD hS hA (fun cA => rfl) hx0 hxn hby (by omega) (by omega) h1 (fun q cA H1 hK1 hP1 hD1 hS1 => ?_)
      have hcA : cA = kA 1 := by
        have g1 : va_RA s cA .boolean := (hK1.2 3 (cA, .boolean) rfl).2
        have g2 : va_RA s (kA 1) .boolean := (hAm.1.2 1 (kA 1, .boolean) rfl).2
        exact Option.some.inj (g1.symm.trans g2)
      subst hcA
      have hag : ∀ a, am_vr u.1.length a = true → (fun k => if k = u.1.length then q else ad k) a = ad a := fun a ha => by
        have := am_vr_of ha
        exact if_neg (by omega)
      have hw : am_wl kA ft ad u ++ [(q, .inl (kA 1, j, .inl (fun _ => 0)))] = am_wl kA ft (fun k => if k = u.1.length then q else ad k) (u.1 ++ [(1, j, [])], am_zr u.2 u.1.length 1) := by
        have h9 := am_wl_app kA ft (fun k => if k = u.1.length then q else ad k) u [(1, j, [])]
        rw [am_wl_ag hag hvu] at h9
        refine Eq.trans ?_ h9.symm
        congr 1
        show [(q, _)] = [(if u.1.length + 0 = u.1.length then q else _, _)]
        rw [if_pos (Nat.add_zero _)]
        rfl
      rw [hw] at hP1 hD1
      have h := hF (fun k => if k = u.1.length then q else ad k) H1 locs (cells + 1) (slots + j) ls (by rw [am_kn_ag hag hvL]; exact hl) ⟨hP1, hD1, hS1, by omega, by omega, by simp; omega, by simp; omega, fun k hk => by rw [← r5 k hk]; exact if_neg (by omega), fun h0 => by omega⟩
      have e1 : (Value.ref u.1.length :: S).map (am_cv (fun k => if k = u.1.length then q else ad k)) = .ref q :: S.map (am_cv ad) := by
        rw [List.map_cons, am_S_ag hag hvS]
        show Value.ref (if u.1.length = u.1.length then q else _) :: _ = _
        rw [if_pos rfl]
      rw [e1] at h
      exact h
    · exact hF.elim
  · exact hF.elim
theorem as_newg (cx : am_Cx p R s m args meth c0 D cl kA ft A ad0 mc ms nL cc own Ts nw nm sc ns sn sv lg xl xs) (w1 : Cond.classLink own z.toNat ("[" ++ (FieldType.array .int).toString) ∈ Ts) (w2 : Cond.arrayClass .int ∈ Ts) (hck : decode cc pc = .ok (.multianewarray z.toNat 2, 4) ∧ nx = pc + 4) (hF : ao_newg i j nx (am_Xs p l e R s m args below meth c0 Qs D cl kA ft A ad0 n0 mc ms nL) L S u b c) : (am_Xs p l e R s m args below meth c0 Qs D cl kA ft A ad0 n0 mc ms nL) pc L S u b c := by
  obtain ⟨hx, hb, hml, hown, hts, hA, hAm, hnm, hfr, hlo, hmc, hms, hcl, hxs⟩ := cx
  unfold ao_newg at hF
  split at hF
  · rename_i y x S
    split at hF
    · rename_i hq
      obtain ⟨hxe, hye, hi, hj, hb1, hc1, hsb, hval⟩ := hq
      obtain ⟨hvS, hvL, hvu⟩ := am_val_of hval
      obtain ⟨h1, rfl⟩ := hck
      intro ad H locs cells slots ls hl hR
      obtain ⟨hP, hD, hS, r1, r2, r3, r4, r5, r6⟩ := hR
      have hx0 : ¬ x < 0 := by rw [hxe]; exact nI_pos (by omega)
      have hxn : x.toNatClampNeg = i := by rw [hxe]; exact nI_clamp (by omega)
      have hy0 : ¬ y < 0 := by rw [hye]; exact nI_pos (by omega)
      have hyn : y.toNatClampNeg = j := by rw [hye]; exact nI_clamp (by omega)
      have hcy : s.vm.findClass (FieldType.array .int).toString = some (kA 0) := (hAm.1.2 0 (kA 0, .int) rfl).2
      have hby : j * componentBytes .int ≤ 536870912 := Nat.le_trans (Nat.mul_le_mul_left j (show componentBytes .int ≤ 8 by decide)) (by omega)
      refine va_mna (X := am_wl kA ft ad u) (L := []) (f := fun _ => .inl (kA 0, 0, .inl (fun _ => 0))) (ty := .int) (cy := kA 0) (z := (j, .inl (fun _ => 0))) hx hb hown (hts _ w1) hAm.2.2.1 (hts _ w2) hcy hAm.1 (by rw [show va_pl [] _ = ([] : va_W) from rfl, List.append_nil]; exact hP) (by rw [show va_pl [] _ = ([] : va_W) from rfl, List.append_nil]; exact hD) hS hA hx0 hy0 hxn hyn (by omega) hby (by omega) (by decide) (by decide) (by omega) (by omega) (fun cA => by first | rfl | (rw [vp_cell_i, ← arrV_new]; rfl)) h1 (fun q r cA H1 hinj hnl hK1 hP1 hD1 hS1 => ?_)
      have hcA : cA = kA 2 := by
        have g1 : va_RA s cA (.array .int) := (hK1.2 3 (cA, .array .int) rfl).2
        have g2 : va_RA s (kA 2) (.array .int) := (hAm.1.2 2 (kA 2, .array .int) rfl).2
        exact Option.some.inj (g1.symm.trans g2)
      subst hcA
      generalize hade : (fun k => if k = u.1.length then q else if u.1.length < k ∧ k ≤ u.1.length + i then r (k - u.1.length - 1) else ad k) = ad'
      have had : ∀ k, ad' k = if k = u.1.length then q else if u.1.length < k ∧ k ≤ u.1.length + i then r (k - u.1.length - 1) else ad k := fun k => by rw [← hade]
      have hag : ∀ a, am_vr u.1.length a = true → ad' a = ad a := fun a ha => by
        have := am_vr_of ha
        rw [had, if_neg (by omega), if_neg (by omega)]
      have hw : (am_wl kA ft ad u ++ [(q, .inl (kA 2, i, .inr (.inr (.inr (.inr (fun k => if k < i then some (r k) else none))))))]) ++ va_pl ([] ++ (List.range i).map r) (vr_up (fun _ => .inl (kA 0, 0, .inl (fun _ => 0))) ((List.range i).map r) (.inl (kA 0, j, .inl (fun _ => 0)))) = am_wl kA ft ad' (u.1 ++ (2, i, (List.range i).map fun k => some (u.1.length + 1 + k)) :: List.replicate i (0, j, []), am_zr u.2 u.1.length (1 + i)) := by
        have h9 := am_wl_app kA ft ad' u ((2, i, (List.range i).map fun k => some (u.1.length + 1 + k)) :: List.replicate i (0, j, []))
        rw [am_wl_ag hag hvu, show ((2, i, (List.range i).map fun k => some (u.1.length + 1 + k)) :: List.replicate i (0, j, []) : am_Sh).length = 1 + i by simp; omega] at h9
        refine Eq.trans ?_ h9.symm
        rw [List.append_assoc]
        congr 1
        rw [List.range_add, List.map_append, List.map_map]
        congr 1
        · show [(q, _)] = [(ad' (u.1.length + 0), am_en kA ft ad' (fun _ => 0) (2, i, (List.range i).map fun k => some (u.1.length + 1 + k)))]
          rw [had, if_pos (Nat.add_zero _)]
          unfold am_en
          refine congrArg (fun w => [(q, Sum.inl (kA 2, i, Sum.inr (Sum.inr (Sum.inr (Sum.inr w)))))]) (funext fun k => ?_)
          unfold am_rg
          by_cases hk : k < i
          · rw [if_pos hk, List.getElem?_map, List.getElem?_range hk]
            show some (r k) = some (ad' (u.1.length + 1 + k))
            rw [had, if_neg (by omega), if_pos (by omega), show u.1.length + 1 + k - u.1.length - 1 = k by omega]
          · rw [if_neg hk, List.getElem?_eq_none (by simp; omega)]
            rfl
        · unfold va_pl
          rw [List.nil_append, List.map_map]
          refine List.map_congr_left fun k hk => ?_
          have hk : k < i := List.mem_range.mp hk
          have e2 : ad' (u.1.length + (1 + k)) = r k := by rw [had, if_neg (by omega), if_pos (by omega), show u.1.length + (1 + k) - u.1.length - 1 = k by omega]
          have e3 : (((2, i, (List.range i).map fun k => some (u.1.length + 1 + k)) :: List.replicate i (0, j, []) : am_Sh)[1 + k]?).getD (0, 0, []) = (0, j, []) := by rw [Nat.add_comm 1 k, List.getElem?_cons_succ, List.getElem?_replicate_of_lt hk]; rfl
          simp only [Function.comp]
          rw [e2, e3, vr_up_in (List.mem_map.mpr ⟨k, List.mem_range.mpr hk, rfl⟩)]
          rfl
      rw [hw] at hP1 hD1
      have h := hF ad' H1 locs (cells + 1 + i) (slots + i + i * j) ls (by rw [am_kn_ag hag hvL]; exact hl) ⟨hP1, hD1, hS1, by omega, by omega, by simp; omega, by simp; omega, fun k hk => by rw [← r5 k hk, had, if_neg (by omega), if_neg (by omega)], fun h0 => by omega⟩
      have e1 : (Value.ref u.1.length :: S).map (am_cv ad') = .ref q :: S.map (am_cv ad) := by
        rw [List.map_cons, am_S_ag hag hvS]
        show Value.ref (ad' u.1.length) :: _ = _
        rw [had, if_pos rfl]
      rw [e1] at h
      exact h
    · exact hF.elim
  · exact hF.elim
end SIM2
end
