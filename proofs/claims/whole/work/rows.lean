section
-- ===== PART A: goes FIRST, ahead of the names: the tables' words, and 'selects' of the private methods out of them =====
/-- a private method of a class that the tables say can be made, by its rows of tables_1 -/
def lw_okq (q : MethodName × Nat) : Prop := (q.1.cls ≠ "java/lang/invoke/MethodHandle" ∧ q.1.cls ≠ "java/lang/invoke/VarHandle") ∧ Cond.instantiable q.1.cls q.2 ∈ tables_1 ∧ Cond.privateMethod q.1 ∈ tables_1 ∧ Cond.instanceMethod q.1 ∈ tables_1
theorem lw_p0 : lw_okq (⟨"AdvisoryMatch$Ways", "goOnByEachNeed", "()V"⟩, 4) := ⟨⟨by decide +kernel, by decide +kernel⟩, List.mem_of_getElem? (i := 126) (by decide +kernel), List.mem_of_getElem? (i := 410) (by decide +kernel), List.mem_of_getElem? (i := 411) (by decide +kernel)⟩
theorem lw_p1 : lw_okq (⟨"AdvisoryMatch$Needs", "isActive", "(I[I)Z"⟩, 7) := ⟨⟨by decide +kernel, by decide +kernel⟩, List.mem_of_getElem? (i := 55) (by decide +kernel), List.mem_of_getElem? (i := 426) (by decide +kernel), List.mem_of_getElem? (i := 427) (by decide +kernel)⟩
theorem lw_p2 : lw_okq (⟨"AdvisoryMatch$Needs", "holds", "(I[I)Z"⟩, 7) := ⟨⟨by decide +kernel, by decide +kernel⟩, List.mem_of_getElem? (i := 55) (by decide +kernel), List.mem_of_getElem? (i := 430) (by decide +kernel), List.mem_of_getElem? (i := 431) (by decide +kernel)⟩
theorem lw_p3 : lw_okq (⟨"AdvisoryMatch$Ways", "goOn", "(II)V"⟩, 4) := ⟨⟨by decide +kernel, by decide +kernel⟩, List.mem_of_getElem? (i := 126) (by decide +kernel), List.mem_of_getElem? (i := 446) (by decide +kernel), List.mem_of_getElem? (i := 447) (by decide +kernel)⟩
theorem lw_p4 : lw_okq (⟨"AdvisoryMatch", "noteHitsOf", "(I)V"⟩, 9) := ⟨⟨by decide +kernel, by decide +kernel⟩, List.mem_of_getElem? (i := 15) (by decide +kernel), List.mem_of_getElem? (i := 463) (by decide +kernel), List.mem_of_getElem? (i := 464) (by decide +kernel)⟩
theorem lw_p5 : lw_okq (⟨"AdvisoryMatch$Advisories", "hasSpanWith", "(II)Z"⟩, 8) := ⟨⟨by decide +kernel, by decide +kernel⟩, List.mem_of_getElem? (i := 83) (by decide +kernel), List.mem_of_getElem? (i := 481) (by decide +kernel), List.mem_of_getElem? (i := 482) (by decide +kernel)⟩
theorem lw_p6 : lw_okq (⟨"AdvisoryMatch$Needs", "isBroken", "(I[I)Z"⟩, 7) := ⟨⟨by decide +kernel, by decide +kernel⟩, List.mem_of_getElem? (i := 55) (by decide +kernel), List.mem_of_getElem? (i := 517) (by decide +kernel), List.mem_of_getElem? (i := 518) (by decide +kernel)⟩
theorem lw_p7 : lw_okq (⟨"AdvisoryMatch", "markPlacesOf", "(I)V"⟩, 9) := ⟨⟨by decide +kernel, by decide +kernel⟩, List.mem_of_getElem? (i := 15) (by decide +kernel), List.mem_of_getElem? (i := 525) (by decide +kernel), List.mem_of_getElem? (i := 526) (by decide +kernel)⟩
theorem lw_p8 : lw_okq (⟨"AdvisoryMatch", "isClear", "(II)Z"⟩, 9) := ⟨⟨by decide +kernel, by decide +kernel⟩, List.mem_of_getElem? (i := 15) (by decide +kernel), List.mem_of_getElem? (i := 533) (by decide +kernel), List.mem_of_getElem? (i := 534) (by decide +kernel)⟩
theorem lw_p9 : lw_okq (⟨"AdvisoryMatch$Planner", "choose", "(II)V"⟩, 8) := ⟨⟨by decide +kernel, by decide +kernel⟩, List.mem_of_getElem? (i := 160) (by decide +kernel), List.mem_of_getElem? (i := 547) (by decide +kernel), List.mem_of_getElem? (i := 548) (by decide +kernel)⟩
theorem lw_p10 : lw_okq (⟨"AdvisoryMatch$Planner", "keepTried", "(I)V"⟩, 8) := ⟨⟨by decide +kernel, by decide +kernel⟩, List.mem_of_getElem? (i := 160) (by decide +kernel), List.mem_of_getElem? (i := 551) (by decide +kernel), List.mem_of_getElem? (i := 552) (by decide +kernel)⟩
theorem lw_p11 : lw_okq (⟨"AdvisoryMatch$Planner", "settle", "(III)V"⟩, 8) := ⟨⟨by decide +kernel, by decide +kernel⟩, List.mem_of_getElem? (i := 160) (by decide +kernel), List.mem_of_getElem? (i := 559) (by decide +kernel), List.mem_of_getElem? (i := 560) (by decide +kernel)⟩
theorem lw_p12 : lw_okq (⟨"AdvisoryMatch$Planner", "isClearPlace", "(II)Z"⟩, 8) := ⟨⟨by decide +kernel, by decide +kernel⟩, List.mem_of_getElem? (i := 160) (by decide +kernel), List.mem_of_getElem? (i := 570) (by decide +kernel), List.mem_of_getElem? (i := 571) (by decide +kernel)⟩
theorem lw_p13 : lw_okq (⟨"AdvisoryMatchModel", "isPack", "(I)Z"⟩, 31) := ⟨⟨by decide +kernel, by decide +kernel⟩, List.mem_of_getElem? (i := 597) (by decide +kernel), List.mem_of_getElem? (i := 705) (by decide +kernel), List.mem_of_getElem? (i := 706) (by decide +kernel)⟩
theorem lw_p14 : lw_okq (⟨"AdvisoryMatchModel", "lookAtInstalled", "()V"⟩, 31) := ⟨⟨by decide +kernel, by decide +kernel⟩, List.mem_of_getElem? (i := 597) (by decide +kernel), List.mem_of_getElem? (i := 729) (by decide +kernel), List.mem_of_getElem? (i := 730) (by decide +kernel)⟩
theorem lw_p15 : lw_okq (⟨"AdvisoryMatchModel", "lacking", "()I"⟩, 31) := ⟨⟨by decide +kernel, by decide +kernel⟩, List.mem_of_getElem? (i := 597) (by decide +kernel), List.mem_of_getElem? (i := 733) (by decide +kernel), List.mem_of_getElem? (i := 734) (by decide +kernel)⟩
def lw_privs_1 : List (MethodName × Nat) := [(⟨"AdvisoryMatch$Ways", "goOnByEachNeed", "()V"⟩, 4), (⟨"AdvisoryMatch$Needs", "isActive", "(I[I)Z"⟩, 7), (⟨"AdvisoryMatch$Needs", "holds", "(I[I)Z"⟩, 7), (⟨"AdvisoryMatch$Ways", "goOn", "(II)V"⟩, 4), (⟨"AdvisoryMatch", "noteHitsOf", "(I)V"⟩, 9), (⟨"AdvisoryMatch$Advisories", "hasSpanWith", "(II)Z"⟩, 8), (⟨"AdvisoryMatch$Needs", "isBroken", "(I[I)Z"⟩, 7), (⟨"AdvisoryMatch", "markPlacesOf", "(I)V"⟩, 9), (⟨"AdvisoryMatch", "isClear", "(II)Z"⟩, 9), (⟨"AdvisoryMatch$Planner", "choose", "(II)V"⟩, 8), (⟨"AdvisoryMatch$Planner", "keepTried", "(I)V"⟩, 8), (⟨"AdvisoryMatch$Planner", "settle", "(III)V"⟩, 8), (⟨"AdvisoryMatch$Planner", "isClearPlace", "(II)Z"⟩, 8), (⟨"AdvisoryMatchModel", "isPack", "(I)Z"⟩, 31), (⟨"AdvisoryMatchModel", "lookAtInstalled", "()V"⟩, 31), (⟨"AdvisoryMatchModel", "lacking", "()I"⟩, 31)]
theorem lw_r1 : ∀ q ∈ lw_privs_1, lw_okq q := List.forall_mem_cons.mpr ⟨lw_p0, List.forall_mem_cons.mpr ⟨lw_p1, List.forall_mem_cons.mpr ⟨lw_p2, List.forall_mem_cons.mpr ⟨lw_p3, List.forall_mem_cons.mpr ⟨lw_p4, List.forall_mem_cons.mpr ⟨lw_p5, List.forall_mem_cons.mpr ⟨lw_p6, List.forall_mem_cons.mpr ⟨lw_p7, List.forall_mem_cons.mpr ⟨lw_p8, List.forall_mem_cons.mpr ⟨lw_p9, List.forall_mem_cons.mpr ⟨lw_p10, List.forall_mem_cons.mpr ⟨lw_p11, List.forall_mem_cons.mpr ⟨lw_p12, List.forall_mem_cons.mpr ⟨lw_p13, List.forall_mem_cons.mpr ⟨lw_p14, List.forall_mem_cons.mpr ⟨lw_p15, fun _ h => absurd h List.not_mem_nil⟩⟩⟩⟩⟩⟩⟩⟩⟩⟩⟩⟩⟩⟩⟩⟩
theorem lw_p16 : lw_okq (⟨"AdvisoryMatchModel", "isActive", "(I)Z"⟩, 31) := ⟨⟨by decide +kernel, by decide +kernel⟩, List.mem_of_getElem? (i := 597) (by decide +kernel), List.mem_of_getElem? (i := 737) (by decide +kernel), List.mem_of_getElem? (i := 738) (by decide +kernel)⟩
theorem lw_p17 : lw_okq (⟨"AdvisoryMatchModel", "doesHold", "(I)Z"⟩, 31) := ⟨⟨by decide +kernel, by decide +kernel⟩, List.mem_of_getElem? (i := 597) (by decide +kernel), List.mem_of_getElem? (i := 741) (by decide +kernel), List.mem_of_getElem? (i := 742) (by decide +kernel)⟩
theorem lw_p18 : lw_okq (⟨"AdvisoryMatchModel", "isAdvisory", "(I)Z"⟩, 31) := ⟨⟨by decide +kernel, by decide +kernel⟩, List.mem_of_getElem? (i := 597) (by decide +kernel), List.mem_of_getElem? (i := 753) (by decide +kernel), List.mem_of_getElem? (i := 754) (by decide +kernel)⟩
theorem lw_p19 : lw_okq (⟨"AdvisoryMatchModel", "scoreOf", "(I)I"⟩, 31) := ⟨⟨by decide +kernel, by decide +kernel⟩, List.mem_of_getElem? (i := 597) (by decide +kernel), List.mem_of_getElem? (i := 777) (by decide +kernel), List.mem_of_getElem? (i := 778) (by decide +kernel)⟩
theorem lw_p20 : lw_okq (⟨"AdvisoryMatchModel", "findWays", "()V"⟩, 31) := ⟨⟨by decide +kernel, by decide +kernel⟩, List.mem_of_getElem? (i := 597) (by decide +kernel), List.mem_of_getElem? (i := 803) (by decide +kernel), List.mem_of_getElem? (i := 804) (by decide +kernel)⟩
theorem lw_p21 : lw_okq (⟨"AdvisoryMatchModel", "scoreThere", "(III)I"⟩, 31) := ⟨⟨by decide +kernel, by decide +kernel⟩, List.mem_of_getElem? (i := 597) (by decide +kernel), List.mem_of_getElem? (i := 807) (by decide +kernel), List.mem_of_getElem? (i := 808) (by decide +kernel)⟩
theorem lw_p22 : lw_okq (⟨"AdvisoryMatchModel", "hasSpan", "(II)Z"⟩, 31) := ⟨⟨by decide +kernel, by decide +kernel⟩, List.mem_of_getElem? (i := 597) (by decide +kernel), List.mem_of_getElem? (i := 811) (by decide +kernel), List.mem_of_getElem? (i := 812) (by decide +kernel)⟩
theorem lw_p23 : lw_okq (⟨"AdvisoryMatchModel", "tell", "(III)V"⟩, 31) := ⟨⟨by decide +kernel, by decide +kernel⟩, List.mem_of_getElem? (i := 597) (by decide +kernel), List.mem_of_getElem? (i := 815) (by decide +kernel), List.mem_of_getElem? (i := 816) (by decide +kernel)⟩
theorem lw_p24 : lw_okq (⟨"AdvisoryMatchModel", "isExcepted", "(II)Z"⟩, 31) := ⟨⟨by decide +kernel, by decide +kernel⟩, List.mem_of_getElem? (i := 597) (by decide +kernel), List.mem_of_getElem? (i := 819) (by decide +kernel), List.mem_of_getElem? (i := 820) (by decide +kernel)⟩
theorem lw_p25 : lw_okq (⟨"AdvisoryMatchModel", "findBad", "()V"⟩, 31) := ⟨⟨by decide +kernel, by decide +kernel⟩, List.mem_of_getElem? (i := 597) (by decide +kernel), List.mem_of_getElem? (i := 831) (by decide +kernel), List.mem_of_getElem? (i := 832) (by decide +kernel)⟩
theorem lw_p26 : lw_okq (⟨"AdvisoryMatchModel", "mayBe", "()Z"⟩, 31) := ⟨⟨by decide +kernel, by decide +kernel⟩, List.mem_of_getElem? (i := 597) (by decide +kernel), List.mem_of_getElem? (i := 835) (by decide +kernel), List.mem_of_getElem? (i := 836) (by decide +kernel)⟩
theorem lw_p27 : lw_okq (⟨"AdvisoryMatchModel", "cost", "()I"⟩, 31) := ⟨⟨by decide +kernel, by decide +kernel⟩, List.mem_of_getElem? (i := 597) (by decide +kernel), List.mem_of_getElem? (i := 839) (by decide +kernel), List.mem_of_getElem? (i := 840) (by decide +kernel)⟩
theorem lw_p28 : lw_okq (⟨"AdvisoryMatchModel", "goesOn", "()Z"⟩, 31) := ⟨⟨by decide +kernel, by decide +kernel⟩, List.mem_of_getElem? (i := 597) (by decide +kernel), List.mem_of_getElem? (i := 843) (by decide +kernel), List.mem_of_getElem? (i := 844) (by decide +kernel)⟩
def lw_privs_2 : List (MethodName × Nat) := [(⟨"AdvisoryMatchModel", "isActive", "(I)Z"⟩, 31), (⟨"AdvisoryMatchModel", "doesHold", "(I)Z"⟩, 31), (⟨"AdvisoryMatchModel", "isAdvisory", "(I)Z"⟩, 31), (⟨"AdvisoryMatchModel", "scoreOf", "(I)I"⟩, 31), (⟨"AdvisoryMatchModel", "findWays", "()V"⟩, 31), (⟨"AdvisoryMatchModel", "scoreThere", "(III)I"⟩, 31), (⟨"AdvisoryMatchModel", "hasSpan", "(II)Z"⟩, 31), (⟨"AdvisoryMatchModel", "tell", "(III)V"⟩, 31), (⟨"AdvisoryMatchModel", "isExcepted", "(II)Z"⟩, 31), (⟨"AdvisoryMatchModel", "findBad", "()V"⟩, 31), (⟨"AdvisoryMatchModel", "mayBe", "()Z"⟩, 31), (⟨"AdvisoryMatchModel", "cost", "()I"⟩, 31), (⟨"AdvisoryMatchModel", "goesOn", "()Z"⟩, 31)]
theorem lw_r2 : ∀ q ∈ lw_privs_2, lw_okq q := List.forall_mem_cons.mpr ⟨lw_p16, List.forall_mem_cons.mpr ⟨lw_p17, List.forall_mem_cons.mpr ⟨lw_p18, List.forall_mem_cons.mpr ⟨lw_p19, List.forall_mem_cons.mpr ⟨lw_p20, List.forall_mem_cons.mpr ⟨lw_p21, List.forall_mem_cons.mpr ⟨lw_p22, List.forall_mem_cons.mpr ⟨lw_p23, List.forall_mem_cons.mpr ⟨lw_p24, List.forall_mem_cons.mpr ⟨lw_p25, List.forall_mem_cons.mpr ⟨lw_p26, List.forall_mem_cons.mpr ⟨lw_p27, List.forall_mem_cons.mpr ⟨lw_p28, fun _ h => absurd h List.not_mem_nil⟩⟩⟩⟩⟩⟩⟩⟩⟩⟩⟩⟩⟩
def lw_privs : List (MethodName × Nat) := lw_privs_1 ++ (lw_privs_2)
def lw_tbl : List Cond := k2_sels lw_privs ++ tables_1
theorem lw_privs_ok : ∀ q ∈ lw_privs, lw_okq q := by
  show ∀ q ∈ lw_privs_1 ++ (lw_privs_2), lw_okq q
  exact List.forall_mem_append.mpr ⟨lw_r1, lw_r2⟩
end
section
/-! THE SMALL MACHINE. Cells have small numbers (ids); 'ad' says where each lies. A state: the shape (kind, length, references of each cell) and the ints of each cell. -/
abbrev am_Sh : Type := List (Nat × Nat × List (Option Nat))
abbrev am_St : Type := am_Sh × (Nat → Nat → Int32)
abbrev am_X : Type := Nat → List (Option Value) → List Value → am_St → Nat → Nat → Prop
abbrev am_Q : Type := Option Value → am_St → Prop
abbrev am_C : Type := Nat → List Value → am_St → am_Q → Prop
abbrev am_In : Type := Nat × Nat × Nat × Int × Nat
def am_sb : Nat := 1000000
def am_xb : Nat := 2000000
def am_cv (ad : Nat → Nat) : Value → Value
  | .ref a => .ref (ad a)
  | v => v
theorem am_cv_cat (ad : Nat → Nat) (v : Value) : (am_cv ad v).category = v.category := by cases v <;> rfl
theorem am_cv_sum (ad : Nat → Nat) (S : List Value) : ((S.map (am_cv ad)).map fun v => v.category).sum = (S.map fun v => v.category).sum := by
  rw [List.map_map]
  exact congrArg List.sum (List.map_congr_left fun v _ => am_cv_cat ad v)
def am_ld (L : List (Option Value)) (i : Nat) : Option Value := (L[i]?).join
def am_nl : Option Value → Option Value
  | some (.long _) => none
  | some (.double _) => none
  | o => o
def am_st1 : List (Option Value) → Nat → Value → List (Option Value)
  | [], _, _ => []
  | _ :: r, 0, v => some v :: r
  | o :: r, 1, v => am_nl o :: am_st1 r 0 v
  | o :: r, i + 2, v => o :: am_st1 r (i + 1) v
def am_st2 : List (Option Value) → Nat → Value → List (Option Value)
  | [], _, _ => []
  | [_], 0, v => [some v]
  | _ :: _ :: r, 0, v => some v :: none :: r
  | o :: r, 1, v => am_nl o :: am_st2 r 0 v
  | o :: r, i + 2, v => o :: am_st2 r (i + 1) v
/-- what is known of the locals -/
def am_kn (ad : Nat → Nat) (L : List (Option Value)) : List (Nat × Value) := (List.range L.length).filterMap fun i => (am_ld L i).map fun v => (i, am_cv ad v)
theorem am_ld_lt {L : List (Option Value)} {i : Nat} {v : Value} (h : am_ld L i = some v) : i < L.length := by
  rcases Nat.lt_or_ge i L.length with q | q
  · exact q
  · rw [am_ld, List.getElem?_eq_none q] at h
    cases h
theorem am_kn_in {ad : Nat → Nat} {L : List (Option Value)} {i : Nat} {v : Value} (h : am_ld L i = some v) : (i, am_cv ad v) ∈ am_kn ad L :=
  List.mem_filterMap.mpr ⟨i, List.mem_range.mpr (am_ld_lt h), by rw [h]; rfl⟩
theorem am_kn_of {ad : Nat → Nat} {L : List (Option Value)} {q : Nat × Value} (h : q ∈ am_kn ad L) : ∃ v, am_ld L q.1 = some v ∧ q.2 = am_cv ad v := by
  obtain ⟨i, -, hi⟩ := List.mem_filterMap.mp h
  cases hv : am_ld L i with
  | none => rw [hv] at hi; cases hi
  | some v =>
    rw [hv] at hi
    cases hi
    exact ⟨v, hv, rfl⟩
theorem am_at {ad : Nat → Nat} {L : List (Option Value)} {ls : Array Slot} {nL i : Nat} {v : Value} (h : lv_has ls nL (am_kn ad L)) (hi : am_ld L i = some v) : ls[i]? = some (.val (am_cv ad v)) := h.2.2 _ (am_kn_in hi)
theorem am_ld_0 (o : Option Value) (r : List (Option Value)) : am_ld (o :: r) 0 = o := by simp [am_ld]
theorem am_ld_s (o : Option Value) (r : List (Option Value)) (i : Nat) : am_ld (o :: r) (i + 1) = am_ld r i := by simp [am_ld]
theorem am_nl_of {o : Option Value} {w : Value} (h : am_nl o = some w) : o = some w ∧ ¬ w.category = 2 := by
  cases o with
  | none => cases h
  | some v => cases v <;> first | (cases h; done) | (cases h; exact ⟨rfl, by simp [Value.category]⟩)
theorem am_st1_of : ∀ (L : List (Option Value)) (i : Nat) (v : Value) (j : Nat) (w : Value), am_ld (am_st1 L i v) j = some w → (j = i ∧ w = v) ∨ (j ≠ i ∧ am_ld L j = some w ∧ ¬ (j + 1 = i ∧ w.category = 2))
  | [], i, v, j, w, h => by simp [am_st1, am_ld] at h
  | o :: r, 0, v, 0, w, h => by
    rw [am_st1, am_ld_0] at h
    exact Or.inl ⟨rfl, (Option.some.inj h).symm⟩
  | o :: r, 0, v, j + 1, w, h => by
    rw [am_st1, am_ld_s] at h
    exact Or.inr ⟨by omega, by rw [am_ld_s]; exact h, by omega⟩
  | o :: r, 1, v, 0, w, h => by
    rw [am_st1, am_ld_0] at h
    obtain ⟨h1, h2⟩ := am_nl_of h
    exact Or.inr ⟨by omega, by rw [am_ld_0]; exact h1, fun q => h2 q.2⟩
  | o :: r, 1, v, j + 1, w, h => by
    rw [am_st1, am_ld_s] at h
    rcases am_st1_of r 0 v j w h with ⟨h1, h2⟩ | ⟨h1, h2, h3⟩
    · exact Or.inl ⟨by omega, h2⟩
    · exact Or.inr ⟨by omega, by rw [am_ld_s]; exact h2, by omega⟩
  | o :: r, i + 2, v, 0, w, h => by
    rw [am_st1, am_ld_0] at h
    exact Or.inr ⟨by omega, by rw [am_ld_0]; exact h, by omega⟩
  | o :: r, i + 2, v, j + 1, w, h => by
    rw [am_st1, am_ld_s] at h
    rcases am_st1_of r (i + 1) v j w h with ⟨h1, h2⟩ | ⟨h1, h2, h3⟩
    · exact Or.inl ⟨by omega, h2⟩
    · exact Or.inr ⟨by omega, by rw [am_ld_s]; exact h2, fun q => h3 ⟨by omega, q.2⟩⟩
theorem am_st2_of : ∀ (L : List (Option Value)) (i : Nat) (v : Value) (j : Nat) (w : Value), am_ld (am_st2 L i v) j = some w → (j = i ∧ w = v) ∨ (j ≠ i ∧ j ≠ i + 1 ∧ am_ld L j = some w ∧ ¬ (j + 1 = i ∧ w.category = 2))
  | [], i, v, j, w, h => by simp [am_st2, am_ld] at h
  | [o], 0, v, 0, w, h => by
    rw [am_st2, am_ld_0] at h
    exact Or.inl ⟨rfl, (Option.some.inj h).symm⟩
  | [o], 0, v, j + 1, w, h => by
    rw [am_st2, am_ld_s] at h
    simp [am_ld] at h
  | o :: o2 :: r, 0, v, 0, w, h => by
    rw [am_st2, am_ld_0] at h
    exact Or.inl ⟨rfl, (Option.some.inj h).symm⟩
  | o :: o2 :: r, 0, v, 1, w, h => by
    rw [am_st2, am_ld_s, am_ld_0] at h
    cases h
  | o :: o2 :: r, 0, v, j + 2, w, h => by
    rw [am_st2, am_ld_s, am_ld_s] at h
    exact Or.inr ⟨by omega, by omega, by rw [am_ld_s, am_ld_s]; exact h, by omega⟩
  | o :: r, 1, v, 0, w, h => by
    rw [am_st2.eq_def] at h
    cases r <;>
    · simp only [am_ld_0] at h
      obtain ⟨h1, h2⟩ := am_nl_of h
      exact Or.inr ⟨by omega, by omega, by rw [am_ld_0]; exact h1, fun q => h2 q.2⟩
  | o :: r, 1, v, j + 1, w, h => by
    have h : am_ld (am_st2 r 0 v) j = some w := by
      rw [am_st2.eq_def] at h
      cases r <;> (simp only [am_ld_s] at h; exact h)
    rcases am_st2_of r 0 v j w h with ⟨h1, h2⟩ | ⟨h1, h2, h3, h4⟩
    · exact Or.inl ⟨by omega, h2⟩
    · exact Or.inr ⟨by omega, by omega, by rw [am_ld_s]; exact h3, by omega⟩
  | o :: r, i + 2, v, 0, w, h => by
    rw [am_st2.eq_def] at h
    cases r <;>
    · simp only [am_ld_0] at h
      exact Or.inr ⟨by omega, by omega, by rw [am_ld_0]; exact h, by omega⟩
  | o :: r, i + 2, v, j + 1, w, h => by
    have h : am_ld (am_st2 r (i + 1) v) j = some w := by
      rw [am_st2.eq_def] at h
      cases r <;> (simp only [am_ld_s] at h; exact h)
    rcases am_st2_of r (i + 1) v j w h with ⟨h1, h2⟩ | ⟨h1, h2, h3, h4⟩
    · exact Or.inl ⟨by omega, h2⟩
    · exact Or.inr ⟨by omega, by omega, by rw [am_ld_s]; exact h3, fun q => h4 ⟨by omega, q.2⟩⟩
theorem am_has_mem {ls : Array Slot} {nL : Nat} {l l' : List (Nat × Value)} (h : lv_has ls nL l) (hs : ∀ q ∈ l', q ∈ l) : lv_has ls nL l' := ⟨h.1, h.2.1, fun q hq => h.2.2 q (hs q hq)⟩
theorem am_has1 {ad : Nat → Nat} {L : List (Option Value)} {ls : Array Slot} {nL i : Nat} {v : Value} (h : lv_has ls nL ((i, am_cv ad v) :: (am_kn ad L).filter (fun q => !(q.1 == i) && !(q.1 + 1 == i && q.2.category == 2)))) : lv_has ls nL (am_kn ad (am_st1 L i v)) := by
  refine am_has_mem h fun q hq => ?_
  obtain ⟨w, h1, h2⟩ := am_kn_of hq
  rcases am_st1_of L i v q.1 w h1 with ⟨e1, e2⟩ | ⟨e1, e2, e3⟩
  · subst e2
    rw [show q = (i, am_cv ad w) from Prod.ext e1 h2]
    exact List.mem_cons_self
  · refine List.mem_cons_of_mem _ (List.mem_filter.mpr ⟨?_, ?_⟩)
    · rw [show q = (q.1, am_cv ad w) from Prod.ext rfl h2]
      exact am_kn_in e2
    · rw [h2, am_cv_cat]
      by_cases g1 : q.1 + 1 = i <;> by_cases g2 : w.category = 2 <;> simp [e1, g1, g2] <;> exact e3 ⟨g1, g2⟩
theorem am_has2 {ad : Nat → Nat} {L : List (Option Value)} {ls : Array Slot} {nL i : Nat} {v : Value} (h : lv_has ls nL ((i, am_cv ad v) :: (am_kn ad L).filter (fun q => !(q.1 == i) && (!(q.1 == i + 1) && !(q.1 + 1 == i && q.2.category == 2))))) : lv_has ls nL (am_kn ad (am_st2 L i v)) := by
  refine am_has_mem h fun q hq => ?_
  obtain ⟨w, h1, h2⟩ := am_kn_of hq
  rcases am_st2_of L i v q.1 w h1 with ⟨e1, e2⟩ | ⟨e1, e4, e2, e3⟩
  · subst e2
    rw [show q = (i, am_cv ad w) from Prod.ext e1 h2]
    exact List.mem_cons_self
  · refine List.mem_cons_of_mem _ (List.mem_filter.mpr ⟨?_, ?_⟩)
    · rw [show q = (q.1, am_cv ad w) from Prod.ext rfl h2]
      exact am_kn_in e2
    · rw [h2, am_cv_cat]
      by_cases g1 : q.1 + 1 = i <;> by_cases g2 : w.category = 2 <;> simp [e1, e4, g1, g2] <;> exact e3 ⟨g1, g2⟩
/-- the ints of one cell anew -/
def am_cp (f : Nat → Nat → Int32) (a : Nat) (g : Nat → Int32) : Nat → Nat → Int32 := fun q => if q = a then g else f q
def am_up (f : Nat → Nat → Int32) (a i : Nat) (x : Int32) : Nat → Nat → Int32 := am_cp f a (upd (f a) i x)
def am_zr (f : Nat → Nat → Int32) (a n : Nat) : Nat → Nat → Int32 := fun q => if a ≤ q ∧ q < a + n then (fun _ => 0) else f q
def am_rg (rs : List (Option Nat)) (j : Nat) : Option Nat := (rs[j]?).join
def am_fl (ft : Nat → Nat → Bool) (ad : Nat → Nat) (f : Nat → Int32) (rs : List (Option Nat)) (t k : Nat) : Value := if ft t k = true then va_rf ((am_rg rs k).map ad) else .int (f k)
def am_en (kA : Nat → ClassId) (ft : Nat → Nat → Bool) (ad : Nat → Nat) (f : Nat → Int32) : Nat × Nat × List (Option Nat) → va_E
  | (0, n, _) => .inl (kA 0, n, .inl f)
  | (1, n, _) => .inl (kA 1, n, .inl f)
  | (2, n, rs) => .inl (kA 2, n, .inr (.inr (.inr (.inr (fun j => (am_rg rs j).map ad)))))
  | (t + 3, n, rs) => .inr (t, (List.range n).map (am_fl ft ad f rs t))
def am_wl (kA : Nat → ClassId) (ft : Nat → Nat → Bool) (ad : Nat → Nat) (u : am_St) : va_W := (List.range u.1.length).map fun q => (ad q, am_en kA ft ad (u.2 q) ((u.1[q]?).getD (0, 0, [])))
theorem am_wl_len (kA : Nat → ClassId) (ft : Nat → Nat → Bool) (ad : Nat → Nat) (u : am_St) : (am_wl kA ft ad u).length = u.1.length := by simp [am_wl]
theorem am_wl_at {kA : Nat → ClassId} {ft : Nat → Nat → Bool} {ad : Nat → Nat} {u : am_St} {q : Nat} {e : Nat × Nat × List (Option Nat)} (h : u.1[q]? = some e) : (am_wl kA ft ad u)[q]? = some (ad q, am_en kA ft ad (u.2 q) e) := by
  have hl : q < u.1.length := (List.getElem?_eq_some_iff.mp h).1
  rw [am_wl, List.getElem?_map, List.getElem?_range hl]
  show some (ad q, am_en kA ft ad (u.2 q) ((u.1[q]?).getD (0, 0, []))) = _
  rw [h]
  rfl
theorem am_wl_no {kA : Nat → ClassId} {ft : Nat → Nat → Bool} {ad : Nat → Nat} {u : am_St} {q : Nat} (h : u.1.length ≤ q) : (am_wl kA ft ad u)[q]? = none := List.getElem?_eq_none (by rw [am_wl_len]; exact h)
theorem am_wl_set {kA : Nat → ClassId} {ft : Nat → Nat → Bool} {ad : Nat → Nat} {u : am_St} {q : Nat} (e : Nat × Nat × List (Option Nat)) (f : Nat → Int32) : (am_wl kA ft ad u).set q (ad q, am_en kA ft ad f e) = am_wl kA ft ad (u.1.set q e, am_cp u.2 q f) := by
  apply List.ext_getElem?
  intro k
  by_cases hk : k < u.1.length
  · by_cases hq : q = k
    · subst hq
      rw [List.getElem?_set_self (by rw [am_wl_len]; exact hk)]
      rw [am_wl_at (u := (u.1.set q e, am_cp u.2 q f)) (e := e) (List.getElem?_set_self hk)]
      simp [am_cp]
    · rw [List.getElem?_set_ne hq]
      have h1 : u.1[k]? = some u.1[k] := List.getElem?_eq_getElem hk
      rw [am_wl_at h1, am_wl_at (u := (u.1.set q e, am_cp u.2 q f)) (e := u.1[k]) (by show (u.1.set q e)[k]? = _; rw [List.getElem?_set_ne hq]; exact h1)]
      simp [am_cp, show ¬ k = q from fun h => hq h.symm]
  · rw [am_wl_no (u := (u.1.set q e, am_cp u.2 q f)) (by show (u.1.set q e).length ≤ k; rw [List.length_set]; omega)]
    exact List.getElem?_eq_none (by rw [List.length_set, am_wl_len]; omega)
theorem am_wl_seti {kA : Nat → ClassId} {ft : Nat → Nat → Bool} {ad : Nat → Nat} {u : am_St} {q : Nat} {e : Nat × Nat × List (Option Nat)} (h : u.1[q]? = some e) (f : Nat → Int32) : (am_wl kA ft ad u).set q (ad q, am_en kA ft ad f e) = am_wl kA ft ad (u.1, am_cp u.2 q f) := by
  rw [am_wl_set e f]
  obtain ⟨h1, h2⟩ := List.getElem?_eq_some_iff.mp h
  rw [← h2, List.set_getElem_self]
end
section
/-! THE SMALL MACHINE'S STEP. An instruction: its kind, two numbers, an int, the next place. X: what is to hold at the next place. -/
def ao_push (v : Value) (nx : Nat) (X : am_X) (L : List (Option Value)) (S : List Value) (u : am_St) (b c : Nat) : Prop := X nx L (v :: S) u b c
def ao_iload (i nx : Nat) (X : am_X) (L : List (Option Value)) (S : List Value) (u : am_St) (b c : Nat) : Prop := match am_ld L i with
  | some (.int x) => X nx L (.int x :: S) u b c
  | _ => False
def ao_aload (i nx : Nat) (X : am_X) (L : List (Option Value)) (S : List Value) (u : am_St) (b c : Nat) : Prop := match am_ld L i with
  | some (.ref x) => X nx L (.ref x :: S) u b c
  | _ => False
def ao_lload (i nx : Nat) (X : am_X) (L : List (Option Value)) (S : List Value) (u : am_St) (b c : Nat) : Prop := match am_ld L i with
  | some (.long x) => X nx L (.long x :: S) u b c
  | _ => False
def ao_istore (i nx : Nat) (X : am_X) (L : List (Option Value)) (S : List Value) (u : am_St) (b c : Nat) : Prop := match S with
  | .int x :: S => X nx (am_st1 L i (.int x)) S u b c
  | _ => False
def ao_astore (i nx : Nat) (X : am_X) (L : List (Option Value)) (S : List Value) (u : am_St) (b c : Nat) : Prop := match S with
  | .ref x :: S => X nx (am_st1 L i (.ref x)) S u b c
  | _ => False
def ao_lstore (i nx : Nat) (X : am_X) (L : List (Option Value)) (S : List Value) (u : am_St) (b c : Nat) : Prop := match S with
  | .long x :: S => X nx (am_st2 L i (.long x)) S u b c
  | _ => False
def ao_iinc (i : Nat) (z : Int) (nx : Nat) (X : am_X) (L : List (Option Value)) (S : List Value) (u : am_St) (b c : Nat) : Prop := match am_ld L i with
  | some (.int x) => X nx (am_st1 L i (.int (x + Int32.ofInt z))) S u b c
  | _ => False
def ao_ibin (f : Int32 → Int32 → Int32) (nx : Nat) (X : am_X) (L : List (Option Value)) (S : List Value) (u : am_St) (b c : Nat) : Prop := match S with
  | .int y :: .int x :: S => X nx L (.int (f x y) :: S) u b c
  | _ => False
def ao_idiv (f : Int32 → Int32 → Int32) (nx : Nat) (X : am_X) (L : List (Option Value)) (S : List Value) (u : am_St) (b c : Nat) : Prop := match S with
  | .int y :: .int x :: S => ¬ y = 0 ∧ X nx L (.int (f x y) :: S) u b c
  | _ => False
def ao_lbin (f : Int64 → Int64 → Int64) (nx : Nat) (X : am_X) (L : List (Option Value)) (S : List Value) (u : am_St) (b c : Nat) : Prop := match S with
  | .long y :: .long x :: S => X nx L (.long (f x y) :: S) u b c
  | _ => False
def ao_ldiv (f : Int64 → Int64 → Int64) (nx : Nat) (X : am_X) (L : List (Option Value)) (S : List Value) (u : am_St) (b c : Nat) : Prop := match S with
  | .long y :: .long x :: S => ¬ y = 0 ∧ X nx L (.long (f x y) :: S) u b c
  | _ => False
def ao_lcmp (nx : Nat) (X : am_X) (L : List (Option Value)) (S : List Value) (u : am_St) (b c : Nat) : Prop := match S with
  | .long y :: .long x :: S => X nx L (.int (lg_cmp x y) :: S) u b c
  | _ => False
def ao_i2l (nx : Nat) (X : am_X) (L : List (Option Value)) (S : List Value) (u : am_St) (b c : Nat) : Prop := match S with
  | .int x :: S => X nx L (.long x.toInt64 :: S) u b c
  | _ => False
def ao_l2i (nx : Nat) (X : am_X) (L : List (Option Value)) (S : List Value) (u : am_St) (b c : Nat) : Prop := match S with
  | .long x :: S => X nx L (.int x.toInt32 :: S) u b c
  | _ => False
def ao_if (k tg nx : Nat) (X : am_X) (L : List (Option Value)) (S : List Value) (u : am_St) (b c : Nat) : Prop := match S with
  | .int x :: S => match k with
    | 0 => (x = 0 → X tg L S u b c) ∧ (¬ x = 0 → X nx L S u b c)
    | 1 => (¬ x = 0 → X tg L S u b c) ∧ (x = 0 → X nx L S u b c)
    | 2 => (x < 0 → X tg L S u b c) ∧ (¬ x < 0 → X nx L S u b c)
    | 3 => (0 ≤ x → X tg L S u b c) ∧ (¬ 0 ≤ x → X nx L S u b c)
    | 4 => (0 < x → X tg L S u b c) ∧ (¬ 0 < x → X nx L S u b c)
    | 5 => (x ≤ 0 → X tg L S u b c) ∧ (¬ x ≤ 0 → X nx L S u b c)
    | _ => False
  | _ => False
def ao_icmp (k tg nx : Nat) (X : am_X) (L : List (Option Value)) (S : List Value) (u : am_St) (b c : Nat) : Prop := match S with
  | .int y :: .int x :: S => match k with
    | 0 => (x = y → X tg L S u b c) ∧ (¬ x = y → X nx L S u b c)
    | 1 => (¬ x = y → X tg L S u b c) ∧ (x = y → X nx L S u b c)
    | 2 => (x < y → X tg L S u b c) ∧ (¬ x < y → X nx L S u b c)
    | 3 => (y ≤ x → X tg L S u b c) ∧ (¬ y ≤ x → X nx L S u b c)
    | 4 => (y < x → X tg L S u b c) ∧ (¬ y < x → X nx L S u b c)
    | 5 => (x ≤ y → X tg L S u b c) ∧ (¬ x ≤ y → X nx L S u b c)
    | _ => False
  | _ => False
def ao_goto (tg : Nat) (X : am_X) (L : List (Option Value)) (S : List Value) (u : am_St) (b c : Nat) : Prop := X tg L S u b c
def ao_getI (t k nx : Nat) (X : am_X) (L : List (Option Value)) (S : List Value) (u : am_St) (b c : Nat) : Prop := match S with
  | .ref a :: S => match u.1[a]? with
    | some (t', n, _) => if t' = t + 3 ∧ k < n then X nx L (.int (u.2 a k) :: S) u b c else False
    | none => False
  | _ => False
def ao_getR (t k nx : Nat) (X : am_X) (L : List (Option Value)) (S : List Value) (u : am_St) (b c : Nat) : Prop := match S with
  | .ref a :: S => match u.1[a]? with
    | some (t', n, rs) => if t' = t + 3 ∧ k < n then (match am_rg rs k with
      | some a' => X nx L (.ref a' :: S) u b c
      | none => False) else False
    | none => False
  | _ => False
def ao_putI (t k nx : Nat) (X : am_X) (L : List (Option Value)) (S : List Value) (u : am_St) (b c : Nat) : Prop := match S with
  | .int x :: .ref a :: S => match u.1[a]? with
    | some (t', n, _) => if t' = t + 3 ∧ k < n then X nx L S (u.1, am_up u.2 a k x) b c else False
    | none => False
  | _ => False
def ao_putZ (t k nx : Nat) (X : am_X) (L : List (Option Value)) (S : List Value) (u : am_St) (b c : Nat) : Prop := match S with
  | .int x :: .ref a :: S => match u.1[a]? with
    | some (t', n, _) => if t' = t + 3 ∧ k < n then ((x = 0 ∨ x = 1) ∧ X nx L S (u.1, am_up u.2 a k x) b c) else False
    | none => False
  | _ => False
def ao_putR (t k nx : Nat) (X : am_X) (L : List (Option Value)) (S : List Value) (u : am_St) (b c : Nat) : Prop := match S with
  | .ref v :: .ref a :: S => match u.1[a]? with
    | some (t', n, rs) => if t' = t + 3 ∧ k < n ∧ k < rs.length then X nx L S (u.1.set a (t', n, rs.set k (some v)), u.2) b c else False
    | none => False
  | _ => False
def ao_ald (t nx : Nat) (X : am_X) (L : List (Option Value)) (S : List Value) (u : am_St) (b c : Nat) : Prop := match S with
  | .int x :: .ref a :: S => ∃ n rs, u.1[a]? = some (t, n, rs) ∧ vp_in x n ∧ X nx L (.int (u.2 a x.toNatClampNeg) :: S) u b c
  | _ => False
def ao_aald (nx : Nat) (X : am_X) (L : List (Option Value)) (S : List Value) (u : am_St) (b c : Nat) : Prop := match S with
  | .int x :: .ref a :: S => ∃ n rs a', u.1[a]? = some (2, n, rs) ∧ vp_in x n ∧ am_rg rs x.toNatClampNeg = some a' ∧ X nx L (.ref a' :: S) u b c
  | _ => False
def ao_iast (nx : Nat) (X : am_X) (L : List (Option Value)) (S : List Value) (u : am_St) (b c : Nat) : Prop := match S with
  | .int v :: .int x :: .ref a :: S => ∃ n rs, u.1[a]? = some (0, n, rs) ∧ vp_in x n ∧ X nx L S (u.1, am_up u.2 a x.toNatClampNeg v) b c
  | _ => False
def ao_zast (nx : Nat) (X : am_X) (L : List (Option Value)) (S : List Value) (u : am_St) (b c : Nat) : Prop := match S with
  | .int v :: .int x :: .ref a :: S => ∃ n rs, u.1[a]? = some (1, n, rs) ∧ vp_in x n ∧ X nx L S (u.1, am_up u.2 a x.toNatClampNeg (vp_nar .boolean v)) b c
  | _ => False
def ao_alen (nx : Nat) (X : am_X) (L : List (Option Value)) (S : List Value) (u : am_St) (b c : Nat) : Prop := match S with
  | .ref a :: S => ∃ t n rs, u.1[a]? = some (t, n, rs) ∧ t < 3 ∧ X nx L (.int (Int32.ofNat n) :: S) u b c
  | _ => False
/-- every reference is to a cell that is there, or to one given from the start -/
def am_vr (n a : Nat) : Bool := Nat.blt a n || Nat.ble am_sb a
def am_vv (n : Nat) : Value → Bool
  | .ref a => am_vr n a
  | _ => true
def am_vo (n : Nat) : Option Value → Bool
  | some v => am_vv n v
  | none => true
def am_vn (n : Nat) : Option Nat → Bool
  | some a => Nat.blt a n
  | none => true
def am_val (sh : am_Sh) (L : List (Option Value)) (S : List Value) : Bool := S.all (am_vv sh.length) && (L.all (am_vo sh.length) && sh.all (fun e => e.2.2.all (am_vn sh.length)))
def am_h8 (S : List Value) : Bool := Nat.ble ((S.map fun v => v.category).sum) 8
def ao_call (y k : Nat) (kc : Nat × Nat) (C : am_C) (nx : Nat) (X : am_X) (L : List (Option Value)) (S : List Value) (u : am_St) (b c : Nat) : Prop :=
  if kc.1 ≤ b ∧ kc.2 ≤ c ∧ k ≤ S.length ∧ am_h8 (S.drop k) = true ∧ (kc.1 = 0 ∨ am_val u.1 L (S.drop k) = true) then C y (S.take k).reverse u (fun r u' => X nx L (r.toList ++ S.drop k) u' (b - kc.1) (c - kc.2)) else False
def ao_vcall (y k rc : Nat) (kc : Nat × Nat) (C : am_C) (nx : Nat) (X : am_X) (L : List (Option Value)) (S : List Value) (u : am_St) (b c : Nat) : Prop := match (S.take k).reverse with
  | .ref a :: _ => match u.1[a]? with
    | some (t', _, _) => if t' = rc + 3 then ao_call y k kc C nx X L S u b c else False
    | none => False
  | _ => False
def ao_ret (Q : am_Q) (S : List Value) (u : am_St) : Prop := match S with
  | [] => Q none u
  | _ => False
def ao_iret (Q : am_Q) (S : List Value) (u : am_St) : Prop := match S with
  | [.int v] => Q (some (.int v)) u
  | _ => False
def ao_zret (Q : am_Q) (S : List Value) (u : am_St) : Prop := match S with
  | [.int v] => (v = 0 ∨ v = 1) ∧ Q (some (.int v)) u
  | _ => False
def ao_aret (Q : am_Q) (S : List Value) (u : am_St) : Prop := match S with
  | [.ref v] => Q (some (.ref v)) u
  | _ => False
def ao_lret (Q : am_Q) (S : List Value) (u : am_St) : Prop := match S with
  | [.long v] => Q (some (.long v)) u
  | _ => False
def ao_new (t n nx : Nat) (X : am_X) (L : List (Option Value)) (S : List Value) (u : am_St) (b c : Nat) : Prop :=
  if 1 ≤ b ∧ n ≤ c ∧ u.1.length < am_sb ∧ am_val u.1 L S = true then X nx L (.ref u.1.length :: S) (u.1 ++ [(t + 3, n, List.replicate n none)], am_zr u.2 u.1.length 1) (b - 1) (c - n) else False
def ao_newa (t n nx : Nat) (X : am_X) (L : List (Option Value)) (S : List Value) (u : am_St) (b c : Nat) : Prop := match S with
  | .int x :: S => if x = Int32.ofNat n ∧ n < 100000 ∧ 1 ≤ b ∧ n ≤ c ∧ u.1.length < am_sb ∧ am_val u.1 L S = true then X nx L (.ref u.1.length :: S) (u.1 ++ [(t, n, [])], am_zr u.2 u.1.length 1) (b - 1) (c - n) else False
  | _ => False
def ao_newg (n k nx : Nat) (X : am_X) (L : List (Option Value)) (S : List Value) (u : am_St) (b c : Nat) : Prop := match S with
  | .int y :: .int x :: S => if x = Int32.ofNat n ∧ y = Int32.ofNat k ∧ n < 1000 ∧ k < 1000 ∧ 1 + n ≤ b ∧ n + n * k ≤ c ∧ u.1.length + 1 + n ≤ am_sb ∧ am_val u.1 L S = true then
      X nx L (.ref u.1.length :: S) (u.1 ++ (2, n, (List.range n).map fun j => some (u.1.length + 1 + j)) :: List.replicate n (0, k, []), am_zr u.2 u.1.length (1 + n)) (b - (1 + n)) (c - (n + n * k)) else False
  | _ => False
def ao_dup (nx : Nat) (X : am_X) (L : List (Option Value)) (S : List Value) (u : am_St) (b c : Nat) : Prop := match S with
  | v :: S => if v.category = 1 then X nx L (v :: v :: S) u b c else False
  | _ => False
def ao_pop (nx : Nat) (X : am_X) (L : List (Option Value)) (S : List Value) (u : am_St) (b c : Nat) : Prop := match S with
  | v :: S => if v.category = 1 then X nx L S u b c else False
  | _ => False
def ao_dupx1 (nx : Nat) (X : am_X) (L : List (Option Value)) (S : List Value) (u : am_St) (b c : Nat) : Prop := match S with
  | v :: w :: S => if v.category = 1 ∧ w.category = 1 then X nx L (v :: w :: v :: S) u b c else False
  | _ => False
def ao_dup2 (nx : Nat) (X : am_X) (L : List (Option Value)) (S : List Value) (u : am_St) (b c : Nat) : Prop := match S with
  | v :: w :: S => if v.category = 1 ∧ w.category = 1 then X nx L (v :: w :: v :: w :: S) u b c else False
  | _ => False
def ao_sld (sn : Nat → Nat) (sv : Nat → Nat → Int32) (ns nx : Nat) (X : am_X) (L : List (Option Value)) (S : List Value) (u : am_St) (b c : Nat) : Prop := match S with
  | .int x :: .ref a :: S => ∃ k, a = am_sb + k ∧ k < ns ∧ vp_in x (sn k) ∧ X nx L (.int (sv k x.toNatClampNeg) :: S) u b c
  | _ => False
def ao_slen (sn : Nat → Nat) (ns nx : Nat) (X : am_X) (L : List (Option Value)) (S : List Value) (u : am_St) (b c : Nat) : Prop := match S with
  | .ref a :: S => ∃ k, a = am_sb + k ∧ k < ns ∧ X nx L (.int (Int32.ofNat (sn k)) :: S) u b c
  | _ => False
def ao_math2 (f : Int32 → Int32 → Int32) (nx : Nat) (X : am_X) (L : List (Option Value)) (S : List Value) (u : am_St) (b c : Nat) : Prop := match S with
  | .int y :: .int x :: S => if am_h8 S = true then X nx L (.int (f x y) :: S) u b c else False
  | _ => False
def ao_math1 (f : Int32 → Int32) (nx : Nat) (X : am_X) (L : List (Option Value)) (S : List Value) (u : am_St) (b c : Nat) : Prop := match S with
  | .int x :: S => if am_h8 S = true then X nx L (.int (f x) :: S) u b c else False
  | _ => False
def ao_math2l (f : Int64 → Int64 → Int64) (nx : Nat) (X : am_X) (L : List (Option Value)) (S : List Value) (u : am_St) (b c : Nat) : Prop := match S with
  | .long y :: .long x :: S => if am_h8 S = true then X nx L (.long (f x y) :: S) u b c else False
  | _ => False
def ao_copy (nx : Nat) (X : am_X) (L : List (Option Value)) (S : List Value) (u : am_St) (b c : Nat) : Prop := match S with
  | .int n :: .int dp :: .ref a1 :: .int sp :: .ref a0 :: S => am_h8 S = true ∧ ∃ n0 r0 n1 r1, u.1[a0]? = some (0, n0, r0) ∧ u.1[a1]? = some (0, n1, r1) ∧ ¬ sp < 0 ∧ ¬ dp < 0 ∧ ¬ n < 0 ∧ sp.toNatClampNeg + n.toNatClampNeg ≤ n0 ∧ dp.toNatClampNeg + n.toNatClampNeg ≤ n1 ∧
      X nx L S (u.1, am_cp u.2 a1 (va_cpy (u.2 a0) (u.2 a1) sp.toNatClampNeg dp.toNatClampNeg n.toNatClampNeg)) b c
  | _ => False
def ao_oini (nx : Nat) (X : am_X) (L : List (Option Value)) (S : List Value) (u : am_St) (b c : Nat) : Prop := match S with
  | .ref _ :: S => if am_h8 S = true then X nx L S u b c else False
  | _ => False
def ao_xld (xl : Nat) (xs : Nat → Int32) (nx : Nat) (X : am_X) (L : List (Option Value)) (S : List Value) (u : am_St) (b c : Nat) : Prop := match S with
  | .int x :: .ref a :: S => a = am_xb ∧ vp_in x xl ∧ X nx L (.int (xs x.toNatClampNeg) :: S) u b c
  | _ => False
def ao_xlen (xl nx : Nat) (X : am_X) (L : List (Option Value)) (S : List Value) (u : am_St) (b c : Nat) : Prop := match S with
  | .ref a :: S => a = am_xb ∧ X nx L (.int (Int32.ofNat xl) :: S) u b c
  | _ => False
def ao_switch (f : Int32 → Nat) (X : am_X) (L : List (Option Value)) (S : List Value) (u : am_St) (b c : Nat) : Prop := match S with
  | .int x :: S => X (f x) L S u b c
  | _ => False
/-- the surroundings: kinds of the methods' receivers, what they make, the static rows, the script, where a switch leads -/
abbrev am_E : Type := (Nat → Nat) × (Nat → Nat × Nat) × (Nat × (Nat → Nat) × (Nat → Nat → Int32)) × (Nat × (Nat → Int32)) × (Nat → Int32 → Nat)
def am_op (E : am_E) (C : am_C) (Q : am_Q) (pc : Nat) (I : am_In) (X : am_X) (L : List (Option Value)) (S : List Value) (u : am_St) (b c : Nat) : Prop :=
  match I with
  | (op, i, j, z, nx) => match op with
    | 0 => ao_push (.int (Int32.ofInt z)) nx X L S u b c
    | 1 => ao_iload i nx X L S u b c
    | 2 => ao_aload i nx X L S u b c
    | 3 => ao_lload i nx X L S u b c
    | 4 => ao_istore i nx X L S u b c
    | 5 => ao_astore i nx X L S u b c
    | 6 => ao_lstore i nx X L S u b c
    | 7 => ao_iinc i z nx X L S u b c
    | 8 => ao_ibin (fun x y => x + y) nx X L S u b c
    | 9 => ao_ibin (fun x y => x - y) nx X L S u b c
    | 10 => ao_ibin (fun x y => x * y) nx X L S u b c
    | 11 => ao_idiv (fun x y => x / y) nx X L S u b c
    | 12 => ao_idiv (fun x y => x - x / y * y) nx X L S u b c
    | 13 => ao_ibin (fun x y => x &&& y) nx X L S u b c
    | 14 => ao_if j i nx X L S u b c
    | 15 => ao_icmp j i nx X L S u b c
    | 16 => ao_goto i X L S u b c
    | 17 => ao_getI i j nx X L S u b c
    | 18 => ao_getR i j nx X L S u b c
    | 19 => ao_putI i j nx X L S u b c
    | 20 => ao_putZ i j nx X L S u b c
    | 21 => ao_putR i j nx X L S u b c
    | 22 => ao_ald 0 nx X L S u b c
    | 23 => ao_ald 1 nx X L S u b c
    | 24 => ao_aald nx X L S u b c
    | 25 => ao_iast nx X L S u b c
    | 26 => ao_zast nx X L S u b c
    | 27 => ao_alen nx X L S u b c
    | 28 => ao_call i j (E.2.1 i) C nx X L S u b c
    | 29 => ao_vcall i j (E.1 i) (E.2.1 i) C nx X L S u b c
    | 30 => ao_ret Q S u
    | 31 => ao_iret Q S u
    | 32 => ao_zret Q S u
    | 33 => ao_aret Q S u
    | 34 => ao_lret Q S u
    | 35 => ao_new i j nx X L S u b c
    | 36 => ao_newa i j nx X L S u b c
    | 37 => ao_newg i j nx X L S u b c
    | 38 => ao_dup nx X L S u b c
    | 39 => ao_pop nx X L S u b c
    | 40 => ao_dupx1 nx X L S u b c
    | 41 => ao_dup2 nx X L S u b c
    | 42 => ao_push (.long (Int64.ofInt z)) nx X L S u b c
    | 43 => ao_i2l nx X L S u b c
    | 44 => ao_l2i nx X L S u b c
    | 45 => ao_lbin (fun x y => x + y) nx X L S u b c
    | 46 => ao_lbin (fun x y => x - y) nx X L S u b c
    | 47 => ao_lbin (fun x y => x * y) nx X L S u b c
    | 48 => ao_ldiv (fun x y => x / y) nx X L S u b c
    | 49 => ao_lcmp nx X L S u b c
    | 50 => ao_push (.ref (am_sb + i)) nx X L S u b c
    | 51 => ao_sld E.2.2.1.2.1 E.2.2.1.2.2 E.2.2.1.1 nx X L S u b c
    | 52 => ao_slen E.2.2.1.2.1 E.2.2.1.1 nx X L S u b c
    | 53 => ao_math2 (fun x y => if x < y then y else x) nx X L S u b c
    | 54 => ao_math2 (fun x y => if y < x then y else x) nx X L S u b c
    | 55 => ao_math1 (fun x => if 0 ≤ x then x else 0 - x) nx X L S u b c
    | 56 => ao_math2l (fun x y => if y < x then y else x) nx X L S u b c
    | 57 => ao_copy nx X L S u b c
    | 58 => ao_oini nx X L S u b c
    | 59 => ao_xld E.2.2.2.1.1 E.2.2.2.1.2 nx X L S u b c
    | 60 => ao_xlen E.2.2.2.1.1 nx X L S u b c
    | 61 => ao_switch (E.2.2.2.2 pc) X L S u b c
    | _ => False
def am_F (E : am_E) (cd : Nat → Option am_In) (C : am_C) (Q : am_Q) (X : am_X) : am_X := fun pc L S u b c => match cd pc with
  | some I => am_op E C Q pc I X L S u b c
  | none => False
/-- the weakest start: by every X that is closed under steps backwards -/
def am_wp (E : am_E) (cd : Nat → Option am_In) (C : am_C) (Q : am_Q) : am_X := fun pc L S u b c => ∀ X : am_X, (∀ pc L S u b c, am_F E cd C Q X pc L S u b c → X pc L S u b c) → X pc L S u b c
set_option maxHeartbeats 4000000 in
theorem am_op_mono {E : am_E} {C C' : am_C} {Q Q' : am_Q} {X Y : am_X} (hC : ∀ y As u P P', (∀ r u, P r u → P' r u) → C y As u P → C' y As u P') (hQ : ∀ r u, Q r u → Q' r u) (hX : ∀ pc L S u b c, X pc L S u b c → Y pc L S u b c)
    (pc : Nat) (I : am_In) (L : List (Option Value)) (S : List Value) (u : am_St) (b c : Nat) (h : am_op E C Q pc I X L S u b c) : am_op E C' Q' pc I Y L S u b c := by
  have hcall : ∀ (y k : Nat) (kc : Nat × Nat) (nx : Nat), ao_call y k kc C nx X L S u b c → ao_call y k kc C' nx Y L S u b c := by
    intro y k kc nx
    unfold ao_call
    split
    · exact fun h => hC _ _ _ _ _ (fun r u hr => hX _ _ _ _ _ _ hr) h
    · exact id
  obtain ⟨op, i, j, z, nx⟩ := I
  revert h
  unfold am_op
  dsimp only
  split
  · exact hX _ _ _ _ _ _
  · unfold ao_iload; split; exact hX _ _ _ _ _ _; exact id
  · unfold ao_aload; split; exact hX _ _ _ _ _ _; exact id
  · unfold ao_lload; split; exact hX _ _ _ _ _ _; exact id
  · unfold ao_istore; split; exact hX _ _ _ _ _ _; exact id
  · unfold ao_astore; split; exact hX _ _ _ _ _ _; exact id
  · unfold ao_lstore; split; exact hX _ _ _ _ _ _; exact id
  · unfold ao_iinc; split; exact hX _ _ _ _ _ _; exact id
  · unfold ao_ibin; split; exact hX _ _ _ _ _ _; exact id
  · unfold ao_ibin; split; exact hX _ _ _ _ _ _; exact id
  · unfold ao_ibin; split; exact hX _ _ _ _ _ _; exact id
  · unfold ao_idiv; split; exact fun h => ⟨h.1, hX _ _ _ _ _ _ h.2⟩; exact id
  · unfold ao_idiv; split; exact fun h => ⟨h.1, hX _ _ _ _ _ _ h.2⟩; exact id
  · unfold ao_ibin; split; exact hX _ _ _ _ _ _; exact id
  · unfold ao_if; split
    · split <;> first | exact fun h => ⟨fun q => hX _ _ _ _ _ _ (h.1 q), fun q => hX _ _ _ _ _ _ (h.2 q)⟩ | exact id
    · exact id
  · unfold ao_icmp; split
    · split <;> first | exact fun h => ⟨fun q => hX _ _ _ _ _ _ (h.1 q), fun q => hX _ _ _ _ _ _ (h.2 q)⟩ | exact id
    · exact id
  · exact hX _ _ _ _ _ _
  · unfold ao_getI; split
    · split
      · split; exact hX _ _ _ _ _ _; exact id
      · exact id
    · exact id
  · unfold ao_getR; split
    · split
      · split
        · split; exact hX _ _ _ _ _ _; exact id
        · exact id
      · exact id
    · exact id
  · unfold ao_putI; split
    · split
      · split; exact hX _ _ _ _ _ _; exact id
      · exact id
    · exact id
  · unfold ao_putZ; split
    · split
      · split; exact fun h => ⟨h.1, hX _ _ _ _ _ _ h.2⟩; exact id
      · exact id
    · exact id
  · unfold ao_putR; split
    · split
      · split; exact hX _ _ _ _ _ _; exact id
      · exact id
    · exact id
  · unfold ao_ald; split; exact fun ⟨n, rs, h1, h2, h3⟩ => ⟨n, rs, h1, h2, hX _ _ _ _ _ _ h3⟩; exact id
  · unfold ao_ald; split; exact fun ⟨n, rs, h1, h2, h3⟩ => ⟨n, rs, h1, h2, hX _ _ _ _ _ _ h3⟩; exact id
  · unfold ao_aald; split; exact fun ⟨n, rs, a, h1, h2, h3, h4⟩ => ⟨n, rs, a, h1, h2, h3, hX _ _ _ _ _ _ h4⟩; exact id
  · unfold ao_iast; split; exact fun ⟨n, rs, h1, h2, h3⟩ => ⟨n, rs, h1, h2, hX _ _ _ _ _ _ h3⟩; exact id
  · unfold ao_zast; split; exact fun ⟨n, rs, h1, h2, h3⟩ => ⟨n, rs, h1, h2, hX _ _ _ _ _ _ h3⟩; exact id
  · unfold ao_alen; split; exact fun ⟨t, n, rs, h1, h2, h3⟩ => ⟨t, n, rs, h1, h2, hX _ _ _ _ _ _ h3⟩; exact id
  · exact hcall _ _ _ _
  · unfold ao_vcall; split
    · split
      · split; exact hcall _ _ _ _; exact id
      · exact id
    · exact id
  · unfold ao_ret; split; exact hQ _ _; exact id
  · unfold ao_iret; split; exact hQ _ _; exact id
  · unfold ao_zret; split; exact fun h => ⟨h.1, hQ _ _ h.2⟩; exact id
  · unfold ao_aret; split; exact hQ _ _; exact id
  · unfold ao_lret; split; exact hQ _ _; exact id
  · unfold ao_new; split; exact hX _ _ _ _ _ _; exact id
  · unfold ao_newa; split
    · split; exact hX _ _ _ _ _ _; exact id
    · exact id
  · unfold ao_newg; split
    · split; exact hX _ _ _ _ _ _; exact id
    · exact id
  · unfold ao_dup; split
    · split; exact hX _ _ _ _ _ _; exact id
    · exact id
  · unfold ao_pop; split
    · split; exact hX _ _ _ _ _ _; exact id
    · exact id
  · unfold ao_dupx1; split
    · split; exact hX _ _ _ _ _ _; exact id
    · exact id
  · unfold ao_dup2; split
    · split; exact hX _ _ _ _ _ _; exact id
    · exact id
  · exact hX _ _ _ _ _ _
  · unfold ao_i2l; split; exact hX _ _ _ _ _ _; exact id
  · unfold ao_l2i; split; exact hX _ _ _ _ _ _; exact id
  · unfold ao_lbin; split; exact hX _ _ _ _ _ _; exact id
  · unfold ao_lbin; split; exact hX _ _ _ _ _ _; exact id
  · unfold ao_lbin; split; exact hX _ _ _ _ _ _; exact id
  · unfold ao_ldiv; split; exact fun h => ⟨h.1, hX _ _ _ _ _ _ h.2⟩; exact id
  · unfold ao_lcmp; split; exact hX _ _ _ _ _ _; exact id
  · exact hX _ _ _ _ _ _
  · unfold ao_sld; split; exact fun ⟨k, h1, h2, h3, h4⟩ => ⟨k, h1, h2, h3, hX _ _ _ _ _ _ h4⟩; exact id
  · unfold ao_slen; split; exact fun ⟨k, h1, h2, h4⟩ => ⟨k, h1, h2, hX _ _ _ _ _ _ h4⟩; exact id
  · unfold ao_math2; split
    · split; exact hX _ _ _ _ _ _; exact id
    · exact id
  · unfold ao_math2; split
    · split; exact hX _ _ _ _ _ _; exact id
    · exact id
  · unfold ao_math1; split
    · split; exact hX _ _ _ _ _ _; exact id
    · exact id
  · unfold ao_math2l; split
    · split; exact hX _ _ _ _ _ _; exact id
    · exact id
  · unfold ao_copy; split
    · exact fun ⟨h0, n0, r0, n1, r1, h1, h2, h3, h4, h5, h6, h7, h8⟩ => ⟨h0, n0, r0, n1, r1, h1, h2, h3, h4, h5, h6, h7, hX _ _ _ _ _ _ h8⟩
    · exact id
  · unfold ao_oini; split
    · split; exact hX _ _ _ _ _ _; exact id
    · exact id
  · unfold ao_xld; split; exact fun ⟨h1, h2, h3⟩ => ⟨h1, h2, hX _ _ _ _ _ _ h3⟩; exact id
  · unfold ao_xlen; split; exact fun ⟨h1, h3⟩ => ⟨h1, hX _ _ _ _ _ _ h3⟩; exact id
  · unfold ao_switch; split; exact hX _ _ _ _ _ _; exact id
  · exact id
theorem am_F_mono {E : am_E} {cd : Nat → Option am_In} {C C' : am_C} {Q Q' : am_Q} {X Y : am_X} (hC : ∀ y As u P P', (∀ r u, P r u → P' r u) → C y As u P → C' y As u P') (hQ : ∀ r u, Q r u → Q' r u) (hX : ∀ pc L S u b c, X pc L S u b c → Y pc L S u b c)
    (pc : Nat) (L : List (Option Value)) (S : List Value) (u : am_St) (b c : Nat) (h : am_F E cd C Q X pc L S u b c) : am_F E cd C' Q' Y pc L S u b c := by
  revert h
  unfold am_F
  split
  · exact am_op_mono hC hQ hX _ _ _ _ _ _ _
  · exact id
/-- a call's meaning is monotone -/
def am_mo (C : am_C) : Prop := ∀ y As u P P', (∀ r u, P r u → P' r u) → C y As u P → C y As u P'
theorem am_wp_in {E : am_E} {cd : Nat → Option am_In} {C : am_C} {Q : am_Q} (hC : am_mo C) {pc : Nat} {L : List (Option Value)} {S : List Value} {u : am_St} {b c : Nat} (h : am_F E cd C Q (am_wp E cd C Q) pc L S u b c) : am_wp E cd C Q pc L S u b c :=
  fun X hX => hX _ _ _ _ _ _ (am_F_mono hC (fun _ _ q => q) (fun _ _ _ _ _ _ hw => hw X hX) _ _ _ _ _ _ h)
theorem am_wp_mono {E : am_E} {cd : Nat → Option am_In} {C C' : am_C} {Q Q' : am_Q} (hC : ∀ y As u P P', (∀ r u, P r u → P' r u) → C y As u P → C' y As u P') (hQ : ∀ r u, Q r u → Q' r u) {pc : Nat} {L : List (Option Value)} {S : List Value} {u : am_St} {b c : Nat} (h : am_wp E cd C Q pc L S u b c) : am_wp E cd C' Q' pc L S u b c :=
  fun X hX => h X (fun _ _ _ _ _ _ hF => hX _ _ _ _ _ _ (am_F_mono hC hQ (fun _ _ _ _ _ _ q => q) _ _ _ _ _ _ hF))
def am_fr (E : am_E) (cd : Nat → Option am_In) (C : am_C) (Q : am_Q) (stop : Nat → Bool) (X : am_X) : Nat → am_X
  | 0 => X
  | n + 1 => fun pc L S u b c => if stop pc = true then X pc L S u b c else am_F E cd C Q (am_fr E cd C Q stop X n) pc L S u b c
theorem am_fr_in {E : am_E} {cd : Nat → Option am_In} {C : am_C} {Q : am_Q} (hC : am_mo C) (stop : Nat → Bool) : ∀ (n pc : Nat) (L : List (Option Value)) (S : List Value) (u : am_St) (b c : Nat), am_fr E cd C Q stop (am_wp E cd C Q) n pc L S u b c → am_wp E cd C Q pc L S u b c
  | 0, _, _, _, _, _, _, h => h
  | n + 1, pc, L, S, u, b, c, h => by
    revert h
    unfold am_fr
    split
    · exact id
    · exact fun h => am_wp_in hC (am_F_mono hC (fun _ _ q => q) (am_fr_in hC stop n) _ _ _ _ _ _ h)
theorem am_go {E : am_E} {cd : Nat → Option am_In} {C : am_C} {Q : am_Q} (hC : am_mo C) (stop : Nat → Bool) (n : Nat) {pc : Nat} {L : List (Option Value)} {S : List Value} {u : am_St} {b c : Nat} (h : ∀ X : am_X, (∀ pc L S u b c, am_wp E cd C Q pc L S u b c → X pc L S u b c) → am_F E cd C Q (am_fr E cd C Q stop X n) pc L S u b c) : am_wp E cd C Q pc L S u b c :=
  am_wp_in hC (am_F_mono hC (fun _ _ q => q) (am_fr_in hC stop n) _ _ _ _ _ _ (h _ (fun _ _ _ _ _ _ q => q)))
/-- the locals at a method's entry -/
def am_la : List Value → List (Option Value)
  | [] => []
  | v :: r => if v.category = 2 then some v :: none :: am_la r else some v :: am_la r
def am_lo (n : Nat) (As : List Value) : List (Option Value) := am_la As ++ List.replicate (n - (am_la As).length) none
/-- a method's meaning, calls at most d deep -/
def am_sp (E : am_E) (cds : Nat → Nat → Option am_In) (ml : Nat → Nat) : Nat → am_C
  | 0 => fun _ _ _ _ => False
  | d + 1 => fun y As u Q => (am_la As).length ≤ ml y ∧ am_wp E (cds y) (am_sp E cds ml d) Q 0 (am_lo (ml y) As) [] u (E.2.1 y).1 (E.2.1 y).2
theorem am_sp_mo {E : am_E} {cds : Nat → Nat → Option am_In} {ml : Nat → Nat} : ∀ d, am_mo (am_sp E cds ml d)
  | 0 => fun _ _ _ _ _ _ h => h
  | d + 1 => fun _ _ _ _ _ hP h => ⟨h.1, am_wp_mono (am_sp_mo d) hP h.2⟩
theorem am_sp_s {E : am_E} {cds : Nat → Nat → Option am_In} {ml : Nat → Nat} : ∀ d y As u P P', (∀ r u, P r u → P' r u) → am_sp E cds ml d y As u P → am_sp E cds ml (d + 1) y As u P'
  | 0, _, _, _, _, _, _, h => h.elim
  | d + 1, _, _, _, _, _, hP, h => ⟨h.1, am_wp_mono (am_sp_s d) hP h.2⟩
theorem am_sp_le {E : am_E} {cds : Nat → Nat → Option am_In} {ml : Nat → Nat} {d d' y : Nat} {As : List Value} {u : am_St} {P P' : am_Q} (hd : d ≤ d') (hP : ∀ r u, P r u → P' r u) (h : am_sp E cds ml d y As u P) : am_sp E cds ml d' y As u P' := by
  induction d' with
  | zero =>
    have : d = 0 := by omega
    subst this
    exact h.elim
  | succ n ih =>
    rcases Nat.lt_or_ge n d with q | q
    · have : d = n + 1 := by omega
      subst this
      exact am_sp_mo _ _ _ _ _ _ hP h
    · exact am_sp_s n _ _ _ _ _ (fun _ _ q => q) (ih q)
end
section
/-! arrays of arrays: the word on their class; the rest of this part is the starting text of claim/NAMES.whole.lean.txt -/
def va_AOA (t : FieldType) (U : State) : Prop := (Cond.arrayOver (.array t)).before #[] U = true
theorem va_AOA.use {t : FieldType} {A : Array Value} {U : State} (h : va_AOA t U) : (Cond.arrayOver (.array t)).before A U = true := h
theorem va_AOA.moved {t : FieldType} {u U : State} (hvm : u.vm.Alike U.vm) (h : va_AOA t u) : va_AOA t U := by
  have h1 : (Cond.arrayOver (.array t)).before #[] (u.setVm U.vm) = true := by
    rw [Cond.arrayOver_setVmC hvm]
    exact h
  exact h1
/-! ===== BEGIN new T[n][m]: the outer array a place, the inner ones among the pooled ===== -/
/-- f, but v at every address of l -/
def vr_up {α : Type} (f : Nat → α) (l : List Nat) (v : α) : Nat → α := fun a => if a ∈ l then v else f a
theorem vr_up_in {α : Type} {f : Nat → α} {l : List Nat} {v : α} {a : Nat} (h : a ∈ l) : vr_up f l v a = v := if_pos h
theorem vr_up_ne {α : Type} {f : Nat → α} {l : List Nat} {v : α} {a : Nat} (h : a ∉ l) : vr_up f l v a = f a := if_neg h
theorem vr_rows {L l : List Nat} {f : Nat → va_E} {e : va_E} (h : ∀ a, a ∈ l → a ∉ L) : va_pl L f ++ l.map (fun a => (a, e)) = va_pl (L ++ l) (vr_up f l e) := by
  unfold va_pl
  rw [List.map_append]
  congr 1
  · apply List.map_congr_left
    intro a ha
    rw [vr_up_ne (fun q => h a q ha)]
  · apply List.map_congr_left
    intro a ha
    rw [vr_up_in ha]
theorem vr_lay {X rows : va_W} {x : Nat × va_E} {pl : va_W} {D : va_G} {cl : List vw_C} {H : Heap} (hP : va_P D cl (((X ++ pl) ++ [x]) ++ rows) H) : va_P D cl ((X ++ [x]) ++ (pl ++ rows)) H := by
  rw [List.append_assoc (X ++ pl)] at hP
  have h := va_P.swap hP
  rw [← List.append_assoc X] at h
  have h2 := va_P.swap h
  rw [List.append_assoc (X ++ [x])] at h2
  exact h2
theorem vr_layD {X rows : va_W} {x : Nat × va_E} {pl : va_W} {A : Nat → Prop} (hD : va_D A (((X ++ pl) ++ [x]) ++ rows)) : va_D A ((X ++ [x]) ++ (pl ++ rows)) := by
  rw [List.append_assoc (X ++ pl)] at hD
  have h := va_D.swap hD
  rw [← List.append_assoc X] at h
  have h2 := va_D.swap h
  rw [List.append_assoc (X ++ [x])] at h2
  exact h2
theorem vr_outer (c : ClassId) (N h0 : Nat) : ∀ i : Nat, Jvm.Free.Multi.outerC c N h0 i = arrV c N (fun j => va_rf (if j < i then some (h0 + 1 + j) else none))
  | 0 => by
    show ({ cls := c, slots := Array.replicate N .null, vm := .none } : Cell) = _
    rw [arrV_new]
    refine congrArg (arrV c N) (funext fun j => ?_)
    simp [va_rf]
  | i + 1 => by
    show (Jvm.Free.Multi.outerC c N h0 i).setSlot i (.ref (h0 + 1 + i)) = _
    rw [vr_outer c N h0 i, arrV_store]
    refine congrArg (arrV c N) (funext fun j => ?_)
    by_cases e : j = i
    · subst e
      simp [updV, va_rf]
    · by_cases h : j < i
      · simp [updV, e, h, Nat.lt_succ_of_lt h]
      · simp [updV, e, h, show ¬ j < i + 1 by omega]
section VGM
variable {p : Program} {l : Launch} {e : Env} {R : Room} {s : State} {m : MethodId} {args : Array Value} {below : List Frame} {meth : Method} {c : Code} {H : Heap} {locs : List Loc} {cells slots : Nat} {Q : State → Prop}
variable {cc : ByteArray} {pc : Nat} {ls : Array Slot} {rest : List Value} {D : va_G} {cl : List vw_C} {A : Nat → Prop} {a : Nat} {tys : List (ClassId × FieldType)} {ws : va_W} {H0 : Heap}
theorem va_mna {X : va_W} {L : List Nat} {f : Nat → va_E} {cc : ByteArray} (hexec : p.tables.exec = Jvm.exec) (hb : c.code = cc) {own : String} {index : Nat} {ty : FieldType} {cy : ClassId} (hown : s.vm.findClass own = some m.cls) (hclink : (Cond.classLink own index ("[" ++ (FieldType.array ty).toString)).before args s = true) (hover : va_AOA ty s) (harr : (Cond.arrayClass ty).before args s = true) (hcy : s.vm.findClass (FieldType.array ty).toString = some cy)
    (hK : va_K D cl tys s) (hP : va_P D cl (X ++ va_pl L f) H) (hD : va_D A (X ++ va_pl L f)) (hS : va_S A H0 H locs) (hA : ∀ q, H0.size ≤ q → A q) {n k : Int32} {N' K' : Nat} {z : vp_A} (hn : ¬ n < 0) (hk : ¬ k < 0) (hN : n.toNatClampNeg = N') (hM : k.toNatClampNeg = K')
    (hb1 : N' * 4 ≤ 536870912) (hb2 : K' * componentBytes ty ≤ 536870912) (hb3 : K' ≤ 536870912) (hdf : fits ty (defaultValue ty) = true) (hdd : (defaultValue ty).isDefault = true) (hcells : cells + (1 + N') ≤ R.cells) (hslots : slots + (N' + N' * K') ≤ R.slots) (hz : ∀ c : ClassId, Jvm.Free.Multi.innerC c K' (defaultValue ty) = vp_cell c z) (hdg : decode cc pc = .ok (.multianewarray index 2, 4))
    (kk : ∀ (q : Nat) (r : Nat → Nat) (cA : ClassId) (H1 : Heap), (∀ i j : Nat, i < N' → j < N' → r i = r j → i = j) → (∀ i : Nat, i < N' → r i ∉ L) → va_K D cl (tys ++ [(cA, .array ty)]) s →
      va_P D cl ((X ++ [(q, .inl (cA, N', .inr (.inr (.inr (.inr (fun i => if i < N' then some (r i) else none))))))]) ++ va_pl (L ++ (List.range N').map r) (vr_up f ((List.range N').map r) (.inl (cy, z)))) H1 → va_D A ((X ++ [(q, .inl (cA, N', .inr (.inr (.inr (.inr (fun i => if i < N' then some (r i) else none))))))]) ++ va_pl (L ++ (List.range N').map r) (vr_up f ((List.range N').map r) (.inl (cy, z)))) → va_S A H0 H1 locs →
      W p l e R s m args below meth c H1 locs (cells + 1 + N') (slots + N' + N' * K') Q (F0 m (pc + 4) ls (.ref q :: rest))) : W p l e R s m args below meth c H locs cells slots Q (F0 m pc ls (.int k :: .int n :: rest)) := by
  subst hN
  subst hM
  intro T hT Xs
  obtain ⟨vm₁, cA, comp, -, fA, fC, hO, -, X', step⟩ := Xs.multianewarray2F hexec hown hclink (va_AOA.use hover) harr (g := F0 m pc ls (.int k :: .int n :: rest)) rfl (by rw [hb]; exact hdg) rfl hn hk hb1 hb2 hb3 hdf hdd hcells hslots
  have ec : some cy = some comp := hcy.symm.trans fC
  cases ec
  generalize hF : Jvm.Free.Multi.fill (T.setVm vm₁) cA cy n.toNatClampNeg k.toNatClampNeg (defaultValue ty) n.toNatClampNeg = F at X' step
  have hTh : (T.setVm vm₁).heap = H := hT
  obtain ⟨f1, f2, -, -⟩ := Jvm.Free.Multi.fill_facts (T.setVm vm₁) cA cy n.toNatClampNeg k.toNatClampNeg (defaultValue ty) n.toNatClampNeg
  rw [hF, hTh] at f1 f2
  have hold : ∀ x : Nat, x < H.size → F.heap[x]? = H[x]? := fun x hx => by
    have := Jvm.Free.Multi.fill_old (T.setVm vm₁) cA cy n.toNatClampNeg k.toNatClampNeg (defaultValue ty) (a := x) (by rw [hTh]; exact hx) n.toNatClampNeg
    rw [hF, hTh] at this
    exact this
  have hrow : ∀ j : Nat, j < n.toNatClampNeg → F.heap[H.size + 1 + j]? = some (vp_cell cy z) := fun j hj => by
    have := Jvm.Free.Multi.fill_inner (T.setVm vm₁) cA cy n.toNatClampNeg k.toNatClampNeg (defaultValue ty) n.toNatClampNeg j hj
    rw [hF, hTh, hz] at this
    exact this
  have hout : Jvm.Free.Multi.outerC cA n.toNatClampNeg H.size n.toNatClampNeg = vp_cell cA (n.toNatClampNeg, .inr (.inr (.inr (.inr (fun i => if i < n.toNatClampNeg then some (H.size + 1 + i) else none))))) := by
    rw [vp_cell_q]
    exact vr_outer cA n.toNatClampNeg H.size n.toNatClampNeg
  rw [hout] at f2
  have hlt : ∀ a, a ∈ L → a < H.size := fun a ha => by
    obtain ⟨k9, hk9⟩ := va_pl_get (X := X) (f := f) ha
    exact (hP k9 _ hk9).lt
  have hnl : ∀ i : Nat, i < n.toNatClampNeg → H.size + 1 + i ∉ L := fun i _ h => by
    have := hlt _ h
    omega
  have hnm : ∀ a, a ∈ (List.range n.toNatClampNeg).map (fun i => H.size + 1 + i) → a ∉ L := fun a ha h => by
    obtain ⟨i, -, rfl⟩ := List.mem_map.mp ha
    have := hlt _ h
    omega
  have hP0 : va_P D cl (X ++ va_pl L f) F.heap := hP.kept (fun k9 x hx => hold x.1 ((hP k9 x hx).lt))
  have hP1 : va_P D cl ((X ++ va_pl L f) ++ [(H.size, .inl (cA, n.toNatClampNeg, .inr (.inr (.inr (.inr (fun i => if i < n.toNatClampNeg then some (H.size + 1 + i) else none))))))]) F.heap := hP0.app (fun k9 x hx => by
    have h0 : k9 < 1 := (List.getElem?_eq_some_iff.mp hx).1
    rw [show k9 = 0 by omega] at hx
    cases hx
    exact f2)
  have hP2 : va_P D cl (((X ++ va_pl L f) ++ [(H.size, .inl (cA, n.toNatClampNeg, .inr (.inr (.inr (.inr (fun i => if i < n.toNatClampNeg then some (H.size + 1 + i) else none))))))]) ++ ((List.range n.toNatClampNeg).map (fun i => H.size + 1 + i)).map (fun a => (a, .inl (cy, z)))) F.heap := hP1.app (fun k9 x hx => by
    obtain ⟨a, ha, rfl⟩ := List.mem_map.mp (List.mem_of_getElem? hx)
    obtain ⟨i, hi, rfl⟩ := List.mem_map.mp ha
    exact hrow i (List.mem_range.mp hi))
  have hD2 : va_D A (((X ++ va_pl L f) ++ [(H.size, .inl (cA, n.toNatClampNeg, .inr (.inr (.inr (.inr (fun i => if i < n.toNatClampNeg then some (H.size + 1 + i) else none))))))]) ++ ((List.range n.toNatClampNeg).map (fun i => H.size + 1 + i)).map (fun a => (a, .inl (cy, z)))) := by
    have hD1 := hD.push (e := .inl (cA, n.toNatClampNeg, .inr (.inr (.inr (.inr (fun i => if i < n.toNatClampNeg then some (H.size + 1 + i) else none)))))) hP rfl (hA _ hS.1)
    generalize hW1 : (X ++ va_pl L f) ++ [(H.size, .inl (cA, n.toNatClampNeg, .inr (.inr (.inr (.inr (fun i => if i < n.toNatClampNeg then some (H.size + 1 + i) else none))))))] = W1 at hD1 hP1 ⊢
    have hle : ∀ (k9 : Nat) (x : Nat × va_E), W1[k9]? = some x → x.1 ≤ H.size := fun k9 x hx => by
      rw [← hW1] at hx
      by_cases hl : k9 < (X ++ va_pl L f).length
      · rw [List.getElem?_append_left hl] at hx
        exact Nat.le_of_lt ((hP k9 x hx).lt)
      · rw [List.getElem?_append_right (by omega)] at hx
        have h0 : k9 - (X ++ va_pl L f).length < 1 := (List.getElem?_eq_some_iff.mp hx).1
        rw [show k9 - (X ++ va_pl L f).length = 0 by omega] at hx
        cases hx
        exact Nat.le_refl _
    have hr : ∀ (k9 : Nat) (x : Nat × va_E), (((List.range n.toNatClampNeg).map (fun i => H.size + 1 + i)).map (fun a => ((a, .inl (cy, z)) : Nat × va_E)))[k9]? = some x → x.1 = H.size + 1 + k9 := fun k9 x hx => by
      rw [List.getElem?_map, List.getElem?_map] at hx
      by_cases h9 : k9 < n.toNatClampNeg
      · rw [List.getElem?_range h9] at hx
        cases hx
        rfl
      · have hn0 : (List.range n.toNatClampNeg)[k9]? = none := List.getElem?_eq_none (by rw [List.length_range]; omega)
        rw [hn0] at hx
        cases hx
    refine ⟨fun i j x y hi hj hxy => ?_, fun k9 x hx => ?_⟩
    · by_cases h1 : i < W1.length <;> by_cases h2 : j < W1.length
      · rw [List.getElem?_append_left h1] at hi
        rw [List.getElem?_append_left h2] at hj
        exact hD1.1 i j x y hi hj hxy
      · rw [List.getElem?_append_left h1] at hi
        rw [List.getElem?_append_right (by omega)] at hj
        have := hle _ _ hi
        have := hr _ _ hj
        omega
      · rw [List.getElem?_append_right (by omega)] at hi
        rw [List.getElem?_append_left h2] at hj
        have := hle _ _ hj
        have := hr _ _ hi
        omega
      · rw [List.getElem?_append_right (by omega)] at hi hj
        have := hr _ _ hi
        have := hr _ _ hj
        omega
    · by_cases h1 : k9 < W1.length
      · rw [List.getElem?_append_left h1] at hx
        exact hD1.2 k9 x hx
      · rw [List.getElem?_append_right (by omega)] at hx
        have := hr _ _ hx
        exact hA _ (by have := hS.1; omega)
  have hAr : ArrOfT s cA (.array ty) := fun N9 z9 => by
    obtain ⟨-, k9, hk9, cm9, hkk9⟩ := (hO 0 0 0).1
    exact ⟨(fun q hq => by cases hq), k9, hk9, cm9, hkk9⟩
  have hK2 : va_K D cl (tys ++ [(cA, .array ty)]) s := ⟨hK.1, fun k9 x hx => by
    by_cases hl : k9 < tys.length
    · rw [List.getElem?_append_left hl] at hx
      exact hK.2 k9 x hx
    · rw [List.getElem?_append_right (by omega)] at hx
      have h0 : k9 - tys.length < 1 := (List.getElem?_eq_some_iff.mp hx).1
      rw [show k9 - tys.length = 0 by omega] at hx
      cases hx
      exact ⟨hAr, fA⟩⟩
  obtain ⟨t, a1, b1⟩ := kk H.size (fun i => H.size + 1 + i) cA F.heap (fun i j _ _ h => by have h9 : H.size + 1 + i = H.size + 1 + j := h; omega) hnl hK2 (by rw [← vr_rows hnm]; exact vr_lay hP2) (by rw [← vr_rows hnm]; exact vr_layD hD2) ⟨by rw [f1]; have := hS.1; omega, fun x h1 h2 => (hold x (Nat.lt_of_lt_of_le h1 hS.1)).trans (hS.2.1 x h1 h2), hS.2.2⟩ F rfl X'
  refine ⟨t, step t ?_, b1⟩
  have e : T.heap.size = H.size := by rw [hT]
  rw [e]
  exact a1
end VGM
/-! ===== END ===== -/
end
section
/-! THE SMALL MACHINE ON THE BIG ONE: what each kind of instruction of the small one asks for at the next place gives the walk of the big one from here. -/
def am_ty (kA : Nat → ClassId) : List (ClassId × FieldType) := [(kA 0, .int), (kA 1, .boolean), (kA 2, .array .int)]
/-- what is given from the start: the classes, links across the nest, the static rows -/
def am_Am (D : va_G) (cl : List vw_C) (kA : Nat → ClassId) (nw : List Cond) (sc : Nat → String × String) (ns : Nat) (sn : Nat → Nat) (sv : Nat → Nat → Int32) (A : Nat → Prop) (ad : Nat → Nat) (U : State) : Prop :=
  va_K D cl (am_ty kA) U ∧ (∀ w ∈ nw, va_Nw w U) ∧ va_AOA .int U ∧ ∀ k, k < ns → va_Z (sc k).1 (sc k).2 "[I" (.ref (ad (am_sb + k))) A U U.heap ∧ va_T .int (ad (am_sb + k)) (sn k) (fun j => .int (sv k j)) A U U.heap
/-- the heap is as the small machine has it -/
def am_Rh (D : va_G) (cl : List vw_C) (kA : Nat → ClassId) (ft : Nat → Nat → Bool) (A : Nat → Prop) (H0 : Heap) (ad0 : Nat → Nat) (n0 mc ms : Nat) (u : am_St) (b c : Nat) (ad : Nat → Nat) (H : Heap) (locs : List Loc) (cells slots : Nat) : Prop :=
  va_P D cl (am_wl kA ft ad u) H ∧ va_D A (am_wl kA ft ad u) ∧ va_S A H0 H locs ∧ cells + b ≤ mc ∧ slots + c ≤ ms ∧ n0 ≤ u.1.length ∧ u.1.length ≤ am_sb ∧ (∀ i, i < n0 ∨ am_sb ≤ i → ad i = ad0 i) ∧ (mc = 0 → ad = ad0)
def am_Xs (p : Program) (l : Launch) (e : Env) (R : Room) (s : State) (m : MethodId) (args : Array Value) (below : List Frame) (meth : Method) (c0 : Code) (Qs : State → Prop) (D : va_G) (cl : List vw_C) (kA : Nat → ClassId) (ft : Nat → Nat → Bool) (A : Nat → Prop) (ad0 : Nat → Nat) (n0 mc ms nL : Nat) : am_X := fun pc L S u b c =>
  ∀ (ad : Nat → Nat) (H : Heap) (locs : List Loc) (cells slots : Nat) (ls : Array Slot), lv_has ls nL (am_kn ad L) → am_Rh D cl kA ft A s.heap ad0 n0 mc ms u b c ad H locs cells slots → W p l e R s m args below meth c0 H locs cells slots Qs (F0 m pc ls (S.map (am_cv ad)))
def am_clok (cl : List vw_C) (Ts : List Cond) (ft : Nat → Nat → Bool) : Prop := ∀ (t : Nat) (q : vw_C), cl[t]? = some q → (∀ w ∈ u_ws q.1 q.2.1 q.2.2, w ∈ Ts) ∧ ∃ ty : Nat → FieldType, (∀ k, k < q.2.2 → parseFieldDescriptor (q.2.1 k).2.2.1 = some (ty k)) ∧ (∀ a, a < q.2.2 → ∀ b, b < q.2.2 → a ≠ b → (q.2.1 a).2.1 ≠ (q.2.1 b).2.1) ∧
  (∀ k, k < q.2.2 → (ft t k = true → (∃ C, ty k = .object C) ∨ ∃ f, ty k = .array f) ∧ (ft t k = false → ty k = .int ∨ ty k = .boolean))
def am_Cx (p : Program) (R : Room) (s : State) (m : MethodId) (args : Array Value) (meth : Method) (c0 : Code) (D : va_G) (cl : List vw_C) (kA : Nat → ClassId) (ft : Nat → Nat → Bool) (A : Nat → Prop) (ad0 : Nat → Nat) (mc ms nL : Nat) (cc : ByteArray) (own : String) (Ts nw : List Cond) (nm : String) (sc : Nat → String × String) (ns : Nat) (sn : Nat → Nat) (sv : Nat → Nat → Int32) (lg : Bool) (xl : Nat) (xs : Nat → Int32) : Prop :=
  p.tables.exec = Jvm.exec ∧ c0.code = cc ∧ c0.maxLocals = nL ∧ s.vm.findClass own = some m.cls ∧ (∀ w ∈ Ts, w.before args s = true) ∧ (∀ q, s.heap.size ≤ q → A q) ∧ am_Am D cl kA nw sc ns sn sv A ad0 s ∧ meth.name = nm ∧ 1 ≤ R.frames ∧ 40 ≤ R.locals ∧ mc ≤ R.cells ∧ ms ≤ R.slots ∧ am_clok cl Ts ft ∧ (lg = true → va_X (ad0 am_xb) xl xs s s.heap ∧ ad0 am_xb < s.heap.size ∧ ¬ A (ad0 am_xb))
section SIM
variable {p : Program} {l : Launch} {e : Env} {R : Room} {s : State} {m : MethodId} {args : Array Value} {below : List Frame} {meth : Method} {c0 : Code} {Qs : State → Prop} {D : va_G} {cl : List vw_C} {kA : Nat → ClassId} {ft : Nat → Nat → Bool} {A : Nat → Prop} {ad0 : Nat → Nat} {n0 mc ms nL : Nat} {cc : ByteArray} {own : String} {Ts nw : List Cond} {nm : String} {sc : Nat → String × String} {ns : Nat} {sn : Nat → Nat} {sv : Nat → Nat → Int32} {lg : Bool} {xl : Nat} {xs : Nat → Int32}
variable {pc nx i j : Nat} {z : Int} {L : List (Option Value)} {S : List Value} {u : am_St} {b c : Nat}
theorem as_push (cx : am_Cx p R s m args meth c0 D cl kA ft A ad0 mc ms nL cc own Ts nw nm sc ns sn sv lg xl xs) (hck : (j = 0 ∧ decode cc pc = .ok (.iconst z, 1) ∧ nx = pc + 1) ∨ (j = 1 ∧ decode cc pc = .ok (.bipush z, 2) ∧ (Int8.ofInt z).toInt32 = Int32.ofInt z ∧ nx = pc + 2) ∨ (j = 2 ∧ decode cc pc = .ok (.sipush z, 3) ∧ (Int16.ofInt z).toInt32 = Int32.ofInt z ∧ nx = pc + 3) ∨ (j = 3 ∧ decode cc pc = .ok (.ldc i, 2) ∧ Cond.constant own i (Int32.ofInt z) ∈ Ts ∧ nx = pc + 2)) (hF : ao_push (.int (Int32.ofInt z)) nx (am_Xs p l e R s m args below meth c0 Qs D cl kA ft A ad0 n0 mc ms nL) L S u b c) : (am_Xs p l e R s m args below meth c0 Qs D cl kA ft A ad0 n0 mc ms nL) pc L S u b c := by
  obtain ⟨hx, hb, hml, hown, hts, hA, hAm, hnm, hfr, hlo, hmc, hms, hcl, hxs⟩ := cx
  intro ad H locs cells slots ls hl hR
  have h := hF ad H locs cells slots ls hl hR
  rcases hck with ⟨-, h1, rfl⟩ | ⟨-, h1, h2, rfl⟩ | ⟨-, h1, h2, rfl⟩ | ⟨-, h1, h2, rfl⟩
  · exact lv_iconst hx hb h1 rfl h
  · exact lv_bipush hx hb h1 h2 h
  · exact lv_sipush hx hb h1 h2 h
  · exact lv_ldc hx hb hown (hts _ h2) h1 h
theorem as_iload (cx : am_Cx p R s m args meth c0 D cl kA ft A ad0 mc ms nL cc own Ts nw nm sc ns sn sv lg xl xs) (hck : if h : i < 4 then decode cc pc = .ok (.iload_n ⟨i, h⟩, 1) ∧ nx = pc + 1 else decode cc pc = .ok (.iload i, 2) ∧ nx = pc + 2) (hF : ao_iload i nx (am_Xs p l e R s m args below meth c0 Qs D cl kA ft A ad0 n0 mc ms nL) L S u b c) : (am_Xs p l e R s m args below meth c0 Qs D cl kA ft A ad0 n0 mc ms nL) pc L S u b c := by
  obtain ⟨hx, hb, hml, hown, hts, hA, hAm, hnm, hfr, hlo, hmc, hms, hcl, hxs⟩ := cx
  unfold ao_iload at hF
  split at hF
  · rename_i x hv
    intro ad H locs cells slots ls hl hR
    have h := hF ad H locs cells slots ls hl hR
    split at hck
    · obtain ⟨h1, rfl⟩ := hck
      exact lv_iload_n hx hb h1 rfl (am_at hl hv) h
    · obtain ⟨h1, rfl⟩ := hck
      exact lv_iload hx hb h1 (am_at hl hv) h
  · exact hF.elim
theorem as_aload (cx : am_Cx p R s m args meth c0 D cl kA ft A ad0 mc ms nL cc own Ts nw nm sc ns sn sv lg xl xs) (hck : if h : i < 4 then decode cc pc = .ok (.aload_n ⟨i, h⟩, 1) ∧ nx = pc + 1 else decode cc pc = .ok (.aload i, 2) ∧ nx = pc + 2) (hF : ao_aload i nx (am_Xs p l e R s m args below meth c0 Qs D cl kA ft A ad0 n0 mc ms nL) L S u b c) : (am_Xs p l e R s m args below meth c0 Qs D cl kA ft A ad0 n0 mc ms nL) pc L S u b c := by
  obtain ⟨hx, hb, hml, hown, hts, hA, hAm, hnm, hfr, hlo, hmc, hms, hcl, hxs⟩ := cx
  unfold ao_aload at hF
  split at hF
  · rename_i x hv
    intro ad H locs cells slots ls hl hR
    have h := hF ad H locs cells slots ls hl hR
    split at hck
    · obtain ⟨h1, rfl⟩ := hck
      exact lv_aload_n hx hb h1 rfl (am_at hl hv) h
    · obtain ⟨h1, rfl⟩ := hck
      exact lv_aload hx hb h1 (am_at hl hv) h
  · exact hF.elim
theorem as_lload (cx : am_Cx p R s m args meth c0 D cl kA ft A ad0 mc ms nL cc own Ts nw nm sc ns sn sv lg xl xs) (hck : if h : i < 4 then decode cc pc = .ok (.lload_n ⟨i, h⟩, 1) ∧ nx = pc + 1 else decode cc pc = .ok (.lload i, 2) ∧ nx = pc + 2) (hF : ao_lload i nx (am_Xs p l e R s m args below meth c0 Qs D cl kA ft A ad0 n0 mc ms nL) L S u b c) : (am_Xs p l e R s m args below meth c0 Qs D cl kA ft A ad0 n0 mc ms nL) pc L S u b c := by
  obtain ⟨hx, hb, hml, hown, hts, hA, hAm, hnm, hfr, hlo, hmc, hms, hcl, hxs⟩ := cx
  unfold ao_lload at hF
  split at hF
  · rename_i x hv
    intro ad H locs cells slots ls hl hR
    have h := hF ad H locs cells slots ls hl hR
    split at hck
    · obtain ⟨h1, rfl⟩ := hck
      exact lv_lload_n hx hb h1 rfl (am_at hl hv) h
    · obtain ⟨h1, rfl⟩ := hck
      exact lv_lload hx hb h1 (am_at hl hv) h
  · exact hF.elim
theorem as_istore (cx : am_Cx p R s m args meth c0 D cl kA ft A ad0 mc ms nL cc own Ts nw nm sc ns sn sv lg xl xs) (hck : (if h : i < 4 then decode cc pc = .ok (.istore_n ⟨i, h⟩, 1) ∧ nx = pc + 1 else decode cc pc = .ok (.istore i, 2) ∧ nx = pc + 2) ∧ i < nL) (hF : ao_istore i nx (am_Xs p l e R s m args below meth c0 Qs D cl kA ft A ad0 n0 mc ms nL) L S u b c) : (am_Xs p l e R s m args below meth c0 Qs D cl kA ft A ad0 n0 mc ms nL) pc L S u b c := by
  obtain ⟨hx, hb, hml, hown, hts, hA, hAm, hnm, hfr, hlo, hmc, hms, hcl, hxs⟩ := cx
  unfold ao_istore at hF
  split at hF
  · rename_i x S
    intro ad H locs cells slots ls hl hR
    obtain ⟨hck, hn⟩ := hck
    split at hck
    · obtain ⟨h1, rfl⟩ := hck
      exact lv_istore_n hx hb h1 rfl hl hn rfl (fun ls' hl' => hF ad H locs cells slots ls' (am_has1 (v := .int x) hl') hR)
    · obtain ⟨h1, rfl⟩ := hck
      exact lv_istore hx hb h1 hl hn rfl (fun ls' hl' => hF ad H locs cells slots ls' (am_has1 (v := .int x) hl') hR)
  · exact hF.elim
theorem as_astore (cx : am_Cx p R s m args meth c0 D cl kA ft A ad0 mc ms nL cc own Ts nw nm sc ns sn sv lg xl xs) (hck : (if h : i < 4 then decode cc pc = .ok (.astore_n ⟨i, h⟩, 1) ∧ nx = pc + 1 else decode cc pc = .ok (.astore i, 2) ∧ nx = pc + 2) ∧ i < nL) (hF : ao_astore i nx (am_Xs p l e R s m args below meth c0 Qs D cl kA ft A ad0 n0 mc ms nL) L S u b c) : (am_Xs p l e R s m args below meth c0 Qs D cl kA ft A ad0 n0 mc ms nL) pc L S u b c := by
  obtain ⟨hx, hb, hml, hown, hts, hA, hAm, hnm, hfr, hlo, hmc, hms, hcl, hxs⟩ := cx
  unfold ao_astore at hF
  split at hF
  · rename_i x S
    intro ad H locs cells slots ls hl hR
    obtain ⟨hck, hn⟩ := hck
    split at hck
    · obtain ⟨h1, rfl⟩ := hck
      exact lv_astore_n hx hb h1 rfl hl hn rfl (fun ls' hl' => hF ad H locs cells slots ls' (am_has1 (v := .ref x) hl') hR)
    · obtain ⟨h1, rfl⟩ := hck
      exact lv_astore hx hb h1 hl hn rfl (fun ls' hl' => hF ad H locs cells slots ls' (am_has1 (v := .ref x) hl') hR)
  · exact hF.elim
theorem as_lstore (cx : am_Cx p R s m args meth c0 D cl kA ft A ad0 mc ms nL cc own Ts nw nm sc ns sn sv lg xl xs) (hck : (if h : i < 4 then decode cc pc = .ok (.lstore_n ⟨i, h⟩, 1) ∧ nx = pc + 1 else decode cc pc = .ok (.lstore i, 2) ∧ nx = pc + 2) ∧ i + 1 < nL) (hF : ao_lstore i nx (am_Xs p l e R s m args below meth c0 Qs D cl kA ft A ad0 n0 mc ms nL) L S u b c) : (am_Xs p l e R s m args below meth c0 Qs D cl kA ft A ad0 n0 mc ms nL) pc L S u b c := by
  obtain ⟨hx, hb, hml, hown, hts, hA, hAm, hnm, hfr, hlo, hmc, hms, hcl, hxs⟩ := cx
  unfold ao_lstore at hF
  split at hF
  · rename_i x S
    intro ad H locs cells slots ls hl hR
    obtain ⟨hck, hn⟩ := hck
    split at hck
    · obtain ⟨h1, rfl⟩ := hck
      exact lv_lstore_n hx hb h1 rfl hl hn rfl (fun ls' hl' => hF ad H locs cells slots ls' (am_has2 (v := .long x) hl') hR)
    · obtain ⟨h1, rfl⟩ := hck
      exact lv_lstore hx hb h1 hl hn rfl (fun ls' hl' => hF ad H locs cells slots ls' (am_has2 (v := .long x) hl') hR)
  · exact hF.elim
theorem as_iinc (cx : am_Cx p R s m args meth c0 D cl kA ft A ad0 mc ms nL cc own Ts nw nm sc ns sn sv lg xl xs) (hck : decode cc pc = .ok (.iinc i z, 3) ∧ nx = pc + 3 ∧ i < nL) (hF : ao_iinc i z nx (am_Xs p l e R s m args below meth c0 Qs D cl kA ft A ad0 n0 mc ms nL) L S u b c) : (am_Xs p l e R s m args below meth c0 Qs D cl kA ft A ad0 n0 mc ms nL) pc L S u b c := by
  obtain ⟨hx, hb, hml, hown, hts, hA, hAm, hnm, hfr, hlo, hmc, hms, hcl, hxs⟩ := cx
  unfold ao_iinc at hF
  split at hF
  · rename_i x hv
    intro ad H locs cells slots ls hl hR
    obtain ⟨h1, rfl, hn⟩ := hck
    obtain ⟨k, hk⟩ := List.getElem?_of_mem (am_kn_in (ad := ad) hv)
    exact lv_iinc hx hb h1 hl (k := k) hk rfl hn rfl (fun ls' hl' => hF ad H locs cells slots ls' (am_has1 (v := .int (x + Int32.ofInt z)) hl') hR)
  · exact hF.elim
theorem as_iadd (cx : am_Cx p R s m args meth c0 D cl kA ft A ad0 mc ms nL cc own Ts nw nm sc ns sn sv lg xl xs) (hck : decode cc pc = .ok (.iadd, 1) ∧ nx = pc + 1) (hF : ao_ibin (fun x y => x + y) nx (am_Xs p l e R s m args below meth c0 Qs D cl kA ft A ad0 n0 mc ms nL) L S u b c) : (am_Xs p l e R s m args below meth c0 Qs D cl kA ft A ad0 n0 mc ms nL) pc L S u b c := by
  obtain ⟨hx, hb, hml, hown, hts, hA, hAm, hnm, hfr, hlo, hmc, hms, hcl, hxs⟩ := cx
  unfold ao_ibin at hF
  split at hF
  · intro ad H locs cells slots ls hl hR
    obtain ⟨h1, rfl⟩ := hck
    exact lv_iadd hx hb h1 (hF ad H locs cells slots ls hl hR)
  · exact hF.elim
theorem as_isub (cx : am_Cx p R s m args meth c0 D cl kA ft A ad0 mc ms nL cc own Ts nw nm sc ns sn sv lg xl xs) (hck : decode cc pc = .ok (.isub, 1) ∧ nx = pc + 1) (hF : ao_ibin (fun x y => x - y) nx (am_Xs p l e R s m args below meth c0 Qs D cl kA ft A ad0 n0 mc ms nL) L S u b c) : (am_Xs p l e R s m args below meth c0 Qs D cl kA ft A ad0 n0 mc ms nL) pc L S u b c := by
  obtain ⟨hx, hb, hml, hown, hts, hA, hAm, hnm, hfr, hlo, hmc, hms, hcl, hxs⟩ := cx
  unfold ao_ibin at hF
  split at hF
  · intro ad H locs cells slots ls hl hR
    obtain ⟨h1, rfl⟩ := hck
    exact lv_isub hx hb h1 (hF ad H locs cells slots ls hl hR)
  · exact hF.elim
theorem as_imul (cx : am_Cx p R s m args meth c0 D cl kA ft A ad0 mc ms nL cc own Ts nw nm sc ns sn sv lg xl xs) (hck : decode cc pc = .ok (.imul, 1) ∧ nx = pc + 1) (hF : ao_ibin (fun x y => x * y) nx (am_Xs p l e R s m args below meth c0 Qs D cl kA ft A ad0 n0 mc ms nL) L S u b c) : (am_Xs p l e R s m args below meth c0 Qs D cl kA ft A ad0 n0 mc ms nL) pc L S u b c := by
  obtain ⟨hx, hb, hml, hown, hts, hA, hAm, hnm, hfr, hlo, hmc, hms, hcl, hxs⟩ := cx
  unfold ao_ibin at hF
  split at hF
  · intro ad H locs cells slots ls hl hR
    obtain ⟨h1, rfl⟩ := hck
    exact lv_imul hx hb h1 (hF ad H locs cells slots ls hl hR)
  · exact hF.elim
theorem as_iand (cx : am_Cx p R s m args meth c0 D cl kA ft A ad0 mc ms nL cc own Ts nw nm sc ns sn sv lg xl xs) (hck : decode cc pc = .ok (.iand, 1) ∧ nx = pc + 1) (hF : ao_ibin (fun x y => x &&& y) nx (am_Xs p l e R s m args below meth c0 Qs D cl kA ft A ad0 n0 mc ms nL) L S u b c) : (am_Xs p l e R s m args below meth c0 Qs D cl kA ft A ad0 n0 mc ms nL) pc L S u b c := by
  obtain ⟨hx, hb, hml, hown, hts, hA, hAm, hnm, hfr, hlo, hmc, hms, hcl, hxs⟩ := cx
  unfold ao_ibin at hF
  split at hF
  · intro ad H locs cells slots ls hl hR
    obtain ⟨h1, rfl⟩ := hck
    exact lv_iand hx hb h1 (hF ad H locs cells slots ls hl hR)
  · exact hF.elim
theorem as_idiv (cx : am_Cx p R s m args meth c0 D cl kA ft A ad0 mc ms nL cc own Ts nw nm sc ns sn sv lg xl xs) (hck : decode cc pc = .ok (.idiv, 1) ∧ nx = pc + 1) (hF : ao_idiv (fun x y => x / y) nx (am_Xs p l e R s m args below meth c0 Qs D cl kA ft A ad0 n0 mc ms nL) L S u b c) : (am_Xs p l e R s m args below meth c0 Qs D cl kA ft A ad0 n0 mc ms nL) pc L S u b c := by
  obtain ⟨hx, hb, hml, hown, hts, hA, hAm, hnm, hfr, hlo, hmc, hms, hcl, hxs⟩ := cx
  unfold ao_idiv at hF
  split at hF
  · intro ad H locs cells slots ls hl hR
    obtain ⟨h1, rfl⟩ := hck
    exact lv_idiv hx hb h1 hF.1 (hF.2 ad H locs cells slots ls hl hR)
  · exact hF.elim
theorem as_irem (cx : am_Cx p R s m args meth c0 D cl kA ft A ad0 mc ms nL cc own Ts nw nm sc ns sn sv lg xl xs) (hck : decode cc pc = .ok (.irem, 1) ∧ nx = pc + 1) (hF : ao_idiv (fun x y => x - x / y * y) nx (am_Xs p l e R s m args below meth c0 Qs D cl kA ft A ad0 n0 mc ms nL) L S u b c) : (am_Xs p l e R s m args below meth c0 Qs D cl kA ft A ad0 n0 mc ms nL) pc L S u b c := by
  obtain ⟨hx, hb, hml, hown, hts, hA, hAm, hnm, hfr, hlo, hmc, hms, hcl, hxs⟩ := cx
  unfold ao_idiv at hF
  split at hF
  · intro ad H locs cells slots ls hl hR
    obtain ⟨h1, rfl⟩ := hck
    exact lv_irem hx hb h1 hF.1 (hF.2 ad H locs cells slots ls hl hR)
  · exact hF.elim
theorem as_ladd (cx : am_Cx p R s m args meth c0 D cl kA ft A ad0 mc ms nL cc own Ts nw nm sc ns sn sv lg xl xs) (hck : decode cc pc = .ok (.ladd, 1) ∧ nx = pc + 1) (hF : ao_lbin (fun x y => x + y) nx (am_Xs p l e R s m args below meth c0 Qs D cl kA ft A ad0 n0 mc ms nL) L S u b c) : (am_Xs p l e R s m args below meth c0 Qs D cl kA ft A ad0 n0 mc ms nL) pc L S u b c := by
  obtain ⟨hx, hb, hml, hown, hts, hA, hAm, hnm, hfr, hlo, hmc, hms, hcl, hxs⟩ := cx
  unfold ao_lbin at hF
  split at hF
  · intro ad H locs cells slots ls hl hR
    obtain ⟨h1, rfl⟩ := hck
    exact lv_ladd hx hb h1 (hF ad H locs cells slots ls hl hR)
  · exact hF.elim
theorem as_lsub (cx : am_Cx p R s m args meth c0 D cl kA ft A ad0 mc ms nL cc own Ts nw nm sc ns sn sv lg xl xs) (hck : decode cc pc = .ok (.lsub, 1) ∧ nx = pc + 1) (hF : ao_lbin (fun x y => x - y) nx (am_Xs p l e R s m args below meth c0 Qs D cl kA ft A ad0 n0 mc ms nL) L S u b c) : (am_Xs p l e R s m args below meth c0 Qs D cl kA ft A ad0 n0 mc ms nL) pc L S u b c := by
  obtain ⟨hx, hb, hml, hown, hts, hA, hAm, hnm, hfr, hlo, hmc, hms, hcl, hxs⟩ := cx
  unfold ao_lbin at hF
  split at hF
  · intro ad H locs cells slots ls hl hR
    obtain ⟨h1, rfl⟩ := hck
    exact lv_lsub hx hb h1 (hF ad H locs cells slots ls hl hR)
  · exact hF.elim
theorem as_lmul (cx : am_Cx p R s m args meth c0 D cl kA ft A ad0 mc ms nL cc own Ts nw nm sc ns sn sv lg xl xs) (hck : decode cc pc = .ok (.lmul, 1) ∧ nx = pc + 1) (hF : ao_lbin (fun x y => x * y) nx (am_Xs p l e R s m args below meth c0 Qs D cl kA ft A ad0 n0 mc ms nL) L S u b c) : (am_Xs p l e R s m args below meth c0 Qs D cl kA ft A ad0 n0 mc ms nL) pc L S u b c := by
  obtain ⟨hx, hb, hml, hown, hts, hA, hAm, hnm, hfr, hlo, hmc, hms, hcl, hxs⟩ := cx
  unfold ao_lbin at hF
  split at hF
  · intro ad H locs cells slots ls hl hR
    obtain ⟨h1, rfl⟩ := hck
    exact lv_lmul hx hb h1 (hF ad H locs cells slots ls hl hR)
  · exact hF.elim
theorem as_ldiv (cx : am_Cx p R s m args meth c0 D cl kA ft A ad0 mc ms nL cc own Ts nw nm sc ns sn sv lg xl xs) (hck : decode cc pc = .ok (.ldiv, 1) ∧ nx = pc + 1) (hF : ao_ldiv (fun x y => x / y) nx (am_Xs p l e R s m args below meth c0 Qs D cl kA ft A ad0 n0 mc ms nL) L S u b c) : (am_Xs p l e R s m args below meth c0 Qs D cl kA ft A ad0 n0 mc ms nL) pc L S u b c := by
  obtain ⟨hx, hb, hml, hown, hts, hA, hAm, hnm, hfr, hlo, hmc, hms, hcl, hxs⟩ := cx
  unfold ao_ldiv at hF
  split at hF
  · intro ad H locs cells slots ls hl hR
    obtain ⟨h1, rfl⟩ := hck
    exact lv_ldiv hx hb h1 hF.1 (hF.2 ad H locs cells slots ls hl hR)
  · exact hF.elim
theorem as_lcmp (cx : am_Cx p R s m args meth c0 D cl kA ft A ad0 mc ms nL cc own Ts nw nm sc ns sn sv lg xl xs) (hck : decode cc pc = .ok (.lcmp, 1) ∧ nx = pc + 1) (hF : ao_lcmp nx (am_Xs p l e R s m args below meth c0 Qs D cl kA ft A ad0 n0 mc ms nL) L S u b c) : (am_Xs p l e R s m args below meth c0 Qs D cl kA ft A ad0 n0 mc ms nL) pc L S u b c := by
  obtain ⟨hx, hb, hml, hown, hts, hA, hAm, hnm, hfr, hlo, hmc, hms, hcl, hxs⟩ := cx
  unfold ao_lcmp at hF
  split at hF
  · intro ad H locs cells slots ls hl hR
    obtain ⟨h1, rfl⟩ := hck
    exact W.lcmp hx hb h1 (hF ad H locs cells slots ls hl hR)
  · exact hF.elim
theorem as_i2l (cx : am_Cx p R s m args meth c0 D cl kA ft A ad0 mc ms nL cc own Ts nw nm sc ns sn sv lg xl xs) (hck : decode cc pc = .ok (.i2l, 1) ∧ nx = pc + 1) (hF : ao_i2l nx (am_Xs p l e R s m args below meth c0 Qs D cl kA ft A ad0 n0 mc ms nL) L S u b c) : (am_Xs p l e R s m args below meth c0 Qs D cl kA ft A ad0 n0 mc ms nL) pc L S u b c := by
  obtain ⟨hx, hb, hml, hown, hts, hA, hAm, hnm, hfr, hlo, hmc, hms, hcl, hxs⟩ := cx
  unfold ao_i2l at hF
  split at hF
  · intro ad H locs cells slots ls hl hR
    obtain ⟨h1, rfl⟩ := hck
    exact lv_i2l hx hb h1 rfl (hF ad H locs cells slots ls hl hR)
  · exact hF.elim
theorem as_l2i (cx : am_Cx p R s m args meth c0 D cl kA ft A ad0 mc ms nL cc own Ts nw nm sc ns sn sv lg xl xs) (hck : decode cc pc = .ok (.l2i, 1) ∧ nx = pc + 1) (hF : ao_l2i nx (am_Xs p l e R s m args below meth c0 Qs D cl kA ft A ad0 n0 mc ms nL) L S u b c) : (am_Xs p l e R s m args below meth c0 Qs D cl kA ft A ad0 n0 mc ms nL) pc L S u b c := by
  obtain ⟨hx, hb, hml, hown, hts, hA, hAm, hnm, hfr, hlo, hmc, hms, hcl, hxs⟩ := cx
  unfold ao_l2i at hF
  split at hF
  · intro ad H locs cells slots ls hl hR
    obtain ⟨h1, rfl⟩ := hck
    exact lv_l2i hx hb h1 rfl (hF ad H locs cells slots ls hl hR)
  · exact hF.elim
theorem as_pushl (cx : am_Cx p R s m args meth c0 D cl kA ft A ad0 mc ms nL cc own Ts nw nm sc ns sn sv lg xl xs) (hck : (j = 0 ∧ z = 0 ∧ decode cc pc = .ok (.lconst 0, 1) ∧ nx = pc + 1) ∨ (j = 1 ∧ z = 1 ∧ decode cc pc = .ok (.lconst 1, 1) ∧ nx = pc + 1) ∨ (j = 2 ∧ decode cc pc = .ok (.ldc2_w i, 3) ∧ Cond.constantLong own i (Int64.ofInt z) ∈ Ts ∧ nx = pc + 3)) (hF : ao_push (.long (Int64.ofInt z)) nx (am_Xs p l e R s m args below meth c0 Qs D cl kA ft A ad0 n0 mc ms nL) L S u b c) : (am_Xs p l e R s m args below meth c0 Qs D cl kA ft A ad0 n0 mc ms nL) pc L S u b c := by
  obtain ⟨hx, hb, hml, hown, hts, hA, hAm, hnm, hfr, hlo, hmc, hms, hcl, hxs⟩ := cx
  intro ad H locs cells slots ls hl hR
  have h := hF ad H locs cells slots ls hl hR
  rcases hck with ⟨-, rfl, h1, rfl⟩ | ⟨-, rfl, h1, rfl⟩ | ⟨-, h1, h2, rfl⟩
  · exact lv_lconst hx hb h1 (by decide) h
  · exact lv_lconst hx hb h1 (by decide) h
  · exact lv_ldc2 hx hb hown (hts _ h2) h1 h
theorem as_if (cx : am_Cx p R s m args meth c0 D cl kA ft A ad0 mc ms nL cc own Ts nw nm sc ns sn sv lg xl xs) (hck : nx = pc + 3 ∧ ((j = 0 ∧ decode cc pc = .ok (.ifCond .eq ((i : Int) - (pc : Int)), 3)) ∨ (j = 1 ∧ decode cc pc = .ok (.ifCond .ne ((i : Int) - (pc : Int)), 3)) ∨ (j = 2 ∧ decode cc pc = .ok (.ifCond .lt ((i : Int) - (pc : Int)), 3)) ∨ (j = 3 ∧ decode cc pc = .ok (.ifCond .ge ((i : Int) - (pc : Int)), 3)) ∨ (j = 4 ∧ decode cc pc = .ok (.ifCond .gt ((i : Int) - (pc : Int)), 3)) ∨ (j = 5 ∧ decode cc pc = .ok (.ifCond .le ((i : Int) - (pc : Int)), 3)))) (hF : ao_if j i nx (am_Xs p l e R s m args below meth c0 Qs D cl kA ft A ad0 n0 mc ms nL) L S u b c) : (am_Xs p l e R s m args below meth c0 Qs D cl kA ft A ad0 n0 mc ms nL) pc L S u b c := by
  obtain ⟨hx, hb, hml, hown, hts, hA, hAm, hnm, hfr, hlo, hmc, hms, hcl, hxs⟩ := cx
  obtain ⟨rfl, hck⟩ := hck
  unfold ao_if at hF
  split at hF
  · intro ad H locs cells slots ls hl hR
    rcases hck with ⟨rfl, h1⟩ | ⟨rfl, h1⟩ | ⟨rfl, h1⟩ | ⟨rfl, h1⟩ | ⟨rfl, h1⟩ | ⟨rfl, h1⟩
    · exact lv_if_eq hx hb h1 (by omega) (fun q => hF.1 q ad H locs cells slots ls hl hR) (fun q => hF.2 q ad H locs cells slots ls hl hR)
    · exact lv_if_ne hx hb h1 (by omega) (fun q => hF.1 q ad H locs cells slots ls hl hR) (fun q => hF.2 q ad H locs cells slots ls hl hR)
    · exact lv_if_lt hx hb h1 (by omega) (fun q => hF.1 q ad H locs cells slots ls hl hR) (fun q => hF.2 q ad H locs cells slots ls hl hR)
    · exact lv_if_ge hx hb h1 (by omega) (fun q => hF.1 q ad H locs cells slots ls hl hR) (fun q => hF.2 q ad H locs cells slots ls hl hR)
    · exact lv_if_gt hx hb h1 (by omega) (fun q => hF.1 q ad H locs cells slots ls hl hR) (fun q => hF.2 q ad H locs cells slots ls hl hR)
    · exact lv_if_le hx hb h1 (by omega) (fun q => hF.1 q ad H locs cells slots ls hl hR) (fun q => hF.2 q ad H locs cells slots ls hl hR)
  · exact hF.elim
theorem as_icmp (cx : am_Cx p R s m args meth c0 D cl kA ft A ad0 mc ms nL cc own Ts nw nm sc ns sn sv lg xl xs) (hck : nx = pc + 3 ∧ ((j = 0 ∧ decode cc pc = .ok (.if_icmp .eq ((i : Int) - (pc : Int)), 3)) ∨ (j = 1 ∧ decode cc pc = .ok (.if_icmp .ne ((i : Int) - (pc : Int)), 3)) ∨ (j = 2 ∧ decode cc pc = .ok (.if_icmp .lt ((i : Int) - (pc : Int)), 3)) ∨ (j = 3 ∧ decode cc pc = .ok (.if_icmp .ge ((i : Int) - (pc : Int)), 3)) ∨ (j = 4 ∧ decode cc pc = .ok (.if_icmp .gt ((i : Int) - (pc : Int)), 3)) ∨ (j = 5 ∧ decode cc pc = .ok (.if_icmp .le ((i : Int) - (pc : Int)), 3)))) (hF : ao_icmp j i nx (am_Xs p l e R s m args below meth c0 Qs D cl kA ft A ad0 n0 mc ms nL) L S u b c) : (am_Xs p l e R s m args below meth c0 Qs D cl kA ft A ad0 n0 mc ms nL) pc L S u b c := by
  obtain ⟨hx, hb, hml, hown, hts, hA, hAm, hnm, hfr, hlo, hmc, hms, hcl, hxs⟩ := cx
  obtain ⟨rfl, hck⟩ := hck
  unfold ao_icmp at hF
  split at hF
  · intro ad H locs cells slots ls hl hR
    rcases hck with ⟨rfl, h1⟩ | ⟨rfl, h1⟩ | ⟨rfl, h1⟩ | ⟨rfl, h1⟩ | ⟨rfl, h1⟩ | ⟨rfl, h1⟩
    · exact lv_icmp_eq hx hb h1 (by omega) (fun q => hF.1 q ad H locs cells slots ls hl hR) (fun q => hF.2 q ad H locs cells slots ls hl hR)
    · exact lv_icmp_ne hx hb h1 (by omega) (fun q => hF.1 q ad H locs cells slots ls hl hR) (fun q => hF.2 q ad H locs cells slots ls hl hR)
    · exact lv_icmp_lt hx hb h1 (by omega) (fun q => hF.1 q ad H locs cells slots ls hl hR) (fun q => hF.2 q ad H locs cells slots ls hl hR)
    · exact lv_icmp_ge hx hb h1 (by omega) (fun q => hF.1 q ad H locs cells slots ls hl hR) (fun q => hF.2 q ad H locs cells slots ls hl hR)
    · exact lv_icmp_gt hx hb h1 (by omega) (fun q => hF.1 q ad H locs cells slots ls hl hR) (fun q => hF.2 q ad H locs cells slots ls hl hR)
    · exact lv_icmp_le hx hb h1 (by omega) (fun q => hF.1 q ad H locs cells slots ls hl hR) (fun q => hF.2 q ad H locs cells slots ls hl hR)
  · exact hF.elim
theorem as_goto (cx : am_Cx p R s m args meth c0 D cl kA ft A ad0 mc ms nL cc own Ts nw nm sc ns sn sv lg xl xs) (hck : decode cc pc = .ok (.goto ((i : Int) - (pc : Int)), 3)) (hF : ao_goto i (am_Xs p l e R s m args below meth c0 Qs D cl kA ft A ad0 n0 mc ms nL) L S u b c) : (am_Xs p l e R s m args below meth c0 Qs D cl kA ft A ad0 n0 mc ms nL) pc L S u b c := by
  obtain ⟨hx, hb, hml, hown, hts, hA, hAm, hnm, hfr, hlo, hmc, hms, hcl, hxs⟩ := cx
  intro ad H locs cells slots ls hl hR
  exact lv_goto hx hb hck (by omega) (hF ad H locs cells slots ls hl hR)
theorem am_fl_get {t n k : Nat} {ad : Nat → Nat} {f : Nat → Int32} {rs : List (Option Nat)} (hk : k < n) : ((List.range n).map (am_fl ft ad f rs t))[k]? = some (am_fl ft ad f rs t k) := by
  rw [List.getElem?_map, List.getElem?_range hk]
  rfl
theorem am_fl_setI {t n k : Nat} {ad : Nat → Nat} {f : Nat → Int32} {rs : List (Option Nat)} {x : Int32} (hf : ft t k = false) : ((List.range n).map (am_fl ft ad f rs t)).set k (.int x) = (List.range n).map (am_fl ft ad (upd f k x) rs t) := by
  apply List.ext_getElem?
  intro q
  by_cases hq : q < n
  · rw [am_fl_get hq]
    by_cases e : k = q
    · subst e
      rw [List.getElem?_set_self (by simpa using hq)]
      simp [am_fl, hf, upd]
    · rw [List.getElem?_set_ne e, am_fl_get hq]
      simp [am_fl, upd, show ¬ q = k from fun h => e h.symm]
  · rw [List.getElem?_eq_none (by simp; omega), List.getElem?_eq_none (by simp; omega)]
theorem am_fl_setR {t n k : Nat} {ad : Nat → Nat} {f : Nat → Int32} {rs : List (Option Nat)} {v : Nat} (hf : ft t k = true) (hl : k < rs.length) : ((List.range n).map (am_fl ft ad f rs t)).set k (.ref (ad v)) = (List.range n).map (am_fl ft ad f (rs.set k (some v)) t) := by
  apply List.ext_getElem?
  intro q
  by_cases hq : q < n
  · rw [am_fl_get hq]
    by_cases e : k = q
    · subst e
      rw [List.getElem?_set_self (by simpa using hq)]
      simp [am_fl, hf, am_rg, hl, va_rf]
    · rw [List.getElem?_set_ne e, am_fl_get hq]
      simp [am_fl, am_rg, List.getElem?_set_ne e]
  · rw [List.getElem?_eq_none (by simp; omega), List.getElem?_eq_none (by simp; omega)]
theorem as_getI (cx : am_Cx p R s m args meth c0 D cl kA ft A ad0 mc ms nL cc own Ts nw nm sc ns sn sv lg xl xs) (C : String) (T : u_T) (N : Nat) (hc : cl[i]? = some (C, T, N)) (hjN : j < N) (hk : Cond.fieldLink own z.toNat (T j).1 (T j).2.1 (T j).2.2.1 ∈ Ts) (hft : ft i j = false) (hdg : decode cc pc = .ok (.getfield z.toNat, 3)) (hnx : nx = pc + 3) (hF : ao_getI i j nx (am_Xs p l e R s m args below meth c0 Qs D cl kA ft A ad0 n0 mc ms nL) L S u b c) : (am_Xs p l e R s m args below meth c0 Qs D cl kA ft A ad0 n0 mc ms nL) pc L S u b c := by
  obtain ⟨hx, hb, hml, hown, hts, hA, hAm, hnm, hfr, hlo, hmc, hms, hcl, hxs⟩ := cx
  subst hnx
  unfold ao_getI at hF
  split at hF
  · rename_i a S
    split at hF
    · rename_i t' n rs hu
      split at hF
      · rename_i hq
        obtain ⟨rfl, hq⟩ := hq
        intro ad H locs cells slots ls hl hR
        have he := am_wl_at (kA := kA) (ft := ft) (ad := ad) hu
        refine va_get (D := D) (ci := i) (v := .int (u.2 a j)) (C := C) (T := T) (N := N) hx hb hts (hcl i _ hc).1 hown hAm.1 hR.1 a he hc j hjN (hts _ hk) (fun _ h9 => h9) ?_ hdg (hF ad H locs cells slots ls hl hR)
        rw [am_fl_get hq]
        simp [am_fl, hft]
      · exact hF.elim
    · exact hF.elim
  · exact hF.elim
theorem as_getR (cx : am_Cx p R s m args meth c0 D cl kA ft A ad0 mc ms nL cc own Ts nw nm sc ns sn sv lg xl xs) (C : String) (T : u_T) (N : Nat) (hc : cl[i]? = some (C, T, N)) (hjN : j < N) (hk : Cond.fieldLink own z.toNat (T j).1 (T j).2.1 (T j).2.2.1 ∈ Ts) (hft : ft i j = true) (hdg : decode cc pc = .ok (.getfield z.toNat, 3)) (hnx : nx = pc + 3) (hF : ao_getR i j nx (am_Xs p l e R s m args below meth c0 Qs D cl kA ft A ad0 n0 mc ms nL) L S u b c) : (am_Xs p l e R s m args below meth c0 Qs D cl kA ft A ad0 n0 mc ms nL) pc L S u b c := by
  obtain ⟨hx, hb, hml, hown, hts, hA, hAm, hnm, hfr, hlo, hmc, hms, hcl, hxs⟩ := cx
  subst hnx
  unfold ao_getR at hF
  split at hF
  · rename_i a S
    split at hF
    · rename_i t' n rs hu
      split at hF
      · rename_i hq
        obtain ⟨rfl, hq⟩ := hq
        split at hF
        · rename_i a' ha
          intro ad H locs cells slots ls hl hR
          have he := am_wl_at (kA := kA) (ft := ft) (ad := ad) hu
          refine va_get (D := D) (ci := i) (v := .ref (ad a')) (C := C) (T := T) (N := N) hx hb hts (hcl i _ hc).1 hown hAm.1 hR.1 a he hc j hjN (hts _ hk) (fun _ h9 => h9) ?_ hdg (hF ad H locs cells slots ls hl hR)
          rw [am_fl_get hq]
          simp [am_fl, hft, ha, va_rf]
        · exact hF.elim
      · exact hF.elim
    · exact hF.elim
  · exact hF.elim
theorem am_nar_z {x : Int32} (h : x = 0 ∨ x = 1) : narrow .boolean (.int x) = .int x ∧ fits .boolean (.int x) = true := by
  rcases h with rfl | rfl <;> exact ⟨by decide, by decide⟩
theorem as_putI (cx : am_Cx p R s m args meth c0 D cl kA ft A ad0 mc ms nL cc own Ts nw nm sc ns sn sv lg xl xs) (C : String) (T : u_T) (N : Nat) (hc : cl[i]? = some (C, T, N)) (hjN : j < N) (hk : Cond.fieldLink own z.toNat (T j).1 (T j).2.1 (T j).2.2.1 ∈ Ts) (hfd : parseFieldDescriptor (T j).2.2.1 = some .int) (hft : ft i j = false) (hfn : (T j).2.2.2 = false ∨ ((T j).2.2.2 = true ∧ nm = "<init>" ∧ (T j).1 = own)) (hdg : decode cc pc = .ok (.putfield z.toNat, 3)) (hnx : nx = pc + 3) (hF : ao_putI i j nx (am_Xs p l e R s m args below meth c0 Qs D cl kA ft A ad0 n0 mc ms nL) L S u b c) : (am_Xs p l e R s m args below meth c0 Qs D cl kA ft A ad0 n0 mc ms nL) pc L S u b c := by
  obtain ⟨hx, hb, hml, hown, hts, hA, hAm, hnm, hfr, hlo, hmc, hms, hcl, hxs⟩ := cx
  subst hnx
  unfold ao_putI at hF
  split at hF
  · rename_i x a S
    split at hF
    · rename_i t' n rs hu
      split at hF
      · rename_i hq
        obtain ⟨rfl, hq⟩ := hq
        obtain ⟨hcw, ty, hty, hnms, hrf⟩ := hcl i _ hc
        intro ad H locs cells slots ls hl hR
        obtain ⟨hP, hD, hS, hRr⟩ := hR
        have he := am_wl_at (kA := kA) (ft := ft) (ad := ad) hu
        have hd : parseFieldDescriptor (T j).2.2.1 = some .int := hfd
        have hn2 : narrow .int (.int x) = .int x ∧ fits .int (.int x) = true := ⟨rfl, rfl⟩
        have hset : (am_wl kA ft ad u).set a (ad a, .inr (i, ((List.range n).map (am_fl ft ad (u.2 a) rs i)).set j (.int x))) = am_wl kA ft ad (u.1, am_up u.2 a j x) := by
          rw [am_fl_setI hft]
          exact am_wl_seti hu (upd (u.2 a) j x)
        have hln : n0 ≤ u.1.length ∧ u.1.length ≤ am_sb := ⟨hRr.2.2.1, hRr.2.2.2.1⟩
        have kk : ∀ (H1 : Heap) (locs1 : List Loc), va_P D cl ((am_wl kA ft ad u).set a (ad a, .inr (i, ((List.range n).map (am_fl ft ad (u.2 a) rs i)).set j (.int x)))) H1 → va_D A ((am_wl kA ft ad u).set a (ad a, .inr (i, ((List.range n).map (am_fl ft ad (u.2 a) rs i)).set j (.int x)))) → va_S A s.heap H1 locs1 → W p l e R s m args below meth c0 H1 locs1 cells slots Qs (F0 m (pc + 3) ls (S.map (am_cv ad))) := by
          intro H1 locs1 hP1 hD1 hS1
          rw [hset] at hP1 hD1
          exact hF ad H1 locs1 cells slots ls hl ⟨hP1, hD1, hS1, hRr.1, hRr.2.1, hln.1, hln.2, hRr.2.2.2.2⟩
        have hll : j < ((List.range n).map (am_fl ft ad (u.2 a) rs i)).length := by simpa using hq
        rcases hfn with hfin | ⟨hfin, hin, hdc⟩
        · exact va_put (D := D) (ci := i) (v := .int x) (C := C) (T := T) (N := N) hx hb hts hcw ty hty hnms hown hAm.1 hP hD hS a he hc j hjN (hts _ hk) (fun _ h9 => h9) hfin hd hn2.1 hn2.2 hll hdg kk
        · exact va_putF (D := D) (ci := i) (v := .int x) (C := C) (T := T) (N := N) hx hb hts hcw ty hty hnms hown hAm.1 hP hD hS a he hc j hjN (hts _ hk) (fun _ h9 => h9) hfin (hnm.trans hin) hdc hd hn2.1 hn2.2 hll hdg kk
      · exact hF.elim
    · exact hF.elim
  · exact hF.elim
theorem as_putZ (cx : am_Cx p R s m args meth c0 D cl kA ft A ad0 mc ms nL cc own Ts nw nm sc ns sn sv lg xl xs) (C : String) (T : u_T) (N : Nat) (hc : cl[i]? = some (C, T, N)) (hjN : j < N) (hk : Cond.fieldLink own z.toNat (T j).1 (T j).2.1 (T j).2.2.1 ∈ Ts) (hfd : parseFieldDescriptor (T j).2.2.1 = some .boolean) (hft : ft i j = false) (hfn : (T j).2.2.2 = false ∨ ((T j).2.2.2 = true ∧ nm = "<init>" ∧ (T j).1 = own)) (hdg : decode cc pc = .ok (.putfield z.toNat, 3)) (hnx : nx = pc + 3) (hF : ao_putZ i j nx (am_Xs p l e R s m args below meth c0 Qs D cl kA ft A ad0 n0 mc ms nL) L S u b c) : (am_Xs p l e R s m args below meth c0 Qs D cl kA ft A ad0 n0 mc ms nL) pc L S u b c := by
  obtain ⟨hx, hb, hml, hown, hts, hA, hAm, hnm, hfr, hlo, hmc, hms, hcl, hxs⟩ := cx
  subst hnx
  unfold ao_putZ at hF
  split at hF
  · rename_i x a S
    split at hF
    · rename_i t' n rs hu
      split at hF
      · rename_i hq
        obtain ⟨rfl, hq⟩ := hq
        obtain ⟨hz, hF⟩ := hF
        obtain ⟨hcw, ty, hty, hnms, hrf⟩ := hcl i _ hc
        intro ad H locs cells slots ls hl hR
        obtain ⟨hP, hD, hS, hRr⟩ := hR
        have he := am_wl_at (kA := kA) (ft := ft) (ad := ad) hu
        have hd : parseFieldDescriptor (T j).2.2.1 = some .boolean := hfd
        have hn2 := am_nar_z hz
        have hset : (am_wl kA ft ad u).set a (ad a, .inr (i, ((List.range n).map (am_fl ft ad (u.2 a) rs i)).set j (.int x))) = am_wl kA ft ad (u.1, am_up u.2 a j x) := by
          rw [am_fl_setI hft]
          exact am_wl_seti hu (upd (u.2 a) j x)
        have hln : n0 ≤ u.1.length ∧ u.1.length ≤ am_sb := ⟨hRr.2.2.1, hRr.2.2.2.1⟩
        have kk : ∀ (H1 : Heap) (locs1 : List Loc), va_P D cl ((am_wl kA ft ad u).set a (ad a, .inr (i, ((List.range n).map (am_fl ft ad (u.2 a) rs i)).set j (.int x)))) H1 → va_D A ((am_wl kA ft ad u).set a (ad a, .inr (i, ((List.range n).map (am_fl ft ad (u.2 a) rs i)).set j (.int x)))) → va_S A s.heap H1 locs1 → W p l e R s m args below meth c0 H1 locs1 cells slots Qs (F0 m (pc + 3) ls (S.map (am_cv ad))) := by
          intro H1 locs1 hP1 hD1 hS1
          rw [hset] at hP1 hD1
          exact hF ad H1 locs1 cells slots ls hl ⟨hP1, hD1, hS1, hRr.1, hRr.2.1, hln.1, hln.2, hRr.2.2.2.2⟩
        have hll : j < ((List.range n).map (am_fl ft ad (u.2 a) rs i)).length := by simpa using hq
        rcases hfn with hfin | ⟨hfin, hin, hdc⟩
        · exact va_put (D := D) (ci := i) (v := .int x) (C := C) (T := T) (N := N) hx hb hts hcw ty hty hnms hown hAm.1 hP hD hS a he hc j hjN (hts _ hk) (fun _ h9 => h9) hfin hd hn2.1 hn2.2 hll hdg kk
        · exact va_putF (D := D) (ci := i) (v := .int x) (C := C) (T := T) (N := N) hx hb hts hcw ty hty hnms hown hAm.1 hP hD hS a he hc j hjN (hts _ hk) (fun _ h9 => h9) hfin (hnm.trans hin) hdc hd hn2.1 hn2.2 hll hdg kk
      · exact hF.elim
    · exact hF.elim
  · exact hF.elim
theorem as_putR (cx : am_Cx p R s m args meth c0 D cl kA ft A ad0 mc ms nL cc own Ts nw nm sc ns sn sv lg xl xs) (C : String) (T : u_T) (N : Nat) (hc : cl[i]? = some (C, T, N)) (hjN : j < N) (hk : Cond.fieldLink own z.toNat (T j).1 (T j).2.1 (T j).2.2.1 ∈ Ts) (hft : ft i j = true) (hfn : (T j).2.2.2 = false ∨ ((T j).2.2.2 = true ∧ nm = "<init>" ∧ (T j).1 = own)) (hdg : decode cc pc = .ok (.putfield z.toNat, 3)) (hnx : nx = pc + 3) (hF : ao_putR i j nx (am_Xs p l e R s m args below meth c0 Qs D cl kA ft A ad0 n0 mc ms nL) L S u b c) : (am_Xs p l e R s m args below meth c0 Qs D cl kA ft A ad0 n0 mc ms nL) pc L S u b c := by
  obtain ⟨hx, hb, hml, hown, hts, hA, hAm, hnm, hfr, hlo, hmc, hms, hcl, hxs⟩ := cx
  subst hnx
  unfold ao_putR at hF
  split at hF
  · rename_i v a S
    split at hF
    · rename_i t' n rs hu
      split at hF
      · rename_i hq
        obtain ⟨rfl, hq⟩ := hq
        obtain ⟨hcw, ty, hty, hnms, hrf⟩ := hcl i _ hc
        intro ad H locs cells slots ls hl hR
        obtain ⟨hP, hD, hS, hRr⟩ := hR
        have he := am_wl_at (kA := kA) (ft := ft) (ad := ad) hu
        have hd : parseFieldDescriptor (T j).2.2.1 = some (ty j) := hty j hjN
        have hn2 : narrow (ty j) (.ref (ad v)) = .ref (ad v) ∧ fits (ty j) (.ref (ad v)) = true := by
          rcases (hrf j hjN).1 hft with ⟨C9, e9⟩ | ⟨f9, e9⟩ <;> rw [e9] <;> exact ⟨rfl, rfl⟩
        have hset : (am_wl kA ft ad u).set a (ad a, .inr (i, ((List.range n).map (am_fl ft ad (u.2 a) rs i)).set j (.ref (ad v)))) = am_wl kA ft ad (u.1.set a (i + 3, n, rs.set j (some v)), u.2) := by
          rw [am_fl_setR hft hq.2]
          have := am_wl_set (kA := kA) (ft := ft) (ad := ad) (u := u) (q := a) (i + 3, n, rs.set j (some v)) (u.2 a)
          rw [show am_cp u.2 a (u.2 a) = u.2 from funext fun q => by by_cases h : q = a <;> simp [am_cp, h]] at this
          exact this
        have hln : n0 ≤ (u.1.set a (i + 3, n, rs.set j (some v))).length ∧ (u.1.set a (i + 3, n, rs.set j (some v))).length ≤ am_sb := by rw [List.length_set]; exact ⟨hRr.2.2.1, hRr.2.2.2.1⟩
        have kk : ∀ (H1 : Heap) (locs1 : List Loc), va_P D cl ((am_wl kA ft ad u).set a (ad a, .inr (i, ((List.range n).map (am_fl ft ad (u.2 a) rs i)).set j (.ref (ad v))))) H1 → va_D A ((am_wl kA ft ad u).set a (ad a, .inr (i, ((List.range n).map (am_fl ft ad (u.2 a) rs i)).set j (.ref (ad v))))) → va_S A s.heap H1 locs1 → W p l e R s m args below meth c0 H1 locs1 cells slots Qs (F0 m (pc + 3) ls (S.map (am_cv ad))) := by
          intro H1 locs1 hP1 hD1 hS1
          rw [hset] at hP1 hD1
          exact hF ad H1 locs1 cells slots ls hl ⟨hP1, hD1, hS1, hRr.1, hRr.2.1, hln.1, hln.2, hRr.2.2.2.2⟩
        have hll : j < ((List.range n).map (am_fl ft ad (u.2 a) rs i)).length := by simpa using hq.1
        rcases hfn with hfin | ⟨hfin, hin, hdc⟩
        · exact va_put (D := D) (ci := i) (v := .ref (ad v)) (C := C) (T := T) (N := N) hx hb hts hcw ty hty hnms hown hAm.1 hP hD hS a he hc j hjN (hts _ hk) (fun _ h9 => h9) hfin hd hn2.1 hn2.2 hll hdg kk
        · exact va_putF (D := D) (ci := i) (v := .ref (ad v)) (C := C) (T := T) (N := N) hx hb hts hcw ty hty hnms hown hAm.1 hP hD hS a he hc j hjN (hts _ hk) (fun _ h9 => h9) hfin (hnm.trans hin) hdc hd hn2.1 hn2.2 hll hdg kk
      · exact hF.elim
    · exact hF.elim
  · exact hF.elim
theorem as_iald (cx : am_Cx p R s m args meth c0 D cl kA ft A ad0 mc ms nL cc own Ts nw nm sc ns sn sv lg xl xs) (hck : decode cc pc = .ok (.iaload, 1) ∧ nx = pc + 1) (hF : ao_ald 0 nx (am_Xs p l e R s m args below meth c0 Qs D cl kA ft A ad0 n0 mc ms nL) L S u b c) : (am_Xs p l e R s m args below meth c0 Qs D cl kA ft A ad0 n0 mc ms nL) pc L S u b c := by
  obtain ⟨hx, hb, hml, hown, hts, hA, hAm, hnm, hfr, hlo, hmc, hms, hcl, hxs⟩ := cx
  unfold ao_ald at hF
  split at hF
  · rename_i x a S
    obtain ⟨h1, rfl⟩ := hck
    obtain ⟨n, rs, hu, hin, hF⟩ := hF
    intro ad H locs cells slots ls hl hR
    exact va_iald hx hb hAm.1 hR.1 a 0 (am_wl_at (kA := kA) (ft := ft) (ad := ad) hu) rfl hin h1 (hF ad H locs cells slots ls hl hR)
  · exact hF.elim
theorem as_zald (cx : am_Cx p R s m args meth c0 D cl kA ft A ad0 mc ms nL cc own Ts nw nm sc ns sn sv lg xl xs) (hck : decode cc pc = .ok (.baload, 1) ∧ nx = pc + 1) (hF : ao_ald 1 nx (am_Xs p l e R s m args below meth c0 Qs D cl kA ft A ad0 n0 mc ms nL) L S u b c) : (am_Xs p l e R s m args below meth c0 Qs D cl kA ft A ad0 n0 mc ms nL) pc L S u b c := by
  obtain ⟨hx, hb, hml, hown, hts, hA, hAm, hnm, hfr, hlo, hmc, hms, hcl, hxs⟩ := cx
  unfold ao_ald at hF
  split at hF
  · rename_i x a S
    obtain ⟨h1, rfl⟩ := hck
    obtain ⟨n, rs, hu, hin, hF⟩ := hF
    intro ad H locs cells slots ls hl hR
    exact va_zald hx hb hAm.1 hR.1 a 1 (am_wl_at (kA := kA) (ft := ft) (ad := ad) hu) rfl hin h1 (hF ad H locs cells slots ls hl hR)
  · exact hF.elim
theorem as_aald (cx : am_Cx p R s m args meth c0 D cl kA ft A ad0 mc ms nL cc own Ts nw nm sc ns sn sv lg xl xs) (hck : decode cc pc = .ok (.aaload, 1) ∧ nx = pc + 1) (hF : ao_aald nx (am_Xs p l e R s m args below meth c0 Qs D cl kA ft A ad0 n0 mc ms nL) L S u b c) : (am_Xs p l e R s m args below meth c0 Qs D cl kA ft A ad0 n0 mc ms nL) pc L S u b c := by
  obtain ⟨hx, hb, hml, hown, hts, hA, hAm, hnm, hfr, hlo, hmc, hms, hcl, hxs⟩ := cx
  unfold ao_aald at hF
  split at hF
  · rename_i x a S
    obtain ⟨h1, rfl⟩ := hck
    obtain ⟨n, rs, a', hu, hin, ha, hF⟩ := hF
    intro ad H locs cells slots ls hl hR
    have h := hF ad H locs cells slots ls hl hR
    refine W.aald (v := va_rf ((am_rg rs x.toNatClampNeg).map ad)) (ty := .array .int) hx hb (hR.1 a _ (am_wl_at (kA := kA) (ft := ft) (ad := ad) hu)) ((hAm.1.2 2 (kA 2, .array .int) rfl).1 n (fun j => va_rf ((am_rg rs j).map ad))) rfl (fun q => by cases q) (by show ¬ (x < 0 ∨ (arrV _ _ _).slots.size ≤ _); rw [arrV_size]; exact hin) (by show (arrV _ _ _).slots[_]? = _; rw [arrV_read _ _ (Nat.not_le.mp fun q => hin (Or.inr q))]) rfl rfl h1 ?_
    rw [ha]
    exact h
  · exact hF.elim
theorem as_iast (cx : am_Cx p R s m args meth c0 D cl kA ft A ad0 mc ms nL cc own Ts nw nm sc ns sn sv lg xl xs) (hck : decode cc pc = .ok (.iastore, 1) ∧ nx = pc + 1) (hF : ao_iast nx (am_Xs p l e R s m args below meth c0 Qs D cl kA ft A ad0 n0 mc ms nL) L S u b c) : (am_Xs p l e R s m args below meth c0 Qs D cl kA ft A ad0 n0 mc ms nL) pc L S u b c := by
  obtain ⟨hx, hb, hml, hown, hts, hA, hAm, hnm, hfr, hlo, hmc, hms, hcl, hxs⟩ := cx
  unfold ao_iast at hF
  split at hF
  · rename_i v x a S
    obtain ⟨h1, rfl⟩ := hck
    obtain ⟨n, rs, hu, hin, hF⟩ := hF
    intro ad H locs cells slots ls hl hR
    obtain ⟨hP, hD, hS, hRr⟩ := hR
    refine va_iast hx hb hAm.1 hP hD hS a 0 (am_wl_at (kA := kA) (ft := ft) (ad := ad) hu) rfl hin h1 fun H1 locs1 hP1 hD1 hS1 => ?_
    have hset : (am_wl kA ft ad u).set a (ad a, .inl (kA 0, n, .inl (upd (u.2 a) x.toNatClampNeg v))) = am_wl kA ft ad (u.1, am_up u.2 a x.toNatClampNeg v) := am_wl_seti hu (upd (u.2 a) x.toNatClampNeg v)
    rw [hset] at hP1 hD1
    exact hF ad H1 locs1 cells slots ls hl ⟨hP1, hD1, hS1, hRr⟩
  · exact hF.elim
theorem as_zast (cx : am_Cx p R s m args meth c0 D cl kA ft A ad0 mc ms nL cc own Ts nw nm sc ns sn sv lg xl xs) (hck : decode cc pc = .ok (.bastore, 1) ∧ nx = pc + 1) (hF : ao_zast nx (am_Xs p l e R s m args below meth c0 Qs D cl kA ft A ad0 n0 mc ms nL) L S u b c) : (am_Xs p l e R s m args below meth c0 Qs D cl kA ft A ad0 n0 mc ms nL) pc L S u b c := by
  obtain ⟨hx, hb, hml, hown, hts, hA, hAm, hnm, hfr, hlo, hmc, hms, hcl, hxs⟩ := cx
  unfold ao_zast at hF
  split at hF
  · rename_i v x a S
    obtain ⟨h1, rfl⟩ := hck
    obtain ⟨n, rs, hu, hin, hF⟩ := hF
    intro ad H locs cells slots ls hl hR
    obtain ⟨hP, hD, hS, hRr⟩ := hR
    refine va_zast hx hb hAm.1 hP hD hS a 1 (am_wl_at (kA := kA) (ft := ft) (ad := ad) hu) rfl hin h1 fun H1 locs1 hP1 hD1 hS1 => ?_
    have hset : (am_wl kA ft ad u).set a (ad a, .inl (kA 1, n, .inl (upd (u.2 a) x.toNatClampNeg (vp_nar .boolean v)))) = am_wl kA ft ad (u.1, am_up u.2 a x.toNatClampNeg (vp_nar .boolean v)) := am_wl_seti hu (upd (u.2 a) x.toNatClampNeg (vp_nar .boolean v))
    rw [hset] at hP1 hD1
    exact hF ad H1 locs1 cells slots ls hl ⟨hP1, hD1, hS1, hRr⟩
  · exact hF.elim
theorem as_alen (cx : am_Cx p R s m args meth c0 D cl kA ft A ad0 mc ms nL cc own Ts nw nm sc ns sn sv lg xl xs) (hck : decode cc pc = .ok (.arraylength, 1) ∧ nx = pc + 1) (hF : ao_alen nx (am_Xs p l e R s m args below meth c0 Qs D cl kA ft A ad0 n0 mc ms nL) L S u b c) : (am_Xs p l e R s m args below meth c0 Qs D cl kA ft A ad0 n0 mc ms nL) pc L S u b c := by
  obtain ⟨hx, hb, hml, hown, hts, hA, hAm, hnm, hfr, hlo, hmc, hms, hcl, hxs⟩ := cx
  unfold ao_alen at hF
  split at hF
  · rename_i a S
    obtain ⟨h1, rfl⟩ := hck
    obtain ⟨t, n, rs, hu, ht, hF⟩ := hF
    intro ad H locs cells slots ls hl hR
    have he := am_wl_at (kA := kA) (ft := ft) (ad := ad) hu
    have h := hF ad H locs cells slots ls hl hR
    match t, ht, he with
    | 0, _, he => exact va_alen hx hb hAm.1 hR.1 a 0 he rfl rfl h1 h
    | 1, _, he => exact va_alen hx hb hAm.1 hR.1 a 1 he rfl rfl h1 h
    | 2, _, he => exact va_alen hx hb hAm.1 hR.1 a 2 he rfl rfl h1 h
  · exact hF.elim
theorem as_dup (cx : am_Cx p R s m args meth c0 D cl kA ft A ad0 mc ms nL cc own Ts nw nm sc ns sn sv lg xl xs) (hck : decode cc pc = .ok (.dup, 1) ∧ nx = pc + 1) (hF : ao_dup nx (am_Xs p l e R s m args below meth c0 Qs D cl kA ft A ad0 n0 mc ms nL) L S u b c) : (am_Xs p l e R s m args below meth c0 Qs D cl kA ft A ad0 n0 mc ms nL) pc L S u b c := by
  obtain ⟨hx, hb, hml, hown, hts, hA, hAm, hnm, hfr, hlo, hmc, hms, hcl, hxs⟩ := cx
  unfold ao_dup at hF
  split at hF
  · split at hF
    · rename_i hv
      intro ad H locs cells slots ls hl hR
      obtain ⟨h1, rfl⟩ := hck
      exact lv_dup hx hb h1 (by rw [am_cv_cat]; exact hv) (hF ad H locs cells slots ls hl hR)
    · exact hF.elim
  · exact hF.elim
theorem as_pop (cx : am_Cx p R s m args meth c0 D cl kA ft A ad0 mc ms nL cc own Ts nw nm sc ns sn sv lg xl xs) (hck : decode cc pc = .ok (.pop, 1) ∧ nx = pc + 1) (hF : ao_pop nx (am_Xs p l e R s m args below meth c0 Qs D cl kA ft A ad0 n0 mc ms nL) L S u b c) : (am_Xs p l e R s m args below meth c0 Qs D cl kA ft A ad0 n0 mc ms nL) pc L S u b c := by
  obtain ⟨hx, hb, hml, hown, hts, hA, hAm, hnm, hfr, hlo, hmc, hms, hcl, hxs⟩ := cx
  unfold ao_pop at hF
  split at hF
  · split at hF
    · rename_i hv
      intro ad H locs cells slots ls hl hR
      obtain ⟨h1, rfl⟩ := hck
      exact lv_pop hx hb h1 (by rw [am_cv_cat]; exact hv) (hF ad H locs cells slots ls hl hR)
    · exact hF.elim
  · exact hF.elim
theorem as_dupx1 (cx : am_Cx p R s m args meth c0 D cl kA ft A ad0 mc ms nL cc own Ts nw nm sc ns sn sv lg xl xs) (hck : decode cc pc = .ok (.dup_x1, 1) ∧ nx = pc + 1) (hF : ao_dupx1 nx (am_Xs p l e R s m args below meth c0 Qs D cl kA ft A ad0 n0 mc ms nL) L S u b c) : (am_Xs p l e R s m args below meth c0 Qs D cl kA ft A ad0 n0 mc ms nL) pc L S u b c := by
  obtain ⟨hx, hb, hml, hown, hts, hA, hAm, hnm, hfr, hlo, hmc, hms, hcl, hxs⟩ := cx
  unfold ao_dupx1 at hF
  split at hF
  · split at hF
    · rename_i hv
      intro ad H locs cells slots ls hl hR
      obtain ⟨h1, rfl⟩ := hck
      exact lv_dup_x1 hx hb h1 (by rw [am_cv_cat]; exact hv.1) (by rw [am_cv_cat]; exact hv.2) (hF ad H locs cells slots ls hl hR)
    · exact hF.elim
  · exact hF.elim
theorem as_dup2 (cx : am_Cx p R s m args meth c0 D cl kA ft A ad0 mc ms nL cc own Ts nw nm sc ns sn sv lg xl xs) (hck : decode cc pc = .ok (.dup2, 1) ∧ nx = pc + 1) (hF : ao_dup2 nx (am_Xs p l e R s m args below meth c0 Qs D cl kA ft A ad0 n0 mc ms nL) L S u b c) : (am_Xs p l e R s m args below meth c0 Qs D cl kA ft A ad0 n0 mc ms nL) pc L S u b c := by
  obtain ⟨hx, hb, hml, hown, hts, hA, hAm, hnm, hfr, hlo, hmc, hms, hcl, hxs⟩ := cx
  unfold ao_dup2 at hF
  split at hF
  · split at hF
    · rename_i hv
      intro ad H locs cells slots ls hl hR
      obtain ⟨h1, rfl⟩ := hck
      exact lv_dup2_11 hx hb h1 (by rw [am_cv_cat]; exact hv.1) (by rw [am_cv_cat]; exact hv.2) (hF ad H locs cells slots ls hl hR)
    · exact hF.elim
  · exact hF.elim
theorem as_gets (cx : am_Cx p R s m args meth c0 D cl kA ft A ad0 mc ms nL cc own Ts nw nm sc ns sn sv lg xl xs) (hi : i < ns) (hk : Cond.fieldLink own z.toNat (sc i).1 (sc i).2 "[I" ∈ Ts) (hck : decode cc pc = .ok (.getstatic z.toNat, 3) ∧ nx = pc + 3) (hF : ao_push (.ref (am_sb + i)) nx (am_Xs p l e R s m args below meth c0 Qs D cl kA ft A ad0 n0 mc ms nL) L S u b c) : (am_Xs p l e R s m args below meth c0 Qs D cl kA ft A ad0 n0 mc ms nL) pc L S u b c := by
  obtain ⟨hx, hb, hml, hown, hts, hA, hAm, hnm, hfr, hlo, hmc, hms, hcl, hxs⟩ := cx
  intro ad H locs cells slots ls hl hR
  obtain ⟨h1, rfl⟩ := hck
  have h := hF ad H locs cells slots ls hl hR
  have ha : ad (am_sb + i) = ad0 (am_sb + i) := hR.2.2.2.2.2.2.2.1 _ (Or.inr (Nat.le_add_right _ _))
  have h2 : W p l e R s m args below meth c0 H locs cells slots Qs (F0 m (pc + 3) ls (.ref (ad0 (am_sb + i)) :: S.map (am_cv ad))) := by rw [← ha]; exact h
  exact va_gets hx hb (hAm.2.2.2 i hi).1 hR.2.2.1 hown (hts _ hk) (fun _ h9 => h9) h1 h2
theorem as_sld (cx : am_Cx p R s m args meth c0 D cl kA ft A ad0 mc ms nL cc own Ts nw nm sc ns sn sv lg xl xs) (hck : decode cc pc = .ok (.iaload, 1) ∧ nx = pc + 1) (hF : ao_sld sn sv ns nx (am_Xs p l e R s m args below meth c0 Qs D cl kA ft A ad0 n0 mc ms nL) L S u b c) : (am_Xs p l e R s m args below meth c0 Qs D cl kA ft A ad0 n0 mc ms nL) pc L S u b c := by
  obtain ⟨hx, hb, hml, hown, hts, hA, hAm, hnm, hfr, hlo, hmc, hms, hcl, hxs⟩ := cx
  unfold ao_sld at hF
  split at hF
  · rename_i x a S
    obtain ⟨h1, rfl⟩ := hck
    obtain ⟨k, rfl, hk, hin, hF⟩ := hF
    intro ad H locs cells slots ls hl hR
    have ha : ad (am_sb + k) = ad0 (am_sb + k) := hR.2.2.2.2.2.2.2.1 _ (Or.inr (Nat.le_add_right _ _))
    show W p l e R s m args below meth c0 H locs cells slots Qs (F0 m pc ls (.int x :: .ref (ad (am_sb + k)) :: S.map (am_cv ad)))
    rw [ha]
    exact va_ti hx hb (hAm.2.2.2 k hk).2 hR.2.2.1 hin rfl h1 (hF ad H locs cells slots ls hl hR)
  · exact hF.elim
theorem as_slen (cx : am_Cx p R s m args meth c0 D cl kA ft A ad0 mc ms nL cc own Ts nw nm sc ns sn sv lg xl xs) (hck : decode cc pc = .ok (.arraylength, 1) ∧ nx = pc + 1) (hF : ao_slen sn ns nx (am_Xs p l e R s m args below meth c0 Qs D cl kA ft A ad0 n0 mc ms nL) L S u b c) : (am_Xs p l e R s m args below meth c0 Qs D cl kA ft A ad0 n0 mc ms nL) pc L S u b c := by
  obtain ⟨hx, hb, hml, hown, hts, hA, hAm, hnm, hfr, hlo, hmc, hms, hcl, hxs⟩ := cx
  unfold ao_slen at hF
  split at hF
  · rename_i a S
    obtain ⟨h1, rfl⟩ := hck
    obtain ⟨k, rfl, hk, hF⟩ := hF
    intro ad H locs cells slots ls hl hR
    have ha : ad (am_sb + k) = ad0 (am_sb + k) := hR.2.2.2.2.2.2.2.1 _ (Or.inr (Nat.le_add_right _ _))
    show W p l e R s m args below meth c0 H locs cells slots Qs (F0 m pc ls (.ref (ad (am_sb + k)) :: S.map (am_cv ad)))
    rw [ha]
    exact va_tlen hx hb (hAm.2.2.2 k hk).2 hR.2.2.1 rfl h1 (hF ad H locs cells slots ls hl hR)
  · exact hF.elim
theorem as_xld (cx : am_Cx p R s m args meth c0 D cl kA ft A ad0 mc ms nL cc own Ts nw nm sc ns sn sv lg xl xs) (hlg : lg = true) (hck : decode cc pc = .ok (.iaload, 1) ∧ nx = pc + 1) (hF : ao_xld xl xs nx (am_Xs p l e R s m args below meth c0 Qs D cl kA ft A ad0 n0 mc ms nL) L S u b c) : (am_Xs p l e R s m args below meth c0 Qs D cl kA ft A ad0 n0 mc ms nL) pc L S u b c := by
  obtain ⟨hx, hb, hml, hown, hts, hA, hAm, hnm, hfr, hlo, hmc, hms, hcl, hxs⟩ := cx
  unfold ao_xld at hF
  split at hF
  · rename_i x a S
    obtain ⟨h1, rfl⟩ := hck
    obtain ⟨rfl, hin, hF⟩ := hF
    intro ad H locs cells slots ls hl hR
    obtain ⟨hX, hbl, hbA⟩ := hxs hlg
    have ha : ad am_xb = ad0 am_xb := hR.2.2.2.2.2.2.2.1 _ (Or.inr (by decide))
    show W p l e R s m args below meth c0 H locs cells slots Qs (F0 m pc ls (.int x :: .ref (ad am_xb) :: S.map (am_cv ad)))
    rw [ha]
    exact va_sld hx hb hX hbl hbA hR.2.2.1 hin h1 (hF ad H locs cells slots ls hl hR)
  · exact hF.elim
theorem as_xlen (cx : am_Cx p R s m args meth c0 D cl kA ft A ad0 mc ms nL cc own Ts nw nm sc ns sn sv lg xl xs) (hlg : lg = true) (hck : decode cc pc = .ok (.arraylength, 1) ∧ nx = pc + 1) (hF : ao_xlen xl nx (am_Xs p l e R s m args below meth c0 Qs D cl kA ft A ad0 n0 mc ms nL) L S u b c) : (am_Xs p l e R s m args below meth c0 Qs D cl kA ft A ad0 n0 mc ms nL) pc L S u b c := by
  obtain ⟨hx, hb, hml, hown, hts, hA, hAm, hnm, hfr, hlo, hmc, hms, hcl, hxs⟩ := cx
  unfold ao_xlen at hF
  split at hF
  · rename_i a S
    obtain ⟨h1, rfl⟩ := hck
    obtain ⟨rfl, hF⟩ := hF
    intro ad H locs cells slots ls hl hR
    obtain ⟨hX, hbl, hbA⟩ := hxs hlg
    have ha : ad am_xb = ad0 am_xb := hR.2.2.2.2.2.2.2.1 _ (Or.inr (by decide))
    show W p l e R s m args below meth c0 H locs cells slots Qs (F0 m pc ls (.ref (ad am_xb) :: S.map (am_cv ad)))
    rw [ha]
    exact va_slen hx hb hX hbl hbA hR.2.2.1 h1 (hF ad H locs cells slots ls hl hR)
  · exact hF.elim
theorem am_h8_of {S : List Value} (ad : Nat → Nat) (h : am_h8 S = true) : ((S.map (am_cv ad)).map fun v => v.category).sum ≤ 8 := by
  rw [am_cv_sum]
  exact Nat.le_of_ble_eq_true h
theorem as_max (cx : am_Cx p R s m args meth c0 D cl kA ft A ad0 mc ms nL cc own Ts nw nm sc ns sn sv lg xl xs) (w1 : Cond.methodLink own z.toNat Lib.Math.max.name ∈ Ts) (w2 : Cond.static Lib.Math.max.name ∈ Ts) (w3 : Cond.initialized "java/lang/Math" ∈ Ts) (w4 : Cond.code Lib.Math.max.name Lib.Math.max.code 2 (some .int) ∈ Ts) (hck : decode cc pc = .ok (.invokestatic z.toNat, 3) ∧ nx = pc + 3) (hF : ao_math2 (fun x y => if x < y then y else x) nx (am_Xs p l e R s m args below meth c0 Qs D cl kA ft A ad0 n0 mc ms nL) L S u b c) : (am_Xs p l e R s m args below meth c0 Qs D cl kA ft A ad0 n0 mc ms nL) pc L S u b c := by
  obtain ⟨hx, hb, hml, hown, hts, hA, hAm, hnm, hfr, hlo, hmc, hms, hcl, hxs⟩ := cx
  unfold ao_math2 at hF
  split at hF
  · rename_i y x S
    split at hF
    · rename_i h8
      intro ad H locs cells slots ls hl hR
      obtain ⟨h1, rfl⟩ := hck
      have h9 := am_h8_of ad h8
      exact va_mmax hx hb (hml.trans hl.1.symm) hown (hts _ w1) (hts _ w2) (hts _ w3) (hts _ w4) hfr (by omega) (by have := hR.2.2.2.1; omega) (by have := hR.2.2.2.2.1; omega) h1 (hF ad H locs cells slots ls hl hR)
    · exact hF.elim
  · exact hF.elim
theorem as_min (cx : am_Cx p R s m args meth c0 D cl kA ft A ad0 mc ms nL cc own Ts nw nm sc ns sn sv lg xl xs) (w1 : Cond.methodLink own z.toNat Lib.Math.min.name ∈ Ts) (w2 : Cond.static Lib.Math.min.name ∈ Ts) (w3 : Cond.initialized "java/lang/Math" ∈ Ts) (w4 : Cond.code Lib.Math.min.name Lib.Math.min.code 2 (some .int) ∈ Ts) (hck : decode cc pc = .ok (.invokestatic z.toNat, 3) ∧ nx = pc + 3) (hF : ao_math2 (fun x y => if y < x then y else x) nx (am_Xs p l e R s m args below meth c0 Qs D cl kA ft A ad0 n0 mc ms nL) L S u b c) : (am_Xs p l e R s m args below meth c0 Qs D cl kA ft A ad0 n0 mc ms nL) pc L S u b c := by
  obtain ⟨hx, hb, hml, hown, hts, hA, hAm, hnm, hfr, hlo, hmc, hms, hcl, hxs⟩ := cx
  unfold ao_math2 at hF
  split at hF
  · rename_i y x S
    split at hF
    · rename_i h8
      intro ad H locs cells slots ls hl hR
      obtain ⟨h1, rfl⟩ := hck
      have h9 := am_h8_of ad h8
      exact va_mmin hx hb (hml.trans hl.1.symm) hown (hts _ w1) (hts _ w2) (hts _ w3) (hts _ w4) hfr (by omega) (by have := hR.2.2.2.1; omega) (by have := hR.2.2.2.2.1; omega) h1 (hF ad H locs cells slots ls hl hR)
    · exact hF.elim
  · exact hF.elim
theorem as_abs (cx : am_Cx p R s m args meth c0 D cl kA ft A ad0 mc ms nL cc own Ts nw nm sc ns sn sv lg xl xs) (w1 : Cond.methodLink own z.toNat Lib.Math.abs.name ∈ Ts) (w2 : Cond.static Lib.Math.abs.name ∈ Ts) (w3 : Cond.initialized "java/lang/Math" ∈ Ts) (w4 : Cond.code Lib.Math.abs.name Lib.Math.abs.code 1 (some .int) ∈ Ts) (hck : decode cc pc = .ok (.invokestatic z.toNat, 3) ∧ nx = pc + 3) (hF : ao_math1 (fun x => if 0 ≤ x then x else 0 - x) nx (am_Xs p l e R s m args below meth c0 Qs D cl kA ft A ad0 n0 mc ms nL) L S u b c) : (am_Xs p l e R s m args below meth c0 Qs D cl kA ft A ad0 n0 mc ms nL) pc L S u b c := by
  obtain ⟨hx, hb, hml, hown, hts, hA, hAm, hnm, hfr, hlo, hmc, hms, hcl, hxs⟩ := cx
  unfold ao_math1 at hF
  split at hF
  · rename_i x S
    split at hF
    · rename_i h8
      intro ad H locs cells slots ls hl hR
      obtain ⟨h1, rfl⟩ := hck
      have h9 := am_h8_of ad h8
      exact va_mabs hx hb (hml.trans hl.1.symm) hown (hts _ w1) (hts _ w2) (hts _ w3) (hts _ w4) hfr (by omega) (by have := hR.2.2.2.1; omega) (by have := hR.2.2.2.2.1; omega) h1 (hF ad H locs cells slots ls hl hR)
    · exact hF.elim
  · exact hF.elim
theorem as_minl (cx : am_Cx p R s m args meth c0 D cl kA ft A ad0 mc ms nL cc own Ts nw nm sc ns sn sv lg xl xs) (w1 : Cond.methodLink own z.toNat Lib.MathLoose.min_long.x ∈ Ts) (w2 : Cond.static Lib.MathLoose.min_long.x ∈ Ts) (w3 : Cond.initialized "java/lang/Math" ∈ Ts) (w4 : Cond.code Lib.MathLoose.min_long.x Lib.MathLoose.min_long.code 4 (some .long) ∈ Ts) (hck : decode cc pc = .ok (.invokestatic z.toNat, 3) ∧ nx = pc + 3) (hF : ao_math2l (fun x y => if y < x then y else x) nx (am_Xs p l e R s m args below meth c0 Qs D cl kA ft A ad0 n0 mc ms nL) L S u b c) : (am_Xs p l e R s m args below meth c0 Qs D cl kA ft A ad0 n0 mc ms nL) pc L S u b c := by
  obtain ⟨hx, hb, hml, hown, hts, hA, hAm, hnm, hfr, hlo, hmc, hms, hcl, hxs⟩ := cx
  unfold ao_math2l at hF
  split at hF
  · rename_i y x S
    split at hF
    · rename_i h8
      intro ad H locs cells slots ls hl hR
      obtain ⟨h1, rfl⟩ := hck
      have h9 := am_h8_of ad h8
      exact va_mmin_long hx hb (hml.trans hl.1.symm) hown (hts _ w1) (hts _ w2) (hts _ w3) (hts _ w4) hfr (by omega) (by have := hR.2.2.2.1; omega) (by have := hR.2.2.2.2.1; omega) h1 (hF ad H locs cells slots ls hl hR)
    · exact hF.elim
  · exact hF.elim
theorem as_copy (cx : am_Cx p R s m args meth c0 D cl kA ft A ad0 mc ms nL cc own Ts nw nm sc ns sn sv lg xl xs) (w1 : Cond.methodLink own z.toNat arraycopyName ∈ Ts) (w2 : Cond.native arraycopyName ∈ Ts) (w3 : Cond.static arraycopyName ∈ Ts) (w4 : Cond.initialized "java/lang/System" ∈ Ts) (hck : decode cc pc = .ok (.invokestatic z.toNat, 3) ∧ nx = pc + 3) (hF : ao_copy nx (am_Xs p l e R s m args below meth c0 Qs D cl kA ft A ad0 n0 mc ms nL) L S u b c) : (am_Xs p l e R s m args below meth c0 Qs D cl kA ft A ad0 n0 mc ms nL) pc L S u b c := by
  obtain ⟨hx, hb, hml, hown, hts, hA, hAm, hnm, hfr, hlo, hmc, hms, hcl, hxs⟩ := cx
  unfold ao_copy at hF
  split at hF
  · rename_i n dp a1 sp a0 S
    obtain ⟨h1, rfl⟩ := hck
    obtain ⟨h8, n0', r0, n1, r1, hu0, hu1, g1, g2, g3, g4, g5, hF⟩ := hF
    intro ad H locs cells slots ls hl hR
    have h9 := am_h8_of ad h8
    obtain ⟨hP, hD, hS, hRr⟩ := hR
    have hfw : nativeFrameWords "java/lang/System" "arraycopy" 5 + 11 ≤ 32 := by decide
    refine va_copyi (rest := S.map (am_cv ad)) hx hb (hml.trans hl.1.symm) hown (hts _ w1) (hts _ w2) (hts _ w3) (hts _ w4) hAm.1 hP hD hS a0 a1 0 0 (am_wl_at (kA := kA) (ft := ft) (ad := ad) hu0) (am_wl_at (kA := kA) (ft := ft) (ad := ad) hu1) rfl rfl rfl g1 g2 g3 g4 g5 (fun _ _ => rfl) hfr (by omega) h1 fun H1 locs1 hP1 hD1 hS1 => ?_
    have hset : (am_wl kA ft ad u).set a1 (ad a1, .inl (kA 0, n1, .inl (va_cpy (u.2 a0) (u.2 a1) sp.toNatClampNeg dp.toNatClampNeg n.toNatClampNeg))) = am_wl kA ft ad (u.1, am_cp u.2 a1 (va_cpy (u.2 a0) (u.2 a1) sp.toNatClampNeg dp.toNatClampNeg n.toNatClampNeg)) := am_wl_seti hu1 _
    rw [hset] at hP1 hD1
    exact hF ad H1 locs1 cells slots ls hl ⟨hP1, hD1, hS1, hRr⟩
  · exact hF.elim
theorem as_oini (cx : am_Cx p R s m args meth c0 D cl kA ft A ad0 mc ms nL cc own Ts nw nm sc ns sn sv lg xl xs) (w1 : Cond.methodLink own z.toNat Lib.objectInit ∈ Ts) (w2 : Cond.instanceMethod Lib.objectInit ∈ Ts) (w3 : Cond.code Lib.objectInit ⟨#[0xb1]⟩ 1 none ∈ Ts) (hck : decode cc pc = .ok (.invokespecial z.toNat, 3) ∧ nx = pc + 3) (hF : ao_oini nx (am_Xs p l e R s m args below meth c0 Qs D cl kA ft A ad0 n0 mc ms nL) L S u b c) : (am_Xs p l e R s m args below meth c0 Qs D cl kA ft A ad0 n0 mc ms nL) pc L S u b c := by
  obtain ⟨hx, hb, hml, hown, hts, hA, hAm, hnm, hfr, hlo, hmc, hms, hcl, hxs⟩ := cx
  unfold ao_oini at hF
  split at hF
  · rename_i a S
    split at hF
    · rename_i h8
      intro ad H locs cells slots ls hl hR
      obtain ⟨h1, rfl⟩ := hck
      have h9 := am_h8_of ad h8
      exact W.objInit hx hb hown (hts _ w1) (hts _ w2) (hts _ w3) rfl (by rw [hml]; exact hl.1) rfl h1 hfr (by have := lv_room (m := m) (pc := pc) (ls := ls) (rest := S.map (am_cv ad)) h9; have e0 : (F0 m pc ls (Value.ref (ad a) :: S.map (am_cv ad))).monitorRoom = (F0 m pc ls (S.map (am_cv ad))).monitorRoom := rfl; show 2 * (F0 m pc ls (Value.ref (ad a) :: S.map (am_cv ad))).monitorRoom + _ + 12 ≤ _; omega) (hF ad H locs cells slots ls hl hR)
    · exact hF.elim
  · exact hF.elim
theorem as_switch (cx : am_Cx p R s m args meth c0 D cl kA ft A ad0 mc ms nL cc own Ts nw nm sc ns sn sv lg xl xs) (f : Int32 → Nat) (dflt lo hi : Int) (offs : Array Int) (len : Nat) (hdg : decode cc pc = .ok (.tableswitch dflt lo hi offs, len)) (hf1 : ∀ x : Int32, (x.toInt < lo ∨ hi < x.toInt) → (pc : Int) + dflt = (f x : Int)) (hf2 : ∀ x : Int32, ¬ x.toInt < lo → ¬ hi < x.toInt → ∃ off, offs[(x.toInt - lo).toNat]? = some off ∧ (pc : Int) + off = (f x : Int)) (hF : ao_switch f (am_Xs p l e R s m args below meth c0 Qs D cl kA ft A ad0 n0 mc ms nL) L S u b c) : (am_Xs p l e R s m args below meth c0 Qs D cl kA ft A ad0 n0 mc ms nL) pc L S u b c := by
  obtain ⟨hx, hb, hml, hown, hts, hA, hAm, hnm, hfr, hlo, hmc, hms, hcl, hxs⟩ := cx
  unfold ao_switch at hF
  split at hF
  · rename_i x S
    intro ad H locs cells slots ls hl hR
    have h := hF ad H locs cells slots ls hl hR
    by_cases g1 : x.toInt < lo
    · exact lv_tableOut hx hb hdg (Or.inl g1) (hf1 x (Or.inl g1)) h
    · by_cases g2 : hi < x.toInt
      · exact lv_tableOut hx hb hdg (Or.inr g2) (hf1 x (Or.inr g2)) h
      · obtain ⟨off, h1, h2⟩ := hf2 x g1 g2
        exact lv_tableIn hx hb hdg g1 g2 h1 h2 h
  · exact hF.elim
end SIM
end
section
/-! NEW CELLS, CALLS, ENDS -/
theorem am_cv_ag {ad ad' : Nat → Nat} {n : Nat} (hag : ∀ a, am_vr n a = true → ad' a = ad a) {v : Value} (h : am_vv n v = true) : am_cv ad' v = am_cv ad v := by
  cases v <;> first | rfl | exact congrArg Value.ref (hag _ h)
theorem am_S_ag {ad ad' : Nat → Nat} {n : Nat} (hag : ∀ a, am_vr n a = true → ad' a = ad a) {S : List Value} (h : S.all (am_vv n) = true) : S.map (am_cv ad') = S.map (am_cv ad) :=
  List.map_congr_left fun v hv => am_cv_ag hag (List.all_eq_true.mp h v hv)
theorem am_kn_ag {ad ad' : Nat → Nat} {n : Nat} (hag : ∀ a, am_vr n a = true → ad' a = ad a) {L : List (Option Value)} (h : L.all (am_vo n) = true) : am_kn ad' L = am_kn ad L := by
  unfold am_kn
  refine congrArg (fun f => List.filterMap f (List.range L.length)) (funext fun i => ?_)
  cases hv : am_ld L i with
  | none => rfl
  | some v =>
    have hm : (some v) ∈ L := by
      unfold am_ld at hv
      cases ho : L[i]? with
      | none => rw [ho] at hv; cases hv
      | some w =>
        rw [ho] at hv
        have : w = some v := hv
        subst this
        exact List.mem_of_getElem? ho
    have := List.all_eq_true.mp h _ hm
    simp only [Option.map_some]
    rw [am_cv_ag hag this]
theorem am_rg_ag {ad ad' : Nat → Nat} {n : Nat} (hag : ∀ a, am_vr n a = true → ad' a = ad a) {rs : List (Option Nat)} (h : rs.all (am_vn n) = true) (j : Nat) : (am_rg rs j).map ad' = (am_rg rs j).map ad := by
  cases hv : am_rg rs j with
  | none => rfl
  | some a =>
    have hm : (some a) ∈ rs := by
      unfold am_rg at hv
      cases ho : rs[j]? with
      | none => rw [ho] at hv; cases hv
      | some w =>
        rw [ho] at hv
        have : w = some a := hv
        subst this
        exact List.mem_of_getElem? ho
    have h2 := List.all_eq_true.mp h _ hm
    simp only [Option.map_some]
    rw [hag a (by unfold am_vr; rw [show Nat.blt a n = true from h2]; rfl)]
theorem am_en_ag {kA : Nat → ClassId} {ft : Nat → Nat → Bool} {ad ad' : Nat → Nat} {n : Nat} (hag : ∀ a, am_vr n a = true → ad' a = ad a) {f : Nat → Int32} {e : Nat × Nat × List (Option Nat)} (h : e.2.2.all (am_vn n) = true) : am_en kA ft ad' f e = am_en kA ft ad f e := by
  obtain ⟨t, k, rs⟩ := e
  match t with
  | 0 => rfl
  | 1 => rfl
  | 2 =>
    show (Sum.inl (kA 2, k, Sum.inr (Sum.inr (Sum.inr (Sum.inr (fun j => (am_rg rs j).map ad'))))) : va_E) = Sum.inl (kA 2, k, Sum.inr (Sum.inr (Sum.inr (Sum.inr (fun j => (am_rg rs j).map ad)))))
    rw [show (fun j => (am_rg rs j).map ad') = fun j => (am_rg rs j).map ad from funext fun j => am_rg_ag hag h j]
  | t + 3 =>
    show (Sum.inr (t, (List.range k).map (am_fl ft ad' f rs t)) : va_E) = Sum.inr (t, (List.range k).map (am_fl ft ad f rs t))
    rw [show am_fl ft ad' f rs t = am_fl ft ad f rs t from funext fun j => by unfold am_fl; rw [am_rg_ag hag h j]]
theorem am_wl_ag {kA : Nat → ClassId} {ft : Nat → Nat → Bool} {ad ad' : Nat → Nat} {u : am_St} (hag : ∀ a, am_vr u.1.length a = true → ad' a = ad a) (h : u.1.all (fun e => e.2.2.all (am_vn u.1.length)) = true) : am_wl kA ft ad' u = am_wl kA ft ad u := by
  unfold am_wl
  refine List.map_congr_left fun q hq => ?_
  have hl : q < u.1.length := List.mem_range.mp hq
  rw [List.getElem?_eq_getElem hl, Option.getD_some, am_en_ag hag (List.all_eq_true.mp h _ (List.getElem_mem hl)), hag q (by unfold am_vr; rw [show Nat.blt q u.1.length = true from Nat.le_of_lt_succ (Nat.succ_lt_succ hl) |> Nat.ble_eq_true_of_le]; rfl)]
theorem am_wl_app (kA : Nat → ClassId) (ft : Nat → Nat → Bool) (ad : Nat → Nat) (u : am_St) (es : am_Sh) : am_wl kA ft ad (u.1 ++ es, am_zr u.2 u.1.length es.length) = am_wl kA ft ad u ++ (List.range es.length).map fun q => (ad (u.1.length + q), am_en kA ft ad (fun _ => 0) ((es[q]?).getD (0, 0, []))) := by
  unfold am_wl
  rw [show (u.1 ++ es, am_zr u.2 u.1.length es.length).1.length = u.1.length + es.length from List.length_append, List.range_add, List.map_append, List.map_map]
  congr 1
  · refine List.map_congr_left fun q hq => ?_
    have hl : q < u.1.length := List.mem_range.mp hq
    show (ad q, am_en kA ft ad (am_zr u.2 u.1.length es.length q) (((u.1 ++ es)[q]?).getD (0, 0, []))) = _
    rw [List.getElem?_append_left hl]
    simp [am_zr, show ¬ u.1.length ≤ q by omega]
  · refine List.map_congr_left fun q hq => ?_
    have hl : q < es.length := List.mem_range.mp hq
    show (ad (u.1.length + q), am_en kA ft ad (am_zr u.2 u.1.length es.length (u.1.length + q)) (((u.1 ++ es)[u.1.length + q]?).getD (0, 0, []))) = _
    rw [List.getElem?_append_right (Nat.le_add_right _ _), Nat.add_sub_cancel_left]
    simp [am_zr, hl]
theorem am_val_of {sh : am_Sh} {L : List (Option Value)} {S : List Value} (h : am_val sh L S = true) : S.all (am_vv sh.length) = true ∧ L.all (am_vo sh.length) = true ∧ sh.all (fun e => e.2.2.all (am_vn sh.length)) = true := by
  unfold am_val at h
  rw [Bool.and_eq_true, Bool.and_eq_true] at h
  exact h
theorem am_vr_of {n a : Nat} (h : am_vr n a = true) : a < n ∨ am_sb ≤ a := by
  unfold am_vr at h
  rw [Bool.or_eq_true] at h
  rcases h with h | h
  · exact Or.inl (Nat.le_of_ble_eq_true h)
  · exact Or.inr (Nat.le_of_ble_eq_true h)
section SIM2
variable {p : Program} {l : Launch} {e : Env} {R : Room} {s : State} {m : MethodId} {args : Array Value} {below : List Frame} {meth : Method} {c0 : Code} {Qs : State → Prop} {D : va_G} {cl : List vw_C} {kA : Nat → ClassId} {ft : Nat → Nat → Bool} {A : Nat → Prop} {ad0 : Nat → Nat} {n0 mc ms nL : Nat} {cc : ByteArray} {own : String} {Ts nw : List Cond} {nm : String} {sc : Nat → String × String} {ns : Nat} {sn : Nat → Nat} {sv : Nat → Nat → Int32} {lg : Bool} {xl : Nat} {xs : Nat → Int32}
variable {pc nx i j : Nat} {z : Int} {L : List (Option Value)} {S : List Value} {u : am_St} {b c : Nat}
theorem as_new (cx : am_Cx p R s m args meth c0 D cl kA ft A ad0 mc ms nL cc own Ts nw nm sc ns sn sv lg xl xs) (C : String) (T : u_T) (N : Nat) (hc : cl[i]? = some (C, T, N)) (hjN : j = N) (w1 : Cond.classLink own z.toNat C ∈ Ts) (w2 : Cond.instantiable C N ∈ Ts) (w3 : Cond.initialized C ∈ Ts) (hck : decode cc pc = .ok (.new z.toNat, 3) ∧ nx = pc + 3) (hF : ao_new i j nx (am_Xs p l e R s m args below meth c0 Qs D cl kA ft A ad0 n0 mc ms nL) L S u b c) : (am_Xs p l e R s m args below meth c0 Qs D cl kA ft A ad0 n0 mc ms nL) pc L S u b c := by
  obtain ⟨hx, hb, hml, hown, hts, hA, hAm, hnm, hfr, hlo, hmc, hms, hcl, hxs⟩ := cx
  subst hjN
  unfold ao_new at hF
  split at hF
  · rename_i hq
    obtain ⟨hb1, hc1, hsb, hval⟩ := hq
    obtain ⟨hvS, hvL, hvu⟩ := am_val_of hval
    obtain ⟨h1, rfl⟩ := hck
    obtain ⟨hcw, ty, hty, hnms, hrf⟩ := hcl i _ hc
    intro ad H locs cells slots ls hl hR
    obtain ⟨hP, hD, hS, r1, r2, r3, r4, r5, r6⟩ := hR
    have hfs : ∀ k, k < j → defaultValue (ty k) = vp_V ((List.range j).map (am_fl ft ad (fun _ => 0) (List.replicate j none) i)) k := by
      intro k hk
      have hg : am_rg (List.replicate j none) k = none := by unfold am_rg; rw [List.getElem?_replicate_of_lt hk]; rfl
      unfold vp_V
      rw [List.getD_eq_getElem?_getD, am_fl_get hk]
      show _ = am_fl ft ad (fun _ => 0) (List.replicate j none) i k
      unfold am_fl
      rw [hg]
      cases hf : ft i k with
      | true => rcases (hrf k hk).1 hf with ⟨C9, e9⟩ | ⟨f9, e9⟩ <;> rw [e9] <;> rfl
      | false => rcases (hrf k hk).2 hf with e9 | e9 <;> rw [e9] <;> rfl
    refine va_new (ci := i) (fs := (List.range j).map (am_fl ft ad (fun _ => 0) (List.replicate j none) i)) (C := C) (T := T) (N := j) hx hb hts hcw ty hty hown (hts _ w1) (hts _ w2) (hts _ w3) hAm.1 hP hD hS hA hc hfs (by omega) (by omega) h1 (fun q H1 hP1 hD1 hS1 => ?_)
    have hag : ∀ a, am_vr u.1.length a = true → (fun k => if k = u.1.length then q else ad k) a = ad a := fun a ha => by
      have := am_vr_of ha
      exact if_neg (by omega)
    have hw : am_wl kA ft ad u ++ [(q, .inr (i, (List.range j).map (am_fl ft ad (fun _ => 0) (List.replicate j none) i)))] = am_wl kA ft (fun k => if k = u.1.length then q else ad k) (u.1 ++ [(i + 3, j, List.replicate j none)], am_zr u.2 u.1.length 1) := by
      have h9 := am_wl_app kA ft (fun k => if k = u.1.length then q else ad k) u [(i + 3, j, List.replicate j none)]
      rw [am_wl_ag hag hvu] at h9
      refine Eq.trans ?_ h9.symm
      congr 1
      show [(q, _)] = [(if u.1.length + 0 = u.1.length then q else _, _)]
      rw [if_pos (Nat.add_zero _)]
      have := am_en_ag (kA := kA) (ft := ft) (f := fun _ => 0) hag (e := (i + 3, j, List.replicate j none)) (by rw [List.all_eq_true]; intro x hx9; rw [(List.mem_replicate.mp hx9).2]; rfl)
      exact congrArg (fun w => [(q, w)]) this.symm
    rw [hw] at hP1 hD1
    have h := hF (fun k => if k = u.1.length then q else ad k) H1 locs (cells + 1) (slots + j) ls (by rw [am_kn_ag hag hvL]; exact hl) ⟨hP1, hD1, hS1, by omega, by omega, by simp; omega, by simp; omega, fun k hk => by rw [← r5 k hk]; exact if_neg (by omega), fun h0 => by omega⟩
    have e1 : (Value.ref u.1.length :: S).map (am_cv (fun k => if k = u.1.length then q else ad k)) = .ref q :: S.map (am_cv ad) := by
      rw [List.map_cons, am_S_ag hag hvS]
      show Value.ref (if u.1.length = u.1.length then q else _) :: _ = _
      rw [if_pos rfl]
    rw [e1] at h
    exact h
  · exact hF.elim
theorem as_newi (cx : am_Cx p R s m args meth c0 D cl kA ft A ad0 mc ms nL cc own Ts nw nm sc ns sn sv lg xl xs) (w1 : Cond.arrayClass .int ∈ Ts) (hck : decode cc pc = .ok (.newarray .int, 2) ∧ nx = pc + 2) (hF : ao_newa 0 j nx (am_Xs p l e R s m args below meth c0 Qs D cl kA ft A ad0 n0 mc ms nL) L S u b c) : (am_Xs p l e R s m args below meth c0 Qs D cl kA ft A ad0 n0 mc ms nL) pc L S u b c := by
  obtain ⟨hx, hb, hml, hown, hts, hA, hAm, hnm, hfr, hlo, hmc, hms, hcl, hxs⟩ := cx
  unfold ao_newa at hF
  split at hF
  · rename_i x S
    split at hF
    · rename_i hq
      obtain ⟨hxe, hj, hb1, hc1, hsb, hval⟩ := hq
      obtain ⟨hvS, hvL, hvu⟩ := am_val_of hval
      obtain ⟨h1, rfl⟩ := hck
      intro ad H locs cells slots ls hl hR
      obtain ⟨hP, hD, hS, r1, r2, r3, r4, r5, r6⟩ := hR
      have hx0 : ¬ x < 0 := by rw [hxe]; exact nI_pos (by omega)
      have hxn : x.toNatClampNeg = j := by rw [hxe]; exact nI_clamp (by omega)
      have hby : j * componentBytes .int ≤ 536870912 := Nat.le_trans (Nat.mul_le_mul_left j (show componentBytes .int ≤ 8 by decide)) (by omega)
      refine va_newa (atype := .int) (ty := .int) (a0 := (j, .inl (fun _ => 0))) hx hb (hts _ w1) rfl hAm.1 hP hD hS hA (fun cA => rfl) hx0 hxn hby (by omega) (by omega) h1 (fun q cA H1 hK1 hP1 hD1 hS1 => ?_)
      have hcA : cA = kA 0 := by
        have g1 : va_RA s cA .int := (hK1.2 3 (cA, .int) rfl).2
        have g2 : va_RA s (kA 0) .int := (hAm.1.2 0 (kA 0, .int) rfl).2
        exact Option.some.inj (g1.symm.trans g2)
      subst hcA
      have hag : ∀ a, am_vr u.1.length a = true → (fun k => if k = u.1.length then q else ad k) a = ad a := fun a ha => by
        have := am_vr_of ha
        exact if_neg (by omega)
      have hw : am_wl kA ft ad u ++ [(q, .inl (kA 0, j, .inl (fun _ => 0)))] = am_wl kA ft (fun k => if k = u.1.length then q else ad k) (u.1 ++ [(0, j, [])], am_zr u.2 u.1.length 1) := by
        have h9 := am_wl_app kA ft (fun k => if k = u.1.length then q else ad k) u [(0, j, [])]
        rw [am_wl_ag hag hvu] at h9
        refine Eq.trans ?_ h9.symm
        congr 1
        show [(q, _)] = [(if u.1.length + 0 = u.1.length then q else _, _)]
        rw [if_pos (Nat.add_zero _)]
        rfl
      rw [hw] at hP1 hD1
      have h := hF (fun k => if k = u.1.length then q else ad k) H1 locs (cells + 1) (slots + j) ls (by rw [am_kn_ag hag hvL]; exact hl) ⟨hP1, hD1, hS1, by omega, by omega, by simp; omega, by simp; omega, fun k hk => by rw [← r5 k hk]; exact if_neg (by omega), fun h0 => by omega⟩
      have e1 : (Value.ref u.1.length :: S).map (am_cv (fun k => if k = u.1.length then q else ad k)) = .ref q :: S.map (am_cv ad) := by
        rw [List.map_cons, am_S_ag hag hvS]
        show Value.ref (if u.1.length = u.1.length then q else _) :: _ = _
        rw [if_pos rfl]
      rw [e1] at h
      exact h
    · exact hF.elim
  · exact hF.elim
theorem as_newz (cx : am_Cx p R s m args meth c0 D cl kA ft A ad0 mc ms nL cc own Ts nw nm sc ns sn sv lg xl xs) (w1 : Cond.arrayClass .boolean ∈ Ts) (hck : decode cc pc = .ok (.newarray .boolean, 2) ∧ nx = pc + 2) (hF : ao_newa 1 j nx (am_Xs p l e R s m args below meth c0 Qs D cl kA ft A ad0 n0 mc ms nL) L S u b c) : (am_Xs p l e R s m args below meth c0 Qs D cl kA ft A ad0 n0 mc ms nL) pc L S u b c := by
  obtain ⟨hx, hb, hml, hown, hts, hA, hAm, hnm, hfr, hlo, hmc, hms, hcl, hxs⟩ := cx
  unfold ao_newa at hF
  split at hF
  · rename_i x S
    split at hF
    · rename_i hq
      obtain ⟨hxe, hj, hb1, hc1, hsb, hval⟩ := hq
      obtain ⟨hvS, hvL, hvu⟩ := am_val_of hval
      obtain ⟨h1, rfl⟩ := hck
      intro ad H locs cells slots ls hl hR
      obtain ⟨hP, hD, hS, r1, r2, r3, r4, r5, r6⟩ := hR
      have hx0 : ¬ x < 0 := by rw [hxe]; exact nI_pos (by omega)
      have hxn : x.toNatClampNeg = j := by rw [hxe]; exact nI_clamp (by omega)
      have hby : j * componentBytes .boolean ≤ 536870912 := Nat.le_trans (Nat.mul_le_mul_left j (show componentBytes .boolean ≤ 8 by decide)) (by omega)
      refine va_newa (atype := .boolean) (ty := .boolean) (a0 := (j, .inl (fun _ => 0))) hx hb (hts _ w1) rfl hAm.1 hP hD hS hA (fun cA => rfl) hx0 hxn hby (by omega) (by omega) h1 (fun q cA H1 hK1 hP1 hD1 hS1 => ?_)
      have hcA : cA = kA 1 := by
        have g1 : va_RA s cA .boolean := (hK1.2 3 (cA, .boolean) rfl).2
        have g2 : va_RA s (kA 1) .boolean := (hAm.1.2 1 (kA 1, .boolean) rfl).2
        exact Option.some.inj (g1.symm.trans g2)
      subst hcA
      have hag : ∀ a, am_vr u.1.length a = true → (fun k => if k = u.1.length then q else ad k) a = ad a := fun a ha => by
        have := am_vr_of ha
        exact if_neg (by omega)
      have hw : am_wl kA ft ad u ++ [(q, .inl (kA 1, j, .inl (fun _ => 0)))] = am_wl kA ft (fun k => if k = u.1.length then q else ad k) (u.1 ++ [(1, j, [])], am_zr u.2 u.1.length 1) := by
        have h9 := am_wl_app kA ft (fun k => if k = u.1.length then q else ad k) u [(1, j, [])]
        rw [am_wl_ag hag hvu] at h9
        refine Eq.trans ?_ h9.symm
        congr 1
        show [(q, _)] = [(if u.1.length + 0 = u.1.length then q else _, _)]
        rw [if_pos (Nat.add_zero _)]
        rfl
      rw [hw] at hP1 hD1
      have h := hF (fun k => if k = u.1.length then q else ad k) H1 locs (cells + 1) (slots + j) ls (by rw [am_kn_ag hag hvL]; exact hl) ⟨hP1, hD1, hS1, by omega, by omega, by simp; omega, by simp; omega, fun k hk => by rw [← r5 k hk]; exact if_neg (by omega), fun h0 => by omega⟩
      have e1 : (Value.ref u.1.length :: S).map (am_cv (fun k => if k = u.1.length then q else ad k)) = .ref q :: S.map (am_cv ad) := by
        rw [List.map_cons, am_S_ag hag hvS]
        show Value.ref (if u.1.length = u.1.length then q else _) :: _ = _
        rw [if_pos rfl]
      rw [e1] at h
      exact h
    · exact hF.elim
  · exact hF.elim
theorem as_newg (cx : am_Cx p R s m args meth c0 D cl kA ft A ad0 mc ms nL cc own Ts nw nm sc ns sn sv lg xl xs) (w1 : Cond.classLink own z.toNat ("[" ++ (FieldType.array .int).toString) ∈ Ts) (w2 : Cond.arrayClass .int ∈ Ts) (hck : decode cc pc = .ok (.multianewarray z.toNat 2, 4) ∧ nx = pc + 4) (hF : ao_newg i j nx (am_Xs p l e R s m args below meth c0 Qs D cl kA ft A ad0 n0 mc ms nL) L S u b c) : (am_Xs p l e R s m args below meth c0 Qs D cl kA ft A ad0 n0 mc ms nL) pc L S u b c := by
  obtain ⟨hx, hb, hml, hown, hts, hA, hAm, hnm, hfr, hlo, hmc, hms, hcl, hxs⟩ := cx
  unfold ao_newg at hF
  split at hF
  · rename_i y x S
    split at hF
    · rename_i hq
      obtain ⟨hxe, hye, hi, hj, hb1, hc1, hsb, hval⟩ := hq
      obtain ⟨hvS, hvL, hvu⟩ := am_val_of hval
      obtain ⟨h1, rfl⟩ := hck
      intro ad H locs cells slots ls hl hR
      obtain ⟨hP, hD, hS, r1, r2, r3, r4, r5, r6⟩ := hR
      have hx0 : ¬ x < 0 := by rw [hxe]; exact nI_pos (by omega)
      have hxn : x.toNatClampNeg = i := by rw [hxe]; exact nI_clamp (by omega)
      have hy0 : ¬ y < 0 := by rw [hye]; exact nI_pos (by omega)
      have hyn : y.toNatClampNeg = j := by rw [hye]; exact nI_clamp (by omega)
      have hcy : s.vm.findClass (FieldType.array .int).toString = some (kA 0) := (hAm.1.2 0 (kA 0, .int) rfl).2
      have hby : j * componentBytes .int ≤ 536870912 := Nat.le_trans (Nat.mul_le_mul_left j (show componentBytes .int ≤ 8 by decide)) (by omega)
      refine va_mna (X := am_wl kA ft ad u) (L := []) (f := fun _ => .inl (kA 0, 0, .inl (fun _ => 0))) (ty := .int) (cy := kA 0) (z := (j, .inl (fun _ => 0))) hx hb hown (hts _ w1) hAm.2.2.1 (hts _ w2) hcy hAm.1 (by rw [show va_pl [] _ = ([] : va_W) from rfl, List.append_nil]; exact hP) (by rw [show va_pl [] _ = ([] : va_W) from rfl, List.append_nil]; exact hD) hS hA hx0 hy0 hxn hyn (by omega) hby (by omega) (by decide) (by decide) (by omega) (by omega) (fun cA => by first | rfl | (rw [vp_cell_i, ← arrV_new]; rfl)) h1 (fun q r cA H1 hinj hnl hK1 hP1 hD1 hS1 => ?_)
      have hcA : cA = kA 2 := by
        have g1 : va_RA s cA (.array .int) := (hK1.2 3 (cA, .array .int) rfl).2
        have g2 : va_RA s (kA 2) (.array .int) := (hAm.1.2 2 (kA 2, .array .int) rfl).2
        exact Option.some.inj (g1.symm.trans g2)
      subst hcA
      generalize hade : (fun k => if k = u.1.length then q else if u.1.length < k ∧ k ≤ u.1.length + i then r (k - u.1.length - 1) else ad k) = ad'
      have had : ∀ k, ad' k = if k = u.1.length then q else if u.1.length < k ∧ k ≤ u.1.length + i then r (k - u.1.length - 1) else ad k := fun k => by rw [← hade]
      have hag : ∀ a, am_vr u.1.length a = true → ad' a = ad a := fun a ha => by
        have := am_vr_of ha
        rw [had, if_neg (by omega), if_neg (by omega)]
      have hw : (am_wl kA ft ad u ++ [(q, .inl (kA 2, i, .inr (.inr (.inr (.inr (fun k => if k < i then some (r k) else none))))))]) ++ va_pl ([] ++ (List.range i).map r) (vr_up (fun _ => .inl (kA 0, 0, .inl (fun _ => 0))) ((List.range i).map r) (.inl (kA 0, j, .inl (fun _ => 0)))) = am_wl kA ft ad' (u.1 ++ (2, i, (List.range i).map fun k => some (u.1.length + 1 + k)) :: List.replicate i (0, j, []), am_zr u.2 u.1.length (1 + i)) := by
        have h9 := am_wl_app kA ft ad' u ((2, i, (List.range i).map fun k => some (u.1.length + 1 + k)) :: List.replicate i (0, j, []))
        rw [am_wl_ag hag hvu, show ((2, i, (List.range i).map fun k => some (u.1.length + 1 + k)) :: List.replicate i (0, j, []) : am_Sh).length = 1 + i by simp; omega] at h9
        refine Eq.trans ?_ h9.symm
        rw [List.append_assoc]
        congr 1
        rw [List.range_add, List.map_append, List.map_map]
        congr 1
        · show [(q, _)] = [(ad' (u.1.length + 0), am_en kA ft ad' (fun _ => 0) (2, i, (List.range i).map fun k => some (u.1.length + 1 + k)))]
          rw [had, if_pos (Nat.add_zero _)]
          unfold am_en
          refine congrArg (fun w => [(q, Sum.inl (kA 2, i, Sum.inr (Sum.inr (Sum.inr (Sum.inr w)))))]) (funext fun k => ?_)
          unfold am_rg
          by_cases hk : k < i
          · rw [if_pos hk, List.getElem?_map, List.getElem?_range hk]
            show some (r k) = some (ad' (u.1.length + 1 + k))
            rw [had, if_neg (by omega), if_pos (by omega), show u.1.length + 1 + k - u.1.length - 1 = k by omega]
          · rw [if_neg hk, List.getElem?_eq_none (by simp; omega)]
            rfl
        · unfold va_pl
          rw [List.nil_append, List.map_map]
          refine List.map_congr_left fun k hk => ?_
          have hk : k < i := List.mem_range.mp hk
          have e2 : ad' (u.1.length + (1 + k)) = r k := by rw [had, if_neg (by omega), if_pos (by omega), show u.1.length + (1 + k) - u.1.length - 1 = k by omega]
          have e3 : (((2, i, (List.range i).map fun k => some (u.1.length + 1 + k)) :: List.replicate i (0, j, []) : am_Sh)[1 + k]?).getD (0, 0, []) = (0, j, []) := by rw [Nat.add_comm 1 k, List.getElem?_cons_succ, List.getElem?_replicate_of_lt hk]; rfl
          simp only [Function.comp]
          rw [e2, e3, vr_up_in (List.mem_map.mpr ⟨k, List.mem_range.mpr hk, rfl⟩)]
          rfl
      rw [hw] at hP1 hD1
      have h := hF ad' H1 locs (cells + 1 + i) (slots + i + i * j) ls (by rw [am_kn_ag hag hvL]; exact hl) ⟨hP1, hD1, hS1, by omega, by omega, by simp; omega, by simp; omega, fun k hk => by rw [← r5 k hk, had, if_neg (by omega), if_neg (by omega)], fun h0 => by omega⟩
      have e1 : (Value.ref u.1.length :: S).map (am_cv ad') = .ref q :: S.map (am_cv ad) := by
        rw [List.map_cons, am_S_ag hag hvS]
        show Value.ref (ad' u.1.length) :: _ = _
        rw [had, if_pos rfl]
      rw [e1] at h
      exact h
    · exact hF.elim
  · exact hF.elim
end SIM2
end
section
/-! CALLS AND ENDS -/
def am_Pc (D : va_G) (cl : List vw_C) (kA : Nat → ClassId) (ft : Nat → Nat → Bool) (nw : List Cond) (sc : Nat → String × String) (ns : Nat) (sn : Nat → Nat) (sv : Nat → Nat → Int32) (As : List Value) (u : am_St) (ad : Nat → Nat) (sz : Nat) : Array Value → State → Prop :=
  va_Pc (As.map (am_cv ad)) (fun U => U.heap.size = sz ∧ va_P D cl (am_wl kA ft ad u) U.heap ∧ va_D (fun _ => True) (am_wl kA ft ad u) ∧ am_Am D cl kA nw sc ns sn sv (va_A (am_wl kA ft ad u) sz) ad U ∧ u.1.length ≤ am_sb)
def am_Qc (D : va_G) (cl : List vw_C) (kA : Nat → ClassId) (ft : Nat → Nat → Bool) (P : am_Q) (u : am_St) (ad : Nat → Nat) (sz k0 : Nat) : Array Value → State → Outcome → State → Prop := fun _ st oc t =>
  (∃ (r : Option Value) (u' : am_St) (ad' : Nat → Nat), oc = .returned (r.map (am_cv ad')) ∧ P r u' ∧ u.1.length ≤ u'.1.length ∧ u'.1.length ≤ am_sb ∧ (∀ i, i < u.1.length ∨ am_sb ≤ i → ad' i = ad i) ∧ (k0 = 0 → ad' = ad) ∧ va_P D cl (am_wl kA ft ad' u') t.heap ∧ va_D (va_A (am_wl kA ft ad u) sz) (am_wl kA ft ad' u')) ∧ va_F (va_A (am_wl kA ft ad u) sz) st t
/-- links across the nest: of methods -/
def am_nwok (nw : List Cond) : Prop := ∀ w ∈ nw, ∃ a i x h, w = .methodLinkNest a i x h
theorem am_blind {D : va_G} {cl : List vw_C} {kA : Nat → ClassId} {ft : Nat → Nat → Bool} {nw : List Cond} {sc : Nat → String × String} {ns : Nat} {sn : Nat → Nat} {sv : Nat → Nat → Int32} (hnw : am_nwok nw) (As : List Value) (u : am_St) (ad : Nat → Nat) (sz : Nat) : FrameBlind (am_Pc D cl kA ft nw sc ns sn sv As u ad sz) := by
  intro a U g mk q
  obtain ⟨q0, q1, qP, qD, ⟨qK, qN, qO, qZ⟩, ql⟩ := q
  refine ⟨q0, q1, qP, qD, ⟨va_K.moved (u := U) (U := U.calling g mk a) (Vm.Alike.refl U.vm) qK, fun w hw => ?_, va_AOA.moved (u := U) (U := U.calling g mk a) (Vm.Alike.refl U.vm) qO, fun k hk => ⟨va_Z.moved (u := U) (U := U.calling g mk a) (Vm.Alike.refl U.vm) (qZ k hk).1, va_T.moved (u := U) (U := U.calling g mk a) (Vm.Alike.refl U.vm) (qZ k hk).2⟩⟩, ql⟩
  obtain ⟨a9, i9, x9, h9, rfl⟩ := hnw w hw
  exact va_Nw.same rfl (rfl : U.vm = (U.calling g mk a).vm) (qN _ hw)
theorem am_Am_to {D : va_G} {cl : List vw_C} {kA : Nat → ClassId} {nw : List Cond} {sc : Nat → String × String} {ns : Nat} {sn : Nat → Nat} {sv : Nat → Nat → Int32} {A A' : Nat → Prop} {ad ad0 : Nat → Nat} {s U : State} {H : Heap} {locs : List Loc} (hnw : am_nwok nw) (h : am_Am D cl kA nw sc ns sn sv A ad0 s) (hS : va_S A s.heap H locs) (hU : U.heap = H) (hW : s.WarmedH U.vm) (hAA : ∀ q, A' q → A q) (had : ∀ i, am_sb ≤ i → ad i = ad0 i) : am_Am D cl kA nw sc ns sn sv A' ad U := by
  obtain ⟨qK, qN, qO, qZ⟩ := h
  refine ⟨va_K.moved hW.alike qK, fun w hw => ?_, va_AOA.moved hW.alike qO, fun k hk => ?_⟩
  · obtain ⟨a9, i9, x9, h9, rfl⟩ := hnw w hw
    exact va_Nw.warmM hW (qN _ hw)
  · rw [had (am_sb + k) (Nat.le_add_right _ _), hU]
    exact ⟨((((qZ k hk).1).moved hW.alike).kept hS.2.1).narrow hAA, ((((qZ k hk).2).moved hW.alike).kept hS.2.1).narrow hAA⟩
section SIM3
variable {p : Program} {l : Launch} {e : Env} {R : Room} {s : State} {m : MethodId} {args : Array Value} {below : List Frame} {meth : Method} {c0 : Code} {Qs : State → Prop} {D : va_G} {cl : List vw_C} {kA : Nat → ClassId} {ft : Nat → Nat → Bool} {A : Nat → Prop} {ad0 : Nat → Nat} {n0 mc ms nL : Nat} {cc : ByteArray} {own : String} {Ts nw : List Cond} {nm : String} {sc : Nat → String × String} {ns : Nat} {sn : Nat → Nat} {sv : Nat → Nat → Int32} {lg : Bool} {xl : Nat} {xs : Nat → Int32}
variable {pc nx i j : Nat} {z : Int} {L : List (Option Value)} {S : List Value} {u : am_St} {b c : Nat}
theorem am_after {P : am_Q} {ad : Nat → Nat} {sz k0 mc' ms' : Nat} {H : Heap} {locs : List Loc} {cells slots : Nat} {ls : Array Slot} {st0 rest : List Value} {a : Array Value} {free : Addr → Prop} (hr : va_Run p l e R s m args below meth c0 H locs cells slots mc' ms' (F0 m pc ls st0) rest (am_Qc D cl kA ft P u ad sz k0 a) free) (hS : va_S A s.heap H locs) (hAA : ∀ q, va_A (am_wl kA ft ad u) sz q → A q) (hf : ∀ q, free q → A q)
    (kk : ∀ (r : Option Value) (u' : am_St) (ad' : Nat → Nat) (H1 : Heap) (locs1 : List Loc), P r u' → u.1.length ≤ u'.1.length → u'.1.length ≤ am_sb → (∀ i, i < u.1.length ∨ am_sb ≤ i → ad' i = ad i) → (k0 = 0 → ad' = ad) → va_P D cl (am_wl kA ft ad' u') H1 → va_D A (am_wl kA ft ad' u') → va_S A s.heap H1 locs1 → W p l e R s m args below meth c0 H1 locs1 (cells + mc') (slots + ms') Qs (F0 m (pc + 3) ls ((r.map (am_cv ad')).toList ++ rest))) : W p l e R s m args below meth c0 H locs cells slots Qs (F0 m pc ls st0) := by
  intro T hT X
  obtain ⟨v, st₀, t, T', L', h0, X', hL, e1, e2, ⟨⟨r, u', ad', hv, hp, q1, q2, q3, q4, q5, q6⟩, hz, hk⟩, st⟩ := hr T hT X
  cases hv
  rw [h0] at hz hk
  obtain ⟨t2, a1, b1⟩ := kk r u' ad' T'.heap (locs ++ L') hp q1 q2 q3 q4 (by rw [e1]; exact q5) (q6.weaken fun _ q _ h => hAA q.1 h)
    ⟨Nat.le_trans hS.1 (by rw [e1]; exact hz), fun q h1 h2 => by rw [e1, hk q (Nat.lt_of_lt_of_le h1 hS.1) (fun z => h2 (hAA q z))]; exact hS.2.1 q h1 h2, fun q hq => by
      rcases List.mem_append.mp hq with h | h
      · exact hS.2.2 q h
      · exact hf _ (hL q h)⟩ T' rfl X'
  exact ⟨t2, st t2 a1, b1⟩
theorem am_AA {ad : Nat → Nat} {H : Heap} {locs : List Loc} (hA : ∀ q, s.heap.size ≤ q → A q) (hD : va_D A (am_wl kA ft ad u)) (hS : va_S A s.heap H locs) : ∀ q, va_A (am_wl kA ft ad u) H.size q → A q := by
  rintro q (⟨k, e, hk⟩ | h)
  · exact hD.2 k _ hk
  · exact hA q (Nat.le_trans hS.1 h)
theorem as_core {k : Nat} {kc : Nat × Nat} (cx : am_Cx p R s m args meth c0 D cl kA ft A ad0 mc ms nL cc own Ts nw nm sc ns sn sv lg xl xs) (hcond : kc.1 ≤ b ∧ kc.2 ≤ c ∧ (kc.1 = 0 ∨ am_val u.1 L (S.drop k) = true))
    (hrun : ∀ (ad : Nat → Nat) (H : Heap) (locs : List Loc) (cells slots : Nat) (ls : Array Slot), lv_has ls nL (am_kn ad L) → am_Rh D cl kA ft A s.heap ad0 n0 mc ms u b c ad H locs cells slots → ∃ aa : Array Value, va_Run p l e R s m args below meth c0 H locs cells slots kc.1 kc.2 (F0 m pc ls (S.map (am_cv ad))) ((S.drop k).map (am_cv ad)) (am_Qc D cl kA ft (fun r u' => (am_Xs p l e R s m args below meth c0 Qs D cl kA ft A ad0 n0 mc ms nL) (pc + 3) L (r.toList ++ S.drop k) u' (b - kc.1) (c - kc.2)) u ad H.size kc.1 aa) (va_A (am_wl kA ft ad u) H.size)) : (am_Xs p l e R s m args below meth c0 Qs D cl kA ft A ad0 n0 mc ms nL) pc L S u b c := by
  obtain ⟨hx, hb, hml, hown, hts, hA, hAm, hnm, hfr, hlo, hmc, hms, hcl, hxs⟩ := cx
  intro ad H locs cells slots ls hl hR
  obtain ⟨aa, hrun⟩ := hrun ad H locs cells slots ls hl hR
  obtain ⟨hP, hD, hS, r1, r2, r3, r4, r5, r6⟩ := hR
  have hAA := am_AA hA hD hS
  refine am_after hrun hS hAA hAA ?_
  intro r u' ad' H1 locs1 hp q1 q2 q3 q4 hP1 hD1 hS1
  have hst : (S.drop k).map (am_cv ad') = (S.drop k).map (am_cv ad) ∧ am_kn ad' L = am_kn ad L := by
    rcases hcond.2.2 with h0 | hv
    · rw [q4 h0]
      exact ⟨rfl, rfl⟩
    · obtain ⟨hvS, hvL, -⟩ := am_val_of hv
      have hag : ∀ a, am_vr u.1.length a = true → ad' a = ad a := fun a ha => q3 a (am_vr_of ha)
      exact ⟨am_S_ag hag hvS, am_kn_ag hag hvL⟩
  have h := hp ad' H1 locs1 (cells + kc.1) (slots + kc.2) ls (by rw [hst.2]; exact hl) ⟨hP1, hD1, hS1, by omega, by omega, by omega, q2, fun i hi => by rw [q3 i (by omega)]; exact r5 i hi, fun h0 => by rw [q4 (by omega)]; exact r6 h0⟩
  have e1 : (r.toList ++ S.drop k).map (am_cv ad') = (r.map (am_cv ad')).toList ++ (S.drop k).map (am_cv ad) := by
    rw [List.map_append, hst.1]
    cases r <;> rfl
  rw [e1] at h
  exact h
theorem am_stk {ad : Nat → Nat} {k : Nat} : S.map (am_cv ad) = (((S.take k).reverse.map (am_cv ad))).reverse ++ (S.drop k).map (am_cv ad) := by
  rw [List.map_reverse, List.reverse_reverse, ← List.map_append, List.take_append_drop]
theorem am_pre {As : List Value} {ad : Nat → Nat} {H : Heap} {locs : List Loc} {cells slots : Nat} (hnw : am_nwok nw) (hA : ∀ q, s.heap.size ≤ q → A q) (hAm : am_Am D cl kA nw sc ns sn sv A ad0 s) (hR : am_Rh D cl kA ft A s.heap ad0 n0 mc ms u b c ad H locs cells slots) : ∀ U : State, U.heap = H → s.WarmedH U.vm → am_Pc D cl kA ft nw sc ns sn sv As u ad H.size (As.map (am_cv ad)).toArray U := by
  obtain ⟨hP, hD, hS, r1, r2, r3, r4, r5, r6⟩ := hR
  intro U hU hW
  exact ⟨rfl, by rw [hU], by rw [hU]; exact hP, hD.weaken (fun _ _ _ _ => trivial), am_Am_to hnw hAm hS hU hW (am_AA hA hD hS) (fun i hi => r5 i (Or.inr hi)), r4⟩
/-- a call of a static method, of this class (nest: of a nest mate) -/
theorem as_scall {k : Nat} {kc : Nat × Nat} {y : MethodName} {bytes : ByteArray} {maxL : Nat} {ret : Option FieldType} {ws : List Cond} {rm : Room} (cx : am_Cx p R s m args meth c0 D cl kA ft A ad0 mc ms nL cc own Ts nw nm sc ns sn sv lg xl xs) (hnw : am_nwok nw)
    (hcond : kc.1 ≤ b ∧ kc.2 ≤ c ∧ k ≤ S.length ∧ am_h8 (S.drop k) = true ∧ (kc.1 = 0 ∨ am_val u.1 L (S.drop k) = true))
    (hM : ∀ (ad : Nat → Nat) (sz : Nat), Met l y ws rm (am_Pc D cl kA ft nw sc ns sn sv (S.take k).reverse u ad sz) (am_Qc D cl kA ft (fun r u' => (am_Xs p l e R s m args below meth c0 Qs D cl kA ft A ad0 n0 mc ms nL) (pc + 3) L (r.toList ++ S.drop k) u' (b - kc.1) (c - kc.2)) u ad sz kc.1) kc.1 kc.2 (va_A (am_wl kA ft ad u) sz))
    (cw : (CallB R s args own z.toNat y bytes maxL ret ws rm kc.1 kc.2 k ∧ (Cond.static y).before args s = true) ∨ ∃ host, va_CN R s args own z.toNat y host bytes maxL ret ws rm kc.1 kc.2 k ∧ (Cond.static y).before args s = true ∧ True)
    (hdg : decode cc pc = .ok (.invokestatic z.toNat, 3)) : (am_Xs p l e R s m args below meth c0 Qs D cl kA ft A ad0 n0 mc ms nL) pc L S u b c := by
  refine as_core (k := k) (kc := kc) cx ⟨hcond.1, hcond.2.1, hcond.2.2.2.2⟩ ?_
  obtain ⟨hx, hb, hml, hown, hts, hA, hAm, hnm, hfr, hlo, hmc, hms, hcl, hxs⟩ := cx
  intro ad H locs cells slots ls hl hR
  have h9 := am_h8_of ad hcond.2.2.2.1
  have hp : PreS s H (am_Pc D cl kA ft nw sc ns sn sv (S.take k).reverse u ad H.size) ((S.take k).reverse.map (am_cv ad)) := ⟨am_blind hnw _ _ _ _, am_pre hnw hA hAm hR⟩
  have hlen : ((S.take k).reverse.map (am_cv ad)).length = k := by rw [List.length_map, List.length_reverse, List.length_take]; omega
  have hcs : cells + kc.1 ≤ R.cells ∧ slots + kc.2 ≤ R.slots := ⟨by have := hR.2.2.2.1; omega, by have := hR.2.2.2.2.1; omega⟩
  rcases cw with cw | ⟨host, cw⟩
  · exact ⟨_, va_runS (As := (S.take k).reverse.map (am_cv ad)) (rest := (S.drop k).map (am_cv ad)) (g := F0 m pc ls (S.map (am_cv ad))) ⟨hx, hb, hml, hown, hts⟩ (hM ad H.size) cw hp rfl hlen hl.1 am_stk (lv_room h9) hdg hcs⟩
  · exact ⟨_, va_runSN (As := (S.take k).reverse.map (am_cv ad)) (rest := (S.drop k).map (am_cv ad)) (g := F0 m pc ls (S.map (am_cv ad))) ⟨hx, hb, hml, hown, hts⟩ (hM ad H.size) cw hp rfl hlen hl.1 am_stk (lv_room h9) hdg hcs⟩
/-- a call on an object: a method of its class, or (init) its constructor -/
theorem as_vcall {k rc a n : Nat} {rs : List (Option Nat)} {As : List Value} {kc : Nat × Nat} {C : String} {T : u_T} {N : Nat} {y : MethodName} {bytes : ByteArray} {maxL : Nat} {ret : Option FieldType} {ws : List Cond} {rm : Room} (cx : am_Cx p R s m args meth c0 D cl kA ft A ad0 mc ms nL cc own Ts nw nm sc ns sn sv lg xl xs) (hnw : am_nwok nw)
    (hAs : (S.take k).reverse = .ref a :: As) (hu : u.1[a]? = some (rc + 3, n, rs)) (hc : cl[rc]? = some (C, T, N))
    (hcond : kc.1 ≤ b ∧ kc.2 ≤ c ∧ k ≤ S.length ∧ am_h8 (S.drop k) = true ∧ (kc.1 = 0 ∨ am_val u.1 L (S.drop k) = true))
    (hM : ∀ (ad : Nat → Nat) (sz : Nat), Met l y ws rm (am_Pc D cl kA ft nw sc ns sn sv (S.take k).reverse u ad sz) (am_Qc D cl kA ft (fun r u' => (am_Xs p l e R s m args below meth c0 Qs D cl kA ft A ad0 n0 mc ms nL) (pc + 3) L (r.toList ++ S.drop k) u' (b - kc.1) (c - kc.2)) u ad sz kc.1) kc.1 kc.2 (va_A (am_wl kA ft ad u) sz))
    (cw : (CallW R s args own C z.toNat y bytes maxL ret ws rm kc.1 kc.2 (k - 1) ∧ decode cc pc = .ok (.invokevirtual z.toNat, 3)) ∨ (ret = none ∧ ((CallB R s args own z.toNat y bytes maxL none ws rm kc.1 kc.2 (k - 1) ∧ y.name = "<init>" ∧ (Cond.instanceMethod y).before args s = true) ∨ ∃ host, va_CN R s args own z.toNat y host bytes maxL none ws rm kc.1 kc.2 (k - 1) ∧ y.name = "<init>" ∧ (Cond.instanceMethod y).before args s = true) ∧ decode cc pc = .ok (.invokespecial z.toNat, 3))) : (am_Xs p l e R s m args below meth c0 Qs D cl kA ft A ad0 n0 mc ms nL) pc L S u b c := by
  refine as_core (k := k) (kc := kc) cx ⟨hcond.1, hcond.2.1, hcond.2.2.2.2⟩ ?_
  obtain ⟨hx, hb, hml, hown, hts, hA, hAm, hnm, hfr, hlo, hmc, hms, hcl, hxs⟩ := cx
  intro ad H locs cells slots ls hl hR
  have h9 := am_h8_of ad hcond.2.2.2.1
  have hpre := am_pre (As := (S.take k).reverse) hnw hA hAm hR
  have hlenk : (S.take k).reverse.length = k := by rw [List.length_reverse, List.length_take]; omega
  have hlen : (As.map (am_cv ad)).length = k - 1 := by rw [hAs] at hlenk; rw [List.length_map]; simp at hlenk; omega
  have hcs : cells + kc.1 ≤ R.cells ∧ slots + kc.2 ≤ R.slots := ⟨by have := hR.2.2.2.1; omega, by have := hR.2.2.2.2.1; omega⟩
  have hst : S.map (am_cv ad) = (As.map (am_cv ad)).reverse ++ .ref (ad a) :: (S.drop k).map (am_cv ad) := by
    have := am_stk (S := S) (ad := ad) (k := k)
    rw [hAs] at this
    rw [this]
    simp [am_cv]
  have he := am_wl_at (kA := kA) (ft := ft) (ad := ad) hu
  rw [hAs] at hpre hM
  rcases cw with ⟨cw, hdg⟩ | ⟨rfl, cw | ⟨host, cw⟩, hdg⟩
  · exact ⟨_, va_runV (As := As.map (am_cv ad)) (b := ad a) (rest := (S.drop k).map (am_cv ad)) (g := F0 m pc ls (S.map (am_cv ad))) ⟨hx, hb, hml, hown, hts⟩ (hM ad H.size) cw ⟨am_blind hnw _ _ _ _, va_recv hAm.1 hR.1 (ci := rc) (q0 := a) hc he, hpre⟩ rfl hlen hl.1 hst (lv_room h9) hdg hcs⟩
  · exact ⟨_, va_runI (As := As.map (am_cv ad)) (b := ad a) (rest := (S.drop k).map (am_cv ad)) (g := F0 m pc ls (S.map (am_cv ad))) ⟨hx, hb, hml, hown, hts⟩ (hM ad H.size) cw ⟨am_blind hnw _ _ _ _, hpre⟩ rfl hlen hl.1 hst (lv_room h9) hdg hcs⟩
  · exact ⟨_, va_runIN (As := As.map (am_cv ad)) (b := ad a) (rest := (S.drop k).map (am_cv ad)) (g := F0 m pc ls (S.map (am_cv ad))) ⟨hx, hb, hml, hown, hts⟩ (hM ad H.size) cw ⟨am_blind hnw _ _ _ _, hpre⟩ rfl hlen hl.1 hst (lv_room h9) hdg hcs⟩
end SIM3
end
section
/-! NAMES AND TABLES (by program: wip/whole/gen/mktables.py) -/
def R_AM : String := "AdvisoryMatch"
def F_AM : u_T := fun k => match k with
  | 0 => ("AdvisoryMatch", "packs", "LAdvisoryMatch$Packs;", true)
  | 1 => ("AdvisoryMatch", "needs", "LAdvisoryMatch$Needs;", true)
  | 2 => ("AdvisoryMatch", "advisories", "LAdvisoryMatch$Advisories;", true)
  | 3 => ("AdvisoryMatch", "exceptions", "LAdvisoryMatch$Exceptions;", true)
  | 4 => ("AdvisoryMatch", "ways", "LAdvisoryMatch$Ways;", true)
  | 5 => ("AdvisoryMatch", "calledWays", "LAdvisoryMatch$Ways;", true)
  | 6 => ("AdvisoryMatch", "hitList", "LAdvisoryMatch$HitList;", true)
  | 7 => ("AdvisoryMatch", "planner", "LAdvisoryMatch$Planner;", true)
  | _ => ("AdvisoryMatch", "clock", "I", false)
def t_AM : Nat → FieldType := fun k => match k with
  | 0 => .object "AdvisoryMatch$Packs"
  | 1 => .object "AdvisoryMatch$Needs"
  | 2 => .object "AdvisoryMatch$Advisories"
  | 3 => .object "AdvisoryMatch$Exceptions"
  | 4 => .object "AdvisoryMatch$Ways"
  | 5 => .object "AdvisoryMatch$Ways"
  | 6 => .object "AdvisoryMatch$HitList"
  | 7 => .object "AdvisoryMatch$Planner"
  | _ => .int
theorem n_AM : ∀ a, a < 9 → ∀ b, b < 9 → a ≠ b → (F_AM a).2.1 ≠ (F_AM b).2.1 := by decide +kernel
theorem t_AM_ok : ∀ k, k < 9 → parseFieldDescriptor (F_AM k).2.2.1 = some (t_AM k) := by decide +kernel
def R_Packs : String := "AdvisoryMatch$Packs"
def F_Packs : u_T := fun k => match k with
  | 0 => ("AdvisoryMatch$Packs", "roots", "[Z", true)
  | 1 => ("AdvisoryMatch$Packs", "versions", "[[I", true)
  | 2 => ("AdvisoryMatch$Packs", "versionCounts", "[I", true)
  | 3 => ("AdvisoryMatch$Packs", "places", "[I", true)
  | 4 => ("AdvisoryMatch$Packs", "installed", "[I", true)
  | _ => ("AdvisoryMatch$Packs", "count", "I", false)
def t_Packs : Nat → FieldType := fun k => match k with
  | 0 => .array .boolean
  | 1 => .array (.array .int)
  | 2 => .array .int
  | 3 => .array .int
  | 4 => .array .int
  | _ => .int
theorem n_Packs : ∀ a, a < 6 → ∀ b, b < 6 → a ≠ b → (F_Packs a).2.1 ≠ (F_Packs b).2.1 := by decide +kernel
theorem t_Packs_ok : ∀ k, k < 6 → parseFieldDescriptor (F_Packs k).2.2.1 = some (t_Packs k) := by decide +kernel
def R_Needs : String := "AdvisoryMatch$Needs"
def F_Needs : u_T := fun k => match k with
  | 0 => ("AdvisoryMatch$Needs", "owners", "[I", true)
  | 1 => ("AdvisoryMatch$Needs", "sinces", "[I", true)
  | 2 => ("AdvisoryMatch$Needs", "others", "[I", true)
  | 3 => ("AdvisoryMatch$Needs", "lows", "[I", true)
  | 4 => ("AdvisoryMatch$Needs", "highs", "[I", true)
  | 5 => ("AdvisoryMatch$Needs", "called", "[Z", true)
  | _ => ("AdvisoryMatch$Needs", "count", "I", false)
def t_Needs : Nat → FieldType := fun k => match k with
  | 0 => .array .int
  | 1 => .array .int
  | 2 => .array .int
  | 3 => .array .int
  | 4 => .array .int
  | 5 => .array .boolean
  | _ => .int
theorem n_Needs : ∀ a, a < 7 → ∀ b, b < 7 → a ≠ b → (F_Needs a).2.1 ≠ (F_Needs b).2.1 := by decide +kernel
theorem t_Needs_ok : ∀ k, k < 7 → parseFieldDescriptor (F_Needs k).2.2.1 = some (t_Needs k) := by decide +kernel
def R_Advisories : String := "AdvisoryMatch$Advisories"
def F_Advisories : u_T := fun k => match k with
  | 0 => ("AdvisoryMatch$Advisories", "owners", "[I", true)
  | 1 => ("AdvisoryMatch$Advisories", "froms", "[[I", true)
  | 2 => ("AdvisoryMatch$Advisories", "tos", "[[I", true)
  | 3 => ("AdvisoryMatch$Advisories", "spanCounts", "[I", true)
  | 4 => ("AdvisoryMatch$Advisories", "scores", "[I", true)
  | 5 => ("AdvisoryMatch$Advisories", "withdrawn", "[Z", true)
  | 6 => ("AdvisoryMatch$Advisories", "groups", "[I", true)
  | _ => ("AdvisoryMatch$Advisories", "count", "I", false)
def t_Advisories : Nat → FieldType := fun k => match k with
  | 0 => .array .int
  | 1 => .array (.array .int)
  | 2 => .array (.array .int)
  | 3 => .array .int
  | 4 => .array .int
  | 5 => .array .boolean
  | 6 => .array .int
  | _ => .int
theorem n_Advisories : ∀ a, a < 8 → ∀ b, b < 8 → a ≠ b → (F_Advisories a).2.1 ≠ (F_Advisories b).2.1 := by decide +kernel
theorem t_Advisories_ok : ∀ k, k < 8 → parseFieldDescriptor (F_Advisories k).2.2.1 = some (t_Advisories k) := by decide +kernel
def R_Exceptions : String := "AdvisoryMatch$Exceptions"
def F_Exceptions : u_T := fun k => match k with
  | _ => ("AdvisoryMatch$Exceptions", "ends", "[[I", true)
def t_Exceptions : Nat → FieldType := fun k => match k with
  | _ => .array (.array .int)
theorem n_Exceptions : ∀ a, a < 1 → ∀ b, b < 1 → a ≠ b → (F_Exceptions a).2.1 ≠ (F_Exceptions b).2.1 := by decide +kernel
theorem t_Exceptions_ok : ∀ k, k < 1 → parseFieldDescriptor (F_Exceptions k).2.2.1 = some (t_Exceptions k) := by decide +kernel
def R_Ways : String := "AdvisoryMatch$Ways"
def F_Ways : u_T := fun k => match k with
  | 0 => ("AdvisoryMatch$Ways", "packs", "LAdvisoryMatch$Packs;", true)
  | 1 => ("AdvisoryMatch$Ways", "needs", "LAdvisoryMatch$Needs;", true)
  | 2 => ("AdvisoryMatch$Ways", "calledAlone", "Z", true)
  | _ => ("AdvisoryMatch$Ways", "lengths", "[I", true)
def t_Ways : Nat → FieldType := fun k => match k with
  | 0 => .object "AdvisoryMatch$Packs"
  | 1 => .object "AdvisoryMatch$Needs"
  | 2 => .boolean
  | _ => .array .int
theorem n_Ways : ∀ a, a < 4 → ∀ b, b < 4 → a ≠ b → (F_Ways a).2.1 ≠ (F_Ways b).2.1 := by decide +kernel
theorem t_Ways_ok : ∀ k, k < 4 → parseFieldDescriptor (F_Ways k).2.2.1 = some (t_Ways k) := by decide +kernel
def R_HitList : String := "AdvisoryMatch$HitList"
def F_HitList : u_T := fun k => match k with
  | 0 => ("AdvisoryMatch$HitList", "rows", "[[I", true)
  | _ => ("AdvisoryMatch$HitList", "count", "I", false)
def t_HitList : Nat → FieldType := fun k => match k with
  | 0 => .array (.array .int)
  | _ => .int
theorem n_HitList : ∀ a, a < 2 → ∀ b, b < 2 → a ≠ b → (F_HitList a).2.1 ≠ (F_HitList b).2.1 := by decide +kernel
theorem t_HitList_ok : ∀ k, k < 2 → parseFieldDescriptor (F_HitList k).2.2.1 = some (t_HitList k) := by decide +kernel
def R_Planner : String := "AdvisoryMatch$Planner"
def F_Planner : u_T := fun k => match k with
  | 0 => ("AdvisoryMatch$Planner", "packs", "LAdvisoryMatch$Packs;", true)
  | 1 => ("AdvisoryMatch$Planner", "needs", "LAdvisoryMatch$Needs;", true)
  | 2 => ("AdvisoryMatch$Planner", "clearPlaces", "[Z", true)
  | 3 => ("AdvisoryMatch$Planner", "triedPlaces", "[I", true)
  | 4 => ("AdvisoryMatch$Planner", "triedVersions", "[I", true)
  | 5 => ("AdvisoryMatch$Planner", "latest", "[I", true)
  | 6 => ("AdvisoryMatch$Planner", "leastCost", "I", false)
  | _ => ("AdvisoryMatch$Planner", "hasPlan", "Z", false)
def t_Planner : Nat → FieldType := fun k => match k with
  | 0 => .object "AdvisoryMatch$Packs"
  | 1 => .object "AdvisoryMatch$Needs"
  | 2 => .array .boolean
  | 3 => .array .int
  | 4 => .array .int
  | 5 => .array .int
  | 6 => .int
  | _ => .boolean
theorem n_Planner : ∀ a, a < 8 → ∀ b, b < 8 → a ≠ b → (F_Planner a).2.1 ≠ (F_Planner b).2.1 := by decide +kernel
theorem t_Planner_ok : ∀ k, k < 8 → parseFieldDescriptor (F_Planner k).2.2.1 = some (t_Planner k) := by decide +kernel
def R_Model : String := "AdvisoryMatchModel"
def F_Model : u_T := fun k => match k with
  | 0 => ("AdvisoryMatchModel", "clock", "I", false)
  | 1 => ("AdvisoryMatchModel", "packs", "I", false)
  | 2 => ("AdvisoryMatchModel", "isRoot", "[Z", true)
  | 3 => ("AdvisoryMatchModel", "places", "[I", true)
  | 4 => ("AdvisoryMatchModel", "versions", "[I", true)
  | 5 => ("AdvisoryMatchModel", "installed", "[I", true)
  | 6 => ("AdvisoryMatchModel", "needs", "I", false)
  | 7 => ("AdvisoryMatchModel", "needer", "[I", true)
  | 8 => ("AdvisoryMatchModel", "since", "[I", true)
  | 9 => ("AdvisoryMatchModel", "needed", "[I", true)
  | 10 => ("AdvisoryMatchModel", "low", "[I", true)
  | 11 => ("AdvisoryMatchModel", "high", "[I", true)
  | 12 => ("AdvisoryMatchModel", "called", "[Z", true)
  | 13 => ("AdvisoryMatchModel", "advisories", "I", false)
  | 14 => ("AdvisoryMatchModel", "packOf", "[I", true)
  | 15 => ("AdvisoryMatchModel", "spans", "[I", true)
  | 16 => ("AdvisoryMatchModel", "from", "[I", true)
  | 17 => ("AdvisoryMatchModel", "to", "[I", true)
  | 18 => ("AdvisoryMatchModel", "choice", "[I", true)
  | 19 => ("AdvisoryMatchModel", "withdrawn", "[Z", true)
  | 20 => ("AdvisoryMatchModel", "groupOf", "[I", true)
  | 21 => ("AdvisoryMatchModel", "ends", "[I", true)
  | 22 => ("AdvisoryMatchModel", "hitMany", "I", false)
  | 23 => ("AdvisoryMatchModel", "told", "[I", true)
  | 24 => ("AdvisoryMatchModel", "far", "[I", true)
  | 25 => ("AdvisoryMatchModel", "reached", "[Z", true)
  | 26 => ("AdvisoryMatchModel", "now", "[I", true)
  | 27 => ("AdvisoryMatchModel", "isBad", "[Z", true)
  | 28 => ("AdvisoryMatchModel", "best", "[I", true)
  | 29 => ("AdvisoryMatchModel", "hasPlan", "Z", false)
  | _ => ("AdvisoryMatchModel", "given", "[I", true)
def t_Model : Nat → FieldType := fun k => match k with
  | 0 => .int
  | 1 => .int
  | 2 => .array .boolean
  | 3 => .array .int
  | 4 => .array .int
  | 5 => .array .int
  | 6 => .int
  | 7 => .array .int
  | 8 => .array .int
  | 9 => .array .int
  | 10 => .array .int
  | 11 => .array .int
  | 12 => .array .boolean
  | 13 => .int
  | 14 => .array .int
  | 15 => .array .int
  | 16 => .array .int
  | 17 => .array .int
  | 18 => .array .int
  | 19 => .array .boolean
  | 20 => .array .int
  | 21 => .array .int
  | 22 => .int
  | 23 => .array .int
  | 24 => .array .int
  | 25 => .array .boolean
  | 26 => .array .int
  | 27 => .array .boolean
  | 28 => .array .int
  | 29 => .boolean
  | _ => .array .int
theorem n_Model : ∀ a, a < 31 → ∀ b, b < 31 → a ≠ b → (F_Model a).2.1 ≠ (F_Model b).2.1 := by decide +kernel
theorem t_Model_ok : ∀ k, k < 31 → parseFieldDescriptor (F_Model k).2.2.1 = some (t_Model k) := by decide +kernel
def ax_cl : List vw_C := [(R_AM, F_AM, 9), (R_Packs, F_Packs, 6), (R_Needs, F_Needs, 7), (R_Advisories, F_Advisories, 8), (R_Exceptions, F_Exceptions, 1), (R_Ways, F_Ways, 4), (R_HitList, F_HitList, 2), (R_Planner, F_Planner, 8), (R_Model, F_Model, 31)]
def ax_ftl : List (List Bool) := [[true, true, true, true, true, true, true, true, false], [true, true, true, true, true, false], [true, true, true, true, true, true, false], [true, true, true, true, true, true, true, false], [true], [true, true, false, true], [true, false], [true, true, true, true, true, true, false, false], [false, false, true, true, true, true, false, true, true, true, true, true, true, false, true, true, true, true, true, true, true, true, false, true, true, true, true, true, true, false, true]]
def ax_ft (t k : Nat) : Bool := ((ax_ftl[t]?).getD [])[k]?.getD false
def ax_U : List Cond := lw_tbl.filter goodWord
def ax_in (w : Cond) : Bool := decide (w ∈ lw_tbl) && goodWord w
theorem ax_inU {w : Cond} (h : ax_in w = true) : w ∈ ax_U := by
  unfold ax_in at h
  rw [Bool.and_eq_true, decide_eq_true_eq] at h
  exact List.mem_filter.mpr h
theorem ax_goodU : ∀ w ∈ ax_U, (w.onTables && w.keeps) = true ∨ ∃ ty, w = .arrayClass ty := fun w h => good_of_word (List.mem_filter.mp h).2
def ax_host : String := "AdvisoryMatch"
def ax_nw : List Cond := [(Jvm.Cond.methodLinkNest "AdvisoryMatch" (32 : Nat) ({ cls := "AdvisoryMatch$Exceptions", name := "<init>", desc := "()V" } : Jvm.MethodName) "AdvisoryMatch"), (Jvm.Cond.methodLinkNest "AdvisoryMatch$Packs" (40 : Nat) ({ cls := "AdvisoryMatch", name := "isBelow", desc := "(II)Z" } : Jvm.MethodName) "AdvisoryMatch"), (Jvm.Cond.methodLinkNest "AdvisoryMatch$Needs" (35 : Nat) ({ cls := "AdvisoryMatch", name := "isBelow", desc := "(II)Z" } : Jvm.MethodName) "AdvisoryMatch"), (Jvm.Cond.methodLinkNest "AdvisoryMatch$Advisories" (40 : Nat) ({ cls := "AdvisoryMatch", name := "isBelow", desc := "(II)Z" } : Jvm.MethodName) "AdvisoryMatch"), (Jvm.Cond.methodLinkNest "AdvisoryMatch$Severity" (13 : Nat) ({ cls := "AdvisoryMatch", name := "isBelow", desc := "(II)Z" } : Jvm.MethodName) "AdvisoryMatch"), (Jvm.Cond.methodLinkNest "AdvisoryMatch$Exceptions" (26 : Nat) ({ cls := "AdvisoryMatch", name := "isBelow", desc := "(II)Z" } : Jvm.MethodName) "AdvisoryMatch"), (Jvm.Cond.methodLinkNest "AdvisoryMatch$Ways" (33 : Nat) ({ cls := "AdvisoryMatch", name := "isBelow", desc := "(II)Z" } : Jvm.MethodName) "AdvisoryMatch"), (Jvm.Cond.methodLinkNest "AdvisoryMatch$HitList" (20 : Nat) ({ cls := "AdvisoryMatch", name := "isBelow", desc := "(II)Z" } : Jvm.MethodName) "AdvisoryMatch"), (Jvm.Cond.methodLinkNest "AdvisoryMatch$Planner" (47 : Nat) ({ cls := "AdvisoryMatch", name := "isBelow", desc := "(II)Z" } : Jvm.MethodName) "AdvisoryMatch")]
theorem ax_nwok : ∀ w ∈ ax_nw, ∃ a i x h, w = .methodLinkNest a i x h := by
  intro w hw
  simp only [ax_nw, List.mem_cons, List.not_mem_nil, or_false] at hw
  rcases hw with rfl | rfl | rfl | rfl | rfl | rfl | rfl | rfl | rfl <;> exact ⟨_, _, _, _, rfl⟩
def ax_ns : Nat := 5
def ax_scl : List (String × String) := [("AdvisoryMatch$Severity", "REACHES"), ("AdvisoryMatch$Severity", "EASES"), ("AdvisoryMatch$Severity", "RIGHTS"), ("AdvisoryMatch$Severity", "HELPS"), ("AdvisoryMatch$Severity", "HARMLESS")]
def ax_sc (k : Nat) : String × String := (ax_scl[k]?).getD ("", "")
def ax_svl : List (List Int32) := [[85, 62, 55, 20], [77, 44], [85, 62, 27], [85, 62], [100, 78, 44]]
def ax_sn (k : Nat) : Nat := ((ax_svl[k]?).getD []).length
def ax_sv (k j : Nat) : Int32 := (((ax_svl[k]?).getD [])[j]?).getD 0
abbrev Y_Arrays_fill : Nat := 0
abbrev Y_AM_init : Nat := 1
abbrev Y_AM_pack : Nat := 2
abbrev Y_AM_version : Nat := 3
abbrev Y_AM_install : Nat := 4
abbrev Y_AM_need : Nat := 5
abbrev Y_AM_call : Nat := 6
abbrev Y_AM_advisory : Nat := 7
abbrev Y_AM_span : Nat := 8
abbrev Y_AM_severity : Nat := 9
abbrev Y_AM_withdraw : Nat := 10
abbrev Y_AM_same : Nat := 11
abbrev Y_AM_group : Nat := 12
abbrev Y_AM_score : Nat := 13
abbrev Y_AM_except : Nat := 14
abbrev Y_AM_tick : Nat := 15
abbrev Y_AM_hits : Nat := 16
abbrev Y_AM_hit : Nat := 17
abbrev Y_AM_broken : Nat := 18
abbrev Y_AM_plan : Nat := 19
abbrev Y_AM_planned : Nat := 20
abbrev Y_AM_update : Nat := 21
abbrev Y_AM_noteHitsOf : Nat := 22
abbrev Y_AM_markPlacesOf : Nat := 23
abbrev Y_AM_isClear : Nat := 24
abbrev Y_AM_isBelow : Nat := 25
abbrev Y_Packs_init : Nat := 26
abbrev Y_Packs_count : Nat := 27
abbrev Y_Packs_has : Nat := 28
abbrev Y_Packs_add : Nat := 29
abbrev Y_Packs_countVersions : Nat := 30
abbrev Y_Packs_addVersion : Nat := 31
abbrev Y_Packs_versionAt : Nat := 32
abbrev Y_Packs_putPlace : Nat := 33
abbrev Y_Packs_placeOf : Nat := 34
abbrev Y_Packs_installedVersions : Nat := 35
abbrev Y_Packs_isInstalledRoot : Nat := 36
abbrev Y_Needs_init : Nat := 37
abbrev Y_Needs_count : Nat := 38
abbrev Y_Needs_add : Nat := 39
abbrev Y_Needs_setCalled : Nat := 40
abbrev Y_Needs_isCalled : Nat := 41
abbrev Y_Needs_ownerOf : Nat := 42
abbrev Y_Needs_otherOf : Nat := 43
abbrev Y_Needs_leads : Nat := 44
abbrev Y_Needs_countBroken : Nat := 45
abbrev Y_Needs_areKept : Nat := 46
abbrev Y_Needs_isBroken : Nat := 47
abbrev Y_Needs_isActive : Nat := 48
abbrev Y_Needs_holds : Nat := 49
abbrev Y_Advisories_init : Nat := 50
abbrev Y_Advisories_count : Nat := 51
abbrev Y_Advisories_has : Nat := 52
abbrev Y_Advisories_add : Nat := 53
abbrev Y_Advisories_addSpan : Nat := 54
abbrev Y_Advisories_setScore : Nat := 55
abbrev Y_Advisories_scoreOf : Nat := 56
abbrev Y_Advisories_setWithdrawn : Nat := 57
abbrev Y_Advisories_groupOf : Nat := 58
abbrev Y_Advisories_renameGroup : Nat := 59
abbrev Y_Advisories_strikes : Nat := 60
abbrev Y_Advisories_scoreThere : Nat := 61
abbrev Y_Advisories_hasSpanWith : Nat := 62
abbrev Y_Exceptions_init : Nat := 63
abbrev Y_Exceptions_put : Nat := 64
abbrev Y_Exceptions_holds : Nat := 65
abbrev Y_Exceptions_join : Nat := 66
abbrev Y_Exceptions_areNumbers : Nat := 67
abbrev Y_Ways_init : Nat := 68
abbrev Y_Ways_lengthTo : Nat := 69
abbrev Y_Ways_measure : Nat := 70
abbrev Y_Ways_goOnByEachNeed : Nat := 71
abbrev Y_Ways_goOn : Nat := 72
abbrev Y_HitList_init : Nat := 73
abbrev Y_HitList_count : Nat := 74
abbrev Y_HitList_clear : Nat := 75
abbrev Y_HitList_add : Nat := 76
abbrev Y_HitList_part : Nat := 77
abbrev Y_Planner_init : Nat := 78
abbrev Y_Planner_markPlace : Nat := 79
abbrev Y_Planner_search : Nat := 80
abbrev Y_Planner_placeFor : Nat := 81
abbrev Y_Planner_carryOut : Nat := 82
abbrev Y_Planner_choose : Nat := 83
abbrev Y_Planner_settle : Nat := 84
abbrev Y_Planner_keepTried : Nat := 85
abbrev Y_Planner_isClearPlace : Nat := 86
abbrev Y_Planner_costOf : Nat := 87
abbrev Y_Model_init : Nat := 88
abbrev Y_Model_isPack : Nat := 89
abbrev Y_Model_isAdvisory : Nat := 90
abbrev Y_Model_in : Nat := 91
abbrev Y_Model_pack : Nat := 92
abbrev Y_Model_version : Nat := 93
abbrev Y_Model_install : Nat := 94
abbrev Y_Model_need : Nat := 95
abbrev Y_Model_call : Nat := 96
abbrev Y_Model_lookAtInstalled : Nat := 97
abbrev Y_Model_isActive : Nat := 98
abbrev Y_Model_doesHold : Nat := 99
abbrev Y_Model_lacking : Nat := 100
abbrev Y_Model_broken : Nat := 101
abbrev Y_Model_advisory : Nat := 102
abbrev Y_Model_span : Nat := 103
abbrev Y_Model_severity : Nat := 104
abbrev Y_Model_withdraw : Nat := 105
abbrev Y_Model_same : Nat := 106
abbrev Y_Model_group : Nat := 107
abbrev Y_Model_hundredths : Nat := 108
abbrev Y_Model_scoreOf : Nat := 109
abbrev Y_Model_score : Nat := 110
abbrev Y_Model_except : Nat := 111
abbrev Y_Model_tick : Nat := 112
abbrev Y_Model_hasSpan : Nat := 113
abbrev Y_Model_scoreThere : Nat := 114
abbrev Y_Model_isExcepted : Nat := 115
abbrev Y_Model_findWays : Nat := 116
abbrev Y_Model_tell : Nat := 117
abbrev Y_Model_hits : Nat := 118
abbrev Y_Model_hit : Nat := 119
abbrev Y_Model_findBad : Nat := 120
abbrev Y_Model_goesOn : Nat := 121
abbrev Y_Model_mayBe : Nat := 122
abbrev Y_Model_cost : Nat := 123
abbrev Y_Model_plan : Nat := 124
abbrev Y_Model_planned : Nat := 125
abbrev Y_Model_update : Nat := 126
abbrev Y_Severity_areChoices : Nat := 127
abbrev Y_Severity_tenths : Nat := 128
abbrev Y_Severity_impactOf : Nat := 129
def ax_nM : Nat := 130
abbrev ax_law : Nat := 130
def ax_nml : List MethodName := [⟨"java/util/Arrays", "fill", "([II)V"⟩, ⟨"AdvisoryMatch", "<init>", "()V"⟩, ⟨"AdvisoryMatch", "pack", "(Z)I"⟩, ⟨"AdvisoryMatch", "version", "(II)I"⟩, ⟨"AdvisoryMatch", "install", "(II)Z"⟩, ⟨"AdvisoryMatch", "need", "(IIIII)I"⟩, ⟨"AdvisoryMatch", "call", "(IZ)Z"⟩, ⟨"AdvisoryMatch", "advisory", "(I)I"⟩, ⟨"AdvisoryMatch", "span", "(III)Z"⟩, ⟨"AdvisoryMatch", "severity", "(IIIIII)Z"⟩, ⟨"AdvisoryMatch", "withdraw", "(IZ)Z"⟩, ⟨"AdvisoryMatch", "same", "(II)I"⟩, ⟨"AdvisoryMatch", "group", "(I)I"⟩, ⟨"AdvisoryMatch", "score", "(I)I"⟩, ⟨"AdvisoryMatch", "except", "(III)Z"⟩, ⟨"AdvisoryMatch", "tick", "(I)I"⟩, ⟨"AdvisoryMatch", "hits", "()I"⟩, ⟨"AdvisoryMatch", "hit", "(II)I"⟩, ⟨"AdvisoryMatch", "broken", "()I"⟩, ⟨"AdvisoryMatch", "plan", "()I"⟩, ⟨"AdvisoryMatch", "planned", "(I)I"⟩, ⟨"AdvisoryMatch", "update", "()I"⟩, ⟨"AdvisoryMatch", "noteHitsOf", "(I)V"⟩, ⟨"AdvisoryMatch", "markPlacesOf", "(I)V"⟩, ⟨"AdvisoryMatch", "isClear", "(II)Z"⟩, ⟨"AdvisoryMatch", "isBelow", "(II)Z"⟩, ⟨"AdvisoryMatch$Packs", "<init>", "()V"⟩, ⟨"AdvisoryMatch$Packs", "count", "()I"⟩, ⟨"AdvisoryMatch$Packs", "has", "(I)Z"⟩, ⟨"AdvisoryMatch$Packs", "add", "(Z)I"⟩, ⟨"AdvisoryMatch$Packs", "countVersions", "(I)I"⟩, ⟨"AdvisoryMatch$Packs", "addVersion", "(II)I"⟩, ⟨"AdvisoryMatch$Packs", "versionAt", "(II)I"⟩, ⟨"AdvisoryMatch$Packs", "putPlace", "(II)Z"⟩, ⟨"AdvisoryMatch$Packs", "placeOf", "(I)I"⟩, ⟨"AdvisoryMatch$Packs", "installedVersions", "()[I"⟩, ⟨"AdvisoryMatch$Packs", "isInstalledRoot", "(I)Z"⟩, ⟨"AdvisoryMatch$Needs", "<init>", "()V"⟩, ⟨"AdvisoryMatch$Needs", "count", "()I"⟩, ⟨"AdvisoryMatch$Needs", "add", "(IIIII)I"⟩, ⟨"AdvisoryMatch$Needs", "setCalled", "(IZ)Z"⟩, ⟨"AdvisoryMatch$Needs", "isCalled", "(I)Z"⟩, ⟨"AdvisoryMatch$Needs", "ownerOf", "(I)I"⟩, ⟨"AdvisoryMatch$Needs", "otherOf", "(I)I"⟩, ⟨"AdvisoryMatch$Needs", "leads", "(I[I)Z"⟩, ⟨"AdvisoryMatch$Needs", "countBroken", "([I)I"⟩, ⟨"AdvisoryMatch$Needs", "areKept", "(I[I)Z"⟩, ⟨"AdvisoryMatch$Needs", "isBroken", "(I[I)Z"⟩, ⟨"AdvisoryMatch$Needs", "isActive", "(I[I)Z"⟩, ⟨"AdvisoryMatch$Needs", "holds", "(I[I)Z"⟩, ⟨"AdvisoryMatch$Advisories", "<init>", "()V"⟩, ⟨"AdvisoryMatch$Advisories", "count", "()I"⟩, ⟨"AdvisoryMatch$Advisories", "has", "(I)Z"⟩, ⟨"AdvisoryMatch$Advisories", "add", "(I)I"⟩, ⟨"AdvisoryMatch$Advisories", "addSpan", "(III)Z"⟩, ⟨"AdvisoryMatch$Advisories", "setScore", "(II)V"⟩, ⟨"AdvisoryMatch$Advisories", "scoreOf", "(I)I"⟩, ⟨"AdvisoryMatch$Advisories", "setWithdrawn", "(IZ)Z"⟩, ⟨"AdvisoryMatch$Advisories", "groupOf", "(I)I"⟩, ⟨"AdvisoryMatch$Advisories", "renameGroup", "(II)V"⟩, ⟨"AdvisoryMatch$Advisories", "strikes", "(III)Z"⟩, ⟨"AdvisoryMatch$Advisories", "scoreThere", "(III)I"⟩, ⟨"AdvisoryMatch$Advisories", "hasSpanWith", "(II)Z"⟩, ⟨"AdvisoryMatch$Exceptions", "<init>", "()V"⟩, ⟨"AdvisoryMatch$Exceptions", "put", "(III)V"⟩, ⟨"AdvisoryMatch$Exceptions", "holds", "(III)Z"⟩, ⟨"AdvisoryMatch$Exceptions", "join", "(II)V"⟩, ⟨"AdvisoryMatch$Exceptions", "areNumbers", "(II)Z"⟩, ⟨"AdvisoryMatch$Ways", "<init>", "(LAdvisoryMatch$Packs;LAdvisoryMatch$Needs;Z)V"⟩, ⟨"AdvisoryMatch$Ways", "lengthTo", "(I)I"⟩, ⟨"AdvisoryMatch$Ways", "measure", "()V"⟩, ⟨"AdvisoryMatch$Ways", "goOnByEachNeed", "()V"⟩, ⟨"AdvisoryMatch$Ways", "goOn", "(II)V"⟩, ⟨"AdvisoryMatch$HitList", "<init>", "()V"⟩, ⟨"AdvisoryMatch$HitList", "count", "()I"⟩, ⟨"AdvisoryMatch$HitList", "clear", "()V"⟩, ⟨"AdvisoryMatch$HitList", "add", "(IIIIII)V"⟩, ⟨"AdvisoryMatch$HitList", "part", "(II)I"⟩, ⟨"AdvisoryMatch$Planner", "<init>", "(LAdvisoryMatch$Packs;LAdvisoryMatch$Needs;)V"⟩, ⟨"AdvisoryMatch$Planner", "markPlace", "(IIZ)V"⟩, ⟨"AdvisoryMatch$Planner", "search", "()I"⟩, ⟨"AdvisoryMatch$Planner", "placeFor", "(I)I"⟩, ⟨"AdvisoryMatch$Planner", "carryOut", "()I"⟩, ⟨"AdvisoryMatch$Planner", "choose", "(II)V"⟩, ⟨"AdvisoryMatch$Planner", "settle", "(III)V"⟩, ⟨"AdvisoryMatch$Planner", "keepTried", "(I)V"⟩, ⟨"AdvisoryMatch$Planner", "isClearPlace", "(II)Z"⟩, ⟨"AdvisoryMatch$Planner", "costOf", "(II)I"⟩, ⟨"AdvisoryMatchModel", "<init>", "()V"⟩, ⟨"AdvisoryMatchModel", "isPack", "(I)Z"⟩, ⟨"AdvisoryMatchModel", "isAdvisory", "(I)Z"⟩, ⟨"AdvisoryMatchModel", "in", "(III)Z"⟩, ⟨"AdvisoryMatchModel", "pack", "(Z)I"⟩, ⟨"AdvisoryMatchModel", "version", "(II)I"⟩, ⟨"AdvisoryMatchModel", "install", "(II)Z"⟩, ⟨"AdvisoryMatchModel", "need", "(IIIII)I"⟩, ⟨"AdvisoryMatchModel", "call", "(IZ)Z"⟩, ⟨"AdvisoryMatchModel", "lookAtInstalled", "()V"⟩, ⟨"AdvisoryMatchModel", "isActive", "(I)Z"⟩, ⟨"AdvisoryMatchModel", "doesHold", "(I)Z"⟩, ⟨"AdvisoryMatchModel", "lacking", "()I"⟩, ⟨"AdvisoryMatchModel", "broken", "()I"⟩, ⟨"AdvisoryMatchModel", "advisory", "(I)I"⟩, ⟨"AdvisoryMatchModel", "span", "(III)Z"⟩, ⟨"AdvisoryMatchModel", "severity", "(IIIIII)Z"⟩, ⟨"AdvisoryMatchModel", "withdraw", "(IZ)Z"⟩, ⟨"AdvisoryMatchModel", "same", "(II)I"⟩, ⟨"AdvisoryMatchModel", "group", "(I)I"⟩, ⟨"AdvisoryMatchModel", "hundredths", "(II)I"⟩, ⟨"AdvisoryMatchModel", "scoreOf", "(I)I"⟩, ⟨"AdvisoryMatchModel", "score", "(I)I"⟩, ⟨"AdvisoryMatchModel", "except", "(III)Z"⟩, ⟨"AdvisoryMatchModel", "tick", "(I)I"⟩, ⟨"AdvisoryMatchModel", "hasSpan", "(II)Z"⟩, ⟨"AdvisoryMatchModel", "scoreThere", "(III)I"⟩, ⟨"AdvisoryMatchModel", "isExcepted", "(II)Z"⟩, ⟨"AdvisoryMatchModel", "findWays", "()V"⟩, ⟨"AdvisoryMatchModel", "tell", "(III)V"⟩, ⟨"AdvisoryMatchModel", "hits", "()I"⟩, ⟨"AdvisoryMatchModel", "hit", "(II)I"⟩, ⟨"AdvisoryMatchModel", "findBad", "()V"⟩, ⟨"AdvisoryMatchModel", "goesOn", "()Z"⟩, ⟨"AdvisoryMatchModel", "mayBe", "()Z"⟩, ⟨"AdvisoryMatchModel", "cost", "()I"⟩, ⟨"AdvisoryMatchModel", "plan", "()I"⟩, ⟨"AdvisoryMatchModel", "planned", "(I)I"⟩, ⟨"AdvisoryMatchModel", "update", "()I"⟩, ⟨"AdvisoryMatch$Severity", "areChoices", "(IIIII)Z"⟩, ⟨"AdvisoryMatch$Severity", "tenths", "(IIIII)I"⟩, ⟨"AdvisoryMatch$Severity", "impactOf", "(I)J"⟩, ⟨"AdvisoryMatchLaw", "law", "([I)Z"⟩]
def ax_byl : List ByteArray := [prog_14_method_103_code, prog_1_method_1_code, prog_1_method_2_code, prog_1_method_3_code, prog_1_method_4_code, prog_1_method_5_code, prog_1_method_6_code, prog_1_method_7_code, prog_1_method_8_code, prog_1_method_9_code, prog_1_method_10_code, prog_1_method_11_code, prog_1_method_12_code, prog_1_method_13_code, prog_1_method_14_code, prog_1_method_15_code, prog_1_method_16_code, prog_1_method_17_code, prog_1_method_18_code, prog_1_method_19_code, prog_1_method_20_code, prog_1_method_21_code, prog_1_method_22_code, prog_1_method_23_code, prog_1_method_24_code, prog_1_method_25_code, prog_6_method_1_code, prog_6_method_2_code, prog_6_method_3_code, prog_6_method_4_code, prog_6_method_5_code, prog_6_method_6_code, prog_6_method_7_code, prog_6_method_8_code, prog_6_method_9_code, prog_6_method_10_code, prog_6_method_11_code, prog_5_method_1_code, prog_5_method_2_code, prog_5_method_3_code, prog_5_method_4_code, prog_5_method_5_code, prog_5_method_6_code, prog_5_method_7_code, prog_5_method_8_code, prog_5_method_9_code, prog_5_method_10_code, prog_5_method_11_code, prog_5_method_12_code, prog_5_method_13_code, prog_2_method_1_code, prog_2_method_2_code, prog_2_method_3_code, prog_2_method_4_code, prog_2_method_5_code, prog_2_method_6_code, prog_2_method_7_code, prog_2_method_8_code, prog_2_method_9_code, prog_2_method_10_code, prog_2_method_11_code, prog_2_method_12_code, prog_2_method_13_code, prog_3_method_1_code, prog_3_method_2_code, prog_3_method_3_code, prog_3_method_4_code, prog_3_method_5_code, prog_9_method_1_code, prog_9_method_2_code, prog_9_method_3_code, prog_9_method_4_code, prog_9_method_5_code, prog_4_method_1_code, prog_4_method_2_code, prog_4_method_3_code, prog_4_method_4_code, prog_4_method_5_code, prog_7_method_1_code, prog_7_method_2_code, prog_7_method_3_code, prog_7_method_4_code, prog_7_method_5_code, prog_7_method_6_code, prog_7_method_7_code, prog_7_method_8_code, prog_7_method_9_code, prog_7_method_10_code, prog_11_method_1_code, prog_11_method_3_code, prog_11_method_4_code, prog_11_method_5_code, prog_11_method_6_code, prog_11_method_7_code, prog_11_method_8_code, prog_11_method_9_code, prog_11_method_10_code, prog_11_method_11_code, prog_11_method_12_code, prog_11_method_13_code, prog_11_method_14_code, prog_11_method_15_code, prog_11_method_16_code, prog_11_method_17_code, prog_11_method_18_code, prog_11_method_19_code, prog_11_method_20_code, prog_11_method_21_code, prog_11_method_22_code, prog_11_method_23_code, prog_11_method_24_code, prog_11_method_25_code, prog_11_method_26_code, prog_11_method_27_code, prog_11_method_28_code, prog_11_method_29_code, prog_11_method_30_code, prog_11_method_31_code, prog_11_method_32_code, prog_11_method_33_code, prog_11_method_34_code, prog_11_method_35_code, prog_11_method_36_code, prog_11_method_37_code, prog_11_method_38_code, prog_11_method_39_code, prog_11_method_40_code, prog_8_method_2_code, prog_8_method_3_code, prog_8_method_4_code, code]
def ax_mll : List Nat := [4, 1, 2, 3, 3, 6, 3, 2, 4, 7, 3, 5, 2, 2, 4, 2, 2, 3, 1, 2, 2, 1, 7, 3, 4, 2, 1, 1, 2, 2, 2, 4, 3, 3, 2, 1, 2, 1, 1, 6, 3, 2, 2, 2, 3, 4, 4, 3, 4, 4, 1, 1, 2, 2, 5, 3, 2, 3, 2, 4, 4, 6, 5, 1, 4, 4, 4, 2, 4, 2, 2, 2, 4, 1, 1, 1, 8, 3, 3, 4, 1, 2, 4, 5, 4, 2, 3, 2, 2, 2, 2, 3, 2, 4, 3, 6, 3, 2, 3, 4, 3, 1, 2, 4, 8, 3, 7, 2, 2, 10, 2, 4, 2, 5, 7, 3, 3, 5, 5, 3, 5, 2, 2, 4, 4, 2, 3, 5, 11, 6, maxLocals]
def ax_rtl : List (Option FieldType) := [none, none, (some .int), (some .int), (some .boolean), (some .int), (some .boolean), (some .int), (some .boolean), (some .boolean), (some .boolean), (some .int), (some .int), (some .int), (some .boolean), (some .int), (some .int), (some .int), (some .int), (some .int), (some .int), (some .int), none, none, (some .boolean), (some .boolean), none, (some .int), (some .boolean), (some .int), (some .int), (some .int), (some .int), (some .boolean), (some .int), (some (.array .int)), (some .boolean), none, (some .int), (some .int), (some .boolean), (some .boolean), (some .int), (some .int), (some .boolean), (some .int), (some .boolean), (some .boolean), (some .boolean), (some .boolean), none, (some .int), (some .boolean), (some .int), (some .boolean), none, (some .int), (some .boolean), (some .int), none, (some .boolean), (some .int), (some .boolean), none, none, (some .boolean), none, (some .boolean), none, (some .int), none, none, none, none, (some .int), none, none, (some .int), none, none, (some .int), (some .int), (some .int), none, none, none, (some .boolean), (some .int), none, (some .boolean), (some .boolean), (some .boolean), (some .int), (some .int), (some .boolean), (some .int), (some .boolean), none, (some .boolean), (some .boolean), (some .int), (some .int), (some .int), (some .boolean), (some .boolean), (some .boolean), (some .int), (some .int), (some .int), (some .int), (some .int), (some .boolean), (some .int), (some .boolean), (some .int), (some .boolean), none, none, (some .int), (some .int), none, (some .boolean), (some .boolean), (some .int), (some .int), (some .int), (some .int), (some .boolean), (some .int), (some .long), ret]
def ax_rcl : List Nat := [0, 0, 0, 0, 0, 0, 0, 0, 0, 0, 0, 0, 0, 0, 0, 0, 0, 0, 0, 0, 0, 0, 0, 0, 0, 0, 1, 1, 1, 1, 1, 1, 1, 1, 1, 1, 1, 2, 2, 2, 2, 2, 2, 2, 2, 2, 2, 2, 2, 2, 3, 3, 3, 3, 3, 3, 3, 3, 3, 3, 3, 3, 3, 4, 4, 4, 4, 4, 5, 5, 5, 5, 5, 6, 6, 6, 6, 6, 7, 7, 7, 7, 7, 7, 7, 7, 7, 7, 8, 8, 8, 8, 8, 8, 8, 8, 8, 8, 8, 8, 8, 8, 8, 8, 8, 8, 8, 8, 8, 8, 8, 8, 8, 8, 8, 8, 8, 8, 8, 8, 8, 8, 8, 8, 8, 8, 8, 0, 0, 0, 0]
def ax_kcl : List (Nat × Nat) := [(0, 0), (88, 580), (0, 0), (0, 0), (0, 0), (0, 0), (0, 0), (0, 0), (0, 0), (0, 0), (0, 0), (0, 0), (0, 0), (0, 0), (0, 0), (0, 0), (0, 0), (0, 0), (0, 0), (0, 0), (0, 0), (0, 0), (0, 0), (0, 0), (0, 0), (0, 0), (11, 60), (0, 0), (0, 0), (0, 0), (0, 0), (0, 0), (0, 0), (0, 0), (0, 0), (0, 0), (0, 0), (6, 96), (0, 0), (0, 0), (0, 0), (0, 0), (0, 0), (0, 0), (0, 0), (0, 0), (0, 0), (0, 0), (0, 0), (0, 0), (31, 156), (0, 0), (0, 0), (0, 0), (0, 0), (0, 0), (0, 0), (0, 0), (0, 0), (0, 0), (0, 0), (0, 0), (0, 0), (13, 84), (0, 0), (0, 0), (0, 0), (0, 0), (1, 6), (0, 0), (0, 0), (0, 0), (0, 0), (13, 84), (0, 0), (0, 0), (0, 0), (0, 0), (4, 48), (0, 0), (0, 0), (0, 0), (0, 0), (0, 0), (0, 0), (0, 0), (0, 0), (0, 0), (25, 912), (0, 0), (0, 0), (0, 0), (0, 0), (0, 0), (0, 0), (0, 0), (0, 0), (0, 0), (0, 0), (0, 0), (0, 0), (0, 0), (0, 0), (0, 0), (0, 0), (0, 0), (0, 0), (0, 0), (0, 0), (0, 0), (0, 0), (0, 0), (0, 0), (0, 0), (0, 0), (0, 0), (0, 0), (0, 0), (0, 0), (0, 0), (0, 0), (0, 0), (0, 0), (0, 0), (0, 0), (0, 0), (0, 0), (0, 0), (0, 0), (0, 0), (0, 0)]
def ax_nm (y : Nat) : MethodName := (ax_nml[y]?).getD ⟨"", "", ""⟩
def ax_by (y : Nat) : ByteArray := (ax_byl[y]?).getD ⟨#[]⟩
def ax_ml (y : Nat) : Nat := (ax_mll[y]?).getD 0
def ax_rt (y : Nat) : Option FieldType := (ax_rtl[y]?).getD none
def ax_rc (y : Nat) : Nat := (ax_rcl[y]?).getD 0
def ax_kc (y : Nat) : Nat × Nat := (ax_kcl[y]?).getD (0, 0)
def tb_Arrays_fill : List (Nat × am_In) := [(0, 0, 0, 0, 0, 1), (1, 4, 2, 0, 0, 2), (2, 2, 0, 0, 0, 3), (3, 27, 0, 0, 0, 4), (4, 4, 3, 0, 0, 5), (5, 1, 2, 0, 0, 6), (6, 1, 3, 0, 0, 7), (7, 15, 20, 3, 0, 10), (10, 2, 0, 0, 0, 11), (11, 1, 2, 0, 0, 12), (12, 1, 1, 0, 0, 13), (13, 25, 0, 0, 0, 14), (14, 7, 2, 0, 1, 17), (17, 16, 5, 0, 0, 20), (20, 30, 0, 0, 0, 21)]
def tb_AM_init : List (Nat × am_In) := [(0, 2, 0, 0, 0, 1), (1, 58, 0, 0, 1, 4), (4, 2, 0, 0, 0, 5), (5, 35, 1, 6, 7, 8), (8, 38, 0, 0, 0, 9), (9, 29, 26, 1, 9, 12), (12, 21, 0, 0, 10, 15), (15, 2, 0, 0, 0, 16), (16, 35, 2, 7, 16, 19), (19, 38, 0, 0, 0, 20), (20, 29, 37, 1, 18, 23), (23, 21, 0, 1, 19, 26), (26, 2, 0, 0, 0, 27), (27, 35, 3, 8, 23, 30), (30, 38, 0, 0, 0, 31), (31, 29, 50, 1, 25, 34), (34, 21, 0, 2, 26, 37), (37, 2, 0, 0, 0, 38), (38, 35, 4, 1, 30, 41), (41, 38, 0, 0, 0, 42), (42, 29, 63, 1, 32, 45), (45, 21, 0, 3, 33, 48), (48, 2, 0, 0, 0, 49), (49, 35, 5, 4, 37, 52), (52, 38, 0, 0, 0, 53), (53, 2, 0, 0, 0, 54), (54, 18, 0, 0, 10, 57), (57, 2, 0, 0, 0, 58), (58, 18, 0, 1, 19, 61), (61, 0, 0, 0, 0, 62), (62, 29, 68, 4, 39, 65), (65, 21, 0, 4, 42, 68), (68, 2, 0, 0, 0, 69), (69, 35, 5, 4, 37, 72), (72, 38, 0, 0, 0, 73), (73, 2, 0, 0, 0, 74), (74, 18, 0, 0, 10, 77), (77, 2, 0, 0, 0, 78), (78, 18, 0, 1, 19, 81), (81, 0, 0, 0, 1, 82), (82, 29, 68, 4, 39, 85), (85, 21, 0, 5, 46, 88), (88, 2, 0, 0, 0, 89), (89, 35, 6, 2, 49, 92), (92, 38, 0, 0, 0, 93), (93, 29, 73, 1, 51, 96), (96, 21, 0, 6, 52, 99), (99, 2, 0, 0, 0, 100), (100, 35, 7, 8, 56, 103), (103, 38, 0, 0, 0, 104), (104, 2, 0, 0, 0, 105), (105, 18, 0, 0, 10, 108), (108, 2, 0, 0, 0, 109), (109, 18, 0, 1, 19, 112), (112, 29, 78, 3, 58, 115), (115, 21, 0, 7, 61, 118), (118, 2, 0, 0, 0, 119), (119, 0, 0, 0, 0, 120), (120, 19, 0, 8, 65, 123), (123, 30, 0, 0, 0, 124)]
def tb_AM_pack : List (Nat × am_In) := [(0, 2, 0, 0, 0, 1), (1, 18, 0, 0, 10, 4), (4, 1, 1, 0, 0, 5), (5, 29, 29, 2, 69, 8), (8, 31, 0, 0, 0, 9)]
def tb_AM_version : List (Nat × am_In) := [(0, 2, 0, 0, 0, 1), (1, 18, 0, 0, 10, 4), (4, 1, 1, 0, 0, 5), (5, 1, 2, 0, 0, 6), (6, 29, 31, 3, 73, 9), (9, 31, 0, 0, 0, 10)]
def tb_AM_install : List (Nat × am_In) := [(0, 2, 0, 0, 0, 1), (1, 18, 0, 0, 10, 4), (4, 1, 1, 0, 0, 5), (5, 1, 2, 0, 0, 6), (6, 29, 33, 3, 77, 9), (9, 32, 0, 0, 0, 10)]
def tb_AM_need : List (Nat × am_In) := [(0, 2, 0, 0, 0, 1), (1, 18, 0, 0, 10, 4), (4, 1, 1, 0, 0, 5), (5, 29, 28, 2, 81, 8), (8, 14, 22, 0, 0, 11), (11, 2, 0, 0, 0, 12), (12, 18, 0, 0, 10, 15), (15, 1, 3, 0, 0, 16), (16, 29, 28, 2, 81, 19), (19, 14, 24, 1, 0, 22), (22, 0, 0, 0, (-1), 23), (23, 31, 0, 0, 0, 24), (24, 2, 0, 0, 0, 25), (25, 18, 0, 1, 19, 28), (28, 1, 1, 0, 0, 29), (29, 1, 2, 0, 0, 30), (30, 1, 3, 0, 0, 31), (31, 1, 4, 0, 0, 33), (33, 1, 5, 0, 0, 35), (35, 29, 39, 6, 85, 38), (38, 31, 0, 0, 0, 39)]
def tb_AM_call : List (Nat × am_In) := [(0, 2, 0, 0, 0, 1), (1, 18, 0, 1, 19, 4), (4, 1, 1, 0, 0, 5), (5, 1, 2, 0, 0, 6), (6, 29, 40, 3, 88, 9), (9, 32, 0, 0, 0, 10)]
def tb_AM_advisory : List (Nat × am_In) := [(0, 2, 0, 0, 0, 1), (1, 18, 0, 0, 10, 4), (4, 1, 1, 0, 0, 5), (5, 29, 28, 2, 81, 8), (8, 14, 22, 0, 0, 11), (11, 2, 0, 0, 0, 12), (12, 18, 0, 2, 26, 15), (15, 1, 1, 0, 0, 16), (16, 29, 53, 2, 92, 19), (19, 16, 23, 0, 0, 22), (22, 0, 0, 0, (-1), 23), (23, 31, 0, 0, 0, 24)]
def tb_AM_span : List (Nat × am_In) := [(0, 2, 0, 0, 0, 1), (1, 18, 0, 2, 26, 4), (4, 1, 1, 0, 0, 5), (5, 1, 2, 0, 0, 6), (6, 1, 3, 0, 0, 7), (7, 29, 54, 4, 95, 10), (10, 32, 0, 0, 0, 11)]
def tb_AM_severity : List (Nat × am_In) := [(0, 2, 0, 0, 0, 1), (1, 18, 0, 2, 26, 4), (4, 1, 1, 0, 0, 5), (5, 29, 52, 2, 99, 8), (8, 14, 25, 0, 0, 11), (11, 1, 2, 0, 0, 12), (12, 1, 3, 0, 0, 13), (13, 1, 4, 0, 0, 15), (15, 1, 5, 0, 0, 17), (17, 1, 6, 0, 0, 19), (19, 28, 127, 5, 100, 22), (22, 14, 27, 1, 0, 25), (25, 0, 0, 0, 0, 26), (26, 32, 0, 0, 0, 27), (27, 2, 0, 0, 0, 28), (28, 18, 0, 2, 26, 31), (31, 1, 1, 0, 0, 32), (32, 1, 2, 0, 0, 33), (33, 1, 3, 0, 0, 34), (34, 1, 4, 0, 0, 36), (36, 1, 5, 0, 0, 38), (38, 1, 6, 0, 0, 40), (40, 28, 128, 5, 106, 43), (43, 29, 55, 3, 109, 46), (46, 0, 0, 0, 1, 47), (47, 32, 0, 0, 0, 48)]
def tb_AM_withdraw : List (Nat × am_In) := [(0, 2, 0, 0, 0, 1), (1, 18, 0, 2, 26, 4), (4, 1, 1, 0, 0, 5), (5, 1, 2, 0, 0, 6), (6, 29, 57, 3, 113, 9), (9, 32, 0, 0, 0, 10)]
def tb_AM_same : List (Nat × am_In) := [(0, 2, 0, 0, 0, 1), (1, 18, 0, 2, 26, 4), (4, 1, 1, 0, 0, 5), (5, 29, 52, 2, 99, 8), (8, 14, 22, 0, 0, 11), (11, 2, 0, 0, 0, 12), (12, 18, 0, 2, 26, 15), (15, 1, 2, 0, 0, 16), (16, 29, 52, 2, 99, 19), (19, 14, 24, 1, 0, 22), (22, 0, 0, 0, (-1), 23), (23, 31, 0, 0, 0, 24), (24, 2, 0, 0, 0, 25), (25, 18, 0, 2, 26, 28), (28, 1, 1, 0, 0, 29), (29, 29, 58, 2, 116, 32), (32, 2, 0, 0, 0, 33), (33, 18, 0, 2, 26, 36), (36, 1, 2, 0, 0, 37), (37, 29, 58, 2, 116, 40), (40, 54, 0, 0, 119, 43), (43, 4, 3, 0, 0, 44), (44, 2, 0, 0, 0, 45), (45, 18, 0, 2, 26, 48), (48, 1, 1, 0, 0, 49), (49, 29, 58, 2, 116, 52), (52, 2, 0, 0, 0, 53), (53, 18, 0, 2, 26, 56), (56, 1, 2, 0, 0, 57), (57, 29, 58, 2, 116, 60), (60, 53, 0, 0, 124, 63), (63, 4, 4, 0, 0, 65), (65, 2, 0, 0, 0, 66), (66, 18, 0, 2, 26, 69), (69, 1, 4, 0, 0, 71), (71, 1, 3, 0, 0, 72), (72, 29, 59, 3, 127, 75), (75, 2, 0, 0, 0, 76), (76, 18, 0, 3, 33, 79), (79, 1, 4, 0, 0, 81), (81, 1, 3, 0, 0, 82), (82, 29, 66, 3, 130, 85), (85, 1, 3, 0, 0, 86), (86, 31, 0, 0, 0, 87)]
def tb_AM_group : List (Nat × am_In) := [(0, 2, 0, 0, 0, 1), (1, 18, 0, 2, 26, 4), (4, 1, 1, 0, 0, 5), (5, 29, 58, 2, 116, 8), (8, 31, 0, 0, 0, 9)]
def tb_AM_score : List (Nat × am_In) := [(0, 2, 0, 0, 0, 1), (1, 18, 0, 2, 26, 4), (4, 1, 1, 0, 0, 5), (5, 29, 56, 2, 133, 8), (8, 31, 0, 0, 0, 9)]
def tb_AM_except : List (Nat × am_In) := [(0, 2, 0, 0, 0, 1), (1, 18, 0, 2, 26, 4), (4, 1, 1, 0, 0, 5), (5, 29, 52, 2, 99, 8), (8, 14, 26, 0, 0, 11), (11, 2, 0, 0, 0, 12), (12, 18, 0, 0, 10, 15), (15, 1, 2, 0, 0, 16), (16, 29, 28, 2, 81, 19), (19, 14, 26, 0, 0, 22), (22, 1, 3, 0, 0, 23), (23, 14, 28, 3, 0, 26), (26, 0, 0, 0, 0, 27), (27, 32, 0, 0, 0, 28), (28, 2, 0, 0, 0, 29), (29, 18, 0, 3, 33, 32), (32, 2, 0, 0, 0, 33), (33, 18, 0, 2, 26, 36), (36, 1, 1, 0, 0, 37), (37, 29, 58, 2, 116, 40), (40, 1, 2, 0, 0, 41), (41, 1, 3, 0, 0, 42), (42, 29, 64, 4, 136, 45), (45, 0, 0, 0, 1, 46), (46, 32, 0, 0, 0, 47)]
def tb_AM_tick : List (Nat × am_In) := [(0, 1, 1, 0, 0, 1), (1, 14, 21, 2, 0, 4), (4, 1, 1, 0, 0, 5), (5, 0, 140, 3, 1000000, 7), (7, 15, 21, 4, 0, 10), (10, 1, 1, 0, 0, 11), (11, 0, 141, 3, 1000000000, 13), (13, 2, 0, 0, 0, 14), (14, 17, 0, 8, 65, 17), (17, 9, 0, 0, 0, 18), (18, 15, 23, 5, 0, 21), (21, 0, 0, 0, (-1), 22), (22, 31, 0, 0, 0, 23), (23, 2, 0, 0, 0, 24), (24, 38, 0, 0, 0, 25), (25, 17, 0, 8, 65, 28), (28, 1, 1, 0, 0, 29), (29, 8, 0, 0, 0, 30), (30, 19, 0, 8, 65, 33), (33, 2, 0, 0, 0, 34), (34, 17, 0, 8, 65, 37), (37, 31, 0, 0, 0, 38)]
def tb_AM_hits : List (Nat × am_In) := [(0, 2, 0, 0, 0, 1), (1, 18, 0, 4, 42, 4), (4, 29, 70, 1, 142, 7), (7, 2, 0, 0, 0, 8), (8, 18, 0, 5, 46, 11), (11, 29, 70, 1, 142, 14), (14, 2, 0, 0, 0, 15), (15, 18, 0, 6, 52, 18), (18, 29, 75, 1, 145, 21), (21, 0, 0, 0, 0, 22), (22, 4, 1, 0, 0, 23), (23, 1, 1, 0, 0, 24), (24, 2, 0, 0, 0, 25), (25, 18, 0, 0, 10, 28), (28, 29, 27, 1, 148, 31), (31, 15, 45, 3, 0, 34), (34, 2, 0, 0, 0, 35), (35, 1, 1, 0, 0, 36), (36, 29, 22, 2, 152, 39), (39, 7, 1, 0, 1, 42), (42, 16, 23, 0, 0, 45), (45, 2, 0, 0, 0, 46), (46, 18, 0, 6, 52, 49), (49, 29, 74, 1, 156, 52), (52, 31, 0, 0, 0, 53)]
def tb_AM_hit : List (Nat × am_In) := [(0, 2, 0, 0, 0, 1), (1, 18, 0, 6, 52, 4), (4, 1, 1, 0, 0, 5), (5, 1, 2, 0, 0, 6), (6, 29, 77, 3, 157, 9), (9, 31, 0, 0, 0, 10)]
def tb_AM_broken : List (Nat × am_In) := [(0, 2, 0, 0, 0, 1), (1, 18, 0, 1, 19, 4), (4, 2, 0, 0, 0, 5), (5, 18, 0, 0, 10, 8), (8, 29, 35, 1, 160, 11), (11, 29, 45, 2, 164, 14), (14, 31, 0, 0, 0, 15)]
def tb_AM_plan : List (Nat × am_In) := [(0, 0, 0, 0, 0, 1), (1, 4, 1, 0, 0, 2), (2, 1, 1, 0, 0, 3), (3, 2, 0, 0, 0, 4), (4, 18, 0, 0, 10, 7), (7, 29, 27, 1, 148, 10), (10, 15, 24, 3, 0, 13), (13, 2, 0, 0, 0, 14), (14, 1, 1, 0, 0, 15), (15, 29, 23, 2, 168, 18), (18, 7, 1, 0, 1, 21), (21, 16, 2, 0, 0, 24), (24, 2, 0, 0, 0, 25), (25, 18, 0, 7, 61, 28), (28, 29, 80, 1, 171, 31), (31, 31, 0, 0, 0, 32)]
def tb_AM_planned : List (Nat × am_In) := [(0, 2, 0, 0, 0, 1), (1, 18, 0, 7, 61, 4), (4, 1, 1, 0, 0, 5), (5, 29, 81, 2, 174, 8), (8, 31, 0, 0, 0, 9)]
def tb_AM_update : List (Nat × am_In) := [(0, 2, 0, 0, 0, 1), (1, 18, 0, 7, 61, 4), (4, 29, 82, 1, 177, 7), (7, 31, 0, 0, 0, 8)]
def tb_AM_noteHitsOf : List (Nat × am_In) := [(0, 2, 0, 0, 0, 1), (1, 18, 0, 0, 10, 4), (4, 1, 1, 0, 0, 5), (5, 2, 0, 0, 0, 6), (6, 18, 0, 0, 10, 9), (9, 1, 1, 0, 0, 10), (10, 29, 34, 2, 180, 13), (13, 29, 32, 3, 183, 16), (16, 4, 2, 0, 0, 17), (17, 1, 2, 0, 0, 18), (18, 0, 0, 0, (-1), 19), (19, 15, 23, 1, 0, 22), (22, 30, 0, 0, 0, 23), (23, 0, 0, 0, 0, 24), (24, 4, 3, 0, 0, 25), (25, 1, 3, 0, 0, 26), (26, 2, 0, 0, 0, 27), (27, 18, 0, 2, 26, 30), (30, 29, 51, 1, 186, 33), (33, 15, 125, 3, 0, 36), (36, 2, 0, 0, 0, 37), (37, 18, 0, 2, 26, 40), (40, 1, 3, 0, 0, 41), (41, 1, 1, 0, 0, 42), (42, 1, 2, 0, 0, 43), (43, 29, 61, 4, 187, 46), (46, 4, 4, 0, 0, 48), (48, 1, 4, 0, 0, 50), (50, 0, 0, 0, (-1), 51), (51, 15, 119, 0, 0, 54), (54, 2, 0, 0, 0, 55), (55, 18, 0, 5, 46, 58), (58, 1, 1, 0, 0, 59), (59, 29, 69, 2, 191, 62), (62, 0, 0, 0, (-1), 63), (63, 15, 70, 1, 0, 66), (66, 0, 0, 0, 0, 67), (67, 16, 71, 0, 0, 70), (70, 0, 0, 0, 1, 71), (71, 4, 5, 0, 0, 73), (73, 2, 0, 0, 0, 74), (74, 18, 0, 3, 33, 77), (77, 1, 3, 0, 0, 78), (78, 1, 1, 0, 0, 79), (79, 2, 0, 0, 0, 80), (80, 17, 0, 8, 65, 83), (83, 29, 65, 4, 194, 86), (86, 14, 93, 0, 0, 89), (89, 0, 0, 0, 1, 90), (90, 16, 94, 0, 0, 93), (93, 0, 0, 0, 0, 94), (94, 4, 6, 0, 0, 96), (96, 2, 0, 0, 0, 97), (97, 18, 0, 6, 52, 100), (100, 1, 1, 0, 0, 101), (101, 1, 3, 0, 0, 102), (102, 1, 4, 0, 0, 104), (104, 2, 0, 0, 0, 105), (105, 18, 0, 4, 42, 108), (108, 1, 1, 0, 0, 109), (109, 29, 69, 2, 191, 112), (112, 1, 5, 0, 0, 114), (114, 1, 6, 0, 0, 116), (116, 29, 76, 7, 197, 119), (119, 7, 3, 0, 1, 122), (122, 16, 25, 0, 0, 125), (125, 30, 0, 0, 0, 126)]
def tb_AM_markPlacesOf : List (Nat × am_In) := [(0, 0, 0, 0, 0, 1), (1, 4, 2, 0, 0, 2), (2, 1, 2, 0, 0, 3), (3, 2, 0, 0, 0, 4), (4, 18, 0, 0, 10, 7), (7, 1, 1, 0, 0, 8), (8, 29, 30, 2, 200, 11), (11, 15, 43, 3, 0, 14), (14, 2, 0, 0, 0, 15), (15, 18, 0, 7, 61, 18), (18, 1, 1, 0, 0, 19), (19, 1, 2, 0, 0, 20), (20, 2, 0, 0, 0, 21), (21, 1, 1, 0, 0, 22), (22, 2, 0, 0, 0, 23), (23, 18, 0, 0, 10, 26), (26, 1, 1, 0, 0, 27), (27, 1, 2, 0, 0, 28), (28, 29, 32, 3, 183, 31), (31, 29, 24, 3, 203, 34), (34, 29, 79, 4, 206, 37), (37, 7, 2, 0, 1, 40), (40, 16, 2, 0, 0, 43), (43, 30, 0, 0, 0, 44)]
def tb_AM_isClear : List (Nat × am_In) := [(0, 0, 0, 0, 0, 1), (1, 4, 3, 0, 0, 2), (2, 1, 3, 0, 0, 3), (3, 2, 0, 0, 0, 4), (4, 18, 0, 2, 26, 7), (7, 29, 51, 1, 186, 10), (10, 15, 57, 3, 0, 13), (13, 2, 0, 0, 0, 14), (14, 18, 0, 2, 26, 17), (17, 1, 3, 0, 0, 18), (18, 1, 1, 0, 0, 19), (19, 1, 2, 0, 0, 20), (20, 29, 60, 4, 210, 23), (23, 14, 51, 0, 0, 26), (26, 2, 0, 0, 0, 27), (27, 18, 0, 3, 33, 30), (30, 2, 0, 0, 0, 31), (31, 18, 0, 2, 26, 34), (34, 1, 3, 0, 0, 35), (35, 29, 58, 2, 116, 38), (38, 1, 1, 0, 0, 39), (39, 2, 0, 0, 0, 40), (40, 17, 0, 8, 65, 43), (43, 29, 65, 4, 194, 46), (46, 14, 51, 1, 0, 49), (49, 0, 0, 0, 0, 50), (50, 32, 0, 0, 0, 51), (51, 7, 3, 0, 1, 54), (54, 16, 2, 0, 0, 57), (57, 0, 0, 0, 1, 58), (58, 32, 0, 0, 0, 59)]
def tb_AM_isBelow : List (Nat × am_In) := [(0, 1, 0, 0, 0, 1), (1, 14, 13, 2, 0, 4), (4, 1, 0, 0, 0, 5), (5, 1, 1, 0, 0, 6), (6, 15, 13, 3, 0, 9), (9, 0, 0, 0, 1, 10), (10, 16, 14, 0, 0, 13), (13, 0, 0, 0, 0, 14), (14, 32, 0, 0, 0, 15)]
def tb_Packs_init : List (Nat × am_In) := [(0, 2, 0, 0, 0, 1), (1, 58, 0, 0, 3, 4), (4, 2, 0, 0, 0, 5), (5, 0, 0, 1, 6, 7), (7, 36, 1, 6, 0, 9), (9, 21, 1, 0, 9, 12), (12, 2, 0, 0, 0, 13), (13, 0, 0, 1, 6, 15), (15, 0, 0, 0, 5, 16), (16, 37, 6, 5, 15, 20), (20, 21, 1, 1, 17, 23), (23, 2, 0, 0, 0, 24), (24, 0, 0, 1, 6, 26), (26, 36, 0, 6, 0, 28), (28, 21, 1, 2, 20, 31), (31, 2, 0, 0, 0, 32), (32, 0, 0, 1, 6, 34), (34, 36, 0, 6, 0, 36), (36, 21, 1, 3, 24, 39), (39, 2, 0, 0, 0, 40), (40, 0, 0, 1, 6, 42), (42, 36, 0, 6, 0, 44), (44, 21, 1, 4, 27, 47), (47, 2, 0, 0, 0, 48), (48, 18, 1, 3, 24, 51), (51, 0, 0, 0, (-1), 52), (52, 28, 0, 2, 30, 55), (55, 2, 0, 0, 0, 56), (56, 18, 1, 4, 27, 59), (59, 0, 0, 0, (-1), 60), (60, 28, 0, 2, 30, 63), (63, 2, 0, 0, 0, 64), (64, 0, 0, 0, 0, 65), (65, 19, 1, 5, 36, 68), (68, 30, 0, 0, 0, 69)]
def tb_Packs_count : List (Nat × am_In) := [(0, 2, 0, 0, 0, 1), (1, 17, 1, 5, 36, 4), (4, 31, 0, 0, 0, 5)]
def tb_Packs_has : List (Nat × am_In) := [(0, 1, 1, 0, 0, 1), (1, 2, 0, 0, 0, 2), (2, 17, 1, 5, 36, 5), (5, 28, 25, 2, 40, 8), (8, 32, 0, 0, 0, 9)]
def tb_Packs_add : List (Nat × am_In) := [(0, 2, 0, 0, 0, 1), (1, 17, 1, 5, 36, 4), (4, 0, 0, 1, 6, 6), (6, 15, 11, 2, 0, 9), (9, 0, 0, 0, (-1), 10), (10, 31, 0, 0, 0, 11), (11, 2, 0, 0, 0, 12), (12, 18, 1, 0, 9, 15), (15, 2, 0, 0, 0, 16), (16, 17, 1, 5, 36, 19), (19, 1, 1, 0, 0, 20), (20, 26, 0, 0, 0, 21), (21, 2, 0, 0, 0, 22), (22, 38, 0, 0, 0, 23), (23, 17, 1, 5, 36, 26), (26, 0, 0, 0, 1, 27), (27, 8, 0, 0, 0, 28), (28, 19, 1, 5, 36, 31), (31, 2, 0, 0, 0, 32), (32, 17, 1, 5, 36, 35), (35, 0, 0, 0, 1, 36), (36, 9, 0, 0, 0, 37), (37, 31, 0, 0, 0, 38)]
def tb_Packs_countVersions : List (Nat × am_In) := [(0, 2, 0, 0, 0, 1), (1, 1, 1, 0, 0, 2), (2, 29, 28, 2, 44, 5), (5, 14, 17, 0, 0, 8), (8, 2, 0, 0, 0, 9), (9, 18, 1, 2, 20, 12), (12, 1, 1, 0, 0, 13), (13, 22, 0, 0, 0, 14), (14, 16, 18, 0, 0, 17), (17, 0, 0, 0, 0, 18), (18, 31, 0, 0, 0, 19)]
def tb_Packs_addVersion : List (Nat × am_In) := [(0, 2, 0, 0, 0, 1), (1, 1, 1, 0, 0, 2), (2, 29, 28, 2, 44, 5), (5, 14, 18, 0, 0, 8), (8, 1, 2, 0, 0, 9), (9, 14, 18, 2, 0, 12), (12, 1, 2, 0, 0, 13), (13, 0, 48, 3, 1000000, 15), (15, 15, 20, 5, 0, 18), (18, 0, 0, 0, (-1), 19), (19, 31, 0, 0, 0, 20), (20, 2, 0, 0, 0, 21), (21, 18, 1, 2, 20, 24), (24, 1, 1, 0, 0, 25), (25, 22, 0, 0, 0, 26), (26, 4, 3, 0, 0, 27), (27, 1, 3, 0, 0, 28), (28, 0, 0, 0, 5, 29), (29, 15, 44, 3, 0, 32), (32, 1, 2, 0, 0, 33), (33, 2, 0, 0, 0, 34), (34, 1, 1, 0, 0, 35), (35, 1, 3, 0, 0, 36), (36, 0, 0, 0, 1, 37), (37, 9, 0, 0, 0, 38), (38, 29, 32, 3, 49, 41), (41, 15, 46, 4, 0, 44), (44, 0, 0, 0, (-1), 45), (45, 31, 0, 0, 0, 46), (46, 2, 0, 0, 0, 47), (47, 18, 1, 1, 17, 50), (50, 1, 1, 0, 0, 51), (51, 24, 0, 0, 0, 52), (52, 1, 3, 0, 0, 53), (53, 1, 2, 0, 0, 54), (54, 25, 0, 0, 0, 55), (55, 2, 0, 0, 0, 56), (56, 18, 1, 2, 20, 59), (59, 1, 1, 0, 0, 60), (60, 1, 3, 0, 0, 61), (61, 0, 0, 0, 1, 62), (62, 8, 0, 0, 0, 63), (63, 25, 0, 0, 0, 64), (64, 1, 3, 0, 0, 65), (65, 31, 0, 0, 0, 66)]
def tb_Packs_versionAt : List (Nat × am_In) := [(0, 1, 1, 0, 0, 1), (1, 2, 0, 0, 0, 2), (2, 17, 1, 5, 36, 5), (5, 28, 25, 2, 40, 8), (8, 14, 24, 0, 0, 11), (11, 1, 2, 0, 0, 12), (12, 2, 0, 0, 0, 13), (13, 18, 1, 2, 20, 16), (16, 1, 1, 0, 0, 17), (17, 22, 0, 0, 0, 18), (18, 28, 25, 2, 40, 21), (21, 14, 26, 1, 0, 24), (24, 0, 0, 0, (-1), 25), (25, 31, 0, 0, 0, 26), (26, 2, 0, 0, 0, 27), (27, 18, 1, 1, 17, 30), (30, 1, 1, 0, 0, 31), (31, 24, 0, 0, 0, 32), (32, 1, 2, 0, 0, 33), (33, 22, 0, 0, 0, 34), (34, 31, 0, 0, 0, 35)]
def tb_Packs_putPlace : List (Nat × am_In) := [(0, 2, 0, 0, 0, 1), (1, 1, 1, 0, 0, 2), (2, 29, 28, 2, 44, 5), (5, 14, 26, 0, 0, 8), (8, 1, 2, 0, 0, 9), (9, 0, 0, 0, (-1), 10), (10, 15, 28, 0, 0, 13), (13, 1, 2, 0, 0, 14), (14, 2, 0, 0, 0, 15), (15, 18, 1, 2, 20, 18), (18, 1, 1, 0, 0, 19), (19, 22, 0, 0, 0, 20), (20, 28, 25, 2, 40, 23), (23, 14, 28, 1, 0, 26), (26, 0, 0, 0, 0, 27), (27, 32, 0, 0, 0, 28), (28, 2, 0, 0, 0, 29), (29, 18, 1, 3, 24, 32), (32, 1, 1, 0, 0, 33), (33, 1, 2, 0, 0, 34), (34, 25, 0, 0, 0, 35), (35, 2, 0, 0, 0, 36), (36, 18, 1, 4, 27, 39), (39, 1, 1, 0, 0, 40), (40, 2, 0, 0, 0, 41), (41, 1, 1, 0, 0, 42), (42, 1, 2, 0, 0, 43), (43, 29, 32, 3, 49, 46), (46, 25, 0, 0, 0, 47), (47, 0, 0, 0, 1, 48), (48, 32, 0, 0, 0, 49)]
def tb_Packs_placeOf : List (Nat × am_In) := [(0, 2, 0, 0, 0, 1), (1, 1, 1, 0, 0, 2), (2, 29, 28, 2, 44, 5), (5, 14, 17, 0, 0, 8), (8, 2, 0, 0, 0, 9), (9, 18, 1, 3, 24, 12), (12, 1, 1, 0, 0, 13), (13, 22, 0, 0, 0, 14), (14, 16, 18, 0, 0, 17), (17, 0, 0, 0, (-1), 18), (18, 31, 0, 0, 0, 19)]
def tb_Packs_installedVersions : List (Nat × am_In) := [(0, 2, 0, 0, 0, 1), (1, 18, 1, 4, 27, 4), (4, 33, 0, 0, 0, 5)]
def tb_Packs_isInstalledRoot : List (Nat × am_In) := [(0, 2, 0, 0, 0, 1), (1, 1, 1, 0, 0, 2), (2, 29, 34, 2, 53, 5), (5, 0, 0, 0, (-1), 6), (6, 15, 22, 0, 0, 9), (9, 2, 0, 0, 0, 10), (10, 18, 1, 0, 9, 13), (13, 1, 1, 0, 0, 14), (14, 23, 0, 0, 0, 15), (15, 14, 22, 0, 0, 18), (18, 0, 0, 0, 1, 19), (19, 16, 23, 0, 0, 22), (22, 0, 0, 0, 0, 23), (23, 32, 0, 0, 0, 24)]
def tb_Needs_init : List (Nat × am_In) := [(0, 2, 0, 0, 0, 1), (1, 58, 0, 0, 3, 4), (4, 2, 0, 0, 0, 5), (5, 0, 0, 1, 16, 7), (7, 36, 0, 16, 0, 9), (9, 21, 2, 0, 9, 12), (12, 2, 0, 0, 0, 13), (13, 0, 0, 1, 16, 15), (15, 36, 0, 16, 0, 17), (17, 21, 2, 1, 15, 20), (20, 2, 0, 0, 0, 21), (21, 0, 0, 1, 16, 23), (23, 36, 0, 16, 0, 25), (25, 21, 2, 2, 18, 28), (28, 2, 0, 0, 0, 29), (29, 0, 0, 1, 16, 31), (31, 36, 0, 16, 0, 33), (33, 21, 2, 3, 21, 36), (36, 2, 0, 0, 0, 37), (37, 0, 0, 1, 16, 39), (39, 36, 0, 16, 0, 41), (41, 21, 2, 4, 24, 44), (44, 2, 0, 0, 0, 45), (45, 0, 0, 1, 16, 47), (47, 36, 1, 16, 0, 49), (49, 21, 2, 5, 27, 52), (52, 2, 0, 0, 0, 53), (53, 0, 0, 0, 0, 54), (54, 19, 2, 6, 31, 57), (57, 30, 0, 0, 0, 58)]
def tb_Needs_count : List (Nat × am_In) := [(0, 2, 0, 0, 0, 1), (1, 17, 2, 6, 31, 4), (4, 31, 0, 0, 0, 5)]
def tb_Needs_add : List (Nat × am_In) := [(0, 2, 0, 0, 0, 1), (1, 17, 2, 6, 31, 4), (4, 0, 0, 1, 16, 6), (6, 15, 11, 2, 0, 9), (9, 0, 0, 0, (-1), 10), (10, 31, 0, 0, 0, 11), (11, 2, 0, 0, 0, 12), (12, 18, 2, 0, 9, 15), (15, 2, 0, 0, 0, 16), (16, 17, 2, 6, 31, 19), (19, 1, 1, 0, 0, 20), (20, 25, 0, 0, 0, 21), (21, 2, 0, 0, 0, 22), (22, 18, 2, 1, 15, 25), (25, 2, 0, 0, 0, 26), (26, 17, 2, 6, 31, 29), (29, 1, 2, 0, 0, 30), (30, 25, 0, 0, 0, 31), (31, 2, 0, 0, 0, 32), (32, 18, 2, 2, 18, 35), (35, 2, 0, 0, 0, 36), (36, 17, 2, 6, 31, 39), (39, 1, 3, 0, 0, 40), (40, 25, 0, 0, 0, 41), (41, 2, 0, 0, 0, 42), (42, 18, 2, 3, 21, 45), (45, 2, 0, 0, 0, 46), (46, 17, 2, 6, 31, 49), (49, 1, 4, 0, 0, 51), (51, 25, 0, 0, 0, 52), (52, 2, 0, 0, 0, 53), (53, 18, 2, 4, 24, 56), (56, 2, 0, 0, 0, 57), (57, 17, 2, 6, 31, 60), (60, 1, 5, 0, 0, 62), (62, 25, 0, 0, 0, 63), (63, 2, 0, 0, 0, 64), (64, 38, 0, 0, 0, 65), (65, 17, 2, 6, 31, 68), (68, 0, 0, 0, 1, 69), (69, 8, 0, 0, 0, 70), (70, 19, 2, 6, 31, 73), (73, 2, 0, 0, 0, 74), (74, 17, 2, 6, 31, 77), (77, 0, 0, 0, 1, 78), (78, 9, 0, 0, 0, 79), (79, 31, 0, 0, 0, 80)]
def tb_Needs_setCalled : List (Nat × am_In) := [(0, 1, 1, 0, 0, 1), (1, 2, 0, 0, 0, 2), (2, 17, 2, 6, 31, 5), (5, 28, 25, 2, 35, 8), (8, 14, 13, 1, 0, 11), (11, 0, 0, 0, 0, 12), (12, 32, 0, 0, 0, 13), (13, 2, 0, 0, 0, 14), (14, 18, 2, 5, 27, 17), (17, 1, 1, 0, 0, 18), (18, 1, 2, 0, 0, 19), (19, 26, 0, 0, 0, 20), (20, 0, 0, 0, 1, 21), (21, 32, 0, 0, 0, 22)]
def tb_Needs_isCalled : List (Nat × am_In) := [(0, 1, 1, 0, 0, 1), (1, 2, 0, 0, 0, 2), (2, 17, 2, 6, 31, 5), (5, 28, 25, 2, 35, 8), (8, 14, 24, 0, 0, 11), (11, 2, 0, 0, 0, 12), (12, 18, 2, 5, 27, 15), (15, 1, 1, 0, 0, 16), (16, 23, 0, 0, 0, 17), (17, 14, 24, 0, 0, 20), (20, 0, 0, 0, 1, 21), (21, 16, 25, 0, 0, 24), (24, 0, 0, 0, 0, 25), (25, 32, 0, 0, 0, 26)]
def tb_Needs_ownerOf : List (Nat × am_In) := [(0, 1, 1, 0, 0, 1), (1, 2, 0, 0, 0, 2), (2, 17, 2, 6, 31, 5), (5, 28, 25, 2, 35, 8), (8, 14, 20, 0, 0, 11), (11, 2, 0, 0, 0, 12), (12, 18, 2, 0, 9, 15), (15, 1, 1, 0, 0, 16), (16, 22, 0, 0, 0, 17), (17, 16, 21, 0, 0, 20), (20, 0, 0, 0, (-1), 21), (21, 31, 0, 0, 0, 22)]
def tb_Needs_otherOf : List (Nat × am_In) := [(0, 1, 1, 0, 0, 1), (1, 2, 0, 0, 0, 2), (2, 17, 2, 6, 31, 5), (5, 28, 25, 2, 35, 8), (8, 14, 20, 0, 0, 11), (11, 2, 0, 0, 0, 12), (12, 18, 2, 2, 18, 15), (15, 1, 1, 0, 0, 16), (16, 22, 0, 0, 0, 17), (17, 16, 21, 0, 0, 20), (20, 0, 0, 0, (-1), 21), (21, 31, 0, 0, 0, 22)]
def tb_Needs_leads : List (Nat × am_In) := [(0, 1, 1, 0, 0, 1), (1, 2, 0, 0, 0, 2), (2, 17, 2, 6, 31, 5), (5, 28, 25, 2, 35, 8), (8, 14, 33, 0, 0, 11), (11, 2, 0, 0, 0, 12), (12, 1, 1, 0, 0, 13), (13, 2, 2, 0, 0, 14), (14, 29, 48, 3, 39, 17), (17, 14, 33, 0, 0, 20), (20, 2, 0, 0, 0, 21), (21, 1, 1, 0, 0, 22), (22, 2, 2, 0, 0, 23), (23, 29, 49, 3, 43, 26), (26, 14, 33, 0, 0, 29), (29, 0, 0, 0, 1, 30), (30, 16, 34, 0, 0, 33), (33, 0, 0, 0, 0, 34), (34, 32, 0, 0, 0, 35)]
def tb_Needs_countBroken : List (Nat × am_In) := [(0, 0, 0, 0, 0, 1), (1, 4, 2, 0, 0, 2), (2, 0, 0, 0, 0, 3), (3, 4, 3, 0, 0, 4), (4, 1, 3, 0, 0, 5), (5, 2, 0, 0, 0, 6), (6, 17, 2, 6, 31, 9), (9, 15, 30, 3, 0, 12), (12, 2, 0, 0, 0, 13), (13, 1, 3, 0, 0, 14), (14, 2, 1, 0, 0, 15), (15, 29, 47, 3, 46, 18), (18, 14, 24, 0, 0, 21), (21, 7, 2, 0, 1, 24), (24, 7, 3, 0, 1, 27), (27, 16, 4, 0, 0, 30), (30, 1, 2, 0, 0, 31), (31, 31, 0, 0, 0, 32)]
def tb_Needs_areKept : List (Nat × am_In) := [(0, 0, 0, 0, 0, 1), (1, 4, 3, 0, 0, 2), (2, 1, 3, 0, 0, 3), (3, 2, 0, 0, 0, 4), (4, 17, 2, 6, 31, 7), (7, 15, 46, 3, 0, 10), (10, 2, 0, 0, 0, 11), (11, 18, 2, 0, 9, 14), (14, 1, 3, 0, 0, 15), (15, 22, 0, 0, 0, 16), (16, 2, 0, 0, 0, 17), (17, 18, 2, 2, 18, 20), (20, 1, 3, 0, 0, 21), (21, 22, 0, 0, 0, 22), (22, 53, 0, 0, 49, 25), (25, 1, 1, 0, 0, 26), (26, 15, 40, 1, 0, 29), (29, 2, 0, 0, 0, 30), (30, 1, 3, 0, 0, 31), (31, 2, 2, 0, 0, 32), (32, 29, 47, 3, 46, 35), (35, 14, 40, 0, 0, 38), (38, 0, 0, 0, 0, 39), (39, 32, 0, 0, 0, 40), (40, 7, 3, 0, 1, 43), (43, 16, 2, 0, 0, 46), (46, 0, 0, 0, 1, 47), (47, 32, 0, 0, 0, 48)]
def tb_Needs_isBroken : List (Nat × am_In) := [(0, 2, 0, 0, 0, 1), (1, 1, 1, 0, 0, 2), (2, 2, 2, 0, 0, 3), (3, 29, 48, 3, 39, 6), (6, 14, 22, 0, 0, 9), (9, 2, 0, 0, 0, 10), (10, 1, 1, 0, 0, 11), (11, 2, 2, 0, 0, 12), (12, 29, 49, 3, 43, 15), (15, 14, 22, 1, 0, 18), (18, 0, 0, 0, 1, 19), (19, 16, 23, 0, 0, 22), (22, 0, 0, 0, 0, 23), (23, 32, 0, 0, 0, 24)]
def tb_Needs_isActive : List (Nat × am_In) := [(0, 2, 2, 0, 0, 1), (1, 2, 0, 0, 0, 2), (2, 18, 2, 0, 9, 5), (5, 1, 1, 0, 0, 6), (6, 22, 0, 0, 0, 7), (7, 22, 0, 0, 0, 8), (8, 4, 3, 0, 0, 9), (9, 1, 3, 0, 0, 10), (10, 0, 0, 0, (-1), 11), (11, 15, 28, 0, 0, 14), (14, 1, 3, 0, 0, 15), (15, 2, 0, 0, 0, 16), (16, 18, 2, 1, 15, 19), (19, 1, 1, 0, 0, 20), (20, 22, 0, 0, 0, 21), (21, 15, 28, 2, 0, 24), (24, 0, 0, 0, 1, 25), (25, 16, 29, 0, 0, 28), (28, 0, 0, 0, 0, 29), (29, 32, 0, 0, 0, 30)]
def tb_Needs_holds : List (Nat × am_In) := [(0, 2, 2, 0, 0, 1), (1, 2, 0, 0, 0, 2), (2, 18, 2, 2, 18, 5), (5, 1, 1, 0, 0, 6), (6, 22, 0, 0, 0, 7), (7, 22, 0, 0, 0, 8), (8, 4, 3, 0, 0, 9), (9, 1, 3, 0, 0, 10), (10, 0, 0, 0, (-1), 11), (11, 15, 38, 0, 0, 14), (14, 1, 3, 0, 0, 15), (15, 2, 0, 0, 0, 16), (16, 18, 2, 3, 21, 19), (19, 1, 1, 0, 0, 20), (20, 22, 0, 0, 0, 21), (21, 15, 38, 2, 0, 24), (24, 1, 3, 0, 0, 25), (25, 2, 0, 0, 0, 26), (26, 18, 2, 4, 24, 29), (29, 1, 1, 0, 0, 30), (30, 22, 0, 0, 0, 31), (31, 15, 38, 3, 0, 34), (34, 0, 0, 0, 1, 35), (35, 16, 39, 0, 0, 38), (38, 0, 0, 0, 0, 39), (39, 32, 0, 0, 0, 40)]
def tb_Advisories_init : List (Nat × am_In) := [(0, 2, 0, 0, 0, 1), (1, 58, 0, 0, 3, 4), (4, 2, 0, 0, 0, 5), (5, 0, 0, 1, 12, 7), (7, 36, 0, 12, 0, 9), (9, 21, 3, 0, 9, 12), (12, 2, 0, 0, 0, 13), (13, 0, 0, 1, 12, 15), (15, 0, 0, 0, 3, 16), (16, 37, 12, 3, 15, 20), (20, 21, 3, 1, 17, 23), (23, 2, 0, 0, 0, 24), (24, 0, 0, 1, 12, 26), (26, 0, 0, 0, 3, 27), (27, 37, 12, 3, 15, 31), (31, 21, 3, 2, 20, 34), (34, 2, 0, 0, 0, 35), (35, 0, 0, 1, 12, 37), (37, 36, 0, 12, 0, 39), (39, 21, 3, 3, 23, 42), (42, 2, 0, 0, 0, 43), (43, 0, 0, 1, 12, 45), (45, 36, 0, 12, 0, 47), (47, 21, 3, 4, 26, 50), (50, 2, 0, 0, 0, 51), (51, 0, 0, 1, 12, 53), (53, 36, 1, 12, 0, 55), (55, 21, 3, 5, 29, 58), (58, 2, 0, 0, 0, 59), (59, 0, 0, 1, 12, 61), (61, 36, 0, 12, 0, 63), (63, 21, 3, 6, 33, 66), (66, 2, 0, 0, 0, 67), (67, 0, 0, 0, 0, 68), (68, 19, 3, 7, 36, 71), (71, 30, 0, 0, 0, 72)]
def tb_Advisories_count : List (Nat × am_In) := [(0, 2, 0, 0, 0, 1), (1, 17, 3, 7, 36, 4), (4, 31, 0, 0, 0, 5)]
def tb_Advisories_has : List (Nat × am_In) := [(0, 1, 1, 0, 0, 1), (1, 2, 0, 0, 0, 2), (2, 17, 3, 7, 36, 5), (5, 28, 25, 2, 40, 8), (8, 32, 0, 0, 0, 9)]
def tb_Advisories_add : List (Nat × am_In) := [(0, 2, 0, 0, 0, 1), (1, 17, 3, 7, 36, 4), (4, 0, 0, 1, 12, 6), (6, 15, 11, 2, 0, 9), (9, 0, 0, 0, (-1), 10), (10, 31, 0, 0, 0, 11), (11, 2, 0, 0, 0, 12), (12, 18, 3, 0, 9, 15), (15, 2, 0, 0, 0, 16), (16, 17, 3, 7, 36, 19), (19, 1, 1, 0, 0, 20), (20, 25, 0, 0, 0, 21), (21, 2, 0, 0, 0, 22), (22, 18, 3, 6, 33, 25), (25, 2, 0, 0, 0, 26), (26, 17, 3, 7, 36, 29), (29, 2, 0, 0, 0, 30), (30, 17, 3, 7, 36, 33), (33, 25, 0, 0, 0, 34), (34, 2, 0, 0, 0, 35), (35, 38, 0, 0, 0, 36), (36, 17, 3, 7, 36, 39), (39, 0, 0, 0, 1, 40), (40, 8, 0, 0, 0, 41), (41, 19, 3, 7, 36, 44), (44, 2, 0, 0, 0, 45), (45, 17, 3, 7, 36, 48), (48, 0, 0, 0, 1, 49), (49, 9, 0, 0, 0, 50), (50, 31, 0, 0, 0, 51)]
def tb_Advisories_addSpan : List (Nat × am_In) := [(0, 2, 0, 0, 0, 1), (1, 1, 1, 0, 0, 2), (2, 29, 52, 2, 44, 5), (5, 14, 22, 0, 0, 8), (8, 1, 2, 0, 0, 9), (9, 14, 22, 2, 0, 12), (12, 1, 3, 0, 0, 13), (13, 0, 0, 0, (-1), 14), (14, 15, 24, 0, 0, 17), (17, 1, 3, 0, 0, 18), (18, 1, 2, 0, 0, 19), (19, 15, 24, 4, 0, 22), (22, 0, 0, 0, 0, 23), (23, 32, 0, 0, 0, 24), (24, 2, 0, 0, 0, 25), (25, 18, 3, 3, 23, 28), (28, 1, 1, 0, 0, 29), (29, 22, 0, 0, 0, 30), (30, 4, 4, 0, 0, 32), (32, 1, 4, 0, 0, 34), (34, 0, 0, 0, 3, 35), (35, 15, 40, 2, 0, 38), (38, 0, 0, 0, 0, 39), (39, 32, 0, 0, 0, 40), (40, 2, 0, 0, 0, 41), (41, 18, 3, 1, 17, 44), (44, 1, 1, 0, 0, 45), (45, 24, 0, 0, 0, 46), (46, 1, 4, 0, 0, 48), (48, 1, 2, 0, 0, 49), (49, 25, 0, 0, 0, 50), (50, 2, 0, 0, 0, 51), (51, 18, 3, 2, 20, 54), (54, 1, 1, 0, 0, 55), (55, 24, 0, 0, 0, 56), (56, 1, 4, 0, 0, 58), (58, 1, 3, 0, 0, 59), (59, 25, 0, 0, 0, 60), (60, 2, 0, 0, 0, 61), (61, 18, 3, 3, 23, 64), (64, 1, 1, 0, 0, 65), (65, 1, 4, 0, 0, 67), (67, 0, 0, 0, 1, 68), (68, 8, 0, 0, 0, 69), (69, 25, 0, 0, 0, 70), (70, 0, 0, 0, 1, 71), (71, 32, 0, 0, 0, 72)]
def tb_Advisories_setScore : List (Nat × am_In) := [(0, 2, 0, 0, 0, 1), (1, 1, 1, 0, 0, 2), (2, 29, 52, 2, 44, 5), (5, 14, 15, 0, 0, 8), (8, 2, 0, 0, 0, 9), (9, 18, 3, 4, 26, 12), (12, 1, 1, 0, 0, 13), (13, 1, 2, 0, 0, 14), (14, 25, 0, 0, 0, 15), (15, 30, 0, 0, 0, 16)]
def tb_Advisories_scoreOf : List (Nat × am_In) := [(0, 2, 0, 0, 0, 1), (1, 1, 1, 0, 0, 2), (2, 29, 52, 2, 44, 5), (5, 14, 17, 0, 0, 8), (8, 2, 0, 0, 0, 9), (9, 18, 3, 4, 26, 12), (12, 1, 1, 0, 0, 13), (13, 22, 0, 0, 0, 14), (14, 16, 18, 0, 0, 17), (17, 0, 0, 0, (-1), 18), (18, 31, 0, 0, 0, 19)]
def tb_Advisories_setWithdrawn : List (Nat × am_In) := [(0, 2, 0, 0, 0, 1), (1, 1, 1, 0, 0, 2), (2, 29, 52, 2, 44, 5), (5, 14, 10, 1, 0, 8), (8, 0, 0, 0, 0, 9), (9, 32, 0, 0, 0, 10), (10, 2, 0, 0, 0, 11), (11, 18, 3, 5, 29, 14), (14, 1, 1, 0, 0, 15), (15, 1, 2, 0, 0, 16), (16, 26, 0, 0, 0, 17), (17, 0, 0, 0, 1, 18), (18, 32, 0, 0, 0, 19)]
def tb_Advisories_groupOf : List (Nat × am_In) := [(0, 2, 0, 0, 0, 1), (1, 1, 1, 0, 0, 2), (2, 29, 52, 2, 44, 5), (5, 14, 17, 0, 0, 8), (8, 2, 0, 0, 0, 9), (9, 18, 3, 6, 33, 12), (12, 1, 1, 0, 0, 13), (13, 22, 0, 0, 0, 14), (14, 16, 18, 0, 0, 17), (17, 0, 0, 0, (-1), 18), (18, 31, 0, 0, 0, 19)]
def tb_Advisories_renameGroup : List (Nat × am_In) := [(0, 0, 0, 0, 0, 1), (1, 4, 3, 0, 0, 2), (2, 1, 3, 0, 0, 3), (3, 2, 0, 0, 0, 4), (4, 17, 3, 7, 36, 7), (7, 15, 33, 3, 0, 10), (10, 2, 0, 0, 0, 11), (11, 18, 3, 6, 33, 14), (14, 1, 3, 0, 0, 15), (15, 22, 0, 0, 0, 16), (16, 1, 1, 0, 0, 17), (17, 15, 27, 1, 0, 20), (20, 2, 0, 0, 0, 21), (21, 18, 3, 6, 33, 24), (24, 1, 3, 0, 0, 25), (25, 1, 2, 0, 0, 26), (26, 25, 0, 0, 0, 27), (27, 7, 3, 0, 1, 30), (30, 16, 2, 0, 0, 33), (33, 30, 0, 0, 0, 34)]
def tb_Advisories_strikes : List (Nat × am_In) := [(0, 2, 0, 0, 0, 1), (1, 1, 1, 0, 0, 2), (2, 29, 52, 2, 44, 5), (5, 14, 40, 0, 0, 8), (8, 2, 0, 0, 0, 9), (9, 18, 3, 0, 9, 12), (12, 1, 1, 0, 0, 13), (13, 22, 0, 0, 0, 14), (14, 1, 2, 0, 0, 15), (15, 15, 40, 1, 0, 18), (18, 2, 0, 0, 0, 19), (19, 18, 3, 5, 29, 22), (22, 1, 1, 0, 0, 23), (23, 23, 0, 0, 0, 24), (24, 14, 40, 1, 0, 27), (27, 2, 0, 0, 0, 28), (28, 1, 1, 0, 0, 29), (29, 1, 3, 0, 0, 30), (30, 29, 62, 3, 48, 33), (33, 14, 40, 0, 0, 36), (36, 0, 0, 0, 1, 37), (37, 16, 41, 0, 0, 40), (40, 0, 0, 0, 0, 41), (41, 32, 0, 0, 0, 42)]
def tb_Advisories_scoreThere : List (Nat × am_In) := [(0, 0, 0, 0, (-1), 1), (1, 4, 4, 0, 0, 3), (3, 0, 0, 0, 0, 4), (4, 4, 5, 0, 0, 6), (6, 1, 5, 0, 0, 8), (8, 2, 0, 0, 0, 9), (9, 17, 3, 7, 36, 12), (12, 15, 57, 3, 0, 15), (15, 2, 0, 0, 0, 16), (16, 18, 3, 6, 33, 19), (19, 1, 5, 0, 0, 21), (21, 22, 0, 0, 0, 22), (22, 1, 1, 0, 0, 23), (23, 15, 51, 1, 0, 26), (26, 2, 0, 0, 0, 27), (27, 1, 5, 0, 0, 29), (29, 1, 2, 0, 0, 30), (30, 1, 3, 0, 0, 31), (31, 29, 60, 4, 51, 34), (34, 14, 51, 0, 0, 37), (37, 1, 4, 0, 0, 39), (39, 2, 0, 0, 0, 40), (40, 18, 3, 4, 26, 43), (43, 1, 5, 0, 0, 45), (45, 22, 0, 0, 0, 46), (46, 53, 0, 0, 55, 49), (49, 4, 4, 0, 0, 51), (51, 7, 5, 0, 1, 54), (54, 16, 6, 0, 0, 57), (57, 1, 4, 0, 0, 59), (59, 31, 0, 0, 0, 60)]
def tb_Advisories_hasSpanWith : List (Nat × am_In) := [(0, 0, 0, 0, 0, 1), (1, 4, 3, 0, 0, 2), (2, 1, 3, 0, 0, 3), (3, 2, 0, 0, 0, 4), (4, 18, 3, 3, 23, 7), (7, 1, 1, 0, 0, 8), (8, 22, 0, 0, 0, 9), (9, 15, 54, 3, 0, 12), (12, 2, 0, 0, 0, 13), (13, 18, 3, 2, 20, 16), (16, 1, 1, 0, 0, 17), (17, 24, 0, 0, 0, 18), (18, 1, 3, 0, 0, 19), (19, 22, 0, 0, 0, 20), (20, 4, 4, 0, 0, 22), (22, 1, 2, 0, 0, 23), (23, 2, 0, 0, 0, 24), (24, 18, 3, 1, 17, 27), (27, 1, 1, 0, 0, 28), (28, 24, 0, 0, 0, 29), (29, 1, 3, 0, 0, 30), (30, 22, 0, 0, 0, 31), (31, 15, 48, 2, 0, 34), (34, 1, 4, 0, 0, 36), (36, 0, 0, 0, (-1), 37), (37, 15, 46, 0, 0, 40), (40, 1, 2, 0, 0, 41), (41, 1, 4, 0, 0, 43), (43, 15, 48, 3, 0, 46), (46, 0, 0, 0, 1, 47), (47, 32, 0, 0, 0, 48), (48, 7, 3, 0, 1, 51), (51, 16, 2, 0, 0, 54), (54, 0, 0, 0, 0, 55), (55, 32, 0, 0, 0, 56)]
def tb_Exceptions_init : List (Nat × am_In) := [(0, 2, 0, 0, 0, 1), (1, 58, 0, 0, 3, 4), (4, 2, 0, 0, 0, 5), (5, 0, 0, 1, 12, 7), (7, 0, 0, 1, 6, 9), (9, 37, 12, 6, 9, 13), (13, 21, 4, 0, 11, 16), (16, 30, 0, 0, 0, 17)]
def tb_Exceptions_put : List (Nat × am_In) := [(0, 1, 1, 0, 0, 1), (1, 1, 2, 0, 0, 2), (2, 28, 67, 2, 16, 5), (5, 14, 17, 0, 0, 8), (8, 2, 0, 0, 0, 9), (9, 18, 4, 0, 11, 12), (12, 1, 1, 0, 0, 13), (13, 24, 0, 0, 0, 14), (14, 1, 2, 0, 0, 15), (15, 1, 3, 0, 0, 16), (16, 25, 0, 0, 0, 17), (17, 30, 0, 0, 0, 18)]
def tb_Exceptions_holds : List (Nat × am_In) := [(0, 1, 1, 0, 0, 1), (1, 1, 2, 0, 0, 2), (2, 28, 67, 2, 16, 5), (5, 14, 24, 0, 0, 8), (8, 1, 3, 0, 0, 9), (9, 2, 0, 0, 0, 10), (10, 18, 4, 0, 11, 13), (13, 1, 1, 0, 0, 14), (14, 24, 0, 0, 0, 15), (15, 1, 2, 0, 0, 16), (16, 22, 0, 0, 0, 17), (17, 15, 24, 3, 0, 20), (20, 0, 0, 0, 1, 21), (21, 16, 25, 0, 0, 24), (24, 0, 0, 0, 0, 25), (25, 32, 0, 0, 0, 26)]
def tb_Exceptions_join : List (Nat × am_In) := [(0, 0, 0, 0, 0, 1), (1, 4, 3, 0, 0, 2), (2, 1, 3, 0, 0, 3), (3, 0, 0, 1, 6, 5), (5, 15, 57, 3, 0, 8), (8, 1, 1, 0, 0, 9), (9, 1, 3, 0, 0, 10), (10, 28, 67, 2, 16, 13), (13, 14, 51, 0, 0, 16), (16, 1, 2, 0, 0, 17), (17, 1, 3, 0, 0, 18), (18, 28, 67, 2, 16, 21), (21, 14, 51, 0, 0, 24), (24, 2, 0, 0, 0, 25), (25, 18, 4, 0, 11, 28), (28, 1, 2, 0, 0, 29), (29, 24, 0, 0, 0, 30), (30, 1, 3, 0, 0, 31), (31, 2, 0, 0, 0, 32), (32, 18, 4, 0, 11, 35), (35, 1, 2, 0, 0, 36), (36, 24, 0, 0, 0, 37), (37, 1, 3, 0, 0, 38), (38, 22, 0, 0, 0, 39), (39, 2, 0, 0, 0, 40), (40, 18, 4, 0, 11, 43), (43, 1, 1, 0, 0, 44), (44, 24, 0, 0, 0, 45), (45, 1, 3, 0, 0, 46), (46, 22, 0, 0, 0, 47), (47, 53, 0, 0, 20, 50), (50, 25, 0, 0, 0, 51), (51, 7, 3, 0, 1, 54), (54, 16, 2, 0, 0, 57), (57, 30, 0, 0, 0, 58)]
def tb_Exceptions_areNumbers : List (Nat × am_In) := [(0, 1, 0, 0, 0, 1), (1, 0, 0, 1, 12, 3), (3, 28, 25, 2, 26, 6), (6, 14, 22, 0, 0, 9), (9, 1, 1, 0, 0, 10), (10, 0, 0, 1, 6, 12), (12, 28, 25, 2, 26, 15), (15, 14, 22, 0, 0, 18), (18, 0, 0, 0, 1, 19), (19, 16, 23, 0, 0, 22), (22, 0, 0, 0, 0, 23), (23, 32, 0, 0, 0, 24)]
def tb_Ways_init : List (Nat × am_In) := [(0, 2, 0, 0, 0, 1), (1, 58, 0, 0, 3, 4), (4, 2, 0, 0, 0, 5), (5, 0, 0, 1, 6, 7), (7, 36, 0, 6, 0, 9), (9, 21, 5, 3, 9, 12), (12, 2, 0, 0, 0, 13), (13, 2, 1, 0, 0, 14), (14, 21, 5, 0, 15, 17), (17, 2, 0, 0, 0, 18), (18, 2, 2, 0, 0, 19), (19, 21, 5, 1, 19, 22), (22, 2, 0, 0, 0, 23), (23, 1, 3, 0, 0, 24), (24, 20, 5, 2, 23, 27), (27, 2, 0, 0, 0, 28), (28, 18, 5, 3, 9, 31), (31, 0, 0, 0, (-1), 32), (32, 28, 0, 2, 27, 35), (35, 30, 0, 0, 0, 36)]
def tb_Ways_lengthTo : List (Nat × am_In) := [(0, 1, 1, 0, 0, 1), (1, 0, 0, 1, 6, 3), (3, 28, 25, 2, 33, 6), (6, 14, 18, 0, 0, 9), (9, 2, 0, 0, 0, 10), (10, 18, 5, 3, 9, 13), (13, 1, 1, 0, 0, 14), (14, 22, 0, 0, 0, 15), (15, 16, 19, 0, 0, 18), (18, 0, 0, 0, (-1), 19), (19, 31, 0, 0, 0, 20)]
def tb_Ways_measure : List (Nat × am_In) := [(0, 0, 0, 0, 0, 1), (1, 4, 1, 0, 0, 2), (2, 1, 1, 0, 0, 3), (3, 0, 0, 1, 6, 5), (5, 15, 36, 3, 0, 8), (8, 2, 0, 0, 0, 9), (9, 18, 5, 3, 9, 12), (12, 1, 1, 0, 0, 13), (13, 2, 0, 0, 0, 14), (14, 18, 5, 0, 15, 17), (17, 1, 1, 0, 0, 18), (18, 29, 36, 2, 37, 21), (21, 14, 28, 0, 0, 24), (24, 0, 0, 0, 0, 25), (25, 16, 29, 0, 0, 28), (28, 0, 0, 0, (-1), 29), (29, 25, 0, 0, 0, 30), (30, 7, 1, 0, 1, 33), (33, 16, 2, 0, 0, 36), (36, 0, 0, 0, 1, 37), (37, 4, 1, 0, 0, 38), (38, 1, 1, 0, 0, 39), (39, 0, 0, 1, 6, 41), (41, 15, 54, 3, 0, 44), (44, 2, 0, 0, 0, 45), (45, 29, 71, 1, 43, 48), (48, 7, 1, 0, 1, 51), (51, 16, 38, 0, 0, 54), (54, 30, 0, 0, 0, 55)]
def tb_Ways_goOnByEachNeed : List (Nat × am_In) := [(0, 0, 0, 0, 0, 1), (1, 4, 1, 0, 0, 2), (2, 1, 1, 0, 0, 3), (3, 2, 0, 0, 0, 4), (4, 18, 5, 1, 19, 7), (7, 29, 38, 1, 46, 10), (10, 15, 75, 3, 0, 13), (13, 2, 0, 0, 0, 14), (14, 18, 5, 1, 19, 17), (17, 1, 1, 0, 0, 18), (18, 2, 0, 0, 0, 19), (19, 18, 5, 0, 15, 22), (22, 29, 35, 1, 52, 25), (25, 29, 44, 3, 56, 28), (28, 14, 69, 0, 0, 31), (31, 2, 0, 0, 0, 32), (32, 17, 5, 2, 23, 35), (35, 14, 49, 0, 0, 38), (38, 2, 0, 0, 0, 39), (39, 18, 5, 1, 19, 42), (42, 1, 1, 0, 0, 43), (43, 29, 41, 2, 60, 46), (46, 14, 69, 0, 0, 49), (49, 2, 0, 0, 0, 50), (50, 2, 0, 0, 0, 51), (51, 18, 5, 1, 19, 54), (54, 1, 1, 0, 0, 55), (55, 29, 42, 2, 63, 58), (58, 2, 0, 0, 0, 59), (59, 18, 5, 1, 19, 62), (62, 1, 1, 0, 0, 63), (63, 29, 43, 2, 67, 66), (66, 29, 72, 3, 70, 69), (69, 7, 1, 0, 1, 72), (72, 16, 2, 0, 0, 75), (75, 30, 0, 0, 0, 76)]
def tb_Ways_goOn : List (Nat × am_In) := [(0, 2, 0, 0, 0, 1), (1, 1, 1, 0, 0, 2), (2, 29, 69, 2, 74, 5), (5, 4, 3, 0, 0, 6), (6, 1, 3, 0, 0, 7), (7, 0, 0, 0, (-1), 8), (8, 15, 20, 0, 0, 11), (11, 1, 2, 0, 0, 12), (12, 0, 0, 1, 6, 14), (14, 28, 25, 2, 33, 17), (17, 14, 21, 1, 0, 20), (20, 30, 0, 0, 0, 21), (21, 2, 0, 0, 0, 22), (22, 18, 5, 3, 9, 25), (25, 1, 2, 0, 0, 26), (26, 22, 0, 0, 0, 27), (27, 0, 0, 0, (-1), 28), (28, 15, 43, 0, 0, 31), (31, 2, 0, 0, 0, 32), (32, 18, 5, 3, 9, 35), (35, 1, 2, 0, 0, 36), (36, 22, 0, 0, 0, 37), (37, 1, 3, 0, 0, 38), (38, 0, 0, 0, 1, 39), (39, 8, 0, 0, 0, 40), (40, 15, 52, 5, 0, 43), (43, 2, 0, 0, 0, 44), (44, 18, 5, 3, 9, 47), (47, 1, 2, 0, 0, 48), (48, 1, 3, 0, 0, 49), (49, 0, 0, 0, 1, 50), (50, 8, 0, 0, 0, 51), (51, 25, 0, 0, 0, 52), (52, 30, 0, 0, 0, 53)]
def tb_HitList_init : List (Nat × am_In) := [(0, 2, 0, 0, 0, 1), (1, 58, 0, 0, 3, 4), (4, 2, 0, 0, 0, 5), (5, 0, 0, 1, 12, 7), (7, 0, 0, 1, 6, 9), (9, 37, 12, 6, 11, 13), (13, 21, 6, 0, 13, 16), (16, 2, 0, 0, 0, 17), (17, 0, 0, 0, 0, 18), (18, 19, 6, 1, 16, 21), (21, 30, 0, 0, 0, 22)]
def tb_HitList_count : List (Nat × am_In) := [(0, 2, 0, 0, 0, 1), (1, 17, 6, 1, 16, 4), (4, 31, 0, 0, 0, 5)]
def tb_HitList_clear : List (Nat × am_In) := [(0, 2, 0, 0, 0, 1), (1, 0, 0, 0, 0, 2), (2, 19, 6, 1, 16, 5), (5, 30, 0, 0, 0, 6)]
def tb_HitList_add : List (Nat × am_In) := [(0, 2, 0, 0, 0, 1), (1, 17, 6, 1, 16, 4), (4, 0, 0, 1, 12, 6), (6, 15, 10, 2, 0, 9), (9, 30, 0, 0, 0, 10), (10, 2, 0, 0, 0, 11), (11, 18, 6, 0, 13, 14), (14, 2, 0, 0, 0, 15), (15, 17, 6, 1, 16, 18), (18, 24, 0, 0, 0, 19), (19, 5, 7, 0, 0, 21), (21, 2, 7, 0, 0, 23), (23, 0, 0, 0, 0, 24), (24, 1, 1, 0, 0, 25), (25, 25, 0, 0, 0, 26), (26, 2, 7, 0, 0, 28), (28, 0, 0, 0, 1, 29), (29, 1, 2, 0, 0, 30), (30, 25, 0, 0, 0, 31), (31, 2, 7, 0, 0, 33), (33, 0, 0, 0, 2, 34), (34, 1, 3, 0, 0, 35), (35, 25, 0, 0, 0, 36), (36, 2, 7, 0, 0, 38), (38, 0, 0, 0, 3, 39), (39, 1, 4, 0, 0, 41), (41, 25, 0, 0, 0, 42), (42, 2, 7, 0, 0, 44), (44, 0, 0, 0, 4, 45), (45, 1, 5, 0, 0, 47), (47, 25, 0, 0, 0, 48), (48, 2, 7, 0, 0, 50), (50, 0, 0, 0, 5, 51), (51, 1, 6, 0, 0, 53), (53, 25, 0, 0, 0, 54), (54, 2, 0, 0, 0, 55), (55, 38, 0, 0, 0, 56), (56, 17, 6, 1, 16, 59), (59, 0, 0, 0, 1, 60), (60, 8, 0, 0, 0, 61), (61, 19, 6, 1, 16, 64), (64, 30, 0, 0, 0, 65)]
def tb_HitList_part : List (Nat × am_In) := [(0, 1, 1, 0, 0, 1), (1, 2, 0, 0, 0, 2), (2, 17, 6, 1, 16, 5), (5, 28, 25, 2, 20, 8), (8, 14, 31, 0, 0, 11), (11, 1, 2, 0, 0, 12), (12, 0, 0, 1, 6, 14), (14, 28, 25, 2, 20, 17), (17, 14, 31, 0, 0, 20), (20, 2, 0, 0, 0, 21), (21, 18, 6, 0, 13, 24), (24, 1, 1, 0, 0, 25), (25, 24, 0, 0, 0, 26), (26, 1, 2, 0, 0, 27), (27, 22, 0, 0, 0, 28), (28, 16, 32, 0, 0, 31), (31, 0, 0, 0, (-1), 32), (32, 31, 0, 0, 0, 33)]
def tb_Planner_init : List (Nat × am_In) := [(0, 2, 0, 0, 0, 1), (1, 58, 0, 0, 5, 4), (4, 2, 0, 0, 0, 5), (5, 0, 0, 1, 30, 7), (7, 36, 1, 30, 0, 9), (9, 21, 7, 2, 11, 12), (12, 2, 0, 0, 0, 13), (13, 0, 0, 1, 6, 15), (15, 36, 0, 6, 0, 17), (17, 21, 7, 3, 15, 20), (20, 2, 0, 0, 0, 21), (21, 0, 0, 1, 6, 23), (23, 36, 0, 6, 0, 25), (25, 21, 7, 4, 19, 28), (28, 2, 0, 0, 0, 29), (29, 0, 0, 1, 6, 31), (31, 36, 0, 6, 0, 33), (33, 21, 7, 5, 22, 36), (36, 2, 0, 0, 0, 37), (37, 2, 1, 0, 0, 38), (38, 21, 7, 0, 25, 41), (41, 2, 0, 0, 0, 42), (42, 2, 2, 0, 0, 43), (43, 21, 7, 1, 29, 46), (46, 2, 0, 0, 0, 47), (47, 18, 7, 4, 19, 50), (50, 0, 0, 0, (-1), 51), (51, 28, 0, 2, 33, 54), (54, 2, 0, 0, 0, 55), (55, 18, 7, 5, 22, 58), (58, 0, 0, 0, (-1), 59), (59, 28, 0, 2, 33, 62), (62, 2, 0, 0, 0, 63), (63, 0, 0, 2, 210, 66), (66, 19, 7, 6, 39, 69), (69, 2, 0, 0, 0, 70), (70, 0, 0, 0, 0, 71), (71, 20, 7, 7, 43, 74), (74, 30, 0, 0, 0, 75)]
def tb_Planner_markPlace : List (Nat × am_In) := [(0, 1, 1, 0, 0, 1), (1, 0, 0, 1, 6, 3), (3, 28, 25, 2, 47, 6), (6, 14, 28, 0, 0, 9), (9, 1, 2, 0, 0, 10), (10, 0, 0, 0, 5, 11), (11, 28, 25, 2, 47, 14), (14, 14, 28, 0, 0, 17), (17, 2, 0, 0, 0, 18), (18, 18, 7, 2, 11, 21), (21, 1, 1, 0, 0, 22), (22, 0, 0, 0, 5, 23), (23, 10, 0, 0, 0, 24), (24, 1, 2, 0, 0, 25), (25, 8, 0, 0, 0, 26), (26, 1, 3, 0, 0, 27), (27, 26, 0, 0, 0, 28), (28, 30, 0, 0, 0, 29)]
def tb_Planner_search : List (Nat × am_In) := [(0, 2, 0, 0, 0, 1), (1, 0, 0, 2, 210, 4), (4, 19, 7, 6, 39, 7), (7, 2, 0, 0, 0, 8), (8, 0, 0, 0, 0, 9), (9, 0, 0, 0, 0, 10), (10, 29, 83, 3, 51, 13), (13, 2, 0, 0, 0, 14), (14, 17, 7, 6, 39, 17), (17, 0, 0, 2, 210, 20), (20, 15, 25, 1, 0, 23), (23, 0, 0, 0, (-1), 24), (24, 31, 0, 0, 0, 25), (25, 2, 0, 0, 0, 26), (26, 0, 0, 0, 1, 27), (27, 20, 7, 7, 43, 30), (30, 2, 0, 0, 0, 31), (31, 17, 7, 6, 39, 34), (34, 0, 0, 1, 30, 36), (36, 11, 0, 0, 0, 37), (37, 31, 0, 0, 0, 38)]
def tb_Planner_placeFor : List (Nat × am_In) := [(0, 1, 1, 0, 0, 1), (1, 0, 0, 1, 6, 3), (3, 28, 25, 2, 47, 6), (6, 14, 18, 0, 0, 9), (9, 2, 0, 0, 0, 10), (10, 18, 7, 5, 22, 13), (13, 1, 1, 0, 0, 14), (14, 22, 0, 0, 0, 15), (15, 16, 19, 0, 0, 18), (18, 0, 0, 0, (-1), 19), (19, 31, 0, 0, 0, 20)]
def tb_Planner_carryOut : List (Nat × am_In) := [(0, 2, 0, 0, 0, 1), (1, 17, 7, 7, 43, 4), (4, 14, 9, 1, 0, 7), (7, 0, 0, 0, (-1), 8), (8, 31, 0, 0, 0, 9), (9, 0, 0, 0, 0, 10), (10, 4, 1, 0, 0, 11), (11, 0, 0, 0, 0, 12), (12, 4, 2, 0, 0, 13), (13, 1, 2, 0, 0, 14), (14, 0, 0, 1, 6, 16), (16, 15, 77, 3, 0, 19), (19, 2, 0, 0, 0, 20), (20, 18, 7, 0, 25, 23), (23, 1, 2, 0, 0, 24), (24, 29, 34, 2, 55, 27), (27, 4, 3, 0, 0, 28), (28, 1, 3, 0, 0, 29), (29, 0, 0, 0, (-1), 30), (30, 15, 71, 0, 0, 33), (33, 2, 0, 0, 0, 34), (34, 18, 7, 5, 22, 37), (37, 1, 2, 0, 0, 38), (38, 22, 0, 0, 0, 39), (39, 0, 0, 0, (-1), 40), (40, 15, 71, 0, 0, 43), (43, 2, 0, 0, 0, 44), (44, 18, 7, 5, 22, 47), (47, 1, 2, 0, 0, 48), (48, 22, 0, 0, 0, 49), (49, 1, 3, 0, 0, 50), (50, 15, 71, 0, 0, 53), (53, 2, 0, 0, 0, 54), (54, 18, 7, 0, 25, 57), (57, 1, 2, 0, 0, 58), (58, 2, 0, 0, 0, 59), (59, 18, 7, 5, 22, 62), (62, 1, 2, 0, 0, 63), (63, 22, 0, 0, 0, 64), (64, 29, 33, 3, 61, 67), (67, 39, 0, 0, 0, 68), (68, 7, 1, 0, 1, 71), (71, 7, 2, 0, 1, 74), (74, 16, 13, 0, 0, 77), (77, 1, 1, 0, 0, 78), (78, 31, 0, 0, 0, 79)]
def tb_Planner_choose : List (Nat × am_In) := [(0, 1, 2, 0, 0, 1), (1, 2, 0, 0, 0, 2), (2, 17, 7, 6, 39, 5), (5, 15, 9, 2, 0, 8), (8, 30, 0, 0, 0, 9), (9, 1, 1, 0, 0, 10), (10, 0, 0, 1, 6, 12), (12, 28, 25, 2, 47, 15), (15, 14, 24, 1, 0, 18), (18, 2, 0, 0, 0, 19), (19, 1, 2, 0, 0, 20), (20, 29, 85, 2, 64, 23), (23, 30, 0, 0, 0, 24), (24, 2, 0, 0, 0, 25), (25, 18, 7, 0, 25, 28), (28, 1, 1, 0, 0, 29), (29, 29, 34, 2, 55, 32), (32, 4, 3, 0, 0, 33), (33, 1, 3, 0, 0, 34), (34, 0, 0, 0, (-1), 35), (35, 15, 46, 1, 0, 38), (38, 2, 0, 0, 0, 39), (39, 1, 1, 0, 0, 40), (40, 0, 0, 0, (-1), 41), (41, 1, 2, 0, 0, 42), (42, 29, 84, 4, 68, 45), (45, 30, 0, 0, 0, 46), (46, 0, 0, 0, 0, 47), (47, 4, 4, 0, 0, 49), (49, 1, 4, 0, 0, 51), (51, 2, 0, 0, 0, 52), (52, 18, 7, 0, 25, 55), (55, 1, 1, 0, 0, 56), (56, 29, 30, 2, 72, 59), (59, 15, 93, 3, 0, 62), (62, 2, 0, 0, 0, 63), (63, 1, 1, 0, 0, 64), (64, 1, 4, 0, 0, 66), (66, 29, 86, 3, 75, 69), (69, 14, 87, 0, 0, 72), (72, 2, 0, 0, 0, 73), (73, 1, 1, 0, 0, 74), (74, 1, 4, 0, 0, 76), (76, 1, 2, 0, 0, 77), (77, 1, 3, 0, 0, 78), (78, 1, 4, 0, 0, 80), (80, 28, 87, 2, 78, 83), (83, 8, 0, 0, 0, 84), (84, 29, 84, 4, 68, 87), (87, 7, 4, 0, 1, 90), (90, 16, 49, 0, 0, 93), (93, 30, 0, 0, 0, 94)]
def tb_Planner_settle : List (Nat × am_In) := [(0, 1, 1, 0, 0, 1), (1, 0, 0, 1, 6, 3), (3, 28, 25, 2, 47, 6), (6, 14, 10, 1, 0, 9), (9, 30, 0, 0, 0, 10), (10, 2, 0, 0, 0, 11), (11, 18, 7, 3, 15, 14), (14, 1, 1, 0, 0, 15), (15, 1, 2, 0, 0, 16), (16, 25, 0, 0, 0, 17), (17, 2, 0, 0, 0, 18), (18, 18, 7, 4, 19, 21), (21, 1, 1, 0, 0, 22), (22, 2, 0, 0, 0, 23), (23, 18, 7, 0, 25, 26), (26, 1, 1, 0, 0, 27), (27, 1, 2, 0, 0, 28), (28, 29, 32, 3, 82, 31), (31, 25, 0, 0, 0, 32), (32, 2, 0, 0, 0, 33), (33, 18, 7, 1, 29, 36), (36, 1, 1, 0, 0, 37), (37, 2, 0, 0, 0, 38), (38, 18, 7, 4, 19, 41), (41, 29, 46, 3, 85, 44), (44, 14, 55, 0, 0, 47), (47, 2, 0, 0, 0, 48), (48, 1, 1, 0, 0, 49), (49, 0, 0, 0, 1, 50), (50, 8, 0, 0, 0, 51), (51, 1, 3, 0, 0, 52), (52, 29, 83, 3, 51, 55), (55, 30, 0, 0, 0, 56)]
def tb_Planner_keepTried : List (Nat × am_In) := [(0, 2, 0, 0, 0, 1), (1, 1, 1, 0, 0, 2), (2, 19, 7, 6, 39, 5), (5, 2, 0, 0, 0, 6), (6, 18, 7, 3, 15, 9), (9, 0, 0, 0, 0, 10), (10, 2, 0, 0, 0, 11), (11, 18, 7, 5, 22, 14), (14, 0, 0, 0, 0, 15), (15, 0, 0, 1, 6, 17), (17, 57, 0, 0, 91, 20), (20, 30, 0, 0, 0, 21)]
def tb_Planner_isClearPlace : List (Nat × am_In) := [(0, 1, 1, 0, 0, 1), (1, 0, 0, 1, 6, 3), (3, 28, 25, 2, 47, 6), (6, 14, 34, 0, 0, 9), (9, 1, 2, 0, 0, 10), (10, 0, 0, 0, 5, 11), (11, 28, 25, 2, 47, 14), (14, 14, 34, 0, 0, 17), (17, 2, 0, 0, 0, 18), (18, 18, 7, 2, 11, 21), (21, 1, 1, 0, 0, 22), (22, 0, 0, 0, 5, 23), (23, 10, 0, 0, 0, 24), (24, 1, 2, 0, 0, 25), (25, 8, 0, 0, 0, 26), (26, 23, 0, 0, 0, 27), (27, 14, 34, 0, 0, 30), (30, 0, 0, 0, 1, 31), (31, 16, 35, 0, 0, 34), (34, 0, 0, 0, 0, 35), (35, 32, 0, 0, 0, 36)]
def tb_Planner_costOf : List (Nat × am_In) := [(0, 1, 0, 0, 0, 1), (1, 1, 1, 0, 0, 2), (2, 15, 9, 1, 0, 5), (5, 0, 0, 0, 0, 6), (6, 16, 18, 0, 0, 9), (9, 0, 0, 1, 30, 11), (11, 1, 1, 0, 0, 12), (12, 1, 0, 0, 0, 13), (13, 9, 0, 0, 0, 14), (14, 55, 0, 0, 97, 17), (17, 8, 0, 0, 0, 18), (18, 31, 0, 0, 0, 19)]
def tb_Model_init : List (Nat × am_In) := [(0, 2, 0, 0, 0, 1), (1, 58, 0, 0, 1, 4), (4, 2, 0, 0, 0, 5), (5, 0, 0, 1, 6, 7), (7, 36, 1, 6, 0, 9), (9, 21, 8, 2, 7, 12), (12, 2, 0, 0, 0, 13), (13, 0, 0, 1, 6, 15), (15, 36, 0, 6, 0, 17), (17, 21, 8, 3, 13, 20), (20, 2, 0, 0, 0, 21), (21, 0, 0, 1, 30, 23), (23, 36, 0, 30, 0, 25), (25, 21, 8, 4, 17, 28), (28, 2, 0, 0, 0, 29), (29, 0, 0, 1, 6, 31), (31, 36, 0, 6, 0, 33), (33, 21, 8, 5, 20, 36), (36, 2, 0, 0, 0, 37), (37, 0, 0, 1, 16, 39), (39, 36, 0, 16, 0, 41), (41, 21, 8, 7, 23, 44), (44, 2, 0, 0, 0, 45), (45, 0, 0, 1, 16, 47), (47, 36, 0, 16, 0, 49), (49, 21, 8, 8, 26, 52), (52, 2, 0, 0, 0, 53), (53, 0, 0, 1, 16, 55), (55, 36, 0, 16, 0, 57), (57, 21, 8, 9, 29, 60), (60, 2, 0, 0, 0, 61), (61, 0, 0, 1, 16, 63), (63, 36, 0, 16, 0, 65), (65, 21, 8, 10, 32, 68), (68, 2, 0, 0, 0, 69), (69, 0, 0, 1, 16, 71), (71, 36, 0, 16, 0, 73), (73, 21, 8, 11, 35, 76), (76, 2, 0, 0, 0, 77), (77, 0, 0, 1, 16, 79), (79, 36, 1, 16, 0, 81), (81, 21, 8, 12, 38, 84), (84, 2, 0, 0, 0, 85), (85, 0, 0, 1, 12, 87), (87, 36, 0, 12, 0, 89), (89, 21, 8, 14, 41, 92), (92, 2, 0, 0, 0, 93), (93, 0, 0, 1, 12, 95), (95, 36, 0, 12, 0, 97), (97, 21, 8, 15, 44, 100), (100, 2, 0, 0, 0, 101), (101, 0, 0, 1, 36, 103), (103, 36, 0, 36, 0, 105), (105, 21, 8, 16, 47, 108), (108, 2, 0, 0, 0, 109), (109, 0, 0, 1, 36, 111), (111, 36, 0, 36, 0, 113), (113, 21, 8, 17, 50, 116), (116, 2, 0, 0, 0, 117), (117, 0, 0, 1, 84, 119), (119, 36, 0, 84, 0, 121), (121, 21, 8, 18, 53, 124), (124, 2, 0, 0, 0, 125), (125, 0, 0, 1, 12, 127), (127, 36, 1, 12, 0, 129), (129, 21, 8, 19, 56, 132), (132, 2, 0, 0, 0, 133), (133, 0, 0, 1, 12, 135), (135, 36, 0, 12, 0, 137), (137, 21, 8, 20, 59, 140), (140, 2, 0, 0, 0, 141), (141, 0, 0, 1, 72, 143), (143, 36, 0, 72, 0, 145), (145, 21, 8, 21, 62, 148), (148, 2, 0, 0, 0, 149), (149, 0, 0, 2, 432, 152), (152, 36, 0, 432, 0, 154), (154, 21, 8, 23, 65, 157), (157, 2, 0, 0, 0, 158), (158, 0, 0, 1, 6, 160), (160, 36, 0, 6, 0, 162), (162, 21, 8, 24, 68, 165), (165, 2, 0, 0, 0, 166), (166, 0, 0, 1, 6, 168), (168, 36, 1, 6, 0, 170), (170, 21, 8, 25, 71, 173), (173, 2, 0, 0, 0, 174), (174, 0, 0, 1, 6, 176), (176, 36, 0, 6, 0, 178), (178, 21, 8, 26, 74, 181), (181, 2, 0, 0, 0, 182), (182, 0, 0, 1, 30, 184), (184, 36, 1, 30, 0, 186), (186, 21, 8, 27, 77, 189), (189, 2, 0, 0, 0, 190), (190, 0, 0, 1, 6, 192), (192, 36, 0, 6, 0, 194), (194, 21, 8, 28, 80, 197), (197, 2, 0, 0, 0, 198), (198, 0, 0, 1, 6, 200), (200, 36, 0, 6, 0, 202), (202, 21, 8, 30, 83, 205), (205, 0, 0, 0, 0, 206), (206, 4, 1, 0, 0, 207), (207, 1, 1, 0, 0, 208), (208, 0, 0, 1, 6, 210), (210, 15, 233, 3, 0, 213), (213, 2, 0, 0, 0, 214), (214, 18, 8, 5, 20, 217), (217, 1, 1, 0, 0, 218), (218, 0, 0, 0, (-1), 219), (219, 25, 0, 0, 0, 220), (220, 2, 0, 0, 0, 221), (221, 18, 8, 30, 83, 224), (224, 1, 1, 0, 0, 225), (225, 0, 0, 0, (-1), 226), (226, 25, 0, 0, 0, 227), (227, 7, 1, 0, 1, 230), (230, 16, 207, 0, 0, 233), (233, 0, 0, 0, 0, 234), (234, 4, 1, 0, 0, 235), (235, 1, 1, 0, 0, 236), (236, 0, 0, 1, 72, 238), (238, 15, 254, 3, 0, 241), (241, 2, 0, 0, 0, 242), (242, 18, 8, 21, 62, 245), (245, 1, 1, 0, 0, 246), (246, 0, 0, 0, (-1), 247), (247, 25, 0, 0, 0, 248), (248, 7, 1, 0, 1, 251), (251, 16, 235, 0, 0, 254), (254, 30, 0, 0, 0, 255)]
def tb_Model_isPack : List (Nat × am_In) := [(0, 1, 1, 0, 0, 1), (1, 14, 16, 2, 0, 4), (4, 1, 1, 0, 0, 5), (5, 2, 0, 0, 0, 6), (6, 17, 8, 1, 86, 9), (9, 15, 16, 3, 0, 12), (12, 0, 0, 0, 1, 13), (13, 16, 17, 0, 0, 16), (16, 0, 0, 0, 0, 17), (17, 32, 0, 0, 0, 18)]
def tb_Model_isAdvisory : List (Nat × am_In) := [(0, 1, 1, 0, 0, 1), (1, 14, 16, 2, 0, 4), (4, 1, 1, 0, 0, 5), (5, 2, 0, 0, 0, 6), (6, 17, 8, 13, 90, 9), (9, 15, 16, 3, 0, 12), (12, 0, 0, 0, 1, 13), (13, 16, 17, 0, 0, 16), (16, 0, 0, 0, 0, 17), (17, 32, 0, 0, 0, 18)]
def tb_Model_in : List (Nat × am_In) := [(0, 1, 0, 0, 0, 1), (1, 1, 1, 0, 0, 2), (2, 15, 14, 2, 0, 5), (5, 1, 0, 0, 0, 6), (6, 1, 2, 0, 0, 7), (7, 15, 14, 4, 0, 10), (10, 0, 0, 0, 1, 11), (11, 16, 15, 0, 0, 14), (14, 0, 0, 0, 0, 15), (15, 32, 0, 0, 0, 16)]
def tb_Model_pack : List (Nat × am_In) := [(0, 2, 0, 0, 0, 1), (1, 17, 8, 1, 86, 4), (4, 0, 0, 1, 6, 6), (6, 15, 11, 1, 0, 9), (9, 0, 0, 0, (-1), 10), (10, 31, 0, 0, 0, 11), (11, 2, 0, 0, 0, 12), (12, 18, 8, 2, 7, 15), (15, 2, 0, 0, 0, 16), (16, 17, 8, 1, 86, 19), (19, 1, 1, 0, 0, 20), (20, 26, 0, 0, 0, 21), (21, 2, 0, 0, 0, 22), (22, 38, 0, 0, 0, 23), (23, 17, 8, 1, 86, 26), (26, 0, 0, 0, 1, 27), (27, 8, 0, 0, 0, 28), (28, 19, 8, 1, 86, 31), (31, 2, 0, 0, 0, 32), (32, 17, 8, 1, 86, 35), (35, 0, 0, 0, 1, 36), (36, 9, 0, 0, 0, 37), (37, 31, 0, 0, 0, 38)]
def tb_Model_version : List (Nat × am_In) := [(0, 2, 0, 0, 0, 1), (1, 1, 1, 0, 0, 2), (2, 29, 89, 2, 93, 5), (5, 14, 28, 0, 0, 8), (8, 2, 0, 0, 0, 9), (9, 18, 8, 3, 13, 12), (12, 1, 1, 0, 0, 13), (13, 22, 0, 0, 0, 14), (14, 0, 0, 0, 5, 15), (15, 15, 28, 0, 0, 18), (18, 1, 2, 0, 0, 19), (19, 0, 0, 0, 0, 20), (20, 0, 97, 3, 1000000, 22), (22, 28, 91, 3, 98, 25), (25, 14, 30, 1, 0, 28), (28, 0, 0, 0, (-1), 29), (29, 31, 0, 0, 0, 30), (30, 0, 0, 0, 5, 31), (31, 1, 1, 0, 0, 32), (32, 10, 0, 0, 0, 33), (33, 2, 0, 0, 0, 34), (34, 18, 8, 3, 13, 37), (37, 1, 1, 0, 0, 38), (38, 22, 0, 0, 0, 39), (39, 8, 0, 0, 0, 40), (40, 4, 3, 0, 0, 41), (41, 2, 0, 0, 0, 42), (42, 18, 8, 3, 13, 45), (45, 1, 1, 0, 0, 46), (46, 22, 0, 0, 0, 47), (47, 14, 64, 5, 0, 50), (50, 2, 0, 0, 0, 51), (51, 18, 8, 4, 17, 54), (54, 1, 3, 0, 0, 55), (55, 0, 0, 0, 1, 56), (56, 9, 0, 0, 0, 57), (57, 22, 0, 0, 0, 58), (58, 1, 2, 0, 0, 59), (59, 15, 64, 2, 0, 62), (62, 0, 0, 0, (-1), 63), (63, 31, 0, 0, 0, 64), (64, 2, 0, 0, 0, 65), (65, 18, 8, 4, 17, 68), (68, 1, 3, 0, 0, 69), (69, 1, 2, 0, 0, 70), (70, 25, 0, 0, 0, 71), (71, 2, 0, 0, 0, 72), (72, 18, 8, 3, 13, 75), (75, 1, 1, 0, 0, 76), (76, 41, 0, 0, 0, 77), (77, 22, 0, 0, 0, 78), (78, 0, 0, 0, 1, 79), (79, 8, 0, 0, 0, 80), (80, 25, 0, 0, 0, 81), (81, 2, 0, 0, 0, 82), (82, 18, 8, 3, 13, 85), (85, 1, 1, 0, 0, 86), (86, 22, 0, 0, 0, 87), (87, 0, 0, 0, 1, 88), (88, 9, 0, 0, 0, 89), (89, 31, 0, 0, 0, 90)]
def tb_Model_install : List (Nat × am_In) := [(0, 2, 0, 0, 0, 1), (1, 1, 1, 0, 0, 2), (2, 29, 89, 2, 93, 5), (5, 14, 24, 0, 0, 8), (8, 1, 2, 0, 0, 9), (9, 0, 0, 0, (-1), 10), (10, 2, 0, 0, 0, 11), (11, 18, 8, 3, 13, 14), (14, 1, 1, 0, 0, 15), (15, 22, 0, 0, 0, 16), (16, 0, 0, 0, 1, 17), (17, 9, 0, 0, 0, 18), (18, 28, 91, 3, 98, 21), (21, 14, 26, 1, 0, 24), (24, 0, 0, 0, 0, 25), (25, 32, 0, 0, 0, 26), (26, 2, 0, 0, 0, 27), (27, 18, 8, 5, 20, 30), (30, 1, 1, 0, 0, 31), (31, 1, 2, 0, 0, 32), (32, 25, 0, 0, 0, 33), (33, 0, 0, 0, 1, 34), (34, 32, 0, 0, 0, 35)]
def tb_Model_need : List (Nat × am_In) := [(0, 2, 0, 0, 0, 1), (1, 17, 8, 6, 102, 4), (4, 0, 0, 1, 16, 6), (6, 15, 25, 0, 0, 9), (9, 2, 0, 0, 0, 10), (10, 1, 1, 0, 0, 11), (11, 29, 89, 2, 93, 14), (14, 14, 25, 0, 0, 17), (17, 2, 0, 0, 0, 18), (18, 1, 3, 0, 0, 19), (19, 29, 89, 2, 93, 22), (22, 14, 27, 1, 0, 25), (25, 0, 0, 0, (-1), 26), (26, 31, 0, 0, 0, 27), (27, 2, 0, 0, 0, 28), (28, 18, 8, 7, 23, 31), (31, 2, 0, 0, 0, 32), (32, 17, 8, 6, 102, 35), (35, 1, 1, 0, 0, 36), (36, 25, 0, 0, 0, 37), (37, 2, 0, 0, 0, 38), (38, 18, 8, 8, 26, 41), (41, 2, 0, 0, 0, 42), (42, 17, 8, 6, 102, 45), (45, 1, 2, 0, 0, 46), (46, 25, 0, 0, 0, 47), (47, 2, 0, 0, 0, 48), (48, 18, 8, 9, 29, 51), (51, 2, 0, 0, 0, 52), (52, 17, 8, 6, 102, 55), (55, 1, 3, 0, 0, 56), (56, 25, 0, 0, 0, 57), (57, 2, 0, 0, 0, 58), (58, 18, 8, 10, 32, 61), (61, 2, 0, 0, 0, 62), (62, 17, 8, 6, 102, 65), (65, 1, 4, 0, 0, 67), (67, 25, 0, 0, 0, 68), (68, 2, 0, 0, 0, 69), (69, 18, 8, 11, 35, 72), (72, 2, 0, 0, 0, 73), (73, 17, 8, 6, 102, 76), (76, 1, 5, 0, 0, 78), (78, 25, 0, 0, 0, 79), (79, 2, 0, 0, 0, 80), (80, 38, 0, 0, 0, 81), (81, 17, 8, 6, 102, 84), (84, 0, 0, 0, 1, 85), (85, 8, 0, 0, 0, 86), (86, 19, 8, 6, 102, 89), (89, 2, 0, 0, 0, 90), (90, 17, 8, 6, 102, 93), (93, 0, 0, 0, 1, 94), (94, 9, 0, 0, 0, 95), (95, 31, 0, 0, 0, 96)]
def tb_Model_call : List (Nat × am_In) := [(0, 1, 1, 0, 0, 1), (1, 14, 12, 2, 0, 4), (4, 1, 1, 0, 0, 5), (5, 2, 0, 0, 0, 6), (6, 17, 8, 6, 102, 9), (9, 15, 14, 2, 0, 12), (12, 0, 0, 0, 0, 13), (13, 32, 0, 0, 0, 14), (14, 2, 0, 0, 0, 15), (15, 18, 8, 12, 38, 18), (18, 1, 1, 0, 0, 19), (19, 1, 2, 0, 0, 20), (20, 26, 0, 0, 0, 21), (21, 0, 0, 0, 1, 22), (22, 32, 0, 0, 0, 23)]
def tb_Model_lookAtInstalled : List (Nat × am_In) := [(0, 0, 0, 0, 0, 1), (1, 4, 1, 0, 0, 2), (2, 1, 1, 0, 0, 3), (3, 0, 0, 1, 6, 5), (5, 15, 26, 3, 0, 8), (8, 2, 0, 0, 0, 9), (9, 18, 8, 26, 74, 12), (12, 1, 1, 0, 0, 13), (13, 2, 0, 0, 0, 14), (14, 18, 8, 5, 20, 17), (17, 1, 1, 0, 0, 18), (18, 22, 0, 0, 0, 19), (19, 25, 0, 0, 0, 20), (20, 7, 1, 0, 1, 23), (23, 16, 2, 0, 0, 26), (26, 30, 0, 0, 0, 27)]
def tb_Model_isActive : List (Nat × am_In) := [(0, 2, 0, 0, 0, 1), (1, 18, 8, 7, 23, 4), (4, 1, 1, 0, 0, 5), (5, 22, 0, 0, 0, 6), (6, 4, 2, 0, 0, 7), (7, 2, 0, 0, 0, 8), (8, 18, 8, 26, 74, 11), (11, 1, 2, 0, 0, 12), (12, 22, 0, 0, 0, 13), (13, 0, 0, 0, (-1), 14), (14, 15, 45, 0, 0, 17), (17, 2, 0, 0, 0, 18), (18, 18, 8, 4, 17, 21), (21, 0, 0, 0, 5, 22), (22, 1, 2, 0, 0, 23), (23, 10, 0, 0, 0, 24), (24, 2, 0, 0, 0, 25), (25, 18, 8, 26, 74, 28), (28, 1, 2, 0, 0, 29), (29, 22, 0, 0, 0, 30), (30, 8, 0, 0, 0, 31), (31, 22, 0, 0, 0, 32), (32, 2, 0, 0, 0, 33), (33, 18, 8, 8, 26, 36), (36, 1, 1, 0, 0, 37), (37, 22, 0, 0, 0, 38), (38, 15, 45, 2, 0, 41), (41, 0, 0, 0, 1, 42), (42, 16, 46, 0, 0, 45), (45, 0, 0, 0, 0, 46), (46, 32, 0, 0, 0, 47)]
def tb_Model_doesHold : List (Nat × am_In) := [(0, 2, 0, 0, 0, 1), (1, 18, 8, 9, 29, 4), (4, 1, 1, 0, 0, 5), (5, 22, 0, 0, 0, 6), (6, 4, 2, 0, 0, 7), (7, 2, 0, 0, 0, 8), (8, 18, 8, 26, 74, 11), (11, 1, 2, 0, 0, 12), (12, 22, 0, 0, 0, 13), (13, 0, 0, 0, (-1), 14), (14, 15, 19, 1, 0, 17), (17, 0, 0, 0, 0, 18), (18, 32, 0, 0, 0, 19), (19, 2, 0, 0, 0, 20), (20, 18, 8, 4, 17, 23), (23, 0, 0, 0, 5, 24), (24, 1, 2, 0, 0, 25), (25, 10, 0, 0, 0, 26), (26, 2, 0, 0, 0, 27), (27, 18, 8, 26, 74, 30), (30, 1, 2, 0, 0, 31), (31, 22, 0, 0, 0, 32), (32, 8, 0, 0, 0, 33), (33, 22, 0, 0, 0, 34), (34, 4, 3, 0, 0, 35), (35, 1, 3, 0, 0, 36), (36, 2, 0, 0, 0, 37), (37, 18, 8, 10, 32, 40), (40, 1, 1, 0, 0, 41), (41, 22, 0, 0, 0, 42), (42, 15, 59, 2, 0, 45), (45, 1, 3, 0, 0, 46), (46, 2, 0, 0, 0, 47), (47, 18, 8, 11, 35, 50), (50, 1, 1, 0, 0, 51), (51, 22, 0, 0, 0, 52), (52, 15, 59, 3, 0, 55), (55, 0, 0, 0, 1, 56), (56, 16, 60, 0, 0, 59), (59, 0, 0, 0, 0, 60), (60, 32, 0, 0, 0, 61)]
def tb_Model_lacking : List (Nat × am_In) := [(0, 0, 0, 0, 0, 1), (1, 4, 1, 0, 0, 2), (2, 0, 0, 0, 0, 3), (3, 4, 2, 0, 0, 4), (4, 1, 2, 0, 0, 5), (5, 2, 0, 0, 0, 6), (6, 17, 8, 6, 102, 9), (9, 15, 42, 3, 0, 12), (12, 1, 1, 0, 0, 13), (13, 2, 0, 0, 0, 14), (14, 1, 2, 0, 0, 15), (15, 29, 98, 2, 105, 18), (18, 14, 33, 0, 0, 21), (21, 2, 0, 0, 0, 22), (22, 1, 2, 0, 0, 23), (23, 29, 99, 2, 108, 26), (26, 14, 33, 1, 0, 29), (29, 0, 0, 0, 1, 30), (30, 16, 34, 0, 0, 33), (33, 0, 0, 0, 0, 34), (34, 8, 0, 0, 0, 35), (35, 4, 1, 0, 0, 36), (36, 7, 2, 0, 1, 39), (39, 16, 4, 0, 0, 42), (42, 1, 1, 0, 0, 43), (43, 31, 0, 0, 0, 44)]
def tb_Model_broken : List (Nat × am_In) := [(0, 2, 0, 0, 0, 1), (1, 29, 97, 1, 111, 4), (4, 2, 0, 0, 0, 5), (5, 29, 100, 1, 114, 8), (8, 31, 0, 0, 0, 9)]
def tb_Model_advisory : List (Nat × am_In) := [(0, 2, 0, 0, 0, 1), (1, 17, 8, 13, 90, 4), (4, 0, 0, 1, 12, 6), (6, 15, 17, 0, 0, 9), (9, 2, 0, 0, 0, 10), (10, 1, 1, 0, 0, 11), (11, 29, 89, 2, 93, 14), (14, 14, 19, 1, 0, 17), (17, 0, 0, 0, (-1), 18), (18, 31, 0, 0, 0, 19), (19, 2, 0, 0, 0, 20), (20, 18, 8, 14, 41, 23), (23, 2, 0, 0, 0, 24), (24, 17, 8, 13, 90, 27), (27, 1, 1, 0, 0, 28), (28, 25, 0, 0, 0, 29), (29, 2, 0, 0, 0, 30), (30, 18, 8, 20, 59, 33), (33, 2, 0, 0, 0, 34), (34, 17, 8, 13, 90, 37), (37, 2, 0, 0, 0, 38), (38, 17, 8, 13, 90, 41), (41, 25, 0, 0, 0, 42), (42, 2, 0, 0, 0, 43), (43, 38, 0, 0, 0, 44), (44, 17, 8, 13, 90, 47), (47, 0, 0, 0, 1, 48), (48, 8, 0, 0, 0, 49), (49, 19, 8, 13, 90, 52), (52, 2, 0, 0, 0, 53), (53, 17, 8, 13, 90, 56), (56, 0, 0, 0, 1, 57), (57, 9, 0, 0, 0, 58), (58, 31, 0, 0, 0, 59)]
def tb_Model_span : List (Nat × am_In) := [(0, 2, 0, 0, 0, 1), (1, 1, 1, 0, 0, 2), (2, 29, 90, 2, 118, 5), (5, 14, 32, 0, 0, 8), (8, 2, 0, 0, 0, 9), (9, 18, 8, 15, 44, 12), (12, 1, 1, 0, 0, 13), (13, 22, 0, 0, 0, 14), (14, 0, 0, 0, 3, 15), (15, 15, 32, 0, 0, 18), (18, 1, 2, 0, 0, 19), (19, 14, 32, 2, 0, 22), (22, 1, 3, 0, 0, 23), (23, 0, 0, 0, (-1), 24), (24, 15, 34, 0, 0, 27), (27, 1, 3, 0, 0, 28), (28, 1, 2, 0, 0, 29), (29, 15, 34, 4, 0, 32), (32, 0, 0, 0, 0, 33), (33, 32, 0, 0, 0, 34), (34, 2, 0, 0, 0, 35), (35, 18, 8, 16, 47, 38), (38, 0, 0, 0, 3, 39), (39, 1, 1, 0, 0, 40), (40, 10, 0, 0, 0, 41), (41, 2, 0, 0, 0, 42), (42, 18, 8, 15, 44, 45), (45, 1, 1, 0, 0, 46), (46, 22, 0, 0, 0, 47), (47, 8, 0, 0, 0, 48), (48, 1, 2, 0, 0, 49), (49, 25, 0, 0, 0, 50), (50, 2, 0, 0, 0, 51), (51, 18, 8, 17, 50, 54), (54, 0, 0, 0, 3, 55), (55, 1, 1, 0, 0, 56), (56, 10, 0, 0, 0, 57), (57, 2, 0, 0, 0, 58), (58, 18, 8, 15, 44, 61), (61, 1, 1, 0, 0, 62), (62, 22, 0, 0, 0, 63), (63, 8, 0, 0, 0, 64), (64, 1, 3, 0, 0, 65), (65, 25, 0, 0, 0, 66), (66, 2, 0, 0, 0, 67), (67, 18, 8, 15, 44, 70), (70, 1, 1, 0, 0, 71), (71, 41, 0, 0, 0, 72), (72, 22, 0, 0, 0, 73), (73, 0, 0, 0, 1, 74), (74, 8, 0, 0, 0, 75), (75, 25, 0, 0, 0, 76), (76, 0, 0, 0, 1, 77), (77, 32, 0, 0, 0, 78)]
def tb_Model_severity : List (Nat × am_In) := [(0, 2, 0, 0, 0, 1), (1, 1, 1, 0, 0, 2), (2, 29, 90, 2, 118, 5), (5, 14, 61, 0, 0, 8), (8, 1, 2, 0, 0, 9), (9, 0, 0, 0, 0, 10), (10, 0, 0, 0, 3, 11), (11, 28, 91, 3, 98, 14), (14, 14, 61, 0, 0, 17), (17, 1, 3, 0, 0, 18), (18, 0, 0, 0, 0, 19), (19, 0, 0, 0, 1, 20), (20, 28, 91, 3, 98, 23), (23, 14, 61, 0, 0, 26), (26, 1, 4, 0, 0, 28), (28, 0, 0, 0, 0, 29), (29, 0, 0, 0, 2, 30), (30, 28, 91, 3, 98, 33), (33, 14, 61, 0, 0, 36), (36, 1, 5, 0, 0, 38), (38, 0, 0, 0, 0, 39), (39, 0, 0, 0, 1, 40), (40, 28, 91, 3, 98, 43), (43, 14, 61, 0, 0, 46), (46, 1, 6, 0, 0, 48), (48, 0, 0, 0, 0, 49), (49, 0, 0, 1, 26, 51), (51, 28, 91, 3, 98, 54), (54, 14, 61, 0, 0, 57), (57, 0, 0, 0, 1, 58), (58, 16, 62, 0, 0, 61), (61, 0, 0, 0, 0, 62), (62, 4, 7, 0, 0, 64), (64, 1, 7, 0, 0, 66), (66, 14, 71, 1, 0, 69), (69, 0, 0, 0, 0, 70), (70, 32, 0, 0, 0, 71), (71, 2, 0, 0, 0, 72), (72, 18, 8, 18, 53, 75), (75, 0, 0, 1, 7, 77), (77, 1, 1, 0, 0, 78), (78, 10, 0, 0, 0, 79), (79, 1, 2, 0, 0, 80), (80, 25, 0, 0, 0, 81), (81, 2, 0, 0, 0, 82), (82, 18, 8, 18, 53, 85), (85, 0, 0, 1, 7, 87), (87, 1, 1, 0, 0, 88), (88, 10, 0, 0, 0, 89), (89, 0, 0, 0, 1, 90), (90, 8, 0, 0, 0, 91), (91, 1, 3, 0, 0, 92), (92, 25, 0, 0, 0, 93), (93, 2, 0, 0, 0, 94), (94, 18, 8, 18, 53, 97), (97, 0, 0, 1, 7, 99), (99, 1, 1, 0, 0, 100), (100, 10, 0, 0, 0, 101), (101, 0, 0, 0, 2, 102), (102, 8, 0, 0, 0, 103), (103, 1, 4, 0, 0, 105), (105, 25, 0, 0, 0, 106), (106, 2, 0, 0, 0, 107), (107, 18, 8, 18, 53, 110), (110, 0, 0, 1, 7, 112), (112, 1, 1, 0, 0, 113), (113, 10, 0, 0, 0, 114), (114, 0, 0, 0, 3, 115), (115, 8, 0, 0, 0, 116), (116, 1, 5, 0, 0, 118), (118, 25, 0, 0, 0, 119), (119, 2, 0, 0, 0, 120), (120, 18, 8, 18, 53, 123), (123, 0, 0, 1, 7, 125), (125, 1, 1, 0, 0, 126), (126, 10, 0, 0, 0, 127), (127, 0, 0, 0, 4, 128), (128, 8, 0, 0, 0, 129), (129, 1, 6, 0, 0, 131), (131, 0, 0, 1, 9, 133), (133, 11, 0, 0, 0, 134), (134, 25, 0, 0, 0, 135), (135, 2, 0, 0, 0, 136), (136, 18, 8, 18, 53, 139), (139, 0, 0, 1, 7, 141), (141, 1, 1, 0, 0, 142), (142, 10, 0, 0, 0, 143), (143, 0, 0, 0, 5, 144), (144, 8, 0, 0, 0, 145), (145, 1, 6, 0, 0, 147), (147, 0, 0, 0, 3, 148), (148, 11, 0, 0, 0, 149), (149, 0, 0, 0, 3, 150), (150, 12, 0, 0, 0, 151), (151, 25, 0, 0, 0, 152), (152, 2, 0, 0, 0, 153), (153, 18, 8, 18, 53, 156), (156, 0, 0, 1, 7, 158), (158, 1, 1, 0, 0, 159), (159, 10, 0, 0, 0, 160), (160, 0, 0, 1, 6, 162), (162, 8, 0, 0, 0, 163), (163, 1, 6, 0, 0, 165), (165, 0, 0, 0, 3, 166), (166, 12, 0, 0, 0, 167), (167, 25, 0, 0, 0, 168), (168, 0, 0, 0, 1, 169), (169, 32, 0, 0, 0, 170)]
def tb_Model_withdraw : List (Nat × am_In) := [(0, 2, 0, 0, 0, 1), (1, 1, 1, 0, 0, 2), (2, 29, 90, 2, 118, 5), (5, 14, 10, 1, 0, 8), (8, 0, 0, 0, 0, 9), (9, 32, 0, 0, 0, 10), (10, 2, 0, 0, 0, 11), (11, 18, 8, 19, 56, 14), (14, 1, 1, 0, 0, 15), (15, 1, 2, 0, 0, 16), (16, 26, 0, 0, 0, 17), (17, 0, 0, 0, 1, 18), (18, 32, 0, 0, 0, 19)]
def tb_Model_same : List (Nat × am_In) := [(0, 2, 0, 0, 0, 1), (1, 1, 1, 0, 0, 2), (2, 29, 90, 2, 118, 5), (5, 14, 16, 0, 0, 8), (8, 2, 0, 0, 0, 9), (9, 1, 2, 0, 0, 10), (10, 29, 90, 2, 118, 13), (13, 14, 18, 1, 0, 16), (16, 0, 0, 0, (-1), 17), (17, 31, 0, 0, 0, 18), (18, 2, 0, 0, 0, 19), (19, 18, 8, 20, 59, 22), (22, 1, 1, 0, 0, 23), (23, 22, 0, 0, 0, 24), (24, 2, 0, 0, 0, 25), (25, 18, 8, 20, 59, 28), (28, 1, 2, 0, 0, 29), (29, 22, 0, 0, 0, 30), (30, 15, 42, 3, 0, 33), (33, 2, 0, 0, 0, 34), (34, 18, 8, 20, 59, 37), (37, 1, 1, 0, 0, 38), (38, 22, 0, 0, 0, 39), (39, 16, 48, 0, 0, 42), (42, 2, 0, 0, 0, 43), (43, 18, 8, 20, 59, 46), (46, 1, 2, 0, 0, 47), (47, 22, 0, 0, 0, 48), (48, 4, 3, 0, 0, 49), (49, 2, 0, 0, 0, 50), (50, 18, 8, 20, 59, 53), (53, 1, 1, 0, 0, 54), (54, 22, 0, 0, 0, 55), (55, 2, 0, 0, 0, 56), (56, 18, 8, 20, 59, 59), (59, 1, 2, 0, 0, 60), (60, 22, 0, 0, 0, 61), (61, 15, 73, 3, 0, 64), (64, 2, 0, 0, 0, 65), (65, 18, 8, 20, 59, 68), (68, 1, 2, 0, 0, 69), (69, 22, 0, 0, 0, 70), (70, 16, 79, 0, 0, 73), (73, 2, 0, 0, 0, 74), (74, 18, 8, 20, 59, 77), (77, 1, 1, 0, 0, 78), (78, 22, 0, 0, 0, 79), (79, 4, 4, 0, 0, 81), (81, 1, 3, 0, 0, 82), (82, 1, 4, 0, 0, 84), (84, 15, 89, 1, 0, 87), (87, 1, 3, 0, 0, 88), (88, 31, 0, 0, 0, 89), (89, 0, 0, 0, 0, 90), (90, 4, 5, 0, 0, 92), (92, 1, 5, 0, 0, 94), (94, 2, 0, 0, 0, 95), (95, 17, 8, 13, 90, 98), (98, 15, 137, 3, 0, 101), (101, 2, 0, 0, 0, 102), (102, 18, 8, 20, 59, 105), (105, 1, 5, 0, 0, 107), (107, 2, 0, 0, 0, 108), (108, 18, 8, 20, 59, 111), (111, 1, 5, 0, 0, 113), (113, 22, 0, 0, 0, 114), (114, 1, 4, 0, 0, 116), (116, 15, 123, 1, 0, 119), (119, 1, 3, 0, 0, 120), (120, 16, 130, 0, 0, 123), (123, 2, 0, 0, 0, 124), (124, 18, 8, 20, 59, 127), (127, 1, 5, 0, 0, 129), (129, 22, 0, 0, 0, 130), (130, 25, 0, 0, 0, 131), (131, 7, 5, 0, 1, 134), (134, 16, 92, 0, 0, 137), (137, 0, 0, 0, 0, 138), (138, 4, 5, 0, 0, 140), (140, 1, 5, 0, 0, 142), (142, 0, 0, 1, 6, 144), (144, 15, 213, 3, 0, 147), (147, 2, 0, 0, 0, 148), (148, 18, 8, 21, 62, 151), (151, 0, 0, 1, 6, 153), (153, 1, 4, 0, 0, 155), (155, 10, 0, 0, 0, 156), (156, 1, 5, 0, 0, 158), (158, 8, 0, 0, 0, 159), (159, 22, 0, 0, 0, 160), (160, 4, 6, 0, 0, 162), (162, 1, 6, 0, 0, 164), (164, 2, 0, 0, 0, 165), (165, 18, 8, 21, 62, 168), (168, 0, 0, 1, 6, 170), (170, 1, 3, 0, 0, 171), (171, 10, 0, 0, 0, 172), (172, 1, 5, 0, 0, 174), (174, 8, 0, 0, 0, 175), (175, 22, 0, 0, 0, 176), (176, 15, 193, 5, 0, 179), (179, 2, 0, 0, 0, 180), (180, 18, 8, 21, 62, 183), (183, 0, 0, 1, 6, 185), (185, 1, 3, 0, 0, 186), (186, 10, 0, 0, 0, 187), (187, 1, 5, 0, 0, 189), (189, 8, 0, 0, 0, 190), (190, 1, 6, 0, 0, 192), (192, 25, 0, 0, 0, 193), (193, 2, 0, 0, 0, 194), (194, 18, 8, 21, 62, 197), (197, 0, 0, 1, 6, 199), (199, 1, 4, 0, 0, 201), (201, 10, 0, 0, 0, 202), (202, 1, 5, 0, 0, 204), (204, 8, 0, 0, 0, 205), (205, 0, 0, 0, (-1), 206), (206, 25, 0, 0, 0, 207), (207, 7, 5, 0, 1, 210), (210, 16, 140, 0, 0, 213), (213, 1, 3, 0, 0, 214), (214, 31, 0, 0, 0, 215)]
def tb_Model_group : List (Nat × am_In) := [(0, 2, 0, 0, 0, 1), (1, 1, 1, 0, 0, 2), (2, 29, 90, 2, 118, 5), (5, 14, 17, 0, 0, 8), (8, 2, 0, 0, 0, 9), (9, 18, 8, 20, 59, 12), (12, 1, 1, 0, 0, 13), (13, 22, 0, 0, 0, 14), (14, 16, 18, 0, 0, 17), (17, 0, 0, 0, (-1), 18), (18, 31, 0, 0, 0, 19)]
def tb_Model_hundredths : List (Nat × am_In) := [(0, 1, 0, 0, 0, 1), (1, 14, 36, 1, 0, 4), (4, 1, 1, 0, 0, 5), (5, 14, 13, 1, 0, 8), (8, 0, 0, 1, 85, 10), (10, 16, 35, 0, 0, 13), (13, 1, 1, 0, 0, 14), (14, 0, 0, 0, 1, 15), (15, 15, 23, 1, 0, 18), (18, 0, 0, 1, 62, 20), (20, 16, 35, 0, 0, 23), (23, 1, 1, 0, 0, 24), (24, 0, 0, 0, 2, 25), (25, 15, 33, 1, 0, 28), (28, 0, 0, 1, 55, 30), (30, 16, 35, 0, 0, 33), (33, 0, 0, 1, 20, 35), (35, 31, 0, 0, 0, 36), (36, 1, 0, 0, 0, 37), (37, 0, 0, 0, 1, 38), (38, 15, 53, 1, 0, 41), (41, 1, 1, 0, 0, 42), (42, 14, 50, 1, 0, 45), (45, 0, 0, 1, 77, 47), (47, 16, 52, 0, 0, 50), (50, 0, 0, 1, 44, 52), (52, 31, 0, 0, 0, 53), (53, 1, 0, 0, 0, 54), (54, 0, 0, 0, 4, 55), (55, 15, 80, 3, 0, 58), (58, 1, 1, 0, 0, 59), (59, 14, 67, 1, 0, 62), (62, 0, 0, 1, 85, 64), (64, 16, 79, 0, 0, 67), (67, 1, 1, 0, 0, 68), (68, 0, 0, 0, 1, 69), (69, 15, 77, 1, 0, 72), (72, 0, 0, 1, 62, 74), (74, 16, 79, 0, 0, 77), (77, 0, 0, 1, 27, 79), (79, 31, 0, 0, 0, 80), (80, 1, 1, 0, 0, 81), (81, 14, 89, 1, 0, 84), (84, 0, 0, 1, 100, 86), (86, 16, 101, 0, 0, 89), (89, 1, 1, 0, 0, 90), (90, 0, 0, 0, 1, 91), (91, 15, 99, 1, 0, 94), (94, 0, 0, 1, 78, 96), (96, 16, 101, 0, 0, 99), (99, 0, 0, 1, 44, 101), (101, 31, 0, 0, 0, 102)]
def tb_Model_scoreOf : List (Nat × am_In) := [(0, 42, 121, 2, 822, 3), (3, 6, 2, 0, 0, 4), (4, 0, 0, 0, 0, 5), (5, 4, 4, 0, 0, 7), (7, 1, 4, 0, 0, 9), (9, 0, 0, 0, 4, 10), (10, 15, 40, 3, 0, 13), (13, 3, 2, 0, 0, 14), (14, 1, 4, 0, 0, 16), (16, 2, 0, 0, 0, 17), (17, 18, 8, 18, 53, 20), (20, 0, 0, 1, 7, 22), (22, 1, 1, 0, 0, 23), (23, 10, 0, 0, 0, 24), (24, 1, 4, 0, 0, 26), (26, 8, 0, 0, 0, 27), (27, 22, 0, 0, 0, 28), (28, 28, 108, 2, 123, 31), (31, 43, 0, 0, 0, 32), (32, 47, 0, 0, 0, 33), (33, 6, 2, 0, 0, 34), (34, 7, 4, 0, 1, 37), (37, 16, 7, 0, 0, 40), (40, 42, 0, 1, 1, 41), (41, 6, 4, 0, 0, 43), (43, 0, 0, 0, 4, 44), (44, 4, 6, 0, 0, 46), (46, 1, 6, 0, 0, 48), (48, 0, 0, 1, 7, 50), (50, 15, 82, 3, 0, 53), (53, 3, 4, 0, 0, 55), (55, 1, 6, 0, 0, 57), (57, 2, 0, 0, 0, 58), (58, 18, 8, 18, 53, 61), (61, 0, 0, 1, 7, 63), (63, 1, 1, 0, 0, 64), (64, 10, 0, 0, 0, 65), (65, 1, 6, 0, 0, 67), (67, 8, 0, 0, 0, 68), (68, 22, 0, 0, 0, 69), (69, 28, 108, 2, 123, 72), (72, 43, 0, 0, 0, 73), (73, 47, 0, 0, 0, 74), (74, 6, 4, 0, 0, 76), (76, 7, 6, 0, 1, 79), (79, 16, 46, 0, 0, 82), (82, 42, 127, 2, 64200, 85), (85, 42, 129, 2, 1000000, 88), (88, 3, 4, 0, 0, 90), (90, 46, 0, 0, 0, 91), (91, 47, 0, 0, 0, 92), (92, 6, 6, 0, 0, 94), (94, 3, 6, 0, 0, 96), (96, 42, 0, 0, 0, 97), (97, 49, 0, 0, 0, 98), (98, 14, 103, 1, 0, 101), (101, 0, 0, 0, 0, 102), (102, 31, 0, 0, 0, 103), (103, 3, 6, 0, 0, 105), (105, 3, 2, 0, 0, 106), (106, 45, 0, 0, 0, 107), (107, 42, 131, 2, 999999999, 110), (110, 45, 0, 0, 0, 111), (111, 42, 133, 2, 1000000000, 114), (114, 48, 0, 0, 0, 115), (115, 6, 8, 0, 0, 117), (117, 3, 8, 0, 0, 119), (119, 42, 135, 2, 100, 122), (122, 49, 0, 0, 0, 123), (123, 14, 131, 5, 0, 126), (126, 0, 0, 1, 100, 128), (128, 16, 134, 0, 0, 131), (131, 3, 8, 0, 0, 133), (133, 44, 0, 0, 0, 134), (134, 31, 0, 0, 0, 135)]
def tb_Model_score : List (Nat × am_In) := [(0, 2, 0, 0, 0, 1), (1, 1, 1, 0, 0, 2), (2, 29, 90, 2, 118, 5), (5, 14, 16, 0, 0, 8), (8, 2, 0, 0, 0, 9), (9, 1, 1, 0, 0, 10), (10, 29, 109, 2, 137, 13), (13, 16, 17, 0, 0, 16), (16, 0, 0, 0, (-1), 17), (17, 31, 0, 0, 0, 18)]
def tb_Model_except : List (Nat × am_In) := [(0, 2, 0, 0, 0, 1), (1, 1, 1, 0, 0, 2), (2, 29, 90, 2, 118, 5), (5, 14, 20, 0, 0, 8), (8, 2, 0, 0, 0, 9), (9, 1, 2, 0, 0, 10), (10, 29, 89, 2, 93, 13), (13, 14, 20, 0, 0, 16), (16, 1, 3, 0, 0, 17), (17, 14, 22, 3, 0, 20), (20, 0, 0, 0, 0, 21), (21, 32, 0, 0, 0, 22), (22, 2, 0, 0, 0, 23), (23, 18, 8, 21, 62, 26), (26, 0, 0, 1, 6, 28), (28, 2, 0, 0, 0, 29), (29, 18, 8, 20, 59, 32), (32, 1, 1, 0, 0, 33), (33, 22, 0, 0, 0, 34), (34, 10, 0, 0, 0, 35), (35, 1, 2, 0, 0, 36), (36, 8, 0, 0, 0, 37), (37, 1, 3, 0, 0, 38), (38, 25, 0, 0, 0, 39), (39, 0, 0, 0, 1, 40), (40, 32, 0, 0, 0, 41)]
def tb_Model_tick : List (Nat × am_In) := [(0, 1, 1, 0, 0, 1), (1, 0, 0, 0, 0, 2), (2, 0, 97, 3, 1000000, 4), (4, 28, 91, 3, 98, 7), (7, 14, 21, 0, 0, 10), (10, 2, 0, 0, 0, 11), (11, 17, 8, 0, 141, 14), (14, 1, 1, 0, 0, 15), (15, 8, 0, 0, 0, 16), (16, 0, 144, 3, 1000000000, 18), (18, 15, 23, 5, 0, 21), (21, 0, 0, 0, (-1), 22), (22, 31, 0, 0, 0, 23), (23, 2, 0, 0, 0, 24), (24, 38, 0, 0, 0, 25), (25, 17, 8, 0, 141, 28), (28, 1, 1, 0, 0, 29), (29, 8, 0, 0, 0, 30), (30, 19, 8, 0, 141, 33), (33, 2, 0, 0, 0, 34), (34, 17, 8, 0, 141, 37), (37, 31, 0, 0, 0, 38)]
def tb_Model_hasSpan : List (Nat × am_In) := [(0, 0, 0, 0, 0, 1), (1, 4, 3, 0, 0, 2), (2, 0, 0, 0, 3, 3), (3, 1, 1, 0, 0, 4), (4, 10, 0, 0, 0, 5), (5, 4, 4, 0, 0, 7), (7, 1, 4, 0, 0, 9), (9, 0, 0, 0, 3, 10), (10, 1, 1, 0, 0, 11), (11, 10, 0, 0, 0, 12), (12, 2, 0, 0, 0, 13), (13, 18, 8, 15, 44, 16), (16, 1, 1, 0, 0, 17), (17, 22, 0, 0, 0, 18), (18, 8, 0, 0, 0, 19), (19, 15, 71, 3, 0, 22), (22, 1, 3, 0, 0, 23), (23, 14, 59, 1, 0, 26), (26, 1, 2, 0, 0, 27), (27, 2, 0, 0, 0, 28), (28, 18, 8, 16, 47, 31), (31, 1, 4, 0, 0, 33), (33, 22, 0, 0, 0, 34), (34, 15, 63, 2, 0, 37), (37, 2, 0, 0, 0, 38), (38, 18, 8, 17, 50, 41), (41, 1, 4, 0, 0, 43), (43, 22, 0, 0, 0, 44), (44, 0, 0, 0, (-1), 45), (45, 15, 59, 0, 0, 48), (48, 1, 2, 0, 0, 49), (49, 2, 0, 0, 0, 50), (50, 18, 8, 17, 50, 53), (53, 1, 4, 0, 0, 55), (55, 22, 0, 0, 0, 56), (56, 15, 63, 3, 0, 59), (59, 0, 0, 0, 1, 60), (60, 16, 64, 0, 0, 63), (63, 0, 0, 0, 0, 64), (64, 4, 3, 0, 0, 65), (65, 7, 4, 0, 1, 68), (68, 16, 7, 0, 0, 71), (71, 1, 3, 0, 0, 72), (72, 32, 0, 0, 0, 73)]
def tb_Model_scoreThere : List (Nat × am_In) := [(0, 0, 0, 0, (-1), 1), (1, 4, 4, 0, 0, 3), (3, 0, 0, 0, 0, 4), (4, 4, 5, 0, 0, 6), (6, 1, 5, 0, 0, 8), (8, 2, 0, 0, 0, 9), (9, 17, 8, 13, 90, 12), (12, 15, 94, 3, 0, 15), (15, 2, 0, 0, 0, 16), (16, 18, 8, 20, 59, 19), (19, 1, 5, 0, 0, 21), (21, 22, 0, 0, 0, 22), (22, 1, 1, 0, 0, 23), (23, 15, 61, 1, 0, 26), (26, 2, 0, 0, 0, 27), (27, 18, 8, 14, 41, 30), (30, 1, 5, 0, 0, 32), (32, 22, 0, 0, 0, 33), (33, 1, 2, 0, 0, 34), (34, 15, 61, 1, 0, 37), (37, 2, 0, 0, 0, 38), (38, 18, 8, 19, 56, 41), (41, 1, 5, 0, 0, 43), (43, 23, 0, 0, 0, 44), (44, 14, 61, 1, 0, 47), (47, 2, 0, 0, 0, 48), (48, 1, 5, 0, 0, 50), (50, 1, 3, 0, 0, 51), (51, 29, 113, 3, 145, 54), (54, 14, 61, 0, 0, 57), (57, 0, 0, 0, 1, 58), (58, 16, 62, 0, 0, 61), (61, 0, 0, 0, 0, 62), (62, 4, 6, 0, 0, 64), (64, 1, 6, 0, 0, 66), (66, 14, 88, 0, 0, 69), (69, 2, 0, 0, 0, 70), (70, 1, 5, 0, 0, 72), (72, 29, 109, 2, 137, 75), (75, 1, 4, 0, 0, 77), (77, 15, 88, 5, 0, 80), (80, 2, 0, 0, 0, 81), (81, 1, 5, 0, 0, 83), (83, 29, 109, 2, 137, 86), (86, 4, 4, 0, 0, 88), (88, 7, 5, 0, 1, 91), (91, 16, 6, 0, 0, 94), (94, 1, 4, 0, 0, 96), (96, 31, 0, 0, 0, 97)]
def tb_Model_isExcepted : List (Nat × am_In) := [(0, 2, 0, 0, 0, 1), (1, 18, 8, 21, 62, 4), (4, 0, 0, 1, 6, 6), (6, 1, 1, 0, 0, 7), (7, 10, 0, 0, 0, 8), (8, 1, 2, 0, 0, 9), (9, 8, 0, 0, 0, 10), (10, 22, 0, 0, 0, 11), (11, 2, 0, 0, 0, 12), (12, 17, 8, 0, 141, 15), (15, 15, 22, 5, 0, 18), (18, 0, 0, 0, 1, 19), (19, 16, 23, 0, 0, 22), (22, 0, 0, 0, 0, 23), (23, 32, 0, 0, 0, 24)]
def tb_Model_findWays : List (Nat × am_In) := [(0, 2, 0, 0, 0, 1), (1, 29, 97, 1, 111, 4), (4, 0, 0, 0, 0, 5), (5, 4, 1, 0, 0, 6), (6, 1, 1, 0, 0, 7), (7, 0, 0, 1, 6, 9), (9, 15, 73, 3, 0, 12), (12, 1, 1, 0, 0, 13), (13, 2, 0, 0, 0, 14), (14, 17, 8, 1, 86, 17), (17, 15, 43, 3, 0, 20), (20, 2, 0, 0, 0, 21), (21, 18, 8, 26, 74, 24), (24, 1, 1, 0, 0, 25), (25, 22, 0, 0, 0, 26), (26, 0, 0, 0, (-1), 27), (27, 15, 43, 0, 0, 30), (30, 2, 0, 0, 0, 31), (31, 18, 8, 2, 7, 34), (34, 1, 1, 0, 0, 35), (35, 23, 0, 0, 0, 36), (36, 14, 43, 0, 0, 39), (39, 0, 0, 0, 1, 40), (40, 16, 44, 0, 0, 43), (43, 0, 0, 0, 0, 44), (44, 4, 2, 0, 0, 45), (45, 2, 0, 0, 0, 46), (46, 18, 8, 24, 68, 49), (49, 1, 1, 0, 0, 50), (50, 1, 2, 0, 0, 51), (51, 14, 58, 0, 0, 54), (54, 0, 0, 0, 0, 55), (55, 16, 59, 0, 0, 58), (58, 0, 0, 0, (-1), 59), (59, 25, 0, 0, 0, 60), (60, 2, 0, 0, 0, 61), (61, 18, 8, 25, 71, 64), (64, 1, 1, 0, 0, 65), (65, 1, 2, 0, 0, 66), (66, 26, 0, 0, 0, 67), (67, 7, 1, 0, 1, 70), (70, 16, 6, 0, 0, 73), (73, 0, 0, 0, 1, 74), (74, 4, 1, 0, 0, 75), (75, 1, 1, 0, 0, 76), (76, 0, 0, 1, 6, 78), (78, 15, 219, 4, 0, 81), (81, 0, 0, 0, 0, 82), (82, 4, 2, 0, 0, 83), (83, 1, 2, 0, 0, 84), (84, 2, 0, 0, 0, 85), (85, 17, 8, 6, 102, 88), (88, 15, 213, 3, 0, 91), (91, 2, 0, 0, 0, 92), (92, 1, 2, 0, 0, 93), (93, 29, 98, 2, 105, 96), (96, 14, 207, 0, 0, 99), (99, 2, 0, 0, 0, 100), (100, 1, 2, 0, 0, 101), (101, 29, 99, 2, 108, 104), (104, 14, 110, 1, 0, 107), (107, 16, 207, 0, 0, 110), (110, 2, 0, 0, 0, 111), (111, 18, 8, 24, 68, 114), (114, 2, 0, 0, 0, 115), (115, 18, 8, 7, 23, 118), (118, 1, 2, 0, 0, 119), (119, 22, 0, 0, 0, 120), (120, 22, 0, 0, 0, 121), (121, 1, 1, 0, 0, 122), (122, 0, 0, 0, 1, 123), (123, 9, 0, 0, 0, 124), (124, 15, 154, 1, 0, 127), (127, 2, 0, 0, 0, 128), (128, 18, 8, 24, 68, 131), (131, 2, 0, 0, 0, 132), (132, 18, 8, 9, 29, 135), (135, 1, 2, 0, 0, 136), (136, 22, 0, 0, 0, 137), (137, 22, 0, 0, 0, 138), (138, 0, 0, 0, (-1), 139), (139, 15, 154, 1, 0, 142), (142, 2, 0, 0, 0, 143), (143, 18, 8, 24, 68, 146), (146, 2, 0, 0, 0, 147), (147, 18, 8, 9, 29, 150), (150, 1, 2, 0, 0, 151), (151, 22, 0, 0, 0, 152), (152, 1, 1, 0, 0, 153), (153, 25, 0, 0, 0, 154), (154, 2, 0, 0, 0, 155), (155, 18, 8, 25, 71, 158), (158, 2, 0, 0, 0, 159), (159, 18, 8, 9, 29, 162), (162, 1, 2, 0, 0, 163), (163, 22, 0, 0, 0, 164), (164, 2, 0, 0, 0, 165), (165, 18, 8, 25, 71, 168), (168, 2, 0, 0, 0, 169), (169, 18, 8, 9, 29, 172), (172, 1, 2, 0, 0, 173), (173, 22, 0, 0, 0, 174), (174, 23, 0, 0, 0, 175), (175, 14, 201, 1, 0, 178), (178, 2, 0, 0, 0, 179), (179, 18, 8, 12, 38, 182), (182, 1, 2, 0, 0, 183), (183, 23, 0, 0, 0, 184), (184, 14, 205, 0, 0, 187), (187, 2, 0, 0, 0, 188), (188, 18, 8, 25, 71, 191), (191, 2, 0, 0, 0, 192), (192, 18, 8, 7, 23, 195), (195, 1, 2, 0, 0, 196), (196, 22, 0, 0, 0, 197), (197, 23, 0, 0, 0, 198), (198, 14, 205, 0, 0, 201), (201, 0, 0, 0, 1, 202), (202, 16, 206, 0, 0, 205), (205, 0, 0, 0, 0, 206), (206, 26, 0, 0, 0, 207), (207, 7, 2, 0, 1, 210), (210, 16, 83, 0, 0, 213), (213, 7, 1, 0, 1, 216), (216, 16, 75, 0, 0, 219), (219, 30, 0, 0, 0, 220)]
def tb_Model_tell : List (Nat × am_In) := [(0, 0, 0, 1, 6, 2), (2, 2, 0, 0, 0, 3), (3, 17, 8, 22, 149, 6), (6, 10, 0, 0, 0, 7), (7, 4, 4, 0, 0, 9), (9, 2, 0, 0, 0, 10), (10, 18, 8, 23, 65, 13), (13, 1, 4, 0, 0, 15), (15, 1, 1, 0, 0, 16), (16, 25, 0, 0, 0, 17), (17, 2, 0, 0, 0, 18), (18, 18, 8, 23, 65, 21), (21, 1, 4, 0, 0, 23), (23, 0, 0, 0, 1, 24), (24, 8, 0, 0, 0, 25), (25, 1, 2, 0, 0, 26), (26, 25, 0, 0, 0, 27), (27, 2, 0, 0, 0, 28), (28, 18, 8, 23, 65, 31), (31, 1, 4, 0, 0, 33), (33, 0, 0, 0, 2, 34), (34, 8, 0, 0, 0, 35), (35, 1, 3, 0, 0, 36), (36, 25, 0, 0, 0, 37), (37, 2, 0, 0, 0, 38), (38, 18, 8, 23, 65, 41), (41, 1, 4, 0, 0, 43), (43, 0, 0, 0, 3, 44), (44, 8, 0, 0, 0, 45), (45, 2, 0, 0, 0, 46), (46, 18, 8, 24, 68, 49), (49, 1, 1, 0, 0, 50), (50, 22, 0, 0, 0, 51), (51, 25, 0, 0, 0, 52), (52, 2, 0, 0, 0, 53), (53, 18, 8, 23, 65, 56), (56, 1, 4, 0, 0, 58), (58, 0, 0, 0, 4, 59), (59, 8, 0, 0, 0, 60), (60, 2, 0, 0, 0, 61), (61, 18, 8, 25, 71, 64), (64, 1, 1, 0, 0, 65), (65, 23, 0, 0, 0, 66), (66, 14, 73, 0, 0, 69), (69, 0, 0, 0, 1, 70), (70, 16, 74, 0, 0, 73), (73, 0, 0, 0, 0, 74), (74, 25, 0, 0, 0, 75), (75, 2, 0, 0, 0, 76), (76, 18, 8, 23, 65, 79), (79, 1, 4, 0, 0, 81), (81, 0, 0, 0, 5, 82), (82, 8, 0, 0, 0, 83), (83, 2, 0, 0, 0, 84), (84, 1, 2, 0, 0, 85), (85, 1, 1, 0, 0, 86), (86, 29, 115, 3, 152, 89), (89, 14, 96, 0, 0, 92), (92, 0, 0, 0, 1, 93), (93, 16, 97, 0, 0, 96), (96, 0, 0, 0, 0, 97), (97, 25, 0, 0, 0, 98), (98, 2, 0, 0, 0, 99), (99, 38, 0, 0, 0, 100), (100, 17, 8, 22, 149, 103), (103, 0, 0, 0, 1, 104), (104, 8, 0, 0, 0, 105), (105, 19, 8, 22, 149, 108), (108, 30, 0, 0, 0, 109)]
def tb_Model_hits : List (Nat × am_In) := [(0, 2, 0, 0, 0, 1), (1, 29, 116, 1, 155, 4), (4, 2, 0, 0, 0, 5), (5, 0, 0, 0, 0, 6), (6, 19, 8, 22, 149, 9), (9, 0, 0, 0, 0, 10), (10, 4, 1, 0, 0, 11), (11, 1, 1, 0, 0, 12), (12, 2, 0, 0, 0, 13), (13, 17, 8, 1, 86, 16), (16, 15, 93, 3, 0, 19), (19, 2, 0, 0, 0, 20), (20, 18, 8, 5, 20, 23), (23, 1, 1, 0, 0, 24), (24, 22, 0, 0, 0, 25), (25, 0, 0, 0, (-1), 26), (26, 15, 32, 1, 0, 29), (29, 16, 87, 0, 0, 32), (32, 2, 0, 0, 0, 33), (33, 18, 8, 4, 17, 36), (36, 0, 0, 0, 5, 37), (37, 1, 1, 0, 0, 38), (38, 10, 0, 0, 0, 39), (39, 2, 0, 0, 0, 40), (40, 18, 8, 5, 20, 43), (43, 1, 1, 0, 0, 44), (44, 22, 0, 0, 0, 45), (45, 8, 0, 0, 0, 46), (46, 22, 0, 0, 0, 47), (47, 4, 2, 0, 0, 48), (48, 0, 0, 0, 0, 49), (49, 4, 3, 0, 0, 50), (50, 1, 3, 0, 0, 51), (51, 2, 0, 0, 0, 52), (52, 17, 8, 13, 90, 55), (55, 15, 87, 3, 0, 58), (58, 2, 0, 0, 0, 59), (59, 1, 3, 0, 0, 60), (60, 1, 1, 0, 0, 61), (61, 1, 2, 0, 0, 62), (62, 29, 114, 4, 158, 65), (65, 4, 4, 0, 0, 67), (67, 1, 4, 0, 0, 69), (69, 0, 0, 0, (-1), 70), (70, 15, 81, 0, 0, 73), (73, 2, 0, 0, 0, 74), (74, 1, 1, 0, 0, 75), (75, 1, 3, 0, 0, 76), (76, 1, 4, 0, 0, 78), (78, 29, 117, 4, 162, 81), (81, 7, 3, 0, 1, 84), (84, 16, 50, 0, 0, 87), (87, 7, 1, 0, 1, 90), (90, 16, 11, 0, 0, 93), (93, 2, 0, 0, 0, 94), (94, 17, 8, 22, 149, 97), (97, 31, 0, 0, 0, 98)]
def tb_Model_hit : List (Nat × am_In) := [(0, 1, 1, 0, 0, 1), (1, 14, 35, 2, 0, 4), (4, 1, 1, 0, 0, 5), (5, 2, 0, 0, 0, 6), (6, 17, 8, 22, 149, 9), (9, 15, 35, 3, 0, 12), (12, 1, 2, 0, 0, 13), (13, 0, 0, 0, 0, 14), (14, 0, 0, 0, 5, 15), (15, 28, 91, 3, 98, 18), (18, 14, 35, 0, 0, 21), (21, 2, 0, 0, 0, 22), (22, 18, 8, 23, 65, 25), (25, 0, 0, 1, 6, 27), (27, 1, 1, 0, 0, 28), (28, 10, 0, 0, 0, 29), (29, 1, 2, 0, 0, 30), (30, 8, 0, 0, 0, 31), (31, 22, 0, 0, 0, 32), (32, 16, 36, 0, 0, 35), (35, 0, 0, 0, (-1), 36), (36, 31, 0, 0, 0, 37)]
def tb_Model_findBad : List (Nat × am_In) := [(0, 0, 0, 0, 0, 1), (1, 4, 1, 0, 0, 2), (2, 1, 1, 0, 0, 3), (3, 2, 0, 0, 0, 4), (4, 17, 8, 1, 86, 7), (7, 15, 106, 3, 0, 10), (10, 0, 0, 0, 0, 11), (11, 4, 2, 0, 0, 12), (12, 1, 2, 0, 0, 13), (13, 2, 0, 0, 0, 14), (14, 18, 8, 3, 13, 17), (17, 1, 1, 0, 0, 18), (18, 22, 0, 0, 0, 19), (19, 15, 100, 3, 0, 22), (22, 0, 0, 0, 0, 23), (23, 4, 3, 0, 0, 24), (24, 0, 0, 0, 0, 25), (25, 4, 4, 0, 0, 27), (27, 1, 4, 0, 0, 29), (29, 2, 0, 0, 0, 30), (30, 17, 8, 13, 90, 33), (33, 15, 83, 3, 0, 36), (36, 1, 3, 0, 0, 37), (37, 14, 71, 1, 0, 40), (40, 2, 0, 0, 0, 41), (41, 1, 4, 0, 0, 43), (43, 1, 1, 0, 0, 44), (44, 29, 115, 3, 152, 47), (47, 14, 75, 1, 0, 50), (50, 2, 0, 0, 0, 51), (51, 1, 4, 0, 0, 53), (53, 1, 1, 0, 0, 54), (54, 2, 0, 0, 0, 55), (55, 18, 8, 4, 17, 58), (58, 0, 0, 0, 5, 59), (59, 1, 1, 0, 0, 60), (60, 10, 0, 0, 0, 61), (61, 1, 2, 0, 0, 62), (62, 8, 0, 0, 0, 63), (63, 22, 0, 0, 0, 64), (64, 29, 114, 4, 158, 67), (67, 0, 0, 0, (-1), 68), (68, 15, 75, 0, 0, 71), (71, 0, 0, 0, 1, 72), (72, 16, 76, 0, 0, 75), (75, 0, 0, 0, 0, 76), (76, 4, 3, 0, 0, 77), (77, 7, 4, 0, 1, 80), (80, 16, 27, 0, 0, 83), (83, 2, 0, 0, 0, 84), (84, 18, 8, 27, 77, 87), (87, 0, 0, 0, 5, 88), (88, 1, 1, 0, 0, 89), (89, 10, 0, 0, 0, 90), (90, 1, 2, 0, 0, 91), (91, 8, 0, 0, 0, 92), (92, 1, 3, 0, 0, 93), (93, 26, 0, 0, 0, 94), (94, 7, 2, 0, 1, 97), (97, 16, 12, 0, 0, 100), (100, 7, 1, 0, 1, 103), (103, 16, 2, 0, 0, 106), (106, 30, 0, 0, 0, 107)]
def tb_Model_goesOn : List (Nat × am_In) := [(0, 2, 0, 0, 0, 1), (1, 17, 8, 1, 86, 4), (4, 0, 0, 0, 1, 5), (5, 9, 0, 0, 0, 6), (6, 4, 1, 0, 0, 7), (7, 1, 1, 0, 0, 8), (8, 14, 65, 2, 0, 11), (11, 2, 0, 0, 0, 12), (12, 18, 8, 5, 20, 15), (15, 1, 1, 0, 0, 16), (16, 22, 0, 0, 0, 17), (17, 0, 0, 0, (-1), 18), (18, 15, 38, 0, 0, 21), (21, 2, 0, 0, 0, 22), (22, 18, 8, 26, 74, 25), (25, 1, 1, 0, 0, 26), (26, 22, 0, 0, 0, 27), (27, 2, 0, 0, 0, 28), (28, 18, 8, 3, 13, 31), (31, 1, 1, 0, 0, 32), (32, 22, 0, 0, 0, 33), (33, 0, 0, 0, 1, 34), (34, 9, 0, 0, 0, 35), (35, 15, 65, 1, 0, 38), (38, 2, 0, 0, 0, 39), (39, 18, 8, 26, 74, 42), (42, 1, 1, 0, 0, 43), (43, 2, 0, 0, 0, 44), (44, 18, 8, 5, 20, 47), (47, 1, 1, 0, 0, 48), (48, 22, 0, 0, 0, 49), (49, 0, 0, 0, (-1), 50), (50, 15, 57, 1, 0, 53), (53, 0, 0, 0, (-1), 54), (54, 16, 58, 0, 0, 57), (57, 0, 0, 0, 0, 58), (58, 25, 0, 0, 0, 59), (59, 7, 1, 0, (-1), 62), (62, 16, 7, 0, 0, 65), (65, 1, 1, 0, 0, 66), (66, 14, 71, 3, 0, 69), (69, 0, 0, 0, 0, 70), (70, 32, 0, 0, 0, 71), (71, 2, 0, 0, 0, 72), (72, 18, 8, 26, 74, 75), (75, 1, 1, 0, 0, 76), (76, 41, 0, 0, 0, 77), (77, 22, 0, 0, 0, 78), (78, 0, 0, 0, 1, 79), (79, 8, 0, 0, 0, 80), (80, 25, 0, 0, 0, 81), (81, 0, 0, 0, 1, 82), (82, 32, 0, 0, 0, 83)]
def tb_Model_mayBe : List (Nat × am_In) := [(0, 0, 0, 0, 0, 1), (1, 4, 1, 0, 0, 2), (2, 1, 1, 0, 0, 3), (3, 2, 0, 0, 0, 4), (4, 17, 8, 1, 86, 7), (7, 15, 46, 3, 0, 10), (10, 2, 0, 0, 0, 11), (11, 18, 8, 26, 74, 14), (14, 1, 1, 0, 0, 15), (15, 22, 0, 0, 0, 16), (16, 0, 0, 0, (-1), 17), (17, 15, 40, 0, 0, 20), (20, 2, 0, 0, 0, 21), (21, 18, 8, 27, 77, 24), (24, 0, 0, 0, 5, 25), (25, 1, 1, 0, 0, 26), (26, 10, 0, 0, 0, 27), (27, 2, 0, 0, 0, 28), (28, 18, 8, 26, 74, 31), (31, 1, 1, 0, 0, 32), (32, 22, 0, 0, 0, 33), (33, 8, 0, 0, 0, 34), (34, 23, 0, 0, 0, 35), (35, 14, 40, 0, 0, 38), (38, 0, 0, 0, 0, 39), (39, 32, 0, 0, 0, 40), (40, 7, 1, 0, 1, 43), (43, 16, 2, 0, 0, 46), (46, 2, 0, 0, 0, 47), (47, 29, 100, 1, 114, 50), (50, 14, 57, 1, 0, 53), (53, 0, 0, 0, 1, 54), (54, 16, 58, 0, 0, 57), (57, 0, 0, 0, 0, 58), (58, 32, 0, 0, 0, 59)]
def tb_Model_cost : List (Nat × am_In) := [(0, 0, 0, 0, 0, 1), (1, 4, 1, 0, 0, 2), (2, 0, 0, 0, 0, 3), (3, 4, 2, 0, 0, 4), (4, 1, 2, 0, 0, 5), (5, 2, 0, 0, 0, 6), (6, 17, 8, 1, 86, 9), (9, 15, 78, 3, 0, 12), (12, 2, 0, 0, 0, 13), (13, 18, 8, 26, 74, 16), (16, 1, 2, 0, 0, 17), (17, 22, 0, 0, 0, 18), (18, 2, 0, 0, 0, 19), (19, 18, 8, 5, 20, 22), (22, 1, 2, 0, 0, 23), (23, 22, 0, 0, 0, 24), (24, 15, 43, 5, 0, 27), (27, 2, 0, 0, 0, 28), (28, 18, 8, 26, 74, 31), (31, 1, 2, 0, 0, 32), (32, 22, 0, 0, 0, 33), (33, 2, 0, 0, 0, 34), (34, 18, 8, 5, 20, 37), (37, 1, 2, 0, 0, 38), (38, 22, 0, 0, 0, 39), (39, 9, 0, 0, 0, 40), (40, 16, 56, 0, 0, 43), (43, 2, 0, 0, 0, 44), (44, 18, 8, 5, 20, 47), (47, 1, 2, 0, 0, 48), (48, 22, 0, 0, 0, 49), (49, 2, 0, 0, 0, 50), (50, 18, 8, 26, 74, 53), (53, 1, 2, 0, 0, 54), (54, 22, 0, 0, 0, 55), (55, 9, 0, 0, 0, 56), (56, 4, 3, 0, 0, 57), (57, 1, 1, 0, 0, 58), (58, 1, 3, 0, 0, 59), (59, 14, 69, 5, 0, 62), (62, 0, 0, 1, 100, 64), (64, 1, 3, 0, 0, 65), (65, 8, 0, 0, 0, 66), (66, 16, 70, 0, 0, 69), (69, 0, 0, 0, 0, 70), (70, 8, 0, 0, 0, 71), (71, 4, 1, 0, 0, 72), (72, 7, 2, 0, 1, 75), (75, 16, 4, 0, 0, 78), (78, 1, 1, 0, 0, 79), (79, 31, 0, 0, 0, 80)]
def tb_Model_plan : List (Nat × am_In) := [(0, 2, 0, 0, 0, 1), (1, 29, 120, 1, 166, 4), (4, 0, 0, 0, 0, 5), (5, 4, 1, 0, 0, 6), (6, 1, 1, 0, 0, 7), (7, 0, 0, 1, 6, 9), (9, 15, 39, 3, 0, 12), (12, 2, 0, 0, 0, 13), (13, 18, 8, 26, 74, 16), (16, 1, 1, 0, 0, 17), (17, 2, 0, 0, 0, 18), (18, 18, 8, 5, 20, 21), (21, 1, 1, 0, 0, 22), (22, 22, 0, 0, 0, 23), (23, 0, 0, 0, (-1), 24), (24, 15, 31, 1, 0, 27), (27, 0, 0, 0, (-1), 28), (28, 16, 32, 0, 0, 31), (31, 0, 0, 0, 0, 32), (32, 25, 0, 0, 0, 33), (33, 7, 1, 0, 1, 36), (36, 16, 6, 0, 0, 39), (39, 0, 0, 0, (-1), 40), (40, 4, 1, 0, 0, 41), (41, 0, 0, 0, 1, 42), (42, 4, 2, 0, 0, 43), (43, 1, 2, 0, 0, 44), (44, 14, 106, 0, 0, 47), (47, 2, 0, 0, 0, 48), (48, 29, 122, 1, 169, 51), (51, 14, 98, 0, 0, 54), (54, 1, 1, 0, 0, 55), (55, 0, 0, 0, (-1), 56), (56, 15, 67, 0, 0, 59), (59, 2, 0, 0, 0, 60), (60, 29, 123, 1, 173, 63), (63, 1, 1, 0, 0, 64), (64, 15, 98, 3, 0, 67), (67, 2, 0, 0, 0, 68), (68, 29, 123, 1, 173, 71), (71, 4, 1, 0, 0, 72), (72, 0, 0, 0, 0, 73), (73, 4, 3, 0, 0, 74), (74, 1, 3, 0, 0, 75), (75, 0, 0, 1, 6, 77), (77, 15, 98, 3, 0, 80), (80, 2, 0, 0, 0, 81), (81, 18, 8, 28, 80, 84), (84, 1, 3, 0, 0, 85), (85, 2, 0, 0, 0, 86), (86, 18, 8, 26, 74, 89), (89, 1, 3, 0, 0, 90), (90, 22, 0, 0, 0, 91), (91, 25, 0, 0, 0, 92), (92, 7, 3, 0, 1, 95), (95, 16, 74, 0, 0, 98), (98, 2, 0, 0, 0, 99), (99, 29, 121, 1, 176, 102), (102, 4, 2, 0, 0, 103), (103, 16, 43, 0, 0, 106), (106, 1, 1, 0, 0, 107), (107, 0, 0, 0, (-1), 108), (108, 15, 113, 1, 0, 111), (111, 0, 0, 0, (-1), 112), (112, 31, 0, 0, 0, 113), (113, 2, 0, 0, 0, 114), (114, 0, 0, 0, 1, 115), (115, 20, 8, 29, 179, 118), (118, 0, 0, 0, 0, 119), (119, 4, 3, 0, 0, 120), (120, 1, 3, 0, 0, 121), (121, 0, 0, 1, 6, 123), (123, 15, 144, 3, 0, 126), (126, 2, 0, 0, 0, 127), (127, 18, 8, 30, 83, 130), (130, 1, 3, 0, 0, 131), (131, 2, 0, 0, 0, 132), (132, 18, 8, 28, 80, 135), (135, 1, 3, 0, 0, 136), (136, 22, 0, 0, 0, 137), (137, 25, 0, 0, 0, 138), (138, 7, 3, 0, 1, 141), (141, 16, 120, 0, 0, 144), (144, 1, 1, 0, 0, 145), (145, 0, 0, 1, 100, 147), (147, 11, 0, 0, 0, 148), (148, 31, 0, 0, 0, 149)]
def tb_Model_planned : List (Nat × am_In) := [(0, 2, 0, 0, 0, 1), (1, 1, 1, 0, 0, 2), (2, 29, 89, 2, 93, 5), (5, 14, 17, 0, 0, 8), (8, 2, 0, 0, 0, 9), (9, 18, 8, 30, 83, 12), (12, 1, 1, 0, 0, 13), (13, 22, 0, 0, 0, 14), (14, 16, 18, 0, 0, 17), (17, 0, 0, 0, (-1), 18), (18, 31, 0, 0, 0, 19)]
def tb_Model_update : List (Nat × am_In) := [(0, 2, 0, 0, 0, 1), (1, 17, 8, 29, 179, 4), (4, 14, 9, 1, 0, 7), (7, 0, 0, 0, (-1), 8), (8, 31, 0, 0, 0, 9), (9, 0, 0, 0, 0, 10), (10, 4, 1, 0, 0, 11), (11, 0, 0, 0, 0, 12), (12, 4, 2, 0, 0, 13), (13, 1, 2, 0, 0, 14), (14, 2, 0, 0, 0, 15), (15, 17, 8, 1, 86, 18), (18, 15, 85, 3, 0, 21), (21, 2, 0, 0, 0, 22), (22, 18, 8, 5, 20, 25), (25, 1, 2, 0, 0, 26), (26, 22, 0, 0, 0, 27), (27, 0, 0, 0, (-1), 28), (28, 15, 79, 0, 0, 31), (31, 2, 0, 0, 0, 32), (32, 18, 8, 30, 83, 35), (35, 1, 2, 0, 0, 36), (36, 22, 0, 0, 0, 37), (37, 0, 0, 0, (-1), 38), (38, 15, 44, 1, 0, 41), (41, 16, 79, 0, 0, 44), (44, 1, 1, 0, 0, 45), (45, 2, 0, 0, 0, 46), (46, 18, 8, 5, 20, 49), (49, 1, 2, 0, 0, 50), (50, 22, 0, 0, 0, 51), (51, 2, 0, 0, 0, 52), (52, 18, 8, 30, 83, 55), (55, 1, 2, 0, 0, 56), (56, 22, 0, 0, 0, 57), (57, 15, 64, 1, 0, 60), (60, 0, 0, 0, 0, 61), (61, 16, 65, 0, 0, 64), (64, 0, 0, 0, 1, 65), (65, 8, 0, 0, 0, 66), (66, 4, 1, 0, 0, 67), (67, 2, 0, 0, 0, 68), (68, 18, 8, 5, 20, 71), (71, 1, 2, 0, 0, 72), (72, 2, 0, 0, 0, 73), (73, 18, 8, 30, 83, 76), (76, 1, 2, 0, 0, 77), (77, 22, 0, 0, 0, 78), (78, 25, 0, 0, 0, 79), (79, 7, 2, 0, 1, 82), (82, 16, 13, 0, 0, 85), (85, 1, 1, 0, 0, 86), (86, 31, 0, 0, 0, 87)]
def tb_Severity_areChoices : List (Nat × am_In) := [(0, 1, 0, 0, 0, 1), (1, 50, 0, 0, 9, 4), (4, 52, 0, 0, 0, 5), (5, 28, 25, 2, 13, 8), (8, 14, 58, 0, 0, 11), (11, 1, 1, 0, 0, 12), (12, 50, 1, 0, 19, 15), (15, 52, 0, 0, 0, 16), (16, 28, 25, 2, 13, 19), (19, 14, 58, 0, 0, 22), (22, 1, 2, 0, 0, 23), (23, 50, 2, 0, 22, 26), (26, 52, 0, 0, 0, 27), (27, 28, 25, 2, 13, 30), (30, 14, 58, 0, 0, 33), (33, 1, 3, 0, 0, 34), (34, 50, 3, 0, 25, 37), (37, 52, 0, 0, 0, 38), (38, 28, 25, 2, 13, 41), (41, 14, 58, 0, 0, 44), (44, 1, 4, 0, 0, 46), (46, 0, 0, 1, 27, 48), (48, 28, 25, 2, 13, 51), (51, 14, 58, 0, 0, 54), (54, 0, 0, 0, 1, 55), (55, 16, 59, 0, 0, 58), (58, 0, 0, 0, 0, 59), (59, 32, 0, 0, 0, 60)]
def tb_Severity_tenths : List (Nat × am_In) := [(0, 1, 0, 0, 0, 1), (1, 1, 1, 0, 0, 2), (2, 1, 2, 0, 0, 3), (3, 1, 3, 0, 0, 4), (4, 1, 4, 0, 0, 6), (6, 28, 127, 5, 28, 9), (9, 14, 14, 1, 0, 12), (12, 0, 0, 0, 0, 13), (13, 31, 0, 0, 0, 14), (14, 1, 4, 0, 0, 16), (16, 28, 129, 1, 32, 19), (19, 6, 5, 0, 0, 21), (21, 3, 5, 0, 0, 23), (23, 42, 0, 0, 0, 24), (24, 49, 0, 0, 0, 25), (25, 14, 30, 1, 0, 28), (28, 0, 0, 0, 0, 29), (29, 31, 0, 0, 0, 30), (30, 42, 36, 2, 822, 33), (33, 50, 0, 0, 9, 36), (36, 1, 0, 0, 0, 37), (37, 51, 0, 0, 0, 38), (38, 43, 0, 0, 0, 39), (39, 47, 0, 0, 0, 40), (40, 50, 1, 0, 19, 43), (43, 1, 1, 0, 0, 44), (44, 51, 0, 0, 0, 45), (45, 43, 0, 0, 0, 46), (46, 47, 0, 0, 0, 47), (47, 50, 2, 0, 22, 50), (50, 1, 2, 0, 0, 51), (51, 51, 0, 0, 0, 52), (52, 43, 0, 0, 0, 53), (53, 47, 0, 0, 0, 54), (54, 50, 3, 0, 25, 57), (57, 1, 3, 0, 0, 58), (58, 51, 0, 0, 0, 59), (59, 43, 0, 0, 0, 60), (60, 47, 0, 0, 0, 61), (61, 6, 7, 0, 0, 63), (63, 3, 5, 0, 0, 65), (65, 42, 38, 2, 100, 68), (68, 47, 0, 0, 0, 69), (69, 3, 7, 0, 0, 71), (71, 45, 0, 0, 0, 72), (72, 6, 9, 0, 0, 74), (74, 42, 38, 2, 100, 77), (77, 3, 9, 0, 0, 79), (79, 42, 40, 2, 1000000000, 82), (82, 45, 0, 0, 0, 83), (83, 42, 0, 1, 1, 84), (84, 46, 0, 0, 0, 85), (85, 42, 40, 2, 1000000000, 88), (88, 48, 0, 0, 0, 89), (89, 56, 0, 0, 42, 92), (92, 44, 0, 0, 0, 93), (93, 31, 0, 0, 0, 94)]
def tb_Severity_impactOf : List (Nat × am_In) := [(0, 1, 0, 0, 0, 1), (1, 0, 0, 1, 9, 3), (3, 11, 0, 0, 0, 4), (4, 4, 1, 0, 0, 5), (5, 1, 0, 0, 0, 6), (6, 0, 0, 0, 3, 7), (7, 11, 0, 0, 0, 8), (8, 0, 0, 0, 3, 9), (9, 12, 0, 0, 0, 10), (10, 4, 2, 0, 0, 11), (11, 1, 0, 0, 0, 12), (12, 0, 0, 0, 3, 13), (13, 12, 0, 0, 0, 14), (14, 4, 3, 0, 0, 15), (15, 50, 4, 0, 48, 18), (18, 1, 1, 0, 0, 19), (19, 51, 0, 0, 0, 20), (20, 43, 0, 0, 0, 21), (21, 50, 4, 0, 48, 24), (24, 1, 2, 0, 0, 25), (25, 51, 0, 0, 0, 26), (26, 43, 0, 0, 0, 27), (27, 47, 0, 0, 0, 28), (28, 50, 4, 0, 48, 31), (31, 1, 3, 0, 0, 32), (32, 51, 0, 0, 0, 33), (33, 43, 0, 0, 0, 34), (34, 47, 0, 0, 0, 35), (35, 6, 4, 0, 0, 37), (37, 42, 51, 2, 642, 40), (40, 42, 53, 2, 1000000, 43), (43, 3, 4, 0, 0, 45), (45, 46, 0, 0, 0, 46), (46, 47, 0, 0, 0, 47), (47, 34, 0, 0, 0, 48)]
def tb_law_0 : List (Nat × am_In) := [(0, 35, 0, 9, 7, 3), (3, 38, 0, 0, 0, 4), (4, 29, 1, 1, 9, 7), (7, 5, 1, 0, 0, 8), (8, 35, 8, 31, 10, 11), (11, 38, 0, 0, 0, 12), (12, 29, 88, 1, 12, 15), (15, 5, 2, 0, 0, 16), (16, 0, 0, 0, 0, 17), (17, 4, 3, 0, 0, 18), (18, 1, 3, 0, 0, 19), (19, 2, 0, 0, 0, 20), (20, 60, 0, 0, 0, 21), (21, 0, 0, 1, 7, 23), (23, 9, 0, 0, 0, 24), (24, 15, 794, 4, 0, 27), (27, 2, 0, 0, 0, 28), (28, 1, 3, 0, 0, 29), (29, 59, 0, 0, 0, 30), (30, 0, 0, 1, 31, 32), (32, 13, 0, 0, 0, 33), (33, 61, 0, 0, 0, 128), (128, 2, 1, 0, 0, 129), (129, 2, 0, 0, 0, 130), (130, 1, 3, 0, 0, 131), (131, 0, 0, 0, 1, 132), (132, 8, 0, 0, 0, 133), (133, 59, 0, 0, 0, 134), (134, 14, 141, 0, 0, 137), (137, 0, 0, 0, 1, 138), (138, 16, 142, 0, 0, 141), (141, 0, 0, 0, 0, 142), (142, 29, 2, 2, 13, 145), (145, 2, 2, 0, 0, 146), (146, 2, 0, 0, 0, 147), (147, 1, 3, 0, 0, 148), (148, 0, 0, 0, 1, 149), (149, 8, 0, 0, 0, 150), (150, 59, 0, 0, 0, 151), (151, 14, 158, 0, 0, 154), (154, 0, 0, 0, 1, 155), (155, 16, 159, 0, 0, 158), (158, 0, 0, 0, 0, 159), (159, 29, 92, 2, 17, 162), (162, 15, 788, 0, 0, 165), (165, 0, 0, 0, 0, 166), (166, 32, 0, 0, 0, 167), (167, 2, 1, 0, 0, 168), (168, 2, 0, 0, 0, 169), (169, 1, 3, 0, 0, 170), (170, 0, 0, 0, 1, 171), (171, 8, 0, 0, 0, 172), (172, 59, 0, 0, 0, 173), (173, 2, 0, 0, 0, 174), (174, 1, 3, 0, 0, 175), (175, 0, 0, 0, 2, 176), (176, 8, 0, 0, 0, 177), (177, 59, 0, 0, 0, 178), (178, 29, 3, 3, 18, 181), (181, 2, 2, 0, 0, 182), (182, 2, 0, 0, 0, 183), (183, 1, 3, 0, 0, 184), (184, 0, 0, 0, 1, 185), (185, 8, 0, 0, 0, 186), (186, 59, 0, 0, 0, 187), (187, 2, 0, 0, 0, 188), (188, 1, 3, 0, 0, 189), (189, 0, 0, 0, 2, 190), (190, 8, 0, 0, 0, 191), (191, 59, 0, 0, 0, 192), (192, 29, 93, 3, 22, 195), (195, 15, 788, 0, 0, 198), (198, 0, 0, 0, 0, 199), (199, 32, 0, 0, 0, 200), (200, 2, 1, 0, 0, 201), (201, 2, 0, 0, 0, 202), (202, 1, 3, 0, 0, 203), (203, 0, 0, 0, 1, 204), (204, 8, 0, 0, 0, 205), (205, 59, 0, 0, 0, 206), (206, 2, 0, 0, 0, 207), (207, 1, 3, 0, 0, 208), (208, 0, 0, 0, 2, 209), (209, 8, 0, 0, 0, 210), (210, 59, 0, 0, 0, 211), (211, 29, 4, 3, 23, 214), (214, 2, 2, 0, 0, 215), (215, 2, 0, 0, 0, 216), (216, 1, 3, 0, 0, 217), (217, 0, 0, 0, 1, 218), (218, 8, 0, 0, 0, 219), (219, 59, 0, 0, 0, 220), (220, 2, 0, 0, 0, 221), (221, 1, 3, 0, 0, 222), (222, 0, 0, 0, 2, 223), (223, 8, 0, 0, 0, 224), (224, 59, 0, 0, 0, 225), (225, 29, 94, 3, 27, 228), (228, 15, 788, 0, 0, 231), (231, 0, 0, 0, 0, 232), (232, 32, 0, 0, 0, 233), (233, 2, 1, 0, 0, 234), (234, 2, 0, 0, 0, 235), (235, 1, 3, 0, 0, 236), (236, 0, 0, 0, 1, 237), (237, 8, 0, 0, 0, 238), (238, 59, 0, 0, 0, 239), (239, 2, 0, 0, 0, 240), (240, 1, 3, 0, 0, 241), (241, 0, 0, 0, 2, 242), (242, 8, 0, 0, 0, 243), (243, 59, 0, 0, 0, 244), (244, 2, 0, 0, 0, 245), (245, 1, 3, 0, 0, 246), (246, 0, 0, 0, 3, 247), (247, 8, 0, 0, 0, 248), (248, 59, 0, 0, 0, 249), (249, 2, 0, 0, 0, 250), (250, 1, 3, 0, 0, 251), (251, 0, 0, 0, 4, 252)]
def tb_law_1 : List (Nat × am_In) := [(252, 8, 0, 0, 0, 253), (253, 59, 0, 0, 0, 254), (254, 2, 0, 0, 0, 255), (255, 1, 3, 0, 0, 256), (256, 0, 0, 0, 5, 257), (257, 8, 0, 0, 0, 258), (258, 59, 0, 0, 0, 259), (259, 29, 5, 6, 28, 262), (262, 2, 2, 0, 0, 263), (263, 2, 0, 0, 0, 264), (264, 1, 3, 0, 0, 265), (265, 0, 0, 0, 1, 266), (266, 8, 0, 0, 0, 267), (267, 59, 0, 0, 0, 268), (268, 2, 0, 0, 0, 269), (269, 1, 3, 0, 0, 270), (270, 0, 0, 0, 2, 271), (271, 8, 0, 0, 0, 272), (272, 59, 0, 0, 0, 273), (273, 2, 0, 0, 0, 274), (274, 1, 3, 0, 0, 275), (275, 0, 0, 0, 3, 276), (276, 8, 0, 0, 0, 277), (277, 59, 0, 0, 0, 278), (278, 2, 0, 0, 0, 279), (279, 1, 3, 0, 0, 280), (280, 0, 0, 0, 4, 281), (281, 8, 0, 0, 0, 282), (282, 59, 0, 0, 0, 283), (283, 2, 0, 0, 0, 284), (284, 1, 3, 0, 0, 285), (285, 0, 0, 0, 5, 286), (286, 8, 0, 0, 0, 287), (287, 59, 0, 0, 0, 288), (288, 29, 95, 6, 32, 291), (291, 15, 788, 0, 0, 294), (294, 0, 0, 0, 0, 295), (295, 32, 0, 0, 0, 296), (296, 2, 1, 0, 0, 297), (297, 2, 0, 0, 0, 298), (298, 1, 3, 0, 0, 299), (299, 0, 0, 0, 1, 300), (300, 8, 0, 0, 0, 301), (301, 59, 0, 0, 0, 302), (302, 2, 0, 0, 0, 303), (303, 1, 3, 0, 0, 304), (304, 0, 0, 0, 2, 305), (305, 8, 0, 0, 0, 306), (306, 59, 0, 0, 0, 307), (307, 14, 314, 0, 0, 310), (310, 0, 0, 0, 1, 311), (311, 16, 315, 0, 0, 314), (314, 0, 0, 0, 0, 315), (315, 29, 6, 3, 33, 318), (318, 2, 2, 0, 0, 319), (319, 2, 0, 0, 0, 320), (320, 1, 3, 0, 0, 321), (321, 0, 0, 0, 1, 322), (322, 8, 0, 0, 0, 323), (323, 59, 0, 0, 0, 324), (324, 2, 0, 0, 0, 325), (325, 1, 3, 0, 0, 326), (326, 0, 0, 0, 2, 327), (327, 8, 0, 0, 0, 328), (328, 59, 0, 0, 0, 329), (329, 14, 336, 0, 0, 332), (332, 0, 0, 0, 1, 333), (333, 16, 337, 0, 0, 336), (336, 0, 0, 0, 0, 337), (337, 29, 96, 3, 37, 340), (340, 15, 788, 0, 0, 343), (343, 0, 0, 0, 0, 344), (344, 32, 0, 0, 0, 345), (345, 2, 1, 0, 0, 346), (346, 2, 0, 0, 0, 347), (347, 1, 3, 0, 0, 348), (348, 0, 0, 0, 1, 349), (349, 8, 0, 0, 0, 350), (350, 59, 0, 0, 0, 351), (351, 29, 7, 2, 38, 354), (354, 2, 2, 0, 0, 355), (355, 2, 0, 0, 0, 356), (356, 1, 3, 0, 0, 357), (357, 0, 0, 0, 1, 358), (358, 8, 0, 0, 0, 359), (359, 59, 0, 0, 0, 360), (360, 29, 102, 2, 42, 363), (363, 15, 788, 0, 0, 366), (366, 0, 0, 0, 0, 367), (367, 32, 0, 0, 0, 368), (368, 2, 1, 0, 0, 369), (369, 2, 0, 0, 0, 370), (370, 1, 3, 0, 0, 371), (371, 0, 0, 0, 1, 372), (372, 8, 0, 0, 0, 373), (373, 59, 0, 0, 0, 374), (374, 2, 0, 0, 0, 375), (375, 1, 3, 0, 0, 376), (376, 0, 0, 0, 2, 377), (377, 8, 0, 0, 0, 378), (378, 59, 0, 0, 0, 379), (379, 2, 0, 0, 0, 380), (380, 1, 3, 0, 0, 381), (381, 0, 0, 0, 3, 382), (382, 8, 0, 0, 0, 383), (383, 59, 0, 0, 0, 384), (384, 29, 8, 4, 43, 387), (387, 2, 2, 0, 0, 388), (388, 2, 0, 0, 0, 389), (389, 1, 3, 0, 0, 390), (390, 0, 0, 0, 1, 391), (391, 8, 0, 0, 0, 392), (392, 59, 0, 0, 0, 393), (393, 2, 0, 0, 0, 394), (394, 1, 3, 0, 0, 395), (395, 0, 0, 0, 2, 396), (396, 8, 0, 0, 0, 397), (397, 59, 0, 0, 0, 398), (398, 2, 0, 0, 0, 399), (399, 1, 3, 0, 0, 400)]
def tb_law_2 : List (Nat × am_In) := [(400, 0, 0, 0, 3, 401), (401, 8, 0, 0, 0, 402), (402, 59, 0, 0, 0, 403), (403, 29, 103, 4, 47, 406), (406, 15, 788, 0, 0, 409), (409, 0, 0, 0, 0, 410), (410, 32, 0, 0, 0, 411), (411, 2, 1, 0, 0, 412), (412, 2, 0, 0, 0, 413), (413, 1, 3, 0, 0, 414), (414, 0, 0, 0, 1, 415), (415, 8, 0, 0, 0, 416), (416, 59, 0, 0, 0, 417), (417, 2, 0, 0, 0, 418), (418, 1, 3, 0, 0, 419), (419, 0, 0, 0, 2, 420), (420, 8, 0, 0, 0, 421), (421, 59, 0, 0, 0, 422), (422, 2, 0, 0, 0, 423), (423, 1, 3, 0, 0, 424), (424, 0, 0, 0, 3, 425), (425, 8, 0, 0, 0, 426), (426, 59, 0, 0, 0, 427), (427, 2, 0, 0, 0, 428), (428, 1, 3, 0, 0, 429), (429, 0, 0, 0, 4, 430), (430, 8, 0, 0, 0, 431), (431, 59, 0, 0, 0, 432), (432, 2, 0, 0, 0, 433), (433, 1, 3, 0, 0, 434), (434, 0, 0, 0, 5, 435), (435, 8, 0, 0, 0, 436), (436, 59, 0, 0, 0, 437), (437, 2, 0, 0, 0, 438), (438, 1, 3, 0, 0, 439), (439, 0, 0, 1, 6, 441), (441, 8, 0, 0, 0, 442), (442, 59, 0, 0, 0, 443), (443, 29, 9, 7, 48, 446), (446, 2, 2, 0, 0, 447), (447, 2, 0, 0, 0, 448), (448, 1, 3, 0, 0, 449), (449, 0, 0, 0, 1, 450), (450, 8, 0, 0, 0, 451), (451, 59, 0, 0, 0, 452), (452, 2, 0, 0, 0, 453), (453, 1, 3, 0, 0, 454), (454, 0, 0, 0, 2, 455), (455, 8, 0, 0, 0, 456), (456, 59, 0, 0, 0, 457), (457, 2, 0, 0, 0, 458), (458, 1, 3, 0, 0, 459), (459, 0, 0, 0, 3, 460), (460, 8, 0, 0, 0, 461), (461, 59, 0, 0, 0, 462), (462, 2, 0, 0, 0, 463), (463, 1, 3, 0, 0, 464), (464, 0, 0, 0, 4, 465), (465, 8, 0, 0, 0, 466), (466, 59, 0, 0, 0, 467), (467, 2, 0, 0, 0, 468), (468, 1, 3, 0, 0, 469), (469, 0, 0, 0, 5, 470), (470, 8, 0, 0, 0, 471), (471, 59, 0, 0, 0, 472), (472, 2, 0, 0, 0, 473), (473, 1, 3, 0, 0, 474), (474, 0, 0, 1, 6, 476), (476, 8, 0, 0, 0, 477), (477, 59, 0, 0, 0, 478), (478, 29, 104, 7, 52, 481), (481, 15, 788, 0, 0, 484), (484, 0, 0, 0, 0, 485), (485, 32, 0, 0, 0, 486), (486, 2, 1, 0, 0, 487), (487, 2, 0, 0, 0, 488), (488, 1, 3, 0, 0, 489), (489, 0, 0, 0, 1, 490), (490, 8, 0, 0, 0, 491), (491, 59, 0, 0, 0, 492), (492, 2, 0, 0, 0, 493), (493, 1, 3, 0, 0, 494), (494, 0, 0, 0, 2, 495), (495, 8, 0, 0, 0, 496), (496, 59, 0, 0, 0, 497), (497, 14, 504, 0, 0, 500), (500, 0, 0, 0, 1, 501), (501, 16, 505, 0, 0, 504), (504, 0, 0, 0, 0, 505), (505, 29, 10, 3, 53, 508), (508, 2, 2, 0, 0, 509), (509, 2, 0, 0, 0, 510), (510, 1, 3, 0, 0, 511), (511, 0, 0, 0, 1, 512), (512, 8, 0, 0, 0, 513), (513, 59, 0, 0, 0, 514), (514, 2, 0, 0, 0, 515), (515, 1, 3, 0, 0, 516), (516, 0, 0, 0, 2, 517), (517, 8, 0, 0, 0, 518), (518, 59, 0, 0, 0, 519), (519, 14, 526, 0, 0, 522), (522, 0, 0, 0, 1, 523), (523, 16, 527, 0, 0, 526), (526, 0, 0, 0, 0, 527), (527, 29, 105, 3, 56, 530), (530, 15, 788, 0, 0, 533), (533, 0, 0, 0, 0, 534), (534, 32, 0, 0, 0, 535), (535, 2, 1, 0, 0, 536), (536, 2, 0, 0, 0, 537), (537, 1, 3, 0, 0, 538), (538, 0, 0, 0, 1, 539), (539, 8, 0, 0, 0, 540), (540, 59, 0, 0, 0, 541), (541, 2, 0, 0, 0, 542), (542, 1, 3, 0, 0, 543), (543, 0, 0, 0, 2, 544), (544, 8, 0, 0, 0, 545), (545, 59, 0, 0, 0, 546)]
def tb_law_3 : List (Nat × am_In) := [(546, 29, 11, 3, 57, 549), (549, 2, 2, 0, 0, 550), (550, 2, 0, 0, 0, 551), (551, 1, 3, 0, 0, 552), (552, 0, 0, 0, 1, 553), (553, 8, 0, 0, 0, 554), (554, 59, 0, 0, 0, 555), (555, 2, 0, 0, 0, 556), (556, 1, 3, 0, 0, 557), (557, 0, 0, 0, 2, 558), (558, 8, 0, 0, 0, 559), (559, 59, 0, 0, 0, 560), (560, 29, 106, 3, 60, 563), (563, 15, 788, 0, 0, 566), (566, 0, 0, 0, 0, 567), (567, 32, 0, 0, 0, 568), (568, 2, 1, 0, 0, 569), (569, 2, 0, 0, 0, 570), (570, 1, 3, 0, 0, 571), (571, 0, 0, 0, 1, 572), (572, 8, 0, 0, 0, 573), (573, 59, 0, 0, 0, 574), (574, 29, 12, 2, 61, 577), (577, 2, 2, 0, 0, 578), (578, 2, 0, 0, 0, 579), (579, 1, 3, 0, 0, 580), (580, 0, 0, 0, 1, 581), (581, 8, 0, 0, 0, 582), (582, 59, 0, 0, 0, 583), (583, 29, 107, 2, 64, 586), (586, 15, 788, 0, 0, 589), (589, 0, 0, 0, 0, 590), (590, 32, 0, 0, 0, 591), (591, 2, 1, 0, 0, 592), (592, 2, 0, 0, 0, 593), (593, 1, 3, 0, 0, 594), (594, 0, 0, 0, 1, 595), (595, 8, 0, 0, 0, 596), (596, 59, 0, 0, 0, 597), (597, 29, 13, 2, 65, 600), (600, 2, 2, 0, 0, 601), (601, 2, 0, 0, 0, 602), (602, 1, 3, 0, 0, 603), (603, 0, 0, 0, 1, 604), (604, 8, 0, 0, 0, 605), (605, 59, 0, 0, 0, 606), (606, 29, 110, 2, 68, 609), (609, 15, 788, 0, 0, 612), (612, 0, 0, 0, 0, 613), (613, 32, 0, 0, 0, 614), (614, 2, 1, 0, 0, 615), (615, 2, 0, 0, 0, 616), (616, 1, 3, 0, 0, 617), (617, 0, 0, 0, 1, 618), (618, 8, 0, 0, 0, 619), (619, 59, 0, 0, 0, 620), (620, 2, 0, 0, 0, 621), (621, 1, 3, 0, 0, 622), (622, 0, 0, 0, 2, 623), (623, 8, 0, 0, 0, 624), (624, 59, 0, 0, 0, 625), (625, 2, 0, 0, 0, 626), (626, 1, 3, 0, 0, 627), (627, 0, 0, 0, 3, 628), (628, 8, 0, 0, 0, 629), (629, 59, 0, 0, 0, 630), (630, 29, 14, 4, 69, 633), (633, 2, 2, 0, 0, 634), (634, 2, 0, 0, 0, 635), (635, 1, 3, 0, 0, 636), (636, 0, 0, 0, 1, 637), (637, 8, 0, 0, 0, 638), (638, 59, 0, 0, 0, 639), (639, 2, 0, 0, 0, 640), (640, 1, 3, 0, 0, 641), (641, 0, 0, 0, 2, 642), (642, 8, 0, 0, 0, 643), (643, 59, 0, 0, 0, 644), (644, 2, 0, 0, 0, 645), (645, 1, 3, 0, 0, 646), (646, 0, 0, 0, 3, 647), (647, 8, 0, 0, 0, 648), (648, 59, 0, 0, 0, 649), (649, 29, 111, 4, 72, 652), (652, 15, 788, 0, 0, 655), (655, 0, 0, 0, 0, 656), (656, 32, 0, 0, 0, 657), (657, 2, 1, 0, 0, 658), (658, 2, 0, 0, 0, 659), (659, 1, 3, 0, 0, 660), (660, 0, 0, 0, 1, 661), (661, 8, 0, 0, 0, 662), (662, 59, 0, 0, 0, 663), (663, 29, 15, 2, 73, 666), (666, 2, 2, 0, 0, 667), (667, 2, 0, 0, 0, 668), (668, 1, 3, 0, 0, 669), (669, 0, 0, 0, 1, 670), (670, 8, 0, 0, 0, 671), (671, 59, 0, 0, 0, 672), (672, 29, 112, 2, 76, 675), (675, 15, 788, 0, 0, 678), (678, 0, 0, 0, 0, 679), (679, 32, 0, 0, 0, 680), (680, 2, 1, 0, 0, 681), (681, 29, 16, 1, 77, 684), (684, 2, 2, 0, 0, 685), (685, 29, 118, 1, 81, 688), (688, 15, 788, 0, 0, 691), (691, 0, 0, 0, 0, 692), (692, 32, 0, 0, 0, 693), (693, 2, 1, 0, 0, 694), (694, 2, 0, 0, 0, 695), (695, 1, 3, 0, 0, 696), (696, 0, 0, 0, 1, 697), (697, 8, 0, 0, 0, 698), (698, 59, 0, 0, 0, 699), (699, 2, 0, 0, 0, 700), (700, 1, 3, 0, 0, 701), (701, 0, 0, 0, 2, 702)]
def tb_law_4 : List (Nat × am_In) := [(702, 8, 0, 0, 0, 703), (703, 59, 0, 0, 0, 704), (704, 29, 17, 3, 82, 707), (707, 2, 2, 0, 0, 708), (708, 2, 0, 0, 0, 709), (709, 1, 3, 0, 0, 710), (710, 0, 0, 0, 1, 711), (711, 8, 0, 0, 0, 712), (712, 59, 0, 0, 0, 713), (713, 2, 0, 0, 0, 714), (714, 1, 3, 0, 0, 715), (715, 0, 0, 0, 2, 716), (716, 8, 0, 0, 0, 717), (717, 59, 0, 0, 0, 718), (718, 29, 119, 3, 85, 721), (721, 15, 788, 0, 0, 724), (724, 0, 0, 0, 0, 725), (725, 32, 0, 0, 0, 726), (726, 2, 1, 0, 0, 727), (727, 29, 18, 1, 86, 730), (730, 2, 2, 0, 0, 731), (731, 29, 101, 1, 89, 734), (734, 15, 788, 0, 0, 737), (737, 0, 0, 0, 0, 738), (738, 32, 0, 0, 0, 739), (739, 2, 1, 0, 0, 740), (740, 29, 19, 1, 90, 743), (743, 2, 2, 0, 0, 744), (744, 29, 124, 1, 93, 747), (747, 15, 788, 0, 0, 750), (750, 0, 0, 0, 0, 751), (751, 32, 0, 0, 0, 752), (752, 2, 1, 0, 0, 753), (753, 2, 0, 0, 0, 754), (754, 1, 3, 0, 0, 755), (755, 0, 0, 0, 1, 756), (756, 8, 0, 0, 0, 757), (757, 59, 0, 0, 0, 758), (758, 29, 20, 2, 94, 761), (761, 2, 2, 0, 0, 762), (762, 2, 0, 0, 0, 763), (763, 1, 3, 0, 0, 764), (764, 0, 0, 0, 1, 765), (765, 8, 0, 0, 0, 766), (766, 59, 0, 0, 0, 767), (767, 29, 125, 2, 97, 770), (770, 15, 788, 0, 0, 773), (773, 0, 0, 0, 0, 774), (774, 32, 0, 0, 0, 775), (775, 2, 1, 0, 0, 776), (776, 29, 21, 1, 98, 779), (779, 2, 2, 0, 0, 780), (780, 29, 126, 1, 101, 783), (783, 15, 788, 0, 0, 786), (786, 0, 0, 0, 0, 787), (787, 32, 0, 0, 0, 788), (788, 7, 3, 0, 7, 791), (791, 16, 18, 0, 0, 794), (794, 0, 0, 0, 1, 795), (795, 32, 0, 0, 0, 796)]
def tb_law : List (Nat × am_In) := tb_law_0 ++ tb_law_1 ++ tb_law_2 ++ tb_law_3 ++ tb_law_4
def ax_tbl : List (List (Nat × am_In)) := [tb_Arrays_fill, tb_AM_init, tb_AM_pack, tb_AM_version, tb_AM_install, tb_AM_need, tb_AM_call, tb_AM_advisory, tb_AM_span, tb_AM_severity, tb_AM_withdraw, tb_AM_same, tb_AM_group, tb_AM_score, tb_AM_except, tb_AM_tick, tb_AM_hits, tb_AM_hit, tb_AM_broken, tb_AM_plan, tb_AM_planned, tb_AM_update, tb_AM_noteHitsOf, tb_AM_markPlacesOf, tb_AM_isClear, tb_AM_isBelow, tb_Packs_init, tb_Packs_count, tb_Packs_has, tb_Packs_add, tb_Packs_countVersions, tb_Packs_addVersion, tb_Packs_versionAt, tb_Packs_putPlace, tb_Packs_placeOf, tb_Packs_installedVersions, tb_Packs_isInstalledRoot, tb_Needs_init, tb_Needs_count, tb_Needs_add, tb_Needs_setCalled, tb_Needs_isCalled, tb_Needs_ownerOf, tb_Needs_otherOf, tb_Needs_leads, tb_Needs_countBroken, tb_Needs_areKept, tb_Needs_isBroken, tb_Needs_isActive, tb_Needs_holds, tb_Advisories_init, tb_Advisories_count, tb_Advisories_has, tb_Advisories_add, tb_Advisories_addSpan, tb_Advisories_setScore, tb_Advisories_scoreOf, tb_Advisories_setWithdrawn, tb_Advisories_groupOf, tb_Advisories_renameGroup, tb_Advisories_strikes, tb_Advisories_scoreThere, tb_Advisories_hasSpanWith, tb_Exceptions_init, tb_Exceptions_put, tb_Exceptions_holds, tb_Exceptions_join, tb_Exceptions_areNumbers, tb_Ways_init, tb_Ways_lengthTo, tb_Ways_measure, tb_Ways_goOnByEachNeed, tb_Ways_goOn, tb_HitList_init, tb_HitList_count, tb_HitList_clear, tb_HitList_add, tb_HitList_part, tb_Planner_init, tb_Planner_markPlace, tb_Planner_search, tb_Planner_placeFor, tb_Planner_carryOut, tb_Planner_choose, tb_Planner_settle, tb_Planner_keepTried, tb_Planner_isClearPlace, tb_Planner_costOf, tb_Model_init, tb_Model_isPack, tb_Model_isAdvisory, tb_Model_in, tb_Model_pack, tb_Model_version, tb_Model_install, tb_Model_need, tb_Model_call, tb_Model_lookAtInstalled, tb_Model_isActive, tb_Model_doesHold, tb_Model_lacking, tb_Model_broken, tb_Model_advisory, tb_Model_span, tb_Model_severity, tb_Model_withdraw, tb_Model_same, tb_Model_group, tb_Model_hundredths, tb_Model_scoreOf, tb_Model_score, tb_Model_except, tb_Model_tick, tb_Model_hasSpan, tb_Model_scoreThere, tb_Model_isExcepted, tb_Model_findWays, tb_Model_tell, tb_Model_hits, tb_Model_hit, tb_Model_findBad, tb_Model_goesOn, tb_Model_mayBe, tb_Model_cost, tb_Model_plan, tb_Model_planned, tb_Model_update, tb_Severity_areChoices, tb_Severity_tenths, tb_Severity_impactOf, tb_law]
def ax_cd (y pc : Nat) : Option am_In := ((ax_tbl[y]?).getD []).lookup pc
def ax_swl : List Nat := [128, 167, 200, 233, 296, 345, 368, 411, 486, 535, 568, 591, 614, 657, 680, 693, 726, 739, 752, 775]
def ax_sw (_ : Nat) (x : Int32) : Nat := if x.toInt < 0 then 788 else (ax_swl[x.toInt.toNat]?).getD 788
end
section
/-! FACTS ON THE TABLES (by program) -/
set_option maxRecDepth 100000 in
set_option maxHeartbeats 4000000 in
theorem ax_codes : ∀ i, i < ax_nM → Cond.code (ax_nm i) (ax_by i) (ax_ml i) (ax_rt i) ∈ ax_U := by
  intro i hi
  refine List.mem_filter.mpr ⟨?_, rfl⟩
  match i, hi with
  | 0, _ => exact List.mem_of_getElem? (i := 61) rfl
  | 1, _ => exact List.mem_of_getElem? (i := 47) rfl
  | 2, _ => exact List.mem_of_getElem? (i := 251) rfl
  | 3, _ => exact List.mem_of_getElem? (i := 259) rfl
  | 4, _ => exact List.mem_of_getElem? (i := 279) rfl
  | 5, _ => exact List.mem_of_getElem? (i := 287) rfl
  | 6, _ => exact List.mem_of_getElem? (i := 296) rfl
  | 7, _ => exact List.mem_of_getElem? (i := 305) rfl
  | 8, _ => exact List.mem_of_getElem? (i := 313) rfl
  | 9, _ => exact List.mem_of_getElem? (i := 326) rfl
  | 10, _ => exact List.mem_of_getElem? (i := 364) rfl
  | 11, _ => exact List.mem_of_getElem? (i := 372) rfl
  | 12, _ => exact List.mem_of_getElem? (i := 399) rfl
  | 13, _ => exact List.mem_of_getElem? (i := 403) rfl
  | 14, _ => exact List.mem_of_getElem? (i := 411) rfl
  | 15, _ => exact List.mem_of_getElem? (i := 419) rfl
  | 16, _ => exact List.mem_of_getElem? (i := 425) rfl
  | 17, _ => exact List.mem_of_getElem? (i := 530) rfl
  | 18, _ => exact List.mem_of_getElem? (i := 539) rfl
  | 19, _ => exact List.mem_of_getElem? (i := 552) rfl
  | 20, _ => exact List.mem_of_getElem? (i := 611) rfl
  | 21, _ => exact List.mem_of_getElem? (i := 619) rfl
  | 22, _ => exact List.mem_of_getElem? (i := 494) rfl
  | 23, _ => exact List.mem_of_getElem? (i := 556) rfl
  | 24, _ => exact List.mem_of_getElem? (i := 564) rfl
  | 25, _ => exact List.mem_of_getElem? (i := 270) rfl
  | 26, _ => exact List.mem_of_getElem? (i := 55) rfl
  | 27, _ => exact List.mem_of_getElem? (i := 490) rfl
  | 28, _ => exact List.mem_of_getElem? (i := 267) rfl
  | 29, _ => exact List.mem_of_getElem? (i := 255) rfl
  | 30, _ => exact List.mem_of_getElem? (i := 560) rfl
  | 31, _ => exact List.mem_of_getElem? (i := 263) rfl
  | 32, _ => exact List.mem_of_getElem? (i := 275) rfl
  | 33, _ => exact List.mem_of_getElem? (i := 283) rfl
  | 34, _ => exact List.mem_of_getElem? (i := 437) rfl
  | 35, _ => exact List.mem_of_getElem? (i := 449) rfl
  | 36, _ => exact List.mem_of_getElem? (i := 433) rfl
  | 37, _ => exact List.mem_of_getElem? (i := 87) rfl
  | 38, _ => exact List.mem_of_getElem? (i := 445) rfl
  | 39, _ => exact List.mem_of_getElem? (i := 292) rfl
  | 40, _ => exact List.mem_of_getElem? (i := 300) rfl
  | 41, _ => exact List.mem_of_getElem? (i := 465) rfl
  | 42, _ => exact List.mem_of_getElem? (i := 469) rfl
  | 43, _ => exact List.mem_of_getElem? (i := 473) rfl
  | 44, _ => exact List.mem_of_getElem? (i := 453) rfl
  | 45, _ => exact List.mem_of_getElem? (i := 544) rfl
  | 46, _ => exact List.mem_of_getElem? (i := 595) rfl
  | 47, _ => exact List.mem_of_getElem? (i := 548) rfl
  | 48, _ => exact List.mem_of_getElem? (i := 457) rfl
  | 49, _ => exact List.mem_of_getElem? (i := 461) rfl
  | 50, _ => exact List.mem_of_getElem? (i := 115) rfl
  | 51, _ => exact List.mem_of_getElem? (i := 500) rfl
  | 52, _ => exact List.mem_of_getElem? (i := 321) rfl
  | 53, _ => exact List.mem_of_getElem? (i := 309) rfl
  | 54, _ => exact List.mem_of_getElem? (i := 317) rfl
  | 55, _ => exact List.mem_of_getElem? (i := 360) rfl
  | 56, _ => exact List.mem_of_getElem? (i := 407) rfl
  | 57, _ => exact List.mem_of_getElem? (i := 368) rfl
  | 58, _ => exact List.mem_of_getElem? (i := 376) rfl
  | 59, _ => exact List.mem_of_getElem? (i := 386) rfl
  | 60, _ => exact List.mem_of_getElem? (i := 508) rfl
  | 61, _ => exact List.mem_of_getElem? (i := 504) rfl
  | 62, _ => exact List.mem_of_getElem? (i := 512) rfl
  | 63, _ => exact List.mem_of_getElem? (i := 147) rfl
  | 64, _ => exact List.mem_of_getElem? (i := 415) rfl
  | 65, _ => exact List.mem_of_getElem? (i := 518) rfl
  | 66, _ => exact List.mem_of_getElem? (i := 390) rfl
  | 67, _ => exact List.mem_of_getElem? (i := 393) rfl
  | 68, _ => exact List.mem_of_getElem? (i := 158) rfl
  | 69, _ => exact List.mem_of_getElem? (i := 481) rfl
  | 70, _ => exact List.mem_of_getElem? (i := 429) rfl
  | 71, _ => exact List.mem_of_getElem? (i := 441) rfl
  | 72, _ => exact List.mem_of_getElem? (i := 477) rfl
  | 73, _ => exact List.mem_of_getElem? (i := 178) rfl
  | 74, _ => exact List.mem_of_getElem? (i := 526) rfl
  | 75, _ => exact List.mem_of_getElem? (i := 486) rfl
  | 76, _ => exact List.mem_of_getElem? (i := 522) rfl
  | 77, _ => exact List.mem_of_getElem? (i := 534) rfl
  | 78, _ => exact List.mem_of_getElem? (i := 192) rfl
  | 79, _ => exact List.mem_of_getElem? (i := 569) rfl
  | 80, _ => exact List.mem_of_getElem? (i := 574) rfl
  | 81, _ => exact List.mem_of_getElem? (i := 615) rfl
  | 82, _ => exact List.mem_of_getElem? (i := 623) rfl
  | 83, _ => exact List.mem_of_getElem? (i := 578) rfl
  | 84, _ => exact List.mem_of_getElem? (i := 590) rfl
  | 85, _ => exact List.mem_of_getElem? (i := 582) rfl
  | 86, _ => exact List.mem_of_getElem? (i := 601) rfl
  | 87, _ => exact List.mem_of_getElem? (i := 604) rfl
  | 88, _ => exact List.mem_of_getElem? (i := 629) rfl
  | 89, _ => exact List.mem_of_getElem? (i := 736) rfl
  | 90, _ => exact List.mem_of_getElem? (i := 784) rfl
  | 91, _ => exact List.mem_of_getElem? (i := 740) rfl
  | 92, _ => exact List.mem_of_getElem? (i := 728) rfl
  | 93, _ => exact List.mem_of_getElem? (i := 732) rfl
  | 94, _ => exact List.mem_of_getElem? (i := 744) rfl
  | 95, _ => exact List.mem_of_getElem? (i := 748) rfl
  | 96, _ => exact List.mem_of_getElem? (i := 752) rfl
  | 97, _ => exact List.mem_of_getElem? (i := 760) rfl
  | 98, _ => exact List.mem_of_getElem? (i := 768) rfl
  | 99, _ => exact List.mem_of_getElem? (i := 772) rfl
  | 100, _ => exact List.mem_of_getElem? (i := 764) rfl
  | 101, _ => exact List.mem_of_getElem? (i := 756) rfl
  | 102, _ => exact List.mem_of_getElem? (i := 776) rfl
  | 103, _ => exact List.mem_of_getElem? (i := 780) rfl
  | 104, _ => exact List.mem_of_getElem? (i := 788) rfl
  | 105, _ => exact List.mem_of_getElem? (i := 792) rfl
  | 106, _ => exact List.mem_of_getElem? (i := 796) rfl
  | 107, _ => exact List.mem_of_getElem? (i := 800) rfl
  | 108, _ => exact List.mem_of_getElem? (i := 812) rfl
  | 109, _ => exact List.mem_of_getElem? (i := 808) rfl
  | 110, _ => exact List.mem_of_getElem? (i := 804) rfl
  | 111, _ => exact List.mem_of_getElem? (i := 821) rfl
  | 112, _ => exact List.mem_of_getElem? (i := 825) rfl
  | 113, _ => exact List.mem_of_getElem? (i := 842) rfl
  | 114, _ => exact List.mem_of_getElem? (i := 838) rfl
  | 115, _ => exact List.mem_of_getElem? (i := 850) rfl
  | 116, _ => exact List.mem_of_getElem? (i := 834) rfl
  | 117, _ => exact List.mem_of_getElem? (i := 846) rfl
  | 118, _ => exact List.mem_of_getElem? (i := 830) rfl
  | 119, _ => exact List.mem_of_getElem? (i := 854) rfl
  | 120, _ => exact List.mem_of_getElem? (i := 862) rfl
  | 121, _ => exact List.mem_of_getElem? (i := 874) rfl
  | 122, _ => exact List.mem_of_getElem? (i := 866) rfl
  | 123, _ => exact List.mem_of_getElem? (i := 870) rfl
  | 124, _ => exact List.mem_of_getElem? (i := 858) rfl
  | 125, _ => exact List.mem_of_getElem? (i := 878) rfl
  | 126, _ => exact List.mem_of_getElem? (i := 882) rfl
  | 127, _ => exact List.mem_of_getElem? (i := 330) rfl
  | 128, _ => exact List.mem_of_getElem? (i := 342) rfl
  | 129, _ => exact List.mem_of_getElem? (i := 346) rfl
  | n + 130, hi => exact absurd hi (by unfold ax_nM; omega)
set_option maxRecDepth 100000 in
theorem ax_wmax : Cond.code Lib.Math.max.name Lib.Math.max.code 2 (some .int) ∈ ax_U := List.mem_filter.mpr ⟨List.mem_of_getElem? (i := 382) rfl, rfl⟩
set_option maxRecDepth 100000 in
theorem ax_wmin : Cond.code Lib.Math.min.name Lib.Math.min.code 2 (some .int) ∈ ax_U := List.mem_filter.mpr ⟨List.mem_of_getElem? (i := 379) rfl, rfl⟩
set_option maxRecDepth 100000 in
theorem ax_wabs : Cond.code Lib.Math.abs.name Lib.Math.abs.code 1 (some .int) ∈ ax_U := List.mem_filter.mpr ⟨List.mem_of_getElem? (i := 607) rfl, rfl⟩
set_option maxRecDepth 100000 in
theorem ax_wminl : Cond.code Lib.MathLoose.min_long.x Lib.MathLoose.min_long.code 4 (some .long) ∈ ax_U := List.mem_filter.mpr ⟨List.mem_of_getElem? (i := 356) rfl, rfl⟩
set_option maxRecDepth 100000 in
theorem ax_woini : Cond.code Lib.objectInit ⟨#[0xb1]⟩ 1 none ∈ ax_U := List.mem_filter.mpr ⟨List.mem_of_getElem? (i := 50) rfl, rfl⟩
theorem ax_mlb : ∀ i, i < ax_nM → ax_ml i ≤ 21 := by decide +kernel
theorem ax_plain : ∀ i, i < ax_nM → plainName (ax_nm i).cls = true := by decide +kernel
set_option maxRecDepth 100000 in
theorem ax_ws_AM : ∀ w ∈ u_ws R_AM F_AM 9, ax_in w = true := by decide +kernel
theorem ax_ty_AM : ∀ k, k < 9 → (ax_ft 0 k = true → (∃ C, t_AM k = .object C) ∨ ∃ f, t_AM k = .array f) ∧ (ax_ft 0 k = false → t_AM k = .int ∨ t_AM k = .boolean) := by
  intro k hk
  match k, hk with
  | 0, _ => exact ⟨fun _ => Or.inl ⟨_, rfl⟩, fun h => (by cases h)⟩
  | 1, _ => exact ⟨fun _ => Or.inl ⟨_, rfl⟩, fun h => (by cases h)⟩
  | 2, _ => exact ⟨fun _ => Or.inl ⟨_, rfl⟩, fun h => (by cases h)⟩
  | 3, _ => exact ⟨fun _ => Or.inl ⟨_, rfl⟩, fun h => (by cases h)⟩
  | 4, _ => exact ⟨fun _ => Or.inl ⟨_, rfl⟩, fun h => (by cases h)⟩
  | 5, _ => exact ⟨fun _ => Or.inl ⟨_, rfl⟩, fun h => (by cases h)⟩
  | 6, _ => exact ⟨fun _ => Or.inl ⟨_, rfl⟩, fun h => (by cases h)⟩
  | 7, _ => exact ⟨fun _ => Or.inl ⟨_, rfl⟩, fun h => (by cases h)⟩
  | 8, _ => exact ⟨fun h => (by cases h), fun _ => Or.inl rfl⟩
  | n + 9, hk => exact absurd hk (by omega)
set_option maxRecDepth 100000 in
theorem ax_ws_Packs : ∀ w ∈ u_ws R_Packs F_Packs 6, ax_in w = true := by decide +kernel
theorem ax_ty_Packs : ∀ k, k < 6 → (ax_ft 1 k = true → (∃ C, t_Packs k = .object C) ∨ ∃ f, t_Packs k = .array f) ∧ (ax_ft 1 k = false → t_Packs k = .int ∨ t_Packs k = .boolean) := by
  intro k hk
  match k, hk with
  | 0, _ => exact ⟨fun _ => Or.inr ⟨_, rfl⟩, fun h => (by cases h)⟩
  | 1, _ => exact ⟨fun _ => Or.inr ⟨_, rfl⟩, fun h => (by cases h)⟩
  | 2, _ => exact ⟨fun _ => Or.inr ⟨_, rfl⟩, fun h => (by cases h)⟩
  | 3, _ => exact ⟨fun _ => Or.inr ⟨_, rfl⟩, fun h => (by cases h)⟩
  | 4, _ => exact ⟨fun _ => Or.inr ⟨_, rfl⟩, fun h => (by cases h)⟩
  | 5, _ => exact ⟨fun h => (by cases h), fun _ => Or.inl rfl⟩
  | n + 6, hk => exact absurd hk (by omega)
set_option maxRecDepth 100000 in
theorem ax_ws_Needs : ∀ w ∈ u_ws R_Needs F_Needs 7, ax_in w = true := by decide +kernel
theorem ax_ty_Needs : ∀ k, k < 7 → (ax_ft 2 k = true → (∃ C, t_Needs k = .object C) ∨ ∃ f, t_Needs k = .array f) ∧ (ax_ft 2 k = false → t_Needs k = .int ∨ t_Needs k = .boolean) := by
  intro k hk
  match k, hk with
  | 0, _ => exact ⟨fun _ => Or.inr ⟨_, rfl⟩, fun h => (by cases h)⟩
  | 1, _ => exact ⟨fun _ => Or.inr ⟨_, rfl⟩, fun h => (by cases h)⟩
  | 2, _ => exact ⟨fun _ => Or.inr ⟨_, rfl⟩, fun h => (by cases h)⟩
  | 3, _ => exact ⟨fun _ => Or.inr ⟨_, rfl⟩, fun h => (by cases h)⟩
  | 4, _ => exact ⟨fun _ => Or.inr ⟨_, rfl⟩, fun h => (by cases h)⟩
  | 5, _ => exact ⟨fun _ => Or.inr ⟨_, rfl⟩, fun h => (by cases h)⟩
  | 6, _ => exact ⟨fun h => (by cases h), fun _ => Or.inl rfl⟩
  | n + 7, hk => exact absurd hk (by omega)
set_option maxRecDepth 100000 in
theorem ax_ws_Advisories : ∀ w ∈ u_ws R_Advisories F_Advisories 8, ax_in w = true := by decide +kernel
theorem ax_ty_Advisories : ∀ k, k < 8 → (ax_ft 3 k = true → (∃ C, t_Advisories k = .object C) ∨ ∃ f, t_Advisories k = .array f) ∧ (ax_ft 3 k = false → t_Advisories k = .int ∨ t_Advisories k = .boolean) := by
  intro k hk
  match k, hk with
  | 0, _ => exact ⟨fun _ => Or.inr ⟨_, rfl⟩, fun h => (by cases h)⟩
  | 1, _ => exact ⟨fun _ => Or.inr ⟨_, rfl⟩, fun h => (by cases h)⟩
  | 2, _ => exact ⟨fun _ => Or.inr ⟨_, rfl⟩, fun h => (by cases h)⟩
  | 3, _ => exact ⟨fun _ => Or.inr ⟨_, rfl⟩, fun h => (by cases h)⟩
  | 4, _ => exact ⟨fun _ => Or.inr ⟨_, rfl⟩, fun h => (by cases h)⟩
  | 5, _ => exact ⟨fun _ => Or.inr ⟨_, rfl⟩, fun h => (by cases h)⟩
  | 6, _ => exact ⟨fun _ => Or.inr ⟨_, rfl⟩, fun h => (by cases h)⟩
  | 7, _ => exact ⟨fun h => (by cases h), fun _ => Or.inl rfl⟩
  | n + 8, hk => exact absurd hk (by omega)
set_option maxRecDepth 100000 in
theorem ax_ws_Exceptions : ∀ w ∈ u_ws R_Exceptions F_Exceptions 1, ax_in w = true := by decide +kernel
theorem ax_ty_Exceptions : ∀ k, k < 1 → (ax_ft 4 k = true → (∃ C, t_Exceptions k = .object C) ∨ ∃ f, t_Exceptions k = .array f) ∧ (ax_ft 4 k = false → t_Exceptions k = .int ∨ t_Exceptions k = .boolean) := by
  intro k hk
  match k, hk with
  | 0, _ => exact ⟨fun _ => Or.inr ⟨_, rfl⟩, fun h => (by cases h)⟩
  | n + 1, hk => exact absurd hk (by omega)
set_option maxRecDepth 100000 in
theorem ax_ws_Ways : ∀ w ∈ u_ws R_Ways F_Ways 4, ax_in w = true := by decide +kernel
theorem ax_ty_Ways : ∀ k, k < 4 → (ax_ft 5 k = true → (∃ C, t_Ways k = .object C) ∨ ∃ f, t_Ways k = .array f) ∧ (ax_ft 5 k = false → t_Ways k = .int ∨ t_Ways k = .boolean) := by
  intro k hk
  match k, hk with
  | 0, _ => exact ⟨fun _ => Or.inl ⟨_, rfl⟩, fun h => (by cases h)⟩
  | 1, _ => exact ⟨fun _ => Or.inl ⟨_, rfl⟩, fun h => (by cases h)⟩
  | 2, _ => exact ⟨fun h => (by cases h), fun _ => Or.inr rfl⟩
  | 3, _ => exact ⟨fun _ => Or.inr ⟨_, rfl⟩, fun h => (by cases h)⟩
  | n + 4, hk => exact absurd hk (by omega)
set_option maxRecDepth 100000 in
theorem ax_ws_HitList : ∀ w ∈ u_ws R_HitList F_HitList 2, ax_in w = true := by decide +kernel
theorem ax_ty_HitList : ∀ k, k < 2 → (ax_ft 6 k = true → (∃ C, t_HitList k = .object C) ∨ ∃ f, t_HitList k = .array f) ∧ (ax_ft 6 k = false → t_HitList k = .int ∨ t_HitList k = .boolean) := by
  intro k hk
  match k, hk with
  | 0, _ => exact ⟨fun _ => Or.inr ⟨_, rfl⟩, fun h => (by cases h)⟩
  | 1, _ => exact ⟨fun h => (by cases h), fun _ => Or.inl rfl⟩
  | n + 2, hk => exact absurd hk (by omega)
set_option maxRecDepth 100000 in
theorem ax_ws_Planner : ∀ w ∈ u_ws R_Planner F_Planner 8, ax_in w = true := by decide +kernel
theorem ax_ty_Planner : ∀ k, k < 8 → (ax_ft 7 k = true → (∃ C, t_Planner k = .object C) ∨ ∃ f, t_Planner k = .array f) ∧ (ax_ft 7 k = false → t_Planner k = .int ∨ t_Planner k = .boolean) := by
  intro k hk
  match k, hk with
  | 0, _ => exact ⟨fun _ => Or.inl ⟨_, rfl⟩, fun h => (by cases h)⟩
  | 1, _ => exact ⟨fun _ => Or.inl ⟨_, rfl⟩, fun h => (by cases h)⟩
  | 2, _ => exact ⟨fun _ => Or.inr ⟨_, rfl⟩, fun h => (by cases h)⟩
  | 3, _ => exact ⟨fun _ => Or.inr ⟨_, rfl⟩, fun h => (by cases h)⟩
  | 4, _ => exact ⟨fun _ => Or.inr ⟨_, rfl⟩, fun h => (by cases h)⟩
  | 5, _ => exact ⟨fun _ => Or.inr ⟨_, rfl⟩, fun h => (by cases h)⟩
  | 6, _ => exact ⟨fun h => (by cases h), fun _ => Or.inl rfl⟩
  | 7, _ => exact ⟨fun h => (by cases h), fun _ => Or.inr rfl⟩
  | n + 8, hk => exact absurd hk (by omega)
set_option maxRecDepth 100000 in
theorem ax_ws_Model : ∀ w ∈ u_ws R_Model F_Model 31, ax_in w = true := by decide +kernel
theorem ax_ty_Model : ∀ k, k < 31 → (ax_ft 8 k = true → (∃ C, t_Model k = .object C) ∨ ∃ f, t_Model k = .array f) ∧ (ax_ft 8 k = false → t_Model k = .int ∨ t_Model k = .boolean) := by
  intro k hk
  match k, hk with
  | 0, _ => exact ⟨fun h => (by cases h), fun _ => Or.inl rfl⟩
  | 1, _ => exact ⟨fun h => (by cases h), fun _ => Or.inl rfl⟩
  | 2, _ => exact ⟨fun _ => Or.inr ⟨_, rfl⟩, fun h => (by cases h)⟩
  | 3, _ => exact ⟨fun _ => Or.inr ⟨_, rfl⟩, fun h => (by cases h)⟩
  | 4, _ => exact ⟨fun _ => Or.inr ⟨_, rfl⟩, fun h => (by cases h)⟩
  | 5, _ => exact ⟨fun _ => Or.inr ⟨_, rfl⟩, fun h => (by cases h)⟩
  | 6, _ => exact ⟨fun h => (by cases h), fun _ => Or.inl rfl⟩
  | 7, _ => exact ⟨fun _ => Or.inr ⟨_, rfl⟩, fun h => (by cases h)⟩
  | 8, _ => exact ⟨fun _ => Or.inr ⟨_, rfl⟩, fun h => (by cases h)⟩
  | 9, _ => exact ⟨fun _ => Or.inr ⟨_, rfl⟩, fun h => (by cases h)⟩
  | 10, _ => exact ⟨fun _ => Or.inr ⟨_, rfl⟩, fun h => (by cases h)⟩
  | 11, _ => exact ⟨fun _ => Or.inr ⟨_, rfl⟩, fun h => (by cases h)⟩
  | 12, _ => exact ⟨fun _ => Or.inr ⟨_, rfl⟩, fun h => (by cases h)⟩
  | 13, _ => exact ⟨fun h => (by cases h), fun _ => Or.inl rfl⟩
  | 14, _ => exact ⟨fun _ => Or.inr ⟨_, rfl⟩, fun h => (by cases h)⟩
  | 15, _ => exact ⟨fun _ => Or.inr ⟨_, rfl⟩, fun h => (by cases h)⟩
  | 16, _ => exact ⟨fun _ => Or.inr ⟨_, rfl⟩, fun h => (by cases h)⟩
  | 17, _ => exact ⟨fun _ => Or.inr ⟨_, rfl⟩, fun h => (by cases h)⟩
  | 18, _ => exact ⟨fun _ => Or.inr ⟨_, rfl⟩, fun h => (by cases h)⟩
  | 19, _ => exact ⟨fun _ => Or.inr ⟨_, rfl⟩, fun h => (by cases h)⟩
  | 20, _ => exact ⟨fun _ => Or.inr ⟨_, rfl⟩, fun h => (by cases h)⟩
  | 21, _ => exact ⟨fun _ => Or.inr ⟨_, rfl⟩, fun h => (by cases h)⟩
  | 22, _ => exact ⟨fun h => (by cases h), fun _ => Or.inl rfl⟩
  | 23, _ => exact ⟨fun _ => Or.inr ⟨_, rfl⟩, fun h => (by cases h)⟩
  | 24, _ => exact ⟨fun _ => Or.inr ⟨_, rfl⟩, fun h => (by cases h)⟩
  | 25, _ => exact ⟨fun _ => Or.inr ⟨_, rfl⟩, fun h => (by cases h)⟩
  | 26, _ => exact ⟨fun _ => Or.inr ⟨_, rfl⟩, fun h => (by cases h)⟩
  | 27, _ => exact ⟨fun _ => Or.inr ⟨_, rfl⟩, fun h => (by cases h)⟩
  | 28, _ => exact ⟨fun _ => Or.inr ⟨_, rfl⟩, fun h => (by cases h)⟩
  | 29, _ => exact ⟨fun h => (by cases h), fun _ => Or.inr rfl⟩
  | 30, _ => exact ⟨fun _ => Or.inr ⟨_, rfl⟩, fun h => (by cases h)⟩
  | n + 31, hk => exact absurd hk (by omega)
theorem ax_clok0 (Ts : List Cond) (hT : ∀ w ∈ ax_U, w ∈ Ts) : am_clok ax_cl Ts ax_ft := by
  intro t q hq
  match t, hq with
  | 0, hq => cases hq; exact ⟨fun w hw => hT w (ax_inU (ax_ws_AM w hw)), t_AM, t_AM_ok, n_AM, ax_ty_AM⟩
  | 1, hq => cases hq; exact ⟨fun w hw => hT w (ax_inU (ax_ws_Packs w hw)), t_Packs, t_Packs_ok, n_Packs, ax_ty_Packs⟩
  | 2, hq => cases hq; exact ⟨fun w hw => hT w (ax_inU (ax_ws_Needs w hw)), t_Needs, t_Needs_ok, n_Needs, ax_ty_Needs⟩
  | 3, hq => cases hq; exact ⟨fun w hw => hT w (ax_inU (ax_ws_Advisories w hw)), t_Advisories, t_Advisories_ok, n_Advisories, ax_ty_Advisories⟩
  | 4, hq => cases hq; exact ⟨fun w hw => hT w (ax_inU (ax_ws_Exceptions w hw)), t_Exceptions, t_Exceptions_ok, n_Exceptions, ax_ty_Exceptions⟩
  | 5, hq => cases hq; exact ⟨fun w hw => hT w (ax_inU (ax_ws_Ways w hw)), t_Ways, t_Ways_ok, n_Ways, ax_ty_Ways⟩
  | 6, hq => cases hq; exact ⟨fun w hw => hT w (ax_inU (ax_ws_HitList w hw)), t_HitList, t_HitList_ok, n_HitList, ax_ty_HitList⟩
  | 7, hq => cases hq; exact ⟨fun w hw => hT w (ax_inU (ax_ws_Planner w hw)), t_Planner, t_Planner_ok, n_Planner, ax_ty_Planner⟩
  | 8, hq => cases hq; exact ⟨fun w hw => hT w (ax_inU (ax_ws_Model w hw)), t_Model, t_Model_ok, n_Model, ax_ty_Model⟩
  | n + 9, hq => simp [ax_cl] at hq
set_option maxRecDepth 100000 in
theorem ax_swd : decode (ax_by ax_law) 33 = .ok (.tableswitch 755 0 19 #[95, 134, 167, 200, 263, 312, 335, 378, 453, 502, 535, 558, 581, 624, 647, 660, 693, 706, 719, 742], 95) := by decide +kernel
theorem ax_sw1 : ∀ x : Int32, (x.toInt < 0 ∨ 19 < x.toInt) → ((33 : Nat) : Int) + 755 = (ax_sw 33 x : Int) := by
  intro x h
  unfold ax_sw
  split
  · rfl
  · rw [List.getElem?_eq_none (by show 20 ≤ _; omega)]
    rfl
theorem ax_sw2 : ∀ x : Int32, ¬ x.toInt < 0 → ¬ 19 < x.toInt → ∃ off, (#[95, 134, 167, 200, 263, 312, 335, 378, 453, 502, 535, 558, 581, 624, 647, 660, 693, 706, 719, 742] : Array Int)[(x.toInt - 0).toNat]? = some off ∧ ((33 : Nat) : Int) + off = (ax_sw 33 x : Int) := by
  intro x h1 h2
  unfold ax_sw
  rw [if_neg h1, Int.sub_zero]
  have h3 : x.toInt.toNat < 20 := by omega
  generalize x.toInt.toNat = k at h3 ⊢
  match k, h3 with
  | 0, _ => exact ⟨_, rfl, rfl⟩
  | 1, _ => exact ⟨_, rfl, rfl⟩
  | 2, _ => exact ⟨_, rfl, rfl⟩
  | 3, _ => exact ⟨_, rfl, rfl⟩
  | 4, _ => exact ⟨_, rfl, rfl⟩
  | 5, _ => exact ⟨_, rfl, rfl⟩
  | 6, _ => exact ⟨_, rfl, rfl⟩
  | 7, _ => exact ⟨_, rfl, rfl⟩
  | 8, _ => exact ⟨_, rfl, rfl⟩
  | 9, _ => exact ⟨_, rfl, rfl⟩
  | 10, _ => exact ⟨_, rfl, rfl⟩
  | 11, _ => exact ⟨_, rfl, rfl⟩
  | 12, _ => exact ⟨_, rfl, rfl⟩
  | 13, _ => exact ⟨_, rfl, rfl⟩
  | 14, _ => exact ⟨_, rfl, rfl⟩
  | 15, _ => exact ⟨_, rfl, rfl⟩
  | 16, _ => exact ⟨_, rfl, rfl⟩
  | 17, _ => exact ⟨_, rfl, rfl⟩
  | 18, _ => exact ⟨_, rfl, rfl⟩
  | 19, _ => exact ⟨_, rfl, rfl⟩
  | n + 20, h => exact absurd h (by omega)
end
section
/-! THE WHOLE SMALL MACHINE ON THE BIG ONE -/
def ax_ws (y : Nat) : List Cond := .code (ax_nm y) (ax_by y) (ax_ml y) (ax_rt y) :: ax_U
def ax_rm (d : Nat) (y : Nat) : Room := { frames := d, cells := (ax_kc y).1, slots := (ax_kc y).2, locals := 40 * d }
def ax_E (xl : Nat) (xs : Nat → Int32) : am_E := (ax_rc, ax_kc, (ax_ns, ax_sn, ax_sv), (xl, xs), ax_sw)
/-- is a micro-op what stands in the bytes? -/
def ax_ok (y pc : Nat) (I : am_In) : Bool :=
  match I with
  | (op, i, j, z, nx) => match op with
    | 0 => decide ((j = 0 ∧ decode (ax_by y) pc = .ok (.iconst z, 1) ∧ nx = pc + 1) ∨ (j = 1 ∧ decode (ax_by y) pc = .ok (.bipush z, 2) ∧ (Int8.ofInt z).toInt32 = Int32.ofInt z ∧ nx = pc + 2) ∨ (j = 2 ∧ decode (ax_by y) pc = .ok (.sipush z, 3) ∧ (Int16.ofInt z).toInt32 = Int32.ofInt z ∧ nx = pc + 3) ∨ (j = 3 ∧ decode (ax_by y) pc = .ok (.ldc i, 2) ∧ ax_in (Cond.constant (ax_nm y).cls i (Int32.ofInt z)) = true ∧ nx = pc + 2))
    | 1 => decide (if h : i < 4 then decode (ax_by y) pc = .ok (.iload_n ⟨i, h⟩, 1) ∧ nx = pc + 1 else decode (ax_by y) pc = .ok (.iload i, 2) ∧ nx = pc + 2)
    | 2 => decide (if h : i < 4 then decode (ax_by y) pc = .ok (.aload_n ⟨i, h⟩, 1) ∧ nx = pc + 1 else decode (ax_by y) pc = .ok (.aload i, 2) ∧ nx = pc + 2)
    | 3 => decide (if h : i < 4 then decode (ax_by y) pc = .ok (.lload_n ⟨i, h⟩, 1) ∧ nx = pc + 1 else decode (ax_by y) pc = .ok (.lload i, 2) ∧ nx = pc + 2)
    | 4 => decide ((if h : i < 4 then decode (ax_by y) pc = .ok (.istore_n ⟨i, h⟩, 1) ∧ nx = pc + 1 else decode (ax_by y) pc = .ok (.istore i, 2) ∧ nx = pc + 2) ∧ i < ax_ml y)
    | 5 => decide ((if h : i < 4 then decode (ax_by y) pc = .ok (.astore_n ⟨i, h⟩, 1) ∧ nx = pc + 1 else decode (ax_by y) pc = .ok (.astore i, 2) ∧ nx = pc + 2) ∧ i < ax_ml y)
    | 6 => decide ((if h : i < 4 then decode (ax_by y) pc = .ok (.lstore_n ⟨i, h⟩, 1) ∧ nx = pc + 1 else decode (ax_by y) pc = .ok (.lstore i, 2) ∧ nx = pc + 2) ∧ i + 1 < ax_ml y)
    | 7 => decide (decode (ax_by y) pc = .ok (.iinc i z, 3) ∧ nx = pc + 3 ∧ i < ax_ml y)
    | 8 => decide (decode (ax_by y) pc = .ok (.iadd, 1) ∧ nx = pc + 1)
    | 9 => decide (decode (ax_by y) pc = .ok (.isub, 1) ∧ nx = pc + 1)
    | 10 => decide (decode (ax_by y) pc = .ok (.imul, 1) ∧ nx = pc + 1)
    | 11 => decide (decode (ax_by y) pc = .ok (.idiv, 1) ∧ nx = pc + 1)
    | 12 => decide (decode (ax_by y) pc = .ok (.irem, 1) ∧ nx = pc + 1)
    | 13 => decide (decode (ax_by y) pc = .ok (.iand, 1) ∧ nx = pc + 1)
    | 14 => decide (nx = pc + 3 ∧ ((j = 0 ∧ decode (ax_by y) pc = .ok (.ifCond .eq ((i : Int) - (pc : Int)), 3)) ∨ (j = 1 ∧ decode (ax_by y) pc = .ok (.ifCond .ne ((i : Int) - (pc : Int)), 3)) ∨ (j = 2 ∧ decode (ax_by y) pc = .ok (.ifCond .lt ((i : Int) - (pc : Int)), 3)) ∨ (j = 3 ∧ decode (ax_by y) pc = .ok (.ifCond .ge ((i : Int) - (pc : Int)), 3)) ∨ (j = 4 ∧ decode (ax_by y) pc = .ok (.ifCond .gt ((i : Int) - (pc : Int)), 3)) ∨ (j = 5 ∧ decode (ax_by y) pc = .ok (.ifCond .le ((i : Int) - (pc : Int)), 3))))
    | 15 => decide (nx = pc + 3 ∧ ((j = 0 ∧ decode (ax_by y) pc = .ok (.if_icmp .eq ((i : Int) - (pc : Int)), 3)) ∨ (j = 1 ∧ decode (ax_by y) pc = .ok (.if_icmp .ne ((i : Int) - (pc : Int)), 3)) ∨ (j = 2 ∧ decode (ax_by y) pc = .ok (.if_icmp .lt ((i : Int) - (pc : Int)), 3)) ∨ (j = 3 ∧ decode (ax_by y) pc = .ok (.if_icmp .ge ((i : Int) - (pc : Int)), 3)) ∨ (j = 4 ∧ decode (ax_by y) pc = .ok (.if_icmp .gt ((i : Int) - (pc : Int)), 3)) ∨ (j = 5 ∧ decode (ax_by y) pc = .ok (.if_icmp .le ((i : Int) - (pc : Int)), 3))))
    | 16 => decide (decode (ax_by y) pc = .ok (.goto ((i : Int) - (pc : Int)), 3))
    | 17 => match ax_cl[i]? with
      | some (_, T, N) => decide (j < N) && ax_in (Cond.fieldLink (ax_nm y).cls z.toNat (T j).1 (T j).2.1 (T j).2.2.1) && decide (ax_ft i j = false) && decide (decode (ax_by y) pc = .ok (.getfield z.toNat, 3)) && decide (nx = pc + 3)
      | none => false
    | 18 => match ax_cl[i]? with
      | some (_, T, N) => decide (j < N) && ax_in (Cond.fieldLink (ax_nm y).cls z.toNat (T j).1 (T j).2.1 (T j).2.2.1) && decide (ax_ft i j = true) && decide (decode (ax_by y) pc = .ok (.getfield z.toNat, 3)) && decide (nx = pc + 3)
      | none => false
    | 19 => match ax_cl[i]? with
      | some (_, T, N) => decide (j < N) && ax_in (Cond.fieldLink (ax_nm y).cls z.toNat (T j).1 (T j).2.1 (T j).2.2.1) && decide (parseFieldDescriptor (T j).2.2.1 = some .int) && decide (ax_ft i j = false) && decide ((T j).2.2.2 = false ∨ ((T j).2.2.2 = true ∧ (ax_nm y).name = "<init>" ∧ (T j).1 = (ax_nm y).cls)) && decide (decode (ax_by y) pc = .ok (.putfield z.toNat, 3)) && decide (nx = pc + 3)
      | none => false
    | 20 => match ax_cl[i]? with
      | some (_, T, N) => decide (j < N) && ax_in (Cond.fieldLink (ax_nm y).cls z.toNat (T j).1 (T j).2.1 (T j).2.2.1) && decide (parseFieldDescriptor (T j).2.2.1 = some .boolean) && decide (ax_ft i j = false) && decide ((T j).2.2.2 = false ∨ ((T j).2.2.2 = true ∧ (ax_nm y).name = "<init>" ∧ (T j).1 = (ax_nm y).cls)) && decide (decode (ax_by y) pc = .ok (.putfield z.toNat, 3)) && decide (nx = pc + 3)
      | none => false
    | 21 => match ax_cl[i]? with
      | some (_, T, N) => decide (j < N) && ax_in (Cond.fieldLink (ax_nm y).cls z.toNat (T j).1 (T j).2.1 (T j).2.2.1) && decide (ax_ft i j = true) && decide ((T j).2.2.2 = false ∨ ((T j).2.2.2 = true ∧ (ax_nm y).name = "<init>" ∧ (T j).1 = (ax_nm y).cls)) && decide (decode (ax_by y) pc = .ok (.putfield z.toNat, 3)) && decide (nx = pc + 3)
      | none => false
    | 22 => decide (decode (ax_by y) pc = .ok (.iaload, 1) ∧ nx = pc + 1)
    | 23 => decide (decode (ax_by y) pc = .ok (.baload, 1) ∧ nx = pc + 1)
    | 24 => decide (decode (ax_by y) pc = .ok (.aaload, 1) ∧ nx = pc + 1)
    | 25 => decide (decode (ax_by y) pc = .ok (.iastore, 1) ∧ nx = pc + 1)
    | 26 => decide (decode (ax_by y) pc = .ok (.bastore, 1) ∧ nx = pc + 1)
    | 27 => decide (decode (ax_by y) pc = .ok (.arraylength, 1) ∧ nx = pc + 1)
    | 28 => decide (i < ax_nM) && decide ((ax_nm i).cls ≠ "java/lang/invoke/MethodHandle" ∧ (ax_nm i).cls ≠ "java/lang/invoke/VarHandle") && decide ((parseMethodDescriptor (ax_nm i).desc).map (fun d => d.parameters.length) = some j) && ax_in (Cond.static (ax_nm i)) && ax_in (Cond.initialized (ax_nm i).cls) && (ax_in (Cond.methodLink (ax_nm y).cls z.toNat (ax_nm i)) || decide (Cond.methodLinkNest (ax_nm y).cls z.toNat (ax_nm i) ax_host ∈ ax_nw)) && decide (decode (ax_by y) pc = .ok (.invokestatic z.toNat, 3) ∧ nx = pc + 3)
    | 29 => decide (i < ax_nM) && decide ((ax_nm i).cls ≠ "java/lang/invoke/MethodHandle" ∧ (ax_nm i).cls ≠ "java/lang/invoke/VarHandle") && decide ((parseMethodDescriptor (ax_nm i).desc).map (fun d => d.parameters.length) = some (j - 1)) && decide (1 ≤ j) && ax_in (Cond.instanceMethod (ax_nm i)) && ax_in (Cond.initialized (ax_nm i).cls) && decide ((ax_cl[ax_rc i]?).map (fun q => q.1) = some (ax_nm i).cls) && decide (nx = pc + 3) && ((ax_in (Cond.methodLink (ax_nm y).cls z.toNat (ax_nm i)) && ax_in (Cond.selects (ax_nm i).cls (ax_nm i) (ax_nm i)) && decide (decode (ax_by y) pc = .ok (.invokevirtual z.toNat, 3))) || (decide ((ax_nm i).name = "<init>") && decide (ax_rt i = none) && (ax_in (Cond.methodLink (ax_nm y).cls z.toNat (ax_nm i)) || decide (Cond.methodLinkNest (ax_nm y).cls z.toNat (ax_nm i) ax_host ∈ ax_nw)) && decide (decode (ax_by y) pc = .ok (.invokespecial z.toNat, 3))))
    | 30 => decide (decode (ax_by y) pc = .ok (.return_, 1) ∧ ax_rt y = none)
    | 31 => decide (decode (ax_by y) pc = .ok (.ireturn, 1) ∧ ax_rt y = some .int)
    | 32 => decide (decode (ax_by y) pc = .ok (.ireturn, 1) ∧ ax_rt y = some .boolean)
    | 33 => decide (decode (ax_by y) pc = .ok (.areturn, 1) ∧ ax_rt y = some (.array .int))
    | 34 => decide (decode (ax_by y) pc = .ok (.lreturn, 1) ∧ ax_rt y = some .long)
    | 35 => match ax_cl[i]? with
      | some (C, _, N) => decide (j = N) && ax_in (Cond.classLink (ax_nm y).cls z.toNat C) && ax_in (Cond.instantiable C N) && ax_in (Cond.initialized C) && decide (decode (ax_by y) pc = .ok (.new z.toNat, 3) ∧ nx = pc + 3)
      | none => false
    | 36 => (decide (i = 0) && ax_in (Cond.arrayClass .int) && decide (decode (ax_by y) pc = .ok (.newarray .int, 2) ∧ nx = pc + 2)) || (decide (i = 1) && ax_in (Cond.arrayClass .boolean) && decide (decode (ax_by y) pc = .ok (.newarray .boolean, 2) ∧ nx = pc + 2))
    | 37 => ax_in (Cond.classLink (ax_nm y).cls z.toNat ("[" ++ (FieldType.array .int).toString)) && ax_in (Cond.arrayClass .int) && decide (decode (ax_by y) pc = .ok (.multianewarray z.toNat 2, 4) ∧ nx = pc + 4)
    | 38 => decide (decode (ax_by y) pc = .ok (.dup, 1) ∧ nx = pc + 1)
    | 39 => decide (decode (ax_by y) pc = .ok (.pop, 1) ∧ nx = pc + 1)
    | 40 => decide (decode (ax_by y) pc = .ok (.dup_x1, 1) ∧ nx = pc + 1)
    | 41 => decide (decode (ax_by y) pc = .ok (.dup2, 1) ∧ nx = pc + 1)
    | 42 => decide ((j = 0 ∧ z = 0 ∧ decode (ax_by y) pc = .ok (.lconst 0, 1) ∧ nx = pc + 1) ∨ (j = 1 ∧ z = 1 ∧ decode (ax_by y) pc = .ok (.lconst 1, 1) ∧ nx = pc + 1) ∨ (j = 2 ∧ decode (ax_by y) pc = .ok (.ldc2_w i, 3) ∧ ax_in (Cond.constantLong (ax_nm y).cls i (Int64.ofInt z)) = true ∧ nx = pc + 3))
    | 43 => decide (decode (ax_by y) pc = .ok (.i2l, 1) ∧ nx = pc + 1)
    | 44 => decide (decode (ax_by y) pc = .ok (.l2i, 1) ∧ nx = pc + 1)
    | 45 => decide (decode (ax_by y) pc = .ok (.ladd, 1) ∧ nx = pc + 1)
    | 46 => decide (decode (ax_by y) pc = .ok (.lsub, 1) ∧ nx = pc + 1)
    | 47 => decide (decode (ax_by y) pc = .ok (.lmul, 1) ∧ nx = pc + 1)
    | 48 => decide (decode (ax_by y) pc = .ok (.ldiv, 1) ∧ nx = pc + 1)
    | 49 => decide (decode (ax_by y) pc = .ok (.lcmp, 1) ∧ nx = pc + 1)
    | 50 => decide (i < ax_ns) && ax_in (Cond.fieldLink (ax_nm y).cls z.toNat (ax_sc i).1 (ax_sc i).2 "[I") && decide (decode (ax_by y) pc = .ok (.getstatic z.toNat, 3) ∧ nx = pc + 3)
    | 51 => decide (decode (ax_by y) pc = .ok (.iaload, 1) ∧ nx = pc + 1)
    | 52 => decide (decode (ax_by y) pc = .ok (.arraylength, 1) ∧ nx = pc + 1)
    | 53 => ax_in (Cond.methodLink (ax_nm y).cls z.toNat Lib.Math.max.name) && ax_in (Cond.static Lib.Math.max.name) && ax_in (Cond.initialized "java/lang/Math") && decide (decode (ax_by y) pc = .ok (.invokestatic z.toNat, 3) ∧ nx = pc + 3)
    | 54 => ax_in (Cond.methodLink (ax_nm y).cls z.toNat Lib.Math.min.name) && ax_in (Cond.static Lib.Math.min.name) && ax_in (Cond.initialized "java/lang/Math") && decide (decode (ax_by y) pc = .ok (.invokestatic z.toNat, 3) ∧ nx = pc + 3)
    | 55 => ax_in (Cond.methodLink (ax_nm y).cls z.toNat Lib.Math.abs.name) && ax_in (Cond.static Lib.Math.abs.name) && ax_in (Cond.initialized "java/lang/Math") && decide (decode (ax_by y) pc = .ok (.invokestatic z.toNat, 3) ∧ nx = pc + 3)
    | 56 => ax_in (Cond.methodLink (ax_nm y).cls z.toNat Lib.MathLoose.min_long.x) && ax_in (Cond.static Lib.MathLoose.min_long.x) && ax_in (Cond.initialized "java/lang/Math") && decide (decode (ax_by y) pc = .ok (.invokestatic z.toNat, 3) ∧ nx = pc + 3)
    | 57 => ax_in (Cond.methodLink (ax_nm y).cls z.toNat arraycopyName) && ax_in (Cond.native arraycopyName) && ax_in (Cond.static arraycopyName) && ax_in (Cond.initialized "java/lang/System") && decide (decode (ax_by y) pc = .ok (.invokestatic z.toNat, 3) ∧ nx = pc + 3)
    | 58 => ax_in (Cond.methodLink (ax_nm y).cls z.toNat Lib.objectInit) && ax_in (Cond.instanceMethod Lib.objectInit) && decide (decode (ax_by y) pc = .ok (.invokespecial z.toNat, 3) ∧ nx = pc + 3)
    | 59 => decide (y = ax_law) && decide (decode (ax_by y) pc = .ok (.iaload, 1) ∧ nx = pc + 1)
    | 60 => decide (y = ax_law) && decide (decode (ax_by y) pc = .ok (.arraylength, 1) ∧ nx = pc + 1)
    | 61 => decide (y = ax_law ∧ pc = 33)
    | _ => false
end
section
/-! EVERY MICRO-OP IS WHAT STANDS IN THE BYTES -/
theorem ax_lk {l : List (Nat × am_In)} {pc : Nat} {I : am_In} (h : l.lookup pc = some I) : (pc, I) ∈ l := by
  induction l with
  | nil => cases h
  | cons a r ih =>
    obtain ⟨q, J⟩ := a
    rw [List.lookup_cons] at h
    split at h
    · rename_i hq
      have : pc = q := by simpa using hq
      subst this
      cases h
      exact List.mem_cons_self
    · exact List.mem_cons_of_mem _ (ih h)
set_option maxRecDepth 100000 in
theorem ck_Arrays_fill : ∀ e ∈ tb_Arrays_fill, ax_ok Y_Arrays_fill e.1 e.2 = true := by decide +kernel
set_option maxRecDepth 100000 in
theorem ck_AM_init : ∀ e ∈ tb_AM_init, ax_ok Y_AM_init e.1 e.2 = true := by decide +kernel
set_option maxRecDepth 100000 in
theorem ck_AM_pack : ∀ e ∈ tb_AM_pack, ax_ok Y_AM_pack e.1 e.2 = true := by decide +kernel
set_option maxRecDepth 100000 in
theorem ck_AM_version : ∀ e ∈ tb_AM_version, ax_ok Y_AM_version e.1 e.2 = true := by decide +kernel
set_option maxRecDepth 100000 in
theorem ck_AM_install : ∀ e ∈ tb_AM_install, ax_ok Y_AM_install e.1 e.2 = true := by decide +kernel
set_option maxRecDepth 100000 in
theorem ck_AM_need : ∀ e ∈ tb_AM_need, ax_ok Y_AM_need e.1 e.2 = true := by decide +kernel
set_option maxRecDepth 100000 in
theorem ck_AM_call : ∀ e ∈ tb_AM_call, ax_ok Y_AM_call e.1 e.2 = true := by decide +kernel
set_option maxRecDepth 100000 in
theorem ck_AM_advisory : ∀ e ∈ tb_AM_advisory, ax_ok Y_AM_advisory e.1 e.2 = true := by decide +kernel
set_option maxRecDepth 100000 in
theorem ck_AM_span : ∀ e ∈ tb_AM_span, ax_ok Y_AM_span e.1 e.2 = true := by decide +kernel
set_option maxRecDepth 100000 in
theorem ck_AM_severity : ∀ e ∈ tb_AM_severity, ax_ok Y_AM_severity e.1 e.2 = true := by decide +kernel
set_option maxRecDepth 100000 in
theorem ck_AM_withdraw : ∀ e ∈ tb_AM_withdraw, ax_ok Y_AM_withdraw e.1 e.2 = true := by decide +kernel
set_option maxRecDepth 100000 in
theorem ck_AM_same : ∀ e ∈ tb_AM_same, ax_ok Y_AM_same e.1 e.2 = true := by decide +kernel
set_option maxRecDepth 100000 in
theorem ck_AM_group : ∀ e ∈ tb_AM_group, ax_ok Y_AM_group e.1 e.2 = true := by decide +kernel
set_option maxRecDepth 100000 in
theorem ck_AM_score : ∀ e ∈ tb_AM_score, ax_ok Y_AM_score e.1 e.2 = true := by decide +kernel
set_option maxRecDepth 100000 in
theorem ck_AM_except : ∀ e ∈ tb_AM_except, ax_ok Y_AM_except e.1 e.2 = true := by decide +kernel
set_option maxRecDepth 100000 in
theorem ck_AM_tick : ∀ e ∈ tb_AM_tick, ax_ok Y_AM_tick e.1 e.2 = true := by decide +kernel
set_option maxRecDepth 100000 in
theorem ck_AM_hits : ∀ e ∈ tb_AM_hits, ax_ok Y_AM_hits e.1 e.2 = true := by decide +kernel
set_option maxRecDepth 100000 in
theorem ck_AM_hit : ∀ e ∈ tb_AM_hit, ax_ok Y_AM_hit e.1 e.2 = true := by decide +kernel
set_option maxRecDepth 100000 in
theorem ck_AM_broken : ∀ e ∈ tb_AM_broken, ax_ok Y_AM_broken e.1 e.2 = true := by decide +kernel
set_option maxRecDepth 100000 in
theorem ck_AM_plan : ∀ e ∈ tb_AM_plan, ax_ok Y_AM_plan e.1 e.2 = true := by decide +kernel
set_option maxRecDepth 100000 in
theorem ck_AM_planned : ∀ e ∈ tb_AM_planned, ax_ok Y_AM_planned e.1 e.2 = true := by decide +kernel
set_option maxRecDepth 100000 in
theorem ck_AM_update : ∀ e ∈ tb_AM_update, ax_ok Y_AM_update e.1 e.2 = true := by decide +kernel
set_option maxRecDepth 100000 in
theorem ck_AM_noteHitsOf : ∀ e ∈ tb_AM_noteHitsOf, ax_ok Y_AM_noteHitsOf e.1 e.2 = true := by decide +kernel
set_option maxRecDepth 100000 in
theorem ck_AM_markPlacesOf : ∀ e ∈ tb_AM_markPlacesOf, ax_ok Y_AM_markPlacesOf e.1 e.2 = true := by decide +kernel
set_option maxRecDepth 100000 in
theorem ck_AM_isClear : ∀ e ∈ tb_AM_isClear, ax_ok Y_AM_isClear e.1 e.2 = true := by decide +kernel
set_option maxRecDepth 100000 in
theorem ck_AM_isBelow : ∀ e ∈ tb_AM_isBelow, ax_ok Y_AM_isBelow e.1 e.2 = true := by decide +kernel
set_option maxRecDepth 100000 in
theorem ck_Packs_init : ∀ e ∈ tb_Packs_init, ax_ok Y_Packs_init e.1 e.2 = true := by decide +kernel
set_option maxRecDepth 100000 in
theorem ck_Packs_count : ∀ e ∈ tb_Packs_count, ax_ok Y_Packs_count e.1 e.2 = true := by decide +kernel
set_option maxRecDepth 100000 in
theorem ck_Packs_has : ∀ e ∈ tb_Packs_has, ax_ok Y_Packs_has e.1 e.2 = true := by decide +kernel
set_option maxRecDepth 100000 in
theorem ck_Packs_add : ∀ e ∈ tb_Packs_add, ax_ok Y_Packs_add e.1 e.2 = true := by decide +kernel
set_option maxRecDepth 100000 in
theorem ck_Packs_countVersions : ∀ e ∈ tb_Packs_countVersions, ax_ok Y_Packs_countVersions e.1 e.2 = true := by decide +kernel
set_option maxRecDepth 100000 in
theorem ck_Packs_addVersion : ∀ e ∈ tb_Packs_addVersion, ax_ok Y_Packs_addVersion e.1 e.2 = true := by decide +kernel
set_option maxRecDepth 100000 in
theorem ck_Packs_versionAt : ∀ e ∈ tb_Packs_versionAt, ax_ok Y_Packs_versionAt e.1 e.2 = true := by decide +kernel
set_option maxRecDepth 100000 in
theorem ck_Packs_putPlace : ∀ e ∈ tb_Packs_putPlace, ax_ok Y_Packs_putPlace e.1 e.2 = true := by decide +kernel
set_option maxRecDepth 100000 in
theorem ck_Packs_placeOf : ∀ e ∈ tb_Packs_placeOf, ax_ok Y_Packs_placeOf e.1 e.2 = true := by decide +kernel
set_option maxRecDepth 100000 in
theorem ck_Packs_installedVersions : ∀ e ∈ tb_Packs_installedVersions, ax_ok Y_Packs_installedVersions e.1 e.2 = true := by decide +kernel
set_option maxRecDepth 100000 in
theorem ck_Packs_isInstalledRoot : ∀ e ∈ tb_Packs_isInstalledRoot, ax_ok Y_Packs_isInstalledRoot e.1 e.2 = true := by decide +kernel
set_option maxRecDepth 100000 in
theorem ck_Needs_init : ∀ e ∈ tb_Needs_init, ax_ok Y_Needs_init e.1 e.2 = true := by decide +kernel
set_option maxRecDepth 100000 in
theorem ck_Needs_count : ∀ e ∈ tb_Needs_count, ax_ok Y_Needs_count e.1 e.2 = true := by decide +kernel
set_option maxRecDepth 100000 in
theorem ck_Needs_add : ∀ e ∈ tb_Needs_add, ax_ok Y_Needs_add e.1 e.2 = true := by decide +kernel
set_option maxRecDepth 100000 in
theorem ck_Needs_setCalled : ∀ e ∈ tb_Needs_setCalled, ax_ok Y_Needs_setCalled e.1 e.2 = true := by decide +kernel
set_option maxRecDepth 100000 in
theorem ck_Needs_isCalled : ∀ e ∈ tb_Needs_isCalled, ax_ok Y_Needs_isCalled e.1 e.2 = true := by decide +kernel
set_option maxRecDepth 100000 in
theorem ck_Needs_ownerOf : ∀ e ∈ tb_Needs_ownerOf, ax_ok Y_Needs_ownerOf e.1 e.2 = true := by decide +kernel
set_option maxRecDepth 100000 in
theorem ck_Needs_otherOf : ∀ e ∈ tb_Needs_otherOf, ax_ok Y_Needs_otherOf e.1 e.2 = true := by decide +kernel
set_option maxRecDepth 100000 in
theorem ck_Needs_leads : ∀ e ∈ tb_Needs_leads, ax_ok Y_Needs_leads e.1 e.2 = true := by decide +kernel
set_option maxRecDepth 100000 in
theorem ck_Needs_countBroken : ∀ e ∈ tb_Needs_countBroken, ax_ok Y_Needs_countBroken e.1 e.2 = true := by decide +kernel
set_option maxRecDepth 100000 in
theorem ck_Needs_areKept : ∀ e ∈ tb_Needs_areKept, ax_ok Y_Needs_areKept e.1 e.2 = true := by decide +kernel
set_option maxRecDepth 100000 in
theorem ck_Needs_isBroken : ∀ e ∈ tb_Needs_isBroken, ax_ok Y_Needs_isBroken e.1 e.2 = true := by decide +kernel
set_option maxRecDepth 100000 in
theorem ck_Needs_isActive : ∀ e ∈ tb_Needs_isActive, ax_ok Y_Needs_isActive e.1 e.2 = true := by decide +kernel
set_option maxRecDepth 100000 in
theorem ck_Needs_holds : ∀ e ∈ tb_Needs_holds, ax_ok Y_Needs_holds e.1 e.2 = true := by decide +kernel
set_option maxRecDepth 100000 in
theorem ck_Advisories_init : ∀ e ∈ tb_Advisories_init, ax_ok Y_Advisories_init e.1 e.2 = true := by decide +kernel
set_option maxRecDepth 100000 in
theorem ck_Advisories_count : ∀ e ∈ tb_Advisories_count, ax_ok Y_Advisories_count e.1 e.2 = true := by decide +kernel
set_option maxRecDepth 100000 in
theorem ck_Advisories_has : ∀ e ∈ tb_Advisories_has, ax_ok Y_Advisories_has e.1 e.2 = true := by decide +kernel
set_option maxRecDepth 100000 in
theorem ck_Advisories_add : ∀ e ∈ tb_Advisories_add, ax_ok Y_Advisories_add e.1 e.2 = true := by decide +kernel
set_option maxRecDepth 100000 in
theorem ck_Advisories_addSpan : ∀ e ∈ tb_Advisories_addSpan, ax_ok Y_Advisories_addSpan e.1 e.2 = true := by decide +kernel
set_option maxRecDepth 100000 in
theorem ck_Advisories_setScore : ∀ e ∈ tb_Advisories_setScore, ax_ok Y_Advisories_setScore e.1 e.2 = true := by decide +kernel
set_option maxRecDepth 100000 in
theorem ck_Advisories_scoreOf : ∀ e ∈ tb_Advisories_scoreOf, ax_ok Y_Advisories_scoreOf e.1 e.2 = true := by decide +kernel
set_option maxRecDepth 100000 in
theorem ck_Advisories_setWithdrawn : ∀ e ∈ tb_Advisories_setWithdrawn, ax_ok Y_Advisories_setWithdrawn e.1 e.2 = true := by decide +kernel
set_option maxRecDepth 100000 in
theorem ck_Advisories_groupOf : ∀ e ∈ tb_Advisories_groupOf, ax_ok Y_Advisories_groupOf e.1 e.2 = true := by decide +kernel
set_option maxRecDepth 100000 in
theorem ck_Advisories_renameGroup : ∀ e ∈ tb_Advisories_renameGroup, ax_ok Y_Advisories_renameGroup e.1 e.2 = true := by decide +kernel
set_option maxRecDepth 100000 in
theorem ck_Advisories_strikes : ∀ e ∈ tb_Advisories_strikes, ax_ok Y_Advisories_strikes e.1 e.2 = true := by decide +kernel
set_option maxRecDepth 100000 in
theorem ck_Advisories_scoreThere : ∀ e ∈ tb_Advisories_scoreThere, ax_ok Y_Advisories_scoreThere e.1 e.2 = true := by decide +kernel
set_option maxRecDepth 100000 in
theorem ck_Advisories_hasSpanWith : ∀ e ∈ tb_Advisories_hasSpanWith, ax_ok Y_Advisories_hasSpanWith e.1 e.2 = true := by decide +kernel
set_option maxRecDepth 100000 in
theorem ck_Exceptions_init : ∀ e ∈ tb_Exceptions_init, ax_ok Y_Exceptions_init e.1 e.2 = true := by decide +kernel
set_option maxRecDepth 100000 in
theorem ck_Exceptions_put : ∀ e ∈ tb_Exceptions_put, ax_ok Y_Exceptions_put e.1 e.2 = true := by decide +kernel
set_option maxRecDepth 100000 in
theorem ck_Exceptions_holds : ∀ e ∈ tb_Exceptions_holds, ax_ok Y_Exceptions_holds e.1 e.2 = true := by decide +kernel
set_option maxRecDepth 100000 in
theorem ck_Exceptions_join : ∀ e ∈ tb_Exceptions_join, ax_ok Y_Exceptions_join e.1 e.2 = true := by decide +kernel
set_option maxRecDepth 100000 in
theorem ck_Exceptions_areNumbers : ∀ e ∈ tb_Exceptions_areNumbers, ax_ok Y_Exceptions_areNumbers e.1 e.2 = true := by decide +kernel
set_option maxRecDepth 100000 in
theorem ck_Ways_init : ∀ e ∈ tb_Ways_init, ax_ok Y_Ways_init e.1 e.2 = true := by decide +kernel
set_option maxRecDepth 100000 in
theorem ck_Ways_lengthTo : ∀ e ∈ tb_Ways_lengthTo, ax_ok Y_Ways_lengthTo e.1 e.2 = true := by decide +kernel
set_option maxRecDepth 100000 in
theorem ck_Ways_measure : ∀ e ∈ tb_Ways_measure, ax_ok Y_Ways_measure e.1 e.2 = true := by decide +kernel
set_option maxRecDepth 100000 in
theorem ck_Ways_goOnByEachNeed : ∀ e ∈ tb_Ways_goOnByEachNeed, ax_ok Y_Ways_goOnByEachNeed e.1 e.2 = true := by decide +kernel
set_option maxRecDepth 100000 in
theorem ck_Ways_goOn : ∀ e ∈ tb_Ways_goOn, ax_ok Y_Ways_goOn e.1 e.2 = true := by decide +kernel
set_option maxRecDepth 100000 in
theorem ck_HitList_init : ∀ e ∈ tb_HitList_init, ax_ok Y_HitList_init e.1 e.2 = true := by decide +kernel
set_option maxRecDepth 100000 in
theorem ck_HitList_count : ∀ e ∈ tb_HitList_count, ax_ok Y_HitList_count e.1 e.2 = true := by decide +kernel
set_option maxRecDepth 100000 in
theorem ck_HitList_clear : ∀ e ∈ tb_HitList_clear, ax_ok Y_HitList_clear e.1 e.2 = true := by decide +kernel
set_option maxRecDepth 100000 in
theorem ck_HitList_add : ∀ e ∈ tb_HitList_add, ax_ok Y_HitList_add e.1 e.2 = true := by decide +kernel
set_option maxRecDepth 100000 in
theorem ck_HitList_part : ∀ e ∈ tb_HitList_part, ax_ok Y_HitList_part e.1 e.2 = true := by decide +kernel
set_option maxRecDepth 100000 in
theorem ck_Planner_init : ∀ e ∈ tb_Planner_init, ax_ok Y_Planner_init e.1 e.2 = true := by decide +kernel
set_option maxRecDepth 100000 in
theorem ck_Planner_markPlace : ∀ e ∈ tb_Planner_markPlace, ax_ok Y_Planner_markPlace e.1 e.2 = true := by decide +kernel
set_option maxRecDepth 100000 in
theorem ck_Planner_search : ∀ e ∈ tb_Planner_search, ax_ok Y_Planner_search e.1 e.2 = true := by decide +kernel
set_option maxRecDepth 100000 in
theorem ck_Planner_placeFor : ∀ e ∈ tb_Planner_placeFor, ax_ok Y_Planner_placeFor e.1 e.2 = true := by decide +kernel
set_option maxRecDepth 100000 in
theorem ck_Planner_carryOut : ∀ e ∈ tb_Planner_carryOut, ax_ok Y_Planner_carryOut e.1 e.2 = true := by decide +kernel
set_option maxRecDepth 100000 in
theorem ck_Planner_choose : ∀ e ∈ tb_Planner_choose, ax_ok Y_Planner_choose e.1 e.2 = true := by decide +kernel
set_option maxRecDepth 100000 in
theorem ck_Planner_settle : ∀ e ∈ tb_Planner_settle, ax_ok Y_Planner_settle e.1 e.2 = true := by decide +kernel
set_option maxRecDepth 100000 in
theorem ck_Planner_keepTried : ∀ e ∈ tb_Planner_keepTried, ax_ok Y_Planner_keepTried e.1 e.2 = true := by decide +kernel
set_option maxRecDepth 100000 in
theorem ck_Planner_isClearPlace : ∀ e ∈ tb_Planner_isClearPlace, ax_ok Y_Planner_isClearPlace e.1 e.2 = true := by decide +kernel
set_option maxRecDepth 100000 in
theorem ck_Planner_costOf : ∀ e ∈ tb_Planner_costOf, ax_ok Y_Planner_costOf e.1 e.2 = true := by decide +kernel
set_option maxRecDepth 100000 in
theorem ck_Model_init : ∀ e ∈ tb_Model_init, ax_ok Y_Model_init e.1 e.2 = true := by decide +kernel
set_option maxRecDepth 100000 in
theorem ck_Model_isPack : ∀ e ∈ tb_Model_isPack, ax_ok Y_Model_isPack e.1 e.2 = true := by decide +kernel
set_option maxRecDepth 100000 in
theorem ck_Model_isAdvisory : ∀ e ∈ tb_Model_isAdvisory, ax_ok Y_Model_isAdvisory e.1 e.2 = true := by decide +kernel
set_option maxRecDepth 100000 in
theorem ck_Model_in : ∀ e ∈ tb_Model_in, ax_ok Y_Model_in e.1 e.2 = true := by decide +kernel
set_option maxRecDepth 100000 in
theorem ck_Model_pack : ∀ e ∈ tb_Model_pack, ax_ok Y_Model_pack e.1 e.2 = true := by decide +kernel
set_option maxRecDepth 100000 in
theorem ck_Model_version : ∀ e ∈ tb_Model_version, ax_ok Y_Model_version e.1 e.2 = true := by decide +kernel
set_option maxRecDepth 100000 in
theorem ck_Model_install : ∀ e ∈ tb_Model_install, ax_ok Y_Model_install e.1 e.2 = true := by decide +kernel
set_option maxRecDepth 100000 in
theorem ck_Model_need : ∀ e ∈ tb_Model_need, ax_ok Y_Model_need e.1 e.2 = true := by decide +kernel
set_option maxRecDepth 100000 in
theorem ck_Model_call : ∀ e ∈ tb_Model_call, ax_ok Y_Model_call e.1 e.2 = true := by decide +kernel
set_option maxRecDepth 100000 in
theorem ck_Model_lookAtInstalled : ∀ e ∈ tb_Model_lookAtInstalled, ax_ok Y_Model_lookAtInstalled e.1 e.2 = true := by decide +kernel
set_option maxRecDepth 100000 in
theorem ck_Model_isActive : ∀ e ∈ tb_Model_isActive, ax_ok Y_Model_isActive e.1 e.2 = true := by decide +kernel
set_option maxRecDepth 100000 in
theorem ck_Model_doesHold : ∀ e ∈ tb_Model_doesHold, ax_ok Y_Model_doesHold e.1 e.2 = true := by decide +kernel
set_option maxRecDepth 100000 in
theorem ck_Model_lacking : ∀ e ∈ tb_Model_lacking, ax_ok Y_Model_lacking e.1 e.2 = true := by decide +kernel
set_option maxRecDepth 100000 in
theorem ck_Model_broken : ∀ e ∈ tb_Model_broken, ax_ok Y_Model_broken e.1 e.2 = true := by decide +kernel
set_option maxRecDepth 100000 in
theorem ck_Model_advisory : ∀ e ∈ tb_Model_advisory, ax_ok Y_Model_advisory e.1 e.2 = true := by decide +kernel
set_option maxRecDepth 100000 in
theorem ck_Model_span : ∀ e ∈ tb_Model_span, ax_ok Y_Model_span e.1 e.2 = true := by decide +kernel
set_option maxRecDepth 100000 in
theorem ck_Model_severity : ∀ e ∈ tb_Model_severity, ax_ok Y_Model_severity e.1 e.2 = true := by decide +kernel
set_option maxRecDepth 100000 in
theorem ck_Model_withdraw : ∀ e ∈ tb_Model_withdraw, ax_ok Y_Model_withdraw e.1 e.2 = true := by decide +kernel
set_option maxRecDepth 100000 in
theorem ck_Model_same : ∀ e ∈ tb_Model_same, ax_ok Y_Model_same e.1 e.2 = true := by decide +kernel
set_option maxRecDepth 100000 in
theorem ck_Model_group : ∀ e ∈ tb_Model_group, ax_ok Y_Model_group e.1 e.2 = true := by decide +kernel
set_option maxRecDepth 100000 in
theorem ck_Model_hundredths : ∀ e ∈ tb_Model_hundredths, ax_ok Y_Model_hundredths e.1 e.2 = true := by decide +kernel
set_option maxRecDepth 100000 in
theorem ck_Model_scoreOf : ∀ e ∈ tb_Model_scoreOf, ax_ok Y_Model_scoreOf e.1 e.2 = true := by decide +kernel
set_option maxRecDepth 100000 in
theorem ck_Model_score : ∀ e ∈ tb_Model_score, ax_ok Y_Model_score e.1 e.2 = true := by decide +kernel
set_option maxRecDepth 100000 in
theorem ck_Model_except : ∀ e ∈ tb_Model_except, ax_ok Y_Model_except e.1 e.2 = true := by decide +kernel
set_option maxRecDepth 100000 in
theorem ck_Model_tick : ∀ e ∈ tb_Model_tick, ax_ok Y_Model_tick e.1 e.2 = true := by decide +kernel
set_option maxRecDepth 100000 in
theorem ck_Model_hasSpan : ∀ e ∈ tb_Model_hasSpan, ax_ok Y_Model_hasSpan e.1 e.2 = true := by decide +kernel
set_option maxRecDepth 100000 in
theorem ck_Model_scoreThere : ∀ e ∈ tb_Model_scoreThere, ax_ok Y_Model_scoreThere e.1 e.2 = true := by decide +kernel
set_option maxRecDepth 100000 in
theorem ck_Model_isExcepted : ∀ e ∈ tb_Model_isExcepted, ax_ok Y_Model_isExcepted e.1 e.2 = true := by decide +kernel
set_option maxRecDepth 100000 in
theorem ck_Model_findWays : ∀ e ∈ tb_Model_findWays, ax_ok Y_Model_findWays e.1 e.2 = true := by decide +kernel
set_option maxRecDepth 100000 in
theorem ck_Model_tell : ∀ e ∈ tb_Model_tell, ax_ok Y_Model_tell e.1 e.2 = true := by decide +kernel
set_option maxRecDepth 100000 in
theorem ck_Model_hits : ∀ e ∈ tb_Model_hits, ax_ok Y_Model_hits e.1 e.2 = true := by decide +kernel
set_option maxRecDepth 100000 in
theorem ck_Model_hit : ∀ e ∈ tb_Model_hit, ax_ok Y_Model_hit e.1 e.2 = true := by decide +kernel
set_option maxRecDepth 100000 in
theorem ck_Model_findBad : ∀ e ∈ tb_Model_findBad, ax_ok Y_Model_findBad e.1 e.2 = true := by decide +kernel
set_option maxRecDepth 100000 in
theorem ck_Model_goesOn : ∀ e ∈ tb_Model_goesOn, ax_ok Y_Model_goesOn e.1 e.2 = true := by decide +kernel
set_option maxRecDepth 100000 in
theorem ck_Model_mayBe : ∀ e ∈ tb_Model_mayBe, ax_ok Y_Model_mayBe e.1 e.2 = true := by decide +kernel
set_option maxRecDepth 100000 in
theorem ck_Model_cost : ∀ e ∈ tb_Model_cost, ax_ok Y_Model_cost e.1 e.2 = true := by decide +kernel
set_option maxRecDepth 100000 in
theorem ck_Model_plan : ∀ e ∈ tb_Model_plan, ax_ok Y_Model_plan e.1 e.2 = true := by decide +kernel
set_option maxRecDepth 100000 in
theorem ck_Model_planned : ∀ e ∈ tb_Model_planned, ax_ok Y_Model_planned e.1 e.2 = true := by decide +kernel
set_option maxRecDepth 100000 in
theorem ck_Model_update : ∀ e ∈ tb_Model_update, ax_ok Y_Model_update e.1 e.2 = true := by decide +kernel
set_option maxRecDepth 100000 in
theorem ck_Severity_areChoices : ∀ e ∈ tb_Severity_areChoices, ax_ok Y_Severity_areChoices e.1 e.2 = true := by decide +kernel
set_option maxRecDepth 100000 in
theorem ck_Severity_tenths : ∀ e ∈ tb_Severity_tenths, ax_ok Y_Severity_tenths e.1 e.2 = true := by decide +kernel
set_option maxRecDepth 100000 in
theorem ck_Severity_impactOf : ∀ e ∈ tb_Severity_impactOf, ax_ok Y_Severity_impactOf e.1 e.2 = true := by decide +kernel
end
section
set_option maxRecDepth 100000 in
theorem ck_law_0 : ∀ e ∈ tb_law_0, ax_ok ax_law e.1 e.2 = true := by decide +kernel
set_option maxRecDepth 100000 in
theorem ck_law_1 : ∀ e ∈ tb_law_1, ax_ok ax_law e.1 e.2 = true := by decide +kernel
set_option maxRecDepth 100000 in
theorem ck_law_2 : ∀ e ∈ tb_law_2, ax_ok ax_law e.1 e.2 = true := by decide +kernel
set_option maxRecDepth 100000 in
theorem ck_law_3 : ∀ e ∈ tb_law_3, ax_ok ax_law e.1 e.2 = true := by decide +kernel
set_option maxRecDepth 100000 in
theorem ck_law_4 : ∀ e ∈ tb_law_4, ax_ok ax_law e.1 e.2 = true := by decide +kernel
theorem ax_cdok : ∀ (y pc : Nat) (I : am_In), y ≤ ax_nM → ax_cd y pc = some I → ax_ok y pc I = true := by
  intro y pc I hy h
  unfold ax_cd at h
  match y, hy, h with
  | 0, _, h => exact ck_Arrays_fill _ (ax_lk h)
  | 1, _, h => exact ck_AM_init _ (ax_lk h)
  | 2, _, h => exact ck_AM_pack _ (ax_lk h)
  | 3, _, h => exact ck_AM_version _ (ax_lk h)
  | 4, _, h => exact ck_AM_install _ (ax_lk h)
  | 5, _, h => exact ck_AM_need _ (ax_lk h)
  | 6, _, h => exact ck_AM_call _ (ax_lk h)
  | 7, _, h => exact ck_AM_advisory _ (ax_lk h)
  | 8, _, h => exact ck_AM_span _ (ax_lk h)
  | 9, _, h => exact ck_AM_severity _ (ax_lk h)
  | 10, _, h => exact ck_AM_withdraw _ (ax_lk h)
  | 11, _, h => exact ck_AM_same _ (ax_lk h)
  | 12, _, h => exact ck_AM_group _ (ax_lk h)
  | 13, _, h => exact ck_AM_score _ (ax_lk h)
  | 14, _, h => exact ck_AM_except _ (ax_lk h)
  | 15, _, h => exact ck_AM_tick _ (ax_lk h)
  | 16, _, h => exact ck_AM_hits _ (ax_lk h)
  | 17, _, h => exact ck_AM_hit _ (ax_lk h)
  | 18, _, h => exact ck_AM_broken _ (ax_lk h)
  | 19, _, h => exact ck_AM_plan _ (ax_lk h)
  | 20, _, h => exact ck_AM_planned _ (ax_lk h)
  | 21, _, h => exact ck_AM_update _ (ax_lk h)
  | 22, _, h => exact ck_AM_noteHitsOf _ (ax_lk h)
  | 23, _, h => exact ck_AM_markPlacesOf _ (ax_lk h)
  | 24, _, h => exact ck_AM_isClear _ (ax_lk h)
  | 25, _, h => exact ck_AM_isBelow _ (ax_lk h)
  | 26, _, h => exact ck_Packs_init _ (ax_lk h)
  | 27, _, h => exact ck_Packs_count _ (ax_lk h)
  | 28, _, h => exact ck_Packs_has _ (ax_lk h)
  | 29, _, h => exact ck_Packs_add _ (ax_lk h)
  | 30, _, h => exact ck_Packs_countVersions _ (ax_lk h)
  | 31, _, h => exact ck_Packs_addVersion _ (ax_lk h)
  | 32, _, h => exact ck_Packs_versionAt _ (ax_lk h)
  | 33, _, h => exact ck_Packs_putPlace _ (ax_lk h)
  | 34, _, h => exact ck_Packs_placeOf _ (ax_lk h)
  | 35, _, h => exact ck_Packs_installedVersions _ (ax_lk h)
  | 36, _, h => exact ck_Packs_isInstalledRoot _ (ax_lk h)
  | 37, _, h => exact ck_Needs_init _ (ax_lk h)
  | 38, _, h => exact ck_Needs_count _ (ax_lk h)
  | 39, _, h => exact ck_Needs_add _ (ax_lk h)
  | 40, _, h => exact ck_Needs_setCalled _ (ax_lk h)
  | 41, _, h => exact ck_Needs_isCalled _ (ax_lk h)
  | 42, _, h => exact ck_Needs_ownerOf _ (ax_lk h)
  | 43, _, h => exact ck_Needs_otherOf _ (ax_lk h)
  | 44, _, h => exact ck_Needs_leads _ (ax_lk h)
  | 45, _, h => exact ck_Needs_countBroken _ (ax_lk h)
  | 46, _, h => exact ck_Needs_areKept _ (ax_lk h)
  | 47, _, h => exact ck_Needs_isBroken _ (ax_lk h)
  | 48, _, h => exact ck_Needs_isActive _ (ax_lk h)
  | 49, _, h => exact ck_Needs_holds _ (ax_lk h)
  | 50, _, h => exact ck_Advisories_init _ (ax_lk h)
  | 51, _, h => exact ck_Advisories_count _ (ax_lk h)
  | 52, _, h => exact ck_Advisories_has _ (ax_lk h)
  | 53, _, h => exact ck_Advisories_add _ (ax_lk h)
  | 54, _, h => exact ck_Advisories_addSpan _ (ax_lk h)
  | 55, _, h => exact ck_Advisories_setScore _ (ax_lk h)
  | 56, _, h => exact ck_Advisories_scoreOf _ (ax_lk h)
  | 57, _, h => exact ck_Advisories_setWithdrawn _ (ax_lk h)
  | 58, _, h => exact ck_Advisories_groupOf _ (ax_lk h)
  | 59, _, h => exact ck_Advisories_renameGroup _ (ax_lk h)
  | 60, _, h => exact ck_Advisories_strikes _ (ax_lk h)
  | 61, _, h => exact ck_Advisories_scoreThere _ (ax_lk h)
  | 62, _, h => exact ck_Advisories_hasSpanWith _ (ax_lk h)
  | 63, _, h => exact ck_Exceptions_init _ (ax_lk h)
  | 64, _, h => exact ck_Exceptions_put _ (ax_lk h)
  | 65, _, h => exact ck_Exceptions_holds _ (ax_lk h)
  | 66, _, h => exact ck_Exceptions_join _ (ax_lk h)
  | 67, _, h => exact ck_Exceptions_areNumbers _ (ax_lk h)
  | 68, _, h => exact ck_Ways_init _ (ax_lk h)
  | 69, _, h => exact ck_Ways_lengthTo _ (ax_lk h)
  | 70, _, h => exact ck_Ways_measure _ (ax_lk h)
  | 71, _, h => exact ck_Ways_goOnByEachNeed _ (ax_lk h)
  | 72, _, h => exact ck_Ways_goOn _ (ax_lk h)
  | 73, _, h => exact ck_HitList_init _ (ax_lk h)
  | 74, _, h => exact ck_HitList_count _ (ax_lk h)
  | 75, _, h => exact ck_HitList_clear _ (ax_lk h)
  | 76, _, h => exact ck_HitList_add _ (ax_lk h)
  | 77, _, h => exact ck_HitList_part _ (ax_lk h)
  | 78, _, h => exact ck_Planner_init _ (ax_lk h)
  | 79, _, h => exact ck_Planner_markPlace _ (ax_lk h)
  | 80, _, h => exact ck_Planner_search _ (ax_lk h)
  | 81, _, h => exact ck_Planner_placeFor _ (ax_lk h)
  | 82, _, h => exact ck_Planner_carryOut _ (ax_lk h)
  | 83, _, h => exact ck_Planner_choose _ (ax_lk h)
  | 84, _, h => exact ck_Planner_settle _ (ax_lk h)
  | 85, _, h => exact ck_Planner_keepTried _ (ax_lk h)
  | 86, _, h => exact ck_Planner_isClearPlace _ (ax_lk h)
  | 87, _, h => exact ck_Planner_costOf _ (ax_lk h)
  | 88, _, h => exact ck_Model_init _ (ax_lk h)
  | 89, _, h => exact ck_Model_isPack _ (ax_lk h)
  | 90, _, h => exact ck_Model_isAdvisory _ (ax_lk h)
  | 91, _, h => exact ck_Model_in _ (ax_lk h)
  | 92, _, h => exact ck_Model_pack _ (ax_lk h)
  | 93, _, h => exact ck_Model_version _ (ax_lk h)
  | 94, _, h => exact ck_Model_install _ (ax_lk h)
  | 95, _, h => exact ck_Model_need _ (ax_lk h)
  | 96, _, h => exact ck_Model_call _ (ax_lk h)
  | 97, _, h => exact ck_Model_lookAtInstalled _ (ax_lk h)
  | 98, _, h => exact ck_Model_isActive _ (ax_lk h)
  | 99, _, h => exact ck_Model_doesHold _ (ax_lk h)
  | 100, _, h => exact ck_Model_lacking _ (ax_lk h)
  | 101, _, h => exact ck_Model_broken _ (ax_lk h)
  | 102, _, h => exact ck_Model_advisory _ (ax_lk h)
  | 103, _, h => exact ck_Model_span _ (ax_lk h)
  | 104, _, h => exact ck_Model_severity _ (ax_lk h)
  | 105, _, h => exact ck_Model_withdraw _ (ax_lk h)
  | 106, _, h => exact ck_Model_same _ (ax_lk h)
  | 107, _, h => exact ck_Model_group _ (ax_lk h)
  | 108, _, h => exact ck_Model_hundredths _ (ax_lk h)
  | 109, _, h => exact ck_Model_scoreOf _ (ax_lk h)
  | 110, _, h => exact ck_Model_score _ (ax_lk h)
  | 111, _, h => exact ck_Model_except _ (ax_lk h)
  | 112, _, h => exact ck_Model_tick _ (ax_lk h)
  | 113, _, h => exact ck_Model_hasSpan _ (ax_lk h)
  | 114, _, h => exact ck_Model_scoreThere _ (ax_lk h)
  | 115, _, h => exact ck_Model_isExcepted _ (ax_lk h)
  | 116, _, h => exact ck_Model_findWays _ (ax_lk h)
  | 117, _, h => exact ck_Model_tell _ (ax_lk h)
  | 118, _, h => exact ck_Model_hits _ (ax_lk h)
  | 119, _, h => exact ck_Model_hit _ (ax_lk h)
  | 120, _, h => exact ck_Model_findBad _ (ax_lk h)
  | 121, _, h => exact ck_Model_goesOn _ (ax_lk h)
  | 122, _, h => exact ck_Model_mayBe _ (ax_lk h)
  | 123, _, h => exact ck_Model_cost _ (ax_lk h)
  | 124, _, h => exact ck_Model_plan _ (ax_lk h)
  | 125, _, h => exact ck_Model_planned _ (ax_lk h)
  | 126, _, h => exact ck_Model_update _ (ax_lk h)
  | 127, _, h => exact ck_Severity_areChoices _ (ax_lk h)
  | 128, _, h => exact ck_Severity_tenths _ (ax_lk h)
  | 129, _, h => exact ck_Severity_impactOf _ (ax_lk h)
  | 130, _, h =>
    have h2 : (pc, I) ∈ tb_law := ax_lk h
    unfold tb_law at h2
    simp only [List.mem_append] at h2
    rcases h2 with (((h2 | h2) | h2) | h2) | h2
    · exact ck_law_0 _ h2
    · exact ck_law_1 _ h2
    · exact ck_law_2 _ h2
    · exact ck_law_3 _ h2
    · exact ck_law_4 _ h2
  | n + 131, hy, h => exact absurd hy (by unfold ax_nM; omega)
end
section
theorem ax_good {Ts : List Cond} (hUT : ∀ w ∈ ax_U, w ∈ Ts) {i : Nat} (hi : i < ax_nM) : GoodIn Ts (ax_ws i) := by
  intro w hw
  rcases List.mem_cons.mp hw with rfl | hw
  · exact ⟨hUT _ (ax_codes i hi), ax_goodU _ (ax_codes i hi)⟩
  · exact ⟨hUT _ hw, ax_goodU w hw⟩
/-- what the calls of methods at most d deep are worth on the big machine -/
def ax_snd (l : Launch) (D : va_G) (kA : Nat → ClassId) (d : Nat) (C : am_C) : Prop := ∀ (y : Nat) (As : List Value) (u : am_St) (P : am_Q), y < ax_nM → C y As u P → ∀ (ad : Nat → Nat) (sz : Nat), Met l (ax_nm y) (ax_ws y) (ax_rm d y) (am_Pc D ax_cl kA ax_ft ax_nw ax_sc ax_ns ax_sn ax_sv As u ad sz) (am_Qc D ax_cl kA ax_ft P u ad sz (ax_kc y).1) (ax_kc y).1 (ax_kc y).2 (va_A (am_wl kA ax_ft ad u) sz)
/-- the end of a method: what is left to show there -/
def ax_rk (y pc : Nat) (r : Option Value) : Prop := (r = none ∧ decode (ax_by y) pc = .ok (.return_, 1) ∧ ax_rt y = none) ∨ (∃ v, r = some (.int v) ∧ decode (ax_by y) pc = .ok (.ireturn, 1) ∧ (ax_rt y = some .int ∨ (ax_rt y = some .boolean ∧ (v = 0 ∨ v = 1)))) ∨ (∃ a, r = some (.ref a) ∧ decode (ax_by y) pc = .ok (.areturn, 1) ∧ ax_rt y = some (.array .int)) ∨ (∃ v, r = some (.long v) ∧ decode (ax_by y) pc = .ok (.lreturn, 1) ∧ ax_rt y = some .long)
section MASTER
variable {p : Program} {l : Launch} {e : Env} {R : Room} {s : State} {m : MethodId} {args : Array Value} {below : List Frame} {meth : Method} {c0 : Code} {Qs : State → Prop} {D : va_G} {kA : Nat → ClassId} {A : Nat → Prop} {ad0 : Nat → Nat} {n0 mc ms : Nat} {lg : Bool} {xl : Nat} {xs : Nat → Int32} {y : Nat} {Ts : List Cond} {nmx : String}
variable {pc : Nat} {L : List (Option Value)} {S : List Value} {u : am_St} {b c : Nat}
set_option maxHeartbeats 8000000 in
set_option maxRecDepth 20000 in
theorem ax_step {d : Nat} {C : am_C} {Q : am_Q} {I : am_In} (cx : am_Cx p R s m args meth c0 D ax_cl kA ax_ft A ad0 mc ms (ax_ml y) (ax_by y) (ax_nm y).cls Ts ax_nw nmx ax_sc ax_ns ax_sn ax_sv lg xl xs) (hUT : ∀ w ∈ ax_U, w ∈ Ts) (hnx : (ax_nm y).name = "<init>" → nmx = "<init>") (hlg : y = ax_law → lg = true) (hR1 : d + 1 ≤ R.frames) (hR2 : 40 * (d + 1) ≤ R.locals) (hC : ax_snd l D kA d C)
    (hret : ∀ (r : Option Value) (u : am_St) (b c : Nat) (pc : Nat) (ad : Nat → Nat) (H : Heap) (locs : List Loc) (cells slots : Nat) (ls : Array Slot), Q r u → am_Rh D ax_cl kA ax_ft A s.heap ad0 n0 mc ms u b c ad H locs cells slots → ax_rk y pc r → W p l e R s m args below meth c0 H locs cells slots Qs (F0 m pc ls (r.map (am_cv ad)).toList))
    (hok : ax_ok y pc I = true) (hF : am_op (ax_E xl xs) C Q pc I (am_Xs p l e R s m args below meth c0 Qs D ax_cl kA ax_ft A ad0 n0 mc ms (ax_ml y)) L S u b c) : (am_Xs p l e R s m args below meth c0 Qs D ax_cl kA ax_ft A ad0 n0 mc ms (ax_ml y)) pc L S u b c := by
  have hU : ∀ w, ax_in w = true → w ∈ Ts := fun w h => hUT _ (ax_inU h)
  have hts : ∀ w ∈ Ts, w.before args s = true := cx.2.2.2.2.1
  obtain ⟨op, i, j, z, nx⟩ := I
  match op, hok, hF with
  | 0, hok, hF => exact as_push cx ((of_decide_eq_true hok).imp id (Or.imp id (Or.imp id (fun h => ⟨h.1, h.2.1, hU _ h.2.2.1, h.2.2.2⟩)))) hF
  | 1, hok, hF => exact as_iload cx (of_decide_eq_true hok) hF
  | 2, hok, hF => exact as_aload cx (of_decide_eq_true hok) hF
  | 3, hok, hF => exact as_lload cx (of_decide_eq_true hok) hF
  | 4, hok, hF => exact as_istore cx (of_decide_eq_true hok) hF
  | 5, hok, hF => exact as_astore cx (of_decide_eq_true hok) hF
  | 6, hok, hF => exact as_lstore cx (of_decide_eq_true hok) hF
  | 7, hok, hF => exact as_iinc cx (of_decide_eq_true hok) hF
  | 8, hok, hF => exact as_iadd cx (of_decide_eq_true hok) hF
  | 9, hok, hF => exact as_isub cx (of_decide_eq_true hok) hF
  | 10, hok, hF => exact as_imul cx (of_decide_eq_true hok) hF
  | 11, hok, hF => exact as_idiv cx (of_decide_eq_true hok) hF
  | 12, hok, hF => exact as_irem cx (of_decide_eq_true hok) hF
  | 13, hok, hF => exact as_iand cx (of_decide_eq_true hok) hF
  | 14, hok, hF => exact as_if cx (of_decide_eq_true hok) hF
  | 15, hok, hF => exact as_icmp cx (of_decide_eq_true hok) hF
  | 16, hok, hF => exact as_goto cx (of_decide_eq_true hok) hF
  | 17, hok, hF =>
    simp only [ax_ok] at hok
    split at hok
    · rename_i C9 T9 N9 hc
      simp only [Bool.and_eq_true, decide_eq_true_eq] at hok
      obtain ⟨⟨⟨⟨h1, h2⟩, h3⟩, h4⟩, h5⟩ := hok
      exact as_getI cx C9 T9 N9 hc h1 (hU _ h2) h3 h4 h5 hF
    · cases hok
  | 18, hok, hF =>
    simp only [ax_ok] at hok
    split at hok
    · rename_i C9 T9 N9 hc
      simp only [Bool.and_eq_true, decide_eq_true_eq] at hok
      obtain ⟨⟨⟨⟨h1, h2⟩, h3⟩, h4⟩, h5⟩ := hok
      exact as_getR cx C9 T9 N9 hc h1 (hU _ h2) h3 h4 h5 hF
    · cases hok
  | 19, hok, hF =>
    simp only [ax_ok] at hok
    split at hok
    · rename_i C9 T9 N9 hc
      simp only [Bool.and_eq_true, decide_eq_true_eq] at hok
      obtain ⟨⟨⟨⟨⟨⟨h1, h2⟩, h3⟩, h4⟩, h5⟩, h6⟩, h7⟩ := hok
      exact as_putI cx C9 T9 N9 hc h1 (hU _ h2) h3 h4 (h5.imp id fun h => ⟨h.1, hnx h.2.1, h.2.2⟩) h6 h7 hF
    · cases hok
  | 20, hok, hF =>
    simp only [ax_ok] at hok
    split at hok
    · rename_i C9 T9 N9 hc
      simp only [Bool.and_eq_true, decide_eq_true_eq] at hok
      obtain ⟨⟨⟨⟨⟨⟨h1, h2⟩, h3⟩, h4⟩, h5⟩, h6⟩, h7⟩ := hok
      exact as_putZ cx C9 T9 N9 hc h1 (hU _ h2) h3 h4 (h5.imp id fun h => ⟨h.1, hnx h.2.1, h.2.2⟩) h6 h7 hF
    · cases hok
  | 21, hok, hF =>
    simp only [ax_ok] at hok
    split at hok
    · rename_i C9 T9 N9 hc
      simp only [Bool.and_eq_true, decide_eq_true_eq] at hok
      obtain ⟨⟨⟨⟨⟨h1, h2⟩, h3⟩, h4⟩, h5⟩, h6⟩ := hok
      exact as_putR cx C9 T9 N9 hc h1 (hU _ h2) h3 (h4.imp id fun h => ⟨h.1, hnx h.2.1, h.2.2⟩) h5 h6 hF
    · cases hok
  | 22, hok, hF => exact as_iald cx (of_decide_eq_true hok) hF
  | 23, hok, hF => exact as_zald cx (of_decide_eq_true hok) hF
  | 24, hok, hF => exact as_aald cx (of_decide_eq_true hok) hF
  | 25, hok, hF => exact as_iast cx (of_decide_eq_true hok) hF
  | 26, hok, hF => exact as_zast cx (of_decide_eq_true hok) hF
  | 27, hok, hF => exact as_alen cx (of_decide_eq_true hok) hF
  | 28, hok, hF =>
    simp only [ax_ok] at hok
    simp only [Bool.and_eq_true, Bool.or_eq_true, decide_eq_true_eq] at hok
    obtain ⟨⟨⟨⟨⟨⟨h1, h2⟩, h3⟩, h4⟩, h5⟩, h6⟩, h7, rfl⟩ := hok
    have hF : ao_call i j (ax_kc i) C (pc + 3) (am_Xs p l e R s m args below meth c0 Qs D ax_cl kA ax_ft A ad0 n0 mc ms (ax_ml y)) L S u b c := hF
    unfold ao_call at hF
    split at hF
    · rename_i hcond
      refine as_scall (y := ax_nm i) (bytes := ax_by i) (maxL := ax_ml i) (ret := ax_rt i) (ws := ax_ws i) (rm := ax_rm d i) cx ax_nwok hcond (fun ad sz => hC i _ u _ h1 hF ad sz) ?_ h7
      have hm := ax_mlb i h1
      have hRR : (ax_rm d i).frames + 1 ≤ R.frames ∧ 8 + (ax_ml i + 11) + (ax_rm d i).locals ≤ R.locals := ⟨hR1, by show 8 + (ax_ml i + 11) + 40 * d ≤ _; omega⟩
      rcases h6 with h6 | h6
      · exact Or.inl ⟨callB_of j hts (ax_good hUT h1) rfl rfl rfl (hts _ (hU _ h5)) (hts _ (hU _ h6)) ⟨h2.1, h2.2, h3⟩ hRR, hts _ (hU _ h4)⟩
      · exact Or.inr ⟨ax_host, va_cnB j hts (ax_good hUT h1) rfl rfl rfl (cx.2.2.2.2.2.2.1.2.1 _ h6) (hts _ (hU _ h5)) ⟨h2.1, h2.2, h3⟩ hRR, hts _ (hU _ h4), trivial⟩
    · exact hF.elim
  | 29, hok, hF =>
    simp only [ax_ok] at hok
    simp only [Bool.and_eq_true, Bool.or_eq_true, decide_eq_true_eq] at hok
    obtain ⟨⟨⟨⟨⟨⟨⟨⟨h1, h2⟩, h3⟩, h4⟩, h5⟩, h6⟩, h7⟩, rfl⟩, h8⟩ := hok
    have hF : ao_vcall i j (ax_rc i) (ax_kc i) C (pc + 3) (am_Xs p l e R s m args below meth c0 Qs D ax_cl kA ax_ft A ad0 n0 mc ms (ax_ml y)) L S u b c := hF
    unfold ao_vcall at hF
    split at hF
    · rename_i a As hAs
      split at hF
      · rename_i t' n rs hu
        split at hF
        · rename_i ht
          subst ht
          unfold ao_call at hF
          split at hF
          · rename_i hcond
            obtain ⟨⟨C9, T9, N9⟩, hc, hcn⟩ := Option.map_eq_some_iff.mp h7
            have hcn : C9 = (ax_nm i).cls := hcn
            subst hcn
            have hm := ax_mlb i h1
            have hRR : (ax_rm d i).frames + 1 ≤ R.frames ∧ 8 + (ax_ml i + 11) + (ax_rm d i).locals ≤ R.locals := ⟨hR1, by show 8 + (ax_ml i + 11) + 40 * d ≤ _; omega⟩
            refine as_vcall (z := z) (y := ax_nm i) (bytes := ax_by i) (maxL := ax_ml i) (ret := ax_rt i) (ws := ax_ws i) (rm := ax_rm d i) cx ax_nwok hAs hu hc hcond (fun ad sz => hC i _ u _ h1 hF ad sz) ?_
            rcases h8 with ⟨⟨h8, h9⟩, h10⟩ | ⟨⟨⟨h8, h9⟩, h10⟩, h11⟩
            · exact Or.inl ⟨⟨callB_of (j - 1) hts (ax_good hUT h1) rfl rfl rfl (hts _ (hU _ h6)) (hts _ (hU _ h8)) ⟨h2.1, h2.2, h3⟩ hRR, hts _ (hU _ h5), hts _ (hU _ h9)⟩, h10⟩
            · refine Or.inr ⟨h9, ?_, h11⟩
              rcases h10 with h10 | h10
              · exact Or.inl ⟨callB_of (j - 1) hts (ax_good hUT h1) (by rw [ax_ws, h9]) rfl rfl (hts _ (hU _ h6)) (hts _ (hU _ h10)) ⟨h2.1, h2.2, h3⟩ hRR, h8, hts _ (hU _ h5)⟩
              · exact Or.inr ⟨ax_host, va_cnB (j - 1) hts (ax_good hUT h1) (by rw [ax_ws, h9]) rfl rfl (cx.2.2.2.2.2.2.1.2.1 _ h10) (hts _ (hU _ h6)) ⟨h2.1, h2.2, h3⟩ hRR, h8, hts _ (hU _ h5)⟩
          · exact hF.elim
        · exact hF.elim
      · exact hF.elim
    · exact hF.elim
  | 30, hok, hF =>
    have hF : ao_ret Q S u := hF
    unfold ao_ret at hF
    split at hF
    · intro ad H locs cells slots ls hl hR
      exact hret none u b c pc ad H locs cells slots ls hF hR (Or.inl ⟨rfl, (of_decide_eq_true hok).1, (of_decide_eq_true hok).2⟩)
    · exact hF.elim
  | 31, hok, hF =>
    have hF : ao_iret Q S u := hF
    unfold ao_iret at hF
    split at hF
    · rename_i v _h _h2
      intro ad H locs cells slots ls hl hR
      exact hret (some (.int v)) u b c pc ad H locs cells slots ls hF hR (Or.inr (Or.inl ⟨v, rfl, (of_decide_eq_true hok).1, Or.inl (of_decide_eq_true hok).2⟩))
    · exact hF.elim
  | 32, hok, hF =>
    have hF : ao_zret Q S u := hF
    unfold ao_zret at hF
    split at hF
    · rename_i v _h _h2
      intro ad H locs cells slots ls hl hR
      exact hret (some (.int v)) u b c pc ad H locs cells slots ls hF.2 hR (Or.inr (Or.inl ⟨v, rfl, (of_decide_eq_true hok).1, Or.inr ⟨(of_decide_eq_true hok).2, hF.1⟩⟩))
    · exact hF.elim
  | 33, hok, hF =>
    have hF : ao_aret Q S u := hF
    unfold ao_aret at hF
    split at hF
    · rename_i v _h _h2
      intro ad H locs cells slots ls hl hR
      exact hret (some (.ref v)) u b c pc ad H locs cells slots ls hF hR (Or.inr (Or.inr (Or.inl ⟨v, rfl, (of_decide_eq_true hok).1, (of_decide_eq_true hok).2⟩)))
    · exact hF.elim
  | 34, hok, hF =>
    have hF : ao_lret Q S u := hF
    unfold ao_lret at hF
    split at hF
    · rename_i v _h _h2
      intro ad H locs cells slots ls hl hR
      exact hret (some (.long v)) u b c pc ad H locs cells slots ls hF hR (Or.inr (Or.inr (Or.inr ⟨v, rfl, (of_decide_eq_true hok).1, (of_decide_eq_true hok).2⟩)))
    · exact hF.elim
  | 35, hok, hF =>
    simp only [ax_ok] at hok
    split at hok
    · rename_i C9 T9 N9 hc
      simp only [Bool.and_eq_true, decide_eq_true_eq] at hok
      obtain ⟨⟨⟨⟨h1, h2⟩, h3⟩, h4⟩, h5⟩ := hok
      exact as_new cx C9 T9 N9 hc h1 (hU _ h2) (hU _ h3) (hU _ h4) h5 hF
    · cases hok
  | 36, hok, hF =>
    simp only [ax_ok] at hok
    simp only [Bool.and_eq_true, Bool.or_eq_true, decide_eq_true_eq] at hok
    rcases hok with ⟨⟨rfl, h2⟩, h3⟩ | ⟨⟨rfl, h2⟩, h3⟩
    · exact as_newi cx (hU _ h2) h3 hF
    · exact as_newz cx (hU _ h2) h3 hF
  | 37, hok, hF =>
    simp only [ax_ok] at hok
    simp only [Bool.and_eq_true, decide_eq_true_eq] at hok
    obtain ⟨⟨h1, h2⟩, h3⟩ := hok
    exact as_newg cx (hU _ h1) (hU _ h2) h3 hF
  | 38, hok, hF => exact as_dup cx (of_decide_eq_true hok) hF
  | 39, hok, hF => exact as_pop cx (of_decide_eq_true hok) hF
  | 40, hok, hF => exact as_dupx1 cx (of_decide_eq_true hok) hF
  | 41, hok, hF => exact as_dup2 cx (of_decide_eq_true hok) hF
  | 42, hok, hF => exact as_pushl cx ((of_decide_eq_true hok).imp id (Or.imp id (fun h => ⟨h.1, h.2.1, hU _ h.2.2.1, h.2.2.2⟩))) hF
  | 43, hok, hF => exact as_i2l cx (of_decide_eq_true hok) hF
  | 44, hok, hF => exact as_l2i cx (of_decide_eq_true hok) hF
  | 45, hok, hF => exact as_ladd cx (of_decide_eq_true hok) hF
  | 46, hok, hF => exact as_lsub cx (of_decide_eq_true hok) hF
  | 47, hok, hF => exact as_lmul cx (of_decide_eq_true hok) hF
  | 48, hok, hF => exact as_ldiv cx (of_decide_eq_true hok) hF
  | 49, hok, hF => exact as_lcmp cx (of_decide_eq_true hok) hF
  | 50, hok, hF =>
    simp only [ax_ok] at hok
    simp only [Bool.and_eq_true, decide_eq_true_eq] at hok
    obtain ⟨⟨h1, h2⟩, h3⟩ := hok
    exact as_gets cx h1 (hU _ h2) h3 hF
  | 51, hok, hF => exact as_sld cx (of_decide_eq_true hok) hF
  | 52, hok, hF => exact as_slen cx (of_decide_eq_true hok) hF
  | 53, hok, hF =>
    simp only [ax_ok] at hok
    simp only [Bool.and_eq_true, decide_eq_true_eq] at hok
    obtain ⟨⟨⟨h1, h2⟩, h3⟩, h4⟩ := hok
    exact as_max cx (hU _ h1) (hU _ h2) (hU _ h3) (hUT _ ax_wmax) h4 hF
  | 54, hok, hF =>
    simp only [ax_ok] at hok
    simp only [Bool.and_eq_true, decide_eq_true_eq] at hok
    obtain ⟨⟨⟨h1, h2⟩, h3⟩, h4⟩ := hok
    exact as_min cx (hU _ h1) (hU _ h2) (hU _ h3) (hUT _ ax_wmin) h4 hF
  | 55, hok, hF =>
    simp only [ax_ok] at hok
    simp only [Bool.and_eq_true, decide_eq_true_eq] at hok
    obtain ⟨⟨⟨h1, h2⟩, h3⟩, h4⟩ := hok
    exact as_abs cx (hU _ h1) (hU _ h2) (hU _ h3) (hUT _ ax_wabs) h4 hF
  | 56, hok, hF =>
    simp only [ax_ok] at hok
    simp only [Bool.and_eq_true, decide_eq_true_eq] at hok
    obtain ⟨⟨⟨h1, h2⟩, h3⟩, h4⟩ := hok
    exact as_minl cx (hU _ h1) (hU _ h2) (hU _ h3) (hUT _ ax_wminl) h4 hF
  | 57, hok, hF =>
    simp only [ax_ok] at hok
    simp only [Bool.and_eq_true, decide_eq_true_eq] at hok
    obtain ⟨⟨⟨⟨h1, h2⟩, h3⟩, h4⟩, h5⟩ := hok
    exact as_copy cx (hU _ h1) (hU _ h2) (hU _ h3) (hU _ h4) h5 hF
  | 58, hok, hF =>
    simp only [ax_ok] at hok
    simp only [Bool.and_eq_true, decide_eq_true_eq] at hok
    obtain ⟨⟨h1, h2⟩, h3⟩ := hok
    exact as_oini cx (hU _ h1) (hU _ h2) (hUT _ ax_woini) h3 hF
  | 59, hok, hF =>
    simp only [ax_ok] at hok
    simp only [Bool.and_eq_true, decide_eq_true_eq] at hok
    exact as_xld cx (hlg hok.1) hok.2 hF
  | 60, hok, hF =>
    simp only [ax_ok] at hok
    simp only [Bool.and_eq_true, decide_eq_true_eq] at hok
    exact as_xlen cx (hlg hok.1) hok.2 hF
  | 61, hok, hF =>
    have hF : ao_switch (ax_sw pc) (am_Xs p l e R s m args below meth c0 Qs D ax_cl kA ax_ft A ad0 n0 mc ms (ax_ml y)) L S u b c := hF
    obtain ⟨rfl, rfl⟩ := of_decide_eq_true hok
    exact as_switch cx (ax_sw 33) _ _ _ _ _ ax_swd ax_sw1 ax_sw2 hF
  | n + 62, hok, hF => exact False.elim hF
end MASTER
end
section
/-! A METHOD'S MEANING ON THE SMALL MACHINE IS ITS CONTRACT ON THE BIG ONE -/
theorem am_la_len (ad : Nat → Nat) : ∀ As : List Value, (lg_sl (As.map (am_cv ad))).length = (am_la As).length
  | [] => rfl
  | v :: r => by
    have ih := am_la_len ad r
    unfold lg_sl at ih ⊢
    rw [List.map_cons, List.flatMap_cons, List.length_append, ih, am_cv_cat, am_la]
    split <;> simp <;> omega
theorem am_la_in (ad : Nat → Nat) : ∀ (As : List Value) (k i : Nat) (v : Value), am_ld (am_la As) i = some v → (k + i, am_cv ad v) ∈ lv_args k (As.map (am_cv ad))
  | [], k, i, v, h => by simp [am_la, am_ld] at h
  | w :: r, k, i, v, h => by
    rw [List.map_cons, lv_args, am_cv_cat]
    rw [am_la] at h
    by_cases hw : w.category = 2
    · rw [if_pos hw] at h
      rw [if_pos hw]
      match i, h with
      | 0, h =>
        rw [am_ld_0] at h
        cases h
        exact List.mem_cons_self
      | 1, h => rw [am_ld_s, am_ld_0] at h; cases h
      | i + 2, h =>
        rw [am_ld_s, am_ld_s] at h
        have := am_la_in ad r (k + 2) i v h
        rw [show k + (i + 2) = k + 2 + i by omega]
        exact List.mem_cons_of_mem _ this
    · rw [if_neg hw] at h
      rw [if_neg hw]
      match i, h with
      | 0, h =>
        rw [am_ld_0] at h
        cases h
        exact List.mem_cons_self
      | i + 1, h =>
        rw [am_ld_s] at h
        have := am_la_in ad r (k + 1) i v h
        rw [show k + (i + 1) = k + 1 + i by omega]
        exact List.mem_cons_of_mem _ this
theorem am_lo_ld {n i : Nat} {As : List Value} {v : Value} (h : am_ld (am_lo n As) i = some v) : am_ld (am_la As) i = some v := by
  unfold am_ld am_lo at *
  by_cases hi : i < (am_la As).length
  · rw [List.getElem?_append_left hi] at h
    exact h
  · rw [List.getElem?_append_right (by omega)] at h
    rw [List.getElem?_replicate] at h
    split at h <;> cases h
theorem am_entry {ad : Nat → Nat} {As : List Value} {n : Nat} (h : (am_la As).length ≤ n) : lv_has ((lg_sl (As.map (am_cv ad)) ++ List.replicate (n - (lg_sl (As.map (am_cv ad))).length) Slot.unset).toArray) n (am_kn ad (am_lo n As)) := by
  have hl := lv_entry (As.map (am_cv ad)) (n := n) (by rw [am_la_len]; exact h)
  refine am_has_mem hl fun q hq => ?_
  obtain ⟨v, h1, h2⟩ := am_kn_of hq
  have h3 := am_la_in ad As 0 q.1 v (am_lo_ld h1)
  rw [Nat.zero_add] at h3
  rw [show q = (q.1, am_cv ad v) from Prod.ext rfl h2]
  exact h3
set_option maxHeartbeats 4000000 in
set_option maxRecDepth 100000 in
theorem ax_met {l : Launch} {D : va_G} {kA : Nat → ClassId} {d : Nat} {C : am_C} {xl : Nat} {xs : Nat → Int32} (hC : ax_snd l D kA d C) : ax_snd l D kA (d + 1) (fun y As u P => (am_la As).length ≤ ax_ml y ∧ am_wp (ax_E xl xs) (ax_cd y) C P 0 (am_lo (ax_ml y) As) [] u (ax_kc y).1 (ax_kc y).2) := by
  intro y As u P hy hwp ad sz
  obtain ⟨hlen0, hwp⟩ := hwp
  refine Met.ofW (cc := ax_by y) (maxL := ax_ml y) (ret := ax_rt y) (ax_plain y hy) rfl ?_
  intro p e s m args below meth c0 s₁ B hml hv
  obtain ⟨rfl, hsz, hP, hD0, hAm, hlen⟩ := hv
  have hx := B.exec
  have hb := B.bytes
  have hr := B.returns
  have hts := atoms_spec (ws := ax_ws y) B.pre
  have hown : s.vm.findClass (ax_nm y).cls = some m.cls := findClass_of_methodNamed B.named
  have hlocks := B.notSynchronized
  have hnm : meth.name = (ax_nm y).name := (name_of_methodNamed B.named B.method).1
  subst hsz
  have hD := hD0.self (sz := s.heap.size)
  generalize hAe : va_A (am_wl kA ax_ft ad u) s.heap.size = A at hD hAm ⊢
  have hA : ∀ q, s.heap.size ≤ q → A q := fun q h => by rw [← hAe]; exact Or.inr h
  have cx : am_Cx p (headSpec (ax_ws y) (ax_rm (d + 1) y)).room s m (As.map (am_cv ad)).toArray meth c0 D ax_cl kA ax_ft A ad (ax_kc y).1 (ax_kc y).2 (ax_ml y) (ax_by y) (ax_nm y).cls (ax_ws y) ax_nw (ax_nm y).name ax_sc ax_ns ax_sn ax_sv false xl xs :=
    ⟨hx, hb, hml, hown, hts, hA, hAm, hnm, by show 1 ≤ d + 1; omega, by show 40 ≤ 40 * (d + 1); omega, Nat.le_refl _, Nat.le_refl _, ax_clok0 (ax_ws y) (fun w h => List.mem_cons_of_mem _ h), fun h => by cases h⟩
  rw [lg_entry_eq]
  have hl := am_entry (ad := ad) (n := ax_ml y) hlen0
  refine hwp (am_Xs p l e (headSpec (ax_ws y) (ax_rm (d + 1) y)).room s m (As.map (am_cv ad)).toArray below meth c0 (MQ below (am_Qc D ax_cl kA ax_ft P u ad s.heap.size (ax_kc y).1) (As.map (am_cv ad)).toArray s (ax_kc y).1 (ax_kc y).2 A) D ax_cl kA ax_ft A ad u.1.length (ax_kc y).1 (ax_kc y).2 (ax_ml y)) ?_ ad s.heap [] 0 0 _ hl ⟨hP, hD, va_S.rf, by omega, by omega, Nat.le_refl _, hlen, fun _ _ => rfl, fun _ => rfl⟩
  intro pc L S u' b c hF
  unfold am_F at hF
  split at hF
  · rename_i I hI
    refine ax_step (y := y) (d := d) cx (fun w h => List.mem_cons_of_mem _ h) (fun h => h) (fun h => absurd h (Nat.ne_of_lt hy)) (Nat.le_refl _) (Nat.le_refl _) hC ?_ (ax_cdok y pc I (Nat.le_of_lt hy) hI) hF
    intro r u2 b2 c2 pc2 ad2 H locs cells slots ls hq hR hrk
    obtain ⟨hP2, hD2, hS2, r1, r2, r3, r4, r5, r6⟩ := hR
    have hpost : ∀ t : State, t.heap = H → s.WarmedH t.vm → am_Qc D ax_cl kA ax_ft P u ad s.heap.size (ax_kc y).1 (As.map (am_cv ad)).toArray s (.returned (r.map (am_cv ad2))) t := by
      intro t ht hW
      rw [am_Qc, hAe]
      exact ⟨⟨r, u2, ad2, rfl, hq, r3, r4, r5, r6, by rw [ht]; exact hP2, hD2⟩, hS2.F ht⟩
    refine W.widen (k := (ax_kc y).1) (n := (ax_kc y).2) (by omega) (by omega) ?_
    rcases hrk with ⟨rfl, h1, h2⟩ | ⟨v, rfl, h1, h2⟩ | ⟨a, rfl, h1, h2⟩ | ⟨v, rfl, h1, h2⟩
    · exact W.vret hx hb (hr.trans h2) hpost hS2.2.2 h1 hlocks
    · rcases h2 with h2 | ⟨h2, h3⟩
      · exact W.iret hx hb (hr.trans h2) hpost hS2.2.2 h1 hlocks
      · exact W.zret hx hb (hr.trans h2) (am_nar_z h3).1 hpost hS2.2.2 h1 hlocks
    · exact W.aret hx hb (hr.trans h2) (Or.inr ⟨_, rfl⟩) (Or.inr ⟨_, rfl⟩) hpost hS2.2.2 h1 hlocks
    · exact W.lret hx hb (hr.trans h2) hpost hS2.2.2 h1 hlocks
  · exact hF.elim
/-- every method, calls at most d deep -/
theorem ax_all {l : Launch} {D : va_G} {kA : Nat → ClassId} {xl : Nat} {xs : Nat → Int32} : ∀ d, ax_snd l D kA d (am_sp (ax_E xl xs) ax_cd ax_ml d)
  | 0 => fun _ _ _ _ _ h => h.elim
  | d + 1 => ax_met (ax_all d)
end
section
/-! THE CLAIM OUT OF ONE WALK OF THE LAW'S BODY. Your part is whole_start (and what it stands on); all else here is the same for every law, but numbers. -/
def R_law : String := "AdvisoryMatchLaw"
def lw_P (b : Addr) (xs : List Int32) (args : Array Value) (s : State) : Prop := args = #[.ref b] ∧ s.IntsAt b xs ∧ xs.length ≤ 3584 ∧ (Jvm.Cond.and given_1 narrow_1).before args s = true
def lw_Q (_ : Array Value) (s : State) (o : Outcome) (t : State) : Prop := o = .returned (some (.int 1)) ∧ Framed s o t [] 600000 7302250
def lw_Z (below : List Frame) (a : Array Value) (s : State) : State → Prop := fun t => ∃ o, t.status = .running ∧ Ended t below o ∧ lw_Q a s o t
/-- the law's own end, with 1 on the stack, nothing written that was there before, its room as the claim has it -/
theorem lw_ret {p : Program} {l : Launch} {e : Env} {s : State} {m : MethodId} {below : List Frame} {meth : Method} {c : Code} {b : Nat} (hx : p.tables.exec = Jvm.exec) (hb : c.code = code) (hr : meth.sig.returnType = ret) (hlocks : meth.locks = false) {pc : Nat} {H : Heap} {ls : Array Slot} (hdg : decode code pc = .ok (.ireturn, 1)) : W p l e room_1 s m #[Value.ref b] below meth c H [] 600000 7302250 (lw_Z below #[Value.ref b] s) (F0 m pc ls [.int 1]) := by
  intro T hT X
  obtain ⟨fs, hret, hrun, hended, hW, hframe⟩ := X.leave (v := some (.int 1)) (hlocks := hlocks) (fun h => by rw [hr] at h; cases h)
  have hmeth' : T.vm.method? m = some meth := X.method'
  refine ⟨T.setFrames fs, ?_, .returned (some (.int 1)), hrun, hended, rfl, ⟨_, rfl⟩, hW, hframe⟩
  jvm_step X.here [X.here.top, hx, hb, hdg, hmeth', hr, ret, narrow_b1]
  (try refine ⟨rfl, ?_⟩); (try refine ⟨rfl, ?_⟩)
  first | (intro acts; rw [hret _ acts rfl rfl rfl]) | rw [hret _ _ rfl rfl rfl]
  exact Steps.refl _
/-- what holds at the law's entry: the machine, the code, the tables' words (any of lw_tbl by 'hts w (by decide +kernel)'), the script of L ints xs at the cell b, what the Statement gives of the start (any of its parts by flat_of_before) -/
def lw_At (p : Program) (s : State) (m : MethodId) (meth : Method) (c : Code) (b L : Nat) (xs : Nat → Int32) : Prop :=
  p.tables.exec = Jvm.exec ∧ c.code = code ∧ meth.sig.returnType = ret ∧ c.maxLocals = 4 ∧ s.vm.findClass R_law = some m.cls ∧ (∀ w ∈ lw_tbl, w.before #[Value.ref b] s = true) ∧ va_X b L xs s s.heap ∧ b < s.heap.size ∧ meth.locks = false ∧ (Jvm.Cond.and given_1 narrow_1).before #[Value.ref b] s = true

set_option maxRecDepth 100000 in
theorem ax_nwin : ∀ w ∈ ax_nw, w ∈ lw_tbl := by decide +kernel
theorem ax_st0 {args : Array Value} {s : State} {A : Nat → Prop} (hgv : (Jvm.Cond.and given_1 narrow_1).before args s = true) (hA : ∀ a : Nat, a < s.heap.size → ¬ A a) : ∃ t : Nat, (Term.static "AdvisoryMatch$Severity" "REACHES" "[I").eval args s none [] s = some (.ref t) ∧ va_T .int t (ax_sn 0) (fun j => .int (ax_sv 0 j)) A s s.heap := by
  have hs := flat_of_before _ hgv
  refine va_Tof (tm := (Term.static "AdvisoryMatch$Severity" "REACHES" "[I")) (N := 4) (by decide) (hs _ (by decide +kernel)) (va_eqt (z := 4) (hs _ (by decide +kernel))) ?_ hA
  intro j hj
  match j, hj with
  | 0, _ => exact va_eqt (t := Term.elem (Term.static "AdvisoryMatch$Severity" "REACHES" "[I") (.int 0)) (z := 85) (hs _ (by decide +kernel))
  | 1, _ => exact va_eqt (t := Term.elem (Term.static "AdvisoryMatch$Severity" "REACHES" "[I") (.int 1)) (z := 62) (hs _ (by decide +kernel))
  | 2, _ => exact va_eqt (t := Term.elem (Term.static "AdvisoryMatch$Severity" "REACHES" "[I") (.int 2)) (z := 55) (hs _ (by decide +kernel))
  | 3, _ => exact va_eqt (t := Term.elem (Term.static "AdvisoryMatch$Severity" "REACHES" "[I") (.int 3)) (z := 20) (hs _ (by decide +kernel))
  | n + 4, h => exact absurd h (by omega)
theorem ax_st1 {args : Array Value} {s : State} {A : Nat → Prop} (hgv : (Jvm.Cond.and given_1 narrow_1).before args s = true) (hA : ∀ a : Nat, a < s.heap.size → ¬ A a) : ∃ t : Nat, (Term.static "AdvisoryMatch$Severity" "EASES" "[I").eval args s none [] s = some (.ref t) ∧ va_T .int t (ax_sn 1) (fun j => .int (ax_sv 1 j)) A s s.heap := by
  have hs := flat_of_before _ hgv
  refine va_Tof (tm := (Term.static "AdvisoryMatch$Severity" "EASES" "[I")) (N := 2) (by decide) (hs _ (by decide +kernel)) (va_eqt (z := 2) (hs _ (by decide +kernel))) ?_ hA
  intro j hj
  match j, hj with
  | 0, _ => exact va_eqt (t := Term.elem (Term.static "AdvisoryMatch$Severity" "EASES" "[I") (.int 0)) (z := 77) (hs _ (by decide +kernel))
  | 1, _ => exact va_eqt (t := Term.elem (Term.static "AdvisoryMatch$Severity" "EASES" "[I") (.int 1)) (z := 44) (hs _ (by decide +kernel))
  | n + 2, h => exact absurd h (by omega)
theorem ax_st2 {args : Array Value} {s : State} {A : Nat → Prop} (hgv : (Jvm.Cond.and given_1 narrow_1).before args s = true) (hA : ∀ a : Nat, a < s.heap.size → ¬ A a) : ∃ t : Nat, (Term.static "AdvisoryMatch$Severity" "RIGHTS" "[I").eval args s none [] s = some (.ref t) ∧ va_T .int t (ax_sn 2) (fun j => .int (ax_sv 2 j)) A s s.heap := by
  have hs := flat_of_before _ hgv
  refine va_Tof (tm := (Term.static "AdvisoryMatch$Severity" "RIGHTS" "[I")) (N := 3) (by decide) (hs _ (by decide +kernel)) (va_eqt (z := 3) (hs _ (by decide +kernel))) ?_ hA
  intro j hj
  match j, hj with
  | 0, _ => exact va_eqt (t := Term.elem (Term.static "AdvisoryMatch$Severity" "RIGHTS" "[I") (.int 0)) (z := 85) (hs _ (by decide +kernel))
  | 1, _ => exact va_eqt (t := Term.elem (Term.static "AdvisoryMatch$Severity" "RIGHTS" "[I") (.int 1)) (z := 62) (hs _ (by decide +kernel))
  | 2, _ => exact va_eqt (t := Term.elem (Term.static "AdvisoryMatch$Severity" "RIGHTS" "[I") (.int 2)) (z := 27) (hs _ (by decide +kernel))
  | n + 3, h => exact absurd h (by omega)
theorem ax_st3 {args : Array Value} {s : State} {A : Nat → Prop} (hgv : (Jvm.Cond.and given_1 narrow_1).before args s = true) (hA : ∀ a : Nat, a < s.heap.size → ¬ A a) : ∃ t : Nat, (Term.static "AdvisoryMatch$Severity" "HELPS" "[I").eval args s none [] s = some (.ref t) ∧ va_T .int t (ax_sn 3) (fun j => .int (ax_sv 3 j)) A s s.heap := by
  have hs := flat_of_before _ hgv
  refine va_Tof (tm := (Term.static "AdvisoryMatch$Severity" "HELPS" "[I")) (N := 2) (by decide) (hs _ (by decide +kernel)) (va_eqt (z := 2) (hs _ (by decide +kernel))) ?_ hA
  intro j hj
  match j, hj with
  | 0, _ => exact va_eqt (t := Term.elem (Term.static "AdvisoryMatch$Severity" "HELPS" "[I") (.int 0)) (z := 85) (hs _ (by decide +kernel))
  | 1, _ => exact va_eqt (t := Term.elem (Term.static "AdvisoryMatch$Severity" "HELPS" "[I") (.int 1)) (z := 62) (hs _ (by decide +kernel))
  | n + 2, h => exact absurd h (by omega)
theorem ax_st4 {args : Array Value} {s : State} {A : Nat → Prop} (hgv : (Jvm.Cond.and given_1 narrow_1).before args s = true) (hA : ∀ a : Nat, a < s.heap.size → ¬ A a) : ∃ t : Nat, (Term.static "AdvisoryMatch$Severity" "HARMLESS" "[I").eval args s none [] s = some (.ref t) ∧ va_T .int t (ax_sn 4) (fun j => .int (ax_sv 4 j)) A s s.heap := by
  have hs := flat_of_before _ hgv
  refine va_Tof (tm := (Term.static "AdvisoryMatch$Severity" "HARMLESS" "[I")) (N := 3) (by decide) (hs _ (by decide +kernel)) (va_eqt (z := 3) (hs _ (by decide +kernel))) ?_ hA
  intro j hj
  match j, hj with
  | 0, _ => exact va_eqt (t := Term.elem (Term.static "AdvisoryMatch$Severity" "HARMLESS" "[I") (.int 0)) (z := 100) (hs _ (by decide +kernel))
  | 1, _ => exact va_eqt (t := Term.elem (Term.static "AdvisoryMatch$Severity" "HARMLESS" "[I") (.int 1)) (z := 78) (hs _ (by decide +kernel))
  | 2, _ => exact va_eqt (t := Term.elem (Term.static "AdvisoryMatch$Severity" "HARMLESS" "[I") (.int 2)) (z := 44) (hs _ (by decide +kernel))
  | n + 3, h => exact absurd h (by omega)
set_option maxHeartbeats 4000000 in
set_option maxRecDepth 100000 in
theorem ax_whole {p : Program} {e : Env} {s : State} {m : MethodId} {below : List Frame} {meth : Method} {c : Code} (l : Launch) {b L : Nat} {xs : Nat → Int32} (C0 : lw_At p s m meth c b L xs)
    (hwp : am_wp (ax_E L xs) (ax_cd ax_law) (am_sp (ax_E L xs) ax_cd ax_ml 60) (fun r _ => r = some (.int 1)) 0 (am_lo 4 [.ref am_xb]) [] ([], fun _ _ => 0) 600000 7302250) :
    W p l e room_1 s m #[Value.ref b] below meth c s.heap [] 0 0 (lw_Z below #[Value.ref b] s) (entryFrame m ([Value.ref b] : List Value).toArray 4) := by
  obtain ⟨hx, hb, hr, hml, hown, hts, hX, hbl, hlocks, hgv⟩ := C0
  have hA : ∀ q : Nat, s.heap.size ≤ q → (fun q : Nat => s.heap.size ≤ q) q := fun _ h => h
  have hbA : ¬ (fun q : Nat => s.heap.size ≤ q) b := Nat.not_le.mpr hbl
  have hAs : ∀ a : Nat, a < s.heap.size → ¬ (fun q : Nat => s.heap.size ≤ q) a := fun a h => Nat.not_le.mpr h
  have hU : ∀ w ∈ ax_U, w.before #[Value.ref b] s = true := fun w h => hts w (List.mem_filter.mp h).1
  have hI : ∀ w, ax_in w = true → w.before #[Value.ref b] s = true := fun w h => hU w (ax_inU h)
  obtain ⟨c0, iS0, hKn0⟩ := u_known (C := R_AM) (T := F_AM) (N := 9) (n := 9) (ws := ax_U) hU (fun w h => ax_inU (ax_ws_AM w h)) (hI (.instantiable R_AM 9) (by decide +kernel))
  obtain ⟨c1, iS1, hKn1⟩ := u_known (C := R_Packs) (T := F_Packs) (N := 6) (n := 6) (ws := ax_U) hU (fun w h => ax_inU (ax_ws_Packs w h)) (hI (.instantiable R_Packs 6) (by decide +kernel))
  obtain ⟨c2, iS2, hKn2⟩ := u_known (C := R_Needs) (T := F_Needs) (N := 7) (n := 7) (ws := ax_U) hU (fun w h => ax_inU (ax_ws_Needs w h)) (hI (.instantiable R_Needs 7) (by decide +kernel))
  obtain ⟨c3, iS3, hKn3⟩ := u_known (C := R_Advisories) (T := F_Advisories) (N := 8) (n := 8) (ws := ax_U) hU (fun w h => ax_inU (ax_ws_Advisories w h)) (hI (.instantiable R_Advisories 8) (by decide +kernel))
  obtain ⟨c4, iS4, hKn4⟩ := u_known (C := R_Exceptions) (T := F_Exceptions) (N := 1) (n := 1) (ws := ax_U) hU (fun w h => ax_inU (ax_ws_Exceptions w h)) (hI (.instantiable R_Exceptions 1) (by decide +kernel))
  obtain ⟨c5, iS5, hKn5⟩ := u_known (C := R_Ways) (T := F_Ways) (N := 4) (n := 4) (ws := ax_U) hU (fun w h => ax_inU (ax_ws_Ways w h)) (hI (.instantiable R_Ways 4) (by decide +kernel))
  obtain ⟨c6, iS6, hKn6⟩ := u_known (C := R_HitList) (T := F_HitList) (N := 2) (n := 2) (ws := ax_U) hU (fun w h => ax_inU (ax_ws_HitList w h)) (hI (.instantiable R_HitList 2) (by decide +kernel))
  obtain ⟨c7, iS7, hKn7⟩ := u_known (C := R_Planner) (T := F_Planner) (N := 8) (n := 8) (ws := ax_U) hU (fun w h => ax_inU (ax_ws_Planner w h)) (hI (.instantiable R_Planner 8) (by decide +kernel))
  obtain ⟨c8, iS8, hKn8⟩ := u_known (C := R_Model) (T := F_Model) (N := 31) (n := 31) (ws := ax_U) hU (fun w h => ax_inU (ax_ws_Model w h)) (hI (.instantiable R_Model 31) (by decide +kernel))
  obtain ⟨dC, dI, hKc⟩ : ∃ (dC : Nat → ClassId) (dI : Nat → Nat → Nat), ∀ (k : Nat) (q : vw_C), ax_cl[k]? = some q → u_Kn s q.1 q.2.1 q.2.2 (dC k) (dI k) := by
    refine ⟨fun k => if k = 0 then c0 else if k = 1 then c1 else if k = 2 then c2 else if k = 3 then c3 else if k = 4 then c4 else if k = 5 then c5 else if k = 6 then c6 else if k = 7 then c7 else c8, fun k => if k = 0 then iS0 else if k = 1 then iS1 else if k = 2 then iS2 else if k = 3 then iS3 else if k = 4 then iS4 else if k = 5 then iS5 else if k = 6 then iS6 else if k = 7 then iS7 else iS8, ?_⟩
    intro k q hq
    match k, hq with
    | 0, hq => cases hq; exact hKn0
    | 1, hq => cases hq; exact hKn1
    | 2, hq => cases hq; exact hKn2
    | 3, hq => cases hq; exact hKn3
    | 4, hq => cases hq; exact hKn4
    | 5, hq => cases hq; exact hKn5
    | 6, hq => cases hq; exact hKn6
    | 7, hq => cases hq; exact hKn7
    | 8, hq => cases hq; exact hKn8
    | k + 9, hq => simp [ax_cl] at hq
  obtain ⟨aI, kI, coI, hI1, hI2, hI3⟩ := Cond.arrayClass_spec (hI (.arrayClass .int) (by decide +kernel))
  obtain ⟨aZ, kZ, coZ, hZ1, hZ2, hZ3⟩ := Cond.arrayClass_spec (hI (.arrayClass .boolean) (by decide +kernel))
  have hov : (Cond.arrayOver (.array .int)).before #[Value.ref b] s = true := hts _ (by decide +kernel)
  obtain ⟨coG, aG, kG, hG1, -, hG2, hG3, hG4⟩ := arrayOver_specB hov
  obtain ⟨kA, hkA0, hkA1, hkA2⟩ : ∃ kA : Nat → ClassId, kA 0 = aI ∧ kA 1 = aZ ∧ kA 2 = aG := ⟨fun k => if k = 0 then aI else if k = 1 then aZ else aG, rfl, rfl, rfl⟩
  have hK : va_K (dC, dI) ax_cl (am_ty kA) s := by
    refine ⟨hKc, fun k q hq => ?_⟩
    match k, hq with
    | 0, hq =>
      cases hq
      rw [hkA0]
      exact ⟨fun N z => ⟨(fun q hq => by cases hq), kI, hI2, coI, hI3⟩, hI1⟩
    | 1, hq =>
      cases hq
      rw [hkA1]
      exact ⟨fun N z => ⟨(fun q hq => by cases hq), kZ, hZ2, coZ, hZ3⟩, hZ1⟩
    | 2, hq =>
      cases hq
      rw [hkA2]
      exact ⟨fun N z => ⟨(fun q hq => by cases hq), kG, hG2, coG, hG3⟩, hG4⟩
    | k + 3, hq => simp [am_ty] at hq
  obtain ⟨t0, ht0, hT0⟩ := ax_st0 (A := fun q : Nat => s.heap.size ≤ q) hgv hAs
  have hZ0 : va_Z "AdvisoryMatch$Severity" "REACHES" "[I" (.ref t0) (fun q : Nat => s.heap.size ≤ q) s s.heap := va_Zref (hts _ (by decide +kernel)) (hI (.initialized "AdvisoryMatch$Severity") (by decide +kernel)) ht0 hAs
  obtain ⟨t1, ht1, hT1⟩ := ax_st1 (A := fun q : Nat => s.heap.size ≤ q) hgv hAs
  have hZ1 : va_Z "AdvisoryMatch$Severity" "EASES" "[I" (.ref t1) (fun q : Nat => s.heap.size ≤ q) s s.heap := va_Zref (hts _ (by decide +kernel)) (hI (.initialized "AdvisoryMatch$Severity") (by decide +kernel)) ht1 hAs
  obtain ⟨t2, ht2, hT2⟩ := ax_st2 (A := fun q : Nat => s.heap.size ≤ q) hgv hAs
  have hZ2 : va_Z "AdvisoryMatch$Severity" "RIGHTS" "[I" (.ref t2) (fun q : Nat => s.heap.size ≤ q) s s.heap := va_Zref (hts _ (by decide +kernel)) (hI (.initialized "AdvisoryMatch$Severity") (by decide +kernel)) ht2 hAs
  obtain ⟨t3, ht3, hT3⟩ := ax_st3 (A := fun q : Nat => s.heap.size ≤ q) hgv hAs
  have hZ3 : va_Z "AdvisoryMatch$Severity" "HELPS" "[I" (.ref t3) (fun q : Nat => s.heap.size ≤ q) s s.heap := va_Zref (hts _ (by decide +kernel)) (hI (.initialized "AdvisoryMatch$Severity") (by decide +kernel)) ht3 hAs
  obtain ⟨t4, ht4, hT4⟩ := ax_st4 (A := fun q : Nat => s.heap.size ≤ q) hgv hAs
  have hZ4 : va_Z "AdvisoryMatch$Severity" "HARMLESS" "[I" (.ref t4) (fun q : Nat => s.heap.size ≤ q) s s.heap := va_Zref (hts _ (by decide +kernel)) (hI (.initialized "AdvisoryMatch$Severity") (by decide +kernel)) ht4 hAs
  obtain ⟨ad0, had, hadx⟩ : ∃ ad0 : Nat → Nat, (ad0 (am_sb + 0) = t0 ∧ ad0 (am_sb + 1) = t1 ∧ ad0 (am_sb + 2) = t2 ∧ ad0 (am_sb + 3) = t3 ∧ ad0 (am_sb + 4) = t4) ∧ ad0 am_xb = b := ⟨fun i => if i = am_xb then b else if i = am_sb + 0 then t0 else if i = am_sb + 1 then t1 else if i = am_sb + 2 then t2 else if i = am_sb + 3 then t3 else if i = am_sb + 4 then t4 else 0, ⟨rfl, rfl, rfl, rfl, rfl⟩, rfl⟩
  have hAm : am_Am (dC, dI) ax_cl kA ax_nw ax_sc ax_ns ax_sn ax_sv (fun q : Nat => s.heap.size ≤ q) ad0 s := by
    refine ⟨hK, fun w hw => ?_, hov, fun k hk => ?_⟩
    · have hw2 : w ∈ lw_tbl := ax_nwin w hw
      obtain ⟨a9, i9, x9, h9, rfl⟩ := ax_nwok w hw
      exact va_Nw.of rfl (hts _ hw2)
    · match k, hk with
      | 0, _ => rw [had.1]; exact ⟨hZ0, hT0⟩
      | 1, _ => rw [had.2.1]; exact ⟨hZ1, hT1⟩
      | 2, _ => rw [had.2.2.1]; exact ⟨hZ2, hT2⟩
      | 3, _ => rw [had.2.2.2.1]; exact ⟨hZ3, hT3⟩
      | 4, _ => rw [had.2.2.2.2]; exact ⟨hZ4, hT4⟩
      | n + 5, h => exact absurd h (by unfold ax_ns; omega)
  have cx : am_Cx p room_1 s m #[Value.ref b] meth c (dC, dI) ax_cl kA ax_ft (fun q : Nat => s.heap.size ≤ q) ad0 600000 7302250 (ax_ml ax_law) (ax_by ax_law) (ax_nm ax_law).cls ax_U ax_nw meth.name ax_sc ax_ns ax_sn ax_sv true L xs :=
    ⟨hx, hb, hml, hown, hU, hA, hAm, rfl, by decide, by decide, Nat.le_refl _, Nat.le_refl _, ax_clok0 ax_U (fun w h => h), fun _ => by rw [hadx]; exact ⟨hX, hbl, hbA⟩⟩
  rw [lg_entry_eq]
  have hl := am_entry (ad := ad0) (As := [.ref am_xb]) (n := 4) (by decide)
  have e0 : ([.ref am_xb] : List Value).map (am_cv ad0) = [.ref b] := by show [Value.ref (ad0 am_xb)] = _; rw [hadx]
  rw [e0] at hl
  refine hwp (am_Xs p l e room_1 s m #[Value.ref b] below meth c (lw_Z below #[Value.ref b] s) (dC, dI) ax_cl kA ax_ft (fun q : Nat => s.heap.size ≤ q) ad0 0 600000 7302250 (ax_ml ax_law)) ?_ ad0 s.heap [] 0 0 _ hl ⟨fun k q h => by simp [am_wl] at h, ⟨fun i j p q h => by simp [am_wl] at h, fun k q h => by simp [am_wl] at h⟩, va_S.rf, Nat.le_refl _, Nat.le_refl _, Nat.le_refl _, Nat.zero_le _, fun _ _ => rfl, fun _ => rfl⟩
  intro pc L' S u' b' c' hF
  unfold am_F at hF
  split at hF
  · rename_i I hI9
    refine ax_step (y := ax_law) (d := 60) cx (fun w h => h) (fun h => absurd h (by decide)) (fun _ => rfl) (by decide) (by decide) (ax_all 60) ?_ (ax_cdok ax_law pc I (Nat.le_refl _) hI9) hF
    intro r u2 b2 c2 pc2 ad2 H locs cells slots ls hq hR hrk
    obtain ⟨hP2, hD2, hS2, r1, r2, r3, r4, r5, r6⟩ := hR
    subst hq
    refine va_forget (fun q hq => hS2.2.2 q hq) ?_
    refine W.widen (k := 600000) (n := 7302250) (by omega) (by omega) ?_
    rcases hrk with ⟨h0, h1, h2⟩ | ⟨v, h0, h1, h2⟩ | ⟨a, h0, h1, h2⟩ | ⟨v, h0, h1, h2⟩
    · cases h0
    · exact lw_ret hx hb hr hlocks h1
    · cases h0
    · cases h0
  · exact hF.elim
end
section
/-! THE SHAPE after the two constructors (by program), and words for the small machine's proofs -/
def KS : am_Sh := [(3, 9, [some 1, some 13, some 20, some 52, some 66, some 68, some 70, some 84, none]), (4, 6, [some 2, some 3, some 10, some 11, some 12, none]), (1, 6, []), (2, 6, [some 4, some 5, some 6, some 7, some 8, some 9]), (0, 5, []), (0, 5, []), (0, 5, []), (0, 5, []), (0, 5, []), (0, 5, []), (0, 6, []), (0, 6, []), (0, 6, []), (5, 7, [some 14, some 15, some 16, some 17, some 18, some 19, none]), (0, 16, []), (0, 16, []), (0, 16, []), (0, 16, []), (0, 16, []), (1, 16, []), (6, 8, [some 21, some 22, some 35, some 48, some 49, some 50, some 51, none]), (0, 12, []), (2, 12, [some 23, some 24, some 25, some 26, some 27, some 28, some 29, some 30, some 31, some 32, some 33, some 34]), (0, 3, []), (0, 3, []), (0, 3, []), (0, 3, []), (0, 3, []), (0, 3, []), (0, 3, []), (0, 3, []), (0, 3, []), (0, 3, []), (0, 3, []), (0, 3, []), (2, 12, [some 36, some 37, some 38, some 39, some 40, some 41, some 42, some 43, some 44, some 45, some 46, some 47]), (0, 3, []), (0, 3, []), (0, 3, []), (0, 3, []), (0, 3, []), (0, 3, []), (0, 3, []), (0, 3, []), (0, 3, []), (0, 3, []), (0, 3, []), (0, 3, []), (0, 12, []), (0, 12, []), (1, 12, []), (0, 12, []), (7, 1, [some 53]), (2, 12, [some 54, some 55, some 56, some 57, some 58, some 59, some 60, some 61, some 62, some 63, some 64, some 65]), (0, 6, []), (0, 6, []), (0, 6, []), (0, 6, []), (0, 6, []), (0, 6, []), (0, 6, []), (0, 6, []), (0, 6, []), (0, 6, []), (0, 6, []), (0, 6, []), (8, 4, [some 1, some 13, none, some 67]), (0, 6, []), (8, 4, [some 1, some 13, none, some 69]), (0, 6, []), (9, 2, [some 71, none]), (2, 12, [some 72, some 73, some 74, some 75, some 76, some 77, some 78, some 79, some 80, some 81, some 82, some 83]), (0, 6, []), (0, 6, []), (0, 6, []), (0, 6, []), (0, 6, []), (0, 6, []), (0, 6, []), (0, 6, []), (0, 6, []), (0, 6, []), (0, 6, []), (0, 6, []), (10, 8, [some 1, some 13, some 85, some 86, some 87, some 88, none, none]), (1, 30, []), (0, 6, []), (0, 6, []), (0, 6, []), (11, 31, [none, none, some 90, some 91, some 92, some 93, none, some 94, some 95, some 96, some 97, some 98, some 99, none, some 100, some 101, some 102, some 103, some 104, some 105, some 106, some 107, none, some 108, some 109, some 110, some 111, some 112, some 113, none, some 114]), (1, 6, []), (0, 6, []), (0, 30, []), (0, 6, []), (0, 16, []), (0, 16, []), (0, 16, []), (0, 16, []), (0, 16, []), (1, 16, []), (0, 12, []), (0, 12, []), (0, 36, []), (0, 36, []), (0, 84, []), (1, 12, []), (0, 12, []), (0, 72, []), (0, 432, []), (0, 6, []), (1, 6, []), (0, 6, []), (1, 30, []), (0, 6, []), (0, 6, [])]

/-- a method's meaning -/
abbrev SP (xl : Nat) (xs : Nat → Int32) (d : Nat) : am_C := am_sp (ax_E xl xs) ax_cd ax_ml d
theorem li_m1 : Int32.ofInt (-1) = -1 := by decide
theorem li_0 : Int32.ofInt 0 = nI 0 := by decide
theorem li_1 : Int32.ofInt 1 = nI 1 := by decide
theorem li_2 : Int32.ofInt 2 = nI 2 := by decide
theorem li_3 : Int32.ofInt 3 = nI 3 := by decide
theorem li_4 : Int32.ofInt 4 = nI 4 := by decide
theorem li_5 : Int32.ofInt 5 = nI 5 := by decide
theorem li_6 : Int32.ofInt 6 = nI 6 := by decide
theorem li_7 : Int32.ofInt 7 = nI 7 := by decide
theorem li_9 : Int32.ofInt 9 = nI 9 := by decide
theorem li_12 : Int32.ofInt 12 = nI 12 := by decide
theorem li_16 : Int32.ofInt 16 = nI 16 := by decide
theorem li_30 : Int32.ofInt 30 = nI 30 := by decide
theorem li_100 : Int32.ofInt 100 = nI 100 := by decide
theorem up_at (f : Nat → Nat → Int32) (a k : Nat) (x : Int32) (b j : Nat) : am_up f a k x b j = if b = a ∧ j = k then x else f b j := by
  unfold am_up am_cp upd
  by_cases h : b = a
  · subst h
    by_cases h2 : j = k <;> simp [h2]
  · simp [h]
theorem up_s (f : Nat → Nat → Int32) (a k : Nat) (x : Int32) : am_up f a k x a k = x := by rw [up_at, if_pos ⟨rfl, rfl⟩]
theorem up_n {f : Nat → Nat → Int32} {a k : Nat} {x : Int32} {b j : Nat} (h : b ≠ a ∨ j ≠ k) : am_up f a k x b j = f b j := by rw [up_at, if_neg (by omega)]
theorem up_a {f : Nat → Nat → Int32} {a k : Nat} {x : Int32} {b : Nat} (h : b ≠ a) : am_up f a k x b = f b := by
  unfold am_up am_cp
  rw [if_neg h]
theorem up_sa (f : Nat → Nat → Int32) (a k : Nat) (x : Int32) : am_up f a k x a = upd (f a) k x := by
  unfold am_up am_cp
  rw [if_pos rfl]
theorem nar_01 {x : Int32} (h : x = 0 ∨ x = 1) : vp_nar .boolean x = x := by rcases h with rfl | rfl <;> decide
theorem q_eq {Q : am_Q} {r r' : Option Value} {v v' : am_St} (hr : r = r') (hv : v = v') (h : Q r' v') : Q r v := by rw [hr, hv]; exact h
theorem nI_pred1 (n : Nat) : nI (n + 1) - nI 1 = nI n := nI_pred n
section BASE
variable {xl : Nat} {xs : Nat → Int32} {d : Nat} {i : Nat → Nat → Int32} {Q : am_Q} {u : am_St}
theorem k_below {x c : Int32} (n : Nat) (hc : c = nI n) (hn : n < 2 ^ 31) (hd : 1 ≤ d) (h1 : ∀ k, k < n → x = nI k → Q (some (.int 1)) u) (h0 : (x < 0 ∨ nI n ≤ x) → Q (some (.int 0)) u) : SP xl xs d Y_AM_isBelow [.int x, .int c] u Q := by
  subst hc
  obtain ⟨d, rfl⟩ : ∃ q, d = q + 1 := ⟨d - 1, by omega⟩
  refine ⟨Nat.le_of_ble_eq_true rfl, am_go (am_sp_mo _) (fun _ => false) 20 (fun X hX => ?_)⟩
  conv => whnf
  try dsimp only
  rcases pk_ix x hn with hx | hx | ⟨k, hk, hx⟩
  · refine ⟨fun _ => ?_, fun h => absurd hx h⟩
    conv => whnf
    try dsimp only
    exact ⟨Or.inl rfl, h0 (Or.inl hx)⟩
  · refine ⟨fun _ => ?_, fun _ => ?_⟩
    · conv => whnf
      try dsimp only
      exact ⟨Or.inl rfl, h0 (Or.inr hx)⟩
    · conv => whnf
      try dsimp only
      refine ⟨fun _ => ?_, fun h => absurd hx h⟩
      conv => whnf
      try dsimp only
      exact ⟨Or.inl rfl, h0 (Or.inr hx)⟩
  · refine ⟨fun h => absurd h (by rw [hx]; exact nI_pos (by omega)), fun _ => ?_⟩
    conv => whnf
    try dsimp only
    refine ⟨fun h => absurd h (by rw [hx]; exact nI_ge hk hn), fun _ => ?_⟩
    conv => whnf
    try dsimp only
    exact ⟨Or.inr rfl, h1 k hk hx⟩
theorem k_Packs_count (hd : 1 ≤ d) (h : Q (some (.int (i 1 5))) (KS, i)) : SP xl xs d Y_Packs_count [.ref 1] (KS, i) Q := by
  obtain ⟨d, rfl⟩ : ∃ q, d = q + 1 := ⟨d - 1, by omega⟩
  refine ⟨Nat.le_of_ble_eq_true rfl, am_go (am_sp_mo _) (fun _ => false) 20 (fun X hX => ?_)⟩
  conv => whnf
  try dsimp only
  exact h
theorem k_Packs_has {x : Int32} (np : Nat) (hp : i 1 5 = nI np) (hn : np ≤ 6) (hd : 2 ≤ d) (h1 : ∀ k, k < np → x = nI k → Q (some (.int 1)) (KS, i)) (h0 : (x < 0 ∨ nI np ≤ x) → Q (some (.int 0)) (KS, i)) : SP xl xs d Y_Packs_has [.ref 1, .int x] (KS, i) Q := by
  obtain ⟨d, rfl⟩ : ∃ q, d = q + 1 := ⟨d - 1, by omega⟩
  refine ⟨Nat.le_of_ble_eq_true rfl, am_go (am_sp_mo _) (fun _ => false) 20 (fun X hX => ?_)⟩
  conv => whnf
  try dsimp only
  refine k_below np hp (by omega) (by omega) (fun k hk hx => ?_) (fun hx => ?_)
  · conv => whnf
    try dsimp only
    exact ⟨Or.inr rfl, h1 k hk hx⟩
  · conv => whnf
    try dsimp only
    exact ⟨Or.inl rfl, h0 hx⟩
theorem k_Packs_add {x : Int32} (np : Nat) (hp : i 1 5 = nI np) (hn : np ≤ 6) (hd : 1 ≤ d) (h1 : np < 6 → Q (some (.int (nI np))) (KS, am_up (am_up i 2 np (vp_nar .boolean x)) 1 5 (nI (np + 1)))) (h0 : np = 6 → Q (some (.int (-1))) (KS, i)) : SP xl xs d Y_Packs_add [.ref 1, .int x] (KS, i) Q := by
  obtain ⟨d, rfl⟩ : ∃ q, d = q + 1 := ⟨d - 1, by omega⟩
  refine ⟨Nat.le_of_ble_eq_true rfl, am_go (am_sp_mo _) (fun _ => false) 40 (fun X hX => ?_)⟩
  conv => whnf
  try dsimp only
  refine ⟨fun h => ?_, fun h => ?_⟩
  · have hlt : np < 6 := by
      rcases Nat.lt_or_ge np 6 with q | q
      · exact q
      · exact absurd h (by show ¬ i 1 5 < Int32.ofInt 6; rw [hp, li_6]; exact nI_nlt q (by omega))
    conv => whnf
    try dsimp only
    refine ⟨6, [], rfl, by show vp_in (i 1 5) 6; rw [hp]; exact vp_in_nI hlt (by decide), ?_⟩
    conv => whnf
    try dsimp only
    refine q_eq ?_ ?_ (h1 hlt)
    · simp only [hp, up_n, up_s, li_1, nI_add, ne_eq, Nat.reduceEqDiff, not_false_eq_true, true_or, nI_pred1]
    · simp only [hp, up_n, li_1, nI_add, ne_eq, Nat.reduceEqDiff, not_false_eq_true, true_or, nI_clamp (show np < 2 ^ 31 by omega)]
  · conv => whnf
    try dsimp only
    exact h0 (by
      rcases Nat.lt_or_ge np 6 with q | q
      · exact absurd (by show i 1 5 < Int32.ofInt 6; rw [hp, li_6]; exact nI_lt q (by omega)) h
      · omega)
end BASE
end
section
/-! PACKS -/
theorem ks_ver : ∀ p, p < 6 → KS[4 + p]? = some (0, 5, []) := by decide
theorem rg_ver : ∀ p, p < 6 → am_rg [some 4, some 5, some 6, some 7, some 8, some 9] p = some (4 + p) := by decide
theorem nI_m1 {n : Nat} (h : n < 2 ^ 31) : ¬ nI n = -1 := fun e => by
  have := congrArg Int32.toInt e
  rw [nI_toInt h, show (-1 : Int32).toInt = -1 by decide] at this
  omega
theorem nI_inj {a b : Nat} (ha : a < 2 ^ 31) (hb : b < 2 ^ 31) (h : nI a = nI b) : a = b := (nI_eq ha hb).mp h
theorem out_np {x : Int32} {n : Nat} (hn : n < 2 ^ 31) (h : x < 0 ∨ nI n ≤ x) {k : Nat} (hk : k < n) : ¬ x = nI k := fun e => by
  rcases h with h | h
  · rw [e] at h; exact nI_pos (by omega) h
  · rw [e] at h; exact nI_ge hk hn h
/-- the packages: how many, and how many versions each has -/
def PK (i : Nat → Nat → Int32) (np : Nat) (nv : Nat → Nat) : Prop := i 1 5 = nI np ∧ np ≤ 6 ∧ ∀ p, p < 6 → i 10 p = nI (nv p) ∧ nv p ≤ 5
section PACKS
variable {xl : Nat} {xs : Nat → Int32} {d : Nat} {i : Nat → Nat → Int32} {Q : am_Q} {np : Nat} {nv : Nat → Nat}
theorem k_countVersions {x : Int32} (hk : PK i np nv) (hd : 3 ≤ d) (h1 : ∀ p, p < np → x = nI p → Q (some (.int (nI (nv p)))) (KS, i)) (h0 : (x < 0 ∨ nI np ≤ x) → Q (some (.int 0)) (KS, i)) : SP xl xs d Y_Packs_countVersions [.ref 1, .int x] (KS, i) Q := by
  obtain ⟨hp, hn, hv⟩ := hk
  obtain ⟨d, rfl⟩ : ∃ q, d = q + 1 := ⟨d - 1, by omega⟩
  refine ⟨Nat.le_of_ble_eq_true rfl, am_go (am_sp_mo _) (fun _ => false) 20 (fun X hX => ?_)⟩
  conv => whnf
  try dsimp only
  refine k_Packs_has np hp hn (by omega) (fun p hp hx => ?_) (fun hx => ?_)
  · conv => whnf
    try dsimp only
    refine ⟨fun h => absurd h (by decide), fun _ => ?_⟩
    conv => whnf
    try dsimp only
    refine ⟨6, [], rfl, by rw [hx]; exact vp_in_nI (by omega) (by decide), ?_⟩
    conv => whnf
    try dsimp only
    exact q_eq (by rw [hx, nI_clamp (by omega), (hv p (by omega)).1]) rfl (h1 p hp hx)
  · conv => whnf
    try dsimp only
    refine ⟨fun _ => ?_, fun h => absurd rfl h⟩
    conv => whnf
    try dsimp only
    exact h0 hx
theorem k_placeOf {x : Int32} (hk : PK i np nv) (hd : 3 ≤ d) (h1 : ∀ p, p < np → x = nI p → Q (some (.int (i 11 p))) (KS, i)) (h0 : (x < 0 ∨ nI np ≤ x) → Q (some (.int (-1))) (KS, i)) : SP xl xs d Y_Packs_placeOf [.ref 1, .int x] (KS, i) Q := by
  obtain ⟨hp, hn, hv⟩ := hk
  obtain ⟨d, rfl⟩ : ∃ q, d = q + 1 := ⟨d - 1, by omega⟩
  refine ⟨Nat.le_of_ble_eq_true rfl, am_go (am_sp_mo _) (fun _ => false) 20 (fun X hX => ?_)⟩
  conv => whnf
  try dsimp only
  refine k_Packs_has np hp hn (by omega) (fun p hp hx => ?_) (fun hx => ?_)
  · conv => whnf
    try dsimp only
    refine ⟨fun h => absurd h (by decide), fun _ => ?_⟩
    conv => whnf
    try dsimp only
    refine ⟨6, [], rfl, by rw [hx]; exact vp_in_nI (by omega) (by decide), ?_⟩
    conv => whnf
    try dsimp only
    exact q_eq (by rw [hx, nI_clamp (by omega)]) rfl (h1 p hp hx)
  · conv => whnf
    try dsimp only
    refine ⟨fun _ => ?_, fun h => absurd rfl h⟩
    conv => whnf
    try dsimp only
    exact h0 hx
theorem k_versionAt {x y : Int32} (hk : PK i np nv) (hd : 2 ≤ d) (h1 : ∀ p k, p < np → k < nv p → x = nI p → y = nI k → Q (some (.int (i (4 + p) k))) (KS, i)) (h0 : (∀ p k, p < np → k < nv p → ¬ (x = nI p ∧ y = nI k)) → Q (some (.int (-1))) (KS, i)) : SP xl xs d Y_Packs_versionAt [.ref 1, .int x, .int y] (KS, i) Q := by
  obtain ⟨hp, hn, hv⟩ := hk
  obtain ⟨d, rfl⟩ : ∃ q, d = q + 1 := ⟨d - 1, by omega⟩
  refine ⟨Nat.le_of_ble_eq_true rfl, am_go (am_sp_mo _) (fun _ => false) 40 (fun X hX => ?_)⟩
  conv => whnf
  try dsimp only
  refine k_below np hp (by omega) (by omega) (fun p hpp hx => ?_) (fun hx => ?_)
  · have hv1 := hv p (by omega)
    conv => whnf
    try dsimp only
    refine ⟨fun h => absurd h (by decide), fun _ => ?_⟩
    conv => whnf
    try dsimp only
    refine ⟨6, [], rfl, by rw [hx]; exact vp_in_nI (by omega) (by decide), ?_⟩
    conv => whnf
    try dsimp only
    refine k_below (nv p) (by rw [hx, nI_clamp (by omega)]; exact hv1.1) (by omega) (by omega) (fun k hk hy => ?_) (fun hy => ?_)
    · conv => whnf
      try dsimp only
      refine ⟨fun _ => ?_, fun h => absurd h (by decide)⟩
      conv => whnf
      try dsimp only
      refine ⟨6, _, 4 + p, rfl, by rw [hx]; exact vp_in_nI (by omega) (by decide), by rw [hx, nI_clamp (by omega)]; exact rg_ver p (by omega), ?_⟩
      conv => whnf
      try dsimp only
      refine ⟨5, [], ks_ver p (by omega), by rw [hy]; exact vp_in_nI (by omega) (by decide), ?_⟩
      conv => whnf
      try dsimp only
      exact q_eq (by rw [hy, nI_clamp (by omega)]) rfl (h1 p k hpp hk hx hy)
    · conv => whnf
      try dsimp only
      refine ⟨fun h => absurd h (by decide), fun _ => ?_⟩
      conv => whnf
      try dsimp only
      refine h0 fun p' k' hp' hk' e => ?_
      have : p' = p := nI_inj (by omega) (by omega) (e.1.symm.trans hx)
      subst this
      exact out_np (by omega) hy hk' e.2
  · conv => whnf
    try dsimp only
    refine ⟨fun _ => ?_, fun h => absurd rfl h⟩
    conv => whnf
    try dsimp only
    exact h0 fun p k hp' hk' e => out_np (by omega) hx hp' e.1
theorem k_installedVersions (hd : 1 ≤ d) (h : Q (some (.ref 12)) (KS, i)) : SP xl xs d Y_Packs_installedVersions [.ref 1] (KS, i) Q := by
  obtain ⟨d, rfl⟩ : ∃ q, d = q + 1 := ⟨d - 1, by omega⟩
  refine ⟨Nat.le_of_ble_eq_true rfl, am_go (am_sp_mo _) (fun _ => false) 20 (fun X hX => ?_)⟩
  conv => whnf
  try dsimp only
  exact h
theorem k_isInstalledRoot {x : Int32} (hk : PK i np nv) (hr : ∀ p, i 2 p = 0 ∨ i 2 p = 1) (hd : 4 ≤ d) (h1 : ∀ p, p < np → x = nI p → ¬ i 11 p = -1 → i 2 p = 1 → Q (some (.int 1)) (KS, i)) (h0 : (∀ p, p < np → x = nI p → i 11 p = -1 ∨ i 2 p = 0) → Q (some (.int 0)) (KS, i)) : SP xl xs d Y_Packs_isInstalledRoot [.ref 1, .int x] (KS, i) Q := by
  have hn := hk.2.1
  obtain ⟨d, rfl⟩ : ∃ q, d = q + 1 := ⟨d - 1, by omega⟩
  refine ⟨Nat.le_of_ble_eq_true rfl, am_go (am_sp_mo _) (fun _ => false) 30 (fun X hX => ?_)⟩
  conv => whnf
  try dsimp only
  refine k_placeOf hk (by omega) (fun p hpp hx => ?_) (fun hx => ?_)
  · conv => whnf
    try dsimp only
    refine ⟨fun h => ?_, fun h => ?_⟩
    · conv => whnf
      try dsimp only
      exact ⟨Or.inl rfl, h0 fun q hq e => by
        have : q = p := nI_inj (by omega) (by omega) (e.symm.trans hx)
        subst this
        exact Or.inl h⟩
    · conv => whnf
      try dsimp only
      refine ⟨6, [], rfl, by rw [hx]; exact vp_in_nI (by omega) (by decide), ?_⟩
      conv => whnf
      try dsimp only
      rw [hx, nI_clamp (by omega)]
      rcases hr p with e | e
      · rw [e]
        refine ⟨fun _ => ?_, fun h => absurd rfl h⟩
        conv => whnf
        try dsimp only
        exact ⟨Or.inl rfl, h0 fun q hq e' => by
          have : q = p := nI_inj (by omega) (by omega) (e'.symm.trans hx)
          subst this
          exact Or.inr e⟩
      · rw [e]
        refine ⟨fun h => absurd h (by decide), fun _ => ?_⟩
        conv => whnf
        try dsimp only
        exact ⟨Or.inr rfl, h1 p hpp hx h e⟩
  · conv => whnf
    try dsimp only
    refine ⟨fun _ => ?_, fun h => absurd rfl h⟩
    conv => whnf
    try dsimp only
    exact ⟨Or.inl rfl, h0 fun q hq e => absurd e (out_np (by omega) hx hq)⟩
end PACKS
end
section
/-! PACKS: writes -/
theorem PK.fr {i j : Nat → Nat → Int32} {np : Nat} {nv : Nat → Nat} (h : PK i np nv) (h1 : j 1 = i 1) (h2 : j 10 = i 10) : PK j np nv := by
  unfold PK at *
  rw [h1, h2]
  exact h
theorem li_M : Int32.ofInt 1000000 = nI 1000000 := by decide
theorem li_G : Int32.ofInt 1000000000 = nI 1000000000 := by decide
theorem nI_0m1 : nI 0 - nI 1 = -1 := by decide
section PACKS2
variable {xl : Nat} {xs : Nat → Int32} {d : Nat} {i : Nat → Nat → Int32} {Q : am_Q} {np : Nat} {nv : Nat → Nat}
theorem k_addVersion {x v : Int32} (hk : PK i np nv) (hd : 3 ≤ d)
    (h1 : ∀ p, p < np → x = nI p → ¬ v < 0 → ¬ nI 1000000 < v → nv p < 5 → (nv p = 0 ∨ i (4 + p) (nv p - 1) < v) → Q (some (.int (nI (nv p)))) (KS, am_up (am_up i (4 + p) (nv p) v) 10 p (nI (nv p + 1))))
    (h0 : (∀ p, p < np → x = nI p → ¬ v < 0 → ¬ nI 1000000 < v → nv p < 5 → ¬ (nv p = 0 ∨ i (4 + p) (nv p - 1) < v)) → Q (some (.int (-1))) (KS, i)) : SP xl xs d Y_Packs_addVersion [.ref 1, .int x, .int v] (KS, i) Q := by
  have hk0 := hk
  obtain ⟨hp, hn, hv⟩ := hk
  obtain ⟨d, rfl⟩ : ∃ q, d = q + 1 := ⟨d - 1, by omega⟩
  refine ⟨Nat.le_of_ble_eq_true rfl, am_go (am_sp_mo _) (fun _ => false) 60 (fun X hX => ?_)⟩
  conv => whnf
  try dsimp only
  refine k_Packs_has np hp hn (by omega) (fun p hpp hx => ?_) (fun hx => ?_)
  · have hv1 := hv p (by omega)
    have huni : ∀ q, q < np → x = nI q → q = p := fun q hq e => nI_inj (by omega) (by omega) (e.symm.trans hx)
    conv => whnf
    try dsimp only
    refine ⟨fun h => absurd h (by decide), fun _ => ?_⟩
    conv => whnf
    try dsimp only
    refine ⟨fun h => ?_, fun hv0 => ?_⟩
    · conv => whnf
      try dsimp only
      exact h0 fun q _ _ hq0 => absurd h hq0
    conv => whnf
    try dsimp only
    refine ⟨fun hvM => ?_, fun h => ?_⟩
    · conv => whnf
      try dsimp only
      refine ⟨6, [], rfl, by rw [hx]; exact vp_in_nI (by omega) (by decide), ?_⟩
      conv => whnf
      try dsimp only
      refine ⟨fun h5 => ?_, fun h5 => ?_⟩
      · conv => whnf
        try dsimp only
        refine h0 fun q hq e _ _ h => ?_
        have := huni q hq e
        subst this
        rw [hx, nI_clamp (by omega), hv1.1, li_5] at h5
        exact absurd h5 (nI_ge h (by omega))
      have hlt : nv p < 5 := by
        rw [hx, nI_clamp (by omega), hv1.1, li_5] at h5
        rcases Nat.lt_or_ge (nv p) 5 with q | q
        · exact q
        · exact absurd (nI_le q (by omega)) h5
      conv => whnf
      try dsimp only
      have hend : (nv p = 0 ∨ i (4 + p) (nv p - 1) < v) → Q (some (.int (nI (nv p)))) (KS, am_up (am_up i (4 + p) (nv p) v) 10 p (nI (nv p + 1))) := h1 p hpp hx hv0 (by rw [li_M] at hvM; exact fun h => by rw [Int32.lt_iff_toInt_lt] at h; rw [Int32.le_iff_toInt_le] at hvM; omega) hlt
      have hcl : i 10 x.toNatClampNeg = nI (nv p) := by rw [hx, nI_clamp (by omega)]; exact hv1.1
      refine k_versionAt hk0 (by omega) (fun p' k hp' hk' e1 e2 => ?_) (fun hno => ?_)
      · have := huni p' hp' e1
        subst this
        have hk1 : k = nv p' - 1 := by
          rw [hcl, li_1] at e2
          have hpos : 0 < nv p' := by omega
          rw [show nI (nv p') - nI 1 = nI (nv p' - 1) by rw [show nv p' = (nv p' - 1) + 1 by omega]; exact nI_pred1 _] at e2
          exact (nI_inj (by omega) (by omega) e2).symm
        conv => whnf
        try dsimp only
        refine ⟨fun h => ?_, fun h => ?_⟩
        · conv => whnf
          try dsimp only
          refine ⟨6, _, 4 + p', rfl, by rw [hx]; exact vp_in_nI (by omega) (by decide), by rw [hx, nI_clamp (by omega)]; exact rg_ver p' (by omega), ?_⟩
          conv => whnf
          try dsimp only
          refine ⟨5, [], ks_ver p' (by omega), by rw [hcl]; exact vp_in_nI (by omega) (by decide), ?_⟩
          conv => whnf
          try dsimp only
          refine ⟨6, [], rfl, by rw [hx]; exact vp_in_nI (by omega) (by decide), ?_⟩
          conv => whnf
          try dsimp only
          refine q_eq ?_ ?_ (hend (Or.inr (by rw [← hk1]; exact h)))
          · rw [hcl]
          · rw [hcl, hx, nI_clamp (by omega), nI_clamp (by omega), li_1, nI_add]
        · conv => whnf
          try dsimp only
          refine h0 fun q hq e _ _ _ h9 => ?_
          have := huni q hq e
          subst this
          rcases h9 with h9 | h9
          · omega
          · rw [← hk1] at h9
            exact h h9
      · have hz : nv p = 0 := by
          rcases Nat.eq_zero_or_pos (nv p) with q | q
          · exact q
          · refine absurd ⟨hx, ?_⟩ (hno p (nv p - 1) hpp (by omega))
            rw [hcl, li_1, show nv p = (nv p - 1) + 1 by omega]
            exact nI_pred1 _
        conv => whnf
        try dsimp only
        refine ⟨fun h => ?_, fun h => ?_⟩
        · conv => whnf
          try dsimp only
          refine ⟨6, _, 4 + p, rfl, by rw [hx]; exact vp_in_nI (by omega) (by decide), by rw [hx, nI_clamp (by omega)]; exact rg_ver p (by omega), ?_⟩
          conv => whnf
          try dsimp only
          refine ⟨5, [], ks_ver p (by omega), by rw [hcl]; exact vp_in_nI (by omega) (by decide), ?_⟩
          conv => whnf
          try dsimp only
          refine ⟨6, [], rfl, by rw [hx]; exact vp_in_nI (by omega) (by decide), ?_⟩
          conv => whnf
          try dsimp only
          refine q_eq ?_ ?_ (hend (Or.inl hz))
          · rw [hcl]
          · rw [hcl, hx, nI_clamp (by omega), nI_clamp (by omega), li_1, nI_add]
        · exfalso
          rw [Int32.lt_iff_toInt_lt] at h hv0
          rw [show (-1 : Int32).toInt = -1 by decide] at h
          rw [show (0 : Int32).toInt = 0 by decide] at hv0
          omega
    · conv => whnf
      try dsimp only
      refine h0 fun q _ _ _ h9 => absurd h9 ?_
      rw [li_M] at h
      exact fun h9 => h9 (by rw [Int32.lt_iff_toInt_lt]; rw [Int32.le_iff_toInt_le] at h; omega)
  · conv => whnf
    try dsimp only
    refine ⟨fun _ => ?_, fun h => absurd rfl h⟩
    conv => whnf
    try dsimp only
    exact h0 fun q hq e => absurd e (out_np (by omega) hx hq)
theorem k_putPlace {x y : Int32} (hk : PK i np nv) (hd : 3 ≤ d)
    (h1 : ∀ p, p < np → x = nI p → y = -1 → Q (some (.int 1)) (KS, am_up (am_up i 11 p (-1)) 12 p (-1)))
    (h2 : ∀ p k, p < np → k < nv p → x = nI p → y = nI k → Q (some (.int 1)) (KS, am_up (am_up i 11 p (nI k)) 12 p (i (4 + p) k)))
    (h0 : (∀ p, p < np → x = nI p → ¬ y = -1 ∧ ∀ k, k < nv p → ¬ y = nI k) → Q (some (.int 0)) (KS, i)) : SP xl xs d Y_Packs_putPlace [.ref 1, .int x, .int y] (KS, i) Q := by
  have hk0 := hk
  obtain ⟨hp, hn, hv⟩ := hk
  obtain ⟨d, rfl⟩ : ∃ q, d = q + 1 := ⟨d - 1, by omega⟩
  refine ⟨Nat.le_of_ble_eq_true rfl, am_go (am_sp_mo _) (fun _ => false) 60 (fun X hX => ?_)⟩
  conv => whnf
  try dsimp only
  refine k_Packs_has np hp hn (by omega) (fun p hpp hx => ?_) (fun hx => ?_)
  · have hv1 := hv p (by omega)
    have huni : ∀ q, q < np → x = nI q → q = p := fun q hq e => nI_inj (by omega) (by omega) (e.symm.trans hx)
    have hk2 : PK (am_up i 11 p y) np nv := hk0.fr (up_a (by decide)) (up_a (by decide))
    conv => whnf
    try dsimp only
    refine ⟨fun h => absurd h (by decide), fun _ => ?_⟩
    conv => whnf
    try dsimp only
    refine ⟨fun hy => ?_, fun hy => ?_⟩
    · conv => whnf
      try dsimp only
      refine ⟨6, [], rfl, by rw [hx]; exact vp_in_nI (by omega) (by decide), ?_⟩
      conv => whnf
      try dsimp only
      rw [hx, nI_clamp (by omega)]
      refine k_versionAt hk2 (by omega) (fun p' k hp' hk' e1 e2 => ?_) (fun hno => ?_)
      · rw [hy] at e2
        exact absurd e2.symm (nI_m1 (by have := (hv p' (by omega)).2; omega))
      · conv => whnf
        try dsimp only
        refine ⟨6, [], rfl, vp_in_nI (by omega) (by decide), ?_⟩
        conv => whnf
        try dsimp only
        rw [hy]
        refine ⟨Or.inr rfl, q_eq rfl ?_ (h1 p hpp hx hy)⟩
        rw [nI_clamp (by omega)]
        rfl
    · conv => whnf
      try dsimp only
      refine ⟨6, [], rfl, by rw [hx]; exact vp_in_nI (by omega) (by decide), ?_⟩
      conv => whnf
      try dsimp only
      refine k_below (nv p) (by rw [hx, nI_clamp (by omega)]; exact hv1.1) (by omega) (by omega) (fun k hkk hyk => ?_) (fun hyo => ?_)
      · conv => whnf
        try dsimp only
        refine ⟨fun _ => ?_, fun h => absurd h (by decide)⟩
        conv => whnf
        try dsimp only
        refine ⟨6, [], rfl, by rw [hx]; exact vp_in_nI (by omega) (by decide), ?_⟩
        conv => whnf
        try dsimp only
        rw [hx, nI_clamp (by omega)]
        refine k_versionAt hk2 (by omega) (fun p' k' hp' hk' e1 e2 => ?_) (fun hno => ?_)
        · have := nI_inj (by omega) (by omega) e1
          subst this
          have := nI_inj (by have := (hv p (by omega)).2; omega) (by have := (hv p (by omega)).2; omega) (e2.symm.trans hyk)
          subst this
          conv => whnf
          try dsimp only
          refine ⟨6, [], rfl, vp_in_nI (by omega) (by decide), ?_⟩
          conv => whnf
          try dsimp only
          refine ⟨Or.inr rfl, q_eq rfl ?_ (h2 p k' hpp hkk hx hyk)⟩
          rw [nI_clamp (by omega), hyk, up_n (Or.inl (by omega))]
        · exact absurd ⟨rfl, hyk⟩ (hno p k hpp hkk)
      · conv => whnf
        try dsimp only
        refine ⟨fun h => absurd h (by decide), fun _ => ?_⟩
        conv => whnf
        try dsimp only
        exact ⟨Or.inl rfl, h0 fun q hq e => by
          have := huni q hq e
          subst this
          exact ⟨hy, fun k hk => out_np (by omega) hyo hk⟩⟩
  · conv => whnf
    try dsimp only
    refine ⟨fun _ => ?_, fun h => absurd rfl h⟩
    conv => whnf
    try dsimp only
    exact ⟨Or.inl rfl, h0 fun q hq e => absurd e (out_np (by omega) hx hq)⟩
end PACKS2
end
section
/-! NEEDS -/
theorem am_wpL {E : am_E} {cd : Nat → Option am_In} {C : am_C} {Q : am_Q} {pc : Nat} {L L' : List (Option Value)} {S : List Value} {u u' : am_St} {b c : Nat} (e : L = L') (e2 : u = u') (h : am_wp E cd C Q pc L' S u' b c) : am_wp E cd C Q pc L S u b c := by rw [e, e2]; exact h
/-- is a need active, does it hold, with the versions w -/
def nact (o s w : Nat → Int32) (k : Nat) : Bool := !(decide (w (o k).toNatClampNeg = -1)) && decide (s k ≤ w (o k).toNatClampNeg)
def nhld (t l h w : Nat → Int32) (k : Nat) : Bool := !(decide (w (t k).toNatClampNeg = -1)) && (decide (l k ≤ w (t k).toNatClampNeg) && decide (w (t k).toNatClampNeg < h k))
def nbrk (o s t l h w : Nat → Int32) (k : Nat) : Bool := nact o s w k && !(nhld t l h w k)
def bcnt (f : Nat → Bool) : Nat → Nat
  | 0 => 0
  | n + 1 => bcnt f n + (if f n = true then 1 else 0)
theorem bcnt_le (f : Nat → Bool) : ∀ n, bcnt f n ≤ n
  | 0 => Nat.le_refl _
  | n + 1 => by
    have := bcnt_le f n
    unfold bcnt
    split <;> omega
def NK (i : Nat → Nat → Int32) (nn : Nat) : Prop := i 13 6 = nI nn ∧ nn ≤ 16 ∧ ∀ k, k < nn → ∃ a b, a < 6 ∧ b < 6 ∧ i 14 k = nI a ∧ i 16 k = nI b
abbrev cact (i : Nat → Nat → Int32) (w : Nat → Int32) : Nat → Bool := nact (i 14) (i 15) w
abbrev chld (i : Nat → Nat → Int32) (w : Nat → Int32) : Nat → Bool := nhld (i 16) (i 17) (i 18) w
abbrev cbrk (i : Nat → Nat → Int32) (w : Nat → Int32) : Nat → Bool := nbrk (i 14) (i 15) (i 16) (i 17) (i 18) w
section NEEDS
variable {xl : Nat} {xs : Nat → Int32} {d : Nat} {i : Nat → Nat → Int32} {Q : am_Q} {nn : Nat}
theorem k_Needs_count (hd : 1 ≤ d) (h : Q (some (.int (i 13 6))) (KS, i)) : SP xl xs d Y_Needs_count [.ref 13] (KS, i) Q := by
  obtain ⟨d, rfl⟩ : ∃ q, d = q + 1 := ⟨d - 1, by omega⟩
  refine ⟨Nat.le_of_ble_eq_true rfl, am_go (am_sp_mo _) (fun _ => false) 20 (fun X hX => ?_)⟩
  conv => whnf
  try dsimp only
  exact h
theorem k_Needs_add {o s t l g : Int32} (hc : i 13 6 = nI nn) (hn : nn ≤ 16) (hd : 1 ≤ d) (h1 : nn < 16 → Q (some (.int (nI nn))) (KS, am_up (am_up (am_up (am_up (am_up (am_up i 14 nn o) 15 nn s) 16 nn t) 17 nn l) 18 nn g) 13 6 (nI (nn + 1)))) (h0 : nn = 16 → Q (some (.int (-1))) (KS, i)) : SP xl xs d Y_Needs_add [.ref 13, .int o, .int s, .int t, .int l, .int g] (KS, i) Q := by
  obtain ⟨d, rfl⟩ : ∃ q, d = q + 1 := ⟨d - 1, by omega⟩
  refine ⟨Nat.le_of_ble_eq_true rfl, am_go (am_sp_mo _) (fun _ => false) 60 (fun X hX => ?_)⟩
  conv => whnf
  try dsimp only
  have hin : ∀ {x : Int32}, x = nI nn → nn < 16 → vp_in x 16 := fun e h => by rw [e]; exact vp_in_nI h (by decide)
  refine ⟨fun h => ?_, fun h => ?_⟩
  · have hlt : nn < 16 := by
      rw [hc, li_16] at h
      rcases Nat.lt_or_ge nn 16 with q | q
      · exact q
      · exact absurd h (nI_nlt q (by omega))
    conv => whnf
    try dsimp only
    refine ⟨16, [], rfl, hin hc hlt, ?_⟩
    conv => whnf
    try dsimp only
    refine ⟨16, [], rfl, hin (by rw [up_n (Or.inl (by decide))]; exact hc) hlt, ?_⟩
    conv => whnf
    try dsimp only
    refine ⟨16, [], rfl, hin (by rw [up_n (Or.inl (by decide)), up_n (Or.inl (by decide))]; exact hc) hlt, ?_⟩
    conv => whnf
    try dsimp only
    refine ⟨16, [], rfl, hin (by rw [up_n (Or.inl (by decide)), up_n (Or.inl (by decide)), up_n (Or.inl (by decide))]; exact hc) hlt, ?_⟩
    conv => whnf
    try dsimp only
    refine ⟨16, [], rfl, hin (by rw [up_n (Or.inl (by decide)), up_n (Or.inl (by decide)), up_n (Or.inl (by decide)), up_n (Or.inl (by decide))]; exact hc) hlt, ?_⟩
    conv => whnf
    try dsimp only
    refine q_eq ?_ ?_ (h1 hlt)
    · simp only [hc, up_n, up_s, li_1, nI_add, ne_eq, Nat.reduceEqDiff, not_false_eq_true, true_or, nI_pred1]
    · simp only [hc, up_n, li_1, nI_add, ne_eq, Nat.reduceEqDiff, not_false_eq_true, true_or, nI_clamp (show nn < 2 ^ 31 by omega)]
  · conv => whnf
    try dsimp only
    refine h0 ?_
    rw [hc, li_16] at h
    rcases Nat.lt_or_ge nn 16 with q | q
    · exact absurd (nI_lt q (by omega)) h
    · omega
theorem k_setCalled {x v : Int32} (hc : i 13 6 = nI nn) (hn : nn ≤ 16) (hd : 2 ≤ d) (h1 : ∀ k, k < nn → x = nI k → Q (some (.int 1)) (KS, am_up i 19 k (vp_nar .boolean v))) (h0 : (x < 0 ∨ nI nn ≤ x) → Q (some (.int 0)) (KS, i)) : SP xl xs d Y_Needs_setCalled [.ref 13, .int x, .int v] (KS, i) Q := by
  obtain ⟨d, rfl⟩ : ∃ q, d = q + 1 := ⟨d - 1, by omega⟩
  refine ⟨Nat.le_of_ble_eq_true rfl, am_go (am_sp_mo _) (fun _ => false) 30 (fun X hX => ?_)⟩
  conv => whnf
  try dsimp only
  refine k_below nn hc (by omega) (by omega) (fun k hk hx => ?_) (fun hx => ?_)
  · conv => whnf
    try dsimp only
    refine ⟨fun _ => ?_, fun h => absurd h (by decide)⟩
    conv => whnf
    try dsimp only
    refine ⟨16, [], rfl, by rw [hx]; exact vp_in_nI (by omega) (by decide), ?_⟩
    conv => whnf
    try dsimp only
    exact ⟨Or.inr rfl, q_eq rfl (by rw [hx, nI_clamp (by omega)]) (h1 k hk hx)⟩
  · conv => whnf
    try dsimp only
    refine ⟨fun h => absurd rfl h, fun _ => ?_⟩
    conv => whnf
    try dsimp only
    exact ⟨Or.inl rfl, h0 hx⟩
theorem k_isCalled {x : Int32} (hc : i 13 6 = nI nn) (hn : nn ≤ 16) (hb : ∀ k, i 19 k = 0 ∨ i 19 k = 1) (hd : 2 ≤ d) (h1 : ∀ k, k < nn → x = nI k → i 19 k = 1 → Q (some (.int 1)) (KS, i)) (h0 : (∀ k, k < nn → x = nI k → i 19 k = 0) → Q (some (.int 0)) (KS, i)) : SP xl xs d Y_Needs_isCalled [.ref 13, .int x] (KS, i) Q := by
  obtain ⟨d, rfl⟩ : ∃ q, d = q + 1 := ⟨d - 1, by omega⟩
  refine ⟨Nat.le_of_ble_eq_true rfl, am_go (am_sp_mo _) (fun _ => false) 30 (fun X hX => ?_)⟩
  conv => whnf
  try dsimp only
  refine k_below nn hc (by omega) (by omega) (fun k hk hx => ?_) (fun hx => ?_)
  · conv => whnf
    try dsimp only
    refine ⟨fun h => absurd h (by decide), fun _ => ?_⟩
    conv => whnf
    try dsimp only
    refine ⟨16, [], rfl, by rw [hx]; exact vp_in_nI (by omega) (by decide), ?_⟩
    conv => whnf
    try dsimp only
    rw [hx, nI_clamp (by omega)]
    rcases hb k with e | e
    · rw [e]
      refine ⟨fun _ => ?_, fun h => absurd rfl h⟩
      conv => whnf
      try dsimp only
      exact ⟨Or.inl rfl, h0 fun q hq e' => by
        have := nI_inj (by omega) (by omega) (e'.symm.trans hx)
        subst this
        exact e⟩
    · rw [e]
      refine ⟨fun h => absurd h (by decide), fun _ => ?_⟩
      conv => whnf
      try dsimp only
      exact ⟨Or.inr rfl, h1 k hk hx e⟩
  · conv => whnf
    try dsimp only
    refine ⟨fun _ => ?_, fun h => absurd rfl h⟩
    conv => whnf
    try dsimp only
    exact ⟨Or.inl rfl, h0 fun q hq e => absurd e (out_np (by omega) hx hq)⟩
theorem k_ownerOf {x : Int32} (hc : i 13 6 = nI nn) (hn : nn ≤ 16) (hd : 2 ≤ d) (h1 : ∀ k, k < nn → x = nI k → Q (some (.int (i 14 k))) (KS, i)) (h0 : (x < 0 ∨ nI nn ≤ x) → Q (some (.int (-1))) (KS, i)) : SP xl xs d Y_Needs_ownerOf [.ref 13, .int x] (KS, i) Q := by
  obtain ⟨d, rfl⟩ : ∃ q, d = q + 1 := ⟨d - 1, by omega⟩
  refine ⟨Nat.le_of_ble_eq_true rfl, am_go (am_sp_mo _) (fun _ => false) 30 (fun X hX => ?_)⟩
  conv => whnf
  try dsimp only
  refine k_below nn hc (by omega) (by omega) (fun k hk hx => ?_) (fun hx => ?_)
  · conv => whnf
    try dsimp only
    refine ⟨fun h => absurd h (by decide), fun _ => ?_⟩
    conv => whnf
    try dsimp only
    refine ⟨16, [], rfl, by rw [hx]; exact vp_in_nI (by omega) (by decide), ?_⟩
    conv => whnf
    try dsimp only
    exact q_eq (by rw [hx, nI_clamp (by omega)]) rfl (h1 k hk hx)
  · conv => whnf
    try dsimp only
    refine ⟨fun _ => ?_, fun h => absurd rfl h⟩
    conv => whnf
    try dsimp only
    exact h0 hx
theorem k_otherOf {x : Int32} (hc : i 13 6 = nI nn) (hn : nn ≤ 16) (hd : 2 ≤ d) (h1 : ∀ k, k < nn → x = nI k → Q (some (.int (i 16 k))) (KS, i)) (h0 : (x < 0 ∨ nI nn ≤ x) → Q (some (.int (-1))) (KS, i)) : SP xl xs d Y_Needs_otherOf [.ref 13, .int x] (KS, i) Q := by
  obtain ⟨d, rfl⟩ : ∃ q, d = q + 1 := ⟨d - 1, by omega⟩
  refine ⟨Nat.le_of_ble_eq_true rfl, am_go (am_sp_mo _) (fun _ => false) 30 (fun X hX => ?_)⟩
  conv => whnf
  try dsimp only
  refine k_below nn hc (by omega) (by omega) (fun k hk hx => ?_) (fun hx => ?_)
  · conv => whnf
    try dsimp only
    refine ⟨fun h => absurd h (by decide), fun _ => ?_⟩
    conv => whnf
    try dsimp only
    refine ⟨16, [], rfl, by rw [hx]; exact vp_in_nI (by omega) (by decide), ?_⟩
    conv => whnf
    try dsimp only
    exact q_eq (by rw [hx, nI_clamp (by omega)]) rfl (h1 k hk hx)
  · conv => whnf
    try dsimp only
    refine ⟨fun _ => ?_, fun h => absurd rfl h⟩
    conv => whnf
    try dsimp only
    exact h0 hx
theorem k_nActive {a k : Nat} (ha : KS[a]? = some (0, 6, [])) (hN : NK i nn) (hk : k < nn) (hd : 1 ≤ d) (h : ∀ b : Bool, b = cact i (i a) k → Q (some (.int (if b = true then 1 else 0))) (KS, i)) : SP xl xs d Y_Needs_isActive [.ref 13, .int (nI k), .ref a] (KS, i) Q := by
  obtain ⟨hc, hn, hN⟩ := hN
  obtain ⟨p, q, hp, hq, e1, e2⟩ := hN k hk
  obtain ⟨d, rfl⟩ : ∃ q, d = q + 1 := ⟨d - 1, by omega⟩
  refine ⟨Nat.le_of_ble_eq_true rfl, am_go (am_sp_mo _) (fun _ => false) 30 (fun X hX => ?_)⟩
  conv => whnf
  try dsimp only
  refine ⟨16, [], rfl, vp_in_nI (by omega) (by decide), ?_⟩
  conv => whnf
  try dsimp only
  refine ⟨6, [], ha, by rw [nI_clamp (by omega), e1]; exact vp_in_nI hp (by decide), ?_⟩
  conv => whnf
  try dsimp only
  rw [nI_clamp (show k < 2 ^ 31 by omega)]
  refine ⟨fun hm => ?_, fun hm => ?_⟩
  · conv => whnf
    try dsimp only
    exact ⟨Or.inl rfl, h false (by unfold cact nact; rw [show decide (i a (i 14 k).toNatClampNeg = -1) = true from decide_eq_true hm]; rfl)⟩
  · conv => whnf
    try dsimp only
    refine ⟨16, [], rfl, vp_in_nI (by omega) (by decide), ?_⟩
    conv => whnf
    try dsimp only
    rw [nI_clamp (show k < 2 ^ 31 by omega)]
    refine ⟨fun hl => ?_, fun hl => ?_⟩
    · conv => whnf
      try dsimp only
      exact ⟨Or.inl rfl, h false (by unfold cact nact; rw [show decide (i 15 k ≤ i a (i 14 k).toNatClampNeg) = false from decide_eq_false (by rw [Int32.le_iff_toInt_le]; rw [Int32.lt_iff_toInt_lt] at hl; omega), Bool.and_false])⟩
    · conv => whnf
      try dsimp only
      exact ⟨Or.inr rfl, h true (by unfold cact nact; rw [show decide (i 15 k ≤ i a (i 14 k).toNatClampNeg) = true from decide_eq_true (by rw [Int32.le_iff_toInt_le]; rw [Int32.lt_iff_toInt_lt] at hl; omega), show decide (i a (i 14 k).toNatClampNeg = -1) = false from decide_eq_false hm]; rfl)⟩
theorem k_nHolds {a k : Nat} (ha : KS[a]? = some (0, 6, [])) (hN : NK i nn) (hk : k < nn) (hd : 1 ≤ d) (h : ∀ b : Bool, b = chld i (i a) k → Q (some (.int (if b = true then 1 else 0))) (KS, i)) : SP xl xs d Y_Needs_holds [.ref 13, .int (nI k), .ref a] (KS, i) Q := by
  obtain ⟨hc, hn, hN⟩ := hN
  obtain ⟨p, q, hp, hq, e1, e2⟩ := hN k hk
  obtain ⟨d, rfl⟩ : ∃ q, d = q + 1 := ⟨d - 1, by omega⟩
  refine ⟨Nat.le_of_ble_eq_true rfl, am_go (am_sp_mo _) (fun _ => false) 40 (fun X hX => ?_)⟩
  conv => whnf
  try dsimp only
  refine ⟨16, [], rfl, vp_in_nI (by omega) (by decide), ?_⟩
  conv => whnf
  try dsimp only
  refine ⟨6, [], ha, by rw [nI_clamp (by omega), e2]; exact vp_in_nI hq (by decide), ?_⟩
  conv => whnf
  try dsimp only
  rw [nI_clamp (show k < 2 ^ 31 by omega)]
  refine ⟨fun hm => ?_, fun hm => ?_⟩
  · conv => whnf
    try dsimp only
    exact ⟨Or.inl rfl, h false (by unfold chld nhld; rw [show decide (i a (i 16 k).toNatClampNeg = -1) = true from decide_eq_true hm]; rfl)⟩
  · have hm' : decide (i a (i 16 k).toNatClampNeg = -1) = false := decide_eq_false hm
    conv => whnf
    try dsimp only
    refine ⟨16, [], rfl, vp_in_nI (by omega) (by decide), ?_⟩
    conv => whnf
    try dsimp only
    rw [nI_clamp (show k < 2 ^ 31 by omega)]
    refine ⟨fun hl => ?_, fun hl => ?_⟩
    · conv => whnf
      try dsimp only
      exact ⟨Or.inl rfl, h false (by unfold chld nhld; rw [show decide (i 17 k ≤ i a (i 16 k).toNatClampNeg) = false from decide_eq_false (by rw [Int32.le_iff_toInt_le]; rw [Int32.lt_iff_toInt_lt] at hl; omega), Bool.false_and, Bool.and_false])⟩
    · have hl' : decide (i 17 k ≤ i a (i 16 k).toNatClampNeg) = true := decide_eq_true (by rw [Int32.le_iff_toInt_le]; rw [Int32.lt_iff_toInt_lt] at hl; omega)
      conv => whnf
      try dsimp only
      refine ⟨16, [], rfl, vp_in_nI (by omega) (by decide), ?_⟩
      conv => whnf
      try dsimp only
      rw [nI_clamp (show k < 2 ^ 31 by omega)]
      refine ⟨fun hg => ?_, fun hg => ?_⟩
      · conv => whnf
        try dsimp only
        exact ⟨Or.inl rfl, h false (by unfold chld nhld; rw [show decide (i a (i 16 k).toNatClampNeg < i 18 k) = false from decide_eq_false (by rw [Int32.lt_iff_toInt_lt]; rw [Int32.le_iff_toInt_le] at hg; omega), Bool.and_false, Bool.and_false])⟩
      · conv => whnf
        try dsimp only
        exact ⟨Or.inr rfl, h true (by unfold chld nhld; rw [hl', hm', show decide (i a (i 16 k).toNatClampNeg < i 18 k) = true from decide_eq_true (by rw [Int32.lt_iff_toInt_lt]; rw [Int32.le_iff_toInt_le] at hg; omega)]; rfl)⟩
theorem k_nBroken {a k : Nat} (ha : KS[a]? = some (0, 6, [])) (hN : NK i nn) (hk : k < nn) (hd : 2 ≤ d) (h : ∀ b : Bool, b = cbrk i (i a) k → Q (some (.int (if b = true then 1 else 0))) (KS, i)) : SP xl xs d Y_Needs_isBroken [.ref 13, .int (nI k), .ref a] (KS, i) Q := by
  obtain ⟨d, rfl⟩ : ∃ q, d = q + 1 := ⟨d - 1, by omega⟩
  refine ⟨Nat.le_of_ble_eq_true rfl, am_go (am_sp_mo _) (fun _ => false) 30 (fun X hX => ?_)⟩
  conv => whnf
  try dsimp only
  refine k_nActive ha hN hk (by omega) (fun b hb => ?_)
  cases b with
  | false =>
    conv => whnf
    try dsimp only
    refine ⟨fun _ => ?_, fun h => absurd rfl h⟩
    conv => whnf
    try dsimp only
    exact ⟨Or.inl rfl, h false (by show false = (cact i (i a) k && !(chld i (i a) k)); rw [← hb]; rfl)⟩
  | true =>
    conv => whnf
    try dsimp only
    refine ⟨fun h => absurd h (by decide), fun _ => ?_⟩
    conv => whnf
    try dsimp only
    refine k_nHolds ha hN hk (by omega) (fun b2 hb2 => ?_)
    cases b2 with
    | false =>
      conv => whnf
      try dsimp only
      refine ⟨fun h => absurd rfl h, fun _ => ?_⟩
      conv => whnf
      try dsimp only
      exact ⟨Or.inr rfl, h true (by show true = (cact i (i a) k && !(chld i (i a) k)); rw [← hb, ← hb2]; rfl)⟩
    | true =>
      conv => whnf
      try dsimp only
      refine ⟨fun _ => ?_, fun h => absurd h (by decide)⟩
      conv => whnf
      try dsimp only
      exact ⟨Or.inl rfl, h false (by show false = (cact i (i a) k && !(chld i (i a) k)); rw [← hb, ← hb2]; rfl)⟩
theorem k_leads {a k : Nat} (ha : KS[a]? = some (0, 6, [])) (hN : NK i nn) (hk : k < nn) (hd : 2 ≤ d) (h : ∀ b : Bool, b = (cact i (i a) k && chld i (i a) k) → Q (some (.int (if b = true then 1 else 0))) (KS, i)) : SP xl xs d Y_Needs_leads [.ref 13, .int (nI k), .ref a] (KS, i) Q := by
  have hc := hN.1
  have hn := hN.2.1
  obtain ⟨d, rfl⟩ : ∃ q, d = q + 1 := ⟨d - 1, by omega⟩
  refine ⟨Nat.le_of_ble_eq_true rfl, am_go (am_sp_mo _) (fun _ => false) 40 (fun X hX => ?_)⟩
  conv => whnf
  try dsimp only
  refine k_below nn hc (by omega) (by omega) (fun k' hk' hx => ?_) (fun hx => absurd rfl (out_np (by omega) hx hk))
  conv => whnf
  try dsimp only
  refine ⟨fun h => absurd h (by decide), fun _ => ?_⟩
  conv => whnf
  try dsimp only
  refine k_nActive ha hN hk (by omega) (fun b hb => ?_)
  cases b with
  | false =>
    conv => whnf
    try dsimp only
    refine ⟨fun _ => ?_, fun h => absurd rfl h⟩
    conv => whnf
    try dsimp only
    exact ⟨Or.inl rfl, h false (by rw [← hb]; rfl)⟩
  | true =>
    conv => whnf
    try dsimp only
    refine ⟨fun h => absurd h (by decide), fun _ => ?_⟩
    conv => whnf
    try dsimp only
    refine k_nHolds ha hN hk (by omega) (fun b2 hb2 => ?_)
    cases b2 with
    | false =>
      conv => whnf
      try dsimp only
      refine ⟨fun _ => ?_, fun h => absurd rfl h⟩
      conv => whnf
      try dsimp only
      exact ⟨Or.inl rfl, h false (by rw [← hb, ← hb2]; rfl)⟩
    | true =>
      conv => whnf
      try dsimp only
      refine ⟨fun h => absurd h (by decide), fun _ => ?_⟩
      conv => whnf
      try dsimp only
      exact ⟨Or.inr rfl, h true (by rw [← hb, ← hb2]; rfl)⟩
theorem k_countBroken {a : Nat} (ha : KS[a]? = some (0, 6, [])) (hN : NK i nn) (hd : 3 ≤ d) (h : Q (some (.int (nI (bcnt (cbrk i (i a)) nn)))) (KS, i)) : SP xl xs d Y_Needs_countBroken [.ref 13, .ref a] (KS, i) Q := by
  have hc := hN.1
  have hn := hN.2.1
  obtain ⟨d, rfl⟩ : ∃ q, d = q + 1 := ⟨d - 1, by omega⟩
  refine ⟨Nat.le_of_ble_eq_true rfl, am_go (am_sp_mo _) (fun q => q == 4) 30 (fun X hX => ?_)⟩
  conv => whnf
  try dsimp only
  refine hX _ _ _ _ _ _ ?_
  have loop : ∀ m k, k + m = nn → am_wp (ax_E xl xs) (ax_cd Y_Needs_countBroken) (am_sp (ax_E xl xs) ax_cd ax_ml d) Q 4 [some (.ref 13), some (.ref a), some (.int (nI (bcnt (cbrk i (i a)) k))), some (.int (nI k))] [] (KS, i) 0 0 := by
    intro m
    induction m with
    | zero =>
      intro k hk
      have : k = nn := by omega
      subst this
      refine am_go (am_sp_mo _) (fun q => q == 4) 30 (fun X hX => ?_)
      conv => whnf
      try dsimp only
      refine ⟨fun _ => ?_, fun hh => absurd (by rw [hc]; exact nI_le (Nat.le_refl _) (by omega)) hh⟩
      conv => whnf
      try dsimp only
      exact h
    | succ m ih =>
      intro k hk
      refine am_go (am_sp_mo _) (fun q => q == 4) 30 (fun X hX => ?_)
      conv => whnf
      try dsimp only
      refine ⟨fun hh => absurd hh (by rw [hc]; exact nI_ge (by omega) (by omega)), fun _ => ?_⟩
      conv => whnf
      try dsimp only
      refine k_nBroken ha hN (by omega) (by omega) (fun b hb => ?_)
      have hs : bcnt (cbrk i (i a)) (k + 1) = bcnt (cbrk i (i a)) k + (if b = true then 1 else 0) := by rw [bcnt, ← hb]
      have ih := ih (k + 1) (by omega)
      cases b with
      | false =>
        conv => whnf
        try dsimp only
        refine ⟨fun _ => ?_, fun h => absurd rfl h⟩
        conv => whnf
        try dsimp only
        refine hX _ _ _ _ _ _ (am_wpL ?_ rfl ih)
        show [_, _, _, some (Value.int (nI k + Int32.ofInt 1))] = _
        rw [li_1, nI_add, hs]
        rfl
      | true =>
        conv => whnf
        try dsimp only
        refine ⟨fun h => absurd h (by decide), fun _ => ?_⟩
        conv => whnf
        try dsimp only
        refine hX _ _ _ _ _ _ (am_wpL ?_ rfl ih)
        show [_, _, some (Value.int (nI (bcnt (cbrk i (i a)) k) + Int32.ofInt 1)), some (Value.int (nI k + Int32.ofInt 1))] = _
        rw [li_1, nI_add, nI_add, hs]
        rfl
  exact loop nn 0 (by omega)
end NEEDS
end
section
/-! ADVISORIES -/
theorem ks_fr : ∀ a, a < 12 → KS[23 + a]? = some (0, 3, []) := by decide
theorem ks_to : ∀ a, a < 12 → KS[36 + a]? = some (0, 3, []) := by decide
theorem rg_fr : ∀ a, a < 12 → am_rg [some 23, some 24, some 25, some 26, some 27, some 28, some 29, some 30, some 31, some 32, some 33, some 34] a = some (23 + a) := by decide
theorem rg_to : ∀ a, a < 12 → am_rg [some 36, some 37, some 38, some 39, some 40, some 41, some 42, some 43, some 44, some 45, some 46, some 47] a = some (36 + a) := by decide
def bany (f : Nat → Bool) : Nat → Bool
  | 0 => false
  | n + 1 => bany f n || f n
theorem bany_of {f : Nat → Bool} : ∀ {n k : Nat}, k < n → f k = true → bany f n = true
  | n + 1, k, h, e => by
    unfold bany
    rcases Nat.lt_or_ge k n with q | q
    · rw [bany_of q e]
      rfl
    · have : k = n := by omega
      subst this
      rw [e, Bool.or_true]
theorem bany_iff {f : Nat → Bool} : ∀ {n : Nat}, bany f n = true ↔ ∃ k, k < n ∧ f k = true
  | 0 => ⟨fun h => (by cases h), fun ⟨k, h, _⟩ => absurd h (by omega)⟩
  | n + 1 => by
    constructor
    · intro h
      unfold bany at h
      rw [Bool.or_eq_true] at h
      rcases h with h | h
      · obtain ⟨k, h1, h2⟩ := bany_iff.mp h
        exact ⟨k, by omega, h2⟩
      · exact ⟨n, by omega, h⟩
    · intro ⟨k, h1, h2⟩
      exact bany_of h1 h2
/-- a span with a version -/
def spn (f t : Nat → Int32) (v : Int32) (k : Nat) : Bool := decide (f k ≤ v) && (decide (t k = -1) || decide (v < t k))
def stk (o w : Nat → Int32) (h : Nat → Bool) (p : Int32) (a : Nat) : Bool := decide (o a = p) && (decide (w a = 0) && h a)
def mx (f : Nat → Bool) (s : Nat → Int32) : Nat → Int32
  | 0 => -1
  | n + 1 => if f n = true then (if mx f s n < s n then s n else mx f s n) else mx f s n
def AK (i : Nat → Nat → Int32) (na : Nat) (sp : Nat → Nat) : Prop := i 20 7 = nI na ∧ na ≤ 12 ∧ ∀ a, a < 12 → i 48 a = nI (sp a) ∧ sp a ≤ 3
theorem AK.fr {i j : Nat → Nat → Int32} {na : Nat} {sp : Nat → Nat} (h : AK i na sp) (h1 : j 20 = i 20) (h2 : j 48 = i 48) : AK j na sp := by
  unfold AK at *
  rw [h1, h2]
  exact h
def chas (i : Nat → Nat → Int32) (sp : Nat → Nat) (v : Int32) (a : Nat) : Bool := bany (spn (i (23 + a)) (i (36 + a)) v) (sp a)
def cstk (i : Nat → Nat → Int32) (sp : Nat → Nat) (p v : Int32) : Nat → Bool := stk (i 21) (i 50) (chas i sp v) p
def cgst (i : Nat → Nat → Int32) (sp : Nat → Nat) (g p v : Int32) (a : Nat) : Bool := decide (i 51 a = g) && cstk i sp p v a
section ADV
variable {xl : Nat} {xs : Nat → Int32} {d : Nat} {i : Nat → Nat → Int32} {Q : am_Q} {na : Nat} {sp : Nat → Nat}
theorem k_Adv_count (hd : 1 ≤ d) (h : Q (some (.int (i 20 7))) (KS, i)) : SP xl xs d Y_Advisories_count [.ref 20] (KS, i) Q := by
  obtain ⟨d, rfl⟩ : ∃ q, d = q + 1 := ⟨d - 1, by omega⟩
  refine ⟨Nat.le_of_ble_eq_true rfl, am_go (am_sp_mo _) (fun _ => false) 20 (fun X hX => ?_)⟩
  conv => whnf
  try dsimp only
  exact h
theorem k_Adv_has {x : Int32} (hc : i 20 7 = nI na) (hn : na ≤ 12) (hd : 2 ≤ d) (h1 : ∀ a, a < na → x = nI a → Q (some (.int 1)) (KS, i)) (h0 : (x < 0 ∨ nI na ≤ x) → Q (some (.int 0)) (KS, i)) : SP xl xs d Y_Advisories_has [.ref 20, .int x] (KS, i) Q := by
  obtain ⟨d, rfl⟩ : ∃ q, d = q + 1 := ⟨d - 1, by omega⟩
  refine ⟨Nat.le_of_ble_eq_true rfl, am_go (am_sp_mo _) (fun _ => false) 20 (fun X hX => ?_)⟩
  conv => whnf
  try dsimp only
  refine k_below na hc (by omega) (by omega) (fun a ha hx => ?_) (fun hx => ?_)
  · conv => whnf
    try dsimp only
    exact ⟨Or.inr rfl, h1 a ha hx⟩
  · conv => whnf
    try dsimp only
    exact ⟨Or.inl rfl, h0 hx⟩
theorem k_Adv_add {p : Int32} (hc : i 20 7 = nI na) (hn : na ≤ 12) (hd : 1 ≤ d) (h1 : na < 12 → Q (some (.int (nI na))) (KS, am_up (am_up (am_up i 21 na p) 51 na (nI na)) 20 7 (nI (na + 1)))) (h0 : na = 12 → Q (some (.int (-1))) (KS, i)) : SP xl xs d Y_Advisories_add [.ref 20, .int p] (KS, i) Q := by
  obtain ⟨d, rfl⟩ : ∃ q, d = q + 1 := ⟨d - 1, by omega⟩
  refine ⟨Nat.le_of_ble_eq_true rfl, am_go (am_sp_mo _) (fun _ => false) 60 (fun X hX => ?_)⟩
  conv => whnf
  try dsimp only
  refine ⟨fun h => ?_, fun h => ?_⟩
  · have hlt : na < 12 := by
      rw [hc, li_12] at h
      rcases Nat.lt_or_ge na 12 with q | q
      · exact q
      · exact absurd h (nI_nlt q (by omega))
    conv => whnf
    try dsimp only
    refine ⟨12, [], rfl, by rw [hc]; exact vp_in_nI hlt (by decide), ?_⟩
    conv => whnf
    try dsimp only
    refine ⟨12, [], rfl, by rw [up_n (Or.inl (by decide)), hc]; exact vp_in_nI hlt (by decide), ?_⟩
    conv => whnf
    try dsimp only
    refine q_eq ?_ ?_ (h1 hlt)
    · simp only [hc, up_n, up_s, li_1, nI_add, ne_eq, Nat.reduceEqDiff, not_false_eq_true, true_or, nI_pred1]
    · simp only [hc, up_n, li_1, nI_add, ne_eq, Nat.reduceEqDiff, not_false_eq_true, true_or, nI_clamp (show na < 2 ^ 31 by omega)]
  · conv => whnf
    try dsimp only
    refine h0 ?_
    rw [hc, li_12] at h
    rcases Nat.lt_or_ge na 12 with q | q
    · exact absurd (nI_lt q (by omega)) h
    · omega
theorem k_addSpan {x f t : Int32} (hA : AK i na sp) (hd : 3 ≤ d)
    (h1 : ∀ a, a < na → x = nI a → ¬ f < 0 → (t = -1 ∨ f < t) → sp a < 3 → Q (some (.int 1)) (KS, am_up (am_up (am_up i (23 + a) (sp a) f) (36 + a) (sp a) t) 48 a (nI (sp a + 1))))
    (h0 : (∀ a, a < na → x = nI a → ¬ f < 0 → (t = -1 ∨ f < t) → ¬ sp a < 3) → Q (some (.int 0)) (KS, i)) : SP xl xs d Y_Advisories_addSpan [.ref 20, .int x, .int f, .int t] (KS, i) Q := by
  obtain ⟨hc, hn, hs⟩ := hA
  obtain ⟨d, rfl⟩ : ∃ q, d = q + 1 := ⟨d - 1, by omega⟩
  refine ⟨Nat.le_of_ble_eq_true rfl, am_go (am_sp_mo _) (fun q => q == 24) 60 (fun X hX => ?_)⟩
  conv => whnf
  try dsimp only
  refine k_Adv_has hc hn (by omega) (fun a ha hx => ?_) (fun hx => ?_)
  · have hs1 := hs a (by omega)
    have huni : ∀ q, q < na → x = nI q → q = a := fun q hq e => nI_inj (by omega) (by omega) (e.symm.trans hx)
    conv => whnf
    try dsimp only
    refine ⟨fun h => absurd h (by decide), fun _ => ?_⟩
    conv => whnf
    try dsimp only
    refine ⟨fun h => ?_, fun hf0 => ?_⟩
    · conv => whnf
      try dsimp only
      exact ⟨Or.inl rfl, h0 fun q _ _ hq0 => absurd h hq0⟩
    have go : (t = -1 ∨ f < t) → am_wp (ax_E xl xs) (ax_cd Y_Advisories_addSpan) (am_sp (ax_E xl xs) ax_cd ax_ml d) Q 24 [some (.ref 20), some (.int x), some (.int f), some (.int t), none] [] (KS, i) 0 0 := by
      intro ht
      refine am_go (am_sp_mo _) (fun _ => false) 60 (fun X hX => ?_)
      conv => whnf
      try dsimp only
      refine ⟨12, [], rfl, by rw [hx]; exact vp_in_nI (by omega) (by decide), ?_⟩
      conv => whnf
      try dsimp only
      rw [hx, nI_clamp (by omega), hs1.1, li_3]
      refine ⟨fun h3 => ?_, fun h3 => ?_⟩
      · have hlt : sp a < 3 := by
          rcases Nat.lt_or_ge (sp a) 3 with q | q
          · exact q
          · exact absurd h3 (nI_nlt q (by omega))
        conv => whnf
        try dsimp only
        refine ⟨12, _, 23 + a, rfl, vp_in_nI (by omega) (by decide), by rw [nI_clamp (by omega)]; exact rg_fr a (by omega), ?_⟩
        conv => whnf
        try dsimp only
        refine ⟨3, [], ks_fr a (by omega), vp_in_nI (by omega) (by decide), ?_⟩
        conv => whnf
        try dsimp only
        refine ⟨12, _, 36 + a, rfl, vp_in_nI (by omega) (by decide), by rw [nI_clamp (by omega)]; exact rg_to a (by omega), ?_⟩
        conv => whnf
        try dsimp only
        refine ⟨3, [], ks_to a (by omega), vp_in_nI (by omega) (by decide), ?_⟩
        conv => whnf
        try dsimp only
        refine ⟨12, [], rfl, vp_in_nI (by omega) (by decide), ?_⟩
        conv => whnf
        try dsimp only
        refine ⟨Or.inr rfl, q_eq rfl ?_ (h1 a ha hx hf0 ht hlt)⟩
        rw [nI_clamp (by omega), nI_clamp (by omega), li_1, nI_add]
      · conv => whnf
        try dsimp only
        refine ⟨Or.inl rfl, h0 fun q hq e _ _ => ?_⟩
        have := huni q hq e
        subst this
        exact fun h => h3 (nI_lt h (by omega))
    conv => whnf
    try dsimp only
    refine ⟨fun ht => hX _ _ _ _ _ _ (go (Or.inl ht)), fun ht => ?_⟩
    conv => whnf
    try dsimp only
    refine ⟨fun ht2 => hX _ _ _ _ _ _ (go (Or.inr ht2)), fun ht2 => ?_⟩
    conv => whnf
    try dsimp only
    exact ⟨Or.inl rfl, h0 fun q _ _ _ h => absurd h (by rintro (h | h) <;> contradiction)⟩
  · conv => whnf
    try dsimp only
    refine ⟨fun _ => ?_, fun h => absurd rfl h⟩
    conv => whnf
    try dsimp only
    exact ⟨Or.inl rfl, h0 fun q hq e => absurd e (out_np (by omega) hx hq)⟩
theorem k_setScore {x v : Int32} (hc : i 20 7 = nI na) (hn : na ≤ 12) (hd : 3 ≤ d) (h1 : ∀ a, a < na → x = nI a → Q none (KS, am_up i 49 a v)) (h0 : (x < 0 ∨ nI na ≤ x) → Q none (KS, i)) : SP xl xs d Y_Advisories_setScore [.ref 20, .int x, .int v] (KS, i) Q := by
  obtain ⟨d, rfl⟩ : ∃ q, d = q + 1 := ⟨d - 1, by omega⟩
  refine ⟨Nat.le_of_ble_eq_true rfl, am_go (am_sp_mo _) (fun _ => false) 30 (fun X hX => ?_)⟩
  conv => whnf
  try dsimp only
  refine k_Adv_has hc hn (by omega) (fun a ha hx => ?_) (fun hx => ?_)
  · conv => whnf
    try dsimp only
    refine ⟨fun h => absurd h (by decide), fun _ => ?_⟩
    conv => whnf
    try dsimp only
    refine ⟨12, [], rfl, by rw [hx]; exact vp_in_nI (by omega) (by decide), ?_⟩
    conv => whnf
    try dsimp only
    exact q_eq rfl (by rw [hx, nI_clamp (by omega)]) (h1 a ha hx)
  · conv => whnf
    try dsimp only
    refine ⟨fun _ => ?_, fun h => absurd rfl h⟩
    conv => whnf
    try dsimp only
    exact h0 hx
theorem k_scoreOf {x : Int32} (hc : i 20 7 = nI na) (hn : na ≤ 12) (hd : 3 ≤ d) (h1 : ∀ a, a < na → x = nI a → Q (some (.int (i 49 a))) (KS, i)) (h0 : (x < 0 ∨ nI na ≤ x) → Q (some (.int (-1))) (KS, i)) : SP xl xs d Y_Advisories_scoreOf [.ref 20, .int x] (KS, i) Q := by
  obtain ⟨d, rfl⟩ : ∃ q, d = q + 1 := ⟨d - 1, by omega⟩
  refine ⟨Nat.le_of_ble_eq_true rfl, am_go (am_sp_mo _) (fun _ => false) 30 (fun X hX => ?_)⟩
  conv => whnf
  try dsimp only
  refine k_Adv_has hc hn (by omega) (fun a ha hx => ?_) (fun hx => ?_)
  · conv => whnf
    try dsimp only
    refine ⟨fun h => absurd h (by decide), fun _ => ?_⟩
    conv => whnf
    try dsimp only
    refine ⟨12, [], rfl, by rw [hx]; exact vp_in_nI (by omega) (by decide), ?_⟩
    conv => whnf
    try dsimp only
    exact q_eq (by rw [hx, nI_clamp (by omega)]) rfl (h1 a ha hx)
  · conv => whnf
    try dsimp only
    refine ⟨fun _ => ?_, fun h => absurd rfl h⟩
    conv => whnf
    try dsimp only
    exact h0 hx
theorem k_groupOf {x : Int32} (hc : i 20 7 = nI na) (hn : na ≤ 12) (hd : 3 ≤ d) (h1 : ∀ a, a < na → x = nI a → Q (some (.int (i 51 a))) (KS, i)) (h0 : (x < 0 ∨ nI na ≤ x) → Q (some (.int (-1))) (KS, i)) : SP xl xs d Y_Advisories_groupOf [.ref 20, .int x] (KS, i) Q := by
  obtain ⟨d, rfl⟩ : ∃ q, d = q + 1 := ⟨d - 1, by omega⟩
  refine ⟨Nat.le_of_ble_eq_true rfl, am_go (am_sp_mo _) (fun _ => false) 30 (fun X hX => ?_)⟩
  conv => whnf
  try dsimp only
  refine k_Adv_has hc hn (by omega) (fun a ha hx => ?_) (fun hx => ?_)
  · conv => whnf
    try dsimp only
    refine ⟨fun h => absurd h (by decide), fun _ => ?_⟩
    conv => whnf
    try dsimp only
    refine ⟨12, [], rfl, by rw [hx]; exact vp_in_nI (by omega) (by decide), ?_⟩
    conv => whnf
    try dsimp only
    exact q_eq (by rw [hx, nI_clamp (by omega)]) rfl (h1 a ha hx)
  · conv => whnf
    try dsimp only
    refine ⟨fun _ => ?_, fun h => absurd rfl h⟩
    conv => whnf
    try dsimp only
    exact h0 hx
theorem k_setWithdrawn {x v : Int32} (hc : i 20 7 = nI na) (hn : na ≤ 12) (hd : 3 ≤ d) (h1 : ∀ a, a < na → x = nI a → Q (some (.int 1)) (KS, am_up i 50 a (vp_nar .boolean v))) (h0 : (x < 0 ∨ nI na ≤ x) → Q (some (.int 0)) (KS, i)) : SP xl xs d Y_Advisories_setWithdrawn [.ref 20, .int x, .int v] (KS, i) Q := by
  obtain ⟨d, rfl⟩ : ∃ q, d = q + 1 := ⟨d - 1, by omega⟩
  refine ⟨Nat.le_of_ble_eq_true rfl, am_go (am_sp_mo _) (fun _ => false) 30 (fun X hX => ?_)⟩
  conv => whnf
  try dsimp only
  refine k_Adv_has hc hn (by omega) (fun a ha hx => ?_) (fun hx => ?_)
  · conv => whnf
    try dsimp only
    refine ⟨fun _ => ?_, fun h => absurd h (by decide)⟩
    conv => whnf
    try dsimp only
    refine ⟨12, [], rfl, by rw [hx]; exact vp_in_nI (by omega) (by decide), ?_⟩
    conv => whnf
    try dsimp only
    exact ⟨Or.inr rfl, q_eq rfl (by rw [hx, nI_clamp (by omega)]) (h1 a ha hx)⟩
  · conv => whnf
    try dsimp only
    refine ⟨fun h => absurd rfl h, fun _ => ?_⟩
    conv => whnf
    try dsimp only
    exact ⟨Or.inl rfl, h0 hx⟩
theorem k_hasSpanWith {a : Nat} {v : Int32} (hA : AK i na sp) (ha : a < 12) (hd : 1 ≤ d) (h : ∀ b : Bool, b = chas i sp v a → Q (some (.int (if b = true then 1 else 0))) (KS, i)) : SP xl xs d Y_Advisories_hasSpanWith [.ref 20, .int (nI a), .int v] (KS, i) Q := by
  have hs := hA.2.2 a ha
  obtain ⟨d, rfl⟩ : ∃ q, d = q + 1 := ⟨d - 1, by omega⟩
  refine ⟨Nat.le_of_ble_eq_true rfl, am_go (am_sp_mo _) (fun q => q == 2) 30 (fun X hX => ?_)⟩
  conv => whnf
  try dsimp only
  refine hX _ _ _ _ _ _ ?_
  have loop : ∀ m k o, k + m = sp a → bany (spn (i (23 + a)) (i (36 + a)) v) k = false → am_wp (ax_E xl xs) (ax_cd Y_Advisories_hasSpanWith) (am_sp (ax_E xl xs) ax_cd ax_ml d) Q 2 [some (.ref 20), some (.int (nI a)), some (.int v), some (.int (nI k)), o] [] (KS, i) 0 0 := by
    intro m
    induction m with
    | zero =>
      intro k o hk hno
      have : k = sp a := by omega
      subst this
      refine am_go (am_sp_mo _) (fun q => q == 2) 30 (fun X hX => ?_)
      conv => whnf
      try dsimp only
      refine ⟨12, [], rfl, vp_in_nI ha (by decide), ?_⟩
      conv => whnf
      try dsimp only
      rw [nI_clamp (by omega), hs.1]
      refine ⟨fun _ => ?_, fun hh => absurd (nI_le (Nat.le_refl _) (by omega)) hh⟩
      conv => whnf
      try dsimp only
      exact ⟨Or.inl rfl, h false hno.symm⟩
    | succ m ih =>
      intro k o hk hno
      refine am_go (am_sp_mo _) (fun q => q == 2) 40 (fun X hX => ?_)
      conv => whnf
      try dsimp only
      refine ⟨12, [], rfl, vp_in_nI ha (by decide), ?_⟩
      conv => whnf
      try dsimp only
      rw [nI_clamp (show a < 2 ^ 31 by omega), hs.1]
      refine ⟨fun hh => absurd hh (nI_ge (by omega) (by omega)), fun _ => ?_⟩
      conv => whnf
      try dsimp only
      refine ⟨12, _, 36 + a, rfl, vp_in_nI ha (by decide), by rw [nI_clamp (by omega)]; exact rg_to a ha, ?_⟩
      conv => whnf
      try dsimp only
      refine ⟨3, [], ks_to a ha, vp_in_nI (by omega) (by decide), ?_⟩
      conv => whnf
      try dsimp only
      refine ⟨12, _, 23 + a, rfl, vp_in_nI ha (by decide), by rw [nI_clamp (by omega)]; exact rg_fr a ha, ?_⟩
      conv => whnf
      try dsimp only
      refine ⟨3, [], ks_fr a ha, vp_in_nI (by omega) (by decide), ?_⟩
      conv => whnf
      try dsimp only
      rw [nI_clamp (show k < 2 ^ 31 by omega)]
      have nx : spn (i (23 + a)) (i (36 + a)) v k = false → am_wp (ax_E xl xs) (ax_cd Y_Advisories_hasSpanWith) (am_sp (ax_E xl xs) ax_cd ax_ml d) Q 2 [some (.ref 20), some (.int (nI a)), some (.int v), some (.int (nI k + Int32.ofInt 1)), some (.int (i (36 + a) k))] [] (KS, i) 0 0 := by
        intro hk2
        rw [li_1, nI_add]
        exact ih (k + 1) _ (by omega) (by rw [bany, hno, hk2]; rfl)
      have yes : spn (i (23 + a)) (i (36 + a)) v k = true → Q (some (.int 1)) (KS, i) := fun hy => h true (by rw [chas, bany_of (show k < sp a by omega) hy])
      refine ⟨fun hl => ?_, fun hl => ?_⟩
      · conv => whnf
        try dsimp only
        exact hX _ _ _ _ _ _ (nx (by unfold spn; rw [show decide (i (23 + a) k ≤ v) = false from decide_eq_false (by rw [Int32.le_iff_toInt_le]; rw [Int32.lt_iff_toInt_lt] at hl; omega)]; rfl))
      have hl' : decide (i (23 + a) k ≤ v) = true := decide_eq_true (by rw [Int32.le_iff_toInt_le]; rw [Int32.lt_iff_toInt_lt] at hl; omega)
      conv => whnf
      try dsimp only
      refine ⟨fun ht => ?_, fun ht => ?_⟩
      · conv => whnf
        try dsimp only
        exact ⟨Or.inr rfl, yes (by unfold spn; rw [hl', show decide (i (36 + a) k = -1) = true from decide_eq_true ht]; rfl)⟩
      conv => whnf
      try dsimp only
      refine ⟨fun hg => ?_, fun hg => ?_⟩
      · conv => whnf
        try dsimp only
        exact hX _ _ _ _ _ _ (nx (by unfold spn; rw [show decide (i (36 + a) k = -1) = false from decide_eq_false ht, show decide (v < i (36 + a) k) = false from decide_eq_false (by rw [Int32.lt_iff_toInt_lt]; rw [Int32.le_iff_toInt_le] at hg; omega), Bool.or_false, Bool.and_false]))
      · conv => whnf
        try dsimp only
        exact ⟨Or.inr rfl, yes (by unfold spn; rw [hl', show decide (v < i (36 + a) k) = true from decide_eq_true (by rw [Int32.lt_iff_toInt_lt]; rw [Int32.le_iff_toInt_le] at hg; omega), Bool.or_true]; rfl)⟩
  exact loop (sp a) 0 none (by omega) rfl
theorem k_strikes {a : Nat} {p v : Int32} (hA : AK i na sp) (hw : ∀ a, i 50 a = 0 ∨ i 50 a = 1) (ha : a < na) (hd : 3 ≤ d) (h : ∀ b : Bool, b = cstk i sp p v a → Q (some (.int (if b = true then 1 else 0))) (KS, i)) : SP xl xs d Y_Advisories_strikes [.ref 20, .int (nI a), .int p, .int v] (KS, i) Q := by
  have hn := hA.2.1
  obtain ⟨d, rfl⟩ : ∃ q, d = q + 1 := ⟨d - 1, by omega⟩
  refine ⟨Nat.le_of_ble_eq_true rfl, am_go (am_sp_mo _) (fun _ => false) 40 (fun X hX => ?_)⟩
  conv => whnf
  try dsimp only
  refine k_Adv_has hA.1 hn (by omega) (fun a' ha' hx => ?_) (fun hx => absurd rfl (out_np (by omega) hx ha))
  conv => whnf
  try dsimp only
  refine ⟨fun h => absurd h (by decide), fun _ => ?_⟩
  conv => whnf
  try dsimp only
  refine ⟨12, [], rfl, vp_in_nI (by omega) (by decide), ?_⟩
  conv => whnf
  try dsimp only
  rw [nI_clamp (show a < 2 ^ 31 by omega)]
  refine ⟨fun ho => ?_, fun ho => ?_⟩
  · conv => whnf
    try dsimp only
    exact ⟨Or.inl rfl, h false (by unfold cstk stk; rw [show decide (i 21 a = p) = false from decide_eq_false ho]; rfl)⟩
  have ho' : decide (i 21 a = p) = true := decide_eq_true ho
  conv => whnf
  try dsimp only
  refine ⟨12, [], rfl, vp_in_nI (by omega) (by decide), ?_⟩
  conv => whnf
  try dsimp only
  rw [nI_clamp (show a < 2 ^ 31 by omega)]
  rcases hw a with e | e
  · rw [e]
    refine ⟨fun h => absurd rfl h, fun _ => ?_⟩
    conv => whnf
    try dsimp only
    refine k_hasSpanWith hA (by omega) (by omega) (fun b hb => ?_)
    have hcs : cstk i sp p v a = b := by unfold cstk stk; rw [ho', show decide (i 50 a = 0) = true from decide_eq_true e, ← hb]; rfl
    cases b with
    | false =>
      conv => whnf
      try dsimp only
      refine ⟨fun _ => ?_, fun h => absurd rfl h⟩
      conv => whnf
      try dsimp only
      exact ⟨Or.inl rfl, h false hcs.symm⟩
    | true =>
      conv => whnf
      try dsimp only
      refine ⟨fun h => absurd h (by decide), fun _ => ?_⟩
      conv => whnf
      try dsimp only
      exact ⟨Or.inr rfl, h true hcs.symm⟩
  · rw [e]
    refine ⟨fun _ => ?_, fun h => absurd h (by decide)⟩
    conv => whnf
    try dsimp only
    exact ⟨Or.inl rfl, h false (by unfold cstk stk; rw [show decide (i 50 a = 0) = false from decide_eq_false (by rw [e]; decide), Bool.false_and, Bool.and_false])⟩
theorem k_scoreThere {g p v : Int32} (hA : AK i na sp) (hw : ∀ a, i 50 a = 0 ∨ i 50 a = 1) (hd : 4 ≤ d) (h : Q (some (.int (mx (cgst i sp g p v) (i 49) na))) (KS, i)) : SP xl xs d Y_Advisories_scoreThere [.ref 20, .int g, .int p, .int v] (KS, i) Q := by
  have hc := hA.1
  have hn := hA.2.1
  obtain ⟨d, rfl⟩ : ∃ q, d = q + 1 := ⟨d - 1, by omega⟩
  refine ⟨Nat.le_of_ble_eq_true rfl, am_go (am_sp_mo _) (fun q => q == 6) 30 (fun X hX => ?_)⟩
  conv => whnf
  try dsimp only
  refine hX _ _ _ _ _ _ ?_
  have loop : ∀ m k, k + m = na → am_wp (ax_E xl xs) (ax_cd Y_Advisories_scoreThere) (am_sp (ax_E xl xs) ax_cd ax_ml d) Q 6 [some (.ref 20), some (.int g), some (.int p), some (.int v), some (.int (mx (cgst i sp g p v) (i 49) k)), some (.int (nI k))] [] (KS, i) 0 0 := by
    intro m
    induction m with
    | zero =>
      intro k hk
      have : k = na := by omega
      subst this
      refine am_go (am_sp_mo _) (fun q => q == 6) 30 (fun X hX => ?_)
      conv => whnf
      try dsimp only
      refine ⟨fun _ => ?_, fun hh => absurd (by rw [hc]; exact nI_le (Nat.le_refl _) (by omega)) hh⟩
      conv => whnf
      try dsimp only
      exact h
    | succ m ih =>
      intro k hk
      have ih := ih (k + 1) (by omega)
      have nx : mx (cgst i sp g p v) (i 49) (k + 1) = mx (cgst i sp g p v) (i 49) k → am_wp (ax_E xl xs) (ax_cd Y_Advisories_scoreThere) (am_sp (ax_E xl xs) ax_cd ax_ml d) Q 6 [some (.ref 20), some (.int g), some (.int p), some (.int v), some (.int (mx (cgst i sp g p v) (i 49) k)), some (.int (nI k + Int32.ofInt 1))] [] (KS, i) 0 0 := by
        intro e
        rw [li_1, nI_add, ← e]
        exact ih
      refine am_go (am_sp_mo _) (fun q => q == 6) 40 (fun X hX => ?_)
      conv => whnf
      try dsimp only
      refine ⟨fun hh => absurd hh (by rw [hc]; exact nI_ge (by omega) (by omega)), fun _ => ?_⟩
      conv => whnf
      try dsimp only
      refine ⟨12, [], rfl, vp_in_nI (by omega) (by decide), ?_⟩
      conv => whnf
      try dsimp only
      rw [nI_clamp (show k < 2 ^ 31 by omega)]
      refine ⟨fun hg => ?_, fun hg => ?_⟩
      · conv => whnf
        try dsimp only
        exact hX _ _ _ _ _ _ (nx (by rw [mx, if_neg]; unfold cgst; rw [show decide (i 51 k = g) = false from decide_eq_false hg]; simp))
      conv => whnf
      try dsimp only
      refine k_strikes hA hw (by omega) (by omega) (fun b hb => ?_)
      have hcg : cgst i sp g p v k = b := by unfold cgst; rw [show decide (i 51 k = g) = true from decide_eq_true hg, ← hb]; rfl
      cases b with
      | false =>
        conv => whnf
        try dsimp only
        refine ⟨fun _ => ?_, fun h => absurd rfl h⟩
        conv => whnf
        try dsimp only
        exact hX _ _ _ _ _ _ (nx (by rw [mx, hcg]; simp))
      | true =>
        conv => whnf
        try dsimp only
        refine ⟨fun h => absurd h (by decide), fun _ => ?_⟩
        conv => whnf
        try dsimp only
        refine ⟨12, [], rfl, vp_in_nI (by omega) (by decide), ?_⟩
        conv => whnf
        try dsimp only
        refine hX _ _ _ _ _ _ (am_wpL ?_ rfl ih)
        show [_, _, _, _, some (Value.int (if mx (cgst i sp g p v) (i 49) k < i 49 (nI k).toNatClampNeg then i 49 (nI k).toNatClampNeg else mx (cgst i sp g p v) (i 49) k)), some (Value.int (nI k + Int32.ofInt 1))] = _
        rw [li_1, nI_add, nI_clamp (show k < 2 ^ 31 by omega), mx, if_pos hcg]
        try rfl
  exact loop na 0 (by omega)
theorem k_renameGroup {old nm : Int32} (hc : i 20 7 = nI na) (hn : na ≤ 12) (hd : 1 ≤ d) (h : ∀ j : Nat → Nat → Int32, (∀ b, b ≠ 51 → j b = i b) → (∀ a, j 51 a = if a < na ∧ i 51 a = old then nm else i 51 a) → Q none (KS, j)) : SP xl xs d Y_Advisories_renameGroup [.ref 20, .int old, .int nm] (KS, i) Q := by
  obtain ⟨d, rfl⟩ : ∃ q, d = q + 1 := ⟨d - 1, by omega⟩
  refine ⟨Nat.le_of_ble_eq_true rfl, am_go (am_sp_mo _) (fun q => q == 2) 30 (fun X hX => ?_)⟩
  conv => whnf
  try dsimp only
  refine hX _ _ _ _ _ _ ?_
  have loop : ∀ m k (j : Nat → Nat → Int32), k + m = na → (∀ b, b ≠ 51 → j b = i b) → (∀ a, j 51 a = if a < k ∧ i 51 a = old then nm else i 51 a) → am_wp (ax_E xl xs) (ax_cd Y_Advisories_renameGroup) (am_sp (ax_E xl xs) ax_cd ax_ml d) Q 2 [some (.ref 20), some (.int old), some (.int nm), some (.int (nI k))] [] (KS, j) 0 0 := by
    intro m
    induction m with
    | zero =>
      intro k j hk h1 h2
      have : k = na := by omega
      subst this
      refine am_go (am_sp_mo _) (fun q => q == 2) 30 (fun X hX => ?_)
      conv => whnf
      try dsimp only
      rw [h1 20 (by decide), hc]
      refine ⟨fun _ => ?_, fun hh => absurd (nI_le (Nat.le_refl _) (by omega)) hh⟩
      conv => whnf
      try dsimp only
      exact h j h1 h2
    | succ m ih =>
      intro k j hk h1 h2
      refine am_go (am_sp_mo _) (fun q => q == 2) 30 (fun X hX => ?_)
      conv => whnf
      try dsimp only
      rw [h1 20 (by decide), hc]
      refine ⟨fun hh => absurd hh (nI_ge (by omega) (by omega)), fun _ => ?_⟩
      conv => whnf
      try dsimp only
      refine ⟨12, [], rfl, vp_in_nI (by omega) (by decide), ?_⟩
      conv => whnf
      try dsimp only
      have hjk : j 51 (nI k).toNatClampNeg = i 51 k := by rw [nI_clamp (by omega), h2, if_neg (by omega)]
      rw [hjk]
      refine ⟨fun hne => ?_, fun heq => ?_⟩
      · conv => whnf
        try dsimp only
        refine hX _ _ _ _ _ _ (am_wpL ?_ rfl (ih (k + 1) j (by omega) h1 (fun a => ?_)))
        · show [_, _, _, some (Value.int (nI k + Int32.ofInt 1))] = _
          rw [li_1, nI_add]
          try rfl
        · rw [h2]
          by_cases ha : a = k
          · subst ha
            rw [if_neg (by omega), if_neg (fun q => hne q.2)]
          · by_cases ha2 : a < k ∧ i 51 a = old
            · rw [if_pos ha2, if_pos ⟨by omega, ha2.2⟩]
            · rw [if_neg ha2, if_neg (fun q => ha2 ⟨by omega, q.2⟩)]
      · conv => whnf
        try dsimp only
        refine ⟨12, [], rfl, vp_in_nI (by omega) (by decide), ?_⟩
        conv => whnf
        try dsimp only
        refine hX _ _ _ _ _ _ (am_wpL ?_ rfl (ih (k + 1) (am_up j 51 (nI k).toNatClampNeg nm) (by omega) (fun b hb => (up_a hb).trans (h1 b hb)) (fun a => ?_)))
        · show [_, _, _, some (Value.int (nI k + Int32.ofInt 1))] = _
          rw [li_1, nI_add]
          try rfl
        · rw [up_at, nI_clamp (by omega), h2]
          by_cases ha : a = k
          · subst ha
            rw [if_pos ⟨rfl, rfl⟩, if_pos ⟨by omega, heq⟩]
          · rw [if_neg (by omega)]
            by_cases ha2 : a < k ∧ i 51 a = old
            · rw [if_pos ha2, if_pos ⟨by omega, ha2.2⟩]
            · rw [if_neg ha2, if_neg (fun q => ha2 ⟨by omega, q.2⟩)]
  exact loop na 0 i (by omega) (fun _ _ => rfl) (fun a => by rw [if_neg (by omega)])
end ADV
end
section
/-! EXCEPTIONS, HITS KEPT, and the simple calls -/
theorem ks_en : ∀ a, a < 12 → KS[54 + a]? = some (0, 6, []) := by decide
theorem rg_en : ∀ a, a < 12 → am_rg [some 54, some 55, some 56, some 57, some 58, some 59, some 60, some 61, some 62, some 63, some 64, some 65] a = some (54 + a) := by decide
theorem ks_hr : ∀ a, a < 12 → KS[72 + a]? = some (0, 6, []) := by decide
theorem rg_hr : ∀ a, a < 12 → am_rg [some 72, some 73, some 74, some 75, some 76, some 77, some 78, some 79, some 80, some 81, some 82, some 83] a = some (72 + a) := by decide
section EXC
variable {xl : Nat} {xs : Nat → Int32} {d : Nat} {i : Nat → Nat → Int32} {Q : am_Q} {u : am_St}
theorem k_areNumbers {g p : Nat} (hg : g < 12) (hp : p < 6) (hd : 2 ≤ d) (h : Q (some (.int 1)) u) : SP xl xs d Y_Exceptions_areNumbers [.int (nI g), .int (nI p)] u Q := by
  obtain ⟨d, rfl⟩ : ∃ q, d = q + 1 := ⟨d - 1, by omega⟩
  refine ⟨Nat.le_of_ble_eq_true rfl, am_go (am_sp_mo _) (fun _ => false) 30 (fun X hX => ?_)⟩
  conv => whnf
  try dsimp only
  refine k_below 12 li_12 (by decide) (by omega) (fun k hk hx => ?_) (fun hx => absurd rfl (out_np (by decide) hx hg))
  conv => whnf
  try dsimp only
  refine ⟨fun h => absurd h (by decide), fun _ => ?_⟩
  conv => whnf
  try dsimp only
  refine k_below 6 li_6 (by decide) (by omega) (fun k hk hx => ?_) (fun hx => absurd rfl (out_np (by decide) hx hp))
  conv => whnf
  try dsimp only
  refine ⟨fun h => absurd h (by decide), fun _ => ?_⟩
  conv => whnf
  try dsimp only
  exact ⟨Or.inr rfl, h⟩
theorem k_exPut {g p : Nat} {e : Int32} (hg : g < 12) (hp : p < 6) (hd : 3 ≤ d) (h : Q none (KS, am_up i (54 + g) p e)) : SP xl xs d Y_Exceptions_put [.ref 52, .int (nI g), .int (nI p), .int e] (KS, i) Q := by
  obtain ⟨d, rfl⟩ : ∃ q, d = q + 1 := ⟨d - 1, by omega⟩
  refine ⟨Nat.le_of_ble_eq_true rfl, am_go (am_sp_mo _) (fun _ => false) 30 (fun X hX => ?_)⟩
  conv => whnf
  try dsimp only
  refine k_areNumbers hg hp (by omega) ?_
  conv => whnf
  try dsimp only
  refine ⟨fun h => absurd h (by decide), fun _ => ?_⟩
  conv => whnf
  try dsimp only
  refine ⟨12, _, 54 + g, rfl, vp_in_nI hg (by decide), by rw [nI_clamp (by omega)]; exact rg_en g hg, ?_⟩
  conv => whnf
  try dsimp only
  refine ⟨6, [], ks_en g hg, vp_in_nI hp (by decide), ?_⟩
  conv => whnf
  try dsimp only
  exact q_eq rfl (by rw [nI_clamp (by omega)]) h
theorem k_exHolds {g p : Nat} {c : Int32} (hg : g < 12) (hp : p < 6) (hd : 3 ≤ d) (h : ∀ b : Bool, b = decide (c < i (54 + g) p) → Q (some (.int (if b = true then 1 else 0))) (KS, i)) : SP xl xs d Y_Exceptions_holds [.ref 52, .int (nI g), .int (nI p), .int c] (KS, i) Q := by
  obtain ⟨d, rfl⟩ : ∃ q, d = q + 1 := ⟨d - 1, by omega⟩
  refine ⟨Nat.le_of_ble_eq_true rfl, am_go (am_sp_mo _) (fun _ => false) 30 (fun X hX => ?_)⟩
  conv => whnf
  try dsimp only
  refine k_areNumbers hg hp (by omega) ?_
  conv => whnf
  try dsimp only
  refine ⟨fun h => absurd h (by decide), fun _ => ?_⟩
  conv => whnf
  try dsimp only
  refine ⟨12, _, 54 + g, rfl, vp_in_nI hg (by decide), by rw [nI_clamp (by omega)]; exact rg_en g hg, ?_⟩
  conv => whnf
  try dsimp only
  refine ⟨6, [], ks_en g hg, vp_in_nI hp (by decide), ?_⟩
  conv => whnf
  try dsimp only
  rw [nI_clamp (show p < 2 ^ 31 by omega)]
  refine ⟨fun hh => ?_, fun hh => ?_⟩
  · conv => whnf
    try dsimp only
    exact ⟨Or.inl rfl, h false (decide_eq_false (by rw [Int32.lt_iff_toInt_lt]; rw [Int32.le_iff_toInt_le] at hh; omega)).symm⟩
  · conv => whnf
    try dsimp only
    exact ⟨Or.inr rfl, h true (decide_eq_true (by rw [Int32.lt_iff_toInt_lt]; rw [Int32.le_iff_toInt_le] at hh; omega)).symm⟩
theorem k_exJoin {g k : Nat} (hg : g < 12) (hk : k < 12) (hd : 3 ≤ d) (h : ∀ j : Nat → Nat → Int32, (∀ b, b ≠ 54 + k → j b = i b) → (∀ p, p < 6 → j (54 + k) p = if i (54 + k) p < i (54 + g) p then i (54 + g) p else i (54 + k) p) → Q none (KS, j)) : SP xl xs d Y_Exceptions_join [.ref 52, .int (nI g), .int (nI k)] (KS, i) Q := by
  obtain ⟨d, rfl⟩ : ∃ q, d = q + 1 := ⟨d - 1, by omega⟩
  refine ⟨Nat.le_of_ble_eq_true rfl, am_go (am_sp_mo _) (fun q => q == 2) 30 (fun X hX => ?_)⟩
  conv => whnf
  try dsimp only
  refine hX _ _ _ _ _ _ ?_
  have loop : ∀ m p (j : Nat → Nat → Int32), p + m = 6 → (∀ b, b ≠ 54 + k → j b = i b) → (∀ q, q < p → j (54 + k) q = if i (54 + k) q < i (54 + g) q then i (54 + g) q else i (54 + k) q) → (∀ q, p ≤ q → j (54 + k) q = i (54 + k) q) → am_wp (ax_E xl xs) (ax_cd Y_Exceptions_join) (am_sp (ax_E xl xs) ax_cd ax_ml d) Q 2 [some (.ref 52), some (.int (nI g)), some (.int (nI k)), some (.int (nI p))] [] (KS, j) 0 0 := by
    intro m
    induction m with
    | zero =>
      intro p j hp h1 h2 h3
      have : p = 6 := by omega
      subst this
      refine am_go (am_sp_mo _) (fun q => q == 2) 30 (fun X hX => ?_)
      conv => whnf
      try dsimp only
      refine ⟨fun _ => ?_, fun hh => absurd (by decide) hh⟩
      conv => whnf
      try dsimp only
      exact h j h1 h2
    | succ m ih =>
      intro p j hp h1 h2 h3
      refine am_go (am_sp_mo _) (fun q => q == 2) 60 (fun X hX => ?_)
      conv => whnf
      try dsimp only
      refine ⟨fun hh => absurd hh (by rw [li_6]; exact nI_ge (by omega) (by omega)), fun _ => ?_⟩
      conv => whnf
      try dsimp only
      refine k_areNumbers hg (by omega) (by omega) ?_
      conv => whnf
      try dsimp only
      refine ⟨fun h => absurd h (by decide), fun _ => ?_⟩
      conv => whnf
      try dsimp only
      refine k_areNumbers hk (by omega) (by omega) ?_
      conv => whnf
      try dsimp only
      refine ⟨fun h => absurd h (by decide), fun _ => ?_⟩
      conv => whnf
      try dsimp only
      refine ⟨12, _, 54 + k, rfl, vp_in_nI hk (by decide), by rw [nI_clamp (by omega)]; exact rg_en k hk, ?_⟩
      conv => whnf
      try dsimp only
      refine ⟨12, _, 54 + k, rfl, vp_in_nI hk (by decide), by rw [nI_clamp (by omega)]; exact rg_en k hk, ?_⟩
      conv => whnf
      try dsimp only
      refine ⟨6, [], ks_en k hk, vp_in_nI (by omega) (by decide), ?_⟩
      conv => whnf
      try dsimp only
      refine ⟨12, _, 54 + g, rfl, vp_in_nI hg (by decide), by rw [nI_clamp (by omega)]; exact rg_en g hg, ?_⟩
      conv => whnf
      try dsimp only
      refine ⟨6, [], ks_en g hg, vp_in_nI (by omega) (by decide), ?_⟩
      conv => whnf
      try dsimp only
      refine ⟨6, [], ks_en k hk, vp_in_nI (by omega) (by decide), ?_⟩
      conv => whnf
      try dsimp only
      rw [nI_clamp (show p < 2 ^ 31 by omega)]
      have hjg : j (54 + g) p = i (54 + g) p := by
        by_cases e : g = k
        · subst e; exact h3 p (Nat.le_refl _)
        · rw [h1 (54 + g) (by omega)]
      have hjk : j (54 + k) p = i (54 + k) p := h3 p (Nat.le_refl _)
      rw [hjg, hjk]
      refine hX _ _ _ _ _ _ (am_wpL ?_ rfl (ih (p + 1) (am_up j (54 + k) p (if i (54 + k) p < i (54 + g) p then i (54 + g) p else i (54 + k) p)) (by omega) (fun b hb => (up_a hb).trans (h1 b hb)) (fun q hq => ?_) (fun q hq => ?_)))
      · show [_, _, _, some (Value.int (nI p + Int32.ofInt 1))] = _
        rw [li_1, nI_add]
        try rfl
      · rw [up_at]
        by_cases e : q = p
        · subst e; rw [if_pos ⟨rfl, rfl⟩]
        · rw [if_neg (by omega)]; exact h2 q (by omega)
      · rw [up_at, if_neg (by omega)]
        exact h3 q (by omega)
  exact loop 6 0 i (by omega) (fun _ _ => rfl) (fun q hq => absurd hq (by omega)) (fun _ _ => rfl)
theorem k_hlCount (hd : 1 ≤ d) (h : Q (some (.int (i 70 1))) (KS, i)) : SP xl xs d Y_HitList_count [.ref 70] (KS, i) Q := by
  obtain ⟨d, rfl⟩ : ∃ q, d = q + 1 := ⟨d - 1, by omega⟩
  refine ⟨Nat.le_of_ble_eq_true rfl, am_go (am_sp_mo _) (fun _ => false) 20 (fun X hX => ?_)⟩
  conv => whnf
  try dsimp only
  exact h
theorem k_hlClear (hd : 1 ≤ d) (h : Q none (KS, am_up i 70 1 (nI 0))) : SP xl xs d Y_HitList_clear [.ref 70] (KS, i) Q := by
  obtain ⟨d, rfl⟩ : ∃ q, d = q + 1 := ⟨d - 1, by omega⟩
  refine ⟨Nat.le_of_ble_eq_true rfl, am_go (am_sp_mo _) (fun _ => false) 20 (fun X hX => ?_)⟩
  conv => whnf
  try dsimp only
  exact h
theorem k_hlAdd {nh : Nat} {a b c e f g : Int32} (hc : i 70 1 = nI nh) (hn : nh < 12) (hd : 1 ≤ d) (h : ∀ j : Nat → Nat → Int32, (∀ q, q ≠ 72 + nh → q ≠ 70 → j q = i q) → j 70 1 = nI (nh + 1) → j (72 + nh) 0 = a → j (72 + nh) 1 = b → j (72 + nh) 2 = c → j (72 + nh) 3 = e → j (72 + nh) 4 = f → j (72 + nh) 5 = g → Q none (KS, j)) : SP xl xs d Y_HitList_add [.ref 70, .int a, .int b, .int c, .int e, .int f, .int g] (KS, i) Q := by
  obtain ⟨d, rfl⟩ : ∃ q, d = q + 1 := ⟨d - 1, by omega⟩
  refine ⟨Nat.le_of_ble_eq_true rfl, am_go (am_sp_mo _) (fun _ => false) 60 (fun X hX => ?_)⟩
  conv => whnf
  try dsimp only
  rw [hc, li_12]
  refine ⟨fun _ => ?_, fun hh => absurd (nI_lt hn (by omega)) hh⟩
  conv => whnf
  try dsimp only
  refine ⟨12, _, 72 + nh, rfl, by rw [hc]; exact vp_in_nI hn (by decide), by rw [hc, nI_clamp (by omega)]; exact rg_hr nh hn, ?_⟩
  conv => whnf
  try dsimp only
  refine ⟨6, [], ks_hr nh hn, by unfold vp_in; decide, ?_⟩
  conv => whnf
  try dsimp only
  refine ⟨6, [], ks_hr nh hn, by unfold vp_in; decide, ?_⟩
  conv => whnf
  try dsimp only
  refine ⟨6, [], ks_hr nh hn, by unfold vp_in; decide, ?_⟩
  conv => whnf
  try dsimp only
  refine ⟨6, [], ks_hr nh hn, by unfold vp_in; decide, ?_⟩
  conv => whnf
  try dsimp only
  refine ⟨6, [], ks_hr nh hn, by unfold vp_in; decide, ?_⟩
  conv => whnf
  try dsimp only
  refine ⟨6, [], ks_hr nh hn, by unfold vp_in; decide, ?_⟩
  conv => whnf
  try dsimp only
  have z0 : (Int32.ofInt 0).toNatClampNeg = 0 := by decide
  have z1 : (Int32.ofInt 1).toNatClampNeg = 1 := by decide
  have z2 : (Int32.ofInt 2).toNatClampNeg = 2 := by decide
  have z3 : (Int32.ofInt 3).toNatClampNeg = 3 := by decide
  have z4 : (Int32.ofInt 4).toNatClampNeg = 4 := by decide
  have z5 : (Int32.ofInt 5).toNatClampNeg = 5 := by decide
  rw [z0, z1, z2, z3, z4, z5]
  have e70 : ¬ 70 = 72 + nh := by omega
  refine h _ (fun q h1 h2 => ?_) ?_ ?_ ?_ ?_ ?_ ?_ ?_
  · rw [up_a h2, up_a h1, up_a h1, up_a h1, up_a h1, up_a h1, up_a h1]
  · simp only [up_at, e70, hc, li_1, nI_add, false_and, if_false, and_self, if_true]
  · simp only [up_at, show ¬ 72 + nh = 70 by omega, false_and, if_false, true_and, Nat.reduceEqDiff, and_self, if_true]
  · simp only [up_at, show ¬ 72 + nh = 70 by omega, false_and, if_false, true_and, Nat.reduceEqDiff, and_self, if_true]
  · simp only [up_at, show ¬ 72 + nh = 70 by omega, false_and, if_false, true_and, Nat.reduceEqDiff, and_self, if_true]
  · simp only [up_at, show ¬ 72 + nh = 70 by omega, false_and, if_false, true_and, Nat.reduceEqDiff, and_self, if_true]
  · simp only [up_at, show ¬ 72 + nh = 70 by omega, false_and, if_false, true_and, Nat.reduceEqDiff, and_self, if_true]
  · simp only [up_at, show ¬ 72 + nh = 70 by omega, false_and, if_false, true_and, Nat.reduceEqDiff, and_self, if_true]
theorem k_hlPart {nh : Nat} {x y : Int32} (hc : i 70 1 = nI nh) (hn : nh ≤ 12) (hd : 2 ≤ d) (h1 : ∀ q w, q < nh → w < 6 → x = nI q → y = nI w → Q (some (.int (i (72 + q) w))) (KS, i)) (h0 : (∀ q w, q < nh → w < 6 → ¬ (x = nI q ∧ y = nI w)) → Q (some (.int (-1))) (KS, i)) : SP xl xs d Y_HitList_part [.ref 70, .int x, .int y] (KS, i) Q := by
  obtain ⟨d, rfl⟩ : ∃ q, d = q + 1 := ⟨d - 1, by omega⟩
  refine ⟨Nat.le_of_ble_eq_true rfl, am_go (am_sp_mo _) (fun _ => false) 40 (fun X hX => ?_)⟩
  conv => whnf
  try dsimp only
  refine k_below nh hc (by omega) (by omega) (fun q hq hx => ?_) (fun hx => ?_)
  · conv => whnf
    try dsimp only
    refine ⟨fun h => absurd h (by decide), fun _ => ?_⟩
    conv => whnf
    try dsimp only
    refine k_below 6 li_6 (by decide) (by omega) (fun w hw hy => ?_) (fun hy => ?_)
    · conv => whnf
      try dsimp only
      refine ⟨fun h => absurd h (by decide), fun _ => ?_⟩
      conv => whnf
      try dsimp only
      refine ⟨12, _, 72 + q, rfl, by rw [hx]; exact vp_in_nI (by omega) (by decide), by rw [hx, nI_clamp (by omega)]; exact rg_hr q (by omega), ?_⟩
      conv => whnf
      try dsimp only
      refine ⟨6, [], ks_hr q (by omega), by rw [hy]; exact vp_in_nI hw (by decide), ?_⟩
      conv => whnf
      try dsimp only
      exact q_eq (by rw [hy, nI_clamp (by omega)]) rfl (h1 q w hq hw hx hy)
    · conv => whnf
      try dsimp only
      refine ⟨fun _ => ?_, fun h => absurd rfl h⟩
      conv => whnf
      try dsimp only
      exact h0 fun q' w' _ hw' e => out_np (by decide) hy hw' e.2
  · conv => whnf
    try dsimp only
    refine ⟨fun _ => ?_, fun h => absurd rfl h⟩
    conv => whnf
    try dsimp only
    exact h0 fun q' w' hq' _ e => out_np (by omega) hx hq' e.1
end EXC
end
section
/-! THE CLASS'S SIMPLE CALLS -/
section CALLS
variable {xl : Nat} {xs : Nat → Int32} {d : Nat} {i : Nat → Nat → Int32} {Q : am_Q} {np nn na : Nat} {nv sp : Nat → Nat}
theorem c_pack {x : Int32} (hp : i 1 5 = nI np) (hn : np ≤ 6) (hd : 2 ≤ d) (h1 : np < 6 → Q (some (.int (nI np))) (KS, am_up (am_up i 2 np (vp_nar .boolean x)) 1 5 (nI (np + 1)))) (h0 : np = 6 → Q (some (.int (-1))) (KS, i)) : SP xl xs d Y_AM_pack [.ref 0, .int x] (KS, i) Q := by
  obtain ⟨d, rfl⟩ : ∃ q, d = q + 1 := ⟨d - 1, by omega⟩
  refine ⟨Nat.le_of_ble_eq_true rfl, am_go (am_sp_mo _) (fun _ => false) 20 (fun X hX => ?_)⟩
  conv => whnf
  try dsimp only
  refine k_Packs_add np hp hn (by omega) (fun h => ?_) (fun h => ?_)
  · conv => whnf
    try dsimp only
    exact h1 h
  · conv => whnf
    try dsimp only
    exact h0 h
theorem c_version {x v : Int32} (hk : PK i np nv) (hd : 4 ≤ d)
    (h1 : ∀ p, p < np → x = nI p → ¬ v < 0 → ¬ nI 1000000 < v → nv p < 5 → (nv p = 0 ∨ i (4 + p) (nv p - 1) < v) → Q (some (.int (nI (nv p)))) (KS, am_up (am_up i (4 + p) (nv p) v) 10 p (nI (nv p + 1))))
    (h0 : (∀ p, p < np → x = nI p → ¬ v < 0 → ¬ nI 1000000 < v → nv p < 5 → ¬ (nv p = 0 ∨ i (4 + p) (nv p - 1) < v)) → Q (some (.int (-1))) (KS, i)) : SP xl xs d Y_AM_version [.ref 0, .int x, .int v] (KS, i) Q := by
  obtain ⟨d, rfl⟩ : ∃ q, d = q + 1 := ⟨d - 1, by omega⟩
  refine ⟨Nat.le_of_ble_eq_true rfl, am_go (am_sp_mo _) (fun _ => false) 20 (fun X hX => ?_)⟩
  conv => whnf
  try dsimp only
  refine k_addVersion hk (by omega) (fun p a b c e f g => ?_) (fun h => ?_)
  · conv => whnf
    try dsimp only
    exact h1 p a b c e f g
  · conv => whnf
    try dsimp only
    exact h0 h
theorem c_install {x y : Int32} (hk : PK i np nv) (hd : 4 ≤ d)
    (h1 : ∀ p, p < np → x = nI p → y = -1 → Q (some (.int 1)) (KS, am_up (am_up i 11 p (-1)) 12 p (-1)))
    (h2 : ∀ p k, p < np → k < nv p → x = nI p → y = nI k → Q (some (.int 1)) (KS, am_up (am_up i 11 p (nI k)) 12 p (i (4 + p) k)))
    (h0 : (∀ p, p < np → x = nI p → ¬ y = -1 ∧ ∀ k, k < nv p → ¬ y = nI k) → Q (some (.int 0)) (KS, i)) : SP xl xs d Y_AM_install [.ref 0, .int x, .int y] (KS, i) Q := by
  obtain ⟨d, rfl⟩ : ∃ q, d = q + 1 := ⟨d - 1, by omega⟩
  refine ⟨Nat.le_of_ble_eq_true rfl, am_go (am_sp_mo _) (fun _ => false) 20 (fun X hX => ?_)⟩
  conv => whnf
  try dsimp only
  refine k_putPlace hk (by omega) (fun p a b c => ?_) (fun p k a b c e => ?_) (fun h => ?_)
  · conv => whnf
    try dsimp only
    exact ⟨Or.inr rfl, h1 p a b c⟩
  · conv => whnf
    try dsimp only
    exact ⟨Or.inr rfl, h2 p k a b c e⟩
  · conv => whnf
    try dsimp only
    exact ⟨Or.inl rfl, h0 h⟩
theorem c_need {x s y l g : Int32} (hp : i 1 5 = nI np) (hn : np ≤ 6) (hc : i 13 6 = nI nn) (hm : nn ≤ 16) (hd : 3 ≤ d)
    (h1 : ∀ p q, p < np → q < np → x = nI p → y = nI q → nn < 16 → Q (some (.int (nI nn))) (KS, am_up (am_up (am_up (am_up (am_up (am_up i 14 nn x) 15 nn s) 16 nn y) 17 nn l) 18 nn g) 13 6 (nI (nn + 1))))
    (h0 : (∀ p q, p < np → q < np → x = nI p → y = nI q → ¬ nn < 16) → Q (some (.int (-1))) (KS, i)) : SP xl xs d Y_AM_need [.ref 0, .int x, .int s, .int y, .int l, .int g] (KS, i) Q := by
  obtain ⟨d, rfl⟩ : ∃ q, d = q + 1 := ⟨d - 1, by omega⟩
  refine ⟨Nat.le_of_ble_eq_true rfl, am_go (am_sp_mo _) (fun _ => false) 30 (fun X hX => ?_)⟩
  conv => whnf
  try dsimp only
  refine k_Packs_has np hp hn (by omega) (fun p hpp hx => ?_) (fun hx => ?_)
  · conv => whnf
    try dsimp only
    refine ⟨fun h => absurd h (by decide), fun _ => ?_⟩
    conv => whnf
    try dsimp only
    refine k_Packs_has np hp hn (by omega) (fun q hq hy => ?_) (fun hy => ?_)
    · conv => whnf
      try dsimp only
      refine ⟨fun _ => ?_, fun h => absurd h (by decide)⟩
      conv => whnf
      try dsimp only
      refine k_Needs_add hc hm (by omega) (fun h => ?_) (fun h => ?_)
      · conv => whnf
        try dsimp only
        exact h1 p q hpp hq hx hy h
      · conv => whnf
        try dsimp only
        exact h0 fun _ _ _ _ _ _ => by omega
    · conv => whnf
      try dsimp only
      refine ⟨fun h => absurd rfl h, fun _ => ?_⟩
      conv => whnf
      try dsimp only
      exact h0 fun _ q _ hq _ e => absurd e (out_np (by omega) hy hq)
  · conv => whnf
    try dsimp only
    refine ⟨fun _ => ?_, fun h => absurd rfl h⟩
    conv => whnf
    try dsimp only
    exact h0 fun p _ hp' _ e _ => absurd e (out_np (by omega) hx hp')
theorem c_call {x v : Int32} (hc : i 13 6 = nI nn) (hn : nn ≤ 16) (hd : 3 ≤ d) (h1 : ∀ k, k < nn → x = nI k → Q (some (.int 1)) (KS, am_up i 19 k (vp_nar .boolean v))) (h0 : (x < 0 ∨ nI nn ≤ x) → Q (some (.int 0)) (KS, i)) : SP xl xs d Y_AM_call [.ref 0, .int x, .int v] (KS, i) Q := by
  obtain ⟨d, rfl⟩ : ∃ q, d = q + 1 := ⟨d - 1, by omega⟩
  refine ⟨Nat.le_of_ble_eq_true rfl, am_go (am_sp_mo _) (fun _ => false) 20 (fun X hX => ?_)⟩
  conv => whnf
  try dsimp only
  refine k_setCalled hc hn (by omega) (fun k a b => ?_) (fun h => ?_)
  · conv => whnf
    try dsimp only
    exact ⟨Or.inr rfl, h1 k a b⟩
  · conv => whnf
    try dsimp only
    exact ⟨Or.inl rfl, h0 h⟩
theorem c_advisory {x : Int32} (hp : i 1 5 = nI np) (hn : np ≤ 6) (hc : i 20 7 = nI na) (hm : na ≤ 12) (hd : 3 ≤ d)
    (h1 : ∀ p, p < np → x = nI p → na < 12 → Q (some (.int (nI na))) (KS, am_up (am_up (am_up i 21 na x) 51 na (nI na)) 20 7 (nI (na + 1))))
    (h0 : (∀ p, p < np → x = nI p → ¬ na < 12) → Q (some (.int (-1))) (KS, i)) : SP xl xs d Y_AM_advisory [.ref 0, .int x] (KS, i) Q := by
  obtain ⟨d, rfl⟩ : ∃ q, d = q + 1 := ⟨d - 1, by omega⟩
  refine ⟨Nat.le_of_ble_eq_true rfl, am_go (am_sp_mo _) (fun _ => false) 30 (fun X hX => ?_)⟩
  conv => whnf
  try dsimp only
  refine k_Packs_has np hp hn (by omega) (fun p hpp hx => ?_) (fun hx => ?_)
  · conv => whnf
    try dsimp only
    refine ⟨fun h => absurd h (by decide), fun _ => ?_⟩
    conv => whnf
    try dsimp only
    refine k_Adv_add hc hm (by omega) (fun h => ?_) (fun h => ?_)
    · conv => whnf
      try dsimp only
      exact h1 p hpp hx h
    · conv => whnf
      try dsimp only
      exact h0 fun _ _ _ => by omega
  · conv => whnf
    try dsimp only
    refine ⟨fun _ => ?_, fun h => absurd rfl h⟩
    conv => whnf
    try dsimp only
    exact h0 fun p hp' e => absurd e (out_np (by omega) hx hp')
theorem c_span {x f t : Int32} (hA : AK i na sp) (hd : 4 ≤ d)
    (h1 : ∀ a, a < na → x = nI a → ¬ f < 0 → (t = -1 ∨ f < t) → sp a < 3 → Q (some (.int 1)) (KS, am_up (am_up (am_up i (23 + a) (sp a) f) (36 + a) (sp a) t) 48 a (nI (sp a + 1))))
    (h0 : (∀ a, a < na → x = nI a → ¬ f < 0 → (t = -1 ∨ f < t) → ¬ sp a < 3) → Q (some (.int 0)) (KS, i)) : SP xl xs d Y_AM_span [.ref 0, .int x, .int f, .int t] (KS, i) Q := by
  obtain ⟨d, rfl⟩ : ∃ q, d = q + 1 := ⟨d - 1, by omega⟩
  refine ⟨Nat.le_of_ble_eq_true rfl, am_go (am_sp_mo _) (fun _ => false) 20 (fun X hX => ?_)⟩
  conv => whnf
  try dsimp only
  refine k_addSpan hA (by omega) (fun a b c e f g => ?_) (fun h => ?_)
  · conv => whnf
    try dsimp only
    exact ⟨Or.inr rfl, h1 a b c e f g⟩
  · conv => whnf
    try dsimp only
    exact ⟨Or.inl rfl, h0 h⟩
theorem c_withdraw {x v : Int32} (hc : i 20 7 = nI na) (hn : na ≤ 12) (hd : 4 ≤ d) (h1 : ∀ a, a < na → x = nI a → Q (some (.int 1)) (KS, am_up i 50 a (vp_nar .boolean v))) (h0 : (x < 0 ∨ nI na ≤ x) → Q (some (.int 0)) (KS, i)) : SP xl xs d Y_AM_withdraw [.ref 0, .int x, .int v] (KS, i) Q := by
  obtain ⟨d, rfl⟩ : ∃ q, d = q + 1 := ⟨d - 1, by omega⟩
  refine ⟨Nat.le_of_ble_eq_true rfl, am_go (am_sp_mo _) (fun _ => false) 20 (fun X hX => ?_)⟩
  conv => whnf
  try dsimp only
  refine k_setWithdrawn hc hn (by omega) (fun k a b => ?_) (fun h => ?_)
  · conv => whnf
    try dsimp only
    exact ⟨Or.inr rfl, h1 k a b⟩
  · conv => whnf
    try dsimp only
    exact ⟨Or.inl rfl, h0 h⟩
theorem c_group {x : Int32} (hc : i 20 7 = nI na) (hn : na ≤ 12) (hd : 4 ≤ d) (h1 : ∀ a, a < na → x = nI a → Q (some (.int (i 51 a))) (KS, i)) (h0 : (x < 0 ∨ nI na ≤ x) → Q (some (.int (-1))) (KS, i)) : SP xl xs d Y_AM_group [.ref 0, .int x] (KS, i) Q := by
  obtain ⟨d, rfl⟩ : ∃ q, d = q + 1 := ⟨d - 1, by omega⟩
  refine ⟨Nat.le_of_ble_eq_true rfl, am_go (am_sp_mo _) (fun _ => false) 20 (fun X hX => ?_)⟩
  conv => whnf
  try dsimp only
  refine k_groupOf hc hn (by omega) (fun k a b => ?_) (fun h => ?_)
  · conv => whnf
    try dsimp only
    exact h1 k a b
  · conv => whnf
    try dsimp only
    exact h0 h
theorem c_score {x : Int32} (hc : i 20 7 = nI na) (hn : na ≤ 12) (hd : 4 ≤ d) (h1 : ∀ a, a < na → x = nI a → Q (some (.int (i 49 a))) (KS, i)) (h0 : (x < 0 ∨ nI na ≤ x) → Q (some (.int (-1))) (KS, i)) : SP xl xs d Y_AM_score [.ref 0, .int x] (KS, i) Q := by
  obtain ⟨d, rfl⟩ : ∃ q, d = q + 1 := ⟨d - 1, by omega⟩
  refine ⟨Nat.le_of_ble_eq_true rfl, am_go (am_sp_mo _) (fun _ => false) 20 (fun X hX => ?_)⟩
  conv => whnf
  try dsimp only
  refine k_scoreOf hc hn (by omega) (fun k a b => ?_) (fun h => ?_)
  · conv => whnf
    try dsimp only
    exact h1 k a b
  · conv => whnf
    try dsimp only
    exact h0 h
theorem c_except {x y e : Int32} {gr : Nat → Nat} (hp : i 1 5 = nI np) (hn : np ≤ 6) (hc : i 20 7 = nI na) (hm : na ≤ 12) (hg : ∀ a, a < na → i 51 a = nI (gr a) ∧ gr a < 12) (hd : 4 ≤ d)
    (h1 : ∀ a p, a < na → p < np → x = nI a → y = nI p → ¬ e < 0 → Q (some (.int 1)) (KS, am_up i (54 + gr a) p e))
    (h0 : (∀ a p, a < na → p < np → x = nI a → y = nI p → e < 0) → Q (some (.int 0)) (KS, i)) : SP xl xs d Y_AM_except [.ref 0, .int x, .int y, .int e] (KS, i) Q := by
  obtain ⟨d, rfl⟩ : ∃ q, d = q + 1 := ⟨d - 1, by omega⟩
  refine ⟨Nat.le_of_ble_eq_true rfl, am_go (am_sp_mo _) (fun _ => false) 40 (fun X hX => ?_)⟩
  conv => whnf
  try dsimp only
  refine k_Adv_has hc hm (by omega) (fun a ha hx => ?_) (fun hx => ?_)
  · conv => whnf
    try dsimp only
    refine ⟨fun h => absurd h (by decide), fun _ => ?_⟩
    conv => whnf
    try dsimp only
    refine k_Packs_has np hp hn (by omega) (fun p hpp hy => ?_) (fun hy => ?_)
    · conv => whnf
      try dsimp only
      refine ⟨fun h => absurd h (by decide), fun _ => ?_⟩
      conv => whnf
      try dsimp only
      refine ⟨fun he => ?_, fun he => ?_⟩
      · conv => whnf
        try dsimp only
        refine k_groupOf hc hm (by omega) (fun a' ha' hx' => ?_) (fun hx' => absurd hx (out_np (by omega) hx' ha))
        have := nI_inj (by omega) (by omega) (hx'.symm.trans hx)
        subst this
        conv => whnf
        try dsimp only
        rw [(hg a' ha).1, hy]
        refine k_exPut (hg a' ha).2 (by omega) (by omega) ?_
        conv => whnf
        try dsimp only
        exact ⟨Or.inr rfl, h1 a' p ha hpp hx hy (by rw [Int32.lt_iff_toInt_lt]; rw [Int32.le_iff_toInt_le] at he; omega)⟩
      · conv => whnf
        try dsimp only
        exact ⟨Or.inl rfl, h0 fun _ _ _ _ _ _ => by rw [Int32.lt_iff_toInt_lt]; rw [Int32.le_iff_toInt_le] at he; omega⟩
    · conv => whnf
      try dsimp only
      refine ⟨fun _ => ?_, fun h => absurd rfl h⟩
      conv => whnf
      try dsimp only
      exact ⟨Or.inl rfl, h0 fun _ p _ hp' _ e' => absurd e' (out_np (by omega) hy hp')⟩
  · conv => whnf
    try dsimp only
    refine ⟨fun _ => ?_, fun h => absurd rfl h⟩
    conv => whnf
    try dsimp only
    exact ⟨Or.inl rfl, h0 fun a _ ha' _ e' => absurd e' (out_np (by omega) hx ha')⟩
theorem c_tick {x : Int32} {c : Nat} (hc : i 0 8 = nI c) (hm : c ≤ 1000000000) (hd : 1 ≤ d)
    (h1 : ∀ n, n ≤ 1000000 → x = nI n → c + n ≤ 1000000000 → Q (some (.int (nI (c + n)))) (KS, am_up i 0 8 (nI (c + n))))
    (h0 : (∀ n, n ≤ 1000000 → x = nI n → ¬ c + n ≤ 1000000000) → Q (some (.int (-1))) (KS, i)) : SP xl xs d Y_AM_tick [.ref 0, .int x] (KS, i) Q := by
  have tM : (Int32.ofInt 1000000).toInt = 1000000 := by decide
  obtain ⟨d, rfl⟩ : ∃ q, d = q + 1 := ⟨d - 1, by omega⟩
  refine ⟨Nat.le_of_ble_eq_true rfl, am_go (am_sp_mo _) (fun _ => false) 40 (fun X hX => ?_)⟩
  conv => whnf
  try dsimp only
  refine ⟨fun hx => ?_, fun hx => ?_⟩
  · conv => whnf
    try dsimp only
    exact h0 fun n hn e => absurd hx (by rw [e]; exact nI_pos (by omega))
  conv => whnf
  try dsimp only
  refine ⟨fun hx2 => ?_, fun hx2 => ?_⟩
  · conv => whnf
    try dsimp only
    refine h0 fun n hn e => absurd hx2 ?_
    rw [e, li_M]
    exact nI_nlt (by omega) (by omega)
  obtain ⟨n, hn, rfl⟩ : ∃ n, n ≤ 1000000 ∧ x = nI n := by
    rcases pk_ix x (n := 1000001) (by decide) with q | q | ⟨k, hk, e⟩
    · exact absurd q hx
    · refine absurd ?_ hx2
      rw [Int32.lt_iff_toInt_lt, tM]
      rw [Int32.le_iff_toInt_le, show (nI 1000001).toInt = 1000001 by decide] at q
      omega
    · exact ⟨k, by omega, e⟩
  conv => whnf
  try dsimp only
  rw [hc, li_G, pk_sub hm]
  refine ⟨fun hh => ?_, fun hh => ?_⟩
  · have hle : c + n ≤ 1000000000 := by
      have := (nI_leI (by omega) (by omega)).mp hh
      omega
    conv => whnf
    try dsimp only
    refine q_eq ?_ ?_ (h1 n hn rfl hle)
    · rw [up_s, hc, nI_add]
    · rw [hc, nI_add]
  · conv => whnf
    try dsimp only
    refine h0 fun n' hn' e => ?_
    have := nI_inj (by omega) (by omega) e
    subst this
    intro hle
    exact hh (nI_le (by omega) (by omega))
theorem c_hit {nh : Nat} {x y : Int32} (hc : i 70 1 = nI nh) (hn : nh ≤ 12) (hd : 3 ≤ d) (h1 : ∀ q w, q < nh → w < 6 → x = nI q → y = nI w → Q (some (.int (i (72 + q) w))) (KS, i)) (h0 : (∀ q w, q < nh → w < 6 → ¬ (x = nI q ∧ y = nI w)) → Q (some (.int (-1))) (KS, i)) : SP xl xs d Y_AM_hit [.ref 0, .int x, .int y] (KS, i) Q := by
  obtain ⟨d, rfl⟩ : ∃ q, d = q + 1 := ⟨d - 1, by omega⟩
  refine ⟨Nat.le_of_ble_eq_true rfl, am_go (am_sp_mo _) (fun _ => false) 20 (fun X hX => ?_)⟩
  conv => whnf
  try dsimp only
  refine k_hlPart hc hn (by omega) (fun q w a b c e => ?_) (fun h => ?_)
  · conv => whnf
    try dsimp only
    exact h1 q w a b c e
  · conv => whnf
    try dsimp only
    exact h0 h
theorem c_broken (hN : NK i nn) (hd : 4 ≤ d) (h : Q (some (.int (nI (bcnt (cbrk i (i 12)) nn)))) (KS, i)) : SP xl xs d Y_AM_broken [.ref 0] (KS, i) Q := by
  obtain ⟨d, rfl⟩ : ∃ q, d = q + 1 := ⟨d - 1, by omega⟩
  refine ⟨Nat.le_of_ble_eq_true rfl, am_go (am_sp_mo _) (fun _ => false) 20 (fun X hX => ?_)⟩
  conv => whnf
  try dsimp only
  refine k_installedVersions (by omega) ?_
  conv => whnf
  try dsimp only
  refine k_countBroken rfl hN (by omega) ?_
  conv => whnf
  try dsimp only
  exact h
theorem c_planned {x : Int32} (hd : 3 ≤ d) (h1 : ∀ p, p < 6 → x = nI p → Q (some (.int (i 88 p))) (KS, i)) (h0 : (x < 0 ∨ nI 6 ≤ x) → Q (some (.int (-1))) (KS, i)) : SP xl xs d Y_AM_planned [.ref 0, .int x] (KS, i) Q := by
  obtain ⟨d, rfl⟩ : ∃ q, d = q + 1 := ⟨d - 1, by omega⟩
  refine ⟨Nat.le_of_ble_eq_true rfl, am_go (am_sp_mo _) (fun _ => false) 20 (fun X hX => ?_)⟩
  conv => whnf
  try dsimp only
  have k_placeFor : ∀ {d : Nat} {Q : am_Q}, 2 ≤ d → (∀ p, p < 6 → x = nI p → Q (some (.int (i 88 p))) (KS, i)) → ((x < 0 ∨ nI 6 ≤ x) → Q (some (.int (-1))) (KS, i)) → SP xl xs d Y_Planner_placeFor [.ref 84, .int x] (KS, i) Q := by
    intro d Q hd h1 h0
    obtain ⟨d, rfl⟩ : ∃ q, d = q + 1 := ⟨d - 1, by omega⟩
    refine ⟨Nat.le_of_ble_eq_true rfl, am_go (am_sp_mo _) (fun _ => false) 20 (fun X hX => ?_)⟩
    conv => whnf
    try dsimp only
    refine k_below 6 li_6 (by decide) (by omega) (fun p hp hx => ?_) (fun hx => ?_)
    · conv => whnf
      try dsimp only
      refine ⟨fun h => absurd h (by decide), fun _ => ?_⟩
      conv => whnf
      try dsimp only
      refine ⟨6, [], rfl, by rw [hx]; exact vp_in_nI (by omega) (by decide), ?_⟩
      conv => whnf
      try dsimp only
      exact q_eq (by rw [hx, nI_clamp (by omega)]) rfl (h1 p hp hx)
    · conv => whnf
      try dsimp only
      refine ⟨fun _ => ?_, fun h => absurd rfl h⟩
      conv => whnf
      try dsimp only
      exact h0 hx
  refine k_placeFor (by omega) (fun p a b => ?_) (fun h => ?_)
  · conv => whnf
    try dsimp only
    exact h1 p a b
  · conv => whnf
    try dsimp only
    exact h0 h
end CALLS
end
section
/-! THE REFERENCE'S SIMPLE CALLS -/
def MPK (i : Nat → Nat → Int32) (np : Nat) (nv : Nat → Nat) : Prop := i 89 1 = nI np ∧ np ≤ 6 ∧ ∀ p, p < 6 → i 91 p = nI (nv p) ∧ nv p ≤ 5
def MAK (i : Nat → Nat → Int32) (na : Nat) (sp : Nat → Nat) : Prop := i 89 13 = nI na ∧ na ≤ 12 ∧ ∀ a, a < 12 → i 101 a = nI (sp a) ∧ sp a ≤ 3
section MODEL
variable {xl : Nat} {xs : Nat → Int32} {d : Nat} {i : Nat → Nat → Int32} {Q : am_Q} {u : am_St} {np nn na : Nat} {nv sp : Nat → Nat}
theorem m_isPack {x : Int32} (hp : i 89 1 = nI np) (hn : np ≤ 6) (hd : 1 ≤ d) (h1 : ∀ p, p < np → x = nI p → Q (some (.int 1)) (KS, i)) (h0 : (x < 0 ∨ nI np ≤ x) → Q (some (.int 0)) (KS, i)) : SP xl xs d Y_Model_isPack [.ref 89, .int x] (KS, i) Q := by
  obtain ⟨d, rfl⟩ : ∃ q, d = q + 1 := ⟨d - 1, by omega⟩
  refine ⟨Nat.le_of_ble_eq_true rfl, am_go (am_sp_mo _) (fun _ => false) 20 (fun X hX => ?_)⟩
  conv => whnf
  try dsimp only
  rcases pk_ix x (n := np) (by omega) with hx | hx | ⟨k, hk, hx⟩
  · refine ⟨fun _ => ?_, fun h => absurd hx h⟩
    conv => whnf
    try dsimp only
    exact ⟨Or.inl rfl, h0 (Or.inl hx)⟩
  · refine ⟨fun _ => ?_, fun _ => ?_⟩
    · conv => whnf
      try dsimp only
      exact ⟨Or.inl rfl, h0 (Or.inr hx)⟩
    · conv => whnf
      try dsimp only
      rw [hp]
      refine ⟨fun _ => ?_, fun h => absurd hx h⟩
      conv => whnf
      try dsimp only
      exact ⟨Or.inl rfl, h0 (Or.inr hx)⟩
  · refine ⟨fun h => absurd h (by rw [hx]; exact nI_pos (by omega)), fun _ => ?_⟩
    conv => whnf
    try dsimp only
    rw [hp]
    refine ⟨fun h => absurd h (by rw [hx]; exact nI_ge hk (by omega)), fun _ => ?_⟩
    conv => whnf
    try dsimp only
    exact ⟨Or.inr rfl, h1 k hk hx⟩
theorem m_isAdv {x : Int32} (hp : i 89 13 = nI na) (hn : na ≤ 12) (hd : 1 ≤ d) (h1 : ∀ p, p < na → x = nI p → Q (some (.int 1)) (KS, i)) (h0 : (x < 0 ∨ nI na ≤ x) → Q (some (.int 0)) (KS, i)) : SP xl xs d Y_Model_isAdvisory [.ref 89, .int x] (KS, i) Q := by
  obtain ⟨d, rfl⟩ : ∃ q, d = q + 1 := ⟨d - 1, by omega⟩
  refine ⟨Nat.le_of_ble_eq_true rfl, am_go (am_sp_mo _) (fun _ => false) 20 (fun X hX => ?_)⟩
  conv => whnf
  try dsimp only
  rcases pk_ix x (n := na) (by omega) with hx | hx | ⟨k, hk, hx⟩
  · refine ⟨fun _ => ?_, fun h => absurd hx h⟩
    conv => whnf
    try dsimp only
    exact ⟨Or.inl rfl, h0 (Or.inl hx)⟩
  · refine ⟨fun _ => ?_, fun _ => ?_⟩
    · conv => whnf
      try dsimp only
      exact ⟨Or.inl rfl, h0 (Or.inr hx)⟩
    · conv => whnf
      try dsimp only
      rw [hp]
      refine ⟨fun _ => ?_, fun h => absurd hx h⟩
      conv => whnf
      try dsimp only
      exact ⟨Or.inl rfl, h0 (Or.inr hx)⟩
  · refine ⟨fun h => absurd h (by rw [hx]; exact nI_pos (by omega)), fun _ => ?_⟩
    conv => whnf
    try dsimp only
    rw [hp]
    refine ⟨fun h => absurd h (by rw [hx]; exact nI_ge hk (by omega)), fun _ => ?_⟩
    conv => whnf
    try dsimp only
    exact ⟨Or.inr rfl, h1 k hk hx⟩
theorem m_in {v lo hi : Int32} (hd : 1 ≤ d) (h1 : lo ≤ v → v ≤ hi → Q (some (.int 1)) u) (h0 : (lo ≤ v → ¬ v ≤ hi) → Q (some (.int 0)) u) : SP xl xs d Y_Model_in [.int v, .int lo, .int hi] u Q := by
  obtain ⟨d, rfl⟩ : ∃ q, d = q + 1 := ⟨d - 1, by omega⟩
  refine ⟨Nat.le_of_ble_eq_true rfl, am_go (am_sp_mo _) (fun _ => false) 20 (fun X hX => ?_)⟩
  conv => whnf
  try dsimp only
  refine ⟨fun h => ?_, fun h => ?_⟩
  · conv => whnf
    try dsimp only
    exact ⟨Or.inl rfl, h0 fun h' => absurd h (by rw [Int32.lt_iff_toInt_lt]; rw [Int32.le_iff_toInt_le] at h'; omega)⟩
  · have hl : lo ≤ v := by rw [Int32.le_iff_toInt_le]; rw [Int32.lt_iff_toInt_lt] at h; omega
    conv => whnf
    try dsimp only
    refine ⟨fun h2 => ?_, fun h2 => ?_⟩
    · conv => whnf
      try dsimp only
      exact ⟨Or.inl rfl, h0 fun _ h' => absurd h2 (by rw [Int32.lt_iff_toInt_lt]; rw [Int32.le_iff_toInt_le] at h'; omega)⟩
    · conv => whnf
      try dsimp only
      exact ⟨Or.inr rfl, h1 hl (by rw [Int32.le_iff_toInt_le]; rw [Int32.lt_iff_toInt_lt] at h2; omega)⟩
theorem m_pack {x : Int32} (hp : i 89 1 = nI np) (hn : np ≤ 6) (hd : 1 ≤ d) (h1 : np < 6 → Q (some (.int (nI np))) (KS, am_up (am_up i 90 np (vp_nar .boolean x)) 89 1 (nI (np + 1)))) (h0 : np = 6 → Q (some (.int (-1))) (KS, i)) : SP xl xs d Y_Model_pack [.ref 89, .int x] (KS, i) Q := by
  obtain ⟨d, rfl⟩ : ∃ q, d = q + 1 := ⟨d - 1, by omega⟩
  refine ⟨Nat.le_of_ble_eq_true rfl, am_go (am_sp_mo _) (fun _ => false) 40 (fun X hX => ?_)⟩
  conv => whnf
  try dsimp only
  rw [hp, li_6]
  refine ⟨fun h => ?_, fun h => ?_⟩
  · have hlt : np < 6 := by
      have : ¬ np = 6 := fun e => h (by rw [e])
      omega
    conv => whnf
    try dsimp only
    refine ⟨6, [], rfl, by rw [hp]; exact vp_in_nI hlt (by decide), ?_⟩
    conv => whnf
    try dsimp only
    refine q_eq ?_ ?_ (h1 hlt)
    · simp only [hp, up_n, up_s, li_1, nI_add, ne_eq, Nat.reduceEqDiff, not_false_eq_true, true_or, nI_pred1]
    · simp only [hp, up_n, li_1, nI_add, ne_eq, Nat.reduceEqDiff, not_false_eq_true, true_or, nI_clamp (show np < 2 ^ 31 by omega)]
  · conv => whnf
    try dsimp only
    exact h0 (nI_inj (by omega) (by omega) h)
theorem m_version {x v : Int32} (hk : MPK i np nv) (hd : 2 ≤ d)
    (h1 : ∀ p, p < np → x = nI p → ¬ v < 0 → ¬ nI 1000000 < v → nv p < 5 → (nv p = 0 ∨ i 92 (5 * p + (nv p - 1)) < v) → Q (some (.int (nI (nv p)))) (KS, am_up (am_up i 92 (5 * p + nv p) v) 91 p (nI (nv p + 1))))
    (h0 : (∀ p, p < np → x = nI p → ¬ v < 0 → ¬ nI 1000000 < v → nv p < 5 → ¬ (nv p = 0 ∨ i 92 (5 * p + (nv p - 1)) < v)) → Q (some (.int (-1))) (KS, i)) : SP xl xs d Y_Model_version [.ref 89, .int x, .int v] (KS, i) Q := by
  obtain ⟨hp, hn, hv⟩ := hk
  obtain ⟨d, rfl⟩ : ∃ q, d = q + 1 := ⟨d - 1, by omega⟩
  refine ⟨Nat.le_of_ble_eq_true rfl, am_go (am_sp_mo _) (fun q => q == 64) 60 (fun X hX => ?_)⟩
  conv => whnf
  try dsimp only
  refine m_isPack hp hn (by omega) (fun p hpp hx => ?_) (fun hx => ?_)
  · have hv1 := hv p (by omega)
    have huni : ∀ q, q < np → x = nI q → q = p := fun q hq e => nI_inj (by omega) (by omega) (e.symm.trans hx)
    have hcl : i 91 x.toNatClampNeg = nI (nv p) := by rw [hx, nI_clamp (by omega)]; exact hv1.1
    have hin6 : vp_in x 6 := by rw [hx]; exact vp_in_nI (by omega) (by decide)
    conv => whnf
    try dsimp only
    refine ⟨fun h => absurd h (by decide), fun _ => ?_⟩
    conv => whnf
    try dsimp only
    refine ⟨6, [], rfl, hin6, ?_⟩
    conv => whnf
    try dsimp only
    rw [hcl, li_5]
    refine ⟨fun h5 => ?_, fun h5 => ?_⟩
    · conv => whnf
      try dsimp only
      refine h0 fun q hq e _ _ h => ?_
      have := huni q hq e
      subst this
      exact absurd (nI_inj (by omega) (by omega) h5) (by omega)
    have hlt : nv p < 5 := by
      have : ¬ nv p = 5 := fun e => h5 (by rw [e])
      omega
    conv => whnf
    try dsimp only
    refine m_in (by omega) (fun hl hh => ?_) (fun hno => ?_)
    · have hv0 : ¬ v < 0 := by
        rw [Int32.le_iff_toInt_le, li_0] at hl
        rw [Int32.lt_iff_toInt_lt]
        exact Int.not_lt.mpr hl
      have hvM : ¬ nI 1000000 < v := by
        rw [Int32.le_iff_toInt_le, li_M] at hh
        rw [Int32.lt_iff_toInt_lt]
        exact Int.not_lt.mpr hh
      have hend := h1 p hpp hx hv0 hvM hlt
      conv => whnf
      try dsimp only
      refine ⟨fun _ => ?_, fun h => absurd h (by decide)⟩
      conv => whnf
      try dsimp only
      refine ⟨6, [], rfl, hin6, ?_⟩
      conv => whnf
      try dsimp only
      refine ⟨6, [], rfl, hin6, ?_⟩
      conv => whnf
      try dsimp only
      have hat : Int32.ofInt 5 * x + i 91 x.toNatClampNeg = nI (5 * p + nv p) := by rw [hcl, hx, li_5, pk_mul, nI_add]
      have fin : (nv p = 0 ∨ i 92 (5 * p + (nv p - 1)) < v) → am_wp (ax_E xl xs) (ax_cd Y_Model_version) (am_sp (ax_E xl xs) ax_cd ax_ml d) Q 64 [some (.ref 89), some (.int x), some (.int v), some (.int (Int32.ofInt 5 * x + i 91 x.toNatClampNeg))] [] (KS, i) 0 0 := by
        intro hor
        rw [hat]
        refine am_go (am_sp_mo _) (fun _ => false) 60 (fun X hX => ?_)
        conv => whnf
        try dsimp only
        refine ⟨30, [], rfl, vp_in_nI (by omega) (by decide), ?_⟩
        conv => whnf
        try dsimp only
        refine ⟨6, [], rfl, hin6, ?_⟩
        conv => whnf
        try dsimp only
        refine ⟨6, [], rfl, hin6, ?_⟩
        conv => whnf
        try dsimp only
        refine ⟨6, [], rfl, hin6, ?_⟩
        conv => whnf
        try dsimp only
        rw [nI_clamp (show 5 * p + nv p < 2 ^ 31 by omega)]
        refine q_eq ?_ ?_ (hend hor)
        · rw [up_s, up_n (Or.inl (by decide)), hcl, li_1, nI_add, nI_pred1]
        · rw [up_n (Or.inl (by decide)), hcl, hx, nI_clamp (by omega), li_1, nI_add]
      rw [hcl]
      refine ⟨fun hz => ?_, fun hz => ?_⟩
      · have hz0 : nv p = 0 := by
          rcases Nat.eq_zero_or_pos (nv p) with q | q
          · exact q
          · exact absurd hz (nI_nle q (by omega))
        conv => whnf
        try dsimp only
        exact hX _ _ _ _ _ _ (by have := fin (Or.inl hz0); rw [hcl] at this; exact this)
      · have hpos : 0 < nv p := by
          rcases Nat.eq_zero_or_pos (nv p) with q | q
          · exact absurd (by rw [q]; decide) hz
          · exact q
        have hat2 : Int32.ofInt 5 * x + nI (nv p) - Int32.ofInt 1 = nI (5 * p + (nv p - 1)) := by rw [hx, li_5, pk_mul, nI_add, li_1, show 5 * p + nv p = (5 * p + (nv p - 1)) + 1 by omega, nI_pred1]
        conv => whnf
        try dsimp only
        refine ⟨30, [], rfl, by rw [hat2]; exact vp_in_nI (by omega) (by decide), ?_⟩
        conv => whnf
        try dsimp only
        rw [hat2, nI_clamp (by omega)]
        refine ⟨fun h => ?_, fun h => ?_⟩
        · conv => whnf
          try dsimp only
          exact hX _ _ _ _ _ _ (by have := fin (Or.inr h); rw [hcl] at this; exact this)
        · conv => whnf
          try dsimp only
          refine h0 fun q hq e _ _ _ h9 => ?_
          have := huni q hq e
          subst this
          rcases h9 with h9 | h9
          · omega
          · exact h h9
    · conv => whnf
      try dsimp only
      refine ⟨fun h => absurd rfl h, fun _ => ?_⟩
      conv => whnf
      try dsimp only
      refine h0 fun q _ _ hv0 hvM => ?_
      refine absurd (hno ?_) (fun h => h ?_)
      · rw [Int32.le_iff_toInt_le, li_0]
        rw [Int32.lt_iff_toInt_lt] at hv0
        exact Int.not_lt.mp hv0
      · rw [Int32.le_iff_toInt_le, li_M]
        rw [Int32.lt_iff_toInt_lt] at hvM
        exact Int.not_lt.mp hvM
  · conv => whnf
    try dsimp only
    refine ⟨fun _ => ?_, fun h => absurd rfl h⟩
    conv => whnf
    try dsimp only
    exact h0 fun q hq e => absurd e (out_np (by omega) hx hq)
theorem m_install {x y : Int32} (hk : MPK i np nv) (hd : 2 ≤ d)
    (h1 : ∀ p, p < np → x = nI p → y = -1 → Q (some (.int 1)) (KS, am_up i 93 p (-1)))
    (h2 : ∀ p k, p < np → k < nv p → x = nI p → y = nI k → Q (some (.int 1)) (KS, am_up i 93 p (nI k)))
    (h0 : (∀ p, p < np → x = nI p → ¬ y = -1 ∧ ∀ k, k < nv p → ¬ y = nI k) → Q (some (.int 0)) (KS, i)) : SP xl xs d Y_Model_install [.ref 89, .int x, .int y] (KS, i) Q := by
  obtain ⟨hp, hn, hv⟩ := hk
  obtain ⟨d, rfl⟩ : ∃ q, d = q + 1 := ⟨d - 1, by omega⟩
  refine ⟨Nat.le_of_ble_eq_true rfl, am_go (am_sp_mo _) (fun _ => false) 60 (fun X hX => ?_)⟩
  conv => whnf
  try dsimp only
  refine m_isPack hp hn (by omega) (fun p hpp hx => ?_) (fun hx => ?_)
  · have hv1 := hv p (by omega)
    have huni : ∀ q, q < np → x = nI q → q = p := fun q hq e => nI_inj (by omega) (by omega) (e.symm.trans hx)
    have hcl : i 91 x.toNatClampNeg = nI (nv p) := by rw [hx, nI_clamp (by omega)]; exact hv1.1
    have hin6 : vp_in x 6 := by rw [hx]; exact vp_in_nI (by omega) (by decide)
    have tm : (Int32.ofInt (-1)).toInt = -1 := by decide
    have hcase : y = -1 ∨ (∃ k, k < nv p ∧ y = nI k) ∨ ¬ (Int32.ofInt (-1) ≤ y ∧ y ≤ nI (nv p) - nI 1) := by
      by_cases hz : nv p = 0
      · by_cases e : y = -1
        · exact Or.inl e
        · refine Or.inr (Or.inr fun h => e ?_)
          rw [hz, nI_0m1, Int32.le_iff_toInt_le, Int32.le_iff_toInt_le, tm, show (-1 : Int32).toInt = -1 by decide] at h
          apply Int32.toInt_inj.mp
          rw [show (-1 : Int32).toInt = -1 by decide]
          omega
      · rw [show nI (nv p) - nI 1 = nI (nv p - 1) by rw [show nv p = (nv p - 1) + 1 by omega]; exact nI_pred1 _]
        rcases pk_ix y (n := nv p) (by omega) with q | q | ⟨k, hk, e⟩
        · by_cases e : y = -1
          · exact Or.inl e
          · refine Or.inr (Or.inr fun h => e ?_)
            rw [Int32.le_iff_toInt_le, tm] at h
            rw [Int32.lt_iff_toInt_lt, show (0 : Int32).toInt = 0 by decide] at q
            apply Int32.toInt_inj.mp
            rw [show (-1 : Int32).toInt = -1 by decide]
            omega
        · refine Or.inr (Or.inr fun h => ?_)
          have h3 := h.2
          rw [Int32.le_iff_toInt_le, nI_toInt (by omega)] at h3 q
          omega
        · exact Or.inr (Or.inl ⟨k, hk, e⟩)
    conv => whnf
    try dsimp only
    refine ⟨fun h => absurd h (by decide), fun _ => ?_⟩
    conv => whnf
    try dsimp only
    refine ⟨6, [], rfl, hin6, ?_⟩
    conv => whnf
    try dsimp only
    rw [hcl, li_1]
    refine m_in (by omega) (fun hl hh => ?_) (fun hno => ?_)
    · conv => whnf
      try dsimp only
      refine ⟨fun _ => ?_, fun h => absurd h (by decide)⟩
      conv => whnf
      try dsimp only
      refine ⟨6, [], rfl, hin6, ?_⟩
      conv => whnf
      try dsimp only
      rcases hcase with e | ⟨k, hk, e⟩ | e
      · exact ⟨Or.inr rfl, q_eq rfl (by rw [hx, nI_clamp (by omega), e]) (h1 p hpp hx e)⟩
      · exact ⟨Or.inr rfl, q_eq rfl (by rw [hx, nI_clamp (by omega), e]) (h2 p k hpp hk hx e)⟩
      · exact absurd ⟨hl, hh⟩ e
    · conv => whnf
      try dsimp only
      refine ⟨fun h => absurd rfl h, fun _ => ?_⟩
      conv => whnf
      try dsimp only
      refine ⟨Or.inl rfl, h0 fun q hq e => ?_⟩
      have := huni q hq e
      subst this
      refine ⟨fun e => ?_, fun k hk e => ?_⟩
      · refine absurd (hno (by rw [e]; decide)) (fun h => h ?_)
        rw [e]
        by_cases hz : nv q = 0
        · rw [hz]; decide
        · rw [show nI (nv q) - nI 1 = nI (nv q - 1) by rw [show nv q = (nv q - 1) + 1 by omega]; exact nI_pred1 _, Int32.le_iff_toInt_le, nI_toInt (by omega), show (-1 : Int32).toInt = -1 by decide]
          omega
      · refine absurd (hno (by rw [e, Int32.le_iff_toInt_le, tm, nI_toInt (by omega)]; omega)) (fun h => h ?_)
        rw [e, show nI (nv q) - nI 1 = nI (nv q - 1) by rw [show nv q = (nv q - 1) + 1 by omega]; exact nI_pred1 _]
        exact nI_le (by omega) (by omega)
  · conv => whnf
    try dsimp only
    refine ⟨fun _ => ?_, fun h => absurd rfl h⟩
    conv => whnf
    try dsimp only
    exact ⟨Or.inl rfl, h0 fun q hq e => absurd e (out_np (by omega) hx hq)⟩
theorem m_need {x s y l g : Int32} (hp : i 89 1 = nI np) (hn : np ≤ 6) (hc : i 89 6 = nI nn) (hm : nn ≤ 16) (hd : 2 ≤ d)
    (h1 : ∀ p q, p < np → q < np → x = nI p → y = nI q → nn < 16 → Q (some (.int (nI nn))) (KS, am_up (am_up (am_up (am_up (am_up (am_up i 94 nn x) 95 nn s) 96 nn y) 97 nn l) 98 nn g) 89 6 (nI (nn + 1))))
    (h0 : (∀ p q, p < np → q < np → x = nI p → y = nI q → ¬ nn < 16) → Q (some (.int (-1))) (KS, i)) : SP xl xs d Y_Model_need [.ref 89, .int x, .int s, .int y, .int l, .int g] (KS, i) Q := by
  obtain ⟨d, rfl⟩ : ∃ q, d = q + 1 := ⟨d - 1, by omega⟩
  refine ⟨Nat.le_of_ble_eq_true rfl, am_go (am_sp_mo _) (fun _ => false) 70 (fun X hX => ?_)⟩
  conv => whnf
  try dsimp only
  rw [hc, li_16]
  refine ⟨fun h => ?_, fun h => ?_⟩
  · conv => whnf
    try dsimp only
    have := nI_inj (by omega) (by omega) h
    exact h0 fun _ _ _ _ _ _ => by omega
  have hlt : nn < 16 := by
    have : ¬ nn = 16 := fun e => h (by rw [e])
    omega
  conv => whnf
  try dsimp only
  refine m_isPack hp hn (by omega) (fun p hpp hx => ?_) (fun hx => ?_)
  · conv => whnf
    try dsimp only
    refine ⟨fun h => absurd h (by decide), fun _ => ?_⟩
    conv => whnf
    try dsimp only
    refine m_isPack hp hn (by omega) (fun q hq hy => ?_) (fun hy => ?_)
    · have hin : ∀ {x : Int32}, x = nI nn → vp_in x 16 := fun e => by rw [e]; exact vp_in_nI hlt (by decide)
      conv => whnf
      try dsimp only
      refine ⟨fun _ => ?_, fun h => absurd h (by decide)⟩
      conv => whnf
      try dsimp only
      refine ⟨16, [], rfl, hin hc, ?_⟩
      conv => whnf
      try dsimp only
      refine ⟨16, [], rfl, hin (by rw [up_n (Or.inl (by decide))]; exact hc), ?_⟩
      conv => whnf
      try dsimp only
      refine ⟨16, [], rfl, hin (by rw [up_n (Or.inl (by decide)), up_n (Or.inl (by decide))]; exact hc), ?_⟩
      conv => whnf
      try dsimp only
      refine ⟨16, [], rfl, hin (by rw [up_n (Or.inl (by decide)), up_n (Or.inl (by decide)), up_n (Or.inl (by decide))]; exact hc), ?_⟩
      conv => whnf
      try dsimp only
      refine ⟨16, [], rfl, hin (by rw [up_n (Or.inl (by decide)), up_n (Or.inl (by decide)), up_n (Or.inl (by decide)), up_n (Or.inl (by decide))]; exact hc), ?_⟩
      conv => whnf
      try dsimp only
      refine q_eq ?_ ?_ (h1 p q hpp hq hx hy hlt)
      · simp only [hc, up_n, up_s, li_1, nI_add, ne_eq, Nat.reduceEqDiff, not_false_eq_true, true_or, nI_pred1]
      · simp only [hc, up_n, li_1, nI_add, ne_eq, Nat.reduceEqDiff, not_false_eq_true, true_or, nI_clamp (show nn < 2 ^ 31 by omega)]
    · conv => whnf
      try dsimp only
      refine ⟨fun h => absurd rfl h, fun _ => ?_⟩
      conv => whnf
      try dsimp only
      exact h0 fun _ q _ hq _ e => absurd e (out_np (by omega) hy hq)
  · conv => whnf
    try dsimp only
    refine ⟨fun _ => ?_, fun h => absurd rfl h⟩
    conv => whnf
    try dsimp only
    exact h0 fun p _ hp' _ e _ => absurd e (out_np (by omega) hx hp')
theorem m_call {x v : Int32} (hc : i 89 6 = nI nn) (hn : nn ≤ 16) (hd : 1 ≤ d) (h1 : ∀ k, k < nn → x = nI k → Q (some (.int 1)) (KS, am_up i 99 k (vp_nar .boolean v))) (h0 : (x < 0 ∨ nI nn ≤ x) → Q (some (.int 0)) (KS, i)) : SP xl xs d Y_Model_call [.ref 89, .int x, .int v] (KS, i) Q := by
  obtain ⟨d, rfl⟩ : ∃ q, d = q + 1 := ⟨d - 1, by omega⟩
  refine ⟨Nat.le_of_ble_eq_true rfl, am_go (am_sp_mo _) (fun _ => false) 30 (fun X hX => ?_)⟩
  conv => whnf
  try dsimp only
  rcases pk_ix x (n := nn) (by omega) with hx | hx | ⟨k, hk, hx⟩
  · refine ⟨fun _ => ?_, fun h => absurd hx h⟩
    conv => whnf
    try dsimp only
    exact ⟨Or.inl rfl, h0 (Or.inl hx)⟩
  · refine ⟨fun _ => ?_, fun _ => ?_⟩
    · conv => whnf
      try dsimp only
      exact ⟨Or.inl rfl, h0 (Or.inr hx)⟩
    · conv => whnf
      try dsimp only
      rw [hc]
      refine ⟨fun h => absurd h (by rw [Int32.lt_iff_toInt_lt]; rw [Int32.le_iff_toInt_le] at hx; omega), fun _ => ?_⟩
      conv => whnf
      try dsimp only
      exact ⟨Or.inl rfl, h0 (Or.inr hx)⟩
  · refine ⟨fun h => absurd h (by rw [hx]; exact nI_pos (by omega)), fun _ => ?_⟩
    conv => whnf
    try dsimp only
    rw [hc]
    refine ⟨fun _ => ?_, fun h => absurd (by rw [hx]; exact nI_lt hk (by omega)) h⟩
    conv => whnf
    try dsimp only
    refine ⟨16, [], rfl, by rw [hx]; exact vp_in_nI (by omega) (by decide), ?_⟩
    conv => whnf
    try dsimp only
    exact ⟨Or.inr rfl, q_eq rfl (by rw [hx, nI_clamp (by omega)]) (h1 k hk hx)⟩
theorem m_advisory {x : Int32} (hp : i 89 1 = nI np) (hn : np ≤ 6) (hc : i 89 13 = nI na) (hm : na ≤ 12) (hd : 2 ≤ d)
    (h1 : ∀ p, p < np → x = nI p → na < 12 → Q (some (.int (nI na))) (KS, am_up (am_up (am_up i 100 na x) 106 na (nI na)) 89 13 (nI (na + 1))))
    (h0 : (∀ p, p < np → x = nI p → ¬ na < 12) → Q (some (.int (-1))) (KS, i)) : SP xl xs d Y_Model_advisory [.ref 89, .int x] (KS, i) Q := by
  obtain ⟨d, rfl⟩ : ∃ q, d = q + 1 := ⟨d - 1, by omega⟩
  refine ⟨Nat.le_of_ble_eq_true rfl, am_go (am_sp_mo _) (fun _ => false) 60 (fun X hX => ?_)⟩
  conv => whnf
  try dsimp only
  rw [hc, li_12]
  refine ⟨fun h => ?_, fun h => ?_⟩
  · conv => whnf
    try dsimp only
    have := nI_inj (by omega) (by omega) h
    exact h0 fun _ _ _ => by omega
  have hlt : na < 12 := by
    have : ¬ na = 12 := fun e => h (by rw [e])
    omega
  conv => whnf
  try dsimp only
  refine m_isPack hp hn (by omega) (fun p hpp hx => ?_) (fun hx => ?_)
  · conv => whnf
    try dsimp only
    refine ⟨fun _ => ?_, fun h => absurd h (by decide)⟩
    conv => whnf
    try dsimp only
    refine ⟨12, [], rfl, by rw [hc]; exact vp_in_nI hlt (by decide), ?_⟩
    conv => whnf
    try dsimp only
    refine ⟨12, [], rfl, by rw [up_n (Or.inl (by decide)), hc]; exact vp_in_nI hlt (by decide), ?_⟩
    conv => whnf
    try dsimp only
    refine q_eq ?_ ?_ (h1 p hpp hx hlt)
    · simp only [hc, up_n, up_s, li_1, nI_add, ne_eq, Nat.reduceEqDiff, not_false_eq_true, true_or, nI_pred1]
    · simp only [hc, up_n, li_1, nI_add, ne_eq, Nat.reduceEqDiff, not_false_eq_true, true_or, nI_clamp (show na < 2 ^ 31 by omega)]
  · conv => whnf
    try dsimp only
    refine ⟨fun h => absurd rfl h, fun _ => ?_⟩
    conv => whnf
    try dsimp only
    exact h0 fun p hp' e => absurd e (out_np (by omega) hx hp')
theorem m_span {x f t : Int32} (hA : MAK i na sp) (hd : 2 ≤ d)
    (h1 : ∀ a, a < na → x = nI a → ¬ f < 0 → (t = -1 ∨ f < t) → sp a < 3 → Q (some (.int 1)) (KS, am_up (am_up (am_up i 102 (3 * a + sp a) f) 103 (3 * a + sp a) t) 101 a (nI (sp a + 1))))
    (h0 : (∀ a, a < na → x = nI a → ¬ f < 0 → (t = -1 ∨ f < t) → ¬ sp a < 3) → Q (some (.int 0)) (KS, i)) : SP xl xs d Y_Model_span [.ref 89, .int x, .int f, .int t] (KS, i) Q := by
  obtain ⟨hc, hn, hs⟩ := hA
  obtain ⟨d, rfl⟩ : ∃ q, d = q + 1 := ⟨d - 1, by omega⟩
  refine ⟨Nat.le_of_ble_eq_true rfl, am_go (am_sp_mo _) (fun q => q == 34) 60 (fun X hX => ?_)⟩
  conv => whnf
  try dsimp only
  refine m_isAdv hc hn (by omega) (fun a ha hx => ?_) (fun hx => ?_)
  · have hs1 := hs a (by omega)
    have huni : ∀ q, q < na → x = nI q → q = a := fun q hq e => nI_inj (by omega) (by omega) (e.symm.trans hx)
    have hcl : i 101 x.toNatClampNeg = nI (sp a) := by rw [hx, nI_clamp (by omega)]; exact hs1.1
    have hin : vp_in x 12 := by rw [hx]; exact vp_in_nI (by omega) (by decide)
    conv => whnf
    try dsimp only
    refine ⟨fun h => absurd h (by decide), fun _ => ?_⟩
    conv => whnf
    try dsimp only
    refine ⟨12, [], rfl, hin, ?_⟩
    conv => whnf
    try dsimp only
    rw [hcl, li_3]
    refine ⟨fun h3 => ?_, fun h3 => ?_⟩
    · conv => whnf
      try dsimp only
      refine ⟨Or.inl rfl, h0 fun q hq e _ _ => ?_⟩
      have := huni q hq e
      subst this
      have := nI_inj (by omega) (by omega) h3
      omega
    have hlt : sp a < 3 := by
      have : ¬ sp a = 3 := fun e => h3 (by rw [e])
      omega
    conv => whnf
    try dsimp only
    refine ⟨fun h => ?_, fun hf0 => ?_⟩
    · conv => whnf
      try dsimp only
      exact ⟨Or.inl rfl, h0 fun q _ _ hq0 => absurd h hq0⟩
    have go : (t = -1 ∨ f < t) → am_wp (ax_E xl xs) (ax_cd Y_Model_span) (am_sp (ax_E xl xs) ax_cd ax_ml d) Q 34 [some (.ref 89), some (.int x), some (.int f), some (.int t)] [] (KS, i) 0 0 := by
      intro ht
      have hat : Int32.ofInt 3 * x + i 101 x.toNatClampNeg = nI (3 * a + sp a) := by rw [hcl, hx, li_3, pk_mul, nI_add]
      refine am_go (am_sp_mo _) (fun _ => false) 60 (fun X hX => ?_)
      conv => whnf
      try dsimp only
      refine ⟨12, [], rfl, hin, ?_⟩
      conv => whnf
      try dsimp only
      refine ⟨36, [], rfl, by rw [hat]; exact vp_in_nI (by omega) (by decide), ?_⟩
      conv => whnf
      try dsimp only
      rw [hat]
      refine ⟨12, [], rfl, hin, ?_⟩
      conv => whnf
      try dsimp only
      rw [up_n (Or.inl (by decide)), hat]
      refine ⟨36, [], rfl, vp_in_nI (by omega) (by decide), ?_⟩
      conv => whnf
      try dsimp only
      refine ⟨12, [], rfl, hin, ?_⟩
      conv => whnf
      try dsimp only
      refine ⟨12, [], rfl, hin, ?_⟩
      conv => whnf
      try dsimp only
      refine ⟨Or.inr rfl, q_eq rfl ?_ (h1 a ha hx hf0 ht hlt)⟩
      rw [up_n (Or.inl (by decide)), up_n (Or.inl (by decide)), hcl, nI_clamp (by omega), li_1, nI_add, hx, nI_clamp (by omega)]
    conv => whnf
    try dsimp only
    refine ⟨fun ht => hX _ _ _ _ _ _ (go (Or.inl ht)), fun ht => ?_⟩
    conv => whnf
    try dsimp only
    refine ⟨fun ht2 => hX _ _ _ _ _ _ (go (Or.inr ht2)), fun ht2 => ?_⟩
    conv => whnf
    try dsimp only
    exact ⟨Or.inl rfl, h0 fun q _ _ _ h => absurd h (by rintro (h | h) <;> contradiction)⟩
  · conv => whnf
    try dsimp only
    refine ⟨fun _ => ?_, fun h => absurd rfl h⟩
    conv => whnf
    try dsimp only
    exact ⟨Or.inl rfl, h0 fun q hq e => absurd e (out_np (by omega) hx hq)⟩
theorem m_withdraw {x v : Int32} (hc : i 89 13 = nI na) (hn : na ≤ 12) (hd : 2 ≤ d) (h1 : ∀ a, a < na → x = nI a → Q (some (.int 1)) (KS, am_up i 105 a (vp_nar .boolean v))) (h0 : (x < 0 ∨ nI na ≤ x) → Q (some (.int 0)) (KS, i)) : SP xl xs d Y_Model_withdraw [.ref 89, .int x, .int v] (KS, i) Q := by
  obtain ⟨d, rfl⟩ : ∃ q, d = q + 1 := ⟨d - 1, by omega⟩
  refine ⟨Nat.le_of_ble_eq_true rfl, am_go (am_sp_mo _) (fun _ => false) 30 (fun X hX => ?_)⟩
  conv => whnf
  try dsimp only
  refine m_isAdv hc hn (by omega) (fun a ha hx => ?_) (fun hx => ?_)
  · conv => whnf
    try dsimp only
    refine ⟨fun _ => ?_, fun h => absurd h (by decide)⟩
    conv => whnf
    try dsimp only
    refine ⟨12, [], rfl, by rw [hx]; exact vp_in_nI (by omega) (by decide), ?_⟩
    conv => whnf
    try dsimp only
    exact ⟨Or.inr rfl, q_eq rfl (by rw [hx, nI_clamp (by omega)]) (h1 a ha hx)⟩
  · conv => whnf
    try dsimp only
    refine ⟨fun h => absurd rfl h, fun _ => ?_⟩
    conv => whnf
    try dsimp only
    exact ⟨Or.inl rfl, h0 hx⟩
theorem m_group {x : Int32} (hc : i 89 13 = nI na) (hn : na ≤ 12) (hd : 2 ≤ d) (h1 : ∀ a, a < na → x = nI a → Q (some (.int (i 106 a))) (KS, i)) (h0 : (x < 0 ∨ nI na ≤ x) → Q (some (.int (-1))) (KS, i)) : SP xl xs d Y_Model_group [.ref 89, .int x] (KS, i) Q := by
  obtain ⟨d, rfl⟩ : ∃ q, d = q + 1 := ⟨d - 1, by omega⟩
  refine ⟨Nat.le_of_ble_eq_true rfl, am_go (am_sp_mo _) (fun _ => false) 30 (fun X hX => ?_)⟩
  conv => whnf
  try dsimp only
  refine m_isAdv hc hn (by omega) (fun a ha hx => ?_) (fun hx => ?_)
  · conv => whnf
    try dsimp only
    refine ⟨fun h => absurd h (by decide), fun _ => ?_⟩
    conv => whnf
    try dsimp only
    refine ⟨12, [], rfl, by rw [hx]; exact vp_in_nI (by omega) (by decide), ?_⟩
    conv => whnf
    try dsimp only
    exact q_eq (by rw [hx, nI_clamp (by omega)]) rfl (h1 a ha hx)
  · conv => whnf
    try dsimp only
    refine ⟨fun _ => ?_, fun h => absurd rfl h⟩
    conv => whnf
    try dsimp only
    exact h0 hx
theorem m_except {x y e : Int32} {gr : Nat → Nat} (hp : i 89 1 = nI np) (hn : np ≤ 6) (hc : i 89 13 = nI na) (hm : na ≤ 12) (hg : ∀ a, a < na → i 106 a = nI (gr a) ∧ gr a < 12) (hd : 2 ≤ d)
    (h1 : ∀ a p, a < na → p < np → x = nI a → y = nI p → ¬ e < 0 → Q (some (.int 1)) (KS, am_up i 107 (6 * gr a + p) e))
    (h0 : (∀ a p, a < na → p < np → x = nI a → y = nI p → e < 0) → Q (some (.int 0)) (KS, i)) : SP xl xs d Y_Model_except [.ref 89, .int x, .int y, .int e] (KS, i) Q := by
  obtain ⟨d, rfl⟩ : ∃ q, d = q + 1 := ⟨d - 1, by omega⟩
  refine ⟨Nat.le_of_ble_eq_true rfl, am_go (am_sp_mo _) (fun _ => false) 40 (fun X hX => ?_)⟩
  conv => whnf
  try dsimp only
  refine m_isAdv hc hm (by omega) (fun a ha hx => ?_) (fun hx => ?_)
  · conv => whnf
    try dsimp only
    refine ⟨fun h => absurd h (by decide), fun _ => ?_⟩
    conv => whnf
    try dsimp only
    refine m_isPack hp hn (by omega) (fun p hpp hy => ?_) (fun hy => ?_)
    · conv => whnf
      try dsimp only
      refine ⟨fun h => absurd h (by decide), fun _ => ?_⟩
      conv => whnf
      try dsimp only
      refine ⟨fun he => ?_, fun he => ?_⟩
      · have hg1 := hg a ha
        have hat : Int32.ofInt 6 * i 106 x.toNatClampNeg + y = nI (6 * gr a + p) := by rw [hx, nI_clamp (by omega), hg1.1, hy, li_6, pk_mul, nI_add]
        conv => whnf
        try dsimp only
        refine ⟨12, [], rfl, by rw [hx]; exact vp_in_nI (by omega) (by decide), ?_⟩
        conv => whnf
        try dsimp only
        refine ⟨72, [], rfl, by rw [hat]; exact vp_in_nI (by omega) (by decide), ?_⟩
        conv => whnf
        try dsimp only
        exact ⟨Or.inr rfl, q_eq rfl (by rw [hat, nI_clamp (by omega)]) (h1 a p ha hpp hx hy (by rw [Int32.lt_iff_toInt_lt]; rw [Int32.le_iff_toInt_le] at he; omega))⟩
      · conv => whnf
        try dsimp only
        exact ⟨Or.inl rfl, h0 fun _ _ _ _ _ _ => by rw [Int32.lt_iff_toInt_lt]; rw [Int32.le_iff_toInt_le] at he; omega⟩
    · conv => whnf
      try dsimp only
      refine ⟨fun _ => ?_, fun h => absurd rfl h⟩
      conv => whnf
      try dsimp only
      exact ⟨Or.inl rfl, h0 fun _ p _ hp' _ e' => absurd e' (out_np (by omega) hy hp')⟩
  · conv => whnf
    try dsimp only
    refine ⟨fun _ => ?_, fun h => absurd rfl h⟩
    conv => whnf
    try dsimp only
    exact ⟨Or.inl rfl, h0 fun a _ ha' _ e' => absurd e' (out_np (by omega) hx ha')⟩
theorem m_tick {x : Int32} {c : Nat} (hc : i 89 0 = nI c) (hm : c ≤ 1000000000) (hd : 2 ≤ d)
    (h1 : ∀ n, n ≤ 1000000 → x = nI n → c + n ≤ 1000000000 → Q (some (.int (nI (c + n)))) (KS, am_up i 89 0 (nI (c + n))))
    (h0 : (∀ n, n ≤ 1000000 → x = nI n → ¬ c + n ≤ 1000000000) → Q (some (.int (-1))) (KS, i)) : SP xl xs d Y_Model_tick [.ref 89, .int x] (KS, i) Q := by
  obtain ⟨d, rfl⟩ : ∃ q, d = q + 1 := ⟨d - 1, by omega⟩
  refine ⟨Nat.le_of_ble_eq_true rfl, am_go (am_sp_mo _) (fun _ => false) 40 (fun X hX => ?_)⟩
  conv => whnf
  try dsimp only
  refine m_in (by omega) (fun hl hh => ?_) (fun hno => ?_)
  · obtain ⟨n, hn, rfl⟩ : ∃ n, n ≤ 1000000 ∧ x = nI n := by
      rw [Int32.le_iff_toInt_le, li_0, show (nI 0).toInt = 0 by decide] at hl
      rw [Int32.le_iff_toInt_le, li_M, show (nI 1000000).toInt = 1000000 by decide] at hh
      rcases pk_ix x (n := 1000001) (by decide) with q | q | ⟨k, hk, e⟩
      · rw [Int32.lt_iff_toInt_lt, show (0 : Int32).toInt = 0 by decide] at q
        omega
      · rw [Int32.le_iff_toInt_le, show (nI 1000001).toInt = 1000001 by decide] at q
        omega
      · exact ⟨k, by omega, e⟩
    conv => whnf
    try dsimp only
    refine ⟨fun h => absurd h (by decide), fun _ => ?_⟩
    conv => whnf
    try dsimp only
    rw [hc, li_G, nI_add]
    refine ⟨fun hh => ?_, fun hh => ?_⟩
    · have hle : c + n ≤ 1000000000 := (nI_leI (by omega) (by omega)).mp hh
      conv => whnf
      try dsimp only
      refine q_eq ?_ ?_ (h1 n hn rfl hle)
      · rw [up_s, hc, nI_add]
      · rw [hc, nI_add]
    · conv => whnf
      try dsimp only
      refine h0 fun n' hn' e => ?_
      have := nI_inj (by omega) (by omega) e
      subst this
      intro hle
      exact hh (nI_le (by omega) (by omega))
  · conv => whnf
    try dsimp only
    refine ⟨fun _ => ?_, fun h => absurd rfl h⟩
    conv => whnf
    try dsimp only
    refine h0 fun n hn e => ?_
    refine absurd (hno ?_) (fun h => h ?_)
    · rw [e, li_0]; exact nI_le (by omega) (by omega)
    · rw [e, li_M]; exact nI_le (by omega) (by omega)
end MODEL
end
section
/-! THE REFERENCE: needs, updates -/
def MNK (i : Nat → Nat → Int32) (nn : Nat) : Prop := i 89 6 = nI nn ∧ nn ≤ 16 ∧ ∀ k, k < nn → ∃ a b, a < 6 ∧ b < 6 ∧ i 94 k = nI a ∧ i 96 k = nI b
/-- the places looked at now -/
def NWK (i : Nat → Nat → Int32) : Prop := (∀ p, p < 6 → i 111 p = -1 ∨ ∃ q, q < 5 ∧ i 111 p = nI q) ∧ ∀ q, q < 30 → ¬ i 92 q = -1
/-- the versions at places w -/
def wv (ver w : Nat → Int32) (p : Nat) : Int32 := if w p = -1 then -1 else ver (5 * p + (w p).toNatClampNeg)
abbrev mact (i : Nat → Nat → Int32) : Nat → Bool := nact (i 94) (i 95) (wv (i 92) (i 111))
abbrev mhld (i : Nat → Nat → Int32) : Nat → Bool := nhld (i 96) (i 97) (i 98) (wv (i 92) (i 111))
abbrev mbrk (i : Nat → Nat → Int32) : Nat → Bool := nbrk (i 94) (i 95) (i 96) (i 97) (i 98) (wv (i 92) (i 111))
section MODEL2
variable {xl : Nat} {xs : Nat → Int32} {d : Nat} {i : Nat → Nat → Int32} {Q : am_Q} {np nn : Nat}
theorem m_look (hd : 1 ≤ d) (h : ∀ j : Nat → Nat → Int32, (∀ b, b ≠ 111 → j b = i b) → (∀ p, p < 6 → j 111 p = i 93 p) → Q none (KS, j)) : SP xl xs d Y_Model_lookAtInstalled [.ref 89] (KS, i) Q := by
  obtain ⟨d, rfl⟩ : ∃ q, d = q + 1 := ⟨d - 1, by omega⟩
  refine ⟨Nat.le_of_ble_eq_true rfl, am_go (am_sp_mo _) (fun q => q == 2) 30 (fun X hX => ?_)⟩
  conv => whnf
  try dsimp only
  refine hX _ _ _ _ _ _ ?_
  have loop : ∀ m p (j : Nat → Nat → Int32), p + m = 6 → (∀ b, b ≠ 111 → j b = i b) → (∀ q, q < p → j 111 q = i 93 q) → am_wp (ax_E xl xs) (ax_cd Y_Model_lookAtInstalled) (am_sp (ax_E xl xs) ax_cd ax_ml d) Q 2 [some (.ref 89), some (.int (nI p))] [] (KS, j) 0 0 := by
    intro m
    induction m with
    | zero =>
      intro p j hp h1 h2
      have : p = 6 := by omega
      subst this
      refine am_go (am_sp_mo _) (fun q => q == 2) 30 (fun X hX => ?_)
      conv => whnf
      try dsimp only
      refine ⟨fun _ => ?_, fun hh => absurd (by decide) hh⟩
      conv => whnf
      try dsimp only
      exact h j h1 h2
    | succ m ih =>
      intro p j hp h1 h2
      refine am_go (am_sp_mo _) (fun q => q == 2) 30 (fun X hX => ?_)
      conv => whnf
      try dsimp only
      refine ⟨fun hh => absurd hh (by rw [li_6]; exact nI_ge (by omega) (by omega)), fun _ => ?_⟩
      conv => whnf
      try dsimp only
      refine ⟨6, [], rfl, vp_in_nI (by omega) (by decide), ?_⟩
      conv => whnf
      try dsimp only
      refine ⟨6, [], rfl, vp_in_nI (by omega) (by decide), ?_⟩
      conv => whnf
      try dsimp only
      rw [nI_clamp (show p < 2 ^ 31 by omega), h1 93 (by decide)]
      refine hX _ _ _ _ _ _ (am_wpL ?_ rfl (ih (p + 1) (am_up j 111 p (i 93 p)) (by omega) (fun b hb => (up_a hb).trans (h1 b hb)) (fun q hq => ?_)))
      · show [_, some (Value.int (nI p + Int32.ofInt 1))] = _
        rw [li_1, nI_add]
        try rfl
      · rw [up_at]
        by_cases e : q = p
        · subst e; rw [if_pos ⟨rfl, rfl⟩]
        · rw [if_neg (by omega)]; exact h2 q (by omega)
  exact loop 6 0 i (by omega) (fun _ _ => rfl) (fun q hq => absurd hq (by omega))
theorem m_active {k : Nat} (hN : MNK i nn) (hW : NWK i) (hk : k < nn) (hd : 1 ≤ d) (h : ∀ b : Bool, b = mact i k → Q (some (.int (if b = true then 1 else 0))) (KS, i)) : SP xl xs d Y_Model_isActive [.ref 89, .int (nI k)] (KS, i) Q := by
  obtain ⟨hc, hn, hN⟩ := hN
  obtain ⟨p, q, hp, hq, e1, e2⟩ := hN k hk
  have hcl : (nI k).toNatClampNeg = k := nI_clamp (by omega)
  have hcp : (nI p).toNatClampNeg = p := nI_clamp (by omega)
  obtain ⟨d, rfl⟩ : ∃ q, d = q + 1 := ⟨d - 1, by omega⟩
  refine ⟨Nat.le_of_ble_eq_true rfl, am_go (am_sp_mo _) (fun _ => false) 40 (fun X hX => ?_)⟩
  conv => whnf
  try dsimp only
  refine ⟨16, [], rfl, vp_in_nI (by omega) (by decide), ?_⟩
  conv => whnf
  try dsimp only
  rw [hcl, e1]
  refine ⟨6, [], rfl, vp_in_nI hp (by decide), ?_⟩
  conv => whnf
  try dsimp only
  rw [hcp]
  refine ⟨fun hm => ?_, fun hm => ?_⟩
  · conv => whnf
    try dsimp only
    exact ⟨Or.inl rfl, h false (by unfold mact nact; rw [e1, hcp, show wv (i 92) (i 111) p = -1 by unfold wv; exact if_pos hm]; rfl)⟩
  · obtain ⟨z, hz, ez⟩ := (hW.1 p hp).resolve_left hm
    have hwv : wv (i 92) (i 111) p = i 92 (5 * p + z) := by unfold wv; rw [if_neg (show ¬ i 111 p = -1 from hm), ez, nI_clamp (by omega)]
    have hat : Int32.ofInt 5 * nI p + i 111 p = nI (5 * p + z) := by rw [ez, li_5, pk_mul, nI_add]
    have hne := hW.2 (5 * p + z) (by omega)
    conv => whnf
    try dsimp only
    rw [hcp]
    refine ⟨6, [], rfl, vp_in_nI hp (by decide), ?_⟩
    conv => whnf
    try dsimp only
    rw [hat]
    refine ⟨30, [], rfl, vp_in_nI (by omega) (by decide), ?_⟩
    conv => whnf
    try dsimp only
    rw [nI_clamp (show 5 * p + z < 2 ^ 31 by omega)]
    refine ⟨16, [], rfl, vp_in_nI (by omega) (by decide), ?_⟩
    conv => whnf
    try dsimp only
    rw [hcl]
    refine ⟨fun hl => ?_, fun hl => ?_⟩
    · conv => whnf
      try dsimp only
      exact ⟨Or.inl rfl, h false (by unfold mact nact; rw [e1, hcp, hwv, show decide (i 95 k ≤ i 92 (5 * p + z)) = false from decide_eq_false (by rw [Int32.le_iff_toInt_le]; rw [Int32.lt_iff_toInt_lt] at hl; omega), Bool.and_false])⟩
    · conv => whnf
      try dsimp only
      exact ⟨Or.inr rfl, h true (by unfold mact nact; rw [e1, hcp, hwv, show decide (i 95 k ≤ i 92 (5 * p + z)) = true from decide_eq_true (by rw [Int32.le_iff_toInt_le]; rw [Int32.lt_iff_toInt_lt] at hl; omega), show decide (i 92 (5 * p + z) = -1) = false from decide_eq_false hne]; rfl)⟩
theorem m_holds {k : Nat} (hN : MNK i nn) (hW : NWK i) (hk : k < nn) (hd : 1 ≤ d) (h : ∀ b : Bool, b = mhld i k → Q (some (.int (if b = true then 1 else 0))) (KS, i)) : SP xl xs d Y_Model_doesHold [.ref 89, .int (nI k)] (KS, i) Q := by
  obtain ⟨hc, hn, hN⟩ := hN
  obtain ⟨q, p, hq, hp, e2, e1⟩ := hN k hk
  have hcl : (nI k).toNatClampNeg = k := nI_clamp (by omega)
  have hcp : (nI p).toNatClampNeg = p := nI_clamp (by omega)
  obtain ⟨d, rfl⟩ : ∃ q, d = q + 1 := ⟨d - 1, by omega⟩
  refine ⟨Nat.le_of_ble_eq_true rfl, am_go (am_sp_mo _) (fun _ => false) 50 (fun X hX => ?_)⟩
  conv => whnf
  try dsimp only
  refine ⟨16, [], rfl, vp_in_nI (by omega) (by decide), ?_⟩
  conv => whnf
  try dsimp only
  rw [hcl, e1]
  refine ⟨6, [], rfl, vp_in_nI hp (by decide), ?_⟩
  conv => whnf
  try dsimp only
  rw [hcp]
  refine ⟨fun hm => ?_, fun hm => ?_⟩
  · obtain ⟨z, hz, ez⟩ := (hW.1 p hp).resolve_left hm
    have hwv : wv (i 92) (i 111) p = i 92 (5 * p + z) := by unfold wv; rw [if_neg (show ¬ i 111 p = -1 from hm), ez, nI_clamp (by omega)]
    have hat : Int32.ofInt 5 * nI p + i 111 p = nI (5 * p + z) := by rw [ez, li_5, pk_mul, nI_add]
    have hne' : decide (i 92 (5 * p + z) = -1) = false := decide_eq_false (hW.2 (5 * p + z) (by omega))
    conv => whnf
    try dsimp only
    rw [hcp]
    refine ⟨6, [], rfl, vp_in_nI hp (by decide), ?_⟩
    conv => whnf
    try dsimp only
    rw [hat]
    refine ⟨30, [], rfl, vp_in_nI (by omega) (by decide), ?_⟩
    conv => whnf
    try dsimp only
    rw [nI_clamp (show 5 * p + z < 2 ^ 31 by omega)]
    refine ⟨16, [], rfl, vp_in_nI (by omega) (by decide), ?_⟩
    conv => whnf
    try dsimp only
    rw [hcl]
    refine ⟨fun hl => ?_, fun hl => ?_⟩
    · conv => whnf
      try dsimp only
      exact ⟨Or.inl rfl, h false (by unfold mhld nhld; rw [e1, hcp, hwv, show decide (i 97 k ≤ i 92 (5 * p + z)) = false from decide_eq_false (by rw [Int32.le_iff_toInt_le]; rw [Int32.lt_iff_toInt_lt] at hl; omega), Bool.false_and, Bool.and_false])⟩
    · have hl' : decide (i 97 k ≤ i 92 (5 * p + z)) = true := decide_eq_true (by rw [Int32.le_iff_toInt_le]; rw [Int32.lt_iff_toInt_lt] at hl; omega)
      conv => whnf
      try dsimp only
      rw [hcl]
      refine ⟨16, [], rfl, vp_in_nI (by omega) (by decide), ?_⟩
      conv => whnf
      try dsimp only
      refine ⟨fun hg => ?_, fun hg => ?_⟩
      · conv => whnf
        try dsimp only
        exact ⟨Or.inl rfl, h false (by unfold mhld nhld; rw [e1, hcp, hwv, show decide (i 92 (5 * p + z) < i 98 k) = false from decide_eq_false (by rw [Int32.lt_iff_toInt_lt]; rw [Int32.le_iff_toInt_le] at hg; omega), Bool.and_false, Bool.and_false])⟩
      · conv => whnf
        try dsimp only
        exact ⟨Or.inr rfl, h true (by unfold mhld nhld; rw [e1, hcp, hwv, hl', hne', show decide (i 92 (5 * p + z) < i 98 k) = true from decide_eq_true (by rw [Int32.lt_iff_toInt_lt]; rw [Int32.le_iff_toInt_le] at hg; omega)]; rfl)⟩
  · conv => whnf
    try dsimp only
    exact ⟨Or.inl rfl, h false (by unfold mhld nhld; rw [e1, hcp, show wv (i 92) (i 111) p = -1 by unfold wv; exact if_pos hm]; rfl)⟩
theorem m_lacking (hN : MNK i nn) (hW : NWK i) (hd : 2 ≤ d) (h : Q (some (.int (nI (bcnt (mbrk i) nn)))) (KS, i)) : SP xl xs d Y_Model_lacking [.ref 89] (KS, i) Q := by
  have hc := hN.1
  have hn := hN.2.1
  obtain ⟨d, rfl⟩ : ∃ q, d = q + 1 := ⟨d - 1, by omega⟩
  refine ⟨Nat.le_of_ble_eq_true rfl, am_go (am_sp_mo _) (fun q => q == 4) 30 (fun X hX => ?_)⟩
  conv => whnf
  try dsimp only
  refine hX _ _ _ _ _ _ ?_
  have loop : ∀ m k, k + m = nn → am_wp (ax_E xl xs) (ax_cd Y_Model_lacking) (am_sp (ax_E xl xs) ax_cd ax_ml d) Q 4 [some (.ref 89), some (.int (nI (bcnt (mbrk i) k))), some (.int (nI k))] [] (KS, i) 0 0 := by
    intro m
    induction m with
    | zero =>
      intro k hk
      have : k = nn := by omega
      subst this
      refine am_go (am_sp_mo _) (fun q => q == 4) 30 (fun X hX => ?_)
      conv => whnf
      try dsimp only
      refine ⟨fun _ => ?_, fun hh => absurd (by rw [hc]; exact nI_le (Nat.le_refl _) (by omega)) hh⟩
      conv => whnf
      try dsimp only
      exact h
    | succ m ih =>
      intro k hk
      have ih := ih (k + 1) (by omega)
      refine am_go (am_sp_mo _) (fun q => q == 4) 40 (fun X hX => ?_)
      conv => whnf
      try dsimp only
      refine ⟨fun hh => absurd hh (by rw [hc]; exact nI_ge (by omega) (by omega)), fun _ => ?_⟩
      conv => whnf
      try dsimp only
      refine m_active hN hW (by omega) (by omega) (fun b hb => ?_)
      have nx : ∀ b2 : Bool, mbrk i k = b2 → am_wp (ax_E xl xs) (ax_cd Y_Model_lacking) (am_sp (ax_E xl xs) ax_cd ax_ml d) Q 4 [some (.ref 89), some (.int (nI (bcnt (mbrk i) k) + (if b2 = true then Int32.ofInt 1 else Int32.ofInt 0))), some (.int (nI k + Int32.ofInt 1))] [] (KS, i) 0 0 := by
        intro b2 e
        refine am_wpL ?_ rfl ih
        rw [bcnt, e, li_1, li_0, nI_add]
        cases b2 <;> simp [nI_add]
      cases b with
      | false =>
        conv => whnf
        try dsimp only
        refine ⟨fun _ => ?_, fun h => absurd rfl h⟩
        conv => whnf
        try dsimp only
        exact hX _ _ _ _ _ _ (nx false (by show (mact i k && !(mhld i k)) = false; rw [← hb]; rfl))
      | true =>
        conv => whnf
        try dsimp only
        refine ⟨fun h => absurd h (by decide), fun _ => ?_⟩
        conv => whnf
        try dsimp only
        refine m_holds hN hW (by omega) (by omega) (fun b2 hb2 => ?_)
        cases b2 with
        | false =>
          conv => whnf
          try dsimp only
          refine ⟨fun h => absurd rfl h, fun _ => ?_⟩
          conv => whnf
          try dsimp only
          exact hX _ _ _ _ _ _ (nx true (by show (mact i k && !(mhld i k)) = true; rw [← hb, ← hb2]; rfl))
        | true =>
          conv => whnf
          try dsimp only
          refine ⟨fun _ => ?_, fun h => absurd h (by decide)⟩
          conv => whnf
          try dsimp only
          exact hX _ _ _ _ _ _ (nx false (by show (mact i k && !(mhld i k)) = false; rw [← hb, ← hb2]; rfl))
  exact loop nn 0 (by omega)
theorem m_hit {nh : Nat} {x y : Int32} (hc : i 89 22 = nI nh) (hn : nh ≤ 72) (hd : 2 ≤ d) (h1 : ∀ q w, q < nh → w < 6 → x = nI q → y = nI w → Q (some (.int (i 108 (6 * q + w)))) (KS, i)) (h0 : (∀ q w, q < nh → w < 6 → ¬ (x = nI q ∧ y = nI w)) → Q (some (.int (-1))) (KS, i)) : SP xl xs d Y_Model_hit [.ref 89, .int x, .int y] (KS, i) Q := by
  obtain ⟨d, rfl⟩ : ∃ q, d = q + 1 := ⟨d - 1, by omega⟩
  refine ⟨Nat.le_of_ble_eq_true rfl, am_go (am_sp_mo _) (fun _ => false) 40 (fun X hX => ?_)⟩
  conv => whnf
  try dsimp only
  rcases pk_ix x (n := nh) (by omega) with hx | hx | ⟨q, hq, hx⟩
  · refine ⟨fun _ => ?_, fun h => absurd hx h⟩
    conv => whnf
    try dsimp only
    exact h0 fun q w hq _ e => out_np (by omega) (Or.inl hx) hq e.1
  · refine ⟨fun _ => ?_, fun _ => ?_⟩
    · conv => whnf
      try dsimp only
      exact h0 fun q w hq _ e => out_np (by omega) (Or.inr hx) hq e.1
    · conv => whnf
      try dsimp only
      rw [hc]
      refine ⟨fun _ => ?_, fun h => absurd hx h⟩
      conv => whnf
      try dsimp only
      exact h0 fun q w hq _ e => out_np (by omega) (Or.inr hx) hq e.1
  · refine ⟨fun h => absurd h (by rw [hx]; exact nI_pos (by omega)), fun _ => ?_⟩
    conv => whnf
    try dsimp only
    rw [hc]
    refine ⟨fun h => absurd h (by rw [hx]; exact nI_ge hq (by omega)), fun _ => ?_⟩
    conv => whnf
    try dsimp only
    refine m_in (by omega) (fun hl hh => ?_) (fun hno => ?_)
    · obtain ⟨w, hw, hy⟩ : ∃ w, w < 6 ∧ y = nI w := by
        rw [Int32.le_iff_toInt_le, li_0, show (nI 0).toInt = 0 by decide] at hl
        rw [Int32.le_iff_toInt_le, li_5, show (nI 5).toInt = 5 by decide] at hh
        rcases pk_ix y (n := 6) (by decide) with q | q | ⟨k, hk, e⟩
        · rw [Int32.lt_iff_toInt_lt, show (0 : Int32).toInt = 0 by decide] at q
          omega
        · rw [Int32.le_iff_toInt_le, show (nI 6).toInt = 6 by decide] at q
          omega
        · exact ⟨k, hk, e⟩
      have hat : Int32.ofInt 6 * x + y = nI (6 * q + w) := by rw [hx, hy, li_6, pk_mul, nI_add]
      conv => whnf
      try dsimp only
      refine ⟨fun h => absurd h (by decide), fun _ => ?_⟩
      conv => whnf
      try dsimp only
      refine ⟨432, [], rfl, by rw [hat]; exact vp_in_nI (by omega) (by decide), ?_⟩
      conv => whnf
      try dsimp only
      exact q_eq (by rw [hat, nI_clamp (by omega)]) rfl (h1 q w hq hw hx hy)
    · conv => whnf
      try dsimp only
      refine ⟨fun _ => ?_, fun h => absurd rfl h⟩
      conv => whnf
      try dsimp only
      refine h0 fun q' w' _ hw' e => absurd (hno ?_) (fun h => h ?_)
      · rw [e.2, li_0]; exact nI_le (by omega) (by omega)
      · rw [e.2, li_5]; exact nI_le (by omega) (by omega)
theorem m_planned {x : Int32} (hp : i 89 1 = nI np) (hn : np ≤ 6) (hd : 2 ≤ d) (h1 : ∀ p, p < np → x = nI p → Q (some (.int (i 114 p))) (KS, i)) (h0 : (x < 0 ∨ nI np ≤ x) → Q (some (.int (-1))) (KS, i)) : SP xl xs d Y_Model_planned [.ref 89, .int x] (KS, i) Q := by
  obtain ⟨d, rfl⟩ : ∃ q, d = q + 1 := ⟨d - 1, by omega⟩
  refine ⟨Nat.le_of_ble_eq_true rfl, am_go (am_sp_mo _) (fun _ => false) 30 (fun X hX => ?_)⟩
  conv => whnf
  try dsimp only
  refine m_isPack hp hn (by omega) (fun a ha hx => ?_) (fun hx => ?_)
  · conv => whnf
    try dsimp only
    refine ⟨fun h => absurd h (by decide), fun _ => ?_⟩
    conv => whnf
    try dsimp only
    refine ⟨6, [], rfl, by rw [hx]; exact vp_in_nI (by omega) (by decide), ?_⟩
    conv => whnf
    try dsimp only
    exact q_eq (by rw [hx, nI_clamp (by omega)]) rfl (h1 a ha hx)
  · conv => whnf
    try dsimp only
    refine ⟨fun _ => ?_, fun h => absurd rfl h⟩
    conv => whnf
    try dsimp only
    exact h0 hx
/-- does an update move this package? -/
def umv (pl gv : Nat → Int32) (p : Nat) : Bool := !(decide (pl p = -1)) && (!(decide (gv p = -1)) && !(decide (gv p = pl p)))
theorem m_update (hp : i 89 1 = nI np) (hn : np ≤ 6) (hb : i 89 29 = 0 ∨ i 89 29 = 1) (hd : 1 ≤ d)
    (h1 : i 89 29 = 1 → ∀ j : Nat → Nat → Int32, (∀ b, b ≠ 93 → j b = i b) → (∀ p, j 93 p = if p < np ∧ umv (i 93) (i 114) p = true then i 114 p else i 93 p) → Q (some (.int (nI (bcnt (umv (i 93) (i 114)) np)))) (KS, j))
    (h0 : i 89 29 = 0 → Q (some (.int (-1))) (KS, i)) : SP xl xs d Y_Model_update [.ref 89] (KS, i) Q := by
  obtain ⟨d, rfl⟩ : ∃ q, d = q + 1 := ⟨d - 1, by omega⟩
  refine ⟨Nat.le_of_ble_eq_true rfl, am_go (am_sp_mo _) (fun q => q == 13) 30 (fun X hX => ?_)⟩
  conv => whnf
  try dsimp only
  refine ⟨fun hz => ?_, fun hz => ?_⟩
  rotate_left
  · conv => whnf
    try dsimp only
    exact h0 hz
  have h1 := h1 (hb.resolve_left hz)
  conv => whnf
  try dsimp only
  refine hX _ _ _ _ _ _ ?_
  have loop : ∀ m p (j : Nat → Nat → Int32), p + m = np → (∀ b, b ≠ 93 → j b = i b) → (∀ q, j 93 q = if q < p ∧ umv (i 93) (i 114) q = true then i 114 q else i 93 q) → am_wp (ax_E xl xs) (ax_cd Y_Model_update) (am_sp (ax_E xl xs) ax_cd ax_ml d) Q 13 [some (.ref 89), some (.int (nI (bcnt (umv (i 93) (i 114)) p))), some (.int (nI p))] [] (KS, j) 0 0 := by
    intro m
    induction m with
    | zero =>
      intro p j hpp h2 h3
      have : p = np := by omega
      subst this
      refine am_go (am_sp_mo _) (fun q => q == 13) 30 (fun X hX => ?_)
      conv => whnf
      try dsimp only
      rw [h2 89 (by decide), hp]
      refine ⟨fun _ => ?_, fun hh => absurd (nI_le (Nat.le_refl _) (by omega)) hh⟩
      conv => whnf
      try dsimp only
      exact h1 j h2 h3
    | succ m ih =>
      intro p j hpp h2 h3
      have hcp : (nI p).toNatClampNeg = p := nI_clamp (by omega)
      have hjp : j 93 p = i 93 p := by rw [h3, if_neg (by omega)]
      have hin : vp_in (nI p) 6 := vp_in_nI (by omega) (by decide)
      have same : umv (i 93) (i 114) p = false → am_wp (ax_E xl xs) (ax_cd Y_Model_update) (am_sp (ax_E xl xs) ax_cd ax_ml d) Q 13 [some (.ref 89), some (.int (nI (bcnt (umv (i 93) (i 114)) p))), some (.int (nI p + Int32.ofInt 1))] [] (KS, j) 0 0 := by
        intro e
        refine am_wpL ?_ rfl (ih (p + 1) j (by omega) h2 (fun q => ?_))
        · rw [bcnt, e, li_1, nI_add]
          rfl
        · rw [h3]
          by_cases eq : q = p
          · subst eq
            rw [if_neg (by omega), if_neg (fun z => by rw [e] at z; cases z.2)]
          · by_cases h9 : q < p ∧ umv (i 93) (i 114) q = true
            · rw [if_pos h9, if_pos ⟨by omega, h9.2⟩]
            · rw [if_neg h9, if_neg (fun z => h9 ⟨by omega, z.2⟩)]
      refine am_go (am_sp_mo _) (fun q => q == 13) 60 (fun X hX => ?_)
      conv => whnf
      try dsimp only
      rw [h2 89 (by decide), hp]
      refine ⟨fun hh => absurd hh (nI_ge (by omega) (by omega)), fun _ => ?_⟩
      conv => whnf
      try dsimp only
      refine ⟨6, [], rfl, hin, ?_⟩
      conv => whnf
      try dsimp only
      rw [hcp, hjp]
      refine ⟨fun hm => ?_, fun hm => ?_⟩
      · conv => whnf
        try dsimp only
        exact hX _ _ _ _ _ _ (same (by unfold umv; rw [show decide (i 93 p = -1) = true from decide_eq_true hm]; rfl))
      have hm' : decide (i 93 p = -1) = false := decide_eq_false hm
      conv => whnf
      try dsimp only
      refine ⟨6, [], rfl, hin, ?_⟩
      conv => whnf
      try dsimp only
      rw [hcp, h2 114 (by decide)]
      refine ⟨fun hg => ?_, fun hg => ?_⟩
      · have hg' : decide (i 114 p = -1) = false := decide_eq_false hg
        conv => whnf
        try dsimp only
        rw [hcp]
        refine ⟨6, [], rfl, hin, ?_⟩
        conv => whnf
        try dsimp only
        rw [hcp, hjp]
        refine ⟨6, [], rfl, hin, ?_⟩
        conv => whnf
        try dsimp only
        try rw [hcp]
        rw [h2 114 (by decide)]
        refine ⟨fun hne => ?_, fun heq => ?_⟩
        · have hu : umv (i 93) (i 114) p = true := by unfold umv; rw [hm', hg', show decide (i 114 p = i 93 p) = false from decide_eq_false (fun e => hne e.symm)]; rfl
          conv => whnf
          try dsimp only
          refine ⟨6, [], rfl, hin, ?_⟩
          conv => whnf
          try dsimp only
          refine ⟨6, [], rfl, hin, ?_⟩
          conv => whnf
          try dsimp only
          try rw [hcp]
          rw [h2 114 (by decide)]
          refine hX _ _ _ _ _ _ (am_wpL ?_ rfl (ih (p + 1) (am_up j 93 p (i 114 p)) (by omega) (fun b hb => (up_a hb).trans (h2 b hb)) (fun q => ?_)))
          · show [_, some (Value.int (nI (bcnt (umv (i 93) (i 114)) p) + Int32.ofInt 1)), some (Value.int (nI p + Int32.ofInt 1))] = _
            rw [bcnt, hu, li_1, nI_add, nI_add]
            rfl
          · rw [up_at]
            by_cases eq : q = p
            · subst eq
              rw [if_pos ⟨rfl, rfl⟩, if_pos ⟨by omega, hu⟩]
            · rw [if_neg (by omega), h3]
              by_cases h9 : q < p ∧ umv (i 93) (i 114) q = true
              · rw [if_pos h9, if_pos ⟨by omega, h9.2⟩]
              · rw [if_neg h9, if_neg (fun z => h9 ⟨by omega, z.2⟩)]
        · have hu : umv (i 93) (i 114) p = false := by unfold umv; rw [show decide (i 114 p = i 93 p) = true from decide_eq_true heq.symm, Bool.not_true, Bool.and_false, Bool.and_false]
          conv => whnf
          try dsimp only
          refine ⟨6, [], rfl, hin, ?_⟩
          conv => whnf
          try dsimp only
          refine ⟨6, [], rfl, hin, ?_⟩
          conv => whnf
          try dsimp only
          try rw [hcp]
          rw [h2 114 (by decide)]
          refine hX _ _ _ _ _ _ (am_wpL ?_ rfl (ih (p + 1) (am_up j 93 p (i 114 p)) (by omega) (fun b hb => (up_a hb).trans (h2 b hb)) (fun q => ?_)))
          · show [_, some (Value.int (nI (bcnt (umv (i 93) (i 114)) p) + Int32.ofInt 0)), some (Value.int (nI p + Int32.ofInt 1))] = _
            rw [bcnt, hu, li_1, li_0, nI_add, nI_add]
            rfl
          · rw [up_at]
            by_cases eq : q = p
            · subst eq
              rw [if_pos ⟨rfl, rfl⟩, if_neg (fun z => by rw [hu] at z; cases z.2), heq]
            · rw [if_neg (by omega), h3]
              by_cases h9 : q < p ∧ umv (i 93) (i 114) q = true
              · rw [if_pos h9, if_pos ⟨by omega, h9.2⟩]
              · rw [if_neg h9, if_neg (fun z => h9 ⟨by omega, z.2⟩)]
      · conv => whnf
        try dsimp only
        exact hX _ _ _ _ _ _ (same (by unfold umv; rw [show decide (i 114 p = -1) = true from decide_eq_true hg, Bool.not_true, Bool.false_and, Bool.and_false]))
  exact loop np 0 i (by omega) (fun _ _ => rfl) (fun q => by rw [if_neg (by omega)])
end MODEL2
end
section
/-! SCORES -/
def hrt (k j : Nat) : Int64 := (ax_sv k j).toInt64
def cimp (m : Nat) : Int64 := Int64.ofInt 642 * (Int64.ofInt 1000000 - hrt 4 (m / 9) * hrt 4 (m / 3 % 3) * hrt 4 (m % 3))
def cuse (r e t h : Nat) : Int64 := Int64.ofInt 822 * hrt 0 r * hrt 1 e * hrt 2 t * hrt 3 h
def cq (r e t h m : Nat) : Int64 := (cimp m * Int64.ofInt 100 + cuse r e t h + Int64.ofInt 1000000000 - Int64.ofInt 1) / Int64.ofInt 1000000000
def cten (r e t h m : Nat) : Int32 := if cimp m = 0 then 0 else (if cq r e t h m < Int64.ofInt 100 then cq r e t h m else Int64.ofInt 100).toInt32
def hund (w k : Nat) : Nat := if w = 0 then (if k = 0 then 85 else if k = 1 then 62 else if k = 2 then 55 else 20) else if w = 1 then (if k = 0 then 77 else 44) else if w < 4 then (if k = 0 then 85 else if k = 1 then 62 else 27) else (if k = 0 then 100 else if k = 1 then 78 else 44)
def hl (w k : Nat) : Int64 := (nI (hund w k)).toInt64
def mway (c : Nat → Nat) : Int64 := Int64.ofInt 822 * hl 0 (c 0) * hl 1 (c 1) * hl 2 (c 2) * hl 3 (c 3)
def mimp (c : Nat → Nat) : Int64 := Int64.ofInt 64200 * (Int64.ofInt 1000000 - Int64.ofInt 1 * hl 4 (c 4) * hl 5 (c 5) * hl 6 (c 6))
def mq (c : Nat → Nat) : Int64 := (mimp c + mway c + Int64.ofInt 999999999) / Int64.ofInt 1000000000
def msc (c : Nat → Nat) : Int32 := if mimp c = 0 then 0 else if mq c ≤ Int64.ofInt 100 then (mq c).toInt32 else nI 100
def chs (r e t h m k : Nat) : Nat := if k = 0 then r else if k = 1 then e else if k = 2 then t else if k = 3 then h else if k = 4 then m / 9 else if k = 5 then m / 3 % 3 else m % 3
set_option maxRecDepth 100000 in
theorem sco_eq : ∀ r, r < 4 → ∀ e, e < 2 → ∀ t, t < 3 → ∀ h, h < 2 → ∀ m, m < 27 → cten r e t h m = msc (chs r e t h m) := by decide +kernel
theorem sco_0 : msc (fun _ => 0) = 0 := by decide +kernel
theorem lg_eq0 (x y : Int64) : lg_cmp x y = 0 ↔ x = y := by
  unfold lg_cmp
  by_cases h : x > y
  · rw [if_pos h]
    refine ⟨fun h' => absurd h' (by decide), fun e => ?_⟩
    subst e
    rw [gt_iff_lt, Int64.lt_iff_toInt_lt] at h
    omega
  · rw [if_neg h]
    by_cases e : x = y
    · rw [if_pos e]; exact ⟨fun _ => e, fun _ => rfl⟩
    · rw [if_neg e]; exact ⟨fun h' => absurd h' (by decide), fun h' => absurd h' e⟩
theorem lg_le0 (x y : Int64) : lg_cmp x y ≤ 0 ↔ x ≤ y := by
  unfold lg_cmp
  by_cases h : x > y
  · rw [if_pos h]
    refine ⟨fun h' => absurd h' (by decide), fun e => ?_⟩
    rw [gt_iff_lt, Int64.lt_iff_toInt_lt] at h
    rw [Int64.le_iff_toInt_le] at e
    omega
  · rw [if_neg h]
    have hle : x ≤ y := by
      rw [gt_iff_lt, Int64.lt_iff_toInt_lt] at h
      rw [Int64.le_iff_toInt_le]
      omega
    by_cases e : x = y
    · rw [if_pos e]; exact ⟨fun _ => hle, fun _ => by decide⟩
    · rw [if_neg e]; exact ⟨fun _ => hle, fun _ => by decide⟩
section SCORE
variable {xl : Nat} {xs : Nat → Int32} {d : Nat} {i : Nat → Nat → Int32} {Q : am_Q} {u : am_St} {na : Nat}
theorem k_areChoices {x1 x2 x3 x4 x5 : Int32} (hd : 2 ≤ d) (h1 : ∀ r e t h m, r < 4 → e < 2 → t < 3 → h < 2 → m < 27 → x1 = nI r → x2 = nI e → x3 = nI t → x4 = nI h → x5 = nI m → Q (some (.int 1)) u) (h0 : (∀ r e t h m, r < 4 → e < 2 → t < 3 → h < 2 → m < 27 → ¬ (x1 = nI r ∧ x2 = nI e ∧ x3 = nI t ∧ x4 = nI h ∧ x5 = nI m)) → Q (some (.int 0)) u) : SP xl xs d Y_Severity_areChoices [.int x1, .int x2, .int x3, .int x4, .int x5] u Q := by
  obtain ⟨d, rfl⟩ : ∃ q, d = q + 1 := ⟨d - 1, by omega⟩
  refine ⟨Nat.le_of_ble_eq_true rfl, am_go (am_sp_mo _) (fun _ => false) 60 (fun X hX => ?_)⟩
  conv => whnf
  try dsimp only
  refine ⟨0, rfl, Nat.le_of_ble_eq_true rfl, ?_⟩
  conv => whnf
  try dsimp only
  refine k_below 4 rfl (by decide) (by omega) (fun r hr e1 => ?_) (fun hx => ?_)
  rotate_left
  · conv => whnf
    try dsimp only
    refine ⟨fun _ => ?_, fun h => absurd rfl h⟩
    conv => whnf
    try dsimp only
    exact ⟨Or.inl rfl, h0 fun r _ _ _ _ hr _ _ _ _ e => out_np (by decide) hx hr e.1⟩
  conv => whnf
  try dsimp only
  refine ⟨fun h => absurd h (by decide), fun _ => ?_⟩
  conv => whnf
  try dsimp only
  refine ⟨1, rfl, Nat.le_of_ble_eq_true rfl, ?_⟩
  conv => whnf
  try dsimp only
  refine k_below 2 rfl (by decide) (by omega) (fun e he e2 => ?_) (fun hx => ?_)
  rotate_left
  · conv => whnf
    try dsimp only
    refine ⟨fun _ => ?_, fun h => absurd rfl h⟩
    conv => whnf
    try dsimp only
    exact ⟨Or.inl rfl, h0 fun _ r _ _ _ _ hr _ _ _ e => out_np (by decide) hx hr e.2.1⟩
  conv => whnf
  try dsimp only
  refine ⟨fun h => absurd h (by decide), fun _ => ?_⟩
  conv => whnf
  try dsimp only
  refine ⟨2, rfl, Nat.le_of_ble_eq_true rfl, ?_⟩
  conv => whnf
  try dsimp only
  refine k_below 3 rfl (by decide) (by omega) (fun t ht e3 => ?_) (fun hx => ?_)
  rotate_left
  · conv => whnf
    try dsimp only
    refine ⟨fun _ => ?_, fun h => absurd rfl h⟩
    conv => whnf
    try dsimp only
    exact ⟨Or.inl rfl, h0 fun _ _ r _ _ _ _ hr _ _ e => out_np (by decide) hx hr e.2.2.1⟩
  conv => whnf
  try dsimp only
  refine ⟨fun h => absurd h (by decide), fun _ => ?_⟩
  conv => whnf
  try dsimp only
  refine ⟨3, rfl, Nat.le_of_ble_eq_true rfl, ?_⟩
  conv => whnf
  try dsimp only
  refine k_below 2 rfl (by decide) (by omega) (fun h hh e4 => ?_) (fun hx => ?_)
  rotate_left
  · conv => whnf
    try dsimp only
    refine ⟨fun _ => ?_, fun h => absurd rfl h⟩
    conv => whnf
    try dsimp only
    exact ⟨Or.inl rfl, h0 fun _ _ _ r _ _ _ _ hr _ e => out_np (by decide) hx hr e.2.2.2.1⟩
  conv => whnf
  try dsimp only
  refine ⟨fun h => absurd h (by decide), fun _ => ?_⟩
  conv => whnf
  try dsimp only
  refine k_below 27 (by decide) (by decide) (by omega) (fun m hm e5 => ?_) (fun hx => ?_)
  rotate_left
  · conv => whnf
    try dsimp only
    refine ⟨fun _ => ?_, fun h => absurd rfl h⟩
    conv => whnf
    try dsimp only
    exact ⟨Or.inl rfl, h0 fun _ _ _ _ r _ _ _ _ hr e => out_np (by decide) hx hr e.2.2.2.2⟩
  conv => whnf
  try dsimp only
  refine ⟨fun h => absurd h (by decide), fun _ => ?_⟩
  conv => whnf
  try dsimp only
  exact ⟨Or.inr rfl, h1 r e t h m hr he ht hh hm e1 e2 e3 e4 e5⟩
theorem k_impactOf {m : Nat} (hm : m < 27) (hd : 1 ≤ d) (h : Q (some (.long (cimp m))) u) : SP xl xs d Y_Severity_impactOf [.int (nI m)] u Q := by
  obtain ⟨d, rfl⟩ : ∃ q, d = q + 1 := ⟨d - 1, by omega⟩
  refine ⟨Nat.le_of_ble_eq_true rfl, am_go (am_sp_mo _) (fun _ => false) 60 (fun X hX => ?_)⟩
  conv => whnf
  try dsimp only
  refine ⟨by decide, ?_⟩
  conv => whnf
  try dsimp only
  refine ⟨by decide, ?_⟩
  conv => whnf
  try dsimp only
  refine ⟨by decide, ?_⟩
  conv => whnf
  try dsimp only
  refine ⟨by decide, ?_⟩
  conv => whnf
  try dsimp only
  have e1 : nI m / Int32.ofInt 9 = nI (m / 9) := by rw [li_9]; exact pk_div (by omega) (by decide) (by decide)
  have e2 : nI m / Int32.ofInt 3 = nI (m / 3) := by rw [li_3]; exact pk_div (by omega) (by decide) (by decide)
  have e3 : nI (m / 3) - nI (m / 3) / Int32.ofInt 3 * Int32.ofInt 3 = nI (m / 3 % 3) := by rw [li_3]; exact pk_rem (by omega) (by decide) (by decide)
  have e4 : nI m - nI m / Int32.ofInt 3 * Int32.ofInt 3 = nI (m % 3) := by rw [li_3]; exact pk_rem (by omega) (by decide) (by decide)
  have c1 : (nI (m / 9)).toNatClampNeg = m / 9 := nI_clamp (by omega)
  have c2 : (nI (m / 3 % 3)).toNatClampNeg = m / 3 % 3 := nI_clamp (by omega)
  have c3 : (nI (m % 3)).toNatClampNeg = m % 3 := nI_clamp (by omega)
  refine ⟨4, rfl, Nat.le_of_ble_eq_true rfl, by rw [e1]; exact vp_in_nI (N := 3) (by show m / 9 < 3; omega) (by decide), ?_⟩
  conv => whnf
  try dsimp only
  refine ⟨4, rfl, Nat.le_of_ble_eq_true rfl, by rw [e2, e3]; exact vp_in_nI (N := 3) (by show m / 3 % 3 < 3; omega) (by decide), ?_⟩
  conv => whnf
  try dsimp only
  refine ⟨4, rfl, Nat.le_of_ble_eq_true rfl, by rw [e4]; exact vp_in_nI (N := 3) (by show m % 3 < 3; omega) (by decide), ?_⟩
  conv => whnf
  try dsimp only
  rw [e4, e2, e3, e1, c1, c2, c3]
  exact h
theorem k_tenths {r e t h m : Nat} (hr : r < 4) (he : e < 2) (ht : t < 3) (hh : h < 2) (hm : m < 27) (hd : 3 ≤ d) (hq : Q (some (.int (cten r e t h m))) u) : SP xl xs d Y_Severity_tenths [.int (nI r), .int (nI e), .int (nI t), .int (nI h), .int (nI m)] u Q := by
  obtain ⟨d, rfl⟩ : ∃ q, d = q + 1 := ⟨d - 1, by omega⟩
  refine ⟨Nat.le_of_ble_eq_true rfl, am_go (am_sp_mo _) (fun _ => false) 80 (fun X hX => ?_)⟩
  conv => whnf
  try dsimp only
  refine k_areChoices (by omega) (fun _ _ _ _ _ _ _ _ _ _ _ _ _ _ _ => ?_) (fun hno => absurd ⟨rfl, rfl, rfl, rfl, rfl⟩ (hno r e t h m hr he ht hh hm))
  conv => whnf
  try dsimp only
  refine ⟨fun _ => ?_, fun h => absurd h (by decide)⟩
  conv => whnf
  try dsimp only
  refine k_impactOf hm (by omega) ?_
  conv => whnf
  try dsimp only
  have c1 : (nI r).toNatClampNeg = r := nI_clamp (by omega)
  have c2 : (nI e).toNatClampNeg = e := nI_clamp (by omega)
  have c3 : (nI t).toNatClampNeg = t := nI_clamp (by omega)
  have c4 : (nI h).toNatClampNeg = h := nI_clamp (by omega)
  refine ⟨fun hne => ?_, fun heq => ?_⟩
  · have hne : ¬ cimp m = 0 := fun e => hne ((lg_eq0 _ _).mpr e)
    conv => whnf
    try dsimp only
    refine ⟨0, rfl, Nat.le_of_ble_eq_true rfl, vp_in_nI (N := 4) hr (by decide), ?_⟩
    conv => whnf
    try dsimp only
    refine ⟨1, rfl, Nat.le_of_ble_eq_true rfl, vp_in_nI (N := 2) he (by decide), ?_⟩
    conv => whnf
    try dsimp only
    refine ⟨2, rfl, Nat.le_of_ble_eq_true rfl, vp_in_nI (N := 3) ht (by decide), ?_⟩
    conv => whnf
    try dsimp only
    refine ⟨3, rfl, Nat.le_of_ble_eq_true rfl, vp_in_nI (N := 2) hh (by decide), ?_⟩
    conv => whnf
    try dsimp only
    refine ⟨by decide, ?_⟩
    conv => whnf
    try dsimp only
    rw [c1, c2, c3, c4]
    refine q_eq ?_ rfl hq
    rw [cten, if_neg hne]
    rfl
  · have heq : cimp m = 0 := (lg_eq0 _ _).mp heq
    conv => whnf
    try dsimp only
    refine q_eq ?_ rfl hq
    rw [cten, if_pos heq]
    rfl
theorem c_severity {x x1 x2 x3 x4 x5 : Int32} (hc : i 20 7 = nI na) (hn : na ≤ 12) (hd : 4 ≤ d)
    (h1 : ∀ a r e t h m, a < na → r < 4 → e < 2 → t < 3 → h < 2 → m < 27 → x = nI a → x1 = nI r → x2 = nI e → x3 = nI t → x4 = nI h → x5 = nI m → Q (some (.int 1)) (KS, am_up i 49 a (cten r e t h m)))
    (h0 : (∀ a r e t h m, a < na → r < 4 → e < 2 → t < 3 → h < 2 → m < 27 → ¬ (x = nI a ∧ x1 = nI r ∧ x2 = nI e ∧ x3 = nI t ∧ x4 = nI h ∧ x5 = nI m)) → Q (some (.int 0)) (KS, i)) : SP xl xs d Y_AM_severity [.ref 0, .int x, .int x1, .int x2, .int x3, .int x4, .int x5] (KS, i) Q := by
  obtain ⟨d, rfl⟩ : ∃ q, d = q + 1 := ⟨d - 1, by omega⟩
  refine ⟨Nat.le_of_ble_eq_true rfl, am_go (am_sp_mo _) (fun _ => false) 60 (fun X hX => ?_)⟩
  conv => whnf
  try dsimp only
  refine k_Adv_has hc hn (by omega) (fun a ha hx => ?_) (fun hx => ?_)
  · conv => whnf
    try dsimp only
    refine ⟨fun h => absurd h (by decide), fun _ => ?_⟩
    conv => whnf
    try dsimp only
    refine k_areChoices (by omega) (fun r e t h m hr he ht hh hm e1 e2 e3 e4 e5 => ?_) (fun hno => ?_)
    · conv => whnf
      try dsimp only
      refine ⟨fun _ => ?_, fun h => absurd h (by decide)⟩
      conv => whnf
      try dsimp only
      rw [e1, e2, e3, e4, e5]
      refine k_tenths hr he ht hh hm (by omega) ?_
      conv => whnf
      try dsimp only
      refine k_setScore hc hn (by omega) (fun a' ha' hx' => ?_) (fun hx' => absurd hx (out_np (by omega) hx' ha))
      have := nI_inj (by omega) (by omega) (hx'.symm.trans hx)
      subst this
      conv => whnf
      try dsimp only
      exact ⟨Or.inr rfl, h1 a' r e t h m ha hr he ht hh hm hx e1 e2 e3 e4 e5⟩
    · conv => whnf
      try dsimp only
      refine ⟨fun h => absurd rfl h, fun _ => ?_⟩
      conv => whnf
      try dsimp only
      exact ⟨Or.inl rfl, h0 fun a r e t h m _ hr he ht hh hm z => hno r e t h m hr he ht hh hm z.2⟩
  · conv => whnf
    try dsimp only
    refine ⟨fun _ => ?_, fun h => absurd rfl h⟩
    conv => whnf
    try dsimp only
    exact ⟨Or.inl rfl, h0 fun a r e t h m ha _ _ _ _ _ z => out_np (by omega) hx ha z.1⟩
theorem m_hund_0_0 (hd : 1 ≤ d) (h : Q (some (.int (nI (hund 0 0)))) u) : SP xl xs d Y_Model_hundredths [.int (nI 0), .int (nI 0)] u Q := by
  obtain ⟨d, rfl⟩ : ∃ q, d = q + 1 := ⟨d - 1, by omega⟩
  refine ⟨Nat.le_of_ble_eq_true rfl, am_go (am_sp_mo _) (fun _ => false) 30 (fun X hX => ?_)⟩
  conv => whnf
  try dsimp only
  repeat (first | (refine ⟨fun hh => absurd hh (by decide), fun _ => ?_⟩; conv => whnf; try dsimp only) | (refine ⟨fun _ => ?_, fun hh => absurd (by decide) hh⟩; conv => whnf; try dsimp only) | (refine ⟨fun _ => ?_, fun hh => absurd hh (by decide)⟩; conv => whnf; try dsimp only))
  exact h
theorem m_hund_0_1 (hd : 1 ≤ d) (h : Q (some (.int (nI (hund 0 1)))) u) : SP xl xs d Y_Model_hundredths [.int (nI 0), .int (nI 1)] u Q := by
  obtain ⟨d, rfl⟩ : ∃ q, d = q + 1 := ⟨d - 1, by omega⟩
  refine ⟨Nat.le_of_ble_eq_true rfl, am_go (am_sp_mo _) (fun _ => false) 30 (fun X hX => ?_)⟩
  conv => whnf
  try dsimp only
  repeat (first | (refine ⟨fun hh => absurd hh (by decide), fun _ => ?_⟩; conv => whnf; try dsimp only) | (refine ⟨fun _ => ?_, fun hh => absurd (by decide) hh⟩; conv => whnf; try dsimp only) | (refine ⟨fun _ => ?_, fun hh => absurd hh (by decide)⟩; conv => whnf; try dsimp only))
  exact h
theorem m_hund_0_2 (hd : 1 ≤ d) (h : Q (some (.int (nI (hund 0 2)))) u) : SP xl xs d Y_Model_hundredths [.int (nI 0), .int (nI 2)] u Q := by
  obtain ⟨d, rfl⟩ : ∃ q, d = q + 1 := ⟨d - 1, by omega⟩
  refine ⟨Nat.le_of_ble_eq_true rfl, am_go (am_sp_mo _) (fun _ => false) 30 (fun X hX => ?_)⟩
  conv => whnf
  try dsimp only
  repeat (first | (refine ⟨fun hh => absurd hh (by decide), fun _ => ?_⟩; conv => whnf; try dsimp only) | (refine ⟨fun _ => ?_, fun hh => absurd (by decide) hh⟩; conv => whnf; try dsimp only) | (refine ⟨fun _ => ?_, fun hh => absurd hh (by decide)⟩; conv => whnf; try dsimp only))
  exact h
theorem m_hund_0_3 (hd : 1 ≤ d) (h : Q (some (.int (nI (hund 0 3)))) u) : SP xl xs d Y_Model_hundredths [.int (nI 0), .int (nI 3)] u Q := by
  obtain ⟨d, rfl⟩ : ∃ q, d = q + 1 := ⟨d - 1, by omega⟩
  refine ⟨Nat.le_of_ble_eq_true rfl, am_go (am_sp_mo _) (fun _ => false) 30 (fun X hX => ?_)⟩
  conv => whnf
  try dsimp only
  repeat (first | (refine ⟨fun hh => absurd hh (by decide), fun _ => ?_⟩; conv => whnf; try dsimp only) | (refine ⟨fun _ => ?_, fun hh => absurd (by decide) hh⟩; conv => whnf; try dsimp only) | (refine ⟨fun _ => ?_, fun hh => absurd hh (by decide)⟩; conv => whnf; try dsimp only))
  exact h
theorem m_hund_1_0 (hd : 1 ≤ d) (h : Q (some (.int (nI (hund 1 0)))) u) : SP xl xs d Y_Model_hundredths [.int (nI 1), .int (nI 0)] u Q := by
  obtain ⟨d, rfl⟩ : ∃ q, d = q + 1 := ⟨d - 1, by omega⟩
  refine ⟨Nat.le_of_ble_eq_true rfl, am_go (am_sp_mo _) (fun _ => false) 30 (fun X hX => ?_)⟩
  conv => whnf
  try dsimp only
  repeat (first | (refine ⟨fun hh => absurd hh (by decide), fun _ => ?_⟩; conv => whnf; try dsimp only) | (refine ⟨fun _ => ?_, fun hh => absurd (by decide) hh⟩; conv => whnf; try dsimp only) | (refine ⟨fun _ => ?_, fun hh => absurd hh (by decide)⟩; conv => whnf; try dsimp only))
  exact h
theorem m_hund_1_1 (hd : 1 ≤ d) (h : Q (some (.int (nI (hund 1 1)))) u) : SP xl xs d Y_Model_hundredths [.int (nI 1), .int (nI 1)] u Q := by
  obtain ⟨d, rfl⟩ : ∃ q, d = q + 1 := ⟨d - 1, by omega⟩
  refine ⟨Nat.le_of_ble_eq_true rfl, am_go (am_sp_mo _) (fun _ => false) 30 (fun X hX => ?_)⟩
  conv => whnf
  try dsimp only
  repeat (first | (refine ⟨fun hh => absurd hh (by decide), fun _ => ?_⟩; conv => whnf; try dsimp only) | (refine ⟨fun _ => ?_, fun hh => absurd (by decide) hh⟩; conv => whnf; try dsimp only) | (refine ⟨fun _ => ?_, fun hh => absurd hh (by decide)⟩; conv => whnf; try dsimp only))
  exact h
theorem m_hund_1_2 (hd : 1 ≤ d) (h : Q (some (.int (nI (hund 1 2)))) u) : SP xl xs d Y_Model_hundredths [.int (nI 1), .int (nI 2)] u Q := by
  obtain ⟨d, rfl⟩ : ∃ q, d = q + 1 := ⟨d - 1, by omega⟩
  refine ⟨Nat.le_of_ble_eq_true rfl, am_go (am_sp_mo _) (fun _ => false) 30 (fun X hX => ?_)⟩
  conv => whnf
  try dsimp only
  repeat (first | (refine ⟨fun hh => absurd hh (by decide), fun _ => ?_⟩; conv => whnf; try dsimp only) | (refine ⟨fun _ => ?_, fun hh => absurd (by decide) hh⟩; conv => whnf; try dsimp only) | (refine ⟨fun _ => ?_, fun hh => absurd hh (by decide)⟩; conv => whnf; try dsimp only))
  exact h
theorem m_hund_1_3 (hd : 1 ≤ d) (h : Q (some (.int (nI (hund 1 3)))) u) : SP xl xs d Y_Model_hundredths [.int (nI 1), .int (nI 3)] u Q := by
  obtain ⟨d, rfl⟩ : ∃ q, d = q + 1 := ⟨d - 1, by omega⟩
  refine ⟨Nat.le_of_ble_eq_true rfl, am_go (am_sp_mo _) (fun _ => false) 30 (fun X hX => ?_)⟩
  conv => whnf
  try dsimp only
  repeat (first | (refine ⟨fun hh => absurd hh (by decide), fun _ => ?_⟩; conv => whnf; try dsimp only) | (refine ⟨fun _ => ?_, fun hh => absurd (by decide) hh⟩; conv => whnf; try dsimp only) | (refine ⟨fun _ => ?_, fun hh => absurd hh (by decide)⟩; conv => whnf; try dsimp only))
  exact h
theorem m_hund_2_0 (hd : 1 ≤ d) (h : Q (some (.int (nI (hund 2 0)))) u) : SP xl xs d Y_Model_hundredths [.int (nI 2), .int (nI 0)] u Q := by
  obtain ⟨d, rfl⟩ : ∃ q, d = q + 1 := ⟨d - 1, by omega⟩
  refine ⟨Nat.le_of_ble_eq_true rfl, am_go (am_sp_mo _) (fun _ => false) 30 (fun X hX => ?_)⟩
  conv => whnf
  try dsimp only
  repeat (first | (refine ⟨fun hh => absurd hh (by decide), fun _ => ?_⟩; conv => whnf; try dsimp only) | (refine ⟨fun _ => ?_, fun hh => absurd (by decide) hh⟩; conv => whnf; try dsimp only) | (refine ⟨fun _ => ?_, fun hh => absurd hh (by decide)⟩; conv => whnf; try dsimp only))
  exact h
theorem m_hund_2_1 (hd : 1 ≤ d) (h : Q (some (.int (nI (hund 2 1)))) u) : SP xl xs d Y_Model_hundredths [.int (nI 2), .int (nI 1)] u Q := by
  obtain ⟨d, rfl⟩ : ∃ q, d = q + 1 := ⟨d - 1, by omega⟩
  refine ⟨Nat.le_of_ble_eq_true rfl, am_go (am_sp_mo _) (fun _ => false) 30 (fun X hX => ?_)⟩
  conv => whnf
  try dsimp only
  repeat (first | (refine ⟨fun hh => absurd hh (by decide), fun _ => ?_⟩; conv => whnf; try dsimp only) | (refine ⟨fun _ => ?_, fun hh => absurd (by decide) hh⟩; conv => whnf; try dsimp only) | (refine ⟨fun _ => ?_, fun hh => absurd hh (by decide)⟩; conv => whnf; try dsimp only))
  exact h
theorem m_hund_2_2 (hd : 1 ≤ d) (h : Q (some (.int (nI (hund 2 2)))) u) : SP xl xs d Y_Model_hundredths [.int (nI 2), .int (nI 2)] u Q := by
  obtain ⟨d, rfl⟩ : ∃ q, d = q + 1 := ⟨d - 1, by omega⟩
  refine ⟨Nat.le_of_ble_eq_true rfl, am_go (am_sp_mo _) (fun _ => false) 30 (fun X hX => ?_)⟩
  conv => whnf
  try dsimp only
  repeat (first | (refine ⟨fun hh => absurd hh (by decide), fun _ => ?_⟩; conv => whnf; try dsimp only) | (refine ⟨fun _ => ?_, fun hh => absurd (by decide) hh⟩; conv => whnf; try dsimp only) | (refine ⟨fun _ => ?_, fun hh => absurd hh (by decide)⟩; conv => whnf; try dsimp only))
  exact h
theorem m_hund_2_3 (hd : 1 ≤ d) (h : Q (some (.int (nI (hund 2 3)))) u) : SP xl xs d Y_Model_hundredths [.int (nI 2), .int (nI 3)] u Q := by
  obtain ⟨d, rfl⟩ : ∃ q, d = q + 1 := ⟨d - 1, by omega⟩
  refine ⟨Nat.le_of_ble_eq_true rfl, am_go (am_sp_mo _) (fun _ => false) 30 (fun X hX => ?_)⟩
  conv => whnf
  try dsimp only
  repeat (first | (refine ⟨fun hh => absurd hh (by decide), fun _ => ?_⟩; conv => whnf; try dsimp only) | (refine ⟨fun _ => ?_, fun hh => absurd (by decide) hh⟩; conv => whnf; try dsimp only) | (refine ⟨fun _ => ?_, fun hh => absurd hh (by decide)⟩; conv => whnf; try dsimp only))
  exact h
theorem m_hund_3_0 (hd : 1 ≤ d) (h : Q (some (.int (nI (hund 3 0)))) u) : SP xl xs d Y_Model_hundredths [.int (nI 3), .int (nI 0)] u Q := by
  obtain ⟨d, rfl⟩ : ∃ q, d = q + 1 := ⟨d - 1, by omega⟩
  refine ⟨Nat.le_of_ble_eq_true rfl, am_go (am_sp_mo _) (fun _ => false) 30 (fun X hX => ?_)⟩
  conv => whnf
  try dsimp only
  repeat (first | (refine ⟨fun hh => absurd hh (by decide), fun _ => ?_⟩; conv => whnf; try dsimp only) | (refine ⟨fun _ => ?_, fun hh => absurd (by decide) hh⟩; conv => whnf; try dsimp only) | (refine ⟨fun _ => ?_, fun hh => absurd hh (by decide)⟩; conv => whnf; try dsimp only))
  exact h
theorem m_hund_3_1 (hd : 1 ≤ d) (h : Q (some (.int (nI (hund 3 1)))) u) : SP xl xs d Y_Model_hundredths [.int (nI 3), .int (nI 1)] u Q := by
  obtain ⟨d, rfl⟩ : ∃ q, d = q + 1 := ⟨d - 1, by omega⟩
  refine ⟨Nat.le_of_ble_eq_true rfl, am_go (am_sp_mo _) (fun _ => false) 30 (fun X hX => ?_)⟩
  conv => whnf
  try dsimp only
  repeat (first | (refine ⟨fun hh => absurd hh (by decide), fun _ => ?_⟩; conv => whnf; try dsimp only) | (refine ⟨fun _ => ?_, fun hh => absurd (by decide) hh⟩; conv => whnf; try dsimp only) | (refine ⟨fun _ => ?_, fun hh => absurd hh (by decide)⟩; conv => whnf; try dsimp only))
  exact h
theorem m_hund_3_2 (hd : 1 ≤ d) (h : Q (some (.int (nI (hund 3 2)))) u) : SP xl xs d Y_Model_hundredths [.int (nI 3), .int (nI 2)] u Q := by
  obtain ⟨d, rfl⟩ : ∃ q, d = q + 1 := ⟨d - 1, by omega⟩
  refine ⟨Nat.le_of_ble_eq_true rfl, am_go (am_sp_mo _) (fun _ => false) 30 (fun X hX => ?_)⟩
  conv => whnf
  try dsimp only
  repeat (first | (refine ⟨fun hh => absurd hh (by decide), fun _ => ?_⟩; conv => whnf; try dsimp only) | (refine ⟨fun _ => ?_, fun hh => absurd (by decide) hh⟩; conv => whnf; try dsimp only) | (refine ⟨fun _ => ?_, fun hh => absurd hh (by decide)⟩; conv => whnf; try dsimp only))
  exact h
theorem m_hund_3_3 (hd : 1 ≤ d) (h : Q (some (.int (nI (hund 3 3)))) u) : SP xl xs d Y_Model_hundredths [.int (nI 3), .int (nI 3)] u Q := by
  obtain ⟨d, rfl⟩ : ∃ q, d = q + 1 := ⟨d - 1, by omega⟩
  refine ⟨Nat.le_of_ble_eq_true rfl, am_go (am_sp_mo _) (fun _ => false) 30 (fun X hX => ?_)⟩
  conv => whnf
  try dsimp only
  repeat (first | (refine ⟨fun hh => absurd hh (by decide), fun _ => ?_⟩; conv => whnf; try dsimp only) | (refine ⟨fun _ => ?_, fun hh => absurd (by decide) hh⟩; conv => whnf; try dsimp only) | (refine ⟨fun _ => ?_, fun hh => absurd hh (by decide)⟩; conv => whnf; try dsimp only))
  exact h
theorem m_hund_4_0 (hd : 1 ≤ d) (h : Q (some (.int (nI (hund 4 0)))) u) : SP xl xs d Y_Model_hundredths [.int (nI 4), .int (nI 0)] u Q := by
  obtain ⟨d, rfl⟩ : ∃ q, d = q + 1 := ⟨d - 1, by omega⟩
  refine ⟨Nat.le_of_ble_eq_true rfl, am_go (am_sp_mo _) (fun _ => false) 30 (fun X hX => ?_)⟩
  conv => whnf
  try dsimp only
  repeat (first | (refine ⟨fun hh => absurd hh (by decide), fun _ => ?_⟩; conv => whnf; try dsimp only) | (refine ⟨fun _ => ?_, fun hh => absurd (by decide) hh⟩; conv => whnf; try dsimp only) | (refine ⟨fun _ => ?_, fun hh => absurd hh (by decide)⟩; conv => whnf; try dsimp only))
  exact h
theorem m_hund_4_1 (hd : 1 ≤ d) (h : Q (some (.int (nI (hund 4 1)))) u) : SP xl xs d Y_Model_hundredths [.int (nI 4), .int (nI 1)] u Q := by
  obtain ⟨d, rfl⟩ : ∃ q, d = q + 1 := ⟨d - 1, by omega⟩
  refine ⟨Nat.le_of_ble_eq_true rfl, am_go (am_sp_mo _) (fun _ => false) 30 (fun X hX => ?_)⟩
  conv => whnf
  try dsimp only
  repeat (first | (refine ⟨fun hh => absurd hh (by decide), fun _ => ?_⟩; conv => whnf; try dsimp only) | (refine ⟨fun _ => ?_, fun hh => absurd (by decide) hh⟩; conv => whnf; try dsimp only) | (refine ⟨fun _ => ?_, fun hh => absurd hh (by decide)⟩; conv => whnf; try dsimp only))
  exact h
theorem m_hund_4_2 (hd : 1 ≤ d) (h : Q (some (.int (nI (hund 4 2)))) u) : SP xl xs d Y_Model_hundredths [.int (nI 4), .int (nI 2)] u Q := by
  obtain ⟨d, rfl⟩ : ∃ q, d = q + 1 := ⟨d - 1, by omega⟩
  refine ⟨Nat.le_of_ble_eq_true rfl, am_go (am_sp_mo _) (fun _ => false) 30 (fun X hX => ?_)⟩
  conv => whnf
  try dsimp only
  repeat (first | (refine ⟨fun hh => absurd hh (by decide), fun _ => ?_⟩; conv => whnf; try dsimp only) | (refine ⟨fun _ => ?_, fun hh => absurd (by decide) hh⟩; conv => whnf; try dsimp only) | (refine ⟨fun _ => ?_, fun hh => absurd hh (by decide)⟩; conv => whnf; try dsimp only))
  exact h
theorem m_hund_4_3 (hd : 1 ≤ d) (h : Q (some (.int (nI (hund 4 3)))) u) : SP xl xs d Y_Model_hundredths [.int (nI 4), .int (nI 3)] u Q := by
  obtain ⟨d, rfl⟩ : ∃ q, d = q + 1 := ⟨d - 1, by omega⟩
  refine ⟨Nat.le_of_ble_eq_true rfl, am_go (am_sp_mo _) (fun _ => false) 30 (fun X hX => ?_)⟩
  conv => whnf
  try dsimp only
  repeat (first | (refine ⟨fun hh => absurd hh (by decide), fun _ => ?_⟩; conv => whnf; try dsimp only) | (refine ⟨fun _ => ?_, fun hh => absurd (by decide) hh⟩; conv => whnf; try dsimp only) | (refine ⟨fun _ => ?_, fun hh => absurd hh (by decide)⟩; conv => whnf; try dsimp only))
  exact h
theorem m_hund_5_0 (hd : 1 ≤ d) (h : Q (some (.int (nI (hund 5 0)))) u) : SP xl xs d Y_Model_hundredths [.int (nI 5), .int (nI 0)] u Q := by
  obtain ⟨d, rfl⟩ : ∃ q, d = q + 1 := ⟨d - 1, by omega⟩
  refine ⟨Nat.le_of_ble_eq_true rfl, am_go (am_sp_mo _) (fun _ => false) 30 (fun X hX => ?_)⟩
  conv => whnf
  try dsimp only
  repeat (first | (refine ⟨fun hh => absurd hh (by decide), fun _ => ?_⟩; conv => whnf; try dsimp only) | (refine ⟨fun _ => ?_, fun hh => absurd (by decide) hh⟩; conv => whnf; try dsimp only) | (refine ⟨fun _ => ?_, fun hh => absurd hh (by decide)⟩; conv => whnf; try dsimp only))
  exact h
theorem m_hund_5_1 (hd : 1 ≤ d) (h : Q (some (.int (nI (hund 5 1)))) u) : SP xl xs d Y_Model_hundredths [.int (nI 5), .int (nI 1)] u Q := by
  obtain ⟨d, rfl⟩ : ∃ q, d = q + 1 := ⟨d - 1, by omega⟩
  refine ⟨Nat.le_of_ble_eq_true rfl, am_go (am_sp_mo _) (fun _ => false) 30 (fun X hX => ?_)⟩
  conv => whnf
  try dsimp only
  repeat (first | (refine ⟨fun hh => absurd hh (by decide), fun _ => ?_⟩; conv => whnf; try dsimp only) | (refine ⟨fun _ => ?_, fun hh => absurd (by decide) hh⟩; conv => whnf; try dsimp only) | (refine ⟨fun _ => ?_, fun hh => absurd hh (by decide)⟩; conv => whnf; try dsimp only))
  exact h
theorem m_hund_5_2 (hd : 1 ≤ d) (h : Q (some (.int (nI (hund 5 2)))) u) : SP xl xs d Y_Model_hundredths [.int (nI 5), .int (nI 2)] u Q := by
  obtain ⟨d, rfl⟩ : ∃ q, d = q + 1 := ⟨d - 1, by omega⟩
  refine ⟨Nat.le_of_ble_eq_true rfl, am_go (am_sp_mo _) (fun _ => false) 30 (fun X hX => ?_)⟩
  conv => whnf
  try dsimp only
  repeat (first | (refine ⟨fun hh => absurd hh (by decide), fun _ => ?_⟩; conv => whnf; try dsimp only) | (refine ⟨fun _ => ?_, fun hh => absurd (by decide) hh⟩; conv => whnf; try dsimp only) | (refine ⟨fun _ => ?_, fun hh => absurd hh (by decide)⟩; conv => whnf; try dsimp only))
  exact h
theorem m_hund_5_3 (hd : 1 ≤ d) (h : Q (some (.int (nI (hund 5 3)))) u) : SP xl xs d Y_Model_hundredths [.int (nI 5), .int (nI 3)] u Q := by
  obtain ⟨d, rfl⟩ : ∃ q, d = q + 1 := ⟨d - 1, by omega⟩
  refine ⟨Nat.le_of_ble_eq_true rfl, am_go (am_sp_mo _) (fun _ => false) 30 (fun X hX => ?_)⟩
  conv => whnf
  try dsimp only
  repeat (first | (refine ⟨fun hh => absurd hh (by decide), fun _ => ?_⟩; conv => whnf; try dsimp only) | (refine ⟨fun _ => ?_, fun hh => absurd (by decide) hh⟩; conv => whnf; try dsimp only) | (refine ⟨fun _ => ?_, fun hh => absurd hh (by decide)⟩; conv => whnf; try dsimp only))
  exact h
theorem m_hund_6_0 (hd : 1 ≤ d) (h : Q (some (.int (nI (hund 6 0)))) u) : SP xl xs d Y_Model_hundredths [.int (nI 6), .int (nI 0)] u Q := by
  obtain ⟨d, rfl⟩ : ∃ q, d = q + 1 := ⟨d - 1, by omega⟩
  refine ⟨Nat.le_of_ble_eq_true rfl, am_go (am_sp_mo _) (fun _ => false) 30 (fun X hX => ?_)⟩
  conv => whnf
  try dsimp only
  repeat (first | (refine ⟨fun hh => absurd hh (by decide), fun _ => ?_⟩; conv => whnf; try dsimp only) | (refine ⟨fun _ => ?_, fun hh => absurd (by decide) hh⟩; conv => whnf; try dsimp only) | (refine ⟨fun _ => ?_, fun hh => absurd hh (by decide)⟩; conv => whnf; try dsimp only))
  exact h
theorem m_hund_6_1 (hd : 1 ≤ d) (h : Q (some (.int (nI (hund 6 1)))) u) : SP xl xs d Y_Model_hundredths [.int (nI 6), .int (nI 1)] u Q := by
  obtain ⟨d, rfl⟩ : ∃ q, d = q + 1 := ⟨d - 1, by omega⟩
  refine ⟨Nat.le_of_ble_eq_true rfl, am_go (am_sp_mo _) (fun _ => false) 30 (fun X hX => ?_)⟩
  conv => whnf
  try dsimp only
  repeat (first | (refine ⟨fun hh => absurd hh (by decide), fun _ => ?_⟩; conv => whnf; try dsimp only) | (refine ⟨fun _ => ?_, fun hh => absurd (by decide) hh⟩; conv => whnf; try dsimp only) | (refine ⟨fun _ => ?_, fun hh => absurd hh (by decide)⟩; conv => whnf; try dsimp only))
  exact h
theorem m_hund_6_2 (hd : 1 ≤ d) (h : Q (some (.int (nI (hund 6 2)))) u) : SP xl xs d Y_Model_hundredths [.int (nI 6), .int (nI 2)] u Q := by
  obtain ⟨d, rfl⟩ : ∃ q, d = q + 1 := ⟨d - 1, by omega⟩
  refine ⟨Nat.le_of_ble_eq_true rfl, am_go (am_sp_mo _) (fun _ => false) 30 (fun X hX => ?_)⟩
  conv => whnf
  try dsimp only
  repeat (first | (refine ⟨fun hh => absurd hh (by decide), fun _ => ?_⟩; conv => whnf; try dsimp only) | (refine ⟨fun _ => ?_, fun hh => absurd (by decide) hh⟩; conv => whnf; try dsimp only) | (refine ⟨fun _ => ?_, fun hh => absurd hh (by decide)⟩; conv => whnf; try dsimp only))
  exact h
theorem m_hund_6_3 (hd : 1 ≤ d) (h : Q (some (.int (nI (hund 6 3)))) u) : SP xl xs d Y_Model_hundredths [.int (nI 6), .int (nI 3)] u Q := by
  obtain ⟨d, rfl⟩ : ∃ q, d = q + 1 := ⟨d - 1, by omega⟩
  refine ⟨Nat.le_of_ble_eq_true rfl, am_go (am_sp_mo _) (fun _ => false) 30 (fun X hX => ?_)⟩
  conv => whnf
  try dsimp only
  repeat (first | (refine ⟨fun hh => absurd hh (by decide), fun _ => ?_⟩; conv => whnf; try dsimp only) | (refine ⟨fun _ => ?_, fun hh => absurd (by decide) hh⟩; conv => whnf; try dsimp only) | (refine ⟨fun _ => ?_, fun hh => absurd hh (by decide)⟩; conv => whnf; try dsimp only))
  exact h
theorem m_hund {w k : Nat} (hw : w < 7) (hk : k < 4) (hd : 1 ≤ d) (h : Q (some (.int (nI (hund w k)))) u) : SP xl xs d Y_Model_hundredths [.int (nI w), .int (nI k)] u Q := by
  match w, k, hw, hk, h with
  | 0, 0, _, _, h => exact m_hund_0_0 hd h
  | 0, 1, _, _, h => exact m_hund_0_1 hd h
  | 0, 2, _, _, h => exact m_hund_0_2 hd h
  | 0, 3, _, _, h => exact m_hund_0_3 hd h
  | 1, 0, _, _, h => exact m_hund_1_0 hd h
  | 1, 1, _, _, h => exact m_hund_1_1 hd h
  | 1, 2, _, _, h => exact m_hund_1_2 hd h
  | 1, 3, _, _, h => exact m_hund_1_3 hd h
  | 2, 0, _, _, h => exact m_hund_2_0 hd h
  | 2, 1, _, _, h => exact m_hund_2_1 hd h
  | 2, 2, _, _, h => exact m_hund_2_2 hd h
  | 2, 3, _, _, h => exact m_hund_2_3 hd h
  | 3, 0, _, _, h => exact m_hund_3_0 hd h
  | 3, 1, _, _, h => exact m_hund_3_1 hd h
  | 3, 2, _, _, h => exact m_hund_3_2 hd h
  | 3, 3, _, _, h => exact m_hund_3_3 hd h
  | 4, 0, _, _, h => exact m_hund_4_0 hd h
  | 4, 1, _, _, h => exact m_hund_4_1 hd h
  | 4, 2, _, _, h => exact m_hund_4_2 hd h
  | 4, 3, _, _, h => exact m_hund_4_3 hd h
  | 5, 0, _, _, h => exact m_hund_5_0 hd h
  | 5, 1, _, _, h => exact m_hund_5_1 hd h
  | 5, 2, _, _, h => exact m_hund_5_2 hd h
  | 5, 3, _, _, h => exact m_hund_5_3 hd h
  | 6, 0, _, _, h => exact m_hund_6_0 hd h
  | 6, 1, _, _, h => exact m_hund_6_1 hd h
  | 6, 2, _, _, h => exact m_hund_6_2 hd h
  | 6, 3, _, _, h => exact m_hund_6_3 hd h
  | w + 7, k, hw, _, _ => exact absurd hw (by omega)
  | w, k + 4, _, hk, _ => exact absurd hk (by omega)
theorem m_scoreOf {a : Nat} {ch : Nat → Nat} (ha : a < 12) (hch : ∀ k, k < 7 → i 104 (7 * a + k) = nI (ch k) ∧ ch k < 4) (hd : 2 ≤ d) (h : Q (some (.int (msc ch))) (KS, i)) : SP xl xs d Y_Model_scoreOf [.ref 89, .int (nI a)] (KS, i) Q := by
  have hat : ∀ k, k < 7 → Int32.ofInt 7 * nI a + nI k = nI (7 * a + k) := fun k _ => by rw [li_7, pk_mul, nI_add]
  have hcl : ∀ k, k < 7 → (nI (7 * a + k)).toNatClampNeg = 7 * a + k := fun k _ => nI_clamp (by omega)
  have hin : ∀ k, k < 7 → vp_in (nI (7 * a + k)) 84 := fun k _ => vp_in_nI (by omega) (by decide)
  obtain ⟨d, rfl⟩ : ∃ q, d = q + 1 := ⟨d - 1, by omega⟩
  refine ⟨Nat.le_of_ble_eq_true rfl, am_go (am_sp_mo _) (fun q => q == 7) 40 (fun X hX => ?_)⟩
  conv => whnf
  try dsimp only
  refine hX _ _ _ _ _ _ ?_
  have loop1 : ∀ (n k : Nat) (v : Int64), k + n = 4 → (∀ v' : Int64, v' = (if k = 0 then v * hl 0 (ch 0) * hl 1 (ch 1) * hl 2 (ch 2) * hl 3 (ch 3) else if k = 1 then v * hl 1 (ch 1) * hl 2 (ch 2) * hl 3 (ch 3) else if k = 2 then v * hl 2 (ch 2) * hl 3 (ch 3) else if k = 3 then v * hl 3 (ch 3) else v) → am_wp (ax_E xl xs) (ax_cd Y_Model_scoreOf) (am_sp (ax_E xl xs) ax_cd ax_ml d) Q 7 [some (.ref 89), some (.int (nI a)), some (.long v'), none, some (.int (nI 4)), none, none, none, none, none] [] (KS, i) 0 0) → am_wp (ax_E xl xs) (ax_cd Y_Model_scoreOf) (am_sp (ax_E xl xs) ax_cd ax_ml d) Q 7 [some (.ref 89), some (.int (nI a)), some (.long v), none, some (.int (nI k)), none, none, none, none, none] [] (KS, i) 0 0 := by
    intro n
    induction n with
    | zero =>
      intro k v hk hg
      have : k = 4 := by omega
      subst this
      exact hg v rfl
    | succ n ih =>
      intro k v hk hg
      refine am_go (am_sp_mo _) (fun q => q == 7) 40 (fun X hX => ?_)
      conv => whnf
      try dsimp only
      refine ⟨fun hh => absurd hh (by rw [li_4]; exact nI_ge (by omega) (by decide)), fun _ => ?_⟩
      conv => whnf
      try dsimp only
      rw [hat k (by omega)]
      refine ⟨84, [], rfl, hin k (by omega), ?_⟩
      conv => whnf
      try dsimp only
      rw [hcl k (by omega), (hch k (by omega)).1]
      refine m_hund (by omega) (hch k (by omega)).2 (by omega) ?_
      conv => whnf
      try dsimp only
      refine hX _ _ _ _ _ _ (am_wpL ?_ rfl (ih (k + 1) (v * hl k (ch k)) (by omega) (fun v' hv' => hg v' ?_)))
      · show [_, _, some (Value.long (v * (nI (hund k (ch k))).toInt64)), _, some (Value.int (nI k + Int32.ofInt 1)), _, _, _, _, _] = _
        rw [li_1, nI_add]
        rfl
      · rw [hv']
        rcases (show k = 0 ∨ k = 1 ∨ k = 2 ∨ k = 3 by omega) with rfl | rfl | rfl | rfl <;> rfl
  refine loop1 4 0 (Int64.ofInt 822) (by omega) (fun v' hv' => ?_)
  have hv' : v' = mway ch := hv'
  subst hv'
  refine am_go (am_sp_mo _) (fun q => q == 46) 40 (fun X hX => ?_)
  conv => whnf
  try dsimp only
  refine ⟨fun _ => ?_, fun hh => absurd (by decide) hh⟩
  conv => whnf
  try dsimp only
  refine hX _ _ _ _ _ _ ?_
  have loop2 : ∀ (n k : Nat) (v : Int64), k + n = 7 → 4 ≤ k → (∀ v' : Int64, v' = (if k = 4 then v * hl 4 (ch 4) * hl 5 (ch 5) * hl 6 (ch 6) else if k = 5 then v * hl 5 (ch 5) * hl 6 (ch 6) else if k = 6 then v * hl 6 (ch 6) else v) → am_wp (ax_E xl xs) (ax_cd Y_Model_scoreOf) (am_sp (ax_E xl xs) ax_cd ax_ml d) Q 46 [some (.ref 89), some (.int (nI a)), some (.long (mway ch)), none, some (.long v'), none, some (.int (nI 7)), none, none, none] [] (KS, i) 0 0) → am_wp (ax_E xl xs) (ax_cd Y_Model_scoreOf) (am_sp (ax_E xl xs) ax_cd ax_ml d) Q 46 [some (.ref 89), some (.int (nI a)), some (.long (mway ch)), none, some (.long v), none, some (.int (nI k)), none, none, none] [] (KS, i) 0 0 := by
    intro n
    induction n with
    | zero =>
      intro k v hk _ hg
      have : k = 7 := by omega
      subst this
      exact hg v rfl
    | succ n ih =>
      intro k v hk hk4 hg
      refine am_go (am_sp_mo _) (fun q => q == 46) 40 (fun X hX => ?_)
      conv => whnf
      try dsimp only
      refine ⟨fun hh => absurd hh (by rw [li_7]; exact nI_ge (by omega) (by decide)), fun _ => ?_⟩
      conv => whnf
      try dsimp only
      rw [hat k (by omega)]
      refine ⟨84, [], rfl, hin k (by omega), ?_⟩
      conv => whnf
      try dsimp only
      rw [hcl k (by omega), (hch k (by omega)).1]
      refine m_hund (by omega) (hch k (by omega)).2 (by omega) ?_
      conv => whnf
      try dsimp only
      refine hX _ _ _ _ _ _ (am_wpL ?_ rfl (ih (k + 1) (v * hl k (ch k)) (by omega) (by omega) (fun v' hv' => hg v' ?_)))
      · show [_, _, _, _, some (Value.long (v * (nI (hund k (ch k))).toInt64)), _, some (Value.int (nI k + Int32.ofInt 1)), _, _, _] = _
        rw [li_1, nI_add]
        rfl
      · rw [hv']
        rcases (show k = 4 ∨ k = 5 ∨ k = 6 by omega) with rfl | rfl | rfl <;> rfl
  refine loop2 3 4 (Int64.ofInt 1) (by omega) (by omega) (fun v' hv' => ?_)
  subst hv'
  refine am_go (am_sp_mo _) (fun _ => false) 60 (fun X hX => ?_)
  conv => whnf
  try dsimp only
  refine ⟨fun _ => ?_, fun hh => absurd (by decide) hh⟩
  conv => whnf
  try dsimp only
  refine ⟨fun hne => ?_, fun heq => ?_⟩
  · have hne : ¬ mimp ch = 0 := fun e => hne ((lg_eq0 _ _).mpr e)
    conv => whnf
    try dsimp only
    refine ⟨by decide, ?_⟩
    conv => whnf
    try dsimp only
    refine ⟨fun hle => ?_, fun hle => ?_⟩
    · have hle : mq ch ≤ Int64.ofInt 100 := (lg_le0 _ _).mp hle
      conv => whnf
      try dsimp only
      refine q_eq ?_ rfl h
      rw [msc, if_neg hne, if_pos hle]
      rfl
    · have hle : ¬ mq ch ≤ Int64.ofInt 100 := fun e => hle ((lg_le0 _ _).mpr e)
      conv => whnf
      try dsimp only
      refine q_eq ?_ rfl h
      rw [msc, if_neg hne, if_neg hle]
      rfl
  · have heq : mimp ch = 0 := (lg_eq0 _ _).mp heq
    conv => whnf
    try dsimp only
    refine q_eq ?_ rfl h
    rw [msc, if_pos heq]
    rfl
theorem m_score {x : Int32} {ch : Nat → Nat → Nat} (hc : i 89 13 = nI na) (hn : na ≤ 12) (hch : ∀ a, a < 12 → ∀ k, k < 7 → i 104 (7 * a + k) = nI (ch a k) ∧ ch a k < 4) (hd : 3 ≤ d) (h1 : ∀ a, a < na → x = nI a → Q (some (.int (msc (ch a)))) (KS, i)) (h0 : (x < 0 ∨ nI na ≤ x) → Q (some (.int (-1))) (KS, i)) : SP xl xs d Y_Model_score [.ref 89, .int x] (KS, i) Q := by
  obtain ⟨d, rfl⟩ : ∃ q, d = q + 1 := ⟨d - 1, by omega⟩
  refine ⟨Nat.le_of_ble_eq_true rfl, am_go (am_sp_mo _) (fun _ => false) 30 (fun X hX => ?_)⟩
  conv => whnf
  try dsimp only
  refine m_isAdv hc hn (by omega) (fun a ha hx => ?_) (fun hx => ?_)
  · conv => whnf
    try dsimp only
    refine ⟨fun h => absurd h (by decide), fun _ => ?_⟩
    conv => whnf
    try dsimp only
    rw [hx]
    refine m_scoreOf (by omega) (hch a (by omega)) (by omega) ?_
    conv => whnf
    try dsimp only
    exact h1 a ha hx
  · conv => whnf
    try dsimp only
    refine ⟨fun _ => ?_, fun h => absurd rfl h⟩
    conv => whnf
    try dsimp only
    exact h0 hx
end SCORE
end
section
/-! GROUPS MADE ONE, UPDATES, CHOICES -/
theorem min_nI {a b : Nat} (ha : a < 2 ^ 31) (hb : b < 2 ^ 31) : (if nI b < nI a then nI b else nI a) = nI (min a b) := by
  by_cases h : b < a
  · rw [if_pos (nI_lt h ha), Nat.min_eq_right (by omega)]
  · rw [if_neg (nI_nlt (by omega) hb), Nat.min_eq_left (by omega)]
theorem max_nI {a b : Nat} (ha : a < 2 ^ 31) (hb : b < 2 ^ 31) : (if nI a < nI b then nI b else nI a) = nI (max a b) := by
  by_cases h : a < b
  · rw [if_pos (nI_lt h hb), Nat.max_eq_right (by omega)]
  · rw [if_neg (nI_nlt (by omega) ha), Nat.max_eq_left (by omega)]
section SAME
variable {xl : Nat} {xs : Nat → Int32} {d : Nat} {i : Nat → Nat → Int32} {Q : am_Q} {np na : Nat} {nv gr : Nat → Nat}
theorem c_same {x y : Int32} (hc : i 20 7 = nI na) (hn : na ≤ 12) (hg : ∀ a, a < na → i 51 a = nI (gr a) ∧ gr a < 12) (hd : 4 ≤ d)
    (h1 : ∀ a b, a < na → b < na → x = nI a → y = nI b → ∀ j : Nat → Nat → Int32, (∀ q, q ≠ 51 → q ≠ 54 + min (gr a) (gr b) → j q = i q) → (∀ c, j 51 c = if c < na ∧ i 51 c = nI (max (gr a) (gr b)) then nI (min (gr a) (gr b)) else i 51 c) → (∀ p, p < 6 → j (54 + min (gr a) (gr b)) p = if i (54 + min (gr a) (gr b)) p < i (54 + max (gr a) (gr b)) p then i (54 + max (gr a) (gr b)) p else i (54 + min (gr a) (gr b)) p) → Q (some (.int (nI (min (gr a) (gr b))))) (KS, j))
    (h0 : (∀ a b, a < na → b < na → ¬ (x = nI a ∧ y = nI b)) → Q (some (.int (-1))) (KS, i)) : SP xl xs d Y_AM_same [.ref 0, .int x, .int y] (KS, i) Q := by
  obtain ⟨d, rfl⟩ : ∃ q, d = q + 1 := ⟨d - 1, by omega⟩
  refine ⟨Nat.le_of_ble_eq_true rfl, am_go (am_sp_mo _) (fun _ => false) 60 (fun X hX => ?_)⟩
  conv => whnf
  try dsimp only
  refine k_Adv_has hc hn (by omega) (fun a ha hx => ?_) (fun hx => ?_)
  · conv => whnf
    try dsimp only
    refine ⟨fun h => absurd h (by decide), fun _ => ?_⟩
    conv => whnf
    try dsimp only
    refine k_Adv_has hc hn (by omega) (fun b hb hy => ?_) (fun hy => ?_)
    · have ga := hg a ha
      have gb := hg b hb
      have hlt : max (gr a) (gr b) < 12 ∧ min (gr a) (gr b) < 12 := by omega
      conv => whnf
      try dsimp only
      refine ⟨fun _ => ?_, fun h => absurd h (by decide)⟩
      conv => whnf
      try dsimp only
      refine k_groupOf hc hn (by omega) (fun a' _ hx' => ?_) (fun hx' => absurd hx (out_np (by omega) hx' ha))
      have := nI_inj (by omega) (by omega) (hx'.symm.trans hx)
      subst this
      conv => whnf
      try dsimp only
      refine k_groupOf hc hn (by omega) (fun b' _ hy' => ?_) (fun hy' => absurd hy (out_np (by omega) hy' hb))
      have := nI_inj (by omega) (by omega) (hy'.symm.trans hy)
      subst this
      conv => whnf
      try dsimp only
      refine k_groupOf hc hn (by omega) (fun a2 _ hx2 => ?_) (fun hx' => absurd hx (out_np (by omega) hx' ha))
      have := nI_inj (by omega) (by omega) (hx2.symm.trans hx)
      subst this
      conv => whnf
      try dsimp only
      refine k_groupOf hc hn (by omega) (fun b2 _ hy2 => ?_) (fun hy' => absurd hy (out_np (by omega) hy' hb))
      have := nI_inj (by omega) (by omega) (hy2.symm.trans hy)
      subst this
      conv => whnf
      try dsimp only
      rw [ga.1, gb.1, min_nI (by omega) (by omega), max_nI (by omega) (by omega)]
      refine k_renameGroup hc hn (by omega) (fun j hj1 hj2 => ?_)
      conv => whnf
      try dsimp only
      refine k_exJoin hlt.1 hlt.2 (by omega) (fun j2 hk1 hk2 => ?_)
      conv => whnf
      try dsimp only
      refine h1 a2 b2 ha hb hx hy j2 (fun q q1 q2 => ?_) (fun c => ?_) (fun p hp => ?_)
      · rw [hk1 q q2, hj1 q q1]
      · rw [hk1 51 (by omega), hj2]
      · rw [hk2 p hp, hj1 _ (by omega), hj1 _ (by omega)]
    · conv => whnf
      try dsimp only
      refine ⟨fun h => absurd rfl h, fun _ => ?_⟩
      conv => whnf
      try dsimp only
      exact h0 fun a b _ hb' e => out_np (by omega) hy hb' e.2
  · conv => whnf
    try dsimp only
    refine ⟨fun _ => ?_, fun h => absurd rfl h⟩
    conv => whnf
    try dsimp only
    exact h0 fun a b ha' _ e => out_np (by omega) hx ha' e.1
theorem m_same {x y : Int32} (hc : i 89 13 = nI na) (hn : na ≤ 12) (hg : ∀ a, a < na → i 106 a = nI (gr a) ∧ gr a < 12) (hd : 2 ≤ d)
    (h1 : ∀ a b, a < na → b < na → x = nI a → y = nI b → ¬ gr a = gr b → ∀ j : Nat → Nat → Int32, (∀ q, q ≠ 106 → q ≠ 107 → j q = i q) → (∀ c, j 106 c = if c < na ∧ i 106 c = nI (max (gr a) (gr b)) then nI (min (gr a) (gr b)) else i 106 c) → (∀ q, j 107 q = if 6 * max (gr a) (gr b) ≤ q ∧ q < 6 * max (gr a) (gr b) + 6 then -1 else if 6 * min (gr a) (gr b) ≤ q ∧ q < 6 * min (gr a) (gr b) + 6 ∧ i 107 q < i 107 (6 * max (gr a) (gr b) + (q - 6 * min (gr a) (gr b))) then i 107 (6 * max (gr a) (gr b) + (q - 6 * min (gr a) (gr b))) else i 107 q) → Q (some (.int (nI (min (gr a) (gr b))))) (KS, j))
    (h2 : ∀ a b, a < na → b < na → x = nI a → y = nI b → gr a = gr b → Q (some (.int (nI (gr a)))) (KS, i))
    (h0 : (∀ a b, a < na → b < na → ¬ (x = nI a ∧ y = nI b)) → Q (some (.int (-1))) (KS, i)) : SP xl xs d Y_Model_same [.ref 89, .int x, .int y] (KS, i) Q := by
  obtain ⟨d, rfl⟩ : ∃ q, d = q + 1 := ⟨d - 1, by omega⟩
  refine ⟨Nat.le_of_ble_eq_true rfl, am_go (am_sp_mo _) (fun q => q == 48 || q == 79 || q == 92) 80 (fun X hX => ?_)⟩
  conv => whnf
  try dsimp only
  refine m_isAdv hc hn (by omega) (fun a ha hx => ?_) (fun hx => ?_)
  · conv => whnf
    try dsimp only
    refine ⟨fun h => absurd h (by decide), fun _ => ?_⟩
    conv => whnf
    try dsimp only
    refine m_isAdv hc hn (by omega) (fun b hb hy => ?_) (fun hy => ?_)
    · have ga := hg a ha
      have gb := hg b hb
      have hina : vp_in x 12 := by rw [hx]; exact vp_in_nI (by omega) (by decide)
      have hinb : vp_in y 12 := by rw [hy]; exact vp_in_nI (by omega) (by decide)
      have ea : i 106 x.toNatClampNeg = nI (gr a) := by rw [hx, nI_clamp (by omega)]; exact ga.1
      have eb : i 106 y.toNatClampNeg = nI (gr b) := by rw [hy, nI_clamp (by omega)]; exact gb.1
      generalize hK : min (gr a) (gr b) = K at h1
      generalize hG : max (gr a) (gr b) = G at h1
      -- what follows once both are known
      have fin : am_wp (ax_E xl xs) (ax_cd Y_Model_same) (am_sp (ax_E xl xs) ax_cd ax_ml d) Q 79 [some (.ref 89), some (.int x), some (.int y), some (.int (nI K)), none, none, none] [.int (nI G)] (KS, i) 0 0 := by
        have hg6 : ∀ p : Nat, Int32.ofInt 6 * nI G + nI p = nI (6 * G + p) := fun p => by rw [li_6, pk_mul, nI_add]
        have hk6 : ∀ p : Nat, Int32.ofInt 6 * nI K + nI p = nI (6 * K + p) := fun p => by rw [li_6, pk_mul, nI_add]
        have hKG : K ≤ G ∧ G < 12 := by omega
        refine am_go (am_sp_mo _) (fun q => q == 92) 30 (fun X hX => ?_)
        conv => whnf
        try dsimp only
        refine ⟨fun hne => ?_, fun heq => ?_⟩
        rotate_left
        · have : K = G := nI_inj (by omega) (by omega) heq
          have e1 : gr a = K := by omega
          conv => whnf
          try dsimp only
          have := h2 a b ha hb hx hy (by omega)
          rw [e1] at this
          exact this
        have hne' : ¬ K = G := fun e => hne (by rw [e])
        have h1 := h1 a b ha hb hx hy (by omega)
        rw [hK, hG] at h1
        conv => whnf
        try dsimp only
        refine hX _ _ _ _ _ _ ?_
        have ends : ∀ m p o (j : Nat → Nat → Int32), p + m = 6 → (∀ q, q ≠ 106 → q ≠ 107 → j q = i q) → (∀ c, j 106 c = if c < na ∧ i 106 c = nI G then nI K else i 106 c) → (∀ q, j 107 q = if 6 * G ≤ q ∧ q < 6 * G + p then -1 else if 6 * K ≤ q ∧ q < 6 * K + p ∧ i 107 q < i 107 (6 * G + (q - 6 * K)) then i 107 (6 * G + (q - 6 * K)) else i 107 q) → am_wp (ax_E xl xs) (ax_cd Y_Model_same) (am_sp (ax_E xl xs) ax_cd ax_ml d) Q 140 [some (.ref 89), some (.int x), some (.int y), some (.int (nI K)), some (.int (nI G)), some (.int (nI p)), o] [] (KS, j) 0 0 := by
          intro m
          induction m with
          | zero =>
            intro p o j hp k1 k2 k3
            have : p = 6 := by omega
            subst this
            refine am_go (am_sp_mo _) (fun q => q == 140) 30 (fun X hX => ?_)
            conv => whnf
            try dsimp only
            refine ⟨fun _ => ?_, fun hh => absurd (by decide) hh⟩
            conv => whnf
            try dsimp only
            exact h1 j k1 k2 k3
          | succ m ih =>
            intro p o j hp k1 k2 k3
            have jg : j 107 (6 * G + p) = i 107 (6 * G + p) := by rw [k3, if_neg (by omega), if_neg (fun z => by omega)]
            have jk : j 107 (6 * K + p) = i 107 (6 * K + p) := by rw [k3, if_neg (by omega), if_neg (fun z => by omega)]
            refine am_go (am_sp_mo _) (fun q => q == 140) 60 (fun X hX => ?_)
            conv => whnf
            try dsimp only
            refine ⟨fun hh => absurd hh (by rw [li_6]; exact nI_ge (by omega) (by decide)), fun _ => ?_⟩
            conv => whnf
            try dsimp only
            rw [hg6]
            refine ⟨72, [], rfl, vp_in_nI (by omega) (by decide), ?_⟩
            conv => whnf
            try dsimp only
            rw [hk6]
            refine ⟨72, [], rfl, vp_in_nI (by omega) (by decide), ?_⟩
            conv => whnf
            try dsimp only
            rw [nI_clamp (show 6 * G + p < 2 ^ 31 by omega), nI_clamp (show 6 * K + p < 2 ^ 31 by omega), jg, jk]
            refine ⟨fun hle => ?_, fun hle => ?_⟩
            · have hle' : ¬ i 107 (6 * K + p) < i 107 (6 * G + p) := by rw [Int32.lt_iff_toInt_lt]; rw [Int32.le_iff_toInt_le] at hle; omega
              conv => whnf
              try dsimp only
              rw [hg6]
              refine ⟨72, [], rfl, vp_in_nI (by omega) (by decide), ?_⟩
              conv => whnf
              try dsimp only
              rw [nI_clamp (show 6 * G + p < 2 ^ 31 by omega)]
              refine hX _ _ _ _ _ _ (am_wpL ?_ rfl (ih (p + 1) (some (.int (i 107 (6 * G + p)))) (am_up j 107 (6 * G + p) (-1)) (by omega) (fun q q1 q2 => (up_a q2).trans (k1 q q1 q2)) (fun c => by rw [up_n (Or.inl (by decide))]; exact k2 c) (fun q => ?_)))
              · show [_, _, _, _, _, some (Value.int (nI p + Int32.ofInt 1)), _] = _
                rw [li_1, nI_add]
                try rfl
              · rw [up_at, k3]
                by_cases e1 : q = 6 * G + p
                · rw [if_pos ⟨rfl, e1⟩, if_pos (by omega)]
                · rw [if_neg (by omega)]
                  by_cases e2 : 6 * G ≤ q ∧ q < 6 * G + p
                  · rw [if_pos e2, if_pos (by omega)]
                  · rw [if_neg e2, if_neg (show ¬ (6 * G ≤ q ∧ q < 6 * G + (p + 1)) by omega)]
                    by_cases e3 : q = 6 * K + p
                    · subst e3
                      rw [if_neg (show ¬ (6 * K ≤ 6 * K + p ∧ 6 * K + p < 6 * K + p ∧ _) from fun z => absurd z.2.1 (by omega)), if_neg (fun z => hle' (by have := z.2.2; rw [show 6 * G + (6 * K + p - 6 * K) = 6 * G + p by omega] at this; exact this))]
                    · by_cases e4 : 6 * K ≤ q ∧ q < 6 * K + p ∧ i 107 q < i 107 (6 * G + (q - 6 * K))
                      · rw [if_pos e4, if_pos ⟨e4.1, by omega, e4.2.2⟩]
                      · rw [if_neg e4, if_neg (fun z => e4 ⟨z.1, by omega, z.2.2⟩)]
            · have hle' : i 107 (6 * K + p) < i 107 (6 * G + p) := by rw [Int32.lt_iff_toInt_lt]; rw [Int32.le_iff_toInt_le] at hle; omega
              conv => whnf
              try dsimp only
              rw [hk6]
              refine ⟨72, [], rfl, vp_in_nI (by omega) (by decide), ?_⟩
              conv => whnf
              try dsimp only
              rw [hg6]
              refine ⟨72, [], rfl, vp_in_nI (by omega) (by decide), ?_⟩
              conv => whnf
              try dsimp only
              rw [nI_clamp (show 6 * G + p < 2 ^ 31 by omega), nI_clamp (show 6 * K + p < 2 ^ 31 by omega)]
              refine hX _ _ _ _ _ _ (am_wpL ?_ rfl (ih (p + 1) (some (.int (i 107 (6 * G + p)))) (am_up (am_up j 107 (6 * K + p) (i 107 (6 * G + p))) 107 (6 * G + p) (-1)) (by omega) (fun q q1 q2 => by rw [up_a q2, up_a q2]; exact k1 q q1 q2) (fun c => by rw [up_n (Or.inl (by decide)), up_n (Or.inl (by decide))]; exact k2 c) (fun q => ?_)))
              · show [_, _, _, _, _, some (Value.int (nI p + Int32.ofInt 1)), _] = _
                rw [li_1, nI_add]
                try rfl
              · rw [up_at, up_at, k3]
                by_cases e1 : q = 6 * G + p
                · rw [if_pos ⟨rfl, e1⟩, if_pos (by omega)]
                · rw [if_neg (by omega)]
                  by_cases e3 : q = 6 * K + p
                  · subst e3
                    rw [if_pos ⟨rfl, rfl⟩, if_neg (show ¬ (6 * G ≤ 6 * K + p ∧ 6 * K + p < 6 * G + (p + 1)) by omega), if_pos ⟨by omega, by omega, by rw [show 6 * G + (6 * K + p - 6 * K) = 6 * G + p by omega]; exact hle'⟩, show 6 * G + (6 * K + p - 6 * K) = 6 * G + p by omega]
                  · rw [if_neg (by omega)]
                    by_cases e2 : 6 * G ≤ q ∧ q < 6 * G + p
                    · rw [if_pos e2, if_pos (by omega)]
                    · rw [if_neg e2, if_neg (show ¬ (6 * G ≤ q ∧ q < 6 * G + (p + 1)) by omega)]
                      by_cases e4 : 6 * K ≤ q ∧ q < 6 * K + p ∧ i 107 q < i 107 (6 * G + (q - 6 * K))
                      · rw [if_pos e4, if_pos ⟨e4.1, by omega, e4.2.2⟩]
                      · rw [if_neg e4, if_neg (fun z => e4 ⟨z.1, by omega, z.2.2⟩)]
        have ren : ∀ m k (j : Nat → Nat → Int32), k + m = na → (∀ q, q ≠ 106 → j q = i q) → (∀ c, j 106 c = if c < k ∧ i 106 c = nI G then nI K else i 106 c) → am_wp (ax_E xl xs) (ax_cd Y_Model_same) (am_sp (ax_E xl xs) ax_cd ax_ml d) Q 92 [some (.ref 89), some (.int x), some (.int y), some (.int (nI K)), some (.int (nI G)), some (.int (nI k)), none] [] (KS, j) 0 0 := by
          intro m
          induction m with
          | zero =>
            intro k j hk k1 k2
            have : k = na := by omega
            subst this
            refine am_go (am_sp_mo _) (fun q => q == 92 || q == 140) 30 (fun X hX => ?_)
            conv => whnf
            try dsimp only
            rw [k1 89 (by decide), hc]
            refine ⟨fun _ => ?_, fun hh => absurd (nI_le (Nat.le_refl _) (by omega)) hh⟩
            conv => whnf
            try dsimp only
            exact hX _ _ _ _ _ _ (ends 6 0 none j (by omega) (fun q q1 _ => k1 q q1) k2 (fun q => by rw [if_neg (by omega), if_neg (by omega), k1 107 (by decide)]))
          | succ m ih =>
            intro k j hk k1 k2
            have jk : j 106 k = i 106 k := by rw [k2, if_neg (by omega)]
            have hcl : (nI k).toNatClampNeg = k := nI_clamp (by omega)
            refine am_go (am_sp_mo _) (fun q => q == 92) 60 (fun X hX => ?_)
            conv => whnf
            try dsimp only
            rw [k1 89 (by decide), hc]
            refine ⟨fun hh => absurd hh (nI_ge (by omega) (by omega)), fun _ => ?_⟩
            conv => whnf
            try dsimp only
            refine ⟨12, [], rfl, vp_in_nI (by omega) (by decide), ?_⟩
            conv => whnf
            try dsimp only
            rw [hcl, jk]
            refine ⟨fun hne => ?_, fun heq => ?_⟩
            · conv => whnf
              try dsimp only
              rw [hcl]
              refine ⟨12, [], rfl, vp_in_nI (by omega) (by decide), ?_⟩
              conv => whnf
              try dsimp only
              refine ⟨12, [], rfl, vp_in_nI (by omega) (by decide), ?_⟩
              conv => whnf
              try dsimp only
              try rw [hcl]
              try rw [jk]
              refine hX _ _ _ _ _ _ (am_wpL ?_ rfl (ih (k + 1) (am_up j 106 k (i 106 k)) (by omega) (fun q q1 => (up_a q1).trans (k1 q q1)) (fun c => ?_)))
              · show [_, _, _, _, _, some (Value.int (nI k + Int32.ofInt 1)), _] = _
                rw [li_1, nI_add]
                try rfl
              · rw [up_at, k2]
                by_cases e1 : c = k
                · subst e1
                  rw [if_pos ⟨rfl, rfl⟩, if_neg (fun z => hne z.2)]
                · rw [if_neg (by omega)]
                  by_cases e2 : c < k ∧ i 106 c = nI G
                  · rw [if_pos e2, if_pos ⟨by omega, e2.2⟩]
                  · rw [if_neg e2, if_neg (fun z => e2 ⟨by omega, z.2⟩)]
            · conv => whnf
              try dsimp only
              refine ⟨12, [], rfl, vp_in_nI (by omega) (by decide), ?_⟩
              conv => whnf
              try dsimp only
              try rw [hcl]
              refine hX _ _ _ _ _ _ (am_wpL ?_ rfl (ih (k + 1) (am_up j 106 k (nI K)) (by omega) (fun q q1 => (up_a q1).trans (k1 q q1)) (fun c => ?_)))
              · show [_, _, _, _, _, some (Value.int (nI k + Int32.ofInt 1)), _] = _
                rw [li_1, nI_add]
                try rfl
              · rw [up_at, k2]
                by_cases e1 : c = k
                · subst e1
                  rw [if_pos ⟨rfl, rfl⟩, if_pos ⟨by omega, heq⟩]
                · rw [if_neg (by omega)]
                  by_cases e2 : c < k ∧ i 106 c = nI G
                  · rw [if_pos e2, if_pos ⟨by omega, e2.2⟩]
                  · rw [if_neg e2, if_neg (fun z => e2 ⟨by omega, z.2⟩)]
        exact ren na 0 i (by omega) (fun _ _ => rfl) (fun c => by rw [if_neg (by omega)])
      have mid : am_wp (ax_E xl xs) (ax_cd Y_Model_same) (am_sp (ax_E xl xs) ax_cd ax_ml d) Q 48 [some (.ref 89), some (.int x), some (.int y), none, none, none, none] [.int (nI K)] (KS, i) 0 0 := by
        refine am_go (am_sp_mo _) (fun q => q == 79) 40 (fun X hX => ?_)
        conv => whnf
        try dsimp only
        refine ⟨12, [], rfl, hina, ?_⟩
        conv => whnf
        try dsimp only
        refine ⟨12, [], rfl, hinb, ?_⟩
        conv => whnf
        try dsimp only
        rw [ea, eb]
        refine ⟨fun hh => ?_, fun hh => ?_⟩
        · have : gr b ≤ gr a := (nI_leI (by omega) (by omega)).mp hh
          conv => whnf
          try dsimp only
          refine ⟨12, [], rfl, hina, ?_⟩
          conv => whnf
          try dsimp only
          rw [ea, show gr a = G by omega]
          exact hX _ _ _ _ _ _ fin
        · have : ¬ gr b ≤ gr a := fun q => hh (nI_le q (by omega))
          conv => whnf
          try dsimp only
          refine ⟨12, [], rfl, hinb, ?_⟩
          conv => whnf
          try dsimp only
          rw [eb, show gr b = G by omega]
          exact hX _ _ _ _ _ _ fin
      conv => whnf
      try dsimp only
      refine ⟨fun _ => ?_, fun h => absurd h (by decide)⟩
      conv => whnf
      try dsimp only
      refine ⟨12, [], rfl, hina, ?_⟩
      conv => whnf
      try dsimp only
      refine ⟨12, [], rfl, hinb, ?_⟩
      conv => whnf
      try dsimp only
      rw [ea, eb]
      refine ⟨fun hh => ?_, fun hh => ?_⟩
      · have : gr b ≤ gr a := (nI_leI (by omega) (by omega)).mp hh
        conv => whnf
        try dsimp only
        refine ⟨12, [], rfl, hinb, ?_⟩
        conv => whnf
        try dsimp only
        rw [eb, show gr b = K by omega]
        exact hX _ _ _ _ _ _ mid
      · have : ¬ gr b ≤ gr a := fun q => hh (nI_le q (by omega))
        conv => whnf
        try dsimp only
        refine ⟨12, [], rfl, hina, ?_⟩
        conv => whnf
        try dsimp only
        rw [ea, show gr a = K by omega]
        exact hX _ _ _ _ _ _ mid
    · conv => whnf
      try dsimp only
      refine ⟨fun h => absurd rfl h, fun _ => ?_⟩
      conv => whnf
      try dsimp only
      exact h0 fun a b _ hb' e => out_np (by omega) hy hb' e.2
  · conv => whnf
    try dsimp only
    refine ⟨fun _ => ?_, fun h => absurd rfl h⟩
    conv => whnf
    try dsimp only
    exact h0 fun a b ha' _ e => out_np (by omega) hx ha' e.1
theorem c_update (hk : PK i np nv) (hb : i 84 7 = 0 ∨ i 84 7 = 1) (hl : ∀ p, p < np → i 88 p = -1 ∨ ∃ k, k < nv p ∧ i 88 p = nI k) (hd : 5 ≤ d)
    (h1 : i 84 7 = 1 → ∀ j : Nat → Nat → Int32, (∀ b, b ≠ 11 → b ≠ 12 → j b = i b) → (∀ p, p < 6 → j 11 p = if p < np ∧ umv (i 11) (i 88) p = true then i 88 p else i 11 p) → (∀ p, p < 6 → j 12 p = if p < np ∧ umv (i 11) (i 88) p = true then i (4 + p) (i 88 p).toNatClampNeg else i 12 p) → Q (some (.int (nI (bcnt (umv (i 11) (i 88)) np)))) (KS, j))
    (h0 : i 84 7 = 0 → Q (some (.int (-1))) (KS, i)) : SP xl xs d Y_AM_update [.ref 0] (KS, i) Q := by
  have hp := hk.1
  have hn := hk.2.1
  obtain ⟨d, rfl⟩ : ∃ q, d = q + 1 := ⟨d - 1, by omega⟩
  refine ⟨Nat.le_of_ble_eq_true rfl, am_go (am_sp_mo _) (fun _ => false) 20 (fun X hX => ?_)⟩
  conv => whnf
  try dsimp only
  have carry : ∀ {d : Nat} {Q : am_Q}, 4 ≤ d → (i 84 7 = 1 → ∀ j : Nat → Nat → Int32, (∀ b, b ≠ 11 → b ≠ 12 → j b = i b) → (∀ p, p < 6 → j 11 p = if p < np ∧ umv (i 11) (i 88) p = true then i 88 p else i 11 p) → (∀ p, p < 6 → j 12 p = if p < np ∧ umv (i 11) (i 88) p = true then i (4 + p) (i 88 p).toNatClampNeg else i 12 p) → Q (some (.int (nI (bcnt (umv (i 11) (i 88)) np)))) (KS, j)) → (i 84 7 = 0 → Q (some (.int (-1))) (KS, i)) → SP xl xs d Y_Planner_carryOut [.ref 84] (KS, i) Q := by
    intro d Q hd h1 h0
    obtain ⟨d, rfl⟩ : ∃ q, d = q + 1 := ⟨d - 1, by omega⟩
    refine ⟨Nat.le_of_ble_eq_true rfl, am_go (am_sp_mo _) (fun q => q == 13) 30 (fun X hX => ?_)⟩
    conv => whnf
    try dsimp only
    refine ⟨fun hz => ?_, fun hz => ?_⟩
    rotate_left
    · conv => whnf
      try dsimp only
      exact h0 hz
    have h1 := h1 (hb.resolve_left hz)
    conv => whnf
    try dsimp only
    refine hX _ _ _ _ _ _ ?_
    have loop : ∀ m p o (j : Nat → Nat → Int32), p + m = 6 → (∀ b, b ≠ 11 → b ≠ 12 → j b = i b) → (∀ q, j 11 q = if (q < p ∧ q < np) ∧ umv (i 11) (i 88) q = true then i 88 q else i 11 q) → (∀ q, j 12 q = if (q < p ∧ q < np) ∧ umv (i 11) (i 88) q = true then i (4 + q) (i 88 q).toNatClampNeg else i 12 q) → am_wp (ax_E xl xs) (ax_cd Y_Planner_carryOut) (am_sp (ax_E xl xs) ax_cd ax_ml d) Q 13 [some (.ref 84), some (.int (nI (bcnt (umv (i 11) (i 88)) (min p np)))), some (.int (nI p)), o] [] (KS, j) 0 0 := by
      intro m
      induction m with
      | zero =>
        intro p o j hpp h2 h3 h4
        have : p = 6 := by omega
        subst this
        rw [Nat.min_eq_right hn]
        refine am_go (am_sp_mo _) (fun q => q == 13) 30 (fun X hX => ?_)
        conv => whnf
        try dsimp only
        refine ⟨fun _ => ?_, fun hh => absurd (by decide) hh⟩
        conv => whnf
        try dsimp only
        refine h1 j h2 (fun p hp' => ?_) (fun p hp' => ?_)
        · rw [h3]
          by_cases h9 : p < np ∧ umv (i 11) (i 88) p = true
          · rw [if_pos h9, if_pos ⟨⟨hp', h9.1⟩, h9.2⟩]
          · rw [if_neg h9, if_neg (fun z => h9 ⟨z.1.2, z.2⟩)]
        · rw [h4]
          by_cases h9 : p < np ∧ umv (i 11) (i 88) p = true
          · rw [if_pos h9, if_pos ⟨⟨hp', h9.1⟩, h9.2⟩]
          · rw [if_neg h9, if_neg (fun z => h9 ⟨z.1.2, z.2⟩)]
      | succ m ih =>
        intro p o j hpp h2 h3 h4
        have hcp : (nI p).toNatClampNeg = p := nI_clamp (by omega)
        have hjp : j 11 p = i 11 p := by rw [h3, if_neg (by omega)]
        have hkj : PK j np nv := hk.fr (h2 1 (by decide) (by decide)) (h2 10 (by decide) (by decide))
        have hin : vp_in (nI p) 6 := vp_in_nI (by omega) (by decide)
        have same : ∀ o', (p < np → umv (i 11) (i 88) p = false) → am_wp (ax_E xl xs) (ax_cd Y_Planner_carryOut) (am_sp (ax_E xl xs) ax_cd ax_ml d) Q 13 [some (.ref 84), some (.int (nI (bcnt (umv (i 11) (i 88)) (min p np)))), some (.int (nI p + Int32.ofInt 1)), o'] [] (KS, j) 0 0 := by
          intro o' e
          refine am_wpL ?_ rfl (ih (p + 1) o' j (by omega) h2 (fun q => ?_) (fun q => ?_))
          · have hc : bcnt (umv (i 11) (i 88)) (min (p + 1) np) = bcnt (umv (i 11) (i 88)) (min p np) := by
              by_cases hlt : p < np
              · rw [Nat.min_eq_left (by omega), Nat.min_eq_left (by omega), bcnt, e hlt]
                rfl
              · rw [Nat.min_eq_right (by omega), Nat.min_eq_right (by omega)]
            rw [hc, li_1, nI_add]
          · rw [h3]
            by_cases h9 : (q < p ∧ q < np) ∧ umv (i 11) (i 88) q = true
            · rw [if_pos h9, if_pos ⟨⟨by omega, h9.1.2⟩, h9.2⟩]
            · rw [if_neg h9, if_neg (fun z => ?_)]
              by_cases eq : q = p
              · subst eq
                rw [e z.1.2] at z
                cases z.2
              · exact h9 ⟨⟨by omega, z.1.2⟩, z.2⟩
          · rw [h4]
            by_cases h9 : (q < p ∧ q < np) ∧ umv (i 11) (i 88) q = true
            · rw [if_pos h9, if_pos ⟨⟨by omega, h9.1.2⟩, h9.2⟩]
            · rw [if_neg h9, if_neg (fun z => ?_)]
              by_cases eq : q = p
              · subst eq
                rw [e z.1.2] at z
                cases z.2
              · exact h9 ⟨⟨by omega, z.1.2⟩, z.2⟩
        refine am_go (am_sp_mo _) (fun q => q == 13) 60 (fun X hX => ?_)
        conv => whnf
        try dsimp only
        refine ⟨fun hh => absurd hh (by rw [li_6]; exact nI_ge (by omega) (by decide)), fun _ => ?_⟩
        conv => whnf
        try dsimp only
        refine k_placeOf hkj (by omega) (fun p' hp' ep => ?_) (fun hout => ?_)
        · have := nI_inj (by omega) (by omega) ep
          subst this
          conv => whnf
          try dsimp only
          rw [hjp]
          refine ⟨fun hm => ?_, fun hm => ?_⟩
          · conv => whnf
            try dsimp only
            exact hX _ _ _ _ _ _ (same _ (fun _ => by unfold umv; rw [show decide (i 11 p = -1) = true from decide_eq_true hm]; rfl))
          have hm' : decide (i 11 p = -1) = false := decide_eq_false hm
          conv => whnf
          try dsimp only
          refine ⟨6, [], rfl, hin, ?_⟩
          conv => whnf
          try dsimp only
          rw [hcp, h2 88 (by decide) (by decide)]
          refine ⟨fun hg => ?_, fun hg => ?_⟩
          · conv => whnf
            try dsimp only
            exact hX _ _ _ _ _ _ (same _ (fun _ => by unfold umv; rw [show decide (i 88 p = -1) = true from decide_eq_true hg, Bool.not_true, Bool.false_and, Bool.and_false]))
          have hg' : decide (i 88 p = -1) = false := decide_eq_false hg
          obtain ⟨z, hz, ez⟩ := (hl p hp').resolve_left hg
          conv => whnf
          try dsimp only
          refine ⟨6, [], rfl, hin, ?_⟩
          conv => whnf
          try dsimp only
          try rw [hcp]
          rw [h2 88 (by decide) (by decide)]
          refine ⟨fun heq => ?_, fun hne => ?_⟩
          · conv => whnf
            try dsimp only
            exact hX _ _ _ _ _ _ (same _ (fun _ => by unfold umv; rw [show decide (i 88 p = i 11 p) = true from decide_eq_true heq, Bool.not_true, Bool.and_false, Bool.and_false]))
          have hu : umv (i 11) (i 88) p = true := by unfold umv; rw [hm', hg', show decide (i 88 p = i 11 p) = false from decide_eq_false hne]; rfl
          conv => whnf
          try dsimp only
          refine ⟨6, [], rfl, hin, ?_⟩
          conv => whnf
          try dsimp only
          try rw [hcp]
          rw [h2 88 (by decide) (by decide)]
          refine k_putPlace hkj (by omega) (fun p2 _ _ e2 => absurd e2 hg) (fun p2 k2 _ hk2 e1 e2 => ?_) (fun hno => absurd ez ((hno p hp' rfl).2 z hz))
          have := nI_inj (by omega) (by omega) e1
          subst this
          conv => whnf
          try dsimp only
          refine hX _ _ _ _ _ _ (am_wpL ?_ rfl (ih (p + 1) (some (.int (i 11 p))) (am_up (am_up j 11 p (nI k2)) 12 p (j (4 + p) k2)) (by omega) (fun b b1 b2 => by rw [up_a b2, up_a b1]; exact h2 b b1 b2) (fun q => ?_) (fun q => ?_)))
          · show [_, some (Value.int (nI (bcnt (umv (i 11) (i 88)) (min p np)) + Int32.ofInt 1)), some (Value.int (nI p + Int32.ofInt 1)), _] = _
            rw [Nat.min_eq_left (by omega), Nat.min_eq_left (by omega), bcnt, hu, li_1, nI_add, nI_add]
            rfl
          · rw [up_n (Or.inl (by decide)), up_at]
            by_cases eq : q = p
            · subst eq
              rw [if_pos ⟨rfl, rfl⟩, if_pos ⟨⟨by omega, hp'⟩, hu⟩, e2]
            · rw [if_neg (by omega), h3]
              by_cases h9 : (q < p ∧ q < np) ∧ umv (i 11) (i 88) q = true
              · rw [if_pos h9, if_pos ⟨⟨by omega, h9.1.2⟩, h9.2⟩]
              · rw [if_neg h9, if_neg (fun w => h9 ⟨⟨by omega, w.1.2⟩, w.2⟩)]
          · rw [up_at]
            by_cases eq : q = p
            · subst eq
              have h5 := (hk.2.2 q (by omega)).2
              rw [if_pos ⟨rfl, rfl⟩, if_pos ⟨⟨by omega, hp'⟩, hu⟩, e2, nI_clamp (by omega), h2 (4 + q) (by omega) (by omega)]
            · rw [if_neg (by omega), up_n (Or.inl (by decide)), h4]
              by_cases h9 : (q < p ∧ q < np) ∧ umv (i 11) (i 88) q = true
              · rw [if_pos h9, if_pos ⟨⟨by omega, h9.1.2⟩, h9.2⟩]
              · rw [if_neg h9, if_neg (fun w => h9 ⟨⟨by omega, w.1.2⟩, w.2⟩)]
        · conv => whnf
          try dsimp only
          refine ⟨fun _ => ?_, fun hh => absurd rfl hh⟩
          conv => whnf
          try dsimp only
          exact hX _ _ _ _ _ _ (same _ (fun hlt => absurd rfl (out_np (by omega) hout hlt)))
    exact loop 6 0 none i (by omega) (fun _ _ _ => rfl) (fun q => by rw [if_neg (by omega)]) (fun q => by rw [if_neg (by omega)])
  refine carry (by omega) (fun h j a b c => ?_) (fun h => ?_)
  · conv => whnf
    try dsimp only
    exact h1 h j a b c
  · conv => whnf
    try dsimp only
    exact h0 h
end SAME
end
section
/-! THE REFERENCE: choices, spans, scores at versions, hits told -/
def mhas (i : Nat → Nat → Int32) (sp : Nat → Nat) (v : Int32) (a : Nat) : Bool := bany (spn (fun k => i 102 (3 * a + k)) (fun k => i 103 (3 * a + k)) v) (sp a)
def mstk (i : Nat → Nat → Int32) (sp : Nat → Nat) (p v : Int32) : Nat → Bool := stk (i 100) (i 105) (mhas i sp v) p
def mgst (i : Nat → Nat → Int32) (sp : Nat → Nat) (g p v : Int32) (a : Nat) : Bool := decide (i 106 a = g) && mstk i sp p v a
theorem le_nlt {x y : Int32} (h : x ≤ y) : ¬ y < x := by rw [Int32.lt_iff_toInt_lt]; rw [Int32.le_iff_toInt_le] at h; omega
theorem nle_lt {x y : Int32} (h : ¬ x ≤ y) : y < x := by rw [Int32.lt_iff_toInt_lt]; rw [Int32.le_iff_toInt_le] at h; omega
theorem lt_nle {x y : Int32} (h : x < y) : ¬ y ≤ x := by rw [Int32.lt_iff_toInt_lt] at h; rw [Int32.le_iff_toInt_le]; omega
theorem nlt_le {x y : Int32} (h : ¬ x < y) : y ≤ x := by rw [Int32.lt_iff_toInt_lt] at h; rw [Int32.le_iff_toInt_le]; omega
section MODEL3
variable {xl : Nat} {xs : Nat → Int32} {d : Nat} {i : Nat → Nat → Int32} {Q : am_Q} {u : am_St} {np nn na : Nat} {sp : Nat → Nat} {ch : Nat → Nat → Nat}
theorem m_inN {v hi : Int32} (n : Nat) (hn : n < 2 ^ 30) (hh : hi = nI n) (hd : 1 ≤ d) (h1 : ∀ k, k < n + 1 → v = nI k → Q (some (.int 1)) u) (h0 : (∀ k, k < n + 1 → ¬ v = nI k) → Q (some (.int 0)) u) : SP xl xs d Y_Model_in [.int v, .int (Int32.ofInt 0), .int hi] u Q := by
  subst hh
  refine m_in hd (fun hl hh => ?_) (fun hno => ?_)
  · rcases pk_ix v (n := n + 1) (by omega) with q | q | ⟨k, hk, e⟩
    · rw [li_0] at hl
      exact absurd q (le_nlt hl)
    · rw [Int32.le_iff_toInt_le, nI_toInt (by omega)] at q
      rw [Int32.le_iff_toInt_le, nI_toInt (by omega)] at hh
      omega
    · exact h1 k hk e
  · refine h0 fun k hk e => hno ?_ ?_
    · rw [e, li_0]; exact nI_le (by omega) (by omega)
    · rw [e]; exact nI_le (by omega) (by omega)
theorem m_severity {x x1 x2 x3 x4 x5 : Int32} (hc : i 89 13 = nI na) (hn : na ≤ 12) (hd : 2 ≤ d)
    (h1 : ∀ a r e t h m, a < na → r < 4 → e < 2 → t < 3 → h < 2 → m < 27 → x = nI a → x1 = nI r → x2 = nI e → x3 = nI t → x4 = nI h → x5 = nI m → ∀ j : Nat → Nat → Int32, (∀ q, q ≠ 104 → j q = i q) → (∀ q, j 104 q = if 7 * a ≤ q ∧ q < 7 * a + 7 then nI (chs r e t h m (q - 7 * a)) else i 104 q) → Q (some (.int 1)) (KS, j))
    (h0 : (∀ a r e t h m, a < na → r < 4 → e < 2 → t < 3 → h < 2 → m < 27 → ¬ (x = nI a ∧ x1 = nI r ∧ x2 = nI e ∧ x3 = nI t ∧ x4 = nI h ∧ x5 = nI m)) → Q (some (.int 0)) (KS, i)) : SP xl xs d Y_Model_severity [.ref 89, .int x, .int x1, .int x2, .int x3, .int x4, .int x5] (KS, i) Q := by
  obtain ⟨d, rfl⟩ : ∃ q, d = q + 1 := ⟨d - 1, by omega⟩
  refine ⟨Nat.le_of_ble_eq_true rfl, am_go (am_sp_mo _) (fun q => q == 61) 120 (fun X hX => ?_)⟩
  conv => whnf
  try dsimp only
  have bad : (∀ a r e t h m, a < na → r < 4 → e < 2 → t < 3 → h < 2 → m < 27 → ¬ (x = nI a ∧ x1 = nI r ∧ x2 = nI e ∧ x3 = nI t ∧ x4 = nI h ∧ x5 = nI m)) → am_wp (ax_E xl xs) (ax_cd Y_Model_severity) (am_sp (ax_E xl xs) ax_cd ax_ml d) Q 61 [some (.ref 89), some (.int x), some (.int x1), some (.int x2), some (.int x3), some (.int x4), some (.int x5), none] [] (KS, i) 0 0 := by
    intro hno
    refine am_go (am_sp_mo _) (fun _ => false) 30 (fun X hX => ?_)
    conv => whnf
    try dsimp only
    refine ⟨fun h => absurd rfl h, fun _ => ?_⟩
    conv => whnf
    try dsimp only
    exact ⟨Or.inl rfl, h0 hno⟩
  refine m_isAdv hc hn (by omega) (fun a ha hx => ?_) (fun hx => ?_)
  rotate_left
  · conv => whnf
    try dsimp only
    refine ⟨fun _ => hX _ _ _ _ _ _ (bad fun a _ _ _ _ _ ha _ _ _ _ _ z => out_np (by omega) hx ha z.1), fun h => absurd rfl h⟩
  conv => whnf
  try dsimp only
  refine ⟨fun h => absurd h (by decide), fun _ => ?_⟩
  conv => whnf
  try dsimp only
  refine m_inN 3 (by decide) (by decide) (by omega) (fun r hr e1 => ?_) (fun hno => ?_)
  rotate_left
  · conv => whnf
    try dsimp only
    refine ⟨fun _ => hX _ _ _ _ _ _ (bad fun a r e t h m _ hr _ _ _ _ z => hno r hr z.2.1), fun h => absurd rfl h⟩
  conv => whnf
  try dsimp only
  refine ⟨fun h => absurd h (by decide), fun _ => ?_⟩
  conv => whnf
  try dsimp only
  refine m_inN 1 (by decide) (by decide) (by omega) (fun e he e2 => ?_) (fun hno => ?_)
  rotate_left
  · conv => whnf
    try dsimp only
    refine ⟨fun _ => hX _ _ _ _ _ _ (bad fun a r e t h m _ _ he _ _ _ z => hno e he z.2.2.1), fun h => absurd rfl h⟩
  conv => whnf
  try dsimp only
  refine ⟨fun h => absurd h (by decide), fun _ => ?_⟩
  conv => whnf
  try dsimp only
  refine m_inN 2 (by decide) (by decide) (by omega) (fun t ht e3 => ?_) (fun hno => ?_)
  rotate_left
  · conv => whnf
    try dsimp only
    refine ⟨fun _ => hX _ _ _ _ _ _ (bad fun a r e t h m _ _ _ ht _ _ z => hno t ht z.2.2.2.1), fun h => absurd rfl h⟩
  conv => whnf
  try dsimp only
  refine ⟨fun h => absurd h (by decide), fun _ => ?_⟩
  conv => whnf
  try dsimp only
  refine m_inN 1 (by decide) (by decide) (by omega) (fun h hh e4 => ?_) (fun hno => ?_)
  rotate_left
  · conv => whnf
    try dsimp only
    refine ⟨fun _ => hX _ _ _ _ _ _ (bad fun a r e t h m _ _ _ _ hh _ z => hno h hh z.2.2.2.2.1), fun h => absurd rfl h⟩
  conv => whnf
  try dsimp only
  refine ⟨fun h => absurd h (by decide), fun _ => ?_⟩
  conv => whnf
  try dsimp only
  refine m_inN 26 (by decide) (by decide) (by omega) (fun m hm e5 => ?_) (fun hno => ?_)
  rotate_left
  · conv => whnf
    try dsimp only
    refine ⟨fun _ => hX _ _ _ _ _ _ (bad fun a r e t h m _ _ _ _ _ hm z => hno m hm z.2.2.2.2.2), fun h => absurd rfl h⟩
  conv => whnf
  try dsimp only
  refine ⟨fun h => absurd h (by decide), fun _ => ?_⟩
  conv => whnf
  try dsimp only
  refine ⟨fun _ => ?_, fun h => absurd h (by decide)⟩
  have ix : ∀ k : Nat, Int32.ofInt 7 * x + nI k = nI (7 * a + k) := fun k => by rw [hx, li_7, pk_mul, nI_add]
  have ix0 : Int32.ofInt 7 * x = nI (7 * a) := by rw [hx, li_7, pk_mul]
  have hin : ∀ k, k < 7 → vp_in (nI (7 * a + k)) 84 := fun k hk => vp_in_nI (by omega) (by decide)
  have hcl : ∀ k, k < 7 → (nI (7 * a + k)).toNatClampNeg = 7 * a + k := fun k hk => nI_clamp (by omega)
  have d1 : nI m / Int32.ofInt 9 = nI (m / 9) := by rw [li_9]; exact pk_div (by omega) (by decide) (by decide)
  have d2 : nI m / Int32.ofInt 3 = nI (m / 3) := by rw [li_3]; exact pk_div (by omega) (by decide) (by decide)
  have d3 : nI (m / 3) - nI (m / 3) / Int32.ofInt 3 * Int32.ofInt 3 = nI (m / 3 % 3) := by rw [li_3]; exact pk_rem (by omega) (by decide) (by decide)
  have d4 : nI m - nI m / Int32.ofInt 3 * Int32.ofInt 3 = nI (m % 3) := by rw [li_3]; exact pk_rem (by omega) (by decide) (by decide)
  conv => whnf
  try dsimp only
  refine ⟨84, [], rfl, by rw [ix0]; exact hin 0 (by decide), ?_⟩
  conv => whnf
  try dsimp only
  refine ⟨84, [], rfl, by rw [li_1, ix]; exact hin 1 (by decide), ?_⟩
  conv => whnf
  try dsimp only
  refine ⟨84, [], rfl, by rw [li_2, ix]; exact hin 2 (by decide), ?_⟩
  conv => whnf
  try dsimp only
  refine ⟨84, [], rfl, by rw [li_3, ix]; exact hin 3 (by decide), ?_⟩
  conv => whnf
  try dsimp only
  refine ⟨by decide, ?_⟩
  conv => whnf
  try dsimp only
  refine ⟨84, [], rfl, by rw [li_4, ix]; exact hin 4 (by decide), ?_⟩
  conv => whnf
  try dsimp only
  refine ⟨by decide, ?_⟩
  conv => whnf
  try dsimp only
  refine ⟨by decide, ?_⟩
  conv => whnf
  try dsimp only
  refine ⟨84, [], rfl, by rw [li_5, ix]; exact hin 5 (by decide), ?_⟩
  conv => whnf
  try dsimp only
  refine ⟨by decide, ?_⟩
  conv => whnf
  try dsimp only
  refine ⟨84, [], rfl, by rw [li_6, ix]; exact hin 6 (by decide), ?_⟩
  conv => whnf
  try dsimp only
  refine ⟨Or.inr rfl, h1 a r e t h m ha hr he ht hh hm hx e1 e2 e3 e4 e5 _ (fun q hq => ?_) (fun q => ?_)⟩
  · rw [up_a hq, up_a hq, up_a hq, up_a hq, up_a hq, up_a hq, up_a hq]
  · rw [up_at, up_at, up_at, up_at, up_at, up_at, up_at]
    rw [e5, d4, d2, d3, d1, li_1, li_2, li_4, li_5, li_6]
    rw [show (Int32.ofInt 7 * x + Int32.ofInt 3).toNatClampNeg = 7 * a + 3 by rw [li_3, ix, hcl 3 (by decide)]]
    rw [ix, ix, ix, ix, ix, ix0, hcl 1 (by decide), hcl 2 (by decide), hcl 4 (by decide), hcl 5 (by decide), hcl 6 (by decide), nI_clamp (show 7 * a < 2 ^ 31 by omega)]
    by_cases hq : 7 * a ≤ q ∧ q < 7 * a + 7
    · rw [if_pos hq]
      obtain ⟨k, rfl⟩ : ∃ k, q = 7 * a + k := ⟨q - 7 * a, by omega⟩
      have hk : k < 7 := by omega
      rw [show 7 * a + k - 7 * a = k by omega]
      have cs : k = 0 ∨ k = 1 ∨ k = 2 ∨ k = 3 ∨ k = 4 ∨ k = 5 ∨ k = 6 := by omega
      rcases cs with rfl | rfl | rfl | rfl | rfl | rfl | rfl <;> simp [chs, e1, e2, e3, e4]
    · rw [if_neg hq, if_neg (by omega), if_neg (by omega), if_neg (by omega), if_neg (by omega), if_neg (by omega), if_neg (by omega), if_neg (by omega)]
theorem m_broken (hN : MNK i nn) (hv : ∀ q, q < 30 → ¬ i 92 q = -1) (hpl : ∀ p, p < 6 → i 93 p = -1 ∨ ∃ q, q < 5 ∧ i 93 p = nI q) (hd : 3 ≤ d)
    (h : ∀ j : Nat → Nat → Int32, (∀ b, b ≠ 111 → j b = i b) → (∀ p, p < 6 → j 111 p = i 93 p) → Q (some (.int (nI (bcnt (mbrk j) nn)))) (KS, j)) : SP xl xs d Y_Model_broken [.ref 89] (KS, i) Q := by
  obtain ⟨d, rfl⟩ : ∃ q, d = q + 1 := ⟨d - 1, by omega⟩
  refine ⟨Nat.le_of_ble_eq_true rfl, am_go (am_sp_mo _) (fun _ => false) 20 (fun X hX => ?_)⟩
  conv => whnf
  try dsimp only
  refine m_look (by omega) (fun j h1 h2 => ?_)
  conv => whnf
  try dsimp only
  refine m_lacking (nn := nn) ?_ ?_ (by omega) ?_
  · unfold MNK at *
    rw [h1 89 (by decide), h1 94 (by decide), h1 96 (by decide)]
    exact hN
  · unfold NWK
    rw [h1 92 (by decide)]
    exact ⟨fun p hp => by rw [h2 p hp]; exact hpl p hp, hv⟩
  · conv => whnf
    try dsimp only
    exact h j h1 h2
theorem m_hasSpan {a : Nat} {v : Int32} (hA : MAK i na sp) (ha : a < 12) (hd : 1 ≤ d) (h : ∀ b : Bool, b = mhas i sp v a → Q (some (.int (if b = true then 1 else 0))) (KS, i)) : SP xl xs d Y_Model_hasSpan [.ref 89, .int (nI a), .int v] (KS, i) Q := by
  have hs := hA.2.2 a ha
  have e3 : Int32.ofInt 3 * nI a = nI (3 * a) := by rw [li_3, pk_mul]
  obtain ⟨d, rfl⟩ : ∃ q, d = q + 1 := ⟨d - 1, by omega⟩
  refine ⟨Nat.le_of_ble_eq_true rfl, am_go (am_sp_mo _) (fun q => q == 7) 30 (fun X hX => ?_)⟩
  conv => whnf
  try dsimp only
  rw [e3]
  refine hX _ _ _ _ _ _ ?_
  have loop : ∀ m k, k + m = sp a → am_wp (ax_E xl xs) (ax_cd Y_Model_hasSpan) (am_sp (ax_E xl xs) ax_cd ax_ml d) Q 7 [some (.ref 89), some (.int (nI a)), some (.int v), some (.int (if bany (spn (fun k => i 102 (3 * a + k)) (fun k => i 103 (3 * a + k)) v) k = true then Int32.ofInt 1 else Int32.ofInt 0)), some (.int (nI (3 * a + k)))] [] (KS, i) 0 0 := by
    intro m
    induction m with
    | zero =>
      intro k hk
      have : k = sp a := by omega
      subst this
      generalize hb : bany (spn (fun k => i 102 (3 * a + k)) (fun k => i 103 (3 * a + k)) v) (sp a) = b
      refine am_go (am_sp_mo _) (fun q => q == 7) 40 (fun X hX => ?_)
      conv => whnf
      try dsimp only
      refine ⟨12, [], rfl, vp_in_nI ha (by decide), ?_⟩
      conv => whnf
      try dsimp only
      rw [nI_clamp (show a < 2 ^ 31 by omega), hs.1, e3, nI_add]
      refine ⟨fun _ => ?_, fun hh => absurd (nI_le (Nat.le_refl _) (by omega)) hh⟩
      conv => whnf
      try dsimp only
      have h := h b hb.symm
      cases b with
      | false => exact ⟨Or.inl rfl, h⟩
      | true => exact ⟨Or.inr rfl, h⟩
    | succ m ih =>
      intro k hk
      have ih := ih (k + 1) (by omega)
      rw [bany] at ih
      have hcl : (nI (3 * a + k)).toNatClampNeg = 3 * a + k := nI_clamp (by omega)
      have hin : vp_in (nI (3 * a + k)) 36 := vp_in_nI (by omega) (by decide)
      generalize hb : bany (spn (fun k => i 102 (3 * a + k)) (fun k => i 103 (3 * a + k)) v) k = b at ih
      generalize hs2 : spn (fun k => i 102 (3 * a + k)) (fun k => i 103 (3 * a + k)) v k = b2 at ih
      have e1 : nI (3 * a + k) + Int32.ofInt 1 = nI (3 * a + (k + 1)) := by rw [li_1, nI_add]; rfl
      refine am_go (am_sp_mo _) (fun q => q == 7) 60 (fun X hX => ?_)
      conv => whnf
      try dsimp only
      refine ⟨12, [], rfl, vp_in_nI ha (by decide), ?_⟩
      conv => whnf
      try dsimp only
      rw [nI_clamp (show a < 2 ^ 31 by omega), hs.1, e3, nI_add]
      refine ⟨fun hh => absurd hh (nI_ge (by omega) (by omega)), fun _ => ?_⟩
      conv => whnf
      try dsimp only
      cases b with
      | true =>
        refine ⟨fun _ => ?_, fun h => absurd h (by decide)⟩
        conv => whnf
        try dsimp only
        rw [e1]
        exact hX _ _ _ _ _ _ ih
      | false =>
        refine ⟨fun h => absurd rfl h, fun _ => ?_⟩
        conv => whnf
        try dsimp only
        refine ⟨36, [], rfl, hin, ?_⟩
        conv => whnf
        try dsimp only
        rw [hcl]
        refine ⟨fun hl => ?_, fun hl => ?_⟩
        · have : b2 = false := by rw [← hs2]; unfold spn; rw [show decide (i 102 (3 * a + k) ≤ v) = false from decide_eq_false (lt_nle hl)]; rfl
          subst this
          conv => whnf
          try dsimp only
          rw [e1]
          exact hX _ _ _ _ _ _ ih
        have hl' : decide (i 102 (3 * a + k) ≤ v) = true := decide_eq_true (nlt_le hl)
        conv => whnf
        try dsimp only
        refine ⟨36, [], rfl, hin, ?_⟩
        conv => whnf
        try dsimp only
        rw [hcl]
        refine ⟨fun ht => ?_, fun ht => ?_⟩
        · have : b2 = true := by rw [← hs2]; unfold spn; rw [hl', show decide (i 103 (3 * a + k) = -1) = true from decide_eq_true ht]; rfl
          subst this
          conv => whnf
          try dsimp only
          rw [e1]
          exact hX _ _ _ _ _ _ ih
        conv => whnf
        try dsimp only
        refine ⟨36, [], rfl, hin, ?_⟩
        conv => whnf
        try dsimp only
        rw [hcl]
        refine ⟨fun hg => ?_, fun hg => ?_⟩
        · have : b2 = false := by rw [← hs2]; unfold spn; rw [show decide (i 103 (3 * a + k) = -1) = false from decide_eq_false ht, show decide (v < i 103 (3 * a + k)) = false from decide_eq_false (le_nlt hg), Bool.or_false, Bool.and_false]
          subst this
          conv => whnf
          try dsimp only
          rw [e1]
          exact hX _ _ _ _ _ _ ih
        · have : b2 = true := by rw [← hs2]; unfold spn; rw [hl', show decide (v < i 103 (3 * a + k)) = true from decide_eq_true (nle_lt hg), Bool.or_true]; rfl
          subst this
          conv => whnf
          try dsimp only
          rw [e1]
          exact hX _ _ _ _ _ _ ih
  exact loop (sp a) 0 (by omega)
theorem m_scoreThere {g p v : Int32} (hA : MAK i na sp) (hw : ∀ a, i 105 a = 0 ∨ i 105 a = 1) (hch : ∀ a, a < 12 → ∀ k, k < 7 → i 104 (7 * a + k) = nI (ch a k) ∧ ch a k < 4) (hd : 3 ≤ d) (h : Q (some (.int (mx (mgst i sp g p v) (fun a => msc (ch a)) na))) (KS, i)) : SP xl xs d Y_Model_scoreThere [.ref 89, .int g, .int p, .int v] (KS, i) Q := by
  have hc := hA.1
  have hn := hA.2.1
  obtain ⟨d, rfl⟩ : ∃ q, d = q + 1 := ⟨d - 1, by omega⟩
  refine ⟨Nat.le_of_ble_eq_true rfl, am_go (am_sp_mo _) (fun q => q == 6) 30 (fun X hX => ?_)⟩
  conv => whnf
  try dsimp only
  refine hX _ _ _ _ _ _ ?_
  have loop : ∀ m k o, k + m = na → am_wp (ax_E xl xs) (ax_cd Y_Model_scoreThere) (am_sp (ax_E xl xs) ax_cd ax_ml d) Q 6 [some (.ref 89), some (.int g), some (.int p), some (.int v), some (.int (mx (mgst i sp g p v) (fun a => msc (ch a)) k)), some (.int (nI k)), o] [] (KS, i) 0 0 := by
    intro m
    induction m with
    | zero =>
      intro k o hk
      have : k = na := by omega
      subst this
      refine am_go (am_sp_mo _) (fun q => q == 6) 30 (fun X hX => ?_)
      conv => whnf
      try dsimp only
      refine ⟨fun _ => ?_, fun hh => absurd (by rw [hc]; exact nI_le (Nat.le_refl _) (by omega)) hh⟩
      conv => whnf
      try dsimp only
      exact h
    | succ m ih =>
      intro k o hk
      have ih := fun o => ih (k + 1) o (by omega)
      have hcl : (nI k).toNatClampNeg = k := nI_clamp (by omega)
      have hin : vp_in (nI k) 12 := vp_in_nI (by omega) (by decide)
      have e1 : nI k + Int32.ofInt 1 = nI (k + 1) := by rw [li_1, nI_add]
      have no : mgst i sp g p v k = false → am_wp (ax_E xl xs) (ax_cd Y_Model_scoreThere) (am_sp (ax_E xl xs) ax_cd ax_ml d) Q 61 [some (.ref 89), some (.int g), some (.int p), some (.int v), some (.int (mx (mgst i sp g p v) (fun a => msc (ch a)) k)), some (.int (nI k)), o] [] (KS, i) 0 0 := by
        intro e
        have ih := ih (some (.int (Int32.ofInt 0)))
        rw [mx, e, if_neg (by decide)] at ih
        refine am_go (am_sp_mo _) (fun q => q == 6) 30 (fun X hX => ?_)
        conv => whnf
        try dsimp only
        refine ⟨fun _ => ?_, fun h => absurd rfl h⟩
        conv => whnf
        try dsimp only
        rw [e1]
        exact hX _ _ _ _ _ _ ih
      refine am_go (am_sp_mo _) (fun q => q == 6 || q == 61) 60 (fun X hX => ?_)
      conv => whnf
      try dsimp only
      refine ⟨fun hh => absurd hh (by rw [hc]; exact nI_ge (by omega) (by omega)), fun _ => ?_⟩
      conv => whnf
      try dsimp only
      refine ⟨12, [], rfl, hin, ?_⟩
      conv => whnf
      try dsimp only
      rw [hcl]
      refine ⟨fun hne => hX _ _ _ _ _ _ (no (by unfold mgst; rw [show decide (i 106 k = g) = false from decide_eq_false hne]; rfl)), fun hg => ?_⟩
      have hg' : decide (i 106 k = g) = true := decide_eq_true hg
      conv => whnf
      try dsimp only
      refine ⟨12, [], rfl, hin, ?_⟩
      conv => whnf
      try dsimp only
      rw [hcl]
      refine ⟨fun hne => hX _ _ _ _ _ _ (no (by unfold mgst mstk stk; rw [show decide (i 100 k = p) = false from decide_eq_false hne, Bool.false_and, Bool.and_false])), fun hp => ?_⟩
      have hp' : decide (i 100 k = p) = true := decide_eq_true hp
      conv => whnf
      try dsimp only
      refine ⟨12, [], rfl, hin, ?_⟩
      conv => whnf
      try dsimp only
      rw [hcl]
      rcases hw k with e | e
      rotate_left
      · rw [e]
        refine ⟨fun _ => hX _ _ _ _ _ _ (no (by unfold mgst mstk stk; rw [show decide (i 105 k = 0) = false from decide_eq_false (by rw [e]; decide), Bool.false_and, Bool.and_false, Bool.and_false])), fun h => absurd h (by decide)⟩
      rw [e]
      refine ⟨fun h => absurd rfl h, fun _ => ?_⟩
      conv => whnf
      try dsimp only
      refine m_hasSpan hA (by omega) (by omega) (fun b hb => ?_)
      have hgs : mgst i sp g p v k = b := by unfold mgst mstk stk; rw [hg', hp', show decide (i 105 k = 0) = true from decide_eq_true e, ← hb]; rfl
      cases b with
      | false =>
        conv => whnf
        try dsimp only
        refine ⟨fun _ => hX _ _ _ _ _ _ (no hgs), fun h => absurd rfl h⟩
      | true =>
        have ih := ih (some (.int (Int32.ofInt 1)))
        rw [mx, hgs, if_pos rfl] at ih
        conv => whnf
        try dsimp only
        refine ⟨fun h => absurd h (by decide), fun _ => ?_⟩
        conv => whnf
        try dsimp only
        refine ⟨fun h => absurd h (by decide), fun _ => ?_⟩
        conv => whnf
        try dsimp only
        refine m_scoreOf (by omega) (hch k (by omega)) (by omega) ?_
        conv => whnf
        try dsimp only
        refine ⟨fun hle => ?_, fun hle => ?_⟩
        · rw [if_neg (le_nlt hle)] at ih
          conv => whnf
          try dsimp only
          rw [e1]
          exact hX _ _ _ _ _ _ ih
        · rw [if_pos (nle_lt hle)] at ih
          conv => whnf
          try dsimp only
          refine m_scoreOf (by omega) (hch k (by omega)) (by omega) ?_
          conv => whnf
          try dsimp only
          rw [e1]
          exact hX _ _ _ _ _ _ ih
  exact loop na 0 none (by omega)
theorem m_isExcepted {g p : Nat} (hg : g < 12) (hp : p < 6) (hd : 1 ≤ d) (h : ∀ b : Bool, b = decide (i 89 0 < i 107 (6 * g + p)) → Q (some (.int (if b = true then 1 else 0))) (KS, i)) : SP xl xs d Y_Model_isExcepted [.ref 89, .int (nI g), .int (nI p)] (KS, i) Q := by
  have e6 : Int32.ofInt 6 * nI g + nI p = nI (6 * g + p) := by rw [li_6, pk_mul, nI_add]
  obtain ⟨d, rfl⟩ : ∃ q, d = q + 1 := ⟨d - 1, by omega⟩
  refine ⟨Nat.le_of_ble_eq_true rfl, am_go (am_sp_mo _) (fun _ => false) 30 (fun X hX => ?_)⟩
  conv => whnf
  try dsimp only
  rw [e6]
  refine ⟨72, [], rfl, vp_in_nI (by omega) (by decide), ?_⟩
  conv => whnf
  try dsimp only
  rw [nI_clamp (show 6 * g + p < 2 ^ 31 by omega)]
  refine ⟨fun hle => ?_, fun hle => ?_⟩
  · conv => whnf
    try dsimp only
    exact ⟨Or.inl rfl, h false (decide_eq_false (le_nlt hle)).symm⟩
  · conv => whnf
    try dsimp only
    exact ⟨Or.inr rfl, h true (decide_eq_true (nle_lt hle)).symm⟩
theorem m_tell {nh g p : Nat} {s : Int32} (hc : i 89 22 = nI nh) (hn : nh < 72) (hg : g < 12) (hp : p < 6) (hr : ∀ p, i 110 p = 0 ∨ i 110 p = 1) (hd : 2 ≤ d)
    (h : ∀ j : Nat → Nat → Int32, (∀ q, q ≠ 108 → q ≠ 89 → j q = i q) → (∀ q, j 89 q = if q = 22 then nI (nh + 1) else i 89 q) → (∀ q, q < 6 * nh → j 108 q = i 108 q) → j 108 (6 * nh) = nI p → j 108 (6 * nh + 1) = nI g → j 108 (6 * nh + 2) = s → j 108 (6 * nh + 3) = i 109 p → j 108 (6 * nh + 4) = i 110 p → j 108 (6 * nh + 5) = (if i 89 0 < i 107 (6 * g + p) then 1 else 0) → Q none (KS, j)) : SP xl xs d Y_Model_tell [.ref 89, .int (nI p), .int (nI g), .int s] (KS, i) Q := by
  have e6 : Int32.ofInt 6 * nI nh = nI (6 * nh) := by rw [li_6, pk_mul]
  have hin : ∀ k, k < 6 → vp_in (nI (6 * nh + k)) 432 := fun k hk => vp_in_nI (by omega) (by decide)
  have hcl : ∀ k, k < 6 → (nI (6 * nh + k)).toNatClampNeg = 6 * nh + k := fun k hk => nI_clamp (by omega)
  have hcp : (nI p).toNatClampNeg = p := nI_clamp (by omega)
  have hip : vp_in (nI p) 6 := vp_in_nI hp (by decide)
  obtain ⟨d, rfl⟩ : ∃ q, d = q + 1 := ⟨d - 1, by omega⟩
  refine ⟨Nat.le_of_ble_eq_true rfl, am_go (am_sp_mo _) (fun q => q == 74) 80 (fun X hX => ?_)⟩
  conv => whnf
  try dsimp only
  rw [hc, e6]
  refine ⟨432, [], rfl, hin 0 (by decide), ?_⟩
  conv => whnf
  try dsimp only
  rw [li_1, nI_add]
  refine ⟨432, [], rfl, hin 1 (by decide), ?_⟩
  conv => whnf
  try dsimp only
  rw [li_2, nI_add]
  refine ⟨432, [], rfl, hin 2 (by decide), ?_⟩
  conv => whnf
  try dsimp only
  refine ⟨6, [], rfl, hip, ?_⟩
  conv => whnf
  try dsimp only
  rw [li_3, nI_add]
  refine ⟨432, [], rfl, hin 3 (by decide), ?_⟩
  conv => whnf
  try dsimp only
  refine ⟨6, [], rfl, hip, ?_⟩
  conv => whnf
  try dsimp only
  rw [hcl 1 (by decide), hcl 2 (by decide), hcl 3 (by decide), nI_clamp (show 6 * nh < 2 ^ 31 by omega), hcp, up_n (Or.inl (by decide)), up_n (Or.inl (by decide)), up_n (Or.inl (by decide)), up_n (Or.inl (by decide)), up_n (Or.inl (by decide)), up_n (Or.inl (by decide)), up_n (Or.inl (by decide))]
  generalize hJ : am_up (am_up (am_up (am_up i 108 (6 * nh) (nI p)) 108 (6 * nh + 1) (nI g)) 108 (6 * nh + 2) s) 108 (6 * nh + 3) (i 109 p) = J
  have J0 : ∀ q, q ≠ 108 → J q = i q := fun q hq => by rw [← hJ, up_a hq, up_a hq, up_a hq, up_a hq]
  have J1 : ∀ q, J 108 q = if q = 6 * nh + 3 then i 109 p else if q = 6 * nh + 2 then s else if q = 6 * nh + 1 then nI g else if q = 6 * nh then nI p else i 108 q := fun q => by
    rw [← hJ, up_at, up_at, up_at, up_at]
    simp only [true_and]
  have go : ∀ r : Int32, r = i 110 p → am_wp (ax_E xl xs) (ax_cd Y_Model_tell) (am_sp (ax_E xl xs) ax_cd ax_ml d) Q 74 [some (.ref 89), some (.int (nI p)), some (.int (nI g)), some (.int s), some (.int (nI (6 * nh)))] [.int r, .int (nI (6 * nh) + Int32.ofInt 4), .ref 108] (KS, J) 0 0 := by
    intro r er
    have fin : ∀ b : Bool, b = decide (i 89 0 < i 107 (6 * g + p)) → am_wp (ax_E xl xs) (ax_cd Y_Model_tell) (am_sp (ax_E xl xs) ax_cd ax_ml d) Q 97 [some (.ref 89), some (.int (nI p)), some (.int (nI g)), some (.int s), some (.int (nI (6 * nh)))] [.int (if b = true then 1 else 0), .int (nI (6 * nh) + Int32.ofInt 5), .ref 108] (KS, am_up J 108 (6 * nh + 4) r) 0 0 := by
      intro b hb
      refine am_go (am_sp_mo _) (fun _ => false) 30 (fun X hX => ?_)
      conv => whnf
      try dsimp only
      rw [li_5, nI_add]
      refine ⟨432, [], rfl, hin 5 (by decide), ?_⟩
      conv => whnf
      try dsimp only
      rw [hcl 5 (by decide)]
      refine h _ (fun q q1 q2 => ?_) (fun q => ?_) (fun q hq => ?_) ?_ ?_ ?_ ?_ ?_ ?_
      · rw [up_a q2, up_a q1, up_a q1, J0 q q1]
      · rw [up_at]
        by_cases e : q = 22
        · subst e
          rw [if_pos ⟨rfl, rfl⟩, if_pos rfl, up_n (Or.inl (by decide)), up_n (Or.inl (by decide)), J0 89 (by decide), hc, li_1, nI_add]
        · rw [if_neg (fun z => e z.2), if_neg e, up_n (Or.inl (by decide)), up_n (Or.inl (by decide)), J0 89 (by decide)]
      · rw [up_n (Or.inl (by decide)), up_n (Or.inr (by omega)), up_n (Or.inr (by omega)), J1, if_neg (by omega), if_neg (by omega), if_neg (by omega), if_neg (by omega)]
      · rw [up_n (Or.inl (by decide)), up_n (Or.inr (by omega)), up_n (Or.inr (by omega)), J1, if_neg (by omega), if_neg (by omega), if_neg (by omega), if_pos rfl]
      · rw [up_n (Or.inl (by decide)), up_n (Or.inr (by omega)), up_n (Or.inr (by omega)), J1, if_neg (by omega), if_neg (by omega), if_pos rfl]
      · rw [up_n (Or.inl (by decide)), up_n (Or.inr (by omega)), up_n (Or.inr (by omega)), J1, if_neg (by omega), if_pos rfl]
      · rw [up_n (Or.inl (by decide)), up_n (Or.inr (by omega)), up_n (Or.inr (by omega)), J1, if_pos rfl]
      · rw [up_n (Or.inl (by decide)), up_n (Or.inr (by omega)), up_s, er]
      · rw [up_n (Or.inl (by decide)), up_s, hb]
        by_cases e : i 89 0 < i 107 (6 * g + p)
        · rw [if_pos e, decide_eq_true e]; rfl
        · rw [if_neg e, decide_eq_false e]; rfl
    refine am_go (am_sp_mo _) (fun q => q == 97) 40 (fun X hX => ?_)
    conv => whnf
    try dsimp only
    rw [li_4, nI_add]
    refine ⟨432, [], rfl, hin 4 (by decide), ?_⟩
    conv => whnf
    try dsimp only
    rw [hcl 4 (by decide)]
    refine m_isExcepted hg hp (by omega) (fun b hb => ?_)
    rw [up_n (Or.inl (by decide)), up_n (Or.inl (by decide)), J0 89 (by decide), J0 107 (by decide)] at hb
    cases b with
    | false =>
      conv => whnf
      try dsimp only
      refine ⟨fun _ => ?_, fun h => absurd rfl h⟩
      conv => whnf
      try dsimp only
      exact hX _ _ _ _ _ _ (fin false hb)
    | true =>
      conv => whnf
      try dsimp only
      refine ⟨fun h => absurd h (by decide), fun _ => ?_⟩
      conv => whnf
      try dsimp only
      exact hX _ _ _ _ _ _ (fin true hb)
  rcases hr p with e | e
  · rw [e] at go ⊢
    refine ⟨fun _ => ?_, fun h => absurd rfl h⟩
    conv => whnf
    try dsimp only
    exact hX _ _ _ _ _ _ (go _ (by decide))
  · rw [e] at go ⊢
    refine ⟨fun h => absurd h (by decide), fun _ => ?_⟩
    conv => whnf
    try dsimp only
    exact hX _ _ _ _ _ _ (go _ (by decide))
end MODEL3
end
section
/-! WAYS: what is reached by so many needs; the class's measure -/
theorem bcnt_mono {f g : Nat → Bool} : ∀ {n : Nat}, (∀ p, p < n → f p = true → g p = true) → bcnt f n ≤ bcnt g n
  | 0, _ => Nat.le_refl _
  | n + 1, h => by
    have h1 := bcnt_mono (n := n) (fun p hp => h p (by omega))
    have h2 := h n (by omega)
    unfold bcnt
    by_cases e : f n = true
    · rw [if_pos e, if_pos (h2 e)]; omega
    · rw [if_neg e]; omega
theorem bcnt_same {f g : Nat → Bool} : ∀ {n : Nat}, (∀ p, p < n → f p = true → g p = true) → bcnt g n ≤ bcnt f n → ∀ p, p < n → f p = g p
  | 0, _, _, p, hp => absurd hp (by omega)
  | n + 1, h, hc, p, hp => by
    have h1 := bcnt_mono (n := n) (fun p hp => h p (by omega))
    have h2 := h n (by omega)
    unfold bcnt at hc
    by_cases e : f n = true
    · rw [if_pos e, if_pos (h2 e)] at hc
      rcases Nat.lt_or_ge p n with q | q
      · exact bcnt_same (fun p hp => h p (by omega)) (by omega) p q
      · have : p = n := by omega
        subst this
        rw [e, h2 e]
    · rw [if_neg e] at hc
      by_cases e2 : g n = true
      · rw [if_pos e2] at hc
        omega
      · rw [if_neg e2] at hc
        rcases Nat.lt_or_ge p n with q | q
        · exact bcnt_same (fun p hp => h p (by omega)) (by omega) p q
        · have : p = n := by omega
          subst this
          rw [Bool.eq_false_iff.mpr e, Bool.eq_false_iff.mpr e2]
theorem bcnt_full {f : Nat → Bool} : ∀ {n : Nat}, n ≤ bcnt f n → ∀ p, p < n → f p = true
  | 0, _, p, hp => absurd hp (by omega)
  | n + 1, hc, p, hp => by
    have h1 := bcnt_le f n
    unfold bcnt at hc
    by_cases e : f n = true
    · rw [if_pos e] at hc
      rcases Nat.lt_or_ge p n with q | q
      · exact bcnt_full (by omega) p q
      · have : p = n := by omega
        subst this
        exact e
    · rw [if_neg e] at hc
      omega
theorem bcnt_none {f : Nat → Bool} : ∀ {n : Nat}, bcnt f n = 0 → ∀ p, p < n → f p = false
  | 0, _, p, hp => absurd hp (by omega)
  | n + 1, hc, p, hp => by
    unfold bcnt at hc
    by_cases e : f n = true
    · rw [if_pos e] at hc
      omega
    · rw [if_neg e] at hc
      rcases Nat.lt_or_ge p n with q | q
      · exact bcnt_none (by omega) p q
      · have : p = n := by omega
        subst this
        exact Bool.eq_false_iff.mpr e
theorem bany_congr {f g : Nat → Bool} : ∀ {n : Nat}, (∀ k, k < n → f k = g k) → bany f n = bany g n
  | 0, _ => rfl
  | n + 1, h => by
    unfold bany
    rw [bany_congr (fun k hk => h k (by omega)), h n (by omega)]
/-- reached from R by at most so many of the needs E -/
def rch (R E : Nat → Bool) (o t : Nat → Int32) (nn : Nat) : Nat → Nat → Bool
  | 0, p => R p
  | n + 1, p => rch R E o t nn n p || bany (fun k => E k && (decide (t k = nI p) && rch R E o t nn n (o k).toNatClampNeg)) nn
def NB (o t : Nat → Int32) (nn : Nat) : Prop := ∀ k, k < nn → ∃ a b, a < 6 ∧ b < 6 ∧ o k = nI a ∧ t k = nI b
theorem rch_step {R E : Nat → Bool} {o t : Nat → Int32} {nn k a b l : Nat} (hk : k < nn) (hE : E k = true) (ha : a < 6) (e1 : o k = nI a) (e2 : t k = nI b) (h : rch R E o t nn l a = true) : rch R E o t nn (l + 1) b = true := by
  rw [rch, bany_of hk (by show (E k && (decide (t k = nI b) && rch R E o t nn l (o k).toNatClampNeg)) = true; rw [hE, decide_eq_true e2, e1, nI_clamp (by omega), h]; rfl), Bool.or_true]
theorem rch_up {R E : Nat → Bool} {o t : Nat → Int32} {nn l p : Nat} (h : rch R E o t nn l p = true) : rch R E o t nn (l + 1) p = true := by
  rw [rch, h, Bool.true_or]
theorem rch_mono {R E : Nat → Bool} {o t : Nat → Int32} {nn l p : Nat} (h : rch R E o t nn l p = true) : ∀ m, rch R E o t nn (l + m) p = true
  | 0 => h
  | m + 1 => rch_up (rch_mono h m)
theorem rch_inv {R E : Nat → Bool} {o t : Nat → Int32} {nn l p : Nat} (hN : NB o t nn) (hp : p < 6) (h : rch R E o t nn (l + 1) p = true) : rch R E o t nn l p = true ∨ ∃ k a, k < nn ∧ a < 6 ∧ E k = true ∧ o k = nI a ∧ t k = nI p ∧ rch R E o t nn l a = true := by
  rw [rch, Bool.or_eq_true] at h
  rcases h with h | h
  · exact Or.inl h
  · obtain ⟨k, hk, h⟩ := bany_iff.mp h
    rw [Bool.and_eq_true, Bool.and_eq_true] at h
    obtain ⟨a, b, ha, hb, e1, e2⟩ := hN k hk
    rw [e1, nI_clamp (by omega)] at h
    exact Or.inr ⟨k, a, hk, ha, h.1, e1, of_decide_eq_true h.2.1, h.2.2⟩
theorem rch_next {R E : Nat → Bool} {o t : Nat → Int32} {nn n : Nat} (hN : NB o t nn) (h : ∀ p, p < 6 → rch R E o t nn n p = rch R E o t nn (n + 1) p) (p : Nat) (hp : p < 6) : rch R E o t nn (n + 1) p = rch R E o t nn (n + 1 + 1) p := by
  cases e : rch R E o t nn (n + 1 + 1) p with
  | false =>
    cases e2 : rch R E o t nn (n + 1) p with
    | false => rfl
    | true => rw [rch_up e2] at e; cases e
  | true =>
    rcases rch_inv hN hp e with h1 | ⟨k, a, hk, ha, hE, e1, e2, h1⟩
    · exact h1
    · rw [← h a ha] at h1
      exact rch_step hk hE ha e1 e2 h1
theorem rch_grow {R E : Nat → Bool} {o t : Nat → Int32} {nn : Nat} (hN : NB o t nn) : ∀ n, (∀ p, p < 6 → rch R E o t nn n p = rch R E o t nn (n + 1) p) ∨ n + 1 ≤ bcnt (rch R E o t nn n) 6
  | 0 => by
    rcases Nat.eq_zero_or_pos (bcnt (rch R E o t nn 0) 6) with h | h
    · refine Or.inl fun p hp => ?_
      have h0 := bcnt_none h
      rw [h0 p hp]
      cases e : rch R E o t nn (0 + 1) p with
      | false => rfl
      | true =>
        rcases rch_inv hN hp e with h1 | ⟨k, a, hk, ha, hE, e1, e2, h1⟩
        · rw [h0 p hp] at h1; exact h1
        · rw [h0 a ha] at h1; cases h1
    · exact Or.inr h
  | n + 1 => by
    rcases rch_grow hN n with h | h
    · exact Or.inl (rch_next hN h)
    · rcases Nat.lt_or_ge (bcnt (rch R E o t nn n) 6) (bcnt (rch R E o t nn (n + 1)) 6) with q | q
      · exact Or.inr (by omega)
      · exact Or.inl (rch_next hN (bcnt_same (fun p _ hp => rch_up hp) q))
theorem rch_5 {R E : Nat → Bool} {o t : Nat → Int32} {nn : Nat} (hN : NB o t nn) : ∀ p, p < 6 → rch R E o t nn 5 p = rch R E o t nn (5 + 1) p := by
  rcases rch_grow hN (R := R) (E := E) 5 with h | h
  · exact h
  · intro p hp
    have := bcnt_full h p hp
    rw [this, rch_up this]
theorem rch_all {R E : Nat → Bool} {o t : Nat → Int32} {nn : Nat} (hN : NB o t nn) {l p : Nat} (hp : p < 6) (h : rch R E o t nn l p = true) : rch R E o t nn 5 p = true := by
  have st : ∀ n, ∀ p, p < 6 → rch R E o t nn (5 + n) p = rch R E o t nn (5 + n + 1) p := by
    intro n
    induction n with
    | zero => exact rch_5 hN
    | succ n ih => exact rch_next hN ih
  have al : ∀ n, rch R E o t nn (5 + n) p = rch R E o t nn 5 p := by
    intro n
    induction n with
    | zero => rfl
    | succ n ih => rw [← ih]; exact (st n p hp).symm
  have := rch_mono h 5
  rw [Nat.add_comm l 5, al] at this
  exact this
theorem rch_congr {R E R' E' : Nat → Bool} {o t o' t' : Nat → Int32} {nn : Nat} (hN : NB o t nn) (hR : ∀ p, p < 6 → R p = R' p) (hE : ∀ k, k < nn → E k = E' k) (ho : ∀ k, k < nn → o k = o' k) (ht : ∀ k, k < nn → t k = t' k) : ∀ l p, p < 6 → rch R E o t nn l p = rch R' E' o' t' nn l p
  | 0, p, hp => hR p hp
  | l + 1, p, hp => by
    rw [rch, rch, rch_congr hN hR hE ho ht l p hp]
    refine congrArg _ (bany_congr fun k hk => ?_)
    obtain ⟨a, b, ha, hb, e1, e2⟩ := hN k hk
    rw [hE k hk, ← ht k hk, ← ho k hk, e1, nI_clamp (by omega), rch_congr hN hR hE ho ht l a ha]
/-- the length of the shortest way -/
def isD (D : Nat → Nat → Bool) (p : Nat) (x : Int32) : Prop := (x = -1 ∧ ∀ l, D l p = false) ∨ ∃ l, l ≤ 5 ∧ x = nI l ∧ D l p = true ∧ ∀ m, m < l → D m p = false
theorem isD_uni {D D' : Nat → Nat → Bool} {p : Nat} {x y : Int32} (e : ∀ l, D l p = D' l p) (h1 : isD D p x) (h2 : isD D' p y) : x = y := by
  rcases h1 with ⟨h1, h3⟩ | ⟨l, h3, h4, h5, h6⟩ <;> rcases h2 with ⟨g1, g3⟩ | ⟨m, g3, g4, g5, g6⟩
  · rw [h1, g1]
  · rw [← e, h3] at g5; cases g5
  · rw [e, g3] at h5; cases h5
  · have : l = m := by
      rcases Nat.lt_trichotomy l m with q | q | q
      · have := g6 l q; rw [← e, h5] at this; cases this
      · exact q
      · have := h6 m q; rw [e, g5] at this; cases this
    rw [h4, g4, this]
theorem isD_5 {D : Nat → Nat → Bool} {p : Nat} {x : Int32} (h : isD D p x) (hall : ∀ l, D l p = true → D 5 p = true) : ¬ x = -1 ↔ D 5 p = true := by
  rcases h with ⟨h1, h3⟩ | ⟨l, h3, h4, h5, h6⟩
  · rw [h1, h3]
    exact ⟨fun h => absurd rfl h, fun h => by cases h⟩
  · exact ⟨fun _ => hall l h5, fun _ => by rw [h4]; exact nI_m1 (by omega)⟩
def WI (D : Nat → Nat → Bool) (len : Nat → Int32) (c : Nat) : Prop := ∀ p, p < 6 → len p = -1 ∨ ∃ l, l ≤ c ∧ len p = nI l ∧ D l p = true
def WB (len : Nat → Int32) (p m : Nat) : Prop := ∃ l, l ≤ m ∧ l ≤ 1000 ∧ len p = nI l
theorem WI.up {D : Nat → Nat → Bool} {len : Nat → Int32} {c c' : Nat} (h : WI D len c) (hc : c ≤ c') : WI D len c' := fun p hp => by
  rcases h p hp with h | ⟨l, h1, h2⟩
  · exact Or.inl h
  · exact Or.inr ⟨l, by omega, h2⟩
def stp (x y : Int32) : Int32 := if x = -1 then y else if y = -1 ∨ x + nI 1 < y then x + nI 1 else y
theorem ws_step {D : Nat → Nat → Bool} {len len' : Nat → Int32} {c a b : Nat} (ha : a < 6) (hb : b < 6) (hE : ∀ l, D l a = true → D (l + 1) b = true) (h : WI D len c) (hc : c < 900) (h' : ∀ p, p < 6 → len' p = if p = b then stp (len a) (len b) else len p) : WI D len' (c + 1) ∧ (∀ p m, p < 6 → WB len p m → WB len' p m) ∧ (∀ m, WB len a m → WB len' b (m + 1)) := by
  rcases h a ha with e | ⟨l, h1, h2, h3⟩
  · have e' : ∀ p, p < 6 → len' p = len p := fun p hp => by
      rw [h' p hp]
      by_cases q : p = b
      · rw [if_pos q, stp, if_pos e, q]
      · rw [if_neg q]
    refine ⟨fun p hp => ?_, fun p m hp hw => ?_, fun m hw => ?_⟩
    · rw [e' p hp]; exact h.up (Nat.le_succ c) p hp
    · unfold WB; rw [e' p hp]; exact hw
    · obtain ⟨l, _, h3, h2⟩ := hw
      rw [e] at h2
      exact absurd h2.symm (nI_m1 (by omega))
  · have e1 : len a + nI 1 = nI (l + 1) := by rw [h2, nI_add]
    have ne : ¬ len a = -1 := by rw [h2]; exact nI_m1 (by omega)
    have am : ∀ m, WB len a m → l ≤ m := fun m ⟨l', g1, g2, g3⟩ => by
      have := nI_inj (by omega) (by omega) (h2.symm.trans g3)
      omega
    by_cases hs : len b = -1 ∨ len a + nI 1 < len b
    · have e' : ∀ p, p < 6 → len' p = if p = b then nI (l + 1) else len p := fun p hp => by
        rw [h' p hp, stp, if_neg ne, if_pos hs, e1]
      refine ⟨fun p hp => ?_, fun p m hp hw => ?_, fun m hw => ?_⟩
      · rw [e' p hp]
        by_cases q : p = b
        · rw [if_pos q, q]
          exact Or.inr ⟨l + 1, by omega, rfl, hE l h3⟩
        · rw [if_neg q]
          exact h.up (Nat.le_succ c) p hp
      · unfold WB
        rw [e' p hp]
        by_cases q : p = b
        · subst q
          rw [if_pos rfl]
          obtain ⟨l2, g1, g2, g3⟩ := hw
          rw [e1, g3] at hs
          have := hs.resolve_left (nI_m1 (by omega))
          rw [Int32.lt_iff_toInt_lt, nI_toInt (by omega), nI_toInt (by omega)] at this
          exact ⟨l + 1, by omega, by omega, rfl⟩
        · rw [if_neg q]
          exact hw
      · have := am m hw
        refine ⟨l + 1, by omega, by omega, ?_⟩
        rw [e' b hb, if_pos rfl]
    · have e' : ∀ p, p < 6 → len' p = len p := fun p hp => by
        rw [h' p hp]
        by_cases q : p = b
        · rw [if_pos q, stp, if_neg ne, if_neg hs, q]
        · rw [if_neg q]
      refine ⟨fun p hp => ?_, fun p m hp hw => ?_, fun m hw => ?_⟩
      · rw [e' p hp]; exact h.up (Nat.le_succ c) p hp
      · unfold WB; rw [e' p hp]; exact hw
      · have := am m hw
        rcases h b hb with z | ⟨l3, z1, z2, z3⟩
        · exact absurd (Or.inl z) hs
        · have : l3 ≤ l + 1 := by
            rcases Nat.lt_or_ge (l + 1) l3 with q | q
            · exact absurd (Or.inr (by rw [e1, z2]; exact nI_lt q (by omega))) hs
            · exact q
          exact ⟨l3, by omega, by omega, by rw [e' b hb, z2]⟩
theorem ws_end {R E : Nat → Bool} {o t : Nat → Int32} {nn c : Nat} {len : Nat → Int32} (hN : NB o t nn) (hc : c < 900) (h : WI (rch R E o t nn) len c) (h2 : ∀ l p, l ≤ 5 → p < 6 → rch R E o t nn l p = true → WB len p l) (p : Nat) (hp : p < 6) : isD (rch R E o t nn) p (len p) := by
  have no : len p = -1 → ∀ m, ¬ WB len p m := fun e m ⟨l, _, g, q⟩ => by
    rw [e] at q
    exact nI_m1 (by omega) q.symm
  rcases h p hp with e | ⟨l, g1, g2, g3⟩
  · refine Or.inl ⟨e, fun l => ?_⟩
    cases q : rch R E o t nn l p with
    | false => rfl
    | true => exact absurd (h2 5 p (by omega) hp (rch_all hN hp q)) (no e 5)
  · have am : ∀ m, WB len p m → l ≤ m := fun m ⟨l', q1, q2, q3⟩ => by
      have := nI_inj (by omega) (by omega) (g2.symm.trans q3)
      omega
    have h5 := am 5 (h2 5 p (by omega) hp (rch_all hN hp g3))
    refine Or.inr ⟨l, h5, g2, g3, fun m hm => ?_⟩
    cases q : rch R E o t nn m p with
    | false => rfl
    | true =>
      have := am m (h2 m p (by omega) hp q)
      omega
/-- of the class: the installed roots; the needs that lead -/
def cR (i : Nat → Nat → Int32) (np p : Nat) : Bool := decide (p < np) && (!(decide (i 11 p = -1)) && decide (i 2 p = 1))
def cE (i : Nat → Nat → Int32) (w k : Nat) : Bool := (cact i (i 12) k && chld i (i 12) k) && (decide (i w 2 = 0) || decide (i 19 k = 1))
section WAYS
variable {xl : Nat} {xs : Nat → Int32} {d : Nat} {i : Nat → Nat → Int32} {Q : am_Q} {np nn : Nat} {nv : Nat → Nat}
theorem k_lengthTo {w p : Nat} (hw : w = 66 ∨ w = 68) (hp : p < 6) (hd : 2 ≤ d) (h : Q (some (.int (i (w + 1) p))) (KS, i)) : SP xl xs d Y_Ways_lengthTo [.ref w, .int (nI p)] (KS, i) Q := by
  rcases hw with rfl | rfl
  all_goals
    obtain ⟨d, rfl⟩ : ∃ q, d = q + 1 := ⟨d - 1, by omega⟩
    refine ⟨Nat.le_of_ble_eq_true rfl, am_go (am_sp_mo _) (fun _ => false) 30 (fun X hX => ?_)⟩
    conv => whnf
    try dsimp only
    refine k_below 6 (by decide) (by decide) (by omega) (fun k hk hx => ?_) (fun hx => absurd rfl (out_np (by omega) hx hp))
    conv => whnf
    try dsimp only
    refine ⟨fun h => absurd h (by decide), fun _ => ?_⟩
    conv => whnf
    try dsimp only
    refine ⟨6, [], rfl, vp_in_nI hp (by decide), ?_⟩
    conv => whnf
    try dsimp only
    rw [nI_clamp (by omega)]
    exact h
theorem k_goOn {w a b : Nat} (hw : w = 66 ∨ w = 68) (ha : a < 6) (hb : b < 6) (hd : 3 ≤ d) (h : ∀ j : Nat → Nat → Int32, (∀ q, q ≠ w + 1 → j q = i q) → (∀ p, j (w + 1) p = if p = b then stp (i (w + 1) a) (i (w + 1) b) else i (w + 1) p) → Q none (KS, j)) : SP xl xs d Y_Ways_goOn [.ref w, .int (nI a), .int (nI b)] (KS, i) Q := by
  have hin : vp_in (nI b) 6 := vp_in_nI hb (by decide)
  have hcl : (nI b).toNatClampNeg = b := nI_clamp (by omega)
  have keep : stp (i (w + 1) a) (i (w + 1) b) = i (w + 1) b → Q none (KS, i) := fun e => h i (fun _ _ => rfl) (fun p => by
    rw [e]
    by_cases q : p = b
    · rw [if_pos q, q]
    · rw [if_neg q])
  have put : stp (i (w + 1) a) (i (w + 1) b) = i (w + 1) a + nI 1 → Q none (KS, am_up i (w + 1) b (i (w + 1) a + nI 1)) := fun e => h _ (fun q hq => up_a hq) (fun p => by
    rw [e, up_at]
    by_cases q : p = b
    · rw [if_pos ⟨rfl, q⟩, if_pos q]
    · rw [if_neg q, if_neg (fun z => q z.2)])
  rcases hw with rfl | rfl
  all_goals
    obtain ⟨d, rfl⟩ : ∃ q, d = q + 1 := ⟨d - 1, by omega⟩
    refine ⟨Nat.le_of_ble_eq_true rfl, am_go (am_sp_mo _) (fun q => q == 43) 60 (fun X hX => ?_)⟩
    conv => whnf
    try dsimp only
    refine k_lengthTo (by omega) ha (by omega) ?_
    conv => whnf
    try dsimp only
    refine ⟨fun hm => ?_, fun hm => ?_⟩
    · conv => whnf
      try dsimp only
      exact keep (by unfold stp; exact if_pos hm)
    conv => whnf
    try dsimp only
    refine k_below 6 (by decide) (by decide) (by omega) (fun k hk hx => ?_) (fun hx => absurd rfl (out_np (by omega) hx hb))
    conv => whnf
    try dsimp only
    refine ⟨fun _ => ?_, fun h => absurd h (by decide)⟩
    conv => whnf
    try dsimp only
    refine ⟨6, [], rfl, hin, ?_⟩
    conv => whnf
    try dsimp only
    rw [hcl]
    rw [li_m1] at hm
    refine ⟨fun hb1 => ?_, fun hb1 => ?_⟩
    · refine hX _ _ _ _ _ _ ?_
      refine am_go (am_sp_mo _) (fun _ => false) 30 (fun X hX => ?_)
      conv => whnf
      try dsimp only
      refine ⟨6, [], rfl, hin, ?_⟩
      conv => whnf
      try dsimp only
      rw [hcl]
      exact put (by unfold stp; rw [if_neg hm]; exact if_pos (Or.inl hb1))
    conv => whnf
    try dsimp only
    refine ⟨6, [], rfl, hin, ?_⟩
    conv => whnf
    try dsimp only
    rw [hcl]
    refine ⟨fun hle => ?_, fun hle => ?_⟩
    · conv => whnf
      try dsimp only
      exact keep (by unfold stp; rw [if_neg hm, if_neg]; rintro (z | z); exact hb1 z; exact le_nlt hle z)
    · refine hX _ _ _ _ _ _ ?_
      refine am_go (am_sp_mo _) (fun _ => false) 30 (fun X hX => ?_)
      conv => whnf
      try dsimp only
      refine ⟨6, [], rfl, hin, ?_⟩
      conv => whnf
      try dsimp only
      rw [hcl]
      exact put (by unfold stp; rw [if_neg hm]; exact if_pos (Or.inr (nle_lt hle)))
theorem k_goOnAll {w c : Nat} {R : Nat → Bool} (hw : w = 66 ∨ w = 68) (hN : NK i nn) (hcb : ∀ k, i 19 k = 0 ∨ i 19 k = 1) (hwb : i w 2 = 0 ∨ i w 2 = 1) (hc : c < 800) (hI : WI (rch R (cE i w) (i 14) (i 16) nn) (i (w + 1)) c) (hd : 4 ≤ d)
    (h : ∀ j : Nat → Nat → Int32, (∀ q, q ≠ w + 1 → j q = i q) → WI (rch R (cE i w) (i 14) (i 16) nn) (j (w + 1)) (c + 16) → (∀ p m, p < 6 → WB (i (w + 1)) p m → WB (j (w + 1)) p m) → (∀ k a b m, k < nn → cE i w k = true → a < 6 → b < 6 → i 14 k = nI a → i 16 k = nI b → WB (i (w + 1)) a m → WB (j (w + 1)) b (m + 1)) → Q none (KS, j)) : SP xl xs d Y_Ways_goOnByEachNeed [.ref w] (KS, i) Q := by
  have hcn := hN.1
  have hn := hN.2.1
  have hw13 : 13 ≠ w + 1 := by omega
  have main : ∀ m k (j : Nat → Nat → Int32), k + m = nn → (∀ q, q ≠ w + 1 → j q = i q) → WI (rch R (cE i w) (i 14) (i 16) nn) (j (w + 1)) (c + k) → (∀ p m, p < 6 → WB (i (w + 1)) p m → WB (j (w + 1)) p m) → (∀ k' a b m, k' < k → cE i w k' = true → a < 6 → b < 6 → i 14 k' = nI a → i 16 k' = nI b → WB (i (w + 1)) a m → WB (j (w + 1)) b (m + 1)) → ∀ d, 3 ≤ d → am_wp (ax_E xl xs) (ax_cd Y_Ways_goOnByEachNeed) (am_sp (ax_E xl xs) ax_cd ax_ml d) Q 2 [some (.ref w), some (.int (nI k))] [] (KS, j) 0 0 := by
    intro m
    induction m with
    | zero =>
      intro k j hk h1 h2 h3 h4 d hd
      have : k = nn := by omega
      subst this
      rcases hw with rfl | rfl
      all_goals
        refine am_go (am_sp_mo _) (fun q => q == 2) 30 (fun X hX => ?_)
        conv => whnf
        try dsimp only
        refine k_Needs_count (by omega) ?_
        conv => whnf
        try dsimp only
        rw [h1 13 (by decide), hcn]
        refine ⟨fun _ => ?_, fun hh => absurd (nI_le (Nat.le_refl _) (by omega)) hh⟩
        conv => whnf
        try dsimp only
        exact h j h1 (h2.up (by omega)) h3 h4
    | succ m ih =>
      intro k j hk h1 h2 h3 h4 d hd
      obtain ⟨a, b, ha, hb, ea, eb⟩ := hN.2.2 k (by omega)
      have hNj : NK j nn := by
        unfold NK
        rw [h1 13 hw13, h1 14 (by omega), h1 16 (by omega)]
        exact hN
      have hlead : (cact j (j 12) k && chld j (j 12) k) = (cact i (i 12) k && chld i (i 12) k) := by
        unfold cact chld
        rw [h1 12 (by omega), h1 14 (by omega), h1 15 (by omega), h1 16 (by omega), h1 17 (by omega), h1 18 (by omega)]
      have e1 : nI k + Int32.ofInt 1 = nI (k + 1) := by rw [li_1, nI_add]
      have skip : cE i w k = false → am_wp (ax_E xl xs) (ax_cd Y_Ways_goOnByEachNeed) (am_sp (ax_E xl xs) ax_cd ax_ml d) Q 69 [some (.ref w), some (.int (nI k))] [] (KS, j) 0 0 := by
        intro e
        refine am_go (am_sp_mo _) (fun q => q == 2) 20 (fun X hX => ?_)
        conv => whnf
        try dsimp only
        rw [e1]
        refine hX _ _ _ _ _ _ (ih (k + 1) j (by omega) h1 (h2.up (by omega)) h3 (fun k' a b m hk' hE' => ?_) d hd)
        by_cases q : k' = k
        · subst q
          rw [e] at hE'
          cases hE'
        · exact h4 k' a b m (by omega) hE'
      have take : cE i w k = true → am_wp (ax_E xl xs) (ax_cd Y_Ways_goOnByEachNeed) (am_sp (ax_E xl xs) ax_cd ax_ml d) Q 49 [some (.ref w), some (.int (nI k))] [] (KS, j) 0 0 := by
        intro e
        have fin : am_wp (ax_E xl xs) (ax_cd Y_Ways_goOnByEachNeed) (am_sp (ax_E xl xs) ax_cd ax_ml d) Q 66 [some (.ref w), some (.int (nI k))] [.int (i 16 k), .int (i 14 k), .ref w] (KS, j) 0 0 := by
          rw [ea, eb]
          have hw' := hw
          rcases hw with rfl | rfl
          all_goals
            refine am_go (am_sp_mo _) (fun q => q == 2) 20 (fun X hX => ?_)
            conv => whnf
            try dsimp only
            refine k_goOn hw' ha hb (by omega) (fun j2 g1 g2 => ?_)
            conv => whnf
            try dsimp only
            rw [e1]
            obtain ⟨w1, w2, w3⟩ := ws_step (D := rch R (cE i _) (i 14) (i 16) nn) (c := c + k) ha hb (fun l hl => rch_step (by omega) e ha ea eb hl) h2 (by omega) (fun p _ => g2 p)
            refine hX _ _ _ _ _ _ (ih (k + 1) j2 (by omega) (fun q hq => (g1 q hq).trans (h1 q hq)) w1 (fun p m hp hB => w2 p m hp (h3 p m hp hB)) (fun k' a' b' m hk' hE' ha' hb' ea' eb' hB => ?_) d hd)
            by_cases q : k' = k
            · subst q
              have := nI_inj (by omega) (by omega) (ea.symm.trans ea')
              subst this
              have := nI_inj (by omega) (by omega) (eb.symm.trans eb')
              subst this
              exact w3 m (h3 a m ha hB)
            · exact w2 b' (m + 1) hb' (h4 k' a' b' m (by omega) hE' ha' hb' ea' eb' hB)
        rcases hw with rfl | rfl
        all_goals
          refine am_go (am_sp_mo _) (fun q => q == 66) 40 (fun X hX => ?_)
          conv => whnf
          try dsimp only
          refine k_ownerOf (by rw [h1 13 (by decide)]; exact hcn) hn (by omega) (fun k2 hk2 hx => ?_) (fun hx => absurd rfl (out_np (by omega) hx (show k < nn by omega)))
          have := nI_inj (by omega) (by omega) hx
          subst this
          conv => whnf
          try dsimp only
          refine k_otherOf (by rw [h1 13 (by decide)]; exact hcn) hn (by omega) (fun k2 hk2 hx => ?_) (fun hx => absurd rfl (out_np (by omega) hx (show k < nn by omega)))
          have := nI_inj (by omega) (by omega) hx
          subst this
          conv => whnf
          try dsimp only
          rw [h1 14 (by decide), h1 16 (by decide)]
          exact hX _ _ _ _ _ _ fin
      rcases hw with rfl | rfl
      all_goals
        refine am_go (am_sp_mo _) (fun q => q == 2 || q == 49 || q == 69) 60 (fun X hX => ?_)
        conv => whnf
        try dsimp only
        refine k_Needs_count (by omega) ?_
        conv => whnf
        try dsimp only
        rw [h1 13 (by decide), hcn]
        refine ⟨fun hh => absurd hh (nI_ge (by omega) (by omega)), fun _ => ?_⟩
        conv => whnf
        try dsimp only
        refine k_installedVersions (by omega) ?_
        conv => whnf
        try dsimp only
        refine k_leads rfl hNj (by omega) (by omega) (fun bb hbb => ?_)
        rw [hlead] at hbb
        cases bb with
        | false =>
          conv => whnf
          try dsimp only
          refine ⟨fun _ => hX _ _ _ _ _ _ (skip (by unfold cE; rw [← hbb]; rfl)), fun h => absurd rfl h⟩
        | true =>
          conv => whnf
          try dsimp only
          refine ⟨fun h => absurd h (by decide), fun _ => ?_⟩
          conv => whnf
          try dsimp only
          rw [h1 _ (by decide)]
          rcases hwb with e | e
          · rw [e]
            refine ⟨fun _ => hX _ _ _ _ _ _ (take (by unfold cE; rw [← hbb, e]; rfl)), fun h => absurd rfl h⟩
          · rw [e]
            refine ⟨fun h => absurd h (by decide), fun _ => ?_⟩
            conv => whnf
            try dsimp only
            refine k_isCalled (by rw [h1 13 (by decide)]; exact hcn) hn (by rw [h1 19 (by decide)]; exact hcb) (by omega) (fun k2 hk2 hx hk1 => ?_) (fun hx => ?_)
            · have := nI_inj (by omega) (by omega) hx
              subst this
              rw [h1 19 (by decide)] at hk1
              conv => whnf
              try dsimp only
              refine ⟨fun h => absurd h (by decide), fun _ => hX _ _ _ _ _ _ (take (by unfold cE; rw [← hbb, hk1]; simp))⟩
            · have hk1 := hx k (by omega) rfl
              rw [h1 19 (by decide)] at hk1
              conv => whnf
              try dsimp only
              refine ⟨fun _ => hX _ _ _ _ _ _ (skip (by unfold cE; rw [← hbb, e, hk1]; rfl)), fun h => absurd rfl h⟩
  rcases hw with rfl | rfl
  all_goals
    obtain ⟨d, rfl⟩ : ∃ q, d = q + 1 := ⟨d - 1, by omega⟩
    refine ⟨Nat.le_of_ble_eq_true rfl, am_go (am_sp_mo _) (fun q => q == 2) 20 (fun X hX => ?_)⟩
    conv => whnf
    try dsimp only
    exact hX _ _ _ _ _ _ (main nn 0 i (by omega) (fun _ _ => rfl) hI (fun _ _ _ h => h) (fun k' _ _ _ h => absurd h (by omega)) d (by omega))
theorem k_measure {w : Nat} (hw : w = 66 ∨ w = 68) (hk : PK i np nv) (hr : ∀ p, i 2 p = 0 ∨ i 2 p = 1) (hN : NK i nn) (hcb : ∀ k, i 19 k = 0 ∨ i 19 k = 1) (hwb : i w 2 = 0 ∨ i w 2 = 1) (hd : 5 ≤ d)
    (h : ∀ j : Nat → Nat → Int32, (∀ q, q ≠ w + 1 → j q = i q) → (∀ p, p < 6 → isD (rch (cR i np) (cE i w) (i 14) (i 16) nn) p (j (w + 1) p)) → Q none (KS, j)) : SP xl xs d Y_Ways_measure [.ref w] (KS, i) Q := by
  have hn := hk.2.1
  have hNB : NB (i 14) (i 16) nn := hN.2.2
  have rounds : ∀ m r (j : Nat → Nat → Int32), r + m = 6 → 1 ≤ r → (∀ q, q ≠ w + 1 → j q = i q) → WI (rch (cR i np) (cE i w) (i 14) (i 16) nn) (j (w + 1)) (16 * r) → (∀ l p, l < r → p < 6 → rch (cR i np) (cE i w) (i 14) (i 16) nn l p = true → WB (j (w + 1)) p l) → ∀ d, 4 ≤ d → am_wp (ax_E xl xs) (ax_cd Y_Ways_measure) (am_sp (ax_E xl xs) ax_cd ax_ml d) Q 38 [some (.ref w), some (.int (nI r))] [] (KS, j) 0 0 := by
    intro m
    induction m with
    | zero =>
      intro r j hr h1 h2 h3 h4 d hd
      have : r = 6 := by omega
      subst this
      refine am_go (am_sp_mo _) (fun q => q == 38) 20 (fun X hX => ?_)
      conv => whnf
      try dsimp only
      refine ⟨fun _ => ?_, fun hh => absurd (by decide) hh⟩
      conv => whnf
      try dsimp only
      exact h j h2 (ws_end hNB (by omega) h3 (fun l p hl hp => h4 l p (by omega) hp))
    | succ m ih =>
      intro r j hr h1 h2 h3 h4 d hd
      have e1 : nI r + Int32.ofInt 1 = nI (r + 1) := by rw [li_1, nI_add]
      have hNj : NK j nn := by
        unfold NK
        rw [h2 13 (by omega), h2 14 (by omega), h2 16 (by omega)]
        exact hN
      have eE : cE j w = cE i w := by
        funext k
        unfold cE cact chld
        rw [h2 12 (by omega), h2 14 (by omega), h2 15 (by omega), h2 16 (by omega), h2 17 (by omega), h2 18 (by omega), h2 19 (by omega), h2 w (by omega)]
      have hw' := hw
      rcases hw with rfl | rfl
      all_goals
        refine am_go (am_sp_mo _) (fun q => q == 38) 20 (fun X hX => ?_)
        conv => whnf
        try dsimp only
        refine ⟨fun hh => absurd hh (by rw [li_6]; exact nI_ge (by omega) (by decide)), fun _ => ?_⟩
        conv => whnf
        try dsimp only
        refine k_goOnAll (R := cR i np) (c := 16 * r) hw' hNj (by rw [h2 19 (by omega)]; exact hcb) (by rw [h2 _ (by omega)]; exact hwb) (by omega) (by rw [eE, h2 14 (by omega), h2 16 (by omega)]; exact h3) (by omega) (fun j2 g1 g2 g3 g4 => ?_)
        rw [eE, h2 14 (by omega), h2 16 (by omega)] at g2 g4
        conv => whnf
        try dsimp only
        rw [e1]
        refine hX _ _ _ _ _ _ (ih (r + 1) j2 (by omega) (by omega) (fun q hq => (g1 q hq).trans (h2 q hq)) g2 (fun l p hl hp hD => ?_) d hd)
        cases l with
        | zero => exact g3 p 0 hp (h4 0 p (by omega) hp hD)
        | succ l =>
          rcases rch_inv hNB hp hD with hD | ⟨k, a, hk', ha, hE', ea, eb, hD⟩
          · obtain ⟨z, z1, z2⟩ := g3 p l hp (h4 l p (by omega) hp hD)
            exact ⟨z, by omega, z2⟩
          · exact g4 k a p l hk' hE' ha hp ea eb (h4 l a (by omega) ha hD)
  have init : ∀ m p (j : Nat → Nat → Int32), p + m = 6 → (∀ q, q ≠ w + 1 → j q = i q) → (∀ q, q < p → j (w + 1) q = if cR i np q = true then nI 0 else -1) → ∀ d, 4 ≤ d → am_wp (ax_E xl xs) (ax_cd Y_Ways_measure) (am_sp (ax_E xl xs) ax_cd ax_ml d) Q 2 [some (.ref w), some (.int (nI p))] [] (KS, j) 0 0 := by
    intro m
    induction m with
    | zero =>
      intro p j hp h1 h2 d hd
      have : p = 6 := by omega
      subst this
      refine am_go (am_sp_mo _) (fun q => q == 2 || q == 38) 20 (fun X hX => ?_)
      conv => whnf
      try dsimp only
      refine ⟨fun _ => ?_, fun hh => absurd (by decide) hh⟩
      conv => whnf
      try dsimp only
      refine hX _ _ _ _ _ _ (rounds 5 1 j (by omega) (by omega) h1 (fun p hp => ?_) (fun l p hl hp hD => ?_) d hd)
      · rw [h2 p hp]
        cases e : cR i np p with
        | false => exact Or.inl (if_neg (by decide))
        | true => exact Or.inr ⟨0, by omega, if_pos rfl, e⟩
      · have : l = 0 := by omega
        subst this
        have hD : cR i np p = true := hD
        exact ⟨0, by omega, by omega, by rw [h2 p hp, if_pos hD]⟩
    | succ m ih =>
      intro p j hp h1 h2 d hd
      have e1 : nI p + Int32.ofInt 1 = nI (p + 1) := by rw [li_1, nI_add]
      have hcl : (nI p).toNatClampNeg = p := nI_clamp (by omega)
      have hkj : PK j np nv := hk.fr (h1 1 (by omega)) (h1 10 (by omega))
      have put : ∀ v : Int32, v = (if cR i np p = true then nI 0 else -1) → am_wp (ax_E xl xs) (ax_cd Y_Ways_measure) (am_sp (ax_E xl xs) ax_cd ax_ml d) Q 29 [some (.ref w), some (.int (nI p))] [.int v, .int (nI p), .ref (w + 1)] (KS, j) 0 0 := by
        intro v hv
        have nx := ih (p + 1) (am_up j (w + 1) p v) (by omega) (fun q hq => (up_a hq).trans (h1 q hq)) (fun q hq => by
          rw [up_at]
          by_cases e : q = p
          · rw [if_pos ⟨rfl, e⟩, hv, e]
          · rw [if_neg (fun z => e z.2)]
            exact h2 q (by omega)) d hd
        rcases hw with rfl | rfl
        all_goals
          refine am_go (am_sp_mo _) (fun q => q == 2) 20 (fun X hX => ?_)
          conv => whnf
          try dsimp only
          refine ⟨6, [], rfl, vp_in_nI (by omega) (by decide), ?_⟩
          conv => whnf
          try dsimp only
          rw [e1, hcl]
          exact hX _ _ _ _ _ _ nx
      rcases hw with rfl | rfl
      all_goals
        refine am_go (am_sp_mo _) (fun q => q == 2 || q == 29) 30 (fun X hX => ?_)
        conv => whnf
        try dsimp only
        refine ⟨fun hh => absurd hh (by rw [li_6]; exact nI_ge (by omega) (by decide)), fun _ => ?_⟩
        conv => whnf
        try dsimp only
        refine k_isInstalledRoot hkj (by rw [h1 2 (by decide)]; exact hr) (by omega) (fun p' hp' ep hi hroot => ?_) (fun hno => ?_)
        · have := nI_inj (by omega) (by omega) ep
          subst this
          rw [h1 11 (by decide)] at hi
          rw [h1 2 (by decide)] at hroot
          conv => whnf
          try dsimp only
          refine ⟨fun h => absurd h (by decide), fun _ => ?_⟩
          conv => whnf
          try dsimp only
          refine hX _ _ _ _ _ _ (put (Int32.ofInt 0) ?_)
          rw [if_pos, li_0]
          unfold cR
          rw [decide_eq_true hp', decide_eq_false hi, decide_eq_true hroot]
          rfl
        · conv => whnf
          try dsimp only
          refine ⟨fun _ => ?_, fun h => absurd rfl h⟩
          conv => whnf
          try dsimp only
          refine hX _ _ _ _ _ _ (put (Int32.ofInt (-1)) ?_)
          rw [if_neg, li_m1]
          unfold cR
          intro hcr
          rw [Bool.and_eq_true, Bool.and_eq_true] at hcr
          have hlt := of_decide_eq_true hcr.1
          have := hno p hlt rfl
          rw [h1 11 (by decide), h1 2 (by decide)] at this
          rcases this with z | z
          · rw [decide_eq_true z] at hcr
            cases hcr.2.1
          · rw [z] at hcr
            exact absurd hcr.2.2 (by decide)
  obtain ⟨d, rfl⟩ : ∃ q, d = q + 1 := ⟨d - 1, by omega⟩
  refine ⟨Nat.le_of_ble_eq_true rfl, am_go (am_sp_mo _) (fun q => q == 2) 20 (fun X hX => ?_)⟩
  conv => whnf
  try dsimp only
  exact hX _ _ _ _ _ _ (init 6 0 i (by omega) (fun _ _ => rfl) (fun q hq => absurd hq (by omega)) d (by omega))
end WAYS
end
section
/-! WAYS of the reference -/
def mR (i : Nat → Nat → Int32) (np p : Nat) : Bool := decide (p < np) && (!(decide (i 93 p = -1)) && decide (i 90 p = 1))
def mE (i : Nat → Nat → Int32) (k : Nat) : Bool := nact (i 94) (i 95) (wv (i 92) (i 93)) k && nhld (i 96) (i 97) (i 98) (wv (i 92) (i 93)) k
def mF (i : Nat → Nat → Int32) (k : Nat) : Bool := mE i k && decide (i 99 k = 1)
theorem nact_congr {o s w w' : Nat → Int32} {k a : Nat} (ha : a < 6) (e : o k = nI a) (h : ∀ p, p < 6 → w p = w' p) : nact o s w k = nact o s w' k := by
  unfold nact
  rw [e, nI_clamp (by omega), h a ha]
theorem nhld_congr {o l g w w' : Nat → Int32} {k a : Nat} (ha : a < 6) (e : o k = nI a) (h : ∀ p, p < 6 → w p = w' p) : nhld o l g w k = nhld o l g w' k := by
  unfold nhld
  rw [e, nI_clamp (by omega), h a ha]
theorem wv_congr {ver w w' : Nat → Int32} {p : Nat} (h : w p = w' p) : wv ver w p = wv ver w' p := by
  unfold wv
  rw [h]
def RI (R F : Nat → Bool) (o t : Nat → Int32) (nn : Nat) (f : Nat → Int32) (r k : Nat) : Prop := (∀ p, f p = 0 ∨ f p = 1) ∧ (∀ p, p < 6 → f p = 1 → ∃ l, rch R F o t nn l p = true) ∧ (∀ l p, l < r → p < 6 → rch R F o t nn l p = true → f p = 1) ∧ (∀ k' a b l, k' < k → F k' = true → a < 6 → b < 6 → o k' = nI a → t k' = nI b → l < r → rch R F o t nn l a = true → f b = 1)
theorem rs_step {R F : Nat → Bool} {o t : Nat → Int32} {nn r k a b : Nat} {f f' : Nat → Int32} {x : Int32} (h : RI R F o t nn f r k) (hk : k < nn) (ha : a < 6) (hb : b < 6) (ea : o k = nI a) (eb : t k = nI b) (hx : (x = 1 ∧ (f b = 1 ∨ (F k = true ∧ f a = 1))) ∨ (x = 0 ∧ f b = 0 ∧ (F k = true → f a = 0))) (h' : ∀ p, f' p = if p = b then x else f p) : RI R F o t nn f' r (k + 1) := by
  obtain ⟨h1, h2, h3, h4⟩ := h
  have up : ∀ p, f p = 1 → f' p = 1 := fun p e => by
    rw [h']
    by_cases q : p = b
    · rw [if_pos q]
      rw [q] at e
      rcases hx with hx | hx
      · exact hx.1
      · rw [e] at hx; exact absurd hx.2.1 (by decide)
    · rw [if_neg q]; exact e
  refine ⟨fun p => ?_, fun p hp e => ?_, fun l p hl hp hD => up p (h3 l p hl hp hD), fun k' a' b' l hk' hF ha' hb' ea' eb' hl hD => ?_⟩
  · rw [h']
    by_cases q : p = b
    · rw [if_pos q]; exact hx.elim (fun z => Or.inr z.1) (fun z => Or.inl z.1)
    · rw [if_neg q]; exact h1 p
  · rw [h'] at e
    by_cases q : p = b
    · rw [if_pos q] at e
      subst q
      rcases hx with ⟨_, z | ⟨z1, z2⟩⟩ | ⟨z, _⟩
      · exact h2 p hp z
      · obtain ⟨l, hl⟩ := h2 a ha z2
        exact ⟨l + 1, rch_step hk z1 ha ea eb hl⟩
      · rw [z] at e; exact absurd e (by decide)
    · rw [if_neg q] at e; exact h2 p hp e
  · by_cases q : k' = k
    · subst q
      have := nI_inj (by omega) (by omega) (ea.symm.trans ea')
      subst this
      have := nI_inj (by omega) (by omega) (eb.symm.trans eb')
      subst this
      have h5 := h3 l a hl ha hD
      rw [h', if_pos rfl]
      rcases hx with z | ⟨_, _, z⟩
      · exact z.1
      · rw [z hF] at h5; exact absurd h5 (by decide)
    · exact up b' (h4 k' a' b' l (by omega) hF ha' hb' ea' eb' hl hD)
theorem rs_keep {R F : Nat → Bool} {o t : Nat → Int32} {nn r k : Nat} {f : Nat → Int32} (h : RI R F o t nn f r k) (hF : F k = false) : RI R F o t nn f r (k + 1) := by
  obtain ⟨h1, h2, h3, h4⟩ := h
  refine ⟨h1, h2, h3, fun k' a b l hk' hF' => ?_⟩
  by_cases q : k' = k
  · rw [q, hF] at hF'; cases hF'
  · exact h4 k' a b l (by omega) hF'
theorem rs_next {R F : Nat → Bool} {o t : Nat → Int32} {nn r : Nat} {f : Nat → Int32} (hN : NB o t nn) (h : RI R F o t nn f (r + 1) nn) : RI R F o t nn f (r + 1 + 1) 0 := by
  obtain ⟨h1, h2, h3, h4⟩ := h
  refine ⟨h1, h2, fun l p hl hp hD => ?_, fun k' _ _ _ hk' => absurd hk' (by omega)⟩
  rcases Nat.lt_or_ge l (r + 1) with q | q
  · exact h3 l p q hp hD
  · have : l = r + 1 := by omega
    subst this
    rcases rch_inv hN hp hD with hD | ⟨k, a, hk', ha, hE', ea, eb, hD⟩
    · exact h3 r p (by omega) hp hD
    · exact h4 k a p r hk' hE' ha hp ea eb (by omega) hD
def FI (R E : Nat → Bool) (o t : Nat → Int32) (nn : Nat) (f : Nat → Int32) (s k : Nat) : Prop := ∀ p, p < 6 → (f p = -1 ∧ (∀ l, l < s + 1 → rch R E o t nn l p = false) ∧ (∀ k' a, k' < k → E k' = true → a < 6 → o k' = nI a → t k' = nI p → rch R E o t nn s a = false)) ∨ ∃ l, l ≤ s + 1 ∧ l ≤ 6 ∧ f p = nI l ∧ rch R E o t nn l p = true ∧ ∀ m, m < l → rch R E o t nn m p = false
theorem fs_set {R E : Nat → Bool} {o t : Nat → Int32} {nn s k a b : Nat} {f f' : Nat → Int32} (h : FI R E o t nn f s k) (hs : s ≤ 5) (hk : k < nn) (hE : E k = true) (ha : a < 6) (hb : b < 6) (ea : o k = nI a) (eb : t k = nI b) (e1 : f a = nI s) (e2 : f b = -1) (h' : ∀ p, f' p = if p = b then nI (s + 1) else f p) : FI R E o t nn f' s (k + 1) := by
  intro p hp
  rw [h']
  by_cases q : p = b
  · subst q
    rw [if_pos rfl]
    refine Or.inr ⟨s + 1, Nat.le_refl _, by omega, rfl, ?_, fun m hm => ?_⟩
    · rcases h a ha with ⟨z, _⟩ | ⟨l, z1, z2, z3, z4, _⟩
      · rw [e1] at z; exact absurd z (nI_m1 (by omega))
      · have := nI_inj (by omega) (by omega) (e1.symm.trans z3)
        subst this
        exact rch_step hk hE ha ea eb z4
    · rcases h p hp with ⟨_, z, _⟩ | ⟨l, z1, z2, z3, _⟩
      · exact z m hm
      · rw [e2] at z3; exact absurd z3.symm (nI_m1 (by omega))
  · rw [if_neg q]
    rcases h p hp with ⟨z1, z2, z3⟩ | z
    · refine Or.inl ⟨z1, z2, fun k' a' hk' hE' ha' ea' ep => ?_⟩
      by_cases qk : k' = k
      · subst qk
        exact absurd (nI_inj (by omega) (by omega) (ep.symm.trans eb)) q
      · exact z3 k' a' (by omega) hE' ha' ea' ep
    · exact Or.inr z
theorem fs_keep {R E : Nat → Bool} {o t : Nat → Int32} {nn s k a b : Nat} {f : Nat → Int32} (h : FI R E o t nn f s k) (hs : s ≤ 5) (hk : k < nn) (ha : a < 6) (hb : b < 6) (ea : o k = nI a) (eb : t k = nI b) (hno : E k = true → f a = nI s → f b = -1 → False) : FI R E o t nn f s (k + 1) := by
  intro p hp
  rcases h p hp with ⟨z1, z2, z3⟩ | z
  · refine Or.inl ⟨z1, z2, fun k' a' hk' hE' ha' ea' ep => ?_⟩
    by_cases qk : k' = k
    · subst qk
      have := nI_inj (by omega) (by omega) (ep.symm.trans eb)
      subst this
      have := nI_inj (by omega) (by omega) (ea.symm.trans ea')
      subst this
      cases hD : rch R E o t nn s a with
      | false => rfl
      | true =>
        exfalso
        rcases h a ha with ⟨_, y2, _⟩ | ⟨l, y1, y2, y3, y4, y5⟩
        · rw [y2 s (by omega)] at hD; cases hD
        · have hls : l ≤ s := by
            rcases Nat.lt_or_ge s l with w | w
            · rw [y5 s w] at hD; cases hD
            · exact w
          rcases Nat.lt_or_ge l s with w | w
          · have := rch_step hk hE' ha ea eb y4
            rw [z2 (l + 1) (by omega)] at this
            cases this
          · have : l = s := by omega
            subst this
            exact hno hE' y3 z1
    · exact z3 k' a' (by omega) hE' ha' ea' ep
  · exact Or.inr z
theorem fs_next {R E : Nat → Bool} {o t : Nat → Int32} {nn s : Nat} {f : Nat → Int32} (hN : NB o t nn) (h : FI R E o t nn f s nn) : FI R E o t nn f (s + 1) 0 := by
  intro p hp
  rcases h p hp with ⟨z1, z2, z3⟩ | ⟨l, z1, z2⟩
  · refine Or.inl ⟨z1, fun l hl => ?_, fun k' _ hk' => absurd hk' (by omega)⟩
    rcases Nat.lt_or_ge l (s + 1) with q | q
    · exact z2 l q
    · have : l = s + 1 := by omega
      subst this
      cases hD : rch R E o t nn (s + 1) p with
      | false => rfl
      | true =>
        rcases rch_inv hN hp hD with hD | ⟨k, a, hk', ha, hE', ea, eb, hD⟩
        · rw [z2 s (by omega)] at hD; cases hD
        · rw [z3 k a hk' hE' ha ea eb] at hD; cases hD
  · exact Or.inr ⟨l, by omega, z2⟩
theorem fs_end {R E : Nat → Bool} {o t : Nat → Int32} {nn k : Nat} {f : Nat → Int32} (hN : NB o t nn) (h : FI R E o t nn f 6 k) (p : Nat) (hp : p < 6) : isD (rch R E o t nn) p (f p) := by
  rcases h p hp with ⟨z1, z2, _⟩ | ⟨l, _, z2, z3, z4, z5⟩
  · refine Or.inl ⟨z1, fun l => ?_⟩
    cases hD : rch R E o t nn l p with
    | false => rfl
    | true =>
      have := rch_all hN hp hD
      rw [z2 5 (by omega)] at this
      cases this
  · refine Or.inr ⟨l, ?_, z3, z4, z5⟩
    rcases Nat.lt_or_ge 5 l with q | q
    · have := rch_all hN hp z4
      rw [z5 5 q] at this
      cases this
    · exact q
section MWAYS
variable {xl : Nat} {xs : Nat → Int32} {d : Nat} {i : Nat → Nat → Int32} {Q : am_Q} {np nn : Nat}
theorem m_findWays (hp : i 89 1 = nI np) (hn : np ≤ 6) (hN : MNK i nn) (hv : ∀ q, q < 30 → ¬ i 92 q = -1) (hpl : ∀ p, p < 6 → i 93 p = -1 ∨ ∃ q, q < 5 ∧ i 93 p = nI q) (hr : ∀ p, i 90 p = 0 ∨ i 90 p = 1) (hcb : ∀ k, i 99 k = 0 ∨ i 99 k = 1) (hrb : ∀ p, i 110 p = 0 ∨ i 110 p = 1) (hd : 2 ≤ d)
    (h : ∀ j : Nat → Nat → Int32, (∀ q, q ≠ 109 → q ≠ 110 → q ≠ 111 → j q = i q) → (∀ p, p < 6 → j 111 p = i 93 p) → (∀ p, p < 6 → isD (rch (mR i np) (mE i) (i 94) (i 96) nn) p (j 109 p)) → (∀ p, j 110 p = 0 ∨ j 110 p = 1) → (∀ p, p < 6 → (j 110 p = 1 ↔ rch (mR i np) (mF i) (i 94) (i 96) nn 5 p = true)) → Q none (KS, j)) : SP xl xs d Y_Model_findWays [.ref 89] (KS, i) Q := by
  have hNB : NB (i 94) (i 96) nn := hN.2.2
  have hnn := hN.2.1
  obtain ⟨d, rfl⟩ : ∃ q, d = q + 1 := ⟨d - 1, by omega⟩
  have inner : ∀ z s, s + z = 6 → ∀ m k (j : Nat → Nat → Int32), k + m = nn → s ≤ 6 → (s = 6 → k = 0) → (∀ q, q ≠ 109 → q ≠ 110 → q ≠ 111 → j q = i q) → (∀ p, p < 6 → j 111 p = i 93 p) → FI (mR i np) (mE i) (i 94) (i 96) nn (j 109) s k → RI (mR i np) (mF i) (i 94) (i 96) nn (j 110) (s + 1) k → (s < 6 → am_wp (ax_E xl xs) (ax_cd Y_Model_findWays) (am_sp (ax_E xl xs) ax_cd ax_ml d) Q 83 [some (.ref 89), some (.int (nI (s + 1))), some (.int (nI k))] [] (KS, j) 0 0) ∧ (k = 0 → ∀ o, am_wp (ax_E xl xs) (ax_cd Y_Model_findWays) (am_sp (ax_E xl xs) ax_cd ax_ml d) Q 75 [some (.ref 89), some (.int (nI (s + 1))), o] [] (KS, j) 0 0) := by
    intro z
    induction z with
    | zero =>
      intro s hs m k j hk hs6 hsk h1 h2 h3 h4
      have : s = 6 := by omega
      subst this
      refine ⟨fun h => absurd h (by omega), fun hk0 o => ?_⟩
      refine am_go (am_sp_mo _) (fun q => q == 75 || q == 83) 20 (fun X hX => ?_)
      conv => whnf
      try dsimp only
      refine ⟨fun _ => ?_, fun hh => absurd (by decide) hh⟩
      conv => whnf
      try dsimp only
      refine h j h1 h2 (fs_end hNB h3) h4.1 (fun p hp' => ⟨fun e => ?_, fun e => h4.2.2.1 5 p (by omega) hp' e⟩)
      obtain ⟨l, hl⟩ := h4.2.1 p hp' e
      exact rch_all hNB hp' hl
    | succ z ihz =>
      intro s hs
      have in1 : ∀ m k (j : Nat → Nat → Int32), k + m = nn → (∀ q, q ≠ 109 → q ≠ 110 → q ≠ 111 → j q = i q) → (∀ p, p < 6 → j 111 p = i 93 p) → FI (mR i np) (mE i) (i 94) (i 96) nn (j 109) s k → RI (mR i np) (mF i) (i 94) (i 96) nn (j 110) (s + 1) k → am_wp (ax_E xl xs) (ax_cd Y_Model_findWays) (am_sp (ax_E xl xs) ax_cd ax_ml d) Q 83 [some (.ref 89), some (.int (nI (s + 1))), some (.int (nI k))] [] (KS, j) 0 0 := by
        intro m
        induction m with
        | zero =>
          intro k j hk h1 h2 h3 h4
          have : k = nn := by omega
          subst this
          refine am_go (am_sp_mo _) (fun q => q == 75 || q == 83) 20 (fun X hX => ?_)
          conv => whnf
          try dsimp only
          rw [h1 89 (by decide) (by decide) (by decide), hN.1]
          refine ⟨fun _ => ?_, fun hh => absurd (nI_le (Nat.le_refl _) (by omega)) hh⟩
          conv => whnf
          try dsimp only
          rw [show nI (s + 1) + Int32.ofInt 1 = nI (s + 1 + 1) by rw [li_1, nI_add]]
          exact hX _ _ _ _ _ _ ((ihz (s + 1) (by omega) k 0 j (by omega) (by omega) (fun _ => rfl) h1 h2 (fs_next hNB h3) (rs_next hNB h4)).2 rfl _)
        | succ m ih =>
          intro k j hk h1 h2 h3 h4
          obtain ⟨a, b, ha, hb, ea, eb⟩ := hNB k (by omega)
          have hcl : (nI k).toNatClampNeg = k := nI_clamp (by omega)
          have hca : (nI a).toNatClampNeg = a := nI_clamp (by omega)
          have hcbb : (nI b).toNatClampNeg = b := nI_clamp (by omega)
          have hin : vp_in (nI k) 16 := vp_in_nI (by omega) (by decide)
          have hia : vp_in (nI a) 6 := vp_in_nI (by omega) (by decide)
          have hib : vp_in (nI b) 6 := vp_in_nI (by omega) (by decide)
          have e1 : nI k + Int32.ofInt 1 = nI (k + 1) := by rw [li_1, nI_add]
          have j94 := h1 94 (by decide) (by decide) (by decide)
          have j96 := h1 96 (by decide) (by decide) (by decide)
          have hNj : MNK j nn := by
            unfold MNK
            rw [h1 89 (by decide) (by decide) (by decide), j94, j96]
            exact hN
          have hWj : NWK j := by
            unfold NWK
            rw [h1 92 (by decide) (by decide) (by decide)]
            exact ⟨fun p hp => by rw [h2 p hp]; exact hpl p hp, hv⟩
          have eact : mact j k = nact (i 94) (i 95) (wv (i 92) (i 93)) k := by
            unfold mact
            rw [j94, h1 95 (by decide) (by decide) (by decide), h1 92 (by decide) (by decide) (by decide)]
            exact nact_congr ha ea (fun p hp => wv_congr (h2 p hp))
          have ehld : mhld j k = nhld (i 96) (i 97) (i 98) (wv (i 92) (i 93)) k := by
            unfold mhld
            rw [j96, h1 97 (by decide) (by decide) (by decide), h1 98 (by decide) (by decide) (by decide), h1 92 (by decide) (by decide) (by decide)]
            exact nhld_congr hb eb (fun p hp => wv_congr (h2 p hp))
          have skip : mE i k = false → am_wp (ax_E xl xs) (ax_cd Y_Model_findWays) (am_sp (ax_E xl xs) ax_cd ax_ml d) Q 207 [some (.ref 89), some (.int (nI (s + 1))), some (.int (nI k))] [] (KS, j) 0 0 := by
            intro e
            refine am_go (am_sp_mo _) (fun q => q == 83) 20 (fun X hX => ?_)
            conv => whnf
            try dsimp only
            rw [e1]
            exact hX _ _ _ _ _ _ (ih (k + 1) j (by omega) h1 h2 (fs_keep h3 (by omega) (by omega) ha hb ea eb (fun e' => by rw [e] at e'; cases e')) (rs_keep h4 (by unfold mF; rw [e]; rfl)))
          have fin : mE i k = true → ∀ J : Nat → Nat → Int32, (∀ q, q ≠ 109 → q ≠ 110 → q ≠ 111 → J q = i q) → (∀ p, p < 6 → J 111 p = i 93 p) → FI (mR i np) (mE i) (i 94) (i 96) nn (J 109) s (k + 1) → RI (mR i np) (mF i) (i 94) (i 96) nn (J 110) (s + 1) k → am_wp (ax_E xl xs) (ax_cd Y_Model_findWays) (am_sp (ax_E xl xs) ax_cd ax_ml d) Q 154 [some (.ref 89), some (.int (nI (s + 1))), some (.int (nI k))] [] (KS, J) 0 0 := by
            intro hE J k1 k2 k3 k4
            have J94 := k1 94 (by decide) (by decide) (by decide)
            have J96 := k1 96 (by decide) (by decide) (by decide)
            have st : ∀ v : Int32, ((vp_nar .boolean v = 1 ∧ (J 110 b = 1 ∨ (mF i k = true ∧ J 110 a = 1))) ∨ (vp_nar .boolean v = 0 ∧ J 110 b = 0 ∧ (mF i k = true → J 110 a = 0))) → am_wp (ax_E xl xs) (ax_cd Y_Model_findWays) (am_sp (ax_E xl xs) ax_cd ax_ml d) Q 206 [some (.ref 89), some (.int (nI (s + 1))), some (.int (nI k))] [.int v, .int (nI b), .ref 110] (KS, J) 0 0 := by
              intro v hv'
              refine am_go (am_sp_mo _) (fun q => q == 83) 20 (fun X hX => ?_)
              conv => whnf
              try dsimp only
              refine ⟨6, [], rfl, hib, ?_⟩
              conv => whnf
              try dsimp only
              rw [e1, hcbb]
              refine hX _ _ _ _ _ _ (ih (k + 1) _ (by omega) (fun q q1 q2 q3 => (up_a q2).trans (k1 q q1 q2 q3)) (fun p hp => by rw [up_n (Or.inl (by decide))]; exact k2 p hp) ?_ (rs_step k4 (by omega) ha hb ea eb hv' (fun p => ?_)))
              · rw [up_a (by decide)]; exact k3
              · rw [up_at]
                by_cases q : p = b
                · rw [if_pos ⟨rfl, q⟩, if_pos q]
                · rw [if_neg q, if_neg (fun z => q z.2)]
            refine am_go (am_sp_mo _) (fun q => q == 206) 60 (fun X hX => ?_)
            conv => whnf
            try dsimp only
            refine ⟨16, [], rfl, hin, ?_⟩
            conv => whnf
            try dsimp only
            refine ⟨16, [], rfl, hin, ?_⟩
            conv => whnf
            try dsimp only
            rw [hcl, J96, eb]
            refine ⟨6, [], rfl, hib, ?_⟩
            conv => whnf
            try dsimp only
            rw [hcbb]
            refine ⟨fun hb1 => ?_, fun hb0 => ?_⟩
            · conv => whnf
              try dsimp only
              exact hX _ _ _ _ _ _ (st _ (Or.inl ⟨by decide, Or.inl ((k4.1 b).resolve_left hb1)⟩))
            conv => whnf
            try dsimp only
            rw [hcl]
            refine ⟨16, [], rfl, hin, ?_⟩
            conv => whnf
            try dsimp only
            rw [k1 99 (by decide) (by decide) (by decide)]
            rcases hcb k with ec | ec
            · rw [ec]
              refine ⟨fun _ => ?_, fun h => absurd rfl h⟩
              conv => whnf
              try dsimp only
              exact hX _ _ _ _ _ _ (st _ (Or.inr ⟨by decide, hb0, fun e => by unfold mF at e; rw [ec] at e; exact absurd e (by rw [Bool.and_eq_true]; exact fun z => absurd z.2 (by decide))⟩))
            rw [ec]
            refine ⟨fun h => absurd h (by decide), fun _ => ?_⟩
            conv => whnf
            try dsimp only
            rw [hcl]
            refine ⟨16, [], rfl, hin, ?_⟩
            conv => whnf
            try dsimp only
            rw [J94, ea]
            refine ⟨6, [], rfl, hia, ?_⟩
            conv => whnf
            try dsimp only
            rw [hca]
            rcases k4.1 a with er | er
            · rw [er]
              refine ⟨fun _ => ?_, fun h => absurd rfl h⟩
              conv => whnf
              try dsimp only
              exact hX _ _ _ _ _ _ (st _ (Or.inr ⟨by decide, hb0, fun _ => er⟩))
            · rw [er]
              refine ⟨fun h => absurd h (by decide), fun _ => ?_⟩
              conv => whnf
              try dsimp only
              exact hX _ _ _ _ _ _ (st _ (Or.inl ⟨by decide, Or.inr ⟨by unfold mF; rw [hE, ec]; rfl, er⟩⟩))
          refine am_go (am_sp_mo _) (fun q => q == 83 || q == 154 || q == 207) 60 (fun X hX => ?_)
          conv => whnf
          try dsimp only
          rw [h1 89 (by decide) (by decide) (by decide), hN.1]
          refine ⟨fun hh => absurd hh (nI_ge (by omega) (by omega)), fun _ => ?_⟩
          conv => whnf
          try dsimp only
          refine m_active hNj hWj (by omega) (by omega) (fun b1 hb1 => ?_)
          rw [eact] at hb1
          cases b1 with
          | false =>
            conv => whnf
            try dsimp only
            exact ⟨fun _ => hX _ _ _ _ _ _ (skip (by unfold mE; rw [← hb1]; rfl)), fun h => absurd rfl h⟩
          | true =>
            conv => whnf
            try dsimp only
            refine ⟨fun h => absurd h (by decide), fun _ => ?_⟩
            conv => whnf
            try dsimp only
            refine m_holds hNj hWj (by omega) (by omega) (fun b2 hb2 => ?_)
            rw [ehld] at hb2
            cases b2 with
            | false =>
              conv => whnf
              try dsimp only
              refine ⟨fun h => absurd rfl h, fun _ => ?_⟩
              conv => whnf
              try dsimp only
              exact hX _ _ _ _ _ _ (skip (by unfold mE; rw [← hb1, ← hb2]; rfl))
            | true =>
              have hE : mE i k = true := by unfold mE; rw [← hb1, ← hb2]; rfl
              have keep : (j 109 a = nI s → j 109 b = -1 → False) → am_wp (ax_E xl xs) (ax_cd Y_Model_findWays) (am_sp (ax_E xl xs) ax_cd ax_ml d) Q 154 [some (.ref 89), some (.int (nI (s + 1))), some (.int (nI k))] [] (KS, j) 0 0 := fun hno => fin hE j h1 h2 (fs_keep h3 (by omega) (by omega) ha hb ea eb (fun _ => hno)) h4
              conv => whnf
              try dsimp only
              refine ⟨fun _ => ?_, fun h => absurd h (by decide)⟩
              conv => whnf
              try dsimp only
              refine ⟨16, [], rfl, hin, ?_⟩
              conv => whnf
              try dsimp only
              rw [hcl, j94, ea]
              refine ⟨6, [], rfl, hia, ?_⟩
              conv => whnf
              try dsimp only
              rw [hca, show nI (s + 1) - Int32.ofInt 1 = nI s by rw [li_1]; exact nI_pred1 s]
              refine ⟨fun hne => hX _ _ _ _ _ _ (keep (fun z _ => hne z)), fun heq => ?_⟩
              conv => whnf
              try dsimp only
              rw [hcl]
              refine ⟨16, [], rfl, hin, ?_⟩
              conv => whnf
              try dsimp only
              rw [j96, eb]
              refine ⟨6, [], rfl, hib, ?_⟩
              conv => whnf
              try dsimp only
              rw [hcbb]
              refine ⟨fun hne => hX _ _ _ _ _ _ (keep (fun _ z => hne z)), fun heq2 => ?_⟩
              conv => whnf
              try dsimp only
              refine ⟨16, [], rfl, hin, ?_⟩
              conv => whnf
              try dsimp only
              rw [hcl, j96, eb]
              refine ⟨6, [], rfl, hib, ?_⟩
              conv => whnf
              try dsimp only
              rw [hcbb]
              refine hX _ _ _ _ _ _ (fin hE _ (fun q q1 q2 q3 => (up_a q1).trans (h1 q q1 q2 q3)) (fun p hp => by rw [up_n (Or.inl (by decide))]; exact h2 p hp) (fs_set h3 (by omega) (by omega) hE ha hb ea eb heq heq2 (fun p => ?_)) ?_)
              · rw [up_at]
                by_cases q : p = b
                · rw [if_pos ⟨rfl, q⟩, if_pos q]
                · rw [if_neg q, if_neg (fun z => q z.2)]
              · rw [up_a (by decide)]; exact h4
      intro m k j hk hs6 hsk h1 h2 h3 h4
      refine ⟨fun _ => in1 m k j hk h1 h2 h3 h4, fun hk0 o => ?_⟩
      subst hk0
      refine am_go (am_sp_mo _) (fun q => q == 75 || q == 83) 20 (fun X hX => ?_)
      conv => whnf
      try dsimp only
      refine ⟨fun hh => absurd hh (by rw [li_6]; exact nI_nlt (by omega) (by omega)), fun _ => ?_⟩
      conv => whnf
      try dsimp only
      exact hX _ _ _ _ _ _ (in1 m 0 j hk h1 h2 h3 h4)
  have init : ∀ m p o (j : Nat → Nat → Int32), p + m = 6 → (∀ q, q ≠ 109 → q ≠ 110 → q ≠ 111 → j q = i q) → (∀ p, p < 6 → j 111 p = i 93 p) → (∀ q, q < p → j 109 q = if mR i np q = true then nI 0 else -1) → (∀ q, q < p → j 110 q = if mR i np q = true then 1 else 0) → (∀ q, j 110 q = 0 ∨ j 110 q = 1) → am_wp (ax_E xl xs) (ax_cd Y_Model_findWays) (am_sp (ax_E xl xs) ax_cd ax_ml d) Q 6 [some (.ref 89), some (.int (nI p)), o] [] (KS, j) 0 0 := by
    intro m
    induction m with
    | zero =>
      intro p o j hpp h1 h2 h3 h4 h5
      have : p = 6 := by omega
      subst this
      refine am_go (am_sp_mo _) (fun q => q == 6 || q == 75) 20 (fun X hX => ?_)
      conv => whnf
      try dsimp only
      refine ⟨fun _ => ?_, fun hh => absurd (by decide) hh⟩
      conv => whnf
      try dsimp only
      refine hX _ _ _ _ _ _ ((inner 6 0 (by omega) nn 0 j (by omega) (by omega) (fun _ => rfl) h1 h2 (fun p hp => ?_) ⟨h5, fun p hp e => ?_, fun l p hl hp hD => ?_, fun k' _ _ _ hk' => absurd hk' (by omega)⟩).2 rfl _)
      · rw [h3 p hp]
        cases e : mR i np p with
        | false =>
          refine Or.inl ⟨if_neg (by decide), fun l hl => ?_, fun k' _ hk' => absurd hk' (by omega)⟩
          have : l = 0 := by omega
          subst this
          exact e
        | true => exact Or.inr ⟨0, by omega, by omega, if_pos rfl, e, fun m hm => absurd hm (by omega)⟩
      · rw [h4 p hp] at e
        cases e' : mR i np p with
        | false => rw [e', if_neg (by decide)] at e; exact absurd e (by decide)
        | true => exact ⟨0, e'⟩
      · have : l = 0 := by omega
        subst this
        have hD : mR i np p = true := hD
        rw [h4 p hp, if_pos hD]
    | succ m ih =>
      intro p o j hpp h1 h2 h3 h4 h5
      have e1 : nI p + Int32.ofInt 1 = nI (p + 1) := by rw [li_1, nI_add]
      have hcl : (nI p).toNatClampNeg = p := nI_clamp (by omega)
      have hin : vp_in (nI p) 6 := vp_in_nI (by omega) (by decide)
      have put : ∀ b : Bool, mR i np p = b → am_wp (ax_E xl xs) (ax_cd Y_Model_findWays) (am_sp (ax_E xl xs) ax_cd ax_ml d) Q 44 [some (.ref 89), some (.int (nI p)), o] [.int (if b = true then Int32.ofInt 1 else Int32.ofInt 0)] (KS, j) 0 0 := by
        intro b hb
        have nx : ∀ (x y : Int32), x = (if mR i np p = true then nI 0 else -1) → vp_nar .boolean y = (if mR i np p = true then 1 else 0) → ∀ o', am_wp (ax_E xl xs) (ax_cd Y_Model_findWays) (am_sp (ax_E xl xs) ax_cd ax_ml d) Q 6 [some (.ref 89), some (.int (nI (p + 1))), o'] [] (KS, am_up (am_up j 109 p x) 110 p (vp_nar .boolean y)) 0 0 := by
          intro x y hx hy o'
          refine ih (p + 1) o' _ (by omega) (fun q q1 q2 q3 => by rw [up_a q2, up_a q1]; exact h1 q q1 q2 q3) (fun q hq => by rw [up_n (Or.inl (by decide)), up_n (Or.inl (by decide))]; exact h2 q hq) (fun q hq => ?_) (fun q hq => ?_) (fun q => ?_)
          · rw [up_n (Or.inl (by decide)), up_at]
            by_cases e : q = p
            · rw [if_pos ⟨rfl, e⟩, hx, e]
            · rw [if_neg (fun z => e z.2)]; exact h3 q (by omega)
          · rw [up_at]
            by_cases e : q = p
            · rw [if_pos ⟨rfl, e⟩, hy, e]
            · rw [if_neg (fun z => e z.2), up_n (Or.inl (by decide))]; exact h4 q (by omega)
          · rw [up_at]
            by_cases e : q = p
            · rw [if_pos ⟨rfl, e⟩, hy]
              cases mR i np p
              · exact Or.inl rfl
              · exact Or.inr rfl
            · rw [if_neg (fun z => e z.2), up_n (Or.inl (by decide))]; exact h5 q
        cases b with
        | false =>
          refine am_go (am_sp_mo _) (fun q => q == 6) 40 (fun X hX => ?_)
          conv => whnf
          try dsimp only
          refine ⟨fun _ => ?_, fun h => absurd rfl h⟩
          conv => whnf
          try dsimp only
          refine ⟨6, [], rfl, hin, ?_⟩
          conv => whnf
          try dsimp only
          refine ⟨6, [], rfl, hin, ?_⟩
          conv => whnf
          try dsimp only
          rw [hcl, e1]
          exact hX _ _ _ _ _ _ (nx _ _ (by rw [hb]; decide) (by rw [hb]; decide) _)
        | true =>
          refine am_go (am_sp_mo _) (fun q => q == 6) 40 (fun X hX => ?_)
          conv => whnf
          try dsimp only
          refine ⟨fun h => absurd h (by decide), fun _ => ?_⟩
          conv => whnf
          try dsimp only
          refine ⟨6, [], rfl, hin, ?_⟩
          conv => whnf
          try dsimp only
          refine ⟨6, [], rfl, hin, ?_⟩
          conv => whnf
          try dsimp only
          rw [hcl, e1]
          exact hX _ _ _ _ _ _ (nx _ _ (by rw [hb]; decide) (by rw [hb]; decide) _)
      refine am_go (am_sp_mo _) (fun q => q == 6 || q == 44) 40 (fun X hX => ?_)
      conv => whnf
      try dsimp only
      refine ⟨fun hh => absurd hh (by rw [li_6]; exact nI_ge (by omega) (by decide)), fun _ => ?_⟩
      conv => whnf
      try dsimp only
      rw [h1 89 (by decide) (by decide) (by decide), hp]
      refine ⟨fun hle => ?_, fun hle => ?_⟩
      · conv => whnf
        try dsimp only
        exact hX _ _ _ _ _ _ (put false (by unfold mR; rw [decide_eq_false (fun hlt => absurd hle (nI_ge hlt (by omega)))]; rfl))
      have hlt : p < np := by
        rcases Nat.lt_or_ge p np with q | q
        · exact q
        · exact absurd (nI_le q (by omega)) hle
      conv => whnf
      try dsimp only
      refine ⟨6, [], rfl, hin, ?_⟩
      conv => whnf
      try dsimp only
      rw [hcl, h2 p (by omega)]
      refine ⟨fun hm => ?_, fun hm => ?_⟩
      · conv => whnf
        try dsimp only
        exact hX _ _ _ _ _ _ (put false (by unfold mR; rw [show decide (i 93 p = -1) = true from decide_eq_true hm]; simp))
      conv => whnf
      try dsimp only
      refine ⟨6, [], rfl, hin, ?_⟩
      conv => whnf
      try dsimp only
      rw [hcl, h1 90 (by decide) (by decide) (by decide)]
      rcases hr p with e | e
      · rw [e]
        refine ⟨fun _ => ?_, fun h => absurd rfl h⟩
        conv => whnf
        try dsimp only
        exact hX _ _ _ _ _ _ (put false (by unfold mR; rw [e]; simp))
      · rw [e]
        refine ⟨fun h => absurd h (by decide), fun _ => ?_⟩
        conv => whnf
        try dsimp only
        exact hX _ _ _ _ _ _ (put true (by unfold mR; rw [e, decide_eq_true hlt, show decide (i 93 p = -1) = false from decide_eq_false hm]; rfl))
  refine ⟨Nat.le_of_ble_eq_true rfl, ?_⟩
  refine am_go (am_sp_mo _) (fun q => q == 6) 20 (fun X hX => ?_)
  conv => whnf
  try dsimp only
  refine m_look (by omega) (fun j g1 g2 => ?_)
  conv => whnf
  try dsimp only
  exact hX _ _ _ _ _ _ (init 6 0 none j (by omega) (fun q _ _ q3 => g1 q q3) g2 (fun q hq => absurd hq (by omega)) (fun q hq => absurd hq (by omega)) (by rw [g1 110 (by decide)]; exact hrb))
end MWAYS
end
section
/-! HITS: the list; the class's -/
def hlg (T : Nat → Nat → Bool) (p : Nat) : Nat → List (Nat × Nat)
  | 0 => []
  | g + 1 => hlg T p g ++ (if T p g = true then [(p, g)] else [])
def hls (T : Nat → Nat → Bool) (na : Nat) : Nat → List (Nat × Nat)
  | 0 => []
  | p + 1 => hls T na p ++ hlg T p na
theorem hlg_congr {T T' : Nat → Nat → Bool} {p : Nat} : ∀ {g : Nat}, (∀ q, q < g → T p q = T' p q) → hlg T p g = hlg T' p g
  | 0, _ => rfl
  | g + 1, h => by
    unfold hlg
    rw [hlg_congr (fun q hq => h q (by omega)), h g (by omega)]
theorem hls_congr {T T' : Nat → Nat → Bool} {na : Nat} : ∀ {p : Nat}, (∀ q g, q < p → g < na → T q g = T' q g) → hls T na p = hls T' na p
  | 0, _ => rfl
  | p + 1, h => by
    unfold hls
    rw [hls_congr (fun q g hq hg => h q g (by omega) hg), hlg_congr (fun q hq => h p q (by omega) hq)]
/-- which advisories come before a package and a group -/
def lxb (o g : Nat → Nat) (p q a : Nat) : Bool := decide (o a < p) || (decide (o a = p) && decide (g a < q))
theorem hl_bd {T : Nat → Nat → Bool} {o gr : Nat → Nat} {na np : Nat} (hT : ∀ p g, p < np → g < na → T p g = true → ∃ a, a < na ∧ o a = p ∧ gr a = g) (hg : ∀ a, a < na → gr a < na) : ∀ p, p ≤ np → (hls T na p).length ≤ bcnt (lxb o gr p 0) na ∧ (p < np → ∀ g, g ≤ na → (hls T na p ++ hlg T p g).length ≤ bcnt (lxb o gr p g) na) := by
  have gs : ∀ p, p < np → (hls T na p).length ≤ bcnt (lxb o gr p 0) na → ∀ g, g ≤ na → (hls T na p ++ hlg T p g).length ≤ bcnt (lxb o gr p g) na := by
    intro p hp h0 g
    induction g with
    | zero => intro _; rw [hlg, List.append_nil]; exact h0
    | succ g ih =>
      intro hg'
      have ih := ih (by omega)
      have mono : ∀ a, a < na → lxb o gr p g a = true → lxb o gr p (g + 1) a = true := by
        intro a _ h
        unfold lxb at *
        rw [Bool.or_eq_true, Bool.and_eq_true, decide_eq_true_eq, decide_eq_true_eq, decide_eq_true_eq] at *
        omega
      have hm := bcnt_mono mono
      unfold hlg
      cases e : T p g with
      | false =>
        rw [if_neg (by decide), List.append_nil]
        omega
      | true =>
        rw [if_pos rfl, ← List.append_assoc, List.length_append]
        have : bcnt (lxb o gr p g) na < bcnt (lxb o gr p (g + 1)) na := by
          rcases Nat.lt_or_ge (bcnt (lxb o gr p g) na) (bcnt (lxb o gr p (g + 1)) na) with q | q
          · exact q
          · obtain ⟨a, ha, ho, hga⟩ := hT p g hp (by omega) e
            have := bcnt_same mono q a ha
            unfold lxb at this
            rw [ho, hga] at this
            simp at this
        show (hls T na p ++ hlg T p g).length + 1 ≤ _
        omega
  intro p
  induction p with
  | zero => intro _; exact ⟨Nat.zero_le _, fun h => gs 0 h (Nat.zero_le _)⟩
  | succ p ih =>
    intro hp
    have h1 := (ih (by omega)).2 (by omega) na (Nat.le_refl _)
    have h2 : bcnt (lxb o gr p na) na ≤ bcnt (lxb o gr (p + 1) 0) na := bcnt_mono (fun a _ h => by
      unfold lxb at *
      rw [Bool.or_eq_true, Bool.and_eq_true, decide_eq_true_eq, decide_eq_true_eq, decide_eq_true_eq] at *
      omega)
    have h3 : (hls T na (p + 1)).length ≤ bcnt (lxb o gr (p + 1) 0) na := by unfold hls; omega
    exact ⟨h3, fun h => gs (p + 1) h h3⟩
theorem hl_lt {T : Nat → Nat → Bool} {o gr : Nat → Nat} {na np : Nat} (hT : ∀ p g, p < np → g < na → T p g = true → ∃ a, a < na ∧ o a = p ∧ gr a = g) (hg : ∀ a, a < na → gr a < na) {p g : Nat} (hp : p < np) (hgg : g < na) (e : T p g = true) : (hls T na p ++ hlg T p g).length < na := by
  have h1 := (hl_bd hT hg p (by omega)).2 hp (g + 1) (by omega)
  have h2 := bcnt_le (lxb o gr p (g + 1)) na
  unfold hlg at h1
  rw [e, if_pos rfl, ← List.append_assoc, List.length_append] at h1
  have h1 : (hls T na p ++ hlg T p g).length + 1 ≤ _ := h1
  omega
theorem hl_le {T : Nat → Nat → Bool} {o gr : Nat → Nat} {na np : Nat} (hT : ∀ p g, p < np → g < na → T p g = true → ∃ a, a < na ∧ o a = p ∧ gr a = g) (hg : ∀ a, a < na → gr a < na) : (hls T na np).length ≤ na := by
  have h1 := (hl_bd hT hg np (Nat.le_refl _)).1
  have h2 := bcnt_le (lxb o gr np 0) na
  omega
def RW (row V : Nat → Nat → Nat → Int32) (R : List (Nat × Nat)) : Prop := ∀ q, q < R.length → ∀ w, w < 6 → row 0 q w = V (R.getD q (0, 0)).1 (R.getD q (0, 0)).2 w
theorem getD_snoc (R : List (Nat × Nat)) (x : Nat × Nat) (q : Nat) : (R ++ [x]).getD q (0, 0) = if q < R.length then R.getD q (0, 0) else if q = R.length then x else (0, 0) := by
  by_cases h : q < R.length
  · rw [if_pos h, List.getD_eq_getElem?_getD, List.getD_eq_getElem?_getD, List.getElem?_append_left h]
  · rw [if_neg h, List.getD_eq_getElem?_getD, List.getElem?_append_right (by omega)]
    by_cases h2 : q = R.length
    · subst h2
      rw [if_pos rfl, Nat.sub_self]
      rfl
    · rw [if_neg h2, List.getElem?_eq_none (by show 1 ≤ _; omega)]
      rfl
theorem RW.snoc {row row' V : Nat → Nat → Nat → Int32} {R : List (Nat × Nat)} {p g : Nat} (h : RW row V R) (h1 : ∀ q, q < R.length → ∀ w, w < 6 → row' 0 q w = row 0 q w) (h2 : ∀ w, w < 6 → row' 0 R.length w = V p g w) : RW row' V (R ++ [(p, g)]) := by
  intro q hq w hw
  rw [List.length_append] at hq
  have hq : q < R.length + 1 := hq
  rw [getD_snoc]
  by_cases e : q < R.length
  · rw [if_pos e, h1 q e w hw]; exact h q e w hw
  · have : q = R.length := by omega
    subst this
    rw [if_neg e, if_pos rfl]
    exact h2 w hw
def hvl (S : Nat → Nat → Int32) (far rc : Nat → Int32) (ex : Nat → Nat → Bool) (p g w : Nat) : Int32 := if w = 0 then nI p else if w = 1 then nI g else if w = 2 then S p g else if w = 3 then far p else if w = 4 then rc p else if ex p g = true then 1 else 0
theorem mx_congr {f f' : Nat → Bool} {s s' : Nat → Int32} : ∀ {n : Nat}, (∀ a, a < n → f a = f' a) → (∀ a, a < n → s a = s' a) → mx f s n = mx f' s' n
  | 0, _, _ => rfl
  | n + 1, h, g => by
    unfold mx
    rw [mx_congr (fun a ha => h a (by omega)) (fun a ha => g a (by omega)), h n (by omega), g n (by omega)]
theorem mx_ne {f : Nat → Bool} {s : Nat → Int32} : ∀ {n : Nat}, ¬ mx f s n = -1 → ∃ a, a < n ∧ f a = true
  | 0, h => absurd rfl h
  | n + 1, h => by
    cases e : f n with
    | true => exact ⟨n, by omega, e⟩
    | false =>
      unfold mx at h
      rw [e, if_neg (by decide)] at h
      obtain ⟨a, ha, h⟩ := mx_ne h
      exact ⟨a, by omega, h⟩
/-- of the class: the version there, the score there, is it a hit, is it excepted -/
def cvr (i : Nat → Nat → Int32) (p : Nat) : Int32 := i (4 + p) (i 11 p).toNatClampNeg
def cS (i : Nat → Nat → Int32) (sp : Nat → Nat) (na p g : Nat) : Int32 := mx (cgst i sp (nI g) (nI p) (cvr i p)) (i 49) na
def cT (i : Nat → Nat → Int32) (sp : Nat → Nat) (na p g : Nat) : Bool := !(decide (i 11 p = -1)) && !(decide (cS i sp na p g = -1))
def cX (i : Nat → Nat → Int32) (p g : Nat) : Bool := decide (i 0 8 < i (54 + g) p)
def cV (i : Nat → Nat → Int32) (sp : Nat → Nat) (na : Nat) : Nat → Nat → Nat → Int32 := hvl (cS i sp na) (i 67) (fun p => if i 69 p = -1 then 0 else 1) (cX i)
section HITS
variable {xl : Nat} {xs : Nat → Int32} {d : Nat} {i : Nat → Nat → Int32} {Q : am_Q} {np nn na : Nat} {nv sp : Nat → Nat}
theorem k_noteHitsOf {p : Nat} {I : Nat → Nat → Int32} {R : List (Nat × Nat)} (hf : ∀ q, q ≠ 70 → (q < 72 ∨ 83 < q) → i q = I q) (hk : PK I np nv) (hA : AK I na sp) (hw : ∀ a, I 50 a = 0 ∨ I 50 a = 1) (hpl : ∀ p, p < np → I 11 p = -1 ∨ ∃ k, k < nv p ∧ I 11 p = nI k) (hv : ∀ p k, p < 6 → k < nv p → ¬ I (4 + p) k = -1) (hp : p < np)
    (hR : i 70 1 = nI R.length) (hRW : RW (fun _ q => i (72 + q)) (cV I sp na) R) (hb : ∀ g, g < na → cT I sp na p g = true → (R ++ hlg (cT I sp na) p g).length < 12) (hd : 5 ≤ d)
    (h : ∀ j : Nat → Nat → Int32, (∀ q, q ≠ 70 → (q < 72 ∨ 83 < q) → j q = I q) → j 70 1 = nI (R ++ hlg (cT I sp na) p na).length → RW (fun _ q => j (72 + q)) (cV I sp na) (R ++ hlg (cT I sp na) p na) → Q none (KS, j)) : SP xl xs d Y_AM_noteHitsOf [.ref 0, .int (nI p)] (KS, i) Q := by
  have hn := hk.2.1
  have hna := hA.2.1
  have hki : PK i np nv := hk.fr (hf 1 (by decide) (by decide)) (hf 10 (by decide) (by decide))
  obtain ⟨d, rfl⟩ : ∃ q, d = q + 1 := ⟨d - 1, by omega⟩
  refine ⟨Nat.le_of_ble_eq_true rfl, am_go (am_sp_mo _) (fun q => q == 25) 40 (fun X hX => ?_)⟩
  conv => whnf
  try dsimp only
  refine k_placeOf hki (by omega) (fun p' hp' ep => ?_) (fun hx => absurd rfl (out_np (by omega) hx hp))
  have := nI_inj (by omega) (by omega) ep
  subst this
  conv => whnf
  try dsimp only
  rw [hf 11 (by decide) (by decide)]
  rcases hpl p hp with hm | ⟨k, hk', ek⟩
  · have hT : ∀ g, cT I sp na p g = false := fun g => by unfold cT; rw [decide_eq_true hm]; rfl
    have hnil : ∀ g, hlg (cT I sp na) p g = [] := by
      intro g
      induction g with
      | zero => rfl
      | succ g ih => unfold hlg; rw [ih, hT, if_neg (by decide)]; rfl
    rw [hnil, List.append_nil] at h
    rw [hm]
    refine k_versionAt hki (by omega) (fun p2 k2 hp2 hk2 _ e2 => absurd e2.symm (nI_m1 (by have := (hk.2.2 p2 (by omega)).2; omega))) (fun _ => ?_)
    conv => whnf
    try dsimp only
    refine ⟨fun h => absurd (by decide) h, fun _ => ?_⟩
    conv => whnf
    try dsimp only
    exact h i hf hR hRW
  have h5 := (hk.2.2 p (by omega)).2
  rw [ek]
  refine k_versionAt hki (by omega) (fun p2 k2 hp2 hk2 e1 e2 => ?_) (fun hno => absurd ⟨rfl, rfl⟩ (hno p k hp hk'))
  have := nI_inj (by omega) (by omega) e1
  subst this
  have := nI_inj (by omega) (by have := (hk.2.2 p (by omega)).2; omega) e2
  subst this
  conv => whnf
  try dsimp only
  rw [hf (4 + p) (by omega) (by omega)]
  have hcv : cvr I p = I (4 + p) k := by unfold cvr; rw [ek, nI_clamp (by omega)]
  refine ⟨fun _ => ?_, fun e => absurd e (hv p k (by omega) hk')⟩
  conv => whnf
  try dsimp only
  refine hX _ _ _ _ _ _ ?_
  have loop : ∀ m g o4 o5 o6 (j : Nat → Nat → Int32), g + m = na → (∀ q, q ≠ 70 → (q < 72 ∨ 83 < q) → j q = I q) → j 70 1 = nI (R ++ hlg (cT I sp na) p g).length → RW (fun _ q => j (72 + q)) (cV I sp na) (R ++ hlg (cT I sp na) p g) → am_wp (ax_E xl xs) (ax_cd Y_AM_noteHitsOf) (am_sp (ax_E xl xs) ax_cd ax_ml d) Q 25 [some (.ref 0), some (.int (nI p)), some (.int (I (4 + p) k)), some (.int (nI g)), o4, o5, o6] [] (KS, j) 0 0 := by
    intro m
    induction m with
    | zero =>
      intro g o4 o5 o6 j hg h1 h2 h3
      have : g = na := by omega
      subst this
      refine am_go (am_sp_mo _) (fun q => q == 25) 20 (fun X hX => ?_)
      conv => whnf
      try dsimp only
      refine k_Adv_count (by omega) ?_
      conv => whnf
      try dsimp only
      rw [h1 20 (by decide) (by decide), hA.1]
      refine ⟨fun _ => ?_, fun hh => absurd (nI_le (Nat.le_refl _) (by omega)) hh⟩
      conv => whnf
      try dsimp only
      exact h j h1 h2 h3
    | succ m ih =>
      intro g o4 o5 o6 j hg h1 h2 h3
      have e1 : nI g + Int32.ofInt 1 = nI (g + 1) := by rw [li_1, nI_add]
      have hAj : AK j na sp := hA.fr (h1 20 (by decide) (by decide)) (h1 48 (by decide) (by decide))
      have hmx : mx (cgst j sp (nI g) (nI p) (I (4 + p) k)) (j 49) na = cS I sp na p g := by
        unfold cS
        rw [hcv, h1 49 (by decide) (by decide)]
        refine mx_congr (fun a ha => ?_) (fun _ _ => rfl)
        unfold cgst cstk stk chas
        rw [h1 51 (by decide) (by decide), h1 21 (by decide) (by decide), h1 50 (by decide) (by decide), h1 (23 + a) (by omega) (by omega), h1 (36 + a) (by omega) (by omega)]
      refine am_go (am_sp_mo _) (fun q => q == 25 || q == 71 || q == 94) 80 (fun X hX => ?_)
      conv => whnf
      try dsimp only
      refine k_Adv_count (by omega) ?_
      conv => whnf
      try dsimp only
      rw [h1 20 (by decide) (by decide), hA.1]
      refine ⟨fun hh => absurd hh (nI_ge (by omega) (by omega)), fun _ => ?_⟩
      conv => whnf
      try dsimp only
      refine k_scoreThere hAj (by rw [h1 50 (by decide) (by decide)]; exact hw) (by omega) ?_
      conv => whnf
      try dsimp only
      rw [hmx]
      refine ⟨fun hs => ?_, fun hs => ?_⟩
      · have hT : cT I sp na p g = false := by unfold cT; rw [show decide (cS I sp na p g = -1) = true from decide_eq_true hs]; simp
        conv => whnf
        try dsimp only
        rw [e1]
        refine hX _ _ _ _ _ _ (ih (g + 1) _ o5 o6 j (by omega) h1 ?_ ?_)
        · unfold hlg; rw [hT, if_neg (by decide), List.append_nil]; exact h2
        · unfold hlg; rw [hT, if_neg (by decide), List.append_nil]; exact h3
      have hT : cT I sp na p g = true := by unfold cT; rw [show decide (cS I sp na p g = -1) = false from decide_eq_false hs, show decide (I 11 p = -1) = false from decide_eq_false (by rw [ek]; exact nI_m1 (by omega))]; rfl
      have hlt := hb g (by omega) hT
      have fin : ∀ r x : Int32, r = (if I 69 p = -1 then 0 else 1) → x = (if cX I p g = true then 1 else 0) → am_wp (ax_E xl xs) (ax_cd Y_AM_noteHitsOf) (am_sp (ax_E xl xs) ax_cd ax_ml d) Q 94 [some (.ref 0), some (.int (nI p)), some (.int (I (4 + p) k)), some (.int (nI g)), some (.int (cS I sp na p g)), some (.int r), o6] [.int x] (KS, j) 0 0 := by
        intro r x hr hx
        refine am_go (am_sp_mo _) (fun q => q == 25) 40 (fun X hX => ?_)
        conv => whnf
        try dsimp only
        refine k_lengthTo (Or.inl rfl) (by omega) (by omega) ?_
        conv => whnf
        try dsimp only
        refine k_hlAdd h2 hlt (by omega) (fun j2 g1 g2 g3 g4 g5 g6 g7 g8 => ?_)
        conv => whnf
        try dsimp only
        rw [e1]
        refine hX _ _ _ _ _ _ (ih (g + 1) _ _ _ j2 (by omega) (fun q q1 q2 => (g1 q (by omega) q1).trans (h1 q q1 q2)) ?_ ?_)
        · unfold hlg
          rw [hT, if_pos rfl, ← List.append_assoc, List.length_append (bs := [(p, g)]), g2]
          rfl
        · unfold hlg
          rw [hT, if_pos rfl, ← List.append_assoc]
          refine h3.snoc (fun q hq w hw => ?_) (fun w hw => ?_)
          · show j2 (72 + q) w = j (72 + q) w
            rw [g1 (72 + q) (by omega) (by omega)]
          · show j2 (72 + _) w = _
            have cs : w = 0 ∨ w = 1 ∨ w = 2 ∨ w = 3 ∨ w = 4 ∨ w = 5 := by omega
            unfold cV hvl
            rcases cs with rfl | rfl | rfl | rfl | rfl | rfl
            · rw [g3]; rfl
            · rw [g4]; rfl
            · rw [g5]; rfl
            · rw [g6, h1 67 (by decide) (by decide)]; rfl
            · rw [g7, hr]; rfl
            · rw [g8, hx]; rfl
      have mid : ∀ r : Int32, r = (if I 69 p = -1 then 0 else 1) → am_wp (ax_E xl xs) (ax_cd Y_AM_noteHitsOf) (am_sp (ax_E xl xs) ax_cd ax_ml d) Q 71 [some (.ref 0), some (.int (nI p)), some (.int (I (4 + p) k)), some (.int (nI g)), some (.int (cS I sp na p g)), o5, o6] [.int r] (KS, j) 0 0 := by
        intro r hr
        refine am_go (am_sp_mo _) (fun q => q == 94) 40 (fun X hX => ?_)
        conv => whnf
        try dsimp only
        refine k_exHolds (by omega) (by omega) (by omega) (fun b hb' => ?_)
        rw [h1 0 (by decide) (by decide), h1 (54 + g) (by omega) (by omega)] at hb'
        cases b with
        | false =>
          conv => whnf
          try dsimp only
          refine ⟨fun _ => ?_, fun h => absurd rfl h⟩
          conv => whnf
          try dsimp only
          exact hX _ _ _ _ _ _ (fin r _ hr (by unfold cX; rw [← hb']; rfl))
        | true =>
          conv => whnf
          try dsimp only
          refine ⟨fun h => absurd h (by decide), fun _ => ?_⟩
          conv => whnf
          try dsimp only
          exact hX _ _ _ _ _ _ (fin r _ hr (by unfold cX; rw [← hb']; rfl))
      conv => whnf
      try dsimp only
      refine k_lengthTo (Or.inr rfl) (by omega) (by omega) ?_
      conv => whnf
      try dsimp only
      rw [h1 69 (by decide) (by decide)]
      refine ⟨fun hl => ?_, fun hl => ?_⟩
      · conv => whnf
        try dsimp only
        exact hX _ _ _ _ _ _ (mid _ (by rw [if_neg (show ¬ I 69 p = -1 from hl)]; decide))
      · conv => whnf
        try dsimp only
        exact hX _ _ _ _ _ _ (mid _ (by rw [if_pos (show I 69 p = -1 from hl)]; decide))
  exact loop na 0 none none none i (by omega) hf (by rw [hlg, List.append_nil]; exact hR) (by rw [hlg, List.append_nil]; exact hRW)
theorem cT_adv {I : Nat → Nat → Int32} {ow gr : Nat → Nat} (hna : na ≤ 12) (ho : ∀ a, a < na → I 21 a = nI (ow a) ∧ ow a < 6) (hg : ∀ a, a < na → I 51 a = nI (gr a) ∧ gr a < na) {p g : Nat} (hp : p < 6) (hgg : g < na) (h : cT I sp na p g = true) : ∃ a, a < na ∧ ow a = p ∧ gr a = g := by
  unfold cT at h
  rw [Bool.and_eq_true] at h
  have hne : ¬ cS I sp na p g = -1 := fun e => by rw [decide_eq_true e] at h; cases h.2
  unfold cS at hne
  obtain ⟨a, ha, h⟩ := mx_ne hne
  unfold cgst cstk stk at h
  rw [Bool.and_eq_true, Bool.and_eq_true] at h
  have h1 := of_decide_eq_true h.1
  have h2 := of_decide_eq_true h.2.1
  have hoa := ho a ha
  have hga := hg a ha
  rw [hga.1] at h1
  rw [hoa.1] at h2
  exact ⟨a, ha, nI_inj (by omega) (by omega) h2, nI_inj (by omega) (by omega) h1⟩
theorem c_hits {ow gr : Nat → Nat} (hk : PK i np nv) (hA : AK i na sp) (hw : ∀ a, i 50 a = 0 ∨ i 50 a = 1) (hpl : ∀ p, p < np → i 11 p = -1 ∨ ∃ k, k < nv p ∧ i 11 p = nI k) (hv : ∀ p k, p < 6 → k < nv p → ¬ i (4 + p) k = -1) (hr : ∀ p, i 2 p = 0 ∨ i 2 p = 1) (hN : NK i nn) (hcb : ∀ k, i 19 k = 0 ∨ i 19 k = 1) (hw0 : i 66 2 = 0) (hw1 : i 68 2 = 1)
    (ho : ∀ a, a < na → i 21 a = nI (ow a) ∧ ow a < 6) (hg : ∀ a, a < na → i 51 a = nI (gr a) ∧ gr a < na) (hd : 6 ≤ d)
    (h : ∀ I j : Nat → Nat → Int32, (∀ q, q ≠ 67 → q ≠ 69 → I q = i q) → (∀ p, p < 6 → isD (rch (cR i np) (cE i 66) (i 14) (i 16) nn) p (I 67 p)) → (∀ p, p < 6 → isD (rch (cR i np) (cE i 68) (i 14) (i 16) nn) p (I 69 p)) → (∀ q, q ≠ 70 → (q < 72 ∨ 83 < q) → j q = I q) → (hls (cT I sp na) na np).length ≤ 12 → j 70 1 = nI (hls (cT I sp na) na np).length → RW (fun _ q => j (72 + q)) (cV I sp na) (hls (cT I sp na) na np) → Q (some (.int (nI (hls (cT I sp na) na np).length))) (KS, j)) : SP xl xs d Y_AM_hits [.ref 0] (KS, i) Q := by
  have hn := hk.2.1
  have hna := hA.2.1
  obtain ⟨d, rfl⟩ : ∃ q, d = q + 1 := ⟨d - 1, by omega⟩
  refine ⟨Nat.le_of_ble_eq_true rfl, am_go (am_sp_mo _) (fun q => q == 23) 30 (fun X hX => ?_)⟩
  conv => whnf
  try dsimp only
  refine k_measure (Or.inl rfl) hk hr hN hcb (Or.inl hw0) (by omega) (fun J1 a1 a2 => ?_)
  conv => whnf
  try dsimp only
  have hkJ : PK J1 np nv := hk.fr (a1 1 (by decide)) (a1 10 (by decide))
  have hNJ : NK J1 nn := by
    unfold NK
    rw [a1 13 (by decide), a1 14 (by decide), a1 16 (by decide)]
    exact hN
  refine k_measure (Or.inr rfl) hkJ (by rw [a1 2 (by decide)]; exact hr) hNJ (by rw [a1 19 (by decide)]; exact hcb) (Or.inr (by rw [a1 68 (by decide)]; exact hw1)) (by omega) (fun I b1 b2 => ?_)
  have e1 : cR J1 np = cR i np := by funext p; unfold cR; rw [a1 11 (by decide), a1 2 (by decide)]
  have e2 : cE J1 68 = cE i 68 := by funext k; unfold cE cact chld; rw [a1 12 (by decide), a1 14 (by decide), a1 15 (by decide), a1 16 (by decide), a1 17 (by decide), a1 18 (by decide), a1 19 (by decide), a1 68 (by decide)]
  rw [e1, e2, a1 14 (by decide), a1 16 (by decide)] at b2
  have fI : ∀ q, q ≠ 67 → q ≠ 69 → I q = i q := fun q q1 q2 => (b1 q q2).trans (a1 q q1)
  have hkI : PK I np nv := hk.fr (fI 1 (by decide) (by decide)) (fI 10 (by decide) (by decide))
  have hAI : AK I na sp := hA.fr (fI 20 (by decide) (by decide)) (fI 48 (by decide) (by decide))
  have hTa : ∀ p g, p < np → g < na → cT I sp na p g = true → ∃ a, a < na ∧ ow a = p ∧ gr a = g := fun p g hp hgg hT => cT_adv (I := I) hna (by rw [fI 21 (by decide) (by decide)]; exact ho) (by rw [fI 51 (by decide) (by decide)]; exact hg) (by omega) hgg hT
  have hle := hl_le (np := np) hTa (fun a ha => (hg a ha).2)
  conv => whnf
  try dsimp only
  refine k_hlClear (by omega) ?_
  conv => whnf
  try dsimp only
  refine hX _ _ _ _ _ _ ?_
  have loop : ∀ m p (j : Nat → Nat → Int32), p + m = np → (∀ q, q ≠ 70 → (q < 72 ∨ 83 < q) → j q = I q) → j 70 1 = nI (hls (cT I sp na) na p).length → RW (fun _ q => j (72 + q)) (cV I sp na) (hls (cT I sp na) na p) → am_wp (ax_E xl xs) (ax_cd Y_AM_hits) (am_sp (ax_E xl xs) ax_cd ax_ml d) Q 23 [some (.ref 0), some (.int (nI p))] [] (KS, j) 0 0 := by
    intro m
    induction m with
    | zero =>
      intro p j hp h1 h2 h3
      have : p = np := by omega
      subst this
      refine am_go (am_sp_mo _) (fun q => q == 23) 20 (fun X hX => ?_)
      conv => whnf
      try dsimp only
      refine k_Packs_count (by omega) ?_
      conv => whnf
      try dsimp only
      rw [h1 1 (by decide) (by decide), hkI.1]
      refine ⟨fun _ => ?_, fun hh => absurd (nI_le (Nat.le_refl _) (by omega)) hh⟩
      conv => whnf
      try dsimp only
      refine k_hlCount (by omega) ?_
      conv => whnf
      try dsimp only
      exact q_eq (by rw [h2]) rfl (h I j fI (fun p hp => by rw [b1 67 (by decide)]; exact a2 p hp) b2 h1 (by omega) h2 h3)
    | succ m ih =>
      intro p j hp h1 h2 h3
      refine am_go (am_sp_mo _) (fun q => q == 23) 20 (fun X hX => ?_)
      conv => whnf
      try dsimp only
      refine k_Packs_count (by omega) ?_
      conv => whnf
      try dsimp only
      rw [h1 1 (by decide) (by decide), hkI.1]
      refine ⟨fun hh => absurd hh (nI_ge (by omega) (by omega)), fun _ => ?_⟩
      conv => whnf
      try dsimp only
      refine k_noteHitsOf h1 hkI hAI (by rw [fI 50 (by decide) (by decide)]; exact hw) (by rw [fI 11 (by decide) (by decide)]; exact hpl) (fun p k hp => by rw [fI (4 + p) (by omega) (by omega)]; exact hv p k hp) (by omega) h2 h3 (fun g hgg hT => Nat.lt_of_lt_of_le (hl_lt hTa (fun a ha => (hg a ha).2) (by omega) hgg hT) hna) (by omega) (fun j2 g1 g2 g3 => ?_)
      conv => whnf
      try dsimp only
      rw [show nI p + Int32.ofInt 1 = nI (p + 1) by rw [li_1, nI_add]]
      exact hX _ _ _ _ _ _ (ih (p + 1) j2 (by omega) g1 g2 g3)
  exact loop np 0 _ (by omega) (fun q q1 q2 => up_a q1) (by rw [up_s]; rfl) (fun q hq => absurd hq (by show ¬ q < 0; omega))
end HITS
end
section
/-! HITS of the reference -/
def mvr (i : Nat → Nat → Int32) (p : Nat) : Int32 := i 92 (5 * p + (i 93 p).toNatClampNeg)
def mS (i : Nat → Nat → Int32) (sp : Nat → Nat) (ch : Nat → Nat → Nat) (na p g : Nat) : Int32 := mx (mgst i sp (nI g) (nI p) (mvr i p)) (fun a => msc (ch a)) na
def mT (i : Nat → Nat → Int32) (sp : Nat → Nat) (ch : Nat → Nat → Nat) (na p g : Nat) : Bool := !(decide (i 93 p = -1)) && !(decide (mS i sp ch na p g = -1))
def mX (i : Nat → Nat → Int32) (p g : Nat) : Bool := decide (i 89 0 < i 107 (6 * g + p))
def mV (i : Nat → Nat → Int32) (sp : Nat → Nat) (ch : Nat → Nat → Nat) (na : Nat) : Nat → Nat → Nat → Int32 := hvl (mS i sp ch na) (i 109) (i 110) (mX i)
section MHITS
variable {xl : Nat} {xs : Nat → Int32} {d : Nat} {i : Nat → Nat → Int32} {Q : am_Q} {np nn na : Nat} {nv sp : Nat → Nat} {ch : Nat → Nat → Nat}
theorem m_hits (hp : i 89 1 = nI np) (hn : np ≤ 6) (hA : MAK i na sp) (hw : ∀ a, i 105 a = 0 ∨ i 105 a = 1) (hch : ∀ a, a < 12 → ∀ k, k < 7 → i 104 (7 * a + k) = nI (ch a k) ∧ ch a k < 4) (hN : MNK i nn) (hv : ∀ q, q < 30 → ¬ i 92 q = -1) (hpl : ∀ p, p < 6 → i 93 p = -1 ∨ ∃ q, q < 5 ∧ i 93 p = nI q) (hr : ∀ p, i 90 p = 0 ∨ i 90 p = 1) (hcb : ∀ k, i 99 k = 0 ∨ i 99 k = 1) (hrb : ∀ p, i 110 p = 0 ∨ i 110 p = 1)
    (hb : ∀ p g, p < np → g < na → mT i sp ch na p g = true → (hls (mT i sp ch na) na p ++ hlg (mT i sp ch na) p g).length < 72) (hd : 5 ≤ d)
    (h : ∀ I j : Nat → Nat → Int32, (∀ q, q ≠ 109 → q ≠ 110 → q ≠ 111 → I q = i q) → (∀ p, p < 6 → isD (rch (mR i np) (mE i) (i 94) (i 96) nn) p (I 109 p)) → (∀ p, I 110 p = 0 ∨ I 110 p = 1) → (∀ p, p < 6 → (I 110 p = 1 ↔ rch (mR i np) (mF i) (i 94) (i 96) nn 5 p = true)) → (∀ q, q ≠ 108 → q ≠ 89 → j q = I q) → (∀ q, q ≠ 22 → j 89 q = I 89 q) → j 89 22 = nI (hls (mT i sp ch na) na np).length → RW (fun _ q w => j 108 (6 * q + w)) (mV I sp ch na) (hls (mT i sp ch na) na np) → Q (some (.int (nI (hls (mT i sp ch na) na np).length))) (KS, j)) : SP xl xs d Y_Model_hits [.ref 89] (KS, i) Q := by
  have hna := hA.2.1
  obtain ⟨d, rfl⟩ : ∃ q, d = q + 1 := ⟨d - 1, by omega⟩
  refine ⟨Nat.le_of_ble_eq_true rfl, am_go (am_sp_mo _) (fun q => q == 11) 30 (fun X hX => ?_)⟩
  conv => whnf
  try dsimp only
  refine m_findWays hp hn hN hv hpl hr hcb hrb (by omega) (fun I a1 a2 a3 a4 a5 => ?_)
  conv => whnf
  try dsimp only
  have fI : ∀ q, q ≠ 109 → q ≠ 110 → q ≠ 111 → I q = i q := a1
  have I89 := a1 89 (by decide) (by decide) (by decide)
  have I93 := a1 93 (by decide) (by decide) (by decide)
  have I92 := a1 92 (by decide) (by decide) (by decide)
  have hTI : ∀ q, mT I sp ch na q = mT i sp ch na q := fun q => by
    funext g
    unfold mT mS mgst mstk stk mhas mvr
    rw [I93, I92, a1 106 (by decide) (by decide) (by decide), a1 100 (by decide) (by decide) (by decide), a1 105 (by decide) (by decide) (by decide), a1 102 (by decide) (by decide) (by decide), a1 103 (by decide) (by decide) (by decide)]
  have hTI' : mT I sp ch na = mT i sp ch na := funext hTI
  rw [← hTI'] at h hb
  refine hX _ _ _ _ _ _ ?_
  have loop : ∀ m p o2 o3 o4 (j : Nat → Nat → Int32), p + m = np → (∀ q, q ≠ 108 → q ≠ 89 → j q = I q) → (∀ q, q ≠ 22 → j 89 q = I 89 q) → j 89 22 = nI (hls (mT I sp ch na) na p).length → RW (fun _ q w => j 108 (6 * q + w)) (mV I sp ch na) (hls (mT I sp ch na) na p) → am_wp (ax_E xl xs) (ax_cd Y_Model_hits) (am_sp (ax_E xl xs) ax_cd ax_ml d) Q 11 [some (.ref 89), some (.int (nI p)), o2, o3, o4] [] (KS, j) 0 0 := by
    intro m
    induction m with
    | zero =>
      intro p o2 o3 o4 j hpp h1 h2 h3 h4
      have : p = np := by omega
      subst this
      refine am_go (am_sp_mo _) (fun q => q == 11) 20 (fun X hX => ?_)
      conv => whnf
      try dsimp only
      rw [h2 1 (by decide), I89, hp]
      refine ⟨fun _ => ?_, fun hh => absurd (nI_le (Nat.le_refl _) (by omega)) hh⟩
      conv => whnf
      try dsimp only
      exact q_eq (by rw [h3]) rfl (h I j fI a3 a4 a5 h1 h2 h3 h4)
    | succ m ih =>
      intro p o2 o3 o4 j hpp h1 h2 h3 h4
      have hcl : (nI p).toNatClampNeg = p := nI_clamp (by omega)
      have hin : vp_in (nI p) 6 := vp_in_nI (by omega) (by decide)
      have e1 : nI p + Int32.ofInt 1 = nI (p + 1) := by rw [li_1, nI_add]
      refine am_go (am_sp_mo _) (fun q => q == 11 || q == 50) 40 (fun X hX => ?_)
      conv => whnf
      try dsimp only
      rw [h2 1 (by decide), I89, hp]
      refine ⟨fun hh => absurd hh (nI_ge (by omega) (by omega)), fun _ => ?_⟩
      conv => whnf
      try dsimp only
      refine ⟨6, [], rfl, hin, ?_⟩
      conv => whnf
      try dsimp only
      rw [hcl, h1 93 (by decide) (by decide)]
      refine ⟨fun hne => ?_, fun heq => ?_⟩
      rotate_left
      · have hT : ∀ g, mT I sp ch na p g = false := fun g => by unfold mT; rw [show decide (I 93 p = -1) = true from decide_eq_true heq]; rfl
        have hnil : ∀ g, hlg (mT I sp ch na) p g = [] := by
          intro g
          induction g with
          | zero => rfl
          | succ g ih => unfold hlg; rw [ih, hT, if_neg (by decide)]; rfl
        conv => whnf
        try dsimp only
        rw [e1]
        refine hX _ _ _ _ _ _ (ih (p + 1) _ _ _ j (by omega) h1 h2 ?_ ?_)
        · unfold hls; rw [hnil, List.append_nil]; exact h3
        · unfold hls; rw [hnil, List.append_nil]; exact h4
      obtain ⟨z, hz, ez⟩ := (hpl p (by omega)).resolve_left (by rw [← I93]; exact hne)
      rw [← I93] at ez
      have hat : Int32.ofInt 5 * nI p + nI z = nI (5 * p + z) := by rw [li_5, pk_mul, nI_add]
      have hvr : mvr I p = I 92 (5 * p + z) := by unfold mvr; rw [ez, nI_clamp (by omega)]
      conv => whnf
      try dsimp only
      refine ⟨6, [], rfl, hin, ?_⟩
      conv => whnf
      try dsimp only
      rw [hcl, h1 93 (by decide) (by decide), ez, hat]
      refine ⟨30, [], rfl, vp_in_nI (by omega) (by decide), ?_⟩
      conv => whnf
      try dsimp only
      rw [nI_clamp (show 5 * p + z < 2 ^ 31 by omega), h1 92 (by decide) (by decide)]
      refine hX _ _ _ _ _ _ ?_
      have inl : ∀ m g o4 (j : Nat → Nat → Int32), g + m = na → (∀ q, q ≠ 108 → q ≠ 89 → j q = I q) → (∀ q, q ≠ 22 → j 89 q = I 89 q) → j 89 22 = nI (hls (mT I sp ch na) na p ++ hlg (mT I sp ch na) p g).length → RW (fun _ q w => j 108 (6 * q + w)) (mV I sp ch na) (hls (mT I sp ch na) na p ++ hlg (mT I sp ch na) p g) → am_wp (ax_E xl xs) (ax_cd Y_Model_hits) (am_sp (ax_E xl xs) ax_cd ax_ml d) Q 50 [some (.ref 89), some (.int (nI p)), some (.int (I 92 (5 * p + z))), some (.int (nI g)), o4] [] (KS, j) 0 0 := by
        intro m
        induction m with
        | zero =>
          intro g o4 j hg h1 h2 h3 h4
          have : g = na := by omega
          subst this
          refine am_go (am_sp_mo _) (fun q => q == 11 || q == 50) 20 (fun X hX => ?_)
          conv => whnf
          try dsimp only
          rw [h2 13 (by decide), I89, hA.1]
          refine ⟨fun _ => ?_, fun hh => absurd (nI_le (Nat.le_refl _) (by omega)) hh⟩
          conv => whnf
          try dsimp only
          rw [e1]
          exact hX _ _ _ _ _ _ (ih (p + 1) _ _ _ j (by omega) h1 h2 h3 h4)
        | succ m ih2 =>
          intro g o4 j hg h1 h2 h3 h4
          have e2 : nI g + Int32.ofInt 1 = nI (g + 1) := by rw [li_1, nI_add]
          have hAj : MAK j na sp := by
            unfold MAK
            rw [h2 13 (by decide), I89, h1 101 (by decide) (by decide), fI 101 (by decide) (by decide) (by decide)]
            exact hA
          have hmx : mx (mgst j sp (nI g) (nI p) (I 92 (5 * p + z))) (fun a => msc (ch a)) na = mS I sp ch na p g := by
            unfold mS mgst mstk stk mhas
            rw [hvr, h1 106 (by decide) (by decide), h1 100 (by decide) (by decide), h1 105 (by decide) (by decide), h1 102 (by decide) (by decide), h1 103 (by decide) (by decide)]
          refine am_go (am_sp_mo _) (fun q => q == 50) 40 (fun X hX => ?_)
          conv => whnf
          try dsimp only
          rw [h2 13 (by decide), I89, hA.1]
          refine ⟨fun hh => absurd hh (nI_ge (by omega) (by omega)), fun _ => ?_⟩
          conv => whnf
          try dsimp only
          refine m_scoreThere (ch := ch) hAj (by rw [h1 105 (by decide) (by decide), fI 105 (by decide) (by decide) (by decide)]; exact hw) (by rw [h1 104 (by decide) (by decide), fI 104 (by decide) (by decide) (by decide)]; exact hch) (by omega) ?_
          conv => whnf
          try dsimp only
          rw [hmx]
          refine ⟨fun hs => ?_, fun hs => ?_⟩
          · have hT : mT I sp ch na p g = false := by unfold mT; rw [show decide (mS I sp ch na p g = -1) = true from decide_eq_true hs]; simp
            conv => whnf
            try dsimp only
            rw [e2]
            refine hX _ _ _ _ _ _ (ih2 (g + 1) _ j (by omega) h1 h2 ?_ ?_)
            · unfold hlg; rw [hT, if_neg (by decide), List.append_nil]; exact h3
            · unfold hlg; rw [hT, if_neg (by decide), List.append_nil]; exact h4
          have hT : mT I sp ch na p g = true := by unfold mT; rw [show decide (mS I sp ch na p g = -1) = false from decide_eq_false hs, show decide (I 93 p = -1) = false from decide_eq_false (by rw [ez]; exact nI_m1 (by omega))]; rfl
          have hlt := hb p g (by omega) (by omega) hT
          conv => whnf
          try dsimp only
          refine m_tell h3 hlt (by omega) (by omega) (by rw [h1 110 (by decide) (by decide)]; exact a4) (by omega) (fun j2 g1 g2 g3 g4 g5 g6 g7 g8 g9 => ?_)
          conv => whnf
          try dsimp only
          rw [e2]
          refine hX _ _ _ _ _ _ (ih2 (g + 1) _ j2 (by omega) (fun q q1 q2 => (g1 q q1 q2).trans (h1 q q1 q2)) (fun q hq => by rw [g2, if_neg hq]; exact h2 q hq) ?_ ?_)
          · unfold hlg
            rw [hT, if_pos rfl, ← List.append_assoc, List.length_append (bs := [(p, g)]), g2, if_pos rfl]
            rfl
          · unfold hlg
            rw [hT, if_pos rfl, ← List.append_assoc]
            refine h4.snoc (fun q hq w hw => ?_) (fun w hw => ?_)
            · show j2 108 (6 * q + w) = j 108 (6 * q + w)
              exact g3 _ (by omega)
            · show j2 108 (6 * _ + w) = _
              have cs : w = 0 ∨ w = 1 ∨ w = 2 ∨ w = 3 ∨ w = 4 ∨ w = 5 := by omega
              unfold mV hvl
              rcases cs with rfl | rfl | rfl | rfl | rfl | rfl
              · rw [Nat.add_zero, g4]; rfl
              · rw [g5]; rfl
              · rw [g6]; rfl
              · rw [g7, h1 109 (by decide) (by decide)]; rfl
              · rw [g8, h1 110 (by decide) (by decide)]; rfl
              · rw [g9, h2 0 (by decide), h1 107 (by decide) (by decide)]
                unfold mX
                by_cases e : I 89 0 < I 107 (6 * g + p)
                · rw [if_pos e, decide_eq_true e]; rfl
                · rw [if_neg e, decide_eq_false e]; rfl
      exact inl na 0 _ j (by omega) h1 h2 (by rw [hlg, List.append_nil]; exact h3) (by rw [hlg, List.append_nil]; exact h4)
  exact loop np 0 none none none _ (by omega) (fun q q1 q2 => up_a q2) (fun q hq => up_n (Or.inr hq)) (by rw [up_s]; rfl) (fun q hq => absurd hq (by show ¬ q < 0; omega))
end MHITS
end
section
/-! PLANS: the class's small methods -/
def kpt (o t : Nat → Int32) (B : Nat → Bool) (nn p : Nat) : Bool := !(bany (fun k => decide ((if o k < t k then t k else o k) = nI p) && B k) nn)
/-- no advisory strikes there, or only excepted ones -/
def cclr (i : Nat → Nat → Int32) (sp gr : Nat → Nat) (na p : Nat) (v : Int32) : Bool := !(bany (fun a => cstk i sp (nI p) v a && !(decide (i 0 8 < i (54 + gr a) p))) na)
def ndist (k z : Nat) : Nat := (k - z) + (z - k)
theorem abs_nI : ∀ k, k < 5 → ∀ z, z < 5 → (if 0 ≤ nI k - nI z then nI k - nI z else 0 - (nI k - nI z)) = nI (ndist k z) := by decide
section PLAN
variable {xl : Nat} {xs : Nat → Int32} {d : Nat} {i : Nat → Nat → Int32} {Q : am_Q} {u : am_St} {np nn na : Nat} {nv sp gr : Nat → Nat}
theorem k_areKept {a p : Nat} (ha : KS[a]? = some (0, 6, [])) (hN : NK i nn) (hd : 3 ≤ d) (h : ∀ b : Bool, b = kpt (i 14) (i 16) (cbrk i (i a)) nn p → Q (some (.int (if b = true then 1 else 0))) (KS, i)) : SP xl xs d Y_Needs_areKept [.ref 13, .int (nI p), .ref a] (KS, i) Q := by
  have hc := hN.1
  have hn := hN.2.1
  obtain ⟨d, rfl⟩ : ∃ q, d = q + 1 := ⟨d - 1, by omega⟩
  refine ⟨Nat.le_of_ble_eq_true rfl, am_go (am_sp_mo _) (fun q => q == 2) 30 (fun X hX => ?_)⟩
  conv => whnf
  try dsimp only
  refine hX _ _ _ _ _ _ ?_
  have loop : ∀ m k, k + m = nn → bany (fun k => decide ((if i 14 k < i 16 k then i 16 k else i 14 k) = nI p) && cbrk i (i a) k) k = false → am_wp (ax_E xl xs) (ax_cd Y_Needs_areKept) (am_sp (ax_E xl xs) ax_cd ax_ml d) Q 2 [some (.ref 13), some (.int (nI p)), some (.ref a), some (.int (nI k))] [] (KS, i) 0 0 := by
    intro m
    induction m with
    | zero =>
      intro k hk hno
      have : k = nn := by omega
      subst this
      refine am_go (am_sp_mo _) (fun q => q == 2) 30 (fun X hX => ?_)
      conv => whnf
      try dsimp only
      rw [hc]
      refine ⟨fun _ => ?_, fun hh => absurd (nI_le (Nat.le_refl _) (by omega)) hh⟩
      conv => whnf
      try dsimp only
      exact ⟨Or.inr rfl, h true (by unfold kpt; rw [hno]; rfl)⟩
    | succ m ih =>
      intro k hk hno
      have hcl : (nI k).toNatClampNeg = k := nI_clamp (by omega)
      have hin : vp_in (nI k) 16 := vp_in_nI (by omega) (by decide)
      have nx : (decide ((if i 14 k < i 16 k then i 16 k else i 14 k) = nI p) && cbrk i (i a) k) = false → am_wp (ax_E xl xs) (ax_cd Y_Needs_areKept) (am_sp (ax_E xl xs) ax_cd ax_ml d) Q 40 [some (.ref 13), some (.int (nI p)), some (.ref a), some (.int (nI k))] [] (KS, i) 0 0 := by
        intro e
        refine am_go (am_sp_mo _) (fun q => q == 2) 20 (fun X hX => ?_)
        conv => whnf
        try dsimp only
        rw [show nI k + Int32.ofInt 1 = nI (k + 1) by rw [li_1, nI_add]]
        exact hX _ _ _ _ _ _ (ih (k + 1) (by omega) (by rw [bany, hno, e]; rfl))
      refine am_go (am_sp_mo _) (fun q => q == 2 || q == 40) 40 (fun X hX => ?_)
      conv => whnf
      try dsimp only
      rw [hc]
      refine ⟨fun hh => absurd hh (nI_ge (by omega) (by omega)), fun _ => ?_⟩
      conv => whnf
      try dsimp only
      refine ⟨16, [], rfl, hin, ?_⟩
      conv => whnf
      try dsimp only
      refine ⟨16, [], rfl, hin, ?_⟩
      conv => whnf
      try dsimp only
      rw [hcl]
      refine ⟨fun hne => hX _ _ _ _ _ _ (nx (by rw [decide_eq_false hne]; rfl)), fun heq => ?_⟩
      conv => whnf
      try dsimp only
      refine k_nBroken ha hN (by omega) (by omega) (fun b hb => ?_)
      cases b with
      | false =>
        conv => whnf
        try dsimp only
        exact ⟨fun _ => hX _ _ _ _ _ _ (nx (by rw [← hb, Bool.and_false])), fun h => absurd rfl h⟩
      | true =>
        conv => whnf
        try dsimp only
        refine ⟨fun h => absurd h (by decide), fun _ => ?_⟩
        conv => whnf
        try dsimp only
        exact ⟨Or.inl rfl, h false (by unfold kpt; rw [bany_of (show k < nn by omega) (by show (decide ((if i 14 k < i 16 k then i 16 k else i 14 k) = nI p) && cbrk i (i a) k) = true; rw [decide_eq_true heq, ← hb]; rfl)]; rfl)⟩
  exact loop nn 0 (by omega) rfl
theorem k_markPlace {p k : Nat} {v : Int32} (hp : p < 6) (hk : k < 5) (hd : 2 ≤ d) (h : Q none (KS, am_up i 85 (5 * p + k) (vp_nar .boolean v))) : SP xl xs d Y_Planner_markPlace [.ref 84, .int (nI p), .int (nI k), .int v] (KS, i) Q := by
  have e5 : nI p * Int32.ofInt 5 + nI k = nI (5 * p + k) := by rw [li_5, pk_mul, nI_add, Nat.mul_comm]
  obtain ⟨d, rfl⟩ : ∃ q, d = q + 1 := ⟨d - 1, by omega⟩
  refine ⟨Nat.le_of_ble_eq_true rfl, am_go (am_sp_mo _) (fun _ => false) 40 (fun X hX => ?_)⟩
  conv => whnf
  try dsimp only
  refine k_below 6 (by decide) (by decide) (by omega) (fun p' _ hx => ?_) (fun hx => absurd rfl (out_np (by omega) hx hp))
  conv => whnf
  try dsimp only
  refine ⟨fun h => absurd h (by decide), fun _ => ?_⟩
  conv => whnf
  try dsimp only
  refine k_below 5 (by decide) (by decide) (by omega) (fun k' _ hx => ?_) (fun hx => absurd rfl (out_np (by omega) hx hk))
  conv => whnf
  try dsimp only
  refine ⟨fun h => absurd h (by decide), fun _ => ?_⟩
  conv => whnf
  try dsimp only
  rw [e5]
  refine ⟨30, [], rfl, vp_in_nI (by omega) (by decide), ?_⟩
  conv => whnf
  try dsimp only
  rw [nI_clamp (by omega)]
  exact h
theorem k_isClearPlace {p k : Nat} (hp : p < 6) (hk : k < 5) (hb : ∀ q, i 85 q = 0 ∨ i 85 q = 1) (hd : 2 ≤ d) (h : ∀ b : Bool, b = decide (i 85 (5 * p + k) = 1) → Q (some (.int (if b = true then 1 else 0))) (KS, i)) : SP xl xs d Y_Planner_isClearPlace [.ref 84, .int (nI p), .int (nI k)] (KS, i) Q := by
  have e5 : nI p * Int32.ofInt 5 + nI k = nI (5 * p + k) := by rw [li_5, pk_mul, nI_add, Nat.mul_comm]
  obtain ⟨d, rfl⟩ : ∃ q, d = q + 1 := ⟨d - 1, by omega⟩
  refine ⟨Nat.le_of_ble_eq_true rfl, am_go (am_sp_mo _) (fun _ => false) 40 (fun X hX => ?_)⟩
  conv => whnf
  try dsimp only
  refine k_below 6 (by decide) (by decide) (by omega) (fun p' _ hx => ?_) (fun hx => absurd rfl (out_np (by omega) hx hp))
  conv => whnf
  try dsimp only
  refine ⟨fun h => absurd h (by decide), fun _ => ?_⟩
  conv => whnf
  try dsimp only
  refine k_below 5 (by decide) (by decide) (by omega) (fun k' _ hx => ?_) (fun hx => absurd rfl (out_np (by omega) hx hk))
  conv => whnf
  try dsimp only
  refine ⟨fun h => absurd h (by decide), fun _ => ?_⟩
  conv => whnf
  try dsimp only
  rw [e5]
  refine ⟨30, [], rfl, vp_in_nI (by omega) (by decide), ?_⟩
  conv => whnf
  try dsimp only
  rw [nI_clamp (show 5 * p + k < 2 ^ 31 by omega)]
  rcases hb (5 * p + k) with e | e
  · rw [e] at h ⊢
    refine ⟨fun _ => ?_, fun h => absurd rfl h⟩
    conv => whnf
    try dsimp only
    exact ⟨Or.inl rfl, h false (by decide)⟩
  · rw [e] at h ⊢
    refine ⟨fun h => absurd h (by decide), fun _ => ?_⟩
    conv => whnf
    try dsimp only
    exact ⟨Or.inr rfl, h true (by decide)⟩
theorem k_costOf {z k : Nat} (hz : z < 5) (hk : k < 5) (hd : 1 ≤ d) (h : Q (some (.int (nI (if k = z then 0 else 30 + ndist k z)))) u) : SP xl xs d Y_Planner_costOf [.int (nI z), .int (nI k)] u Q := by
  obtain ⟨d, rfl⟩ : ∃ q, d = q + 1 := ⟨d - 1, by omega⟩
  refine ⟨Nat.le_of_ble_eq_true rfl, am_go (am_sp_mo _) (fun _ => false) 20 (fun X hX => ?_)⟩
  conv => whnf
  try dsimp only
  refine ⟨fun hne => ?_, fun heq => ?_⟩
  · conv => whnf
    try dsimp only
    rw [if_neg (fun e => hne (by rw [e]))] at h
    exact q_eq (show some (Value.int (Int32.ofInt 30 + (if 0 ≤ nI k - nI z then nI k - nI z else 0 - (nI k - nI z)))) = _ by rw [abs_nI k hk z hz, li_30, nI_add]) rfl h
  · conv => whnf
    try dsimp only
    rw [if_pos (nI_inj (by omega) (by omega) heq).symm] at h
    exact h
theorem k_keepTried {x : Int32} (hd : 1 ≤ d) (h : ∀ j : Nat → Nat → Int32, (∀ q, q ≠ 84 → q ≠ 88 → j q = i q) → (∀ q, j 84 q = if q = 6 then x else i 84 q) → (∀ p, p < 6 → j 88 p = i 86 p) → Q none (KS, j)) : SP xl xs d Y_Planner_keepTried [.ref 84, .int x] (KS, i) Q := by
  obtain ⟨d, rfl⟩ : ∃ q, d = q + 1 := ⟨d - 1, by omega⟩
  refine ⟨Nat.le_of_ble_eq_true rfl, am_go (am_sp_mo _) (fun _ => false) 20 (fun X hX => ?_)⟩
  conv => whnf
  try dsimp only
  refine ⟨rfl, 6, [], 6, [], rfl, rfl, by decide, by decide, by decide, by decide, by decide, ?_⟩
  conv => whnf
  try dsimp only
  refine h _ (fun q q1 q2 => ?_) (fun q => ?_) (fun p hp => ?_)
  · unfold am_cp
    rw [if_neg q2]
    exact up_a q1
  · show am_up i 84 6 x 84 q = _
    rw [up_at]
    by_cases e : q = 6
    · rw [if_pos ⟨rfl, e⟩, if_pos e]
    · rw [if_neg e, if_neg (fun z => e z.2)]
  · show va_cpy (am_up i 84 6 x 86) (am_up i 84 6 x 88) 0 0 6 p = _
    unfold va_cpy
    rw [if_pos (by omega), up_a (by decide), show 0 + (p - 0) = p by omega]
theorem k_isClear {p : Nat} {v : Int32} (hp : p < 6) (hA : AK i na sp) (hw : ∀ a, i 50 a = 0 ∨ i 50 a = 1) (hg : ∀ a, a < na → i 51 a = nI (gr a) ∧ gr a < 12) (hd : 4 ≤ d) (h : ∀ b : Bool, b = cclr i sp gr na p v → Q (some (.int (if b = true then 1 else 0))) (KS, i)) : SP xl xs d Y_AM_isClear [.ref 0, .int (nI p), .int v] (KS, i) Q := by
  have hc := hA.1
  have hn := hA.2.1
  obtain ⟨d, rfl⟩ : ∃ q, d = q + 1 := ⟨d - 1, by omega⟩
  refine ⟨Nat.le_of_ble_eq_true rfl, am_go (am_sp_mo _) (fun q => q == 2) 30 (fun X hX => ?_)⟩
  conv => whnf
  try dsimp only
  refine hX _ _ _ _ _ _ ?_
  have loop : ∀ m k, k + m = na → bany (fun a => cstk i sp (nI p) v a && !(decide (i 0 8 < i (54 + gr a) p))) k = false → am_wp (ax_E xl xs) (ax_cd Y_AM_isClear) (am_sp (ax_E xl xs) ax_cd ax_ml d) Q 2 [some (.ref 0), some (.int (nI p)), some (.int v), some (.int (nI k))] [] (KS, i) 0 0 := by
    intro m
    induction m with
    | zero =>
      intro k hk hno
      have : k = na := by omega
      subst this
      refine am_go (am_sp_mo _) (fun q => q == 2) 30 (fun X hX => ?_)
      conv => whnf
      try dsimp only
      refine k_Adv_count (by omega) ?_
      conv => whnf
      try dsimp only
      rw [hc]
      refine ⟨fun _ => ?_, fun hh => absurd (nI_le (Nat.le_refl _) (by omega)) hh⟩
      conv => whnf
      try dsimp only
      exact ⟨Or.inr rfl, h true (by unfold cclr; rw [hno]; rfl)⟩
    | succ m ih =>
      intro k hk hno
      have nx : (cstk i sp (nI p) v k && !(decide (i 0 8 < i (54 + gr k) p))) = false → am_wp (ax_E xl xs) (ax_cd Y_AM_isClear) (am_sp (ax_E xl xs) ax_cd ax_ml d) Q 51 [some (.ref 0), some (.int (nI p)), some (.int v), some (.int (nI k))] [] (KS, i) 0 0 := by
        intro e
        refine am_go (am_sp_mo _) (fun q => q == 2) 20 (fun X hX => ?_)
        conv => whnf
        try dsimp only
        rw [show nI k + Int32.ofInt 1 = nI (k + 1) by rw [li_1, nI_add]]
        exact hX _ _ _ _ _ _ (ih (k + 1) (by omega) (by rw [bany, hno, e]; rfl))
      refine am_go (am_sp_mo _) (fun q => q == 2 || q == 51) 40 (fun X hX => ?_)
      conv => whnf
      try dsimp only
      refine k_Adv_count (by omega) ?_
      conv => whnf
      try dsimp only
      rw [hc]
      refine ⟨fun hh => absurd hh (nI_ge (by omega) (by omega)), fun _ => ?_⟩
      conv => whnf
      try dsimp only
      refine k_strikes hA hw (by omega) (by omega) (fun b hb => ?_)
      cases b with
      | false =>
        conv => whnf
        try dsimp only
        exact ⟨fun _ => hX _ _ _ _ _ _ (nx (by rw [← hb]; rfl)), fun h => absurd rfl h⟩
      | true =>
        have hgk := hg k (by omega)
        conv => whnf
        try dsimp only
        refine ⟨fun h => absurd h (by decide), fun _ => ?_⟩
        conv => whnf
        try dsimp only
        refine k_groupOf hc hn (by omega) (fun k' _ hx => ?_) (fun hx => absurd rfl (out_np (by omega) hx (show k < na by omega)))
        have := nI_inj (by omega) (by omega) hx
        subst this
        conv => whnf
        try dsimp only
        rw [hgk.1]
        refine k_exHolds hgk.2 hp (by omega) (fun b2 hb2 => ?_)
        cases b2 with
        | false =>
          conv => whnf
          try dsimp only
          refine ⟨fun h => absurd rfl h, fun _ => ?_⟩
          conv => whnf
          try dsimp only
          exact ⟨Or.inl rfl, h false (by unfold cclr; rw [bany_of (show k < na by omega) (by show (cstk i sp (nI p) v k && !(decide (i 0 8 < i (54 + gr k) p))) = true; rw [← hb, ← hb2]; rfl)]; rfl)⟩
        | true =>
          conv => whnf
          try dsimp only
          exact ⟨fun _ => hX _ _ _ _ _ _ (nx (by rw [← hb, ← hb2]; rfl)), fun h => absurd h (by decide)⟩
  exact loop na 0 (by omega) rfl
theorem k_markPlacesOf {p : Nat} {I : Nat → Nat → Int32} (hf : ∀ q, q ≠ 85 → i q = I q) (hk : PK I np nv) (hp : p < np) (hA : AK I na sp) (hw : ∀ a, I 50 a = 0 ∨ I 50 a = 1) (hg : ∀ a, a < na → I 51 a = nI (gr a) ∧ gr a < 12) (hd : 5 ≤ d)
    (h : ∀ j : Nat → Nat → Int32, (∀ q, q ≠ 85 → j q = I q) → (∀ q, j 85 q = if 5 * p ≤ q ∧ q < 5 * p + nv p then (if cclr I sp gr na p (I (4 + p) (q - 5 * p)) = true then 1 else 0) else i 85 q) → Q none (KS, j)) : SP xl xs d Y_AM_markPlacesOf [.ref 0, .int (nI p)] (KS, i) Q := by
  have hn := hk.2.1
  have h5 := (hk.2.2 p (by omega)).2
  obtain ⟨d, rfl⟩ : ∃ q, d = q + 1 := ⟨d - 1, by omega⟩
  refine ⟨Nat.le_of_ble_eq_true rfl, am_go (am_sp_mo _) (fun q => q == 2) 30 (fun X hX => ?_)⟩
  conv => whnf
  try dsimp only
  refine hX _ _ _ _ _ _ ?_
  have loop : ∀ m k (j : Nat → Nat → Int32), k + m = nv p → (∀ q, q ≠ 85 → j q = I q) → (∀ q, j 85 q = if 5 * p ≤ q ∧ q < 5 * p + k then (if cclr I sp gr na p (I (4 + p) (q - 5 * p)) = true then 1 else 0) else i 85 q) → am_wp (ax_E xl xs) (ax_cd Y_AM_markPlacesOf) (am_sp (ax_E xl xs) ax_cd ax_ml d) Q 2 [some (.ref 0), some (.int (nI p)), some (.int (nI k))] [] (KS, j) 0 0 := by
    intro m
    induction m with
    | zero =>
      intro k j hkk h1 h2
      have : k = nv p := by omega
      subst this
      refine am_go (am_sp_mo _) (fun q => q == 2) 30 (fun X hX => ?_)
      conv => whnf
      try dsimp only
      refine k_countVersions (hk.fr (h1 1 (by decide)) (h1 10 (by decide))) (by omega) (fun p' hp' ep => ?_) (fun hx => absurd rfl (out_np (by omega) hx hp))
      have := nI_inj (by omega) (by omega) ep
      subst this
      conv => whnf
      try dsimp only
      refine ⟨fun _ => ?_, fun hh => absurd (nI_le (Nat.le_refl _) (by omega)) hh⟩
      conv => whnf
      try dsimp only
      exact h j h1 h2
    | succ m ih =>
      intro k j hkk h1 h2
      have hkj : PK j np nv := hk.fr (h1 1 (by decide)) (h1 10 (by decide))
      have hcl : cclr j sp gr na p (j (4 + p) k) = cclr I sp gr na p (I (4 + p) k) := by
        unfold cclr
        rw [h1 (4 + p) (by omega)]
        refine congrArg _ (bany_congr fun a ha => ?_)
        have hga := hg a ha
        have hna := hA.2.1
        unfold cstk stk chas
        rw [h1 21 (by decide), h1 50 (by decide), h1 (23 + a) (by omega), h1 (36 + a) (by omega), h1 0 (by decide), h1 (54 + gr a) (by omega)]
      refine am_go (am_sp_mo _) (fun q => q == 2) 40 (fun X hX => ?_)
      conv => whnf
      try dsimp only
      refine k_countVersions hkj (by omega) (fun p' hp' ep => ?_) (fun hx => absurd rfl (out_np (by omega) hx hp))
      have := nI_inj (by omega) (by omega) ep
      subst this
      conv => whnf
      try dsimp only
      refine ⟨fun hh => absurd hh (nI_ge (by omega) (by omega)), fun _ => ?_⟩
      conv => whnf
      try dsimp only
      refine k_versionAt hkj (by omega) (fun p2 k2 hp2 hk2 e1 e2 => ?_) (fun hno => absurd ⟨rfl, rfl⟩ (hno p k hp (by omega)))
      have := nI_inj (by omega) (by omega) e1
      subst this
      have := nI_inj (by omega) (by have := (hk.2.2 p (by omega)).2; omega) e2
      subst this
      conv => whnf
      try dsimp only
      refine k_isClear (by omega) (hA.fr (h1 20 (by decide)) (h1 48 (by decide))) (by rw [h1 50 (by decide)]; exact hw) (by rw [h1 51 (by decide)]; exact hg) (by omega) (fun b hb => ?_)
      rw [hcl] at hb
      conv => whnf
      try dsimp only
      refine k_markPlace (by omega) (by omega) (by omega) ?_
      conv => whnf
      try dsimp only
      rw [show nI k + Int32.ofInt 1 = nI (k + 1) by rw [li_1, nI_add]]
      refine hX _ _ _ _ _ _ (ih (k + 1) _ (by omega) (fun q hq => (up_a hq).trans (h1 q hq)) (fun q => ?_))
      have hval : vp_nar .boolean (if b = true then 1 else 0) = (if cclr I sp gr na p (I (4 + p) k) = true then 1 else 0) := by rw [← hb]; cases b <;> decide
      rw [hval, up_at, h2]
      by_cases e : q = 5 * p + k
      · rw [if_pos (show 85 = 85 ∧ q = 5 * p + k from ⟨rfl, e⟩), if_pos (show 5 * p ≤ q ∧ q < 5 * p + (k + 1) by omega), e, show 5 * p + k - 5 * p = k by omega]
      · rw [if_neg (fun z : 85 = 85 ∧ q = 5 * p + k => e z.2)]
        by_cases e2 : 5 * p ≤ q ∧ q < 5 * p + k
        · rw [if_pos e2, if_pos (show 5 * p ≤ q ∧ q < 5 * p + (k + 1) by omega)]
        · rw [if_neg e2, if_neg (show ¬ (5 * p ≤ q ∧ q < 5 * p + (k + 1)) by omega)]
  exact loop (nv p) 0 i (by omega) hf (fun q => by rw [if_neg (by omega)])
end PLAN
end
section
/-! PLANS: the search -/
def fset (f : Nat → Nat) (p k : Nat) : Nat → Nat := fun q => if q = p then k else f q
abbrev PSt : Type := Nat × (Nat → Nat)
def pst (V : (Nat → Nat) → Bool) (K : (Nat → Nat) → Nat) (s : PSt) (f : Nat → Nat) : PSt := if V f = true ∧ K f < s.1 then (K f, f) else s
def pfk (F : Nat → PSt → PSt) : Nat → PSt → PSt
  | 0, s => s
  | n + 1, s => F n (pfk F n s)
def pfo (V : (Nat → Nat) → Bool) (K : (Nat → Nat) → Nat) (c : Nat → Nat) : Nat → Nat → (Nat → Nat) → PSt → PSt
  | 0, _, f, s => pst V K s f
  | m + 1, p, f, s => pfk (fun k s => pfo V K c m (p + 1) (fset f p k) s) (c p) s
theorem fset_n {f : Nat → Nat} {p k q : Nat} (h : q ≠ p) : fset f p k q = f q := if_neg h
theorem fset_s (f : Nat → Nat) (p k : Nat) : fset f p k p = k := if_pos rfl
theorem pfk_skip {F : Nat → PSt → PSt} {s : PSt} : ∀ {n : Nat}, (∀ k, k < n → F k s = s) → pfk F n s = s
  | 0, _ => rfl
  | n + 1, h => by
    unfold pfk
    rw [pfk_skip (fun k hk => h k (by omega)), h n (by omega)]
theorem pfo_skip {V : (Nat → Nat) → Bool} {K : (Nat → Nat) → Nat} {c : Nat → Nat} : ∀ (m p : Nat) (f : Nat → Nat) (s : PSt), (∀ f' : Nat → Nat, (∀ q, q < p → f' q = f q) → V f' = false ∨ s.1 ≤ K f') → pfo V K c m p f s = s
  | 0, p, f, s, h => by
    unfold pfo pst
    rw [if_neg]
    intro ⟨h1, h2⟩
    rcases h f (fun _ _ => rfl) with z | z
    · rw [h1] at z; cases z
    · omega
  | m + 1, p, f, s, h => by
    unfold pfo
    exact pfk_skip fun k _ => pfo_skip m (p + 1) (fset f p k) s (fun f' hf' => h f' (fun q hq => by rw [hf' q (by omega), fset_n (by omega)]))
theorem pfk_congr {F G : Nat → PSt → PSt} {s : PSt} : ∀ {n : Nat}, (∀ k s, k < n → F k s = G k s) → pfk F n s = pfk G n s
  | 0, _ => rfl
  | n + 1, h => by
    unfold pfk
    rw [pfk_congr (fun k s hk => h k s (by omega)), h n _ (by omega)]
theorem pfo_congr {V V' : (Nat → Nat) → Bool} {K K' : (Nat → Nat) → Nat} {c c' : Nat → Nat} (hV : ∀ f : Nat → Nat, (∀ q, q < 6 → f q < c q) → V f = V' f) (hK : ∀ f : Nat → Nat, (∀ q, q < 6 → f q < c q) → K f = K' f) (hc : ∀ q, q < 6 → c q = c' q) : ∀ (m p : Nat) (f : Nat → Nat) (s : PSt), p + m = 6 → (∀ q, q < 6 → f q < c q) → pfo V K c m p f s = pfo V' K' c' m p f s
  | 0, p, f, s, _, hf => by
    unfold pfo pst
    rw [hV f hf, hK f hf]
  | m + 1, p, f, s, hp, hf => by
    unfold pfo
    rw [← hc p (by omega)]
    refine pfk_congr fun k s hk => ?_
    refine pfo_congr hV hK hc m (p + 1) (fset f p k) s (by omega) (fun q hq => ?_)
    by_cases e : q = p
    · rw [e, fset_s]; exact hk
    · rw [fset_n e]; exact hf q hq
def pins (pl : Nat → Int32) (np p : Nat) : Bool := decide (p < np) && !(decide (pl p = -1))
def pvv (ins : Nat → Bool) (p k : Nat) : Int32 := if ins p = true then nI k else -1
def vers (ins : Nat → Bool) (ver : Nat → Nat → Int32) (f : Nat → Nat) (p : Nat) : Int32 := if ins p = true then ver p (f p) else -1
def vld (ins : Nat → Bool) (ver : Nat → Nat → Int32) (clr : Nat → Nat → Bool) (B : (Nat → Int32) → Nat → Bool) (nn : Nat) (f : Nat → Nat) : Bool := !(bany (fun p => ins p && !(clr p (f p))) 6) && !(bany (B (vers ins ver f)) nn)
def kst (ins : Nat → Bool) (z : Nat → Nat) (p k : Nat) : Nat := if ins p = true then (if k = z p then 0 else 30 + ndist k (z p)) else 0
def kpre (ins : Nat → Bool) (z : Nat → Nat) (f : Nat → Nat) : Nat → Nat
  | 0 => 0
  | p + 1 => kpre ins z f p + kst ins z p (f p)
def pK (ins : Nat → Bool) (z : Nat → Nat) (f : Nat → Nat) : Nat := kpre ins z f 6
theorem kpre_congr {ins : Nat → Bool} {z f f' : Nat → Nat} : ∀ {p : Nat}, (∀ q, q < p → f q = f' q) → kpre ins z f p = kpre ins z f' p
  | 0, _ => rfl
  | p + 1, h => by
    unfold kpre
    rw [kpre_congr (fun q hq => h q (by omega)), h p (by omega)]
theorem kpre_le {ins : Nat → Bool} {z f : Nat → Nat} (p : Nat) : ∀ n, kpre ins z f p ≤ kpre ins z f (p + n)
  | 0 => Nat.le_refl _
  | n + 1 => by
    have := kpre_le (ins := ins) (z := z) (f := f) p n
    show _ ≤ kpre ins z f (p + n) + kst ins z (p + n) (f (p + n))
    omega
theorem kst_le {ins : Nat → Bool} {z : Nat → Nat} {p k : Nat} (hz : z p < 5) (hk : k < 5) : kst ins z p k ≤ 34 := by
  unfold kst ndist
  split
  · split <;> omega
  · omega
theorem kpre_bd {ins : Nat → Bool} {z f : Nat → Nat} : ∀ {p : Nat}, (∀ q, q < p → z q < 5 ∧ f q < 5) → kpre ins z f p ≤ 34 * p
  | 0, _ => Nat.le_refl _
  | p + 1, h => by
    have h1 := kpre_bd (ins := ins) (z := z) (f := f) (p := p) (fun q hq => h q (by omega))
    have h2 := kst_le (ins := ins) (h p (by omega)).1 (h p (by omega)).2
    unfold kpre
    omega
theorem vld_f1 {ins : Nat → Bool} {ver : Nat → Nat → Int32} {clr : Nat → Nat → Bool} {B : (Nat → Int32) → Nat → Bool} {nn : Nat} {f : Nat → Nat} {p : Nat} (hp : p < 6) (h1 : ins p = true) (h2 : clr p (f p) = false) : vld ins ver clr B nn f = false := by
  unfold vld
  rw [bany_of hp (by show (ins p && !(clr p (f p))) = true; rw [h1, h2]; rfl)]
  rfl
theorem vld_f2 {ins : Nat → Bool} {ver : Nat → Nat → Int32} {clr : Nat → Nat → Bool} {B : (Nat → Int32) → Nat → Bool} {o t : Nat → Int32} {nn : Nat} {f : Nat → Nat} {p : Nat} (h : kpt o t (B (vers ins ver f)) nn p = false) : vld ins ver clr B nn f = false := by
  unfold kpt at h
  rw [Bool.not_eq_false'] at h
  obtain ⟨k, hk, h⟩ := bany_iff.mp h
  rw [Bool.and_eq_true] at h
  unfold vld
  rw [bany_of hk h.2, Bool.not_true, Bool.and_false]
theorem vld_t {ins : Nat → Bool} {ver : Nat → Nat → Int32} {clr : Nat → Nat → Bool} {B : (Nat → Int32) → Nat → Bool} {o t : Nat → Int32} {nn : Nat} {f : Nat → Nat} (hN : NB o t nn) (h1 : ∀ p, p < 6 → ins p = true → clr p (f p) = true) (h2 : ∀ p, p < 6 → kpt o t (B (vers ins ver f)) nn p = true) : vld ins ver clr B nn f = true := by
  unfold vld
  have e1 : bany (fun p => ins p && !(clr p (f p))) 6 = false := by
    cases e : bany (fun p => ins p && !(clr p (f p))) 6 with
    | false => rfl
    | true =>
      obtain ⟨p, hp, h⟩ := bany_iff.mp e
      rw [Bool.and_eq_true] at h
      rw [h1 p hp h.1] at h
      cases h.2
  have e2 : bany (B (vers ins ver f)) nn = false := by
    cases e : bany (B (vers ins ver f)) nn with
    | false => rfl
    | true =>
      obtain ⟨k, hk, h⟩ := bany_iff.mp e
      obtain ⟨a, b, ha, hb, ea, eb⟩ := hN k hk
      have := h2 (max a b) (by omega)
      unfold kpt at this
      rw [bany_of hk (by show (decide ((if o k < t k then t k else o k) = nI (max a b)) && B (vers ins ver f) k) = true; rw [ea, eb, max_nI (by omega) (by omega), h, decide_eq_true rfl]; rfl)] at this
      cases this
  rw [e1, e2]
  rfl
theorem kpt_congr {o t : Nat → Int32} {B B' : Nat → Bool} {nn p : Nat} (hp : p < 6) (hN : NB o t nn) (h : ∀ k a b, k < nn → o k = nI a → t k = nI b → a ≤ p → b ≤ p → B k = B' k) : kpt o t B nn p = kpt o t B' nn p := by
  unfold kpt
  refine congrArg _ (bany_congr fun k hk => ?_)
  obtain ⟨a, b, ha, hb, ea, eb⟩ := hN k hk
  by_cases e : (if o k < t k then t k else o k) = nI p
  · have e' := e
    rw [ea, eb, max_nI (by omega) (by omega)] at e'
    have : max a b = p := nI_inj (by omega) (by omega) e'
    rw [h k a b hk ea eb (by omega) (by omega)]
  · rw [decide_eq_false e]
    rfl
theorem nbrk_at {o s t l h w w' : Nat → Int32} {k a b : Nat} (ha : a < 6) (hb : b < 6) (ea : o k = nI a) (eb : t k = nI b) (h1 : w a = w' a) (h2 : w b = w' b) : nbrk o s t l h w k = nbrk o s t l h w' k := by
  unfold nbrk nact nhld
  rw [ea, eb, nI_clamp (by omega), nI_clamp (by omega), h1, h2]
theorem vers_congr {ins : Nat → Bool} {ver : Nat → Nat → Int32} {f f' : Nat → Nat} {p : Nat} (h : f p = f' p) : vers ins ver f p = vers ins ver f' p := by
  unfold vers
  rw [h]
end
section
/-! PLANS: the class's search -/
abbrev cins (I : Nat → Nat → Int32) (np : Nat) : Nat → Bool := pins (I 11) np
abbrev cver (I : Nat → Nat → Int32) (p k : Nat) : Int32 := I (4 + p) k
abbrev ccl (I : Nat → Nat → Int32) (p k : Nat) : Bool := decide (I 85 (5 * p + k) = 1)
abbrev cB (I : Nat → Nat → Int32) (w : Nat → Int32) : Nat → Bool := nbrk (I 14) (I 15) (I 16) (I 17) (I 18) w
def cc (I : Nat → Nat → Int32) (np : Nat) (nv : Nat → Nat) (p : Nat) : Nat := if cins I np p = true then nv p else 1
abbrev cVd (I : Nat → Nat → Int32) (np nn : Nat) : (Nat → Nat) → Bool := vld (cins I np) (cver I) (ccl I) (cB I) nn
abbrev cfo (I : Nat → Nat → Int32) (np nn : Nat) (nv z : Nat → Nat) : Nat → Nat → (Nat → Nat) → PSt → PSt := pfo (cVd I np nn) (pK (cins I np) z) (cc I np nv)
def cFr (I j : Nat → Nat → Int32) : Prop := (∀ q, q ≠ 84 → q ≠ 86 → q ≠ 87 → q ≠ 88 → j q = I q) ∧ ∀ q, q ≠ 6 → j 84 q = I 84 q
def LST (I : Nat → Nat → Int32) (ins : Nat → Bool) (j : Nat → Nat → Int32) (s : PSt) : Prop := j 84 6 = nI s.1 ∧ s.1 ≤ 210 ∧ (s.1 < 210 → ∀ q, q < 6 → j 88 q = pvv ins q (s.2 q)) ∧ (s.1 = 210 → j 88 = I 88)
def TRD (ins : Nat → Bool) (ver : Nat → Nat → Int32) (f : Nat → Nat) (p : Nat) (j : Nat → Nat → Int32) : Prop := ∀ q, q < p → j 86 q = pvv ins q (f q) ∧ j 87 q = vers ins ver f q
def OKP (I : Nat → Nat → Int32) (np nn : Nat) (f : Nat → Nat) (p : Nat) : Prop := ∀ q, q < p → f q < 5 ∧ (cins I np q = true → ccl I q (f q) = true) ∧ kpt (I 14) (I 16) (cB I (vers (cins I np) (cver I) f)) nn q = true
theorem kpt_vers {I : Nat → Nat → Int32} {nn p : Nat} {w w' : Nat → Int32} (hp : p < 6) (hN : NK I nn) (h : ∀ q, q ≤ p → w q = w' q) : kpt (I 14) (I 16) (cB I w) nn p = kpt (I 14) (I 16) (cB I w') nn p :=
  kpt_congr hp hN.2.2 fun k a b _ ea eb ha hb => nbrk_at (by omega) (by omega) ea eb (h a ha) (h b hb)
theorem pins_of {pl : Nat → Int32} {np p : Nat} (h : pins pl np p = true) : p < np ∧ ¬ pl p = -1 := by
  unfold pins at h
  rw [Bool.and_eq_true] at h
  exact ⟨of_decide_eq_true h.1, fun e => by rw [decide_eq_true e] at h; cases h.2⟩
theorem pins_no {pl : Nat → Int32} {np p : Nat} (h : pins pl np p = false) (hp : p < np) : pl p = -1 := by
  unfold pins at h
  rw [decide_eq_true hp, Bool.true_and, Bool.not_eq_false'] at h
  exact of_decide_eq_true h
section SEARCH
variable {xl : Nat} {xs : Nat → Int32} {I : Nat → Nat → Int32} {np nn : Nat} {nv z : Nat → Nat}
theorem k_choose (hk : PK I np nv) (hN : NK I nn) (hpl : ∀ p, p < np → I 11 p = -1 ∨ (z p < nv p ∧ I 11 p = nI (z p))) (hz : ∀ p, z p < 5) (h85 : ∀ q, I 85 q = 0 ∨ I 85 q = 1) : ∀ (m p : Nat), p + m = 6 → ∀ (f : Nat → Nat) (s : PSt) (j : Nat → Nat → Int32) (Q : am_Q) (d : Nat), 2 * m + 6 ≤ d → cFr I j → LST I (cins I np) j s → TRD (cins I np) (cver I) f p j → OKP I np nn f p → (∀ j' : Nat → Nat → Int32, cFr I j' → LST I (cins I np) j' (cfo I np nn nv z m p f s) → (∀ q, q < p → j' 86 q = j 86 q ∧ j' 87 q = j 87 q) → Q none (KS, j')) → SP xl xs d Y_Planner_choose [.ref 84, .int (nI p), .int (nI (kpre (cins I np) z f p))] (KS, j) Q := by
  have hn := hk.2.1
  intro m
  induction m with
  | zero =>
    intro p hp f s j Q d hd hF hL hT hO h
    have : p = 6 := by omega
    subst this
    have hbd : kpre (cins I np) z f 6 ≤ 34 * 6 := kpre_bd (fun q hq => ⟨hz q, (hO q hq).1⟩)
    have h210 := hL.2.1
    obtain ⟨d, rfl⟩ : ∃ q, d = q + 1 := ⟨d - 1, by omega⟩
    refine ⟨Nat.le_of_ble_eq_true rfl, am_go (am_sp_mo _) (fun _ => false) 30 (fun X hX => ?_)⟩
    conv => whnf
    try dsimp only
    rw [hL.1]
    refine ⟨fun hlt => ?_, fun hge => ?_⟩
    · have hlt' : kpre (cins I np) z f 6 < s.1 := by
        rw [Int32.lt_iff_toInt_lt, nI_toInt (by omega), nI_toInt (by omega)] at hlt
        omega
      conv => whnf
      try dsimp only
      refine k_below 6 (by decide) (by decide) (by omega) (fun k hk' e => absurd (nI_inj (by omega) (by omega) e) (by omega)) (fun _ => ?_)
      conv => whnf
      try dsimp only
      refine ⟨fun h => absurd rfl h, fun _ => ?_⟩
      conv => whnf
      try dsimp only
      refine k_keepTried (by omega) (fun j' g1 g2 g3 => ?_)
      conv => whnf
      try dsimp only
      have hv : cVd I np nn f = true := vld_t hN.2.2 (fun p hp => (hO p hp).2.1) (fun p hp => (hO p hp).2.2)
      have hfo : cfo I np nn nv z 0 6 f s = (kpre (cins I np) z f 6, f) := by
        show pst _ _ s f = _
        unfold pst
        exact if_pos ⟨hv, hlt'⟩
      refine h j' ⟨fun q q1 q2 q3 q4 => (g1 q q1 q4).trans (hF.1 q q1 q2 q3 q4), fun q hq => by rw [g2, if_neg hq]; exact hF.2 q hq⟩ ?_ (fun q hq => by rw [g1 86 (by decide) (by decide), g1 87 (by decide) (by decide)]; exact ⟨rfl, rfl⟩)
      rw [hfo]
      exact ⟨by rw [g2, if_pos rfl], (show kpre (cins I np) z f 6 ≤ 210 by omega), fun _ q hq => by rw [g3 q hq]; exact (hT q hq).1, fun e => absurd (show kpre (cins I np) z f 6 = 210 from e) (by omega)⟩
    · conv => whnf
      try dsimp only
      have hfo : cfo I np nn nv z 0 6 f s = s := pfo_skip 0 6 f s (fun f' hf' => Or.inr (by
        have e : kpre (cins I np) z f' 6 = kpre (cins I np) z f 6 := kpre_congr hf'
        show s.1 ≤ kpre (cins I np) z f' 6
        rw [e]
        rcases Nat.lt_or_ge (kpre (cins I np) z f 6) s.1 with q | q
        · exact absurd (nI_lt q (by omega)) hge
        · exact q))
      exact h j hF (by rw [hfo]; exact hL) (fun _ _ => ⟨rfl, rfl⟩)
  | succ m ih =>
    intro p hp f s j Q d hd hF hL hT hO h
    have hbd : kpre (cins I np) z f p ≤ 34 * p := kpre_bd (fun q hq => ⟨hz q, (hO q hq).1⟩)
    have h210 := hL.2.1
    have hpk := (hk.2.2 p (by omega))
    have settle : ∀ (k : Nat) (s : PSt) (j : Nat → Nat → Int32) (Q : am_Q) (d : Nat), 2 * m + 7 ≤ d → k < cc I np nv p → (cins I np p = true → ccl I p k = true) → cFr I j → LST I (cins I np) j s → TRD (cins I np) (cver I) f p j → (∀ j' : Nat → Nat → Int32, cFr I j' → LST I (cins I np) j' (cfo I np nn nv z m (p + 1) (fset f p k) s) → (∀ q, q < p → j' 86 q = j 86 q ∧ j' 87 q = j 87 q) → Q none (KS, j')) → ∀ pv cost : Int32, pv = pvv (cins I np) p k → cost = nI (kpre (cins I np) z (fset f p k) (p + 1)) → SP xl xs d Y_Planner_settle [.ref 84, .int (nI p), .int pv, .int cost] (KS, j) Q := by
      intro k s j Q d hd hkc hkl hF hL hT h pv cost epv ecost
      subst epv
      subst ecost
      have hk5 : k < 5 := by
        unfold cc at hkc
        split at hkc <;> omega
      have hkj : PK j np nv := hk.fr (hF.1 1 (by decide) (by decide) (by decide) (by decide)) (hF.1 10 (by decide) (by decide) (by decide) (by decide))
      have hkm : ∀ x : Int32, PK (am_up j 86 p x) np nv := fun x => hkj.fr (up_a (by decide)) (up_a (by decide))
      obtain ⟨d, rfl⟩ : ∃ q, d = q + 1 := ⟨d - 1, by omega⟩
      refine ⟨Nat.le_of_ble_eq_true rfl, am_go (am_sp_mo _) (fun q => q == 31) 40 (fun X hX => ?_)⟩
      conv => whnf
      try dsimp only
      refine k_below 6 (by decide) (by decide) (by omega) (fun _ _ _ => ?_) (fun hx => absurd rfl (out_np (by omega) hx (show p < 6 by omega)))
      conv => whnf
      try dsimp only
      refine ⟨fun _ => ?_, fun h => absurd h (by decide)⟩
      conv => whnf
      try dsimp only
      refine ⟨6, [], rfl, vp_in_nI (by omega) (by decide), ?_⟩
      conv => whnf
      try dsimp only
      rw [nI_clamp (show p < 2 ^ 31 by omega)]
      have go : am_wp (ax_E xl xs) (ax_cd Y_Planner_settle) (am_sp (ax_E xl xs) ax_cd ax_ml d) Q 31 [some (.ref 84), some (.int (nI p)), some (.int (pvv (cins I np) p k)), some (.int (nI (kpre (cins I np) z (fset f p k) (p + 1))))] [.int (vers (cins I np) (cver I) (fset f p k) p), .int (nI p), .ref 87] (KS, am_up j 86 p (pvv (cins I np) p k)) 0 0 := by
        generalize hJ : am_up (am_up j 86 p (pvv (cins I np) p k)) 87 p (vers (cins I np) (cver I) (fset f p k) p) = J
        have J0 : ∀ q, q ≠ 86 → q ≠ 87 → J q = j q := fun q q1 q2 => by rw [← hJ, up_a q2, up_a q1]
        have hFJ : cFr I J := ⟨fun q q1 q2 q3 q4 => (J0 q q2 q3).trans (hF.1 q q1 q2 q3 q4), fun q hq => by rw [J0 84 (by decide) (by decide)]; exact hF.2 q hq⟩
        have hLJ : LST I (cins I np) J s := by unfold LST; rw [J0 84 (by decide) (by decide), J0 88 (by decide) (by decide)]; exact hL
        have hTJ : TRD (cins I np) (cver I) (fset f p k) (p + 1) J := by
          intro q hq
          rw [← hJ, up_a (show 86 ≠ 87 by decide), up_at, up_at, up_a (show 87 ≠ 86 by decide)]
          by_cases e : q = p
          · rw [if_pos ⟨rfl, e⟩, if_pos ⟨rfl, e⟩, e, fset_s]
            exact ⟨rfl, rfl⟩
          · rw [if_neg (fun z => e z.2), if_neg (fun z => e z.2), fset_n e, vers_congr (fset_n e)]
            exact hT q (by omega)
        have J86 : ∀ q, q < p → J 86 q = j 86 q ∧ J 87 q = j 87 q := fun q hq => by
          rw [← hJ, up_a (show 86 ≠ 87 by decide), up_at, up_at, up_a (show 87 ≠ 86 by decide), if_neg (by omega), if_neg (by omega)]
          exact ⟨rfl, rfl⟩
        have hNJ : NK J nn := by
          unfold NK
          rw [hFJ.1 13 (by decide) (by decide) (by decide) (by decide), hFJ.1 14 (by decide) (by decide) (by decide) (by decide), hFJ.1 16 (by decide) (by decide) (by decide) (by decide)]
          exact hN
        refine am_go (am_sp_mo _) (fun _ => false) 30 (fun X hX => ?_)
        conv => whnf
        try dsimp only
        refine ⟨6, [], rfl, vp_in_nI (by omega) (by decide), ?_⟩
        conv => whnf
        try dsimp only
        rw [nI_clamp (show p < 2 ^ 31 by omega), hJ]
        refine k_areKept rfl hNJ (by omega) (fun b hb => ?_)
        have hb' : b = kpt (I 14) (I 16) (cB I (vers (cins I np) (cver I) (fset f p k))) nn p := by
          rw [hb]
          unfold cbrk
          rw [hFJ.1 14 (by decide) (by decide) (by decide) (by decide), hFJ.1 15 (by decide) (by decide) (by decide) (by decide), hFJ.1 16 (by decide) (by decide) (by decide) (by decide), hFJ.1 17 (by decide) (by decide) (by decide) (by decide), hFJ.1 18 (by decide) (by decide) (by decide) (by decide)]
          exact kpt_vers (by omega) hN (fun q hq => (hTJ q (by omega)).2)
        cases b with
        | false =>
          conv => whnf
          try dsimp only
          refine ⟨fun _ => ?_, fun h => absurd rfl h⟩
          conv => whnf
          try dsimp only
          have hfo : cfo I np nn nv z m (p + 1) (fset f p k) s = s := pfo_skip m (p + 1) (fset f p k) s (fun f' hf' => Or.inl (vld_f2 (o := I 14) (t := I 16) (p := p) (by
            rw [hb']
            exact kpt_vers (by omega) hN (fun q hq => vers_congr (hf' q (by omega))))))
          exact h J hFJ (by rw [hfo]; exact hLJ) J86
        | true =>
          conv => whnf
          try dsimp only
          refine ⟨fun h => absurd h (by decide), fun _ => ?_⟩
          conv => whnf
          try dsimp only
          rw [show nI p + Int32.ofInt 1 = nI (p + 1) by rw [li_1, nI_add]]
          refine ih (p + 1) (by omega) (fset f p k) s J _ d (by omega) hFJ hLJ hTJ (fun q hq => ?_) (fun j' g1 g2 g3 => ?_)
          · by_cases e : q = p
            · subst e
              rw [fset_s]
              exact ⟨hk5, hkl, hb'.symm⟩
            · rw [fset_n e]
              obtain ⟨o1, o2, o3⟩ := hO q (by omega)
              refine ⟨o1, o2, ?_⟩
              rw [← o3]
              exact kpt_vers (by omega) hN (fun q' hq' => vers_congr (fset_n (by omega)))
          · conv => whnf
            try dsimp only
            exact h j' g1 g2 (fun q hq => by rw [(g3 q (by omega)).1, (g3 q (by omega)).2]; exact J86 q hq)
      cases hi : cins I np p with
      | true =>
        obtain ⟨hpn, hne⟩ := pins_of hi
        have hkv : k < nv p := by unfold cc at hkc; rw [if_pos hi] at hkc; exact hkc
        have e1 : pvv (cins I np) p k = nI k := if_pos hi
        have e2 : vers (cins I np) (cver I) (fset f p k) p = I (4 + p) k := by unfold vers; rw [if_pos hi, fset_s]
        rw [e1, e2] at go
        rw [e1]
        refine k_versionAt (hkm _) (by omega) (fun p2 k2 hp2 hk2 q1 q2 => ?_) (fun hno => absurd ⟨rfl, rfl⟩ (hno p k hpn hkv))
        have := nI_inj (by omega) (by omega) q1
        subst this
        have := nI_inj (by omega) (by have := hpk.2; omega) q2
        subst this
        conv => whnf
        try dsimp only
        rw [up_a (show 4 + p ≠ 86 by omega), hF.1 (4 + p) (by omega) (by omega) (by omega) (by omega)]
        exact hX _ _ _ _ _ _ go
      | false =>
        have e1 : pvv (cins I np) p k = -1 := if_neg (by rw [hi]; decide)
        have e2 : vers (cins I np) (cver I) (fset f p k) p = -1 := if_neg (by rw [hi]; decide)
        rw [e1, e2] at go
        rw [e1]
        refine k_versionAt (hkm _) (by omega) (fun p2 k2 hp2 hk2 q1 q2 => absurd q2.symm (nI_m1 (by have := (hk.2.2 p2 (by omega)).2; omega))) (fun hno => ?_)
        conv => whnf
        try dsimp only
        exact hX _ _ _ _ _ _ go
    obtain ⟨d, rfl⟩ : ∃ q, d = q + 1 := ⟨d - 1, by omega⟩
    refine ⟨Nat.le_of_ble_eq_true rfl, am_go (am_sp_mo _) (fun q => q == 49) 40 (fun X hX => ?_)⟩
    conv => whnf
    try dsimp only
    rw [hL.1]
    refine ⟨fun hlt => ?_, fun hge => ?_⟩
    rotate_left
    · conv => whnf
      try dsimp only
      have hfo : cfo I np nn nv z (m + 1) p f s = s := pfo_skip (m + 1) p f s (fun f' hf' => Or.inr (by
        have e : kpre (cins I np) z f' p = kpre (cins I np) z f p := kpre_congr hf'
        have e2 := kpre_le (ins := cins I np) (z := z) (f := f') p (m + 1)
        rw [hp] at e2
        show s.1 ≤ kpre (cins I np) z f' 6
        rcases Nat.lt_or_ge (kpre (cins I np) z f p) s.1 with q | q
        · exact absurd (nI_lt q (by omega)) hge
        · omega))
      exact h j hF (by rw [hfo]; exact hL) (fun _ _ => ⟨rfl, rfl⟩)
    have hkj : PK j np nv := hk.fr (hF.1 1 (by decide) (by decide) (by decide) (by decide)) (hF.1 10 (by decide) (by decide) (by decide) (by decide))
    conv => whnf
    try dsimp only
    refine k_below 6 (by decide) (by decide) (by omega) (fun _ _ _ => ?_) (fun hx => absurd rfl (out_np (by omega) hx (show p < 6 by omega)))
    conv => whnf
    try dsimp only
    refine ⟨fun _ => ?_, fun h => absurd h (by decide)⟩
    have noin : cins I np p = false → ∀ (j' : Nat → Nat → Int32), cFr I j' → LST I (cins I np) j' (cfo I np nn nv z m (p + 1) (fset f p 0) s) → (∀ q, q < p → j' 86 q = j 86 q ∧ j' 87 q = j 87 q) → Q none (KS, j') := fun hi j' g1 g2 g3 => h j' g1 (by
      have e : cfo I np nn nv z (m + 1) p f s = cfo I np nn nv z m (p + 1) (fset f p 0) s := by
        show pfk _ (cc I np nv p) s = _
        unfold cc
        rw [hi]
        rfl
      rw [e]; exact g2) g3
    have k0 : cins I np p = false → kpre (cins I np) z (fset f p 0) (p + 1) = kpre (cins I np) z f p := fun hi => by
      show kpre (cins I np) z (fset f p 0) p + kst (cins I np) z p (fset f p 0 p) = _
      rw [kpre_congr (f' := f) (fun q hq => fset_n (by omega)), kst, hi, if_neg (by decide)]
      rfl
    conv => whnf
    try dsimp only
    refine k_placeOf hkj (by omega) (fun p' hp' ep => ?_) (fun hout => ?_)
    rotate_left
    · have hi : cins I np p = false := by
        cases e : cins I np p with
        | false => rfl
        | true => exact absurd rfl (out_np (by omega) hout (pins_of e).1)
      conv => whnf
      try dsimp only
      refine ⟨fun h => absurd (by decide) h, fun _ => ?_⟩
      conv => whnf
      try dsimp only
      refine settle 0 s j _ d (by omega) (by unfold cc; rw [hi, if_neg (by decide)]; omega) (fun e => by rw [hi] at e; cases e) hF hL hT (fun j' g1 g2 g3 => ?_) _ _ (by rw [li_m1]; exact (if_neg (by rw [hi]; decide)).symm) (by rw [k0 hi])
      conv => whnf
      try dsimp only
      exact noin hi j' g1 g2 g3
    have := nI_inj (by omega) (by omega) ep
    subst this
    conv => whnf
    try dsimp only
    rw [hF.1 11 (by decide) (by decide) (by decide) (by decide)]
    rcases hpl p hp' with hm1 | ⟨hzv, hze⟩
    · have hi : cins I np p = false := by
        show pins (I 11) np p = false
        unfold pins
        rw [decide_eq_true hm1]
        simp
      rw [hm1]
      refine ⟨fun h => absurd (by decide) h, fun _ => ?_⟩
      conv => whnf
      try dsimp only
      refine settle 0 s j _ d (by omega) (by unfold cc; rw [hi, if_neg (by decide)]; omega) (fun e => by rw [hi] at e; cases e) hF hL hT (fun j' g1 g2 g3 => ?_) _ _ (by rw [li_m1]; exact (if_neg (by rw [hi]; decide)).symm) (by rw [k0 hi])
      conv => whnf
      try dsimp only
      exact noin hi j' g1 g2 g3
    have hi : cins I np p = true := by
      show pins (I 11) np p = true
      unfold pins
      rw [decide_eq_true hp', hze, decide_eq_false (nI_m1 (by have := hz p; omega))]
      rfl
    have hcc : cc I np nv p = nv p := by unfold cc; rw [if_pos hi]
    have hz5 := hz p
    have hkp : ∀ k, nI (kpre (cins I np) z f p) + nI (if k = z p then 0 else 30 + ndist k (z p)) = nI (kpre (cins I np) z (fset f p k) (p + 1)) := fun k => by
      show _ = nI (kpre (cins I np) z (fset f p k) p + kst (cins I np) z p (fset f p k p))
      rw [nI_add, kpre_congr (f' := f) (fun q hq => fset_n (by omega)), fset_s, kst, if_pos hi]
    rw [hze]
    refine ⟨fun _ => ?_, fun e => absurd e (by rw [li_m1]; exact nI_m1 (by omega))⟩
    conv => whnf
    try dsimp only
    refine hX _ _ _ _ _ _ ?_
    have loop : ∀ n k (j' : Nat → Nat → Int32), k + n = nv p → cFr I j' → LST I (cins I np) j' (pfk (fun k s => cfo I np nn nv z m (p + 1) (fset f p k) s) k s) → (∀ q, q < p → j' 86 q = j 86 q ∧ j' 87 q = j 87 q) → am_wp (ax_E xl xs) (ax_cd Y_Planner_choose) (am_sp (ax_E xl xs) ax_cd ax_ml d) Q 49 [some (.ref 84), some (.int (nI p)), some (.int (nI (kpre (cins I np) z f p))), some (.int (nI (z p))), some (.int (nI k))] [] (KS, j') 0 0 := by
      intro n
      induction n with
      | zero =>
        intro k j' hkn g1 g2 g3
        have : k = nv p := by omega
        subst this
        have hkj' : PK j' np nv := hk.fr (g1.1 1 (by decide) (by decide) (by decide) (by decide)) (g1.1 10 (by decide) (by decide) (by decide) (by decide))
        refine am_go (am_sp_mo _) (fun q => q == 49) 30 (fun X hX => ?_)
        conv => whnf
        try dsimp only
        refine k_countVersions hkj' (by omega) (fun p2 hp2 ep2 => ?_) (fun hx => absurd rfl (out_np (by omega) hx hp'))
        have := nI_inj (by omega) (by omega) ep2
        subst this
        conv => whnf
        try dsimp only
        refine ⟨fun _ => ?_, fun hh => absurd (nI_le (Nat.le_refl _) (by omega)) hh⟩
        conv => whnf
        try dsimp only
        refine h j' g1 ?_ g3
        show LST I (cins I np) j' (pfk _ (cc I np nv p) s)
        rw [hcc]
        exact g2
      | succ n ihn =>
        intro k j' hkn g1 g2 g3
        have hkj' : PK j' np nv := hk.fr (g1.1 1 (by decide) (by decide) (by decide) (by decide)) (g1.1 10 (by decide) (by decide) (by decide) (by decide))
        have e1 : nI k + Int32.ofInt 1 = nI (k + 1) := by rw [li_1, nI_add]
        refine am_go (am_sp_mo _) (fun q => q == 49) 40 (fun X hX => ?_)
        conv => whnf
        try dsimp only
        refine k_countVersions hkj' (by omega) (fun p2 hp2 ep2 => ?_) (fun hx => absurd rfl (out_np (by omega) hx hp'))
        have := nI_inj (by omega) (by omega) ep2
        subst this
        conv => whnf
        try dsimp only
        refine ⟨fun hh => absurd hh (nI_ge (by omega) (by omega)), fun _ => ?_⟩
        conv => whnf
        try dsimp only
        refine k_isClearPlace (by omega) (by omega) (by rw [g1.1 85 (by decide) (by decide) (by decide) (by decide)]; exact h85) (by omega) (fun b hb => ?_)
        rw [g1.1 85 (by decide) (by decide) (by decide) (by decide)] at hb
        cases b with
        | false =>
          conv => whnf
          try dsimp only
          refine ⟨fun _ => ?_, fun h => absurd rfl h⟩
          conv => whnf
          try dsimp only
          rw [e1]
          refine hX _ _ _ _ _ _ (ihn (k + 1) j' (by omega) g1 ?_ g3)
          have hsk : ∀ s' : PSt, cfo I np nn nv z m (p + 1) (fset f p k) s' = s' := fun s' => pfo_skip m (p + 1) (fset f p k) s' (fun f' hf' => Or.inl (vld_f1 (p := p) (by omega) hi (by rw [hf' p (by omega), fset_s]; exact hb.symm)))
          show LST I (cins I np) j' (cfo I np nn nv z m (p + 1) (fset f p k) (pfk _ k s))
          rw [hsk]
          exact g2
        | true =>
          conv => whnf
          try dsimp only
          refine ⟨fun h => absurd h (by decide), fun _ => ?_⟩
          conv => whnf
          try dsimp only
          refine k_costOf hz5 (by omega) (by omega) ?_
          conv => whnf
          try dsimp only
          refine settle k _ j' _ d (by omega) (by rw [hcc]; omega) (fun _ => hb.symm) g1 g2 (fun q hq => by rw [(g3 q hq).1, (g3 q hq).2]; exact hT q hq) (fun j2 k1 k2 k3 => ?_) _ _ (if_pos hi).symm (hkp k)
          conv => whnf
          try dsimp only
          rw [e1]
          exact hX _ _ _ _ _ _ (ihn (k + 1) j2 (by omega) k1 k2 (fun q hq => by rw [(k3 q hq).1, (k3 q hq).2]; exact g3 q hq))
    exact loop (nv p) 0 j (by omega) hF hL (fun _ _ => ⟨rfl, rfl⟩)
theorem k_search {i : Nat → Nat → Int32} {Q : am_Q} {d : Nat} (hk : PK i np nv) (hN : NK i nn) (hpl : ∀ p, p < np → i 11 p = -1 ∨ (z p < nv p ∧ i 11 p = nI (z p))) (hz : ∀ p, z p < 5) (h85 : ∀ q, i 85 q = 0 ∨ i 85 q = 1) (hd : 20 ≤ d)
    (h1 : (cfo i np nn nv z 6 0 (fun _ => 0) (210, fun _ => 0)).1 < 210 → ∀ j : Nat → Nat → Int32, (∀ q, q ≠ 84 → q ≠ 86 → q ≠ 87 → q ≠ 88 → j q = i q) → j 84 7 = 1 → (∀ q, q < 6 → j 88 q = pvv (cins i np) q ((cfo i np nn nv z 6 0 (fun _ => 0) (210, fun _ => 0)).2 q)) → Q (some (.int (nI ((cfo i np nn nv z 6 0 (fun _ => 0) (210, fun _ => 0)).1 / 30)))) (KS, j))
    (h0 : (cfo i np nn nv z 6 0 (fun _ => 0) (210, fun _ => 0)).1 = 210 → ∀ j : Nat → Nat → Int32, (∀ q, q ≠ 84 → q ≠ 86 → q ≠ 87 → q ≠ 88 → j q = i q) → j 84 7 = i 84 7 → j 88 = i 88 → Q (some (.int (-1))) (KS, j)) : SP xl xs d Y_Planner_search [.ref 84] (KS, i) Q := by
  obtain ⟨d, rfl⟩ : ∃ q, d = q + 1 := ⟨d - 1, by omega⟩
  refine ⟨Nat.le_of_ble_eq_true rfl, am_go (am_sp_mo _) (fun _ => false) 30 (fun X hX => ?_)⟩
  conv => whnf
  try dsimp only
  have hc := k_choose (xl := xl) (xs := xs) (I := i) hk hN hpl hz h85 6 0 (by omega) (fun _ => 0) (210, fun _ => 0) (am_up i 84 6 (Int32.ofInt 210))
  refine hc _ d (by omega) ⟨fun q q1 _ _ _ => up_a q1, fun q hq => up_n (Or.inr hq)⟩ ⟨by rw [up_s]; decide, Nat.le_refl _, fun h => absurd h (by decide), fun _ => up_a (by decide)⟩ (fun q hq => absurd hq (by omega)) (fun q hq => absurd hq (by omega)) (fun j' g1 g2 g3 => ?_)
  clear hc
  generalize cfo i np nn nv z 6 0 (fun _ => 0) (210, fun _ => 0) = S at *
  obtain ⟨l1, l2, l3, l4⟩ := g2
  conv => whnf
  try dsimp only
  rw [l1]
  refine ⟨fun hne => ?_, fun heq => ?_⟩
  · have hlt : S.1 < 210 := by
      rcases Nat.lt_or_ge S.1 210 with q | q
      · exact q
      · exact absurd (show nI S.1 = Int32.ofInt 210 by rw [show S.1 = 210 by omega]; decide) hne
    conv => whnf
    try dsimp only
    refine ⟨by decide, ?_⟩
    conv => whnf
    try dsimp only
    refine ⟨by decide, ?_⟩
    conv => whnf
    try dsimp only
    rw [up_n (Or.inr (by decide)), l1]
    refine q_eq ?_ rfl (h1 hlt _ (fun q q1 q2 q3 q4 => (up_a q1).trans (g1.1 q q1 q2 q3 q4)) (by rw [up_s]; try decide) (fun q hq => by rw [up_n (Or.inl (by decide))]; exact l3 hlt q hq))
    rw [li_30, pk_div (by omega) (by decide) (by decide)]
  · have he : S.1 = 210 := nI_inj (by omega) (by decide) (heq.trans (by decide))
    conv => whnf
    try dsimp only
    exact h0 he j' g1.1 (g1.2 7 (by decide)) (l4 he)
theorem c_plan {i : Nat → Nat → Int32} {Q : am_Q} {d na : Nat} {sp gr : Nat → Nat} (hk : PK i np nv) (hN : NK i nn) (hA : AK i na sp) (hw : ∀ a, i 50 a = 0 ∨ i 50 a = 1) (hg : ∀ a, a < na → i 51 a = nI (gr a) ∧ gr a < 12) (hpl : ∀ p, p < np → i 11 p = -1 ∨ (z p < nv p ∧ i 11 p = nI (z p))) (hz : ∀ p, z p < 5) (h85 : ∀ q, i 85 q = 0 ∨ i 85 q = 1) (hd : 22 ≤ d)
    (h : ∀ I : Nat → Nat → Int32, (∀ q, q ≠ 85 → I q = i q) → (∀ q, I 85 q = 0 ∨ I 85 q = 1) → (∀ p k, p < np → k < nv p → ccl I p k = cclr i sp gr na p (i (4 + p) k)) → 
      ((cfo I np nn nv z 6 0 (fun _ => 0) (210, fun _ => 0)).1 < 210 → ∀ j : Nat → Nat → Int32, (∀ q, q ≠ 84 → q ≠ 86 → q ≠ 87 → q ≠ 88 → j q = I q) → j 84 7 = 1 → (∀ q, q < 6 → j 88 q = pvv (cins I np) q ((cfo I np nn nv z 6 0 (fun _ => 0) (210, fun _ => 0)).2 q)) → Q (some (.int (nI ((cfo I np nn nv z 6 0 (fun _ => 0) (210, fun _ => 0)).1 / 30)))) (KS, j)) ∧
      ((cfo I np nn nv z 6 0 (fun _ => 0) (210, fun _ => 0)).1 = 210 → ∀ j : Nat → Nat → Int32, (∀ q, q ≠ 84 → q ≠ 86 → q ≠ 87 → q ≠ 88 → j q = I q) → j 84 7 = I 84 7 → j 88 = I 88 → Q (some (.int (-1))) (KS, j))) : SP xl xs d Y_AM_plan [.ref 0] (KS, i) Q := by
  have hn := hk.2.1
  obtain ⟨d, rfl⟩ : ∃ q, d = q + 1 := ⟨d - 1, by omega⟩
  refine ⟨Nat.le_of_ble_eq_true rfl, am_go (am_sp_mo _) (fun q => q == 2) 30 (fun X hX => ?_)⟩
  conv => whnf
  try dsimp only
  refine hX _ _ _ _ _ _ ?_
  have loop : ∀ m p (j : Nat → Nat → Int32), p + m = np → (∀ q, q ≠ 85 → j q = i q) → (∀ q, j 85 q = 0 ∨ j 85 q = 1) → (∀ p' k, p' < p → k < nv p' → ccl j p' k = cclr i sp gr na p' (i (4 + p') k)) → am_wp (ax_E xl xs) (ax_cd Y_AM_plan) (am_sp (ax_E xl xs) ax_cd ax_ml d) Q 2 [some (.ref 0), some (.int (nI p))] [] (KS, j) 0 0 := by
    intro m
    induction m with
    | zero =>
      intro p j hp g1 g2 g3
      have : p = np := by omega
      subst this
      have hkj : PK j p nv := hk.fr (g1 1 (by decide)) (g1 10 (by decide))
      have hNj : NK j nn := by
        unfold NK
        rw [g1 13 (by decide), g1 14 (by decide), g1 16 (by decide)]
        exact hN
      obtain ⟨h1, h0⟩ := h j g1 g2 g3
      refine am_go (am_sp_mo _) (fun q => q == 2) 30 (fun X hX => ?_)
      conv => whnf
      try dsimp only
      refine k_Packs_count (by omega) ?_
      conv => whnf
      try dsimp only
      rw [g1 1 (by decide), hk.1]
      refine ⟨fun _ => ?_, fun hh => absurd (nI_le (Nat.le_refl _) (by omega)) hh⟩
      conv => whnf
      try dsimp only
      refine k_search (z := z) hkj hNj (by rw [g1 11 (by decide)]; exact hpl) hz g2 (by omega) (fun e j2 a1 a2 a3 => ?_) (fun e j2 a1 a2 a3 => ?_)
      · conv => whnf
        try dsimp only
        exact h1 e j2 a1 a2 a3
      · conv => whnf
        try dsimp only
        exact h0 e j2 a1 a2 a3
    | succ m ih =>
      intro p j hp g1 g2 g3
      have h5 := (hk.2.2 p (by omega)).2
      refine am_go (am_sp_mo _) (fun q => q == 2) 30 (fun X hX => ?_)
      conv => whnf
      try dsimp only
      refine k_Packs_count (by omega) ?_
      conv => whnf
      try dsimp only
      rw [g1 1 (by decide), hk.1]
      refine ⟨fun hh => absurd hh (nI_ge (by omega) (by omega)), fun _ => ?_⟩
      conv => whnf
      try dsimp only
      refine k_markPlacesOf g1 hk (by omega) hA hw hg (by omega) (fun j2 a1 a2 => ?_)
      conv => whnf
      try dsimp only
      rw [show nI p + Int32.ofInt 1 = nI (p + 1) by rw [li_1, nI_add]]
      refine hX _ _ _ _ _ _ (ih (p + 1) j2 (by omega) a1 (fun q => ?_) (fun p' k hp' hk' => ?_))
      · rw [a2]
        split
        · split
          · exact Or.inr rfl
          · exact Or.inl rfl
        · exact g2 q
      · show decide (j2 85 (5 * p' + k) = 1) = _
        have h5' := (hk.2.2 p' (by omega)).2
        rw [a2]
        by_cases e : p' = p
        · subst e
          rw [if_pos (by omega), show 5 * p' + k - 5 * p' = k by omega]
          cases cclr i sp gr na p' (i (4 + p') k) <;> decide
        · rw [if_neg (by omega)]
          exact g3 p' k (by omega) hk'
  exact loop np 0 i (by omega) (fun _ _ => rfl) h85 (fun p' _ hp' => absurd hp' (by omega))
end SEARCH
end
section
/-! PLANS of the reference: small methods -/
abbrev mins (I : Nat → Nat → Int32) (np : Nat) : Nat → Bool := pins (I 93) np
abbrev mver (I : Nat → Nat → Int32) (p k : Nat) : Int32 := I 92 (5 * p + k)
abbrev mcl (I : Nat → Nat → Int32) (p k : Nat) : Bool := decide (I 112 (5 * p + k) = 0)
abbrev mB (I : Nat → Nat → Int32) (w : Nat → Int32) : Nat → Bool := nbrk (I 94) (I 95) (I 96) (I 97) (I 98) w
def mc (I : Nat → Nat → Int32) (np : Nat) (nv : Nat → Nat) (p : Nat) : Nat := if mins I np p = true then nv p else 1
abbrev mVd (I : Nat → Nat → Int32) (np nn : Nat) : (Nat → Nat) → Bool := vld (mins I np) (mver I) (mcl I) (mB I) nn
abbrev mfo (I : Nat → Nat → Int32) (np nn : Nat) (nv z : Nat → Nat) : Nat → Nat → (Nat → Nat) → PSt → PSt := pfo (mVd I np nn) (pK (mins I np) z) (mc I np nv)
def mbad (i : Nat → Nat → Int32) (sp : Nat → Nat) (ch : Nat → Nat → Nat) (na p : Nat) (v : Int32) : Nat → Bool := bany (fun g => !(mX i p g) && !(decide (mx (mgst i sp (nI g) (nI p) v) (fun a => msc (ch a)) na = -1)))
/-- the places looked at: those of f -/
def NWF (I : Nat → Nat → Int32) (np : Nat) (f : Nat → Nat) (j : Nat → Nat → Int32) : Prop := ∀ q, q < 6 → j 111 q = pvv (mins I np) q (f q)
def mst (ins : Nat → Bool) (z : Nat → Nat) (p k : Nat) : Nat := if ins p = true then (if k = z p then 0 else 100 + ndist k (z p)) else 0
def mpre (ins : Nat → Bool) (z : Nat → Nat) (f : Nat → Nat) : Nat → Nat
  | 0 => 0
  | p + 1 => mpre ins z f p + mst ins z p (f p)
theorem mk_pre {ins : Nat → Bool} {z f : Nat → Nat} : ∀ {p : Nat}, (∀ q, q < p → z q < 5 ∧ f q < 5) → ∃ c m, m ≤ 4 * p ∧ c ≤ p ∧ kpre ins z f p = 30 * c + m ∧ mpre ins z f p = 100 * c + m
  | 0, _ => ⟨0, 0, by omega, by omega, rfl, rfl⟩
  | p + 1, h => by
    obtain ⟨c, m, h1, h2, h3, h4⟩ := mk_pre (ins := ins) (z := z) (f := f) (p := p) (fun q hq => h q (by omega))
    have hp := h p (by omega)
    unfold kpre mpre kst mst ndist
    by_cases e : ins p = true
    · rw [if_pos e, if_pos e]
      by_cases e2 : f p = z p
      · rw [if_pos e2, if_pos e2]
        exact ⟨c, m, by omega, by omega, by omega, by omega⟩
      · rw [if_neg e2, if_neg e2]
        exact ⟨c + 1, m + (f p - z p + (z p - f p)), by omega, by omega, by omega, by omega⟩
    · rw [if_neg e, if_neg e]
      exact ⟨c, m, by omega, by omega, by omega, by omega⟩
def cvk (x : Nat) : Nat := 100 * (x / 30) + x % 30
theorem cvk_lt {x y : Nat} : cvk x < cvk y ↔ x < y := by
  unfold cvk
  omega
theorem cvk_100 (x : Nat) : cvk x / 100 = x / 30 := by
  unfold cvk
  omega
theorem mpre_cvk {ins : Nat → Bool} {z f : Nat → Nat} (h : ∀ q, q < 6 → z q < 5 ∧ f q < 5) : mpre ins z f 6 = cvk (pK ins z f) := by
  obtain ⟨c, m, h1, h2, h3, h4⟩ := mk_pre (ins := ins) h
  unfold pK cvk
  omega
theorem pK_bd {ins : Nat → Bool} {z f : Nat → Nat} (h : ∀ q, q < 6 → z q < 5 ∧ f q < 5) : pK ins z f ≤ 204 := kpre_bd h
theorem mpre_np {I : Nat → Nat → Int32} {np : Nat} {z f : Nat → Nat} : ∀ n, mpre (mins I np) z f (np + n) = mpre (mins I np) z f np
  | 0 => rfl
  | n + 1 => by
    show mpre (mins I np) z f (np + n) + mst (mins I np) z (np + n) (f (np + n)) = _
    rw [mpre_np n, mst, if_neg]
    · rfl
    · intro e
      have := (pins_of e).1
      omega
theorem m_moved : ∀ a, a < 5 → ∀ b, b < 5 → (nI b ≤ nI a → nI a - nI b = nI (a - b)) := by decide
theorem nI_dn : ∀ m, m < 7 → nI m + Int32.ofInt (-1) = nI m - nI 1 := by decide
section MPLAN
variable {xl : Nat} {xs : Nat → Int32} {d : Nat} {i : Nat → Nat → Int32} {Q : am_Q} {np nn na : Nat} {nv sp z f : Nat → Nat} {ch : Nat → Nat → Nat}
theorem m_findBad (hk : MPK i np nv) (hA : MAK i na sp) (hw : ∀ a, i 105 a = 0 ∨ i 105 a = 1) (hch : ∀ a, a < 12 → ∀ k, k < 7 → i 104 (7 * a + k) = nI (ch a k) ∧ ch a k < 4) (hb : ∀ q, i 112 q = 0 ∨ i 112 q = 1) (hd : 4 ≤ d)
    (h : ∀ j : Nat → Nat → Int32, (∀ q, q ≠ 112 → j q = i q) → (∀ q, j 112 q = 0 ∨ j 112 q = 1) → (∀ p k, p < np → k < nv p → j 112 (5 * p + k) = if mbad i sp ch na p (i 92 (5 * p + k)) na = true then 1 else 0) → Q none (KS, j)) : SP xl xs d Y_Model_findBad [.ref 89] (KS, i) Q := by
  have hn := hk.2.1
  have hna := hA.2.1
  obtain ⟨d, rfl⟩ : ∃ q, d = q + 1 := ⟨d - 1, by omega⟩
  refine ⟨Nat.le_of_ble_eq_true rfl, am_go (am_sp_mo _) (fun q => q == 2) 20 (fun X hX => ?_)⟩
  conv => whnf
  try dsimp only
  refine hX _ _ _ _ _ _ ?_
  have loop : ∀ m p o2 o3 o4 (j : Nat → Nat → Int32), p + m = np → (∀ q, q ≠ 112 → j q = i q) → (∀ q, j 112 q = 0 ∨ j 112 q = 1) → (∀ p' k, p' < p → k < nv p' → j 112 (5 * p' + k) = if mbad i sp ch na p' (i 92 (5 * p' + k)) na = true then 1 else 0) → am_wp (ax_E xl xs) (ax_cd Y_Model_findBad) (am_sp (ax_E xl xs) ax_cd ax_ml d) Q 2 [some (.ref 89), some (.int (nI p)), o2, o3, o4] [] (KS, j) 0 0 := by
    intro m
    induction m with
    | zero =>
      intro p o2 o3 o4 j hp g1 g2 g3
      have : p = np := by omega
      subst this
      refine am_go (am_sp_mo _) (fun q => q == 2) 20 (fun X hX => ?_)
      conv => whnf
      try dsimp only
      rw [g1 89 (by decide), hk.1]
      refine ⟨fun _ => ?_, fun hh => absurd (nI_le (Nat.le_refl _) (by omega)) hh⟩
      conv => whnf
      try dsimp only
      exact h j g1 g2 g3
    | succ m ih =>
      intro p o2 o3 o4 j hp g1 g2 g3
      have hcl : (nI p).toNatClampNeg = p := nI_clamp (by omega)
      have hin : vp_in (nI p) 6 := vp_in_nI (by omega) (by decide)
      have hpv := hk.2.2 p (by omega)
      refine am_go (am_sp_mo _) (fun q => q == 2 || q == 12) 20 (fun X hX => ?_)
      conv => whnf
      try dsimp only
      rw [g1 89 (by decide), hk.1]
      refine ⟨fun hh => absurd hh (nI_ge (by omega) (by omega)), fun _ => ?_⟩
      conv => whnf
      try dsimp only
      refine hX _ _ _ _ _ _ ?_
      have mid : ∀ n k o3 o4 (j : Nat → Nat → Int32), k + n = nv p → (∀ q, q ≠ 112 → j q = i q) → (∀ q, j 112 q = 0 ∨ j 112 q = 1) → (∀ p' k, p' < p → k < nv p' → j 112 (5 * p' + k) = if mbad i sp ch na p' (i 92 (5 * p' + k)) na = true then 1 else 0) → (∀ k', k' < k → j 112 (5 * p + k') = if mbad i sp ch na p (i 92 (5 * p + k')) na = true then 1 else 0) → am_wp (ax_E xl xs) (ax_cd Y_Model_findBad) (am_sp (ax_E xl xs) ax_cd ax_ml d) Q 12 [some (.ref 89), some (.int (nI p)), some (.int (nI k)), o3, o4] [] (KS, j) 0 0 := by
        intro n
        induction n with
        | zero =>
          intro k o3 o4 j hkn g1 g2 g3 g4
          have : k = nv p := by omega
          subst this
          refine am_go (am_sp_mo _) (fun q => q == 2 || q == 12) 20 (fun X hX => ?_)
          conv => whnf
          try dsimp only
          refine ⟨6, [], rfl, hin, ?_⟩
          conv => whnf
          try dsimp only
          rw [hcl, g1 91 (by decide), hpv.1]
          refine ⟨fun _ => ?_, fun hh => absurd (nI_le (Nat.le_refl _) (by omega)) hh⟩
          conv => whnf
          try dsimp only
          rw [show nI p + Int32.ofInt 1 = nI (p + 1) by rw [li_1, nI_add]]
          refine hX _ _ _ _ _ _ (ih (p + 1) _ _ _ j (by omega) g1 g2 (fun p' k hp' hk' => ?_))
          by_cases e : p' = p
          · subst e; exact g4 k hk'
          · exact g3 p' k (by omega) hk'
        | succ n ihn =>
          intro k o3 o4 j hkn g1 g2 g3 g4
          have e5 : Int32.ofInt 5 * nI p + nI k = nI (5 * p + k) := by rw [li_5, pk_mul, nI_add]
          have hc5 : (nI (5 * p + k)).toNatClampNeg = 5 * p + k := nI_clamp (by omega)
          have hi5 : vp_in (nI (5 * p + k)) 30 := vp_in_nI (by omega) (by decide)
          have hAj : MAK j na sp := by
            unfold MAK
            rw [g1 89 (by decide), g1 101 (by decide)]
            exact hA
          have bm : ∀ g, mX j p g = mX i p g := fun g => by unfold mX; rw [g1 89 (by decide), g1 107 (by decide)]
          have gm : ∀ g v, mgst j sp g (nI p) v = mgst i sp g (nI p) v := fun g v => by
            funext a
            unfold mgst mstk stk mhas
            rw [g1 106 (by decide), g1 100 (by decide), g1 105 (by decide), g1 102 (by decide), g1 103 (by decide)]
          refine am_go (am_sp_mo _) (fun q => q == 12 || q == 27) 20 (fun X hX => ?_)
          conv => whnf
          try dsimp only
          refine ⟨6, [], rfl, hin, ?_⟩
          conv => whnf
          try dsimp only
          rw [hcl, g1 91 (by decide), hpv.1]
          refine ⟨fun hh => absurd hh (nI_ge (by omega) (by omega)), fun _ => ?_⟩
          conv => whnf
          try dsimp only
          refine hX _ _ _ _ _ _ ?_
          have inr : ∀ r g, g + r = na → am_wp (ax_E xl xs) (ax_cd Y_Model_findBad) (am_sp (ax_E xl xs) ax_cd ax_ml d) Q 27 [some (.ref 89), some (.int (nI p)), some (.int (nI k)), some (.int (if mbad i sp ch na p (i 92 (5 * p + k)) g = true then Int32.ofInt 1 else Int32.ofInt 0)), some (.int (nI g))] [] (KS, j) 0 0 := by
            intro r
            induction r with
            | zero =>
              intro g hg
              have : g = na := by omega
              subst this
              refine am_go (am_sp_mo _) (fun q => q == 12 || q == 27) 30 (fun X hX => ?_)
              conv => whnf
              try dsimp only
              rw [g1 89 (by decide), hA.1]
              refine ⟨fun _ => ?_, fun hh => absurd (nI_le (Nat.le_refl _) (by omega)) hh⟩
              conv => whnf
              try dsimp only
              rw [e5]
              refine ⟨30, [], rfl, hi5, ?_⟩
              conv => whnf
              try dsimp only
              rw [hc5, show nI k + Int32.ofInt 1 = nI (k + 1) by rw [li_1, nI_add]]
              have hval : vp_nar .boolean (if mbad i sp ch g p (i 92 (5 * p + k)) g = true then Int32.ofInt 1 else Int32.ofInt 0) = (if mbad i sp ch g p (i 92 (5 * p + k)) g = true then 1 else 0) := by
                cases mbad i sp ch g p (i 92 (5 * p + k)) g <;> decide
              rw [hval]
              refine hX _ _ _ _ _ _ (ihn (k + 1) _ _ _ (by omega) (fun q hq => (up_a hq).trans (g1 q hq)) (fun q => ?_) (fun p' k' hp' hk' => ?_) (fun k' hk' => ?_))
              · rw [up_at]
                by_cases e : q = 5 * p + k
                · rw [if_pos ⟨rfl, e⟩]
                  cases mbad i sp ch g p (i 92 (5 * p + k)) g
                  · exact Or.inl rfl
                  · exact Or.inr rfl
                · rw [if_neg (fun z => e z.2)]; exact g2 q
              · have := (hk.2.2 p' (by omega)).2
                rw [up_n (Or.inr (by omega))]
                exact g3 p' k' hp' hk'
              · by_cases e : k' = k
                · subst e; rw [up_s]
                · rw [up_n (Or.inr (by omega))]; exact g4 k' (by omega)
            | succ r ihr =>
              intro g hg
              have ihr := ihr (g + 1) (by omega)
              have e1 : nI g + Int32.ofInt 1 = nI (g + 1) := by rw [li_1, nI_add]
              have hbs : mbad i sp ch na p (i 92 (5 * p + k)) (g + 1) = (mbad i sp ch na p (i 92 (5 * p + k)) g || (!(mX i p g) && !(decide (mx (mgst i sp (nI g) (nI p) (i 92 (5 * p + k))) (fun a => msc (ch a)) na = -1)))) := rfl
              rw [hbs] at ihr
              generalize mbad i sp ch na p (i 92 (5 * p + k)) g = B at ihr ⊢
              refine am_go (am_sp_mo _) (fun q => q == 27) 60 (fun X hX => ?_)
              conv => whnf
              try dsimp only
              rw [g1 89 (by decide), hA.1]
              refine ⟨fun hh => absurd hh (nI_ge (by omega) (by omega)), fun _ => ?_⟩
              conv => whnf
              try dsimp only
              cases B with
              | true =>
                refine ⟨fun _ => ?_, fun h => absurd h (by decide)⟩
                conv => whnf
                try dsimp only
                rw [e1]
                exact hX _ _ _ _ _ _ ihr
              | false =>
                refine ⟨fun h => absurd rfl h, fun _ => ?_⟩
                conv => whnf
                try dsimp only
                refine m_isExcepted (by omega) (by omega) (by omega) (fun b hb' => ?_)
                have hb2 : b = mX i p g := by rw [← bm]; exact hb'
                rw [← hb2] at ihr
                cases b with
                | true =>
                  conv => whnf
                  try dsimp only
                  refine ⟨fun _ => ?_, fun h => absurd h (by decide)⟩
                  conv => whnf
                  try dsimp only
                  rw [e1]
                  exact hX _ _ _ _ _ _ ihr
                | false =>
                  conv => whnf
                  try dsimp only
                  refine ⟨fun h => absurd rfl h, fun _ => ?_⟩
                  conv => whnf
                  try dsimp only
                  rw [e5]
                  refine ⟨30, [], rfl, hi5, ?_⟩
                  conv => whnf
                  try dsimp only
                  rw [hc5, g1 92 (by decide)]
                  refine m_scoreThere (ch := ch) hAj (by rw [g1 105 (by decide)]; exact hw) (by rw [g1 104 (by decide)]; exact hch) (by omega) ?_
                  rw [gm]
                  conv => whnf
                  try dsimp only
                  refine ⟨fun hs => ?_, fun hs => ?_⟩
                  · conv => whnf
                    try dsimp only
                    rw [e1]
                    rw [show decide (mx (mgst i sp (nI g) (nI p) (i 92 (5 * p + k))) (fun a => msc (ch a)) na = -1) = true from decide_eq_true hs] at ihr
                    exact hX _ _ _ _ _ _ ihr
                  · conv => whnf
                    try dsimp only
                    rw [e1]
                    rw [show decide (mx (mgst i sp (nI g) (nI p) (i 92 (5 * p + k))) (fun a => msc (ch a)) na = -1) = false from decide_eq_false hs] at ihr
                    exact hX _ _ _ _ _ _ ihr
          exact inr na 0 (by omega)
      exact mid (nv p) 0 _ _ j (by omega) g1 g2 g3 (fun k' hk' => absurd hk' (by omega))
  exact loop np 0 none none none i (by omega) (fun _ _ => rfl) hb (fun p' _ hp' => absurd hp' (by omega))
theorem m_mayBe (hp : i 89 1 = nI np) (hn : np ≤ 6) (hN : MNK i nn) (hv : ∀ q, q < 30 → ¬ i 92 q = -1) (hb : ∀ q, i 112 q = 0 ∨ i 112 q = 1) (hf : ∀ q, q < 6 → f q < 5) (hw : NWF i np f i) (hd : 3 ≤ d) (h : ∀ b : Bool, b = mVd i np nn f → Q (some (.int (if b = true then 1 else 0))) (KS, i)) : SP xl xs d Y_Model_mayBe [.ref 89] (KS, i) Q := by
  have hNW : NWK i := ⟨fun p hp => by
    rw [hw p hp]
    unfold pvv
    split
    · exact Or.inr ⟨f p, hf p hp, rfl⟩
    · exact Or.inl rfl, hv⟩
  have hwv : ∀ p, p < 6 → wv (i 92) (i 111) p = vers (mins i np) (mver i) f p := fun p hp => by
    unfold wv vers
    rw [hw p hp]
    unfold pvv
    by_cases e : mins i np p = true
    · rw [if_pos e, if_pos e, if_neg (nI_m1 (by have := hf p hp; omega)), nI_clamp (by have := hf p hp; omega)]
    · rw [if_neg e, if_neg e, if_pos rfl]
  have hbr : bany (mbrk i) nn = bany (mB i (vers (mins i np) (mver i) f)) nn := bany_congr fun k hk => by
    obtain ⟨a, b, ha, hb, ea, eb⟩ := hN.2.2 k hk
    exact nbrk_at ha hb ea eb (hwv a ha) (hwv b hb)
  obtain ⟨d, rfl⟩ : ∃ q, d = q + 1 := ⟨d - 1, by omega⟩
  refine ⟨Nat.le_of_ble_eq_true rfl, am_go (am_sp_mo _) (fun q => q == 2) 30 (fun X hX => ?_)⟩
  conv => whnf
  try dsimp only
  refine hX _ _ _ _ _ _ ?_
  have loop : ∀ m p, p + m = np → bany (fun p => mins i np p && !(mcl i p (f p))) p = false → am_wp (ax_E xl xs) (ax_cd Y_Model_mayBe) (am_sp (ax_E xl xs) ax_cd ax_ml d) Q 2 [some (.ref 89), some (.int (nI p))] [] (KS, i) 0 0 := by
    intro m
    induction m with
    | zero =>
      intro p hpp hno
      have : p = np := by omega
      subst this
      have h6 : bany (fun q => mins i p q && !(mcl i q (f q))) 6 = false := by
        cases e : bany (fun q => mins i p q && !(mcl i q (f q))) 6 with
        | false => rfl
        | true =>
          obtain ⟨q, hq, e⟩ := bany_iff.mp e
          have e' := e
          rw [Bool.and_eq_true] at e'
          rw [bany_of (pins_of e'.1).1 e] at hno
          cases hno
      refine am_go (am_sp_mo _) (fun q => q == 2) 30 (fun X hX => ?_)
      conv => whnf
      try dsimp only
      rw [hp]
      refine ⟨fun _ => ?_, fun hh => absurd (nI_le (Nat.le_refl _) (by omega)) hh⟩
      conv => whnf
      try dsimp only
      refine m_lacking hN hNW (by omega) ?_
      conv => whnf
      try dsimp only
      have hvl : mVd i p nn f = !(bany (mbrk i) nn) := by
        show (!(bany _ 6) && !(bany _ nn)) = _
        rw [h6, hbr]
        rfl
      rcases Nat.eq_zero_or_pos (bcnt (mbrk i) nn) with e | e
      · have hnb : bany (mbrk i) nn = false := by
          cases e2 : bany (mbrk i) nn with
          | false => rfl
          | true =>
            obtain ⟨k, hk, e2⟩ := bany_iff.mp e2
            rw [bcnt_none e k hk] at e2
            cases e2
        rw [e]
        refine ⟨fun h => absurd rfl h, fun _ => ?_⟩
        conv => whnf
        try dsimp only
        exact ⟨Or.inr rfl, h true (by rw [hvl, hnb]; rfl)⟩
      · have hnb : bany (mbrk i) nn = true := by
          cases e2 : bany (mbrk i) nn with
          | true => rfl
          | false =>
            have hz : bcnt (mbrk i) nn ≤ bcnt (fun _ => false) nn := bcnt_mono fun k hk e3 => by
              rw [bany_of hk e3] at e2
              cases e2
            have hz2 : ∀ n, bcnt (fun _ => false) n = 0 := by
              intro n
              induction n with
              | zero => rfl
              | succ n ih => rw [bcnt, ih]; rfl
            rw [hz2] at hz
            omega
        have hbn := bcnt_le (mbrk i) nn
        have hnn := hN.2.1
        refine ⟨fun _ => ?_, fun e0 => absurd (nI_inj (b := 0) (by omega) (by omega) e0) (by omega)⟩
        conv => whnf
        try dsimp only
        exact ⟨Or.inl rfl, h false (by rw [hvl, hnb]; rfl)⟩
    | succ m ih =>
      intro p hpp hno
      have hcl : (nI p).toNatClampNeg = p := nI_clamp (by omega)
      have hin : vp_in (nI p) 6 := vp_in_nI (by omega) (by decide)
      have hfp := hf p (by omega)
      have nx : (mins i np p && !(mcl i p (f p))) = false → am_wp (ax_E xl xs) (ax_cd Y_Model_mayBe) (am_sp (ax_E xl xs) ax_cd ax_ml d) Q 40 [some (.ref 89), some (.int (nI p))] [] (KS, i) 0 0 := by
        intro e
        refine am_go (am_sp_mo _) (fun q => q == 2) 20 (fun X hX => ?_)
        conv => whnf
        try dsimp only
        rw [show nI p + Int32.ofInt 1 = nI (p + 1) by rw [li_1, nI_add]]
        exact hX _ _ _ _ _ _ (ih (p + 1) (by omega) (by rw [bany, hno, e]; rfl))
      refine am_go (am_sp_mo _) (fun q => q == 2 || q == 40) 40 (fun X hX => ?_)
      conv => whnf
      try dsimp only
      rw [hp]
      refine ⟨fun hh => absurd hh (nI_ge (by omega) (by omega)), fun _ => ?_⟩
      conv => whnf
      try dsimp only
      refine ⟨6, [], rfl, hin, ?_⟩
      conv => whnf
      try dsimp only
      rw [hcl, hw p (by omega)]
      cases hi : mins i np p with
      | false =>
        have e1 : pvv (mins i np) p (f p) = -1 := if_neg (by rw [hi]; decide)
        rw [e1]
        exact ⟨fun _ => hX _ _ _ _ _ _ (nx (by rw [hi]; rfl)), fun h => absurd (by decide) h⟩
      | true =>
        have e1 : pvv (mins i np) p (f p) = nI (f p) := if_pos hi
        rw [e1]
        refine ⟨fun e => absurd e (by rw [li_m1]; exact nI_m1 (by omega)), fun _ => ?_⟩
        conv => whnf
        try dsimp only
        refine ⟨6, [], rfl, hin, ?_⟩
        conv => whnf
        try dsimp only
        rw [hcl, hw p (by omega), e1, show Int32.ofInt 5 * nI p + nI (f p) = nI (5 * p + f p) by rw [li_5, pk_mul, nI_add]]
        refine ⟨30, [], rfl, vp_in_nI (by omega) (by decide), ?_⟩
        conv => whnf
        try dsimp only
        rw [nI_clamp (show 5 * p + f p < 2 ^ 31 by omega)]
        rcases hb (5 * p + f p) with e | e
        · have hc : mcl i p (f p) = true := decide_eq_true e
          rw [e]
          exact ⟨fun _ => hX _ _ _ _ _ _ (nx (by rw [hc]; simp)), fun h => absurd rfl h⟩
        · have hc : mcl i p (f p) = false := decide_eq_false (by rw [e]; decide)
          rw [e]
          refine ⟨fun h => absurd h (by decide), fun _ => ?_⟩
          conv => whnf
          try dsimp only
          refine ⟨Or.inl rfl, h false ?_⟩
          exact (vld_f1 (p := p) (by omega) hi hc).symm
  exact loop np 0 (by omega) rfl
theorem m_cost (hp : i 89 1 = nI np) (hn : np ≤ 6) (hpl : ∀ p, p < np → i 93 p = -1 ∨ i 93 p = nI (z p)) (hz : ∀ p, z p < 5) (hf : ∀ q, q < 6 → f q < 5) (hw : NWF i np f i) (hd : 1 ≤ d) (h : Q (some (.int (nI (cvk (pK (mins i np) z f))))) (KS, i)) : SP xl xs d Y_Model_cost [.ref 89] (KS, i) Q := by
  have hm6 : mpre (mins i np) z f np = cvk (pK (mins i np) z f) := by
    rw [← mpre_cvk (fun q hq => ⟨hz q, hf q hq⟩), ← mpre_np (6 - np), show np + (6 - np) = 6 by omega]
  rw [← hm6] at h
  obtain ⟨d, rfl⟩ : ∃ q, d = q + 1 := ⟨d - 1, by omega⟩
  refine ⟨Nat.le_of_ble_eq_true rfl, am_go (am_sp_mo _) (fun q => q == 4) 30 (fun X hX => ?_)⟩
  conv => whnf
  try dsimp only
  refine hX _ _ _ _ _ _ ?_
  have loop : ∀ m p o3, p + m = np → am_wp (ax_E xl xs) (ax_cd Y_Model_cost) (am_sp (ax_E xl xs) ax_cd ax_ml d) Q 4 [some (.ref 89), some (.int (nI (mpre (mins i np) z f p))), some (.int (nI p)), o3] [] (KS, i) 0 0 := by
    intro m
    induction m with
    | zero =>
      intro p o3 hpp
      have : p = np := by omega
      subst this
      refine am_go (am_sp_mo _) (fun q => q == 4) 30 (fun X hX => ?_)
      conv => whnf
      try dsimp only
      rw [hp]
      refine ⟨fun _ => ?_, fun hh => absurd (nI_le (Nat.le_refl _) (by omega)) hh⟩
      conv => whnf
      try dsimp only
      exact h
    | succ m ih =>
      intro p o3 hpp
      have hcl : (nI p).toNatClampNeg = p := nI_clamp (by omega)
      have hin : vp_in (nI p) 6 := vp_in_nI (by omega) (by decide)
      have hfp := hf p (by omega)
      have hzp := hz p
      have e1 : nI p + Int32.ofInt 1 = nI (p + 1) := by rw [li_1, nI_add]
      have add : ∀ n, mst (mins i np) z p (f p) = (if 0 < n then 100 + n else 0) → n < 5 → am_wp (ax_E xl xs) (ax_cd Y_Model_cost) (am_sp (ax_E xl xs) ax_cd ax_ml d) Q 56 [some (.ref 89), some (.int (nI (mpre (mins i np) z f p))), some (.int (nI p)), o3] [.int (nI n)] (KS, i) 0 0 := by
        intro n hnn hn5
        have hpre : mpre (mins i np) z f (p + 1) = mpre (mins i np) z f p + (if 0 < n then 100 + n else 0) := by rw [← hnn]; rfl
        refine am_go (am_sp_mo _) (fun q => q == 4) 30 (fun X hX => ?_)
        conv => whnf
        try dsimp only
        refine ⟨fun hle => ?_, fun hle => ?_⟩
        · have : n = 0 := by
            rw [Int32.le_iff_toInt_le, nI_toInt (by omega), show (0 : Int32).toInt = 0 by decide] at hle
            omega
          subst this
          have ih := ih (p + 1) (some (.int (nI 0))) (by omega)
          rw [hpre] at ih
          conv => whnf
          try dsimp only
          rw [e1, li_0, nI_add]
          exact hX _ _ _ _ _ _ ih
        · have hpos : 0 < n := by
            rcases Nat.eq_zero_or_pos n with q | q
            · rw [q] at hle; exact absurd (by decide) hle
            · exact q
          have ih := ih (p + 1) (some (.int (nI n))) (by omega)
          rw [hpre, if_pos hpos] at ih
          conv => whnf
          try dsimp only
          rw [e1, li_100, nI_add, nI_add]
          exact hX _ _ _ _ _ _ ih
      refine am_go (am_sp_mo _) (fun q => q == 4 || q == 56) 60 (fun X hX => ?_)
      conv => whnf
      try dsimp only
      rw [hp]
      refine ⟨fun hh => absurd hh (nI_ge (by omega) (by omega)), fun _ => ?_⟩
      conv => whnf
      try dsimp only
      refine ⟨6, [], rfl, hin, ?_⟩
      conv => whnf
      try dsimp only
      refine ⟨6, [], rfl, hin, ?_⟩
      conv => whnf
      try dsimp only
      rw [hcl, hw p (by omega)]
      rcases hpl p (by omega) with hm1 | hze
      · have hi : mins i np p = false := by
          show pins (i 93) np p = false
          unfold pins
          rw [decide_eq_true hm1]
          simp
        have e2 : pvv (mins i np) p (f p) = -1 := if_neg (by rw [hi]; decide)
        rw [e2, hm1]
        refine ⟨fun _ => ?_, fun h => absurd (by decide) h⟩
        conv => whnf
        try dsimp only
        refine ⟨6, [], rfl, hin, ?_⟩
        conv => whnf
        try dsimp only
        refine ⟨6, [], rfl, hin, ?_⟩
        conv => whnf
        try dsimp only
        rw [hcl, hw p (by omega), e2, hm1]
        exact hX _ _ _ _ _ _ (add 0 (by unfold mst; rw [hi]; rfl) (by decide))
      · have hi : mins i np p = true := by
          show pins (i 93) np p = true
          unfold pins
          rw [decide_eq_true (show p < np by omega), hze, decide_eq_false (nI_m1 (by omega))]
          rfl
        have e2 : pvv (mins i np) p (f p) = nI (f p) := if_pos hi
        have hms : mst (mins i np) z p (f p) = if f p = z p then 0 else 100 + ndist (f p) (z p) := by unfold mst; rw [if_pos hi]
        rw [e2, hze]
        refine ⟨fun hle => ?_, fun hgt => ?_⟩
        · have hle' : f p ≤ z p := (nI_leI (by omega) (by omega)).mp hle
          conv => whnf
          try dsimp only
          refine ⟨6, [], rfl, hin, ?_⟩
          conv => whnf
          try dsimp only
          refine ⟨6, [], rfl, hin, ?_⟩
          conv => whnf
          try dsimp only
          rw [hcl, hw p (by omega), e2, hze, m_moved (z p) hzp (f p) hfp hle]
          refine hX _ _ _ _ _ _ (add (z p - f p) ?_ (by omega))
          rw [hms]
          unfold ndist
          split <;> split <;> omega
        · have hgt' : ¬ f p ≤ z p := fun q => hgt (nI_le q (by omega))
          conv => whnf
          try dsimp only
          refine ⟨6, [], rfl, hin, ?_⟩
          conv => whnf
          try dsimp only
          refine ⟨6, [], rfl, hin, ?_⟩
          conv => whnf
          try dsimp only
          rw [hcl, hw p (by omega), e2, hze, m_moved (f p) hfp (z p) hzp (nI_le (by omega) (by omega))]
          refine hX _ _ _ _ _ _ (add (f p - z p) ?_ (by omega))
          rw [hms]
          unfold ndist
          split <;> split <;> omega
  exact loop np 0 none (by omega)
theorem m_goesOn (hk : MPK i np nv) (hpl : ∀ p, p < np → i 93 p = -1 ∨ (z p < nv p ∧ i 93 p = nI (z p))) (hz : ∀ p, z p < 5) (hf : ∀ q, q < 6 → f q < mc i np nv q) (hw : NWF i np f i) (hd : 1 ≤ d)
    (hA : ∀ p0, p0 < 6 → mins i np p0 = true → f p0 + 1 < nv p0 → (∀ q, p0 < q → q < 6 → f q + 1 = mc i np nv q) → ∀ j : Nat → Nat → Int32, (∀ q, q ≠ 111 → j q = i q) → NWF i np (fun q => if q < p0 then f q else if q = p0 then f p0 + 1 else 0) j → Q (some (.int 1)) (KS, j))
    (hB : (∀ q, q < 6 → f q + 1 = mc i np nv q) → ∀ j : Nat → Nat → Int32, (∀ q, q ≠ 111 → j q = i q) → Q (some (.int 0)) (KS, j)) : SP xl xs d Y_Model_goesOn [.ref 89] (KS, i) Q := by
  have hn := hk.2.1
  obtain ⟨d, rfl⟩ : ∃ q, d = q + 1 := ⟨d - 1, by omega⟩
  refine ⟨Nat.le_of_ble_eq_true rfl, am_go (am_sp_mo _) (fun q => q == 7) 30 (fun X hX => ?_)⟩
  conv => whnf
  try dsimp only
  rw [hk.1, li_1]
  refine hX _ _ _ _ _ _ ?_
  have loop : ∀ m (j : Nat → Nat → Int32), m ≤ np → (∀ q, q ≠ 111 → j q = i q) → (∀ q, q < 6 → j 111 q = pvv (mins i np) q (if m ≤ q then 0 else f q)) → (∀ q, m ≤ q → q < 6 → f q + 1 = mc i np nv q) → am_wp (ax_E xl xs) (ax_cd Y_Model_goesOn) (am_sp (ax_E xl xs) ax_cd ax_ml d) Q 7 [some (.ref 89), some (.int (nI m - nI 1))] [] (KS, j) 0 0 := by
    intro m
    induction m with
    | zero =>
      intro j hm g1 g2 g3
      rw [nI_0m1]
      refine am_go (am_sp_mo _) (fun q => q == 7) 30 (fun X hX => ?_)
      conv => whnf
      try dsimp only
      refine ⟨fun _ => ?_, fun h => absurd (by decide) h⟩
      conv => whnf
      try dsimp only
      refine ⟨fun h => absurd h (by decide), fun _ => ?_⟩
      conv => whnf
      try dsimp only
      exact ⟨Or.inl rfl, hB (fun q hq => g3 q (by omega) hq) j g1⟩
    | succ m ih =>
      intro j hm g1 g2 g3
      rw [nI_pred1]
      have hcl : (nI m).toNatClampNeg = m := nI_clamp (by omega)
      have hin : vp_in (nI m) 6 := vp_in_nI (by omega) (by decide)
      have hmv := hk.2.2 m (by omega)
      have hfm := hf m (by omega)
      have hjm : j 111 m = pvv (mins i np) m (f m) := by rw [g2 m (by omega), if_neg (by omega)]
      have back : ∀ v : Int32, v = pvv (mins i np) m 0 → f m + 1 = mc i np nv m → am_wp (ax_E xl xs) (ax_cd Y_Model_goesOn) (am_sp (ax_E xl xs) ax_cd ax_ml d) Q 58 [some (.ref 89), some (.int (nI m))] [.int v, .int (nI m), .ref 111] (KS, j) 0 0 := by
        intro v hv hl
        refine am_go (am_sp_mo _) (fun q => q == 7) 20 (fun X hX => ?_)
        conv => whnf
        try dsimp only
        refine ⟨6, [], rfl, hin, ?_⟩
        conv => whnf
        try dsimp only
        rw [hcl, nI_dn m (by omega)]
        refine hX _ _ _ _ _ _ (ih _ (by omega) (fun q hq => (up_a hq).trans (g1 q hq)) (fun q hq => ?_) (fun q hq hq6 => ?_))
        · rw [up_at]
          by_cases e : q = m
          · rw [if_pos ⟨rfl, e⟩, if_pos (by omega), hv, e]
          · rw [if_neg (fun z => e z.2), g2 q hq]
            by_cases e2 : m ≤ q
            · rw [if_pos (by omega), if_pos e2]
            · rw [if_neg (by omega), if_neg e2]
        · by_cases e : q = m
          · rw [e]; exact hl
          · exact g3 q (by omega) hq6
      refine am_go (am_sp_mo _) (fun q => q == 7 || q == 58) 60 (fun X hX => ?_)
      conv => whnf
      try dsimp only
      refine ⟨fun h => absurd h (nI_pos (by omega)), fun _ => ?_⟩
      conv => whnf
      try dsimp only
      refine ⟨6, [], rfl, hin, ?_⟩
      conv => whnf
      try dsimp only
      rw [hcl, g1 93 (by decide)]
      rcases hpl m (by omega) with hm1 | ⟨hzv, hze⟩
      · have hi : mins i np m = false := by
          show pins (i 93) np m = false
          unfold pins
          rw [decide_eq_true hm1]
          simp
        have hmc : mc i np nv m = 1 := by unfold mc; rw [hi]; rfl
        rw [hm1]
        refine ⟨fun _ => ?_, fun h => absurd (by decide) h⟩
        conv => whnf
        try dsimp only
        refine ⟨6, [], rfl, hin, ?_⟩
        conv => whnf
        try dsimp only
        rw [hcl, g1 93 (by decide), hm1]
        refine ⟨fun h => absurd (by decide) h, fun _ => ?_⟩
        conv => whnf
        try dsimp only
        exact hX _ _ _ _ _ _ (back _ (by rw [li_m1]; exact (if_neg (by rw [hi]; decide)).symm) (by omega))
      · have hzm := hz m
        have hi : mins i np m = true := by
          show pins (i 93) np m = true
          unfold pins
          rw [decide_eq_true (show m < np by omega), hze, decide_eq_false (nI_m1 (by omega))]
          rfl
        have hmc : mc i np nv m = nv m := by unfold mc; rw [if_pos hi]
        have e2 : pvv (mins i np) m (f m) = nI (f m) := if_pos hi
        obtain ⟨n, hnv⟩ : ∃ n, nv m = n + 1 := ⟨nv m - 1, by omega⟩
        rw [hze]
        refine ⟨fun e => absurd e (by rw [li_m1]; exact nI_m1 (by omega)), fun _ => ?_⟩
        conv => whnf
        try dsimp only
        refine ⟨6, [], rfl, hin, ?_⟩
        conv => whnf
        try dsimp only
        refine ⟨6, [], rfl, hin, ?_⟩
        conv => whnf
        try dsimp only
        rw [hcl, hjm, e2, g1 91 (by decide), hmv.1, hnv, li_1, nI_pred1]
        refine ⟨fun hne => ?_, fun heq => ?_⟩
        · have hlt : f m + 1 < nv m := by
            have : ¬ f m = n := fun e => hne (by rw [e])
            omega
          conv => whnf
          try dsimp only
          refine ⟨fun _ => ?_, fun h => absurd (by rw [Int32.le_iff_toInt_le, nI_toInt (by omega), show (0 : Int32).toInt = 0 by decide]; omega) h⟩
          conv => whnf
          try dsimp only
          refine ⟨6, [], rfl, hin, ?_⟩
          conv => whnf
          try dsimp only
          refine ⟨6, [], rfl, hin, ?_⟩
          conv => whnf
          try dsimp only
          rw [hcl, hjm, e2, show nI (f m) + Int32.ofInt 1 = nI (f m + 1) by rw [li_1, nI_add]]
          refine ⟨Or.inr rfl, hA m (by omega) hi hlt (fun q hq hq6 => g3 q (by omega) hq6) _ (fun q hq => (up_a hq).trans (g1 q hq)) (fun q hq => ?_)⟩
          show _ = pvv (mins i np) q (if q < m then f q else if q = m then f m + 1 else 0)
          rw [up_at]
          by_cases e : q = m
          · subst e
            rw [if_pos ⟨rfl, rfl⟩, if_neg (by omega), if_pos rfl]
            exact (if_pos hi).symm
          · rw [if_neg (fun z => e z.2), g2 q hq]
            by_cases e3 : q < m
            · rw [if_neg (by omega), if_pos e3]
            · rw [if_pos (by omega), if_neg e3, if_neg e]
        · have hl : f m = n := nI_inj (by omega) (by omega) heq
          conv => whnf
          try dsimp only
          refine ⟨6, [], rfl, hin, ?_⟩
          conv => whnf
          try dsimp only
          rw [hcl, g1 93 (by decide), hze]
          refine ⟨fun _ => ?_, fun e => absurd e (by rw [li_m1]; exact nI_m1 (by omega))⟩
          conv => whnf
          try dsimp only
          exact hX _ _ _ _ _ _ (back _ (by rw [li_0]; exact (if_pos hi).symm) (by omega))
  refine loop np i (Nat.le_refl _) (fun _ _ => rfl) (fun q hq => ?_) (fun q hq hq6 => ?_)
  · rw [hw q hq]
    by_cases e : np ≤ q
    · have hi : ¬ mins i np q = true := fun h => absurd (pins_of h).1 (by omega)
      rw [if_pos e]
      unfold pvv
      rw [if_neg hi, if_neg hi]
    · rw [if_neg e]
  · have hi : ¬ mins i np q = true := fun h => absurd (pins_of h).1 (by omega)
    have := hf q hq6
    unfold mc at this ⊢
    rw [if_neg hi] at this ⊢
    omega
end MPLAN
end
section
/-! PLANS of the reference: the search -/
def mlv (s : PSt) : Int32 := if s.1 = 210 then -1 else nI (cvk s.1)
def mFr (I j : Nat → Nat → Int32) : Prop := ∀ q, q ≠ 111 → q ≠ 113 → j q = I q
def MSt (I : Nat → Nat → Int32) (np : Nat) (j : Nat → Nat → Int32) (s : PSt) : Prop := s.1 ≤ 210 ∧ (s.1 < 210 → ∀ q, q < 6 → j 113 q = pvv (mins I np) q (s.2 q))
theorem cvk_bd {x : Nat} (h : x ≤ 210) : cvk x ≤ 1000 := by
  unfold cvk
  omega
section MSEARCH
variable {xl : Nat} {xs : Nat → Int32} {d : Nat} {Q : am_Q} {I : Nat → Nat → Int32} {np nn : Nat} {nv z : Nat → Nat}
theorem NWF.fr {f : Nat → Nat} {j : Nat → Nat → Int32} (h : NWF I np f j) (e : j 93 = I 93) : NWF j np f j := by
  unfold NWF mins at *
  rw [e]
  exact h
theorem m_leaf (hp : I 89 1 = nI np) (hn : np ≤ 6) (hN : MNK I nn) (hv : ∀ q, q < 30 → ¬ I 92 q = -1) (hb : ∀ q, I 112 q = 0 ∨ I 112 q = 1) (hpl : ∀ p, p < np → I 93 p = -1 ∨ I 93 p = nI (z p)) (hz : ∀ p, z p < 5) {f : Nat → Nat} (hf : ∀ q, q < 6 → f q < 5) {s : PSt} {j : Nat → Nat → Int32} (hF : mFr I j) (hw : NWF I np f j) (hS : MSt I np j s) (hd : 4 ≤ d) {x : Int32} (hx : ¬ x = 0) {o : Option Value}
    (h : ∀ (j' : Nat → Nat → Int32) o', mFr I j' → j' 111 = j 111 → MSt I np j' (pst (mVd I np nn) (pK (mins I np) z) s f) → am_wp (ax_E xl xs) (ax_cd Y_Model_plan) (am_sp (ax_E xl xs) ax_cd ax_ml d) Q 98 [some (.ref 89), some (.int (mlv (pst (mVd I np nn) (pK (mins I np) z) s f))), some (.int x), o'] [] (KS, j') 0 0) : am_wp (ax_E xl xs) (ax_cd Y_Model_plan) (am_sp (ax_E xl xs) ax_cd ax_ml d) Q 43 [some (.ref 89), some (.int (mlv s)), some (.int x), o] [] (KS, j) 0 0 := by
  have f93 := hF 93 (by decide) (by decide)
  have hNj : MNK j nn := by
    unfold MNK
    rw [hF 89 (by decide) (by decide), hF 94 (by decide) (by decide), hF 96 (by decide) (by decide)]
    exact hN
  have hpj : j 89 1 = nI np := by rw [hF 89 (by decide) (by decide)]; exact hp
  have hplj : ∀ p, p < np → j 93 p = -1 ∨ j 93 p = nI (z p) := by rw [f93]; exact hpl
  have hwj : NWF j np f j := hw.fr f93
  have eV : mVd j np nn f = mVd I np nn f := by
    unfold mVd mins mver mcl mB
    rw [f93, hF 92 (by decide) (by decide), hF 112 (by decide) (by decide), hF 94 (by decide) (by decide), hF 95 (by decide) (by decide), hF 96 (by decide) (by decide), hF 97 (by decide) (by decide), hF 98 (by decide) (by decide)]
  have eK : pK (mins j np) z f = pK (mins I np) z f := by unfold mins; rw [f93]
  have hKb : pK (mins I np) z f ≤ 204 := pK_bd (fun q hq => ⟨hz q, hf q hq⟩)
  have hKc := cvk_bd (x := pK (mins I np) z f) (by omega)
  have hSc := cvk_bd hS.1
  have keep : ¬ (mVd I np nn f = true ∧ pK (mins I np) z f < s.1) → am_wp (ax_E xl xs) (ax_cd Y_Model_plan) (am_sp (ax_E xl xs) ax_cd ax_ml d) Q 98 [some (.ref 89), some (.int (mlv s)), some (.int x), o] [] (KS, j) 0 0 := by
    intro hno
    have e : pst (mVd I np nn) (pK (mins I np) z) s f = s := if_neg hno
    rw [e] at h
    exact h j o hF rfl hS
  have take : mVd I np nn f = true → pK (mins I np) z f < s.1 → am_wp (ax_E xl xs) (ax_cd Y_Model_plan) (am_sp (ax_E xl xs) ax_cd ax_ml d) Q 67 [some (.ref 89), some (.int (mlv s)), some (.int x), o] [] (KS, j) 0 0 := by
    intro h1 h2
    have e : pst (mVd I np nn) (pK (mins I np) z) s f = (pK (mins I np) z f, f) := if_pos ⟨h1, h2⟩
    rw [e] at h
    have el : mlv (pK (mins I np) z f, f) = nI (cvk (pK (mins I np) z f)) := if_neg (show ¬ pK (mins I np) z f = 210 by omega)
    rw [el] at h
    refine am_go (am_sp_mo _) (fun q => q == 74) 30 (fun X hX => ?_)
    conv => whnf
    try dsimp only
    refine m_cost hpj hn hplj hz hf hwj (by omega) ?_
    conv => whnf
    try dsimp only
    rw [eK]
    refine hX _ _ _ _ _ _ ?_
    have cp : ∀ m p (j' : Nat → Nat → Int32), p + m = 6 → mFr I j' → j' 111 = j 111 → (∀ q, q < p → j' 113 q = j 111 q) → am_wp (ax_E xl xs) (ax_cd Y_Model_plan) (am_sp (ax_E xl xs) ax_cd ax_ml d) Q 74 [some (.ref 89), some (.int (nI (cvk (pK (mins I np) z f)))), some (.int x), some (.int (nI p))] [] (KS, j') 0 0 := by
      intro m
      induction m with
      | zero =>
        intro p j' hp g1 g2 g3
        have : p = 6 := by omega
        subst this
        refine am_go (am_sp_mo _) (fun q => q == 74 || q == 98) 20 (fun X hX => ?_)
        conv => whnf
        try dsimp only
        refine ⟨fun _ => ?_, fun hh => absurd (by decide) hh⟩
        refine hX _ _ _ _ _ _ (h j' _ g1 g2 ⟨show pK (mins I np) z f ≤ 210 by omega, fun _ q hq => ?_⟩)
        rw [g3 q hq]
        exact hw q hq
      | succ m ih =>
        intro p j' hp g1 g2 g3
        have hcl : (nI p).toNatClampNeg = p := nI_clamp (by omega)
        have hin : vp_in (nI p) 6 := vp_in_nI (by omega) (by decide)
        refine am_go (am_sp_mo _) (fun q => q == 74) 20 (fun X hX => ?_)
        conv => whnf
        try dsimp only
        refine ⟨fun hh => absurd hh (by rw [li_6]; exact nI_ge (by omega) (by decide)), fun _ => ?_⟩
        conv => whnf
        try dsimp only
        refine ⟨6, [], rfl, hin, ?_⟩
        conv => whnf
        try dsimp only
        refine ⟨6, [], rfl, hin, ?_⟩
        conv => whnf
        try dsimp only
        rw [hcl, g2, show nI p + Int32.ofInt 1 = nI (p + 1) by rw [li_1, nI_add]]
        refine hX _ _ _ _ _ _ (ih (p + 1) _ (by omega) (fun q q1 q2 => (up_a q2).trans (g1 q q1 q2)) (by rw [up_a (by decide)]; exact g2) (fun q hq => ?_))
        rw [up_at]
        by_cases e : q = p
        · rw [if_pos ⟨rfl, e⟩, e]
        · rw [if_neg (fun z => e z.2)]; exact g3 q (by omega)
    exact cp 6 0 j (by omega) hF rfl (fun q hq => absurd hq (by omega))
  refine am_go (am_sp_mo _) (fun q => q == 67 || q == 98) 40 (fun X hX => ?_)
  conv => whnf
  try dsimp only
  refine ⟨fun e => absurd e hx, fun _ => ?_⟩
  conv => whnf
  try dsimp only
  refine m_mayBe hpj hn hNj (by rw [hF 92 (by decide) (by decide)]; exact hv) (by rw [hF 112 (by decide) (by decide)]; exact hb) hf hwj (by omega) (fun b hb' => ?_)
  rw [eV] at hb'
  cases b with
  | false =>
    conv => whnf
    try dsimp only
    exact ⟨fun _ => hX _ _ _ _ _ _ (keep (fun z => by rw [← hb'] at z; cases z.1)), fun h => absurd rfl h⟩
  | true =>
    conv => whnf
    try dsimp only
    refine ⟨fun h => absurd h (by decide), fun _ => ?_⟩
    conv => whnf
    try dsimp only
    by_cases e210 : s.1 = 210
    · have el : mlv s = -1 := if_pos e210
      rw [el] at take ⊢
      exact ⟨fun _ => hX _ _ _ _ _ _ (take hb'.symm (by omega)), fun h => absurd (by decide) h⟩
    · have el : mlv s = nI (cvk s.1) := if_neg e210
      rw [el] at take keep ⊢
      refine ⟨fun e => absurd e (by rw [li_m1]; exact nI_m1 (by omega)), fun _ => ?_⟩
      conv => whnf
      try dsimp only
      refine m_cost hpj hn hplj hz hf hwj (by omega) ?_
      conv => whnf
      try dsimp only
      rw [eK]
      refine ⟨fun hge => ?_, fun hlt => ?_⟩
      · refine hX _ _ _ _ _ _ (keep (fun z => ?_))
        have := cvk_lt.mpr z.2
        exact absurd hge (nI_ge this (by omega))
      · refine hX _ _ _ _ _ _ (take hb'.symm ?_)
        rcases Nat.lt_or_ge (cvk (pK (mins I np) z f)) (cvk s.1) with q | q
        · exact cvk_lt.mp q
        · exact absurd (nI_le q (by omega)) hlt
theorem m_tree (hk : MPK I np nv) (hN : MNK I nn) (hv : ∀ q, q < 30 → ¬ I 92 q = -1) (hb : ∀ q, I 112 q = 0 ∨ I 112 q = 1) (hpl : ∀ p, p < np → I 93 p = -1 ∨ (z p < nv p ∧ I 93 p = nI (z p))) (hz : ∀ p, z p < 5) (hd : 4 ≤ d) : ∀ m p, p + m = 6 → ∀ (f : Nat → Nat) (s : PSt) (j : Nat → Nat → Int32) (x : Int32) (o : Option Value), (∀ q, q < 6 → f q < mc I np nv q) → (∀ q, p ≤ q → f q = 0) → mFr I j → NWF I np f j → MSt I np j s → ¬ x = 0 →
    (∀ (f' : Nat → Nat) (j' : Nat → Nat → Int32) x' o', (∀ q, q < p → f' q = f q) → (∀ q, p ≤ q → q < 6 → f' q + 1 = mc I np nv q) → mFr I j' → NWF I np f' j' → MSt I np j' (mfo I np nn nv z m p f s) → am_wp (ax_E xl xs) (ax_cd Y_Model_plan) (am_sp (ax_E xl xs) ax_cd ax_ml d) Q 98 [some (.ref 89), some (.int (mlv (mfo I np nn nv z m p f s))), some (.int x'), o'] [] (KS, j') 0 0) → am_wp (ax_E xl xs) (ax_cd Y_Model_plan) (am_sp (ax_E xl xs) ax_cd ax_ml d) Q 43 [some (.ref 89), some (.int (mlv s)), some (.int x), o] [] (KS, j) 0 0 := by
  have hn := hk.2.1
  have c5 : ∀ q, q < 6 → mc I np nv q ≤ 5 := fun q hq => by
    have := (hk.2.2 q hq).2
    unfold mc
    split <;> omega
  have c1 : ∀ q, q < 6 → 1 ≤ mc I np nv q := fun q hq => by
    unfold mc
    cases hi : mins I np q with
    | false => rw [if_neg (by decide)]; omega
    | true =>
      rw [if_pos rfl]
      obtain ⟨h1, h2⟩ := pins_of hi
      have := (hpl q h1).resolve_left h2
      omega
  intro m
  induction m with
  | zero =>
    intro p hp f s j x o hr h0 hF hw hS hx h
    have : p = 6 := by omega
    subst this
    refine m_leaf hk.1 hn hN hv hb (fun p hp => (hpl p hp).imp id (fun z => z.2)) hz (fun q hq => Nat.lt_of_lt_of_le (hr q hq) (c5 q hq)) hF hw hS hd hx (fun j' o' g1 g2 g3 => ?_)
    exact h f j' x o' (fun _ _ => rfl) (fun q h1 h2 => absurd h2 (by omega)) g1 (fun q hq => by rw [g2]; exact hw q hq) g3
  | succ m ih =>
    intro p hp f s j x o hr h0 hF hw hS hx h
    have kids : ∀ n k, k + n + 1 = mc I np nv p → ∀ (j : Nat → Nat → Int32) (x : Int32) (o : Option Value), mFr I j → NWF I np (fset f p k) j → MSt I np j (pfk (fun k s => mfo I np nn nv z m (p + 1) (fset f p k) s) k s) → ¬ x = 0 → am_wp (ax_E xl xs) (ax_cd Y_Model_plan) (am_sp (ax_E xl xs) ax_cd ax_ml d) Q 43 [some (.ref 89), some (.int (mlv (pfk (fun k s => mfo I np nn nv z m (p + 1) (fset f p k) s) k s))), some (.int x), o] [] (KS, j) 0 0 := by
      intro n
      induction n with
      | zero =>
        intro k hkn j x o g1 g2 g3 hx
        refine ih (p + 1) (by omega) (fset f p k) _ j x o (fun q hq => ?_) (fun q hq => ?_) g1 g2 g3 hx (fun f' j' x' o' a1 a2 a3 a4 a5 => ?_)
        · by_cases e : q = p
          · rw [e, fset_s]; omega
          · rw [fset_n e]; exact hr q hq
        · rw [fset_n (by omega)]; exact h0 q (by omega)
        · have e : mfo I np nn nv z (m + 1) p f s = mfo I np nn nv z m (p + 1) (fset f p k) (pfk (fun k s => mfo I np nn nv z m (p + 1) (fset f p k) s) k s) := by
            show pfk _ (mc I np nv p) s = _
            rw [← hkn]
            rfl
          rw [e] at h
          refine h f' j' x' o' (fun q hq => by rw [a1 q (by omega), fset_n (by omega)]) (fun q hq hq6 => ?_) a3 a4 a5
          by_cases eq : q = p
          · rw [eq, a1 p (by omega), fset_s]; omega
          · exact a2 q (by omega) hq6
      | succ n ihn =>
        intro k hkn j x o g1 g2 g3 hx
        refine ih (p + 1) (by omega) (fset f p k) _ j x o (fun q hq => ?_) (fun q hq => ?_) g1 g2 g3 hx (fun f' j' x' o' a1 a2 a3 a4 a5 => ?_)
        · by_cases e : q = p
          · rw [e, fset_s]; omega
          · rw [fset_n e]; exact hr q hq
        · rw [fset_n (by omega)]; exact h0 q (by omega)
        · have hi : mins I np p = true := by
            cases e : mins I np p with
            | true => rfl
            | false =>
              unfold mc at hkn
              rw [e, if_neg (by decide)] at hkn
              omega
          have hmc : mc I np nv p = nv p := by unfold mc; rw [if_pos hi]
          have f93 := a3 93 (by decide) (by decide)
          have emi : mins j' np = mins I np := by unfold mins; rw [f93]
          have emc : mc j' np nv = mc I np nv := by funext q; unfold mc; rw [emi]
          have hkj : MPK j' np nv := by
            unfold MPK
            rw [a3 89 (by decide) (by decide), a3 91 (by decide) (by decide)]
            exact hk
          have hfp : f' p = k := by rw [a1 p (by omega), fset_s]
          refine am_go (am_sp_mo _) (fun q => q == 43) 30 (fun X hX => ?_)
          conv => whnf
          try dsimp only
          refine m_goesOn (z := z) (f := f') hkj (by rw [f93]; exact hpl) hz (fun q hq => ?_) (a4.fr f93) (by omega) (fun p0 hp0 hi0 hlt hlast j2 b1 b2 => ?_) (fun hall j2 b1 => ?_)
          · rw [emc]
            by_cases e : q < p + 1
            · rw [a1 q e]
              by_cases e2 : q = p
              · rw [e2, fset_s]; omega
              · rw [fset_n e2]; exact hr q hq
            · have := a2 q (by omega) hq
              omega
          · rw [emi] at hi0
            rw [emc] at hlast
            have hp0' : p0 = p := by
              rcases Nat.lt_trichotomy p0 p with q | q | q
              · have := hlast p q (by omega)
                omega
              · exact q
              · have h1 := a2 p0 (by omega) hp0
                unfold mc at h1
                rw [if_pos hi0] at h1
                omega
            subst hp0'
            conv => whnf
            try dsimp only
            refine hX _ _ _ _ _ _ (ihn (k + 1) (by omega) j2 1 o' (fun q q1 q2 => (b1 q q1).trans (a3 q q1 q2)) (fun q hq => ?_) ?_ (by decide))
            · have this : j2 111 q = pvv (mins j' np) q (if q < p0 then f' q else if q = p0 then f' p0 + 1 else 0) := b2 q hq
              rw [emi] at this
              rw [this]
              by_cases e : q < p0
              · rw [if_pos e, fset_n (by omega), a1 q (by omega), fset_n (by omega)]
              · rw [if_neg e]
                by_cases e2 : q = p0
                · rw [if_pos e2, e2, fset_s, hfp]
                · rw [if_neg e2, fset_n e2, h0 q (by omega)]
            · exact ⟨a5.1, fun hl q hq => by rw [b1 113 (by decide)]; exact a5.2 hl q hq⟩
          · have := hall p (by omega)
            rw [emc] at this
            omega
    have hc1 := c1 p (by omega)
    refine kids (mc I np nv p - 1) 0 (by omega) j x o hF (fun q hq => ?_) hS hx
    rw [hw q hq]
    by_cases e : q = p
    · rw [e, fset_s, h0 p (by omega)]
    · rw [fset_n e]
theorem m_plan {i : Nat → Nat → Int32} {na : Nat} {sp : Nat → Nat} {ch : Nat → Nat → Nat} (hk : MPK i np nv) (hA : MAK i na sp) (hw : ∀ a, i 105 a = 0 ∨ i 105 a = 1) (hch : ∀ a, a < 12 → ∀ k, k < 7 → i 104 (7 * a + k) = nI (ch a k) ∧ ch a k < 4) (hN : MNK i nn) (hv : ∀ q, q < 30 → ¬ i 92 q = -1) (hb : ∀ q, i 112 q = 0 ∨ i 112 q = 1) (hpl : ∀ p, p < np → i 93 p = -1 ∨ (z p < nv p ∧ i 93 p = nI (z p))) (hpn : ∀ p, np ≤ p → p < 6 → i 93 p = -1) (hz : ∀ p, z p < 5) (hd : 6 ≤ d)
    (h : ∀ I : Nat → Nat → Int32, (∀ q, q ≠ 112 → I q = i q) → (∀ q, I 112 q = 0 ∨ I 112 q = 1) → (∀ p k, p < np → k < nv p → mcl I p k = !(mbad i sp ch na p (i 92 (5 * p + k)) na)) →
      ((mfo I np nn nv z 6 0 (fun _ => 0) (210, fun _ => 0)).1 < 210 → ∀ j : Nat → Nat → Int32, (∀ q, q ≠ 89 → q ≠ 111 → q ≠ 113 → q ≠ 114 → j q = I q) → (∀ q, q ≠ 29 → j 89 q = I 89 q) → j 89 29 = 1 → (∀ q, q < 6 → j 114 q = pvv (mins I np) q ((mfo I np nn nv z 6 0 (fun _ => 0) (210, fun _ => 0)).2 q)) → Q (some (.int (nI ((mfo I np nn nv z 6 0 (fun _ => 0) (210, fun _ => 0)).1 / 30)))) (KS, j)) ∧
      ((mfo I np nn nv z 6 0 (fun _ => 0) (210, fun _ => 0)).1 = 210 → ∀ j : Nat → Nat → Int32, (∀ q, q ≠ 111 → q ≠ 113 → j q = I q) → Q (some (.int (-1))) (KS, j))) : SP xl xs d Y_Model_plan [.ref 89] (KS, i) Q := by
  have hn := hk.2.1
  obtain ⟨d, rfl⟩ : ∃ q, d = q + 1 := ⟨d - 1, by omega⟩
  refine ⟨Nat.le_of_ble_eq_true rfl, am_go (am_sp_mo _) (fun q => q == 6) 20 (fun X hX => ?_)⟩
  conv => whnf
  try dsimp only
  refine m_findBad (ch := ch) hk hA hw hch hb (by omega) (fun I g1 g2 g3 => ?_)
  obtain ⟨h1, h0⟩ := h I g1 g2 (fun p k hp hk' => by
    show decide (I 112 (5 * p + k) = 0) = _
    rw [g3 p k hp hk']
    cases mbad i sp ch na p (i 92 (5 * p + k)) na <;> decide)
  have hkI : MPK I np nv := by
    unfold MPK
    rw [g1 89 (by decide), g1 91 (by decide)]
    exact hk
  have hNI : MNK I nn := by
    unfold MNK
    rw [g1 89 (by decide), g1 94 (by decide), g1 96 (by decide)]
    exact hN
  have hplI : ∀ p, p < np → I 93 p = -1 ∨ (z p < nv p ∧ I 93 p = nI (z p)) := by rw [g1 93 (by decide)]; exact hpl
  have c1 : ∀ q, q < 6 → 0 < mc I np nv q := fun q hq => by
    unfold mc
    cases hi : mins I np q with
    | false => rw [if_neg (by decide)]; omega
    | true =>
      rw [if_pos rfl]
      obtain ⟨h1, h2⟩ := pins_of hi
      have := (hplI q h1).resolve_left h2
      omega
  conv => whnf
  try dsimp only
  refine hX _ _ _ _ _ _ ?_
  -- the end
  have fin : ∀ (j : Nat → Nat → Int32) (o : Option Value), mFr I j → MSt I np j (mfo I np nn nv z 6 0 (fun _ => 0) (210, fun _ => 0)) → am_wp (ax_E xl xs) (ax_cd Y_Model_plan) (am_sp (ax_E xl xs) ax_cd ax_ml d) Q 106 [some (.ref 89), some (.int (mlv (mfo I np nn nv z 6 0 (fun _ => 0) (210, fun _ => 0)))), some (.int 0), o] [] (KS, j) 0 0 := by
    intro j o a1 a2
    generalize mfo I np nn nv z 6 0 (fun _ => 0) (210, fun _ => 0) = S at *
    have hSc := cvk_bd a2.1
    by_cases e210 : S.1 = 210
    · rw [show mlv S = -1 from if_pos e210]
      refine am_go (am_sp_mo _) (fun _ => false) 20 (fun X hX => ?_)
      conv => whnf
      try dsimp only
      refine ⟨fun h => absurd (by decide) h, fun _ => ?_⟩
      conv => whnf
      try dsimp only
      exact h0 e210 j a1
    · have hlt : S.1 < 210 := by have := a2.1; omega
      have h1 := h1 hlt
      rw [show mlv S = nI (cvk S.1) from if_neg e210]
      refine am_go (am_sp_mo _) (fun q => q == 120) 20 (fun X hX => ?_)
      conv => whnf
      try dsimp only
      refine ⟨fun _ => ?_, fun e => absurd e (by rw [li_m1]; exact nI_m1 (by omega))⟩
      conv => whnf
      try dsimp only
      refine ⟨by decide, ?_⟩
      conv => whnf
      try dsimp only
      refine hX _ _ _ _ _ _ ?_
      have cp : ∀ m p (j' : Nat → Nat → Int32), p + m = 6 → (∀ q, q ≠ 89 → q ≠ 111 → q ≠ 113 → q ≠ 114 → j' q = I q) → (∀ q, q ≠ 29 → j' 89 q = I 89 q) → j' 89 29 = 1 → j' 113 = j 113 → (∀ q, q < p → j' 114 q = j 113 q) → am_wp (ax_E xl xs) (ax_cd Y_Model_plan) (am_sp (ax_E xl xs) ax_cd ax_ml d) Q 120 [some (.ref 89), some (.int (nI (cvk S.1))), some (.int 0), some (.int (nI p))] [] (KS, j') 0 0 := by
        intro m
        induction m with
        | zero =>
          intro p j' hp b1 b2 b3 b4 b5
          have : p = 6 := by omega
          subst this
          refine am_go (am_sp_mo _) (fun q => q == 120) 20 (fun X hX => ?_)
          conv => whnf
          try dsimp only
          refine ⟨fun _ => ?_, fun hh => absurd (by decide) hh⟩
          conv => whnf
          try dsimp only
          refine ⟨by decide, ?_⟩
          conv => whnf
          try dsimp only
          refine q_eq ?_ rfl (h1 j' b1 b2 b3 (fun q hq => by rw [b5 q hq]; exact a2.2 hlt q hq))
          rw [li_100, pk_div (by omega) (by decide) (by decide), cvk_100]
        | succ m ih =>
          intro p j' hp b1 b2 b3 b4 b5
          have hcl : (nI p).toNatClampNeg = p := nI_clamp (by omega)
          have hin : vp_in (nI p) 6 := vp_in_nI (by omega) (by decide)
          refine am_go (am_sp_mo _) (fun q => q == 120) 20 (fun X hX => ?_)
          conv => whnf
          try dsimp only
          refine ⟨fun hh => absurd hh (by rw [li_6]; exact nI_ge (by omega) (by decide)), fun _ => ?_⟩
          conv => whnf
          try dsimp only
          refine ⟨6, [], rfl, hin, ?_⟩
          conv => whnf
          try dsimp only
          refine ⟨6, [], rfl, hin, ?_⟩
          conv => whnf
          try dsimp only
          rw [hcl, b4, show nI p + Int32.ofInt 1 = nI (p + 1) by rw [li_1, nI_add]]
          refine hX _ _ _ _ _ _ (ih (p + 1) _ (by omega) (fun q q1 q2 q3 q4 => (up_a q4).trans (b1 q q1 q2 q3 q4)) (fun q hq => by rw [up_n (Or.inl (by decide))]; exact b2 q hq) (by rw [up_n (Or.inl (by decide))]; exact b3) (by rw [up_a (by decide)]; exact b4) (fun q hq => ?_))
          rw [up_at]
          by_cases e : q = p
          · rw [if_pos ⟨rfl, e⟩, e]
          · rw [if_neg (fun z => e z.2)]; exact b5 q (by omega)
      exact cp 6 0 _ (by omega) (fun q q1 q2 q3 q4 => (up_a q1).trans (a1 q q2 q3)) (fun q hq => by rw [up_n (Or.inr hq), a1 89 (by decide) (by decide)]) (by rw [up_s]; try decide) (up_a (by decide)) (fun q hq => absurd hq (by omega))
  have init : ∀ m p o2 o3 (j : Nat → Nat → Int32), p + m = 6 → (∀ q, q ≠ 111 → j q = I q) → (∀ q, q < p → j 111 q = pvv (mins I np) q 0) → am_wp (ax_E xl xs) (ax_cd Y_Model_plan) (am_sp (ax_E xl xs) ax_cd ax_ml d) Q 6 [some (.ref 89), some (.int (nI p)), o2, o3] [] (KS, j) 0 0 := by
    intro m
    induction m with
    | zero =>
      intro p o2 o3 j hp a1 a2
      have : p = 6 := by omega
      subst this
      refine am_go (am_sp_mo _) (fun q => q == 6 || q == 43) 30 (fun X hX => ?_)
      conv => whnf
      try dsimp only
      refine ⟨fun _ => ?_, fun hh => absurd (by decide) hh⟩
      conv => whnf
      try dsimp only
      refine hX _ _ _ _ _ _ (m_tree (s := (210, fun _ => 0)) hkI hNI (by rw [g1 92 (by decide)]; exact hv) g2 hplI hz (by omega) 6 0 (by omega) (fun _ => 0) j _ _ c1 (fun _ _ => rfl) (fun q q1 q2 => a1 q q1) a2 ⟨Nat.le_refl _, fun h => absurd h (by decide)⟩ (by decide) (fun f' j' x' o' b1 b2 b3 b4 b5 => ?_))
      have f93 := b3 93 (by decide) (by decide)
      have emi : mins j' np = mins I np := by unfold mins; rw [f93]
      have emc : mc j' np nv = mc I np nv := by funext q; unfold mc; rw [emi]
      have hkj : MPK j' np nv := by
        unfold MPK
        rw [b3 89 (by decide) (by decide), b3 91 (by decide) (by decide)]
        exact hkI
      refine am_go (am_sp_mo _) (fun q => q == 43) 30 (fun X hX => ?_)
      conv => whnf
      try dsimp only
      refine m_goesOn (z := z) (f := f') hkj (by rw [f93]; exact hplI) hz (fun q hq => ?_) (b4.fr f93) (by omega) (fun p0 hp0 hi0 hlt hlast j2 d1 d2 => ?_) (fun hall j2 d1 => ?_)
      · rw [emc]
        have := b2 q (by omega) hq
        omega
      · have h1 := b2 p0 (by omega) hp0
        rw [emi] at hi0
        unfold mc at h1
        rw [if_pos hi0] at h1
        omega
      · conv => whnf
        try dsimp only
        refine hX _ _ _ _ _ _ ?_
        refine am_go (am_sp_mo _) (fun q => q == 106) 20 (fun X hX => ?_)
        conv => whnf
        try dsimp only
        refine ⟨fun _ => ?_, fun h => absurd rfl h⟩
        exact hX _ _ _ _ _ _ (fin j2 o' (fun q q1 q2 => (d1 q q1).trans (b3 q q1 q2)) ⟨b5.1, fun hl q hq => by rw [d1 113 (by decide)]; exact b5.2 hl q hq⟩)
    | succ m ih =>
      intro p o2 o3 j hp a1 a2
      have hcl : (nI p).toNatClampNeg = p := nI_clamp (by omega)
      have hin : vp_in (nI p) 6 := vp_in_nI (by omega) (by decide)
      have put : ∀ v : Int32, v = pvv (mins I np) p 0 → am_wp (ax_E xl xs) (ax_cd Y_Model_plan) (am_sp (ax_E xl xs) ax_cd ax_ml d) Q 32 [some (.ref 89), some (.int (nI p)), o2, o3] [.int v, .int (nI p), .ref 111] (KS, j) 0 0 := by
        intro v hv'
        refine am_go (am_sp_mo _) (fun q => q == 6) 20 (fun X hX => ?_)
        conv => whnf
        try dsimp only
        refine ⟨6, [], rfl, hin, ?_⟩
        conv => whnf
        try dsimp only
        rw [hcl, show nI p + Int32.ofInt 1 = nI (p + 1) by rw [li_1, nI_add]]
        refine hX _ _ _ _ _ _ (ih (p + 1) _ _ _ (by omega) (fun q hq => (up_a hq).trans (a1 q hq)) (fun q hq => ?_))
        rw [up_at]
        by_cases e : q = p
        · rw [if_pos ⟨rfl, e⟩, hv', e]
        · rw [if_neg (fun z => e z.2)]; exact a2 q (by omega)
      refine am_go (am_sp_mo _) (fun q => q == 6 || q == 32) 30 (fun X hX => ?_)
      conv => whnf
      try dsimp only
      refine ⟨fun hh => absurd hh (by rw [li_6]; exact nI_ge (by omega) (by decide)), fun _ => ?_⟩
      conv => whnf
      try dsimp only
      refine ⟨6, [], rfl, hin, ?_⟩
      conv => whnf
      try dsimp only
      rw [hcl, a1 93 (by decide)]
      cases hi : mins I np p with
      | true =>
        have hne := (pins_of hi).2
        refine ⟨fun _ => ?_, fun e => absurd e hne⟩
        conv => whnf
        try dsimp only
        exact hX _ _ _ _ _ _ (put _ (by rw [li_0]; exact (if_pos hi).symm))
      | false =>
        have hm1 : I 93 p = -1 := by
          rcases Nat.lt_or_ge p np with q | q
          · exact pins_no hi q
          · rw [g1 93 (by decide)]; exact hpn p q (by omega)
        rw [hm1]
        refine ⟨fun h => absurd (by decide) h, fun _ => ?_⟩
        conv => whnf
        try dsimp only
        exact hX _ _ _ _ _ _ (put _ (by rw [li_m1]; exact (if_neg (by rw [hi]; decide)).symm))
  exact init 6 0 none none I (by omega) (fun _ _ => rfl) (fun q hq => absurd hq (by omega))
end MSEARCH
end
section
/-! THE CONSTRUCTORS -/
def SH0 : am_Sh := ((KS.take 2).set 0 (3, 9, [none, none, none, none, none, none, none, none, none])).set 1 (4, 6, [none, none, none, none, none, none])
def SH1 : am_Sh := (KS.take 13).set 0 (3, 9, [none, none, none, none, none, none, none, none, none])
def SH2 : am_Sh := ((KS.take 12).set 0 (3, 9, [none, none, none, none, none, none, none, none, none])).set 1 (4, 6, [some 2, some 3, some 10, some 11, none, none])
def SH3 : am_Sh := ((KS.take 11).set 0 (3, 9, [none, none, none, none, none, none, none, none, none])).set 1 (4, 6, [some 2, some 3, some 10, none, none, none])
def SH4 : am_Sh := ((KS.take 10).set 0 (3, 9, [none, none, none, none, none, none, none, none, none])).set 1 (4, 6, [some 2, some 3, none, none, none, none])
def SH5 : am_Sh := ((KS.take 3).set 0 (3, 9, [none, none, none, none, none, none, none, none, none])).set 1 (4, 6, [some 2, none, none, none, none, none])
def SH6 : am_Sh := ((KS.take 14).set 0 (3, 9, [some 1, none, none, none, none, none, none, none, none])).set 13 (5, 7, [none, none, none, none, none, none, none])
def SH7 : am_Sh := (KS.take 20).set 0 (3, 9, [some 1, none, none, none, none, none, none, none, none])
def SH8 : am_Sh := ((KS.take 19).set 0 (3, 9, [some 1, none, none, none, none, none, none, none, none])).set 13 (5, 7, [some 14, some 15, some 16, some 17, some 18, none, none])
def SH9 : am_Sh := ((KS.take 18).set 0 (3, 9, [some 1, none, none, none, none, none, none, none, none])).set 13 (5, 7, [some 14, some 15, some 16, some 17, none, none, none])
def SH10 : am_Sh := ((KS.take 17).set 0 (3, 9, [some 1, none, none, none, none, none, none, none, none])).set 13 (5, 7, [some 14, some 15, some 16, none, none, none, none])
def SH11 : am_Sh := ((KS.take 16).set 0 (3, 9, [some 1, none, none, none, none, none, none, none, none])).set 13 (5, 7, [some 14, some 15, none, none, none, none, none])
def SH12 : am_Sh := ((KS.take 15).set 0 (3, 9, [some 1, none, none, none, none, none, none, none, none])).set 13 (5, 7, [some 14, none, none, none, none, none, none])
def SH13 : am_Sh := ((KS.take 21).set 0 (3, 9, [some 1, some 13, none, none, none, none, none, none, none])).set 20 (6, 8, [none, none, none, none, none, none, none, none])
def SH14 : am_Sh := (KS.take 52).set 0 (3, 9, [some 1, some 13, none, none, none, none, none, none, none])
def SH15 : am_Sh := ((KS.take 51).set 0 (3, 9, [some 1, some 13, none, none, none, none, none, none, none])).set 20 (6, 8, [some 21, some 22, some 35, some 48, some 49, some 50, none, none])
def SH16 : am_Sh := ((KS.take 50).set 0 (3, 9, [some 1, some 13, none, none, none, none, none, none, none])).set 20 (6, 8, [some 21, some 22, some 35, some 48, some 49, none, none, none])
def SH17 : am_Sh := ((KS.take 49).set 0 (3, 9, [some 1, some 13, none, none, none, none, none, none, none])).set 20 (6, 8, [some 21, some 22, some 35, some 48, none, none, none, none])
def SH18 : am_Sh := ((KS.take 48).set 0 (3, 9, [some 1, some 13, none, none, none, none, none, none, none])).set 20 (6, 8, [some 21, some 22, some 35, none, none, none, none, none])
def SH19 : am_Sh := ((KS.take 35).set 0 (3, 9, [some 1, some 13, none, none, none, none, none, none, none])).set 20 (6, 8, [some 21, some 22, none, none, none, none, none, none])
def SH20 : am_Sh := ((KS.take 22).set 0 (3, 9, [some 1, some 13, none, none, none, none, none, none, none])).set 20 (6, 8, [some 21, none, none, none, none, none, none, none])
def SH21 : am_Sh := ((KS.take 53).set 0 (3, 9, [some 1, some 13, some 20, none, none, none, none, none, none])).set 52 (7, 1, [none])
def SH22 : am_Sh := (KS.take 66).set 0 (3, 9, [some 1, some 13, some 20, none, none, none, none, none, none])
def SH23 : am_Sh := ((KS.take 71).set 0 (3, 9, [some 1, some 13, some 20, some 52, some 66, some 68, none, none, none])).set 70 (9, 2, [none, none])
def SH24 : am_Sh := (KS.take 84).set 0 (3, 9, [some 1, some 13, some 20, some 52, some 66, some 68, none, none, none])
def SH25 : am_Sh := ((KS.take 67).set 0 (3, 9, [some 1, some 13, some 20, some 52, none, none, none, none, none])).set 66 (8, 4, [none, none, none, none])
def SH26 : am_Sh := (KS.take 68).set 0 (3, 9, [some 1, some 13, some 20, some 52, none, none, none, none, none])
def SH27 : am_Sh := ((KS.take 68).set 0 (3, 9, [some 1, some 13, some 20, some 52, none, none, none, none, none])).set 66 (8, 4, [some 1, none, none, some 67])
def SH28 : am_Sh := ((KS.take 68).set 0 (3, 9, [some 1, some 13, some 20, some 52, none, none, none, none, none])).set 66 (8, 4, [none, none, none, some 67])
def SH29 : am_Sh := ((KS.take 69).set 0 (3, 9, [some 1, some 13, some 20, some 52, some 66, none, none, none, none])).set 68 (8, 4, [none, none, none, none])
def SH30 : am_Sh := (KS.take 70).set 0 (3, 9, [some 1, some 13, some 20, some 52, some 66, none, none, none, none])
def SH31 : am_Sh := ((KS.take 70).set 0 (3, 9, [some 1, some 13, some 20, some 52, some 66, none, none, none, none])).set 68 (8, 4, [some 1, none, none, some 69])
def SH32 : am_Sh := ((KS.take 70).set 0 (3, 9, [some 1, some 13, some 20, some 52, some 66, none, none, none, none])).set 68 (8, 4, [none, none, none, some 69])
def SH33 : am_Sh := ((KS.take 85).set 0 (3, 9, [some 1, some 13, some 20, some 52, some 66, some 68, some 70, none, none])).set 84 (10, 8, [none, none, none, none, none, none, none, none])
def SH34 : am_Sh := (KS.take 89).set 0 (3, 9, [some 1, some 13, some 20, some 52, some 66, some 68, some 70, none, none])
def SH35 : am_Sh := ((KS.take 89).set 0 (3, 9, [some 1, some 13, some 20, some 52, some 66, some 68, some 70, none, none])).set 84 (10, 8, [some 1, none, some 85, some 86, some 87, some 88, none, none])
def SH36 : am_Sh := ((KS.take 89).set 0 (3, 9, [some 1, some 13, some 20, some 52, some 66, some 68, some 70, none, none])).set 84 (10, 8, [none, none, some 85, some 86, some 87, some 88, none, none])
def SH37 : am_Sh := ((KS.take 88).set 0 (3, 9, [some 1, some 13, some 20, some 52, some 66, some 68, some 70, none, none])).set 84 (10, 8, [none, none, some 85, some 86, some 87, none, none, none])
def SH38 : am_Sh := ((KS.take 87).set 0 (3, 9, [some 1, some 13, some 20, some 52, some 66, some 68, some 70, none, none])).set 84 (10, 8, [none, none, some 85, some 86, none, none, none, none])
def SH39 : am_Sh := ((KS.take 86).set 0 (3, 9, [some 1, some 13, some 20, some 52, some 66, some 68, some 70, none, none])).set 84 (10, 8, [none, none, some 85, none, none, none, none, none])
def SH40 : am_Sh := (KS.take 90).set 89 (11, 31, [none, none, none, none, none, none, none, none, none, none, none, none, none, none, none, none, none, none, none, none, none, none, none, none, none, none, none, none, none, none, none])
def SH41 : am_Sh := (KS.take 114).set 89 (11, 31, [none, none, some 90, some 91, some 92, some 93, none, some 94, some 95, some 96, some 97, some 98, some 99, none, some 100, some 101, some 102, some 103, some 104, some 105, some 106, some 107, none, some 108, some 109, some 110, some 111, some 112, some 113, none, none])
def SH42 : am_Sh := (KS.take 113).set 89 (11, 31, [none, none, some 90, some 91, some 92, some 93, none, some 94, some 95, some 96, some 97, some 98, some 99, none, some 100, some 101, some 102, some 103, some 104, some 105, some 106, some 107, none, some 108, some 109, some 110, some 111, some 112, none, none, none])
def SH43 : am_Sh := (KS.take 112).set 89 (11, 31, [none, none, some 90, some 91, some 92, some 93, none, some 94, some 95, some 96, some 97, some 98, some 99, none, some 100, some 101, some 102, some 103, some 104, some 105, some 106, some 107, none, some 108, some 109, some 110, some 111, none, none, none, none])
def SH44 : am_Sh := (KS.take 111).set 89 (11, 31, [none, none, some 90, some 91, some 92, some 93, none, some 94, some 95, some 96, some 97, some 98, some 99, none, some 100, some 101, some 102, some 103, some 104, some 105, some 106, some 107, none, some 108, some 109, some 110, none, none, none, none, none])
def SH45 : am_Sh := (KS.take 110).set 89 (11, 31, [none, none, some 90, some 91, some 92, some 93, none, some 94, some 95, some 96, some 97, some 98, some 99, none, some 100, some 101, some 102, some 103, some 104, some 105, some 106, some 107, none, some 108, some 109, none, none, none, none, none, none])
def SH46 : am_Sh := (KS.take 109).set 89 (11, 31, [none, none, some 90, some 91, some 92, some 93, none, some 94, some 95, some 96, some 97, some 98, some 99, none, some 100, some 101, some 102, some 103, some 104, some 105, some 106, some 107, none, some 108, none, none, none, none, none, none, none])
def SH47 : am_Sh := (KS.take 108).set 89 (11, 31, [none, none, some 90, some 91, some 92, some 93, none, some 94, some 95, some 96, some 97, some 98, some 99, none, some 100, some 101, some 102, some 103, some 104, some 105, some 106, some 107, none, none, none, none, none, none, none, none, none])
def SH48 : am_Sh := (KS.take 107).set 89 (11, 31, [none, none, some 90, some 91, some 92, some 93, none, some 94, some 95, some 96, some 97, some 98, some 99, none, some 100, some 101, some 102, some 103, some 104, some 105, some 106, none, none, none, none, none, none, none, none, none, none])
def SH49 : am_Sh := (KS.take 106).set 89 (11, 31, [none, none, some 90, some 91, some 92, some 93, none, some 94, some 95, some 96, some 97, some 98, some 99, none, some 100, some 101, some 102, some 103, some 104, some 105, none, none, none, none, none, none, none, none, none, none, none])
def SH50 : am_Sh := (KS.take 105).set 89 (11, 31, [none, none, some 90, some 91, some 92, some 93, none, some 94, some 95, some 96, some 97, some 98, some 99, none, some 100, some 101, some 102, some 103, some 104, none, none, none, none, none, none, none, none, none, none, none, none])
def SH51 : am_Sh := (KS.take 104).set 89 (11, 31, [none, none, some 90, some 91, some 92, some 93, none, some 94, some 95, some 96, some 97, some 98, some 99, none, some 100, some 101, some 102, some 103, none, none, none, none, none, none, none, none, none, none, none, none, none])
def SH52 : am_Sh := (KS.take 103).set 89 (11, 31, [none, none, some 90, some 91, some 92, some 93, none, some 94, some 95, some 96, some 97, some 98, some 99, none, some 100, some 101, some 102, none, none, none, none, none, none, none, none, none, none, none, none, none, none])
def SH53 : am_Sh := (KS.take 102).set 89 (11, 31, [none, none, some 90, some 91, some 92, some 93, none, some 94, some 95, some 96, some 97, some 98, some 99, none, some 100, some 101, none, none, none, none, none, none, none, none, none, none, none, none, none, none, none])
def SH54 : am_Sh := (KS.take 101).set 89 (11, 31, [none, none, some 90, some 91, some 92, some 93, none, some 94, some 95, some 96, some 97, some 98, some 99, none, some 100, none, none, none, none, none, none, none, none, none, none, none, none, none, none, none, none])
def SH55 : am_Sh := (KS.take 100).set 89 (11, 31, [none, none, some 90, some 91, some 92, some 93, none, some 94, some 95, some 96, some 97, some 98, some 99, none, none, none, none, none, none, none, none, none, none, none, none, none, none, none, none, none, none])
def SH56 : am_Sh := (KS.take 99).set 89 (11, 31, [none, none, some 90, some 91, some 92, some 93, none, some 94, some 95, some 96, some 97, some 98, none, none, none, none, none, none, none, none, none, none, none, none, none, none, none, none, none, none, none])
def SH57 : am_Sh := (KS.take 98).set 89 (11, 31, [none, none, some 90, some 91, some 92, some 93, none, some 94, some 95, some 96, some 97, none, none, none, none, none, none, none, none, none, none, none, none, none, none, none, none, none, none, none, none])
def SH58 : am_Sh := (KS.take 97).set 89 (11, 31, [none, none, some 90, some 91, some 92, some 93, none, some 94, some 95, some 96, none, none, none, none, none, none, none, none, none, none, none, none, none, none, none, none, none, none, none, none, none])
def SH59 : am_Sh := (KS.take 96).set 89 (11, 31, [none, none, some 90, some 91, some 92, some 93, none, some 94, some 95, none, none, none, none, none, none, none, none, none, none, none, none, none, none, none, none, none, none, none, none, none, none])
def SH60 : am_Sh := (KS.take 95).set 89 (11, 31, [none, none, some 90, some 91, some 92, some 93, none, some 94, none, none, none, none, none, none, none, none, none, none, none, none, none, none, none, none, none, none, none, none, none, none, none])
def SH61 : am_Sh := (KS.take 94).set 89 (11, 31, [none, none, some 90, some 91, some 92, some 93, none, none, none, none, none, none, none, none, none, none, none, none, none, none, none, none, none, none, none, none, none, none, none, none, none])
def SH62 : am_Sh := (KS.take 93).set 89 (11, 31, [none, none, some 90, some 91, some 92, none, none, none, none, none, none, none, none, none, none, none, none, none, none, none, none, none, none, none, none, none, none, none, none, none, none])
def SH63 : am_Sh := (KS.take 92).set 89 (11, 31, [none, none, some 90, some 91, none, none, none, none, none, none, none, none, none, none, none, none, none, none, none, none, none, none, none, none, none, none, none, none, none, none, none])
def SH64 : am_Sh := (KS.take 91).set 89 (11, 31, [none, none, some 90, none, none, none, none, none, none, none, none, none, none, none, none, none, none, none, none, none, none, none, none, none, none, none, none, none, none, none, none])
def SH65 : am_Sh := (KS.take 1).set 0 (3, 9, [none, none, none, none, none, none, none, none, none])
def SH66 : am_Sh := KS.take 89
def SH67 : am_Sh := (KS.take 84).set 0 (3, 9, [some 1, some 13, some 20, some 52, some 66, some 68, some 70, none, none])
def SH68 : am_Sh := (KS.take 70).set 0 (3, 9, [some 1, some 13, some 20, some 52, some 66, some 68, none, none, none])
def SH69 : am_Sh := (KS.take 68).set 0 (3, 9, [some 1, some 13, some 20, some 52, some 66, none, none, none, none])
def SH70 : am_Sh := (KS.take 66).set 0 (3, 9, [some 1, some 13, some 20, some 52, none, none, none, none, none])
def SH71 : am_Sh := (KS.take 52).set 0 (3, 9, [some 1, some 13, some 20, none, none, none, none, none, none])
def SH72 : am_Sh := (KS.take 20).set 0 (3, 9, [some 1, some 13, none, none, none, none, none, none, none])
def SH73 : am_Sh := (KS.take 13).set 0 (3, 9, [some 1, none, none, none, none, none, none, none, none])
def ZR (n : Nat) (i : Nat → Nat → Int32) : Prop := ∀ q, n ≤ q → i q = fun _ => 0
theorem zr_eq {i : Nat → Nat → Int32} {n : Nat} (h : ZR n i) (a : Nat) (ha : n ≤ a) (k : Nat) : am_zr i a k = i := by
  funext q
  unfold am_zr
  by_cases e : a ≤ q ∧ q < a + k
  · rw [if_pos e, h q (by omega)]
  · rw [if_neg e]
theorem up_0 {i : Nat → Nat → Int32} {a : Nat} (h : i a = fun _ => 0) (k : Nat) : am_up i a k (Int32.ofInt 0) = i := by
  funext q
  by_cases e : q = a
  · subst e
    rw [up_sa, h]
    funext j
    unfold upd
    split <;> rfl
  · rw [up_a e]
theorem sp_cast {xl : Nat} {xs : Nat → Int32} {d y : Nat} {As As' : List Value} {u u' : am_St} {Q : am_Q} (e : As = As') (e2 : u = u') (h : SP xl xs d y As' u' Q) : SP xl xs d y As u Q := by rw [e, e2]; exact h
section INIT
variable {xl : Nat} {xs : Nat → Int32} {d : Nat} {i : Nat → Nat → Int32} {Q : am_Q} {u : am_St}
theorem k_fill {sh : am_Sh} {a n : Nat} {v : Int32} (ha : sh[a]? = some (0, n, [])) (hn : n < 1000) (hd : 1 ≤ d) (h : ∀ j : Nat → Nat → Int32, (∀ q, q ≠ a → j q = i q) → (∀ k, j a k = if k < n then v else i a k) → Q none (sh, j)) : SP xl xs d Y_Arrays_fill [.ref a, .int v] (sh, i) Q := by
  obtain ⟨d, rfl⟩ : ∃ q, d = q + 1 := ⟨d - 1, by omega⟩
  refine ⟨Nat.le_of_ble_eq_true rfl, am_go (am_sp_mo _) (fun q => q == 5) 20 (fun X hX => ?_)⟩
  conv => whnf
  try dsimp only
  refine ⟨0, n, [], ha, by decide, ?_⟩
  conv => whnf
  try dsimp only
  refine hX _ _ _ _ _ _ ?_
  have loop : ∀ m k (j : Nat → Nat → Int32), k + m = n → (∀ q, q ≠ a → j q = i q) → (∀ q, j a q = if q < k then v else i a q) → am_wp (ax_E xl xs) (ax_cd Y_Arrays_fill) (am_sp (ax_E xl xs) ax_cd ax_ml d) Q 5 [some (.ref a), some (.int v), some (.int (nI k)), some (.int (nI n))] [] (sh, j) 0 0 := by
    intro m
    induction m with
    | zero =>
      intro k j hk g1 g2
      have : k = n := by omega
      subst this
      refine am_go (am_sp_mo _) (fun q => q == 5) 20 (fun X hX => ?_)
      conv => whnf
      try dsimp only
      refine ⟨fun _ => ?_, fun hh => absurd (nI_le (Nat.le_refl _) (by omega)) hh⟩
      conv => whnf
      try dsimp only
      exact h j g1 g2
    | succ m ih =>
      intro k j hk g1 g2
      refine am_go (am_sp_mo _) (fun q => q == 5) 20 (fun X hX => ?_)
      conv => whnf
      try dsimp only
      refine ⟨fun hh => absurd hh (nI_ge (by omega) (by omega)), fun _ => ?_⟩
      conv => whnf
      try dsimp only
      refine ⟨n, [], ha, vp_in_nI (by omega) (by omega), ?_⟩
      conv => whnf
      try dsimp only
      rw [nI_clamp (show k < 2 ^ 31 by omega), show nI k + Int32.ofInt 1 = nI (k + 1) by rw [li_1, nI_add]]
      refine hX _ _ _ _ _ _ (ih (k + 1) _ (by omega) (fun q hq => (up_a hq).trans (g1 q hq)) (fun q => ?_))
      rw [up_at, g2]
      by_cases e : q = k
      · rw [if_pos ⟨rfl, e⟩, if_pos (by omega)]
      · rw [if_neg (fun z => e z.2)]
        by_cases e2 : q < k
        · rw [if_pos e2, if_pos (by omega)]
        · rw [if_neg e2, if_neg (by omega)]
  exact loop n 0 i (by omega) (fun _ _ => rfl) (fun q => by rw [if_neg (by omega)])
theorem k_Packs_init (hZ : ZR 1 i) (hd : 2 ≤ d) (h : ∀ j : Nat → Nat → Int32, (∀ q, q ≠ 11 → q ≠ 12 → j q = i q) → (∀ k, k < 6 → j 11 k = -1) → (∀ k, k < 6 → j 12 k = -1) → Q none (SH1, j)) : SP xl xs d Y_Packs_init [.ref 1] (SH0, i) Q := by
  obtain ⟨d, rfl⟩ : ∃ q, d = q + 1 := ⟨d - 1, by omega⟩
  have s4 : am_wp (ax_E xl xs) (ax_cd Y_Packs_init) (am_sp (ax_E xl xs) ax_cd ax_ml d) Q 47 [some (.ref 1)] [] (SH1, i) 0 0 := by
    refine am_go (am_sp_mo _) (fun _ => false) 30 (fun X hX => ?_)
    conv => whnf
    try dsimp only
    refine sp_cast (As' := [.ref 11, .int (-1)]) (u' := (SH1, i)) rfl rfl (k_fill (n := 6) rfl (by decide) (by omega) (fun j g1 g2 => ?_))
    conv => whnf
    try dsimp only
    refine sp_cast (As' := [.ref 12, .int (-1)]) (u' := (SH1, j)) rfl rfl (k_fill (n := 6) rfl (by decide) (by omega) (fun j2 k1 k2 => ?_))
    conv => whnf
    try dsimp only
    rw [up_0 (by rw [k1 1 (by decide), g1 1 (by decide), hZ 1 (by decide)])]
    refine h j2 (fun q q1 q2 => (k1 q q2).trans (g1 q q1)) (fun k hk => ?_) (fun k hk => ?_)
    · rw [k1 11 (by decide), g2, if_pos hk]
    · rw [k2, if_pos hk]
  have s3 : am_wp (ax_E xl xs) (ax_cd Y_Packs_init) (am_sp (ax_E xl xs) ax_cd ax_ml d) Q 39 [some (.ref 1)] [] (SH2, i) 1 6 := by
    refine am_go (am_sp_mo _) (fun q => q == 47) 12 (fun X hX => ?_)
    conv => whnf
    try dsimp only
    refine hX _ _ _ _ _ _ (am_wpL rfl (u' := (SH1, i)) (Prod.ext rfl ?_) s4)
    first | exact zr_eq hZ _ (Nat.le_of_ble_eq_true rfl) _ | rfl
  have s2 : am_wp (ax_E xl xs) (ax_cd Y_Packs_init) (am_sp (ax_E xl xs) ax_cd ax_ml d) Q 31 [some (.ref 1)] [] (SH3, i) 2 12 := by
    refine am_go (am_sp_mo _) (fun q => q == 39) 12 (fun X hX => ?_)
    conv => whnf
    try dsimp only
    refine hX _ _ _ _ _ _ (am_wpL rfl (u' := (SH2, i)) (Prod.ext rfl ?_) s3)
    first | exact zr_eq hZ _ (Nat.le_of_ble_eq_true rfl) _ | rfl
  have s1 : am_wp (ax_E xl xs) (ax_cd Y_Packs_init) (am_sp (ax_E xl xs) ax_cd ax_ml d) Q 23 [some (.ref 1)] [] (SH4, i) 3 18 := by
    refine am_go (am_sp_mo _) (fun q => q == 31) 12 (fun X hX => ?_)
    conv => whnf
    try dsimp only
    refine hX _ _ _ _ _ _ (am_wpL rfl (u' := (SH3, i)) (Prod.ext rfl ?_) s2)
    first | exact zr_eq hZ _ (Nat.le_of_ble_eq_true rfl) _ | rfl
  have s0 : am_wp (ax_E xl xs) (ax_cd Y_Packs_init) (am_sp (ax_E xl xs) ax_cd ax_ml d) Q 12 [some (.ref 1)] [] (SH5, i) 10 54 := by
    refine am_go (am_sp_mo _) (fun q => q == 23) 12 (fun X hX => ?_)
    conv => whnf
    try dsimp only
    refine hX _ _ _ _ _ _ (am_wpL rfl (u' := (SH4, i)) (Prod.ext rfl ?_) s1)
    first | exact zr_eq hZ _ (Nat.le_of_ble_eq_true rfl) _ | rfl
  refine ⟨Nat.le_of_ble_eq_true rfl, am_go (am_sp_mo _) (fun q => q == 12) 20 (fun X hX => ?_)⟩
  conv => whnf
  try dsimp only
  refine hX _ _ _ _ _ _ (am_wpL rfl (u' := (SH5, i)) (Prod.ext rfl ?_) s0)
  first | exact zr_eq hZ _ (Nat.le_of_ble_eq_true rfl) _ | rfl
theorem k_Needs_init (hZ : ZR 13 i) (hd : 2 ≤ d) (h : Q none (SH7, i)) : SP xl xs d Y_Needs_init [.ref 13] (SH6, i) Q := by
  obtain ⟨d, rfl⟩ : ∃ q, d = q + 1 := ⟨d - 1, by omega⟩
  have s5 : am_wp (ax_E xl xs) (ax_cd Y_Needs_init) (am_sp (ax_E xl xs) ax_cd ax_ml d) Q 52 [some (.ref 13)] [] (SH7, i) 0 0 := by
    refine am_go (am_sp_mo _) (fun _ => false) 20 (fun X hX => ?_)
    conv => whnf
    try dsimp only
    try rw [up_0 (hZ 13 (Nat.le_refl _))]
    exact h
  have s4 : am_wp (ax_E xl xs) (ax_cd Y_Needs_init) (am_sp (ax_E xl xs) ax_cd ax_ml d) Q 44 [some (.ref 13)] [] (SH8, i) 1 16 := by
    refine am_go (am_sp_mo _) (fun q => q == 52) 12 (fun X hX => ?_)
    conv => whnf
    try dsimp only
    refine hX _ _ _ _ _ _ (am_wpL rfl (u' := (SH7, i)) (Prod.ext rfl ?_) s5)
    first | exact zr_eq hZ _ (Nat.le_of_ble_eq_true rfl) _ | rfl
  have s3 : am_wp (ax_E xl xs) (ax_cd Y_Needs_init) (am_sp (ax_E xl xs) ax_cd ax_ml d) Q 36 [some (.ref 13)] [] (SH9, i) 2 32 := by
    refine am_go (am_sp_mo _) (fun q => q == 44) 12 (fun X hX => ?_)
    conv => whnf
    try dsimp only
    refine hX _ _ _ _ _ _ (am_wpL rfl (u' := (SH8, i)) (Prod.ext rfl ?_) s4)
    first | exact zr_eq hZ _ (Nat.le_of_ble_eq_true rfl) _ | rfl
  have s2 : am_wp (ax_E xl xs) (ax_cd Y_Needs_init) (am_sp (ax_E xl xs) ax_cd ax_ml d) Q 28 [some (.ref 13)] [] (SH10, i) 3 48 := by
    refine am_go (am_sp_mo _) (fun q => q == 36) 12 (fun X hX => ?_)
    conv => whnf
    try dsimp only
    refine hX _ _ _ _ _ _ (am_wpL rfl (u' := (SH9, i)) (Prod.ext rfl ?_) s3)
    first | exact zr_eq hZ _ (Nat.le_of_ble_eq_true rfl) _ | rfl
  have s1 : am_wp (ax_E xl xs) (ax_cd Y_Needs_init) (am_sp (ax_E xl xs) ax_cd ax_ml d) Q 20 [some (.ref 13)] [] (SH11, i) 4 64 := by
    refine am_go (am_sp_mo _) (fun q => q == 28) 12 (fun X hX => ?_)
    conv => whnf
    try dsimp only
    refine hX _ _ _ _ _ _ (am_wpL rfl (u' := (SH10, i)) (Prod.ext rfl ?_) s2)
    first | exact zr_eq hZ _ (Nat.le_of_ble_eq_true rfl) _ | rfl
  have s0 : am_wp (ax_E xl xs) (ax_cd Y_Needs_init) (am_sp (ax_E xl xs) ax_cd ax_ml d) Q 12 [some (.ref 13)] [] (SH12, i) 5 80 := by
    refine am_go (am_sp_mo _) (fun q => q == 20) 12 (fun X hX => ?_)
    conv => whnf
    try dsimp only
    refine hX _ _ _ _ _ _ (am_wpL rfl (u' := (SH11, i)) (Prod.ext rfl ?_) s1)
    first | exact zr_eq hZ _ (Nat.le_of_ble_eq_true rfl) _ | rfl
  refine ⟨Nat.le_of_ble_eq_true rfl, am_go (am_sp_mo _) (fun q => q == 12) 20 (fun X hX => ?_)⟩
  conv => whnf
  try dsimp only
  refine hX _ _ _ _ _ _ (am_wpL rfl (u' := (SH12, i)) (Prod.ext rfl ?_) s0)
  first | exact zr_eq hZ _ (Nat.le_of_ble_eq_true rfl) _ | rfl
theorem k_Advisories_init (hZ : ZR 20 i) (hd : 2 ≤ d) (h : Q none (SH14, i)) : SP xl xs d Y_Advisories_init [.ref 20] (SH13, i) Q := by
  obtain ⟨d, rfl⟩ : ∃ q, d = q + 1 := ⟨d - 1, by omega⟩
  have s6 : am_wp (ax_E xl xs) (ax_cd Y_Advisories_init) (am_sp (ax_E xl xs) ax_cd ax_ml d) Q 66 [some (.ref 20)] [] (SH14, i) 0 0 := by
    refine am_go (am_sp_mo _) (fun _ => false) 20 (fun X hX => ?_)
    conv => whnf
    try dsimp only
    try rw [up_0 (hZ 20 (Nat.le_refl _))]
    exact h
  have s5 : am_wp (ax_E xl xs) (ax_cd Y_Advisories_init) (am_sp (ax_E xl xs) ax_cd ax_ml d) Q 58 [some (.ref 20)] [] (SH15, i) 1 12 := by
    refine am_go (am_sp_mo _) (fun q => q == 66) 12 (fun X hX => ?_)
    conv => whnf
    try dsimp only
    refine hX _ _ _ _ _ _ (am_wpL rfl (u' := (SH14, i)) (Prod.ext rfl ?_) s6)
    first | exact zr_eq hZ _ (Nat.le_of_ble_eq_true rfl) _ | rfl
  have s4 : am_wp (ax_E xl xs) (ax_cd Y_Advisories_init) (am_sp (ax_E xl xs) ax_cd ax_ml d) Q 50 [some (.ref 20)] [] (SH16, i) 2 24 := by
    refine am_go (am_sp_mo _) (fun q => q == 58) 12 (fun X hX => ?_)
    conv => whnf
    try dsimp only
    refine hX _ _ _ _ _ _ (am_wpL rfl (u' := (SH15, i)) (Prod.ext rfl ?_) s5)
    first | exact zr_eq hZ _ (Nat.le_of_ble_eq_true rfl) _ | rfl
  have s3 : am_wp (ax_E xl xs) (ax_cd Y_Advisories_init) (am_sp (ax_E xl xs) ax_cd ax_ml d) Q 42 [some (.ref 20)] [] (SH17, i) 3 36 := by
    refine am_go (am_sp_mo _) (fun q => q == 50) 12 (fun X hX => ?_)
    conv => whnf
    try dsimp only
    refine hX _ _ _ _ _ _ (am_wpL rfl (u' := (SH16, i)) (Prod.ext rfl ?_) s4)
    first | exact zr_eq hZ _ (Nat.le_of_ble_eq_true rfl) _ | rfl
  have s2 : am_wp (ax_E xl xs) (ax_cd Y_Advisories_init) (am_sp (ax_E xl xs) ax_cd ax_ml d) Q 34 [some (.ref 20)] [] (SH18, i) 4 48 := by
    refine am_go (am_sp_mo _) (fun q => q == 42) 12 (fun X hX => ?_)
    conv => whnf
    try dsimp only
    refine hX _ _ _ _ _ _ (am_wpL rfl (u' := (SH17, i)) (Prod.ext rfl ?_) s3)
    first | exact zr_eq hZ _ (Nat.le_of_ble_eq_true rfl) _ | rfl
  have s1 : am_wp (ax_E xl xs) (ax_cd Y_Advisories_init) (am_sp (ax_E xl xs) ax_cd ax_ml d) Q 23 [some (.ref 20)] [] (SH19, i) 17 96 := by
    refine am_go (am_sp_mo _) (fun q => q == 34) 12 (fun X hX => ?_)
    conv => whnf
    try dsimp only
    refine hX _ _ _ _ _ _ (am_wpL rfl (u' := (SH18, i)) (Prod.ext rfl ?_) s2)
    first | exact zr_eq hZ _ (Nat.le_of_ble_eq_true rfl) _ | rfl
  have s0 : am_wp (ax_E xl xs) (ax_cd Y_Advisories_init) (am_sp (ax_E xl xs) ax_cd ax_ml d) Q 12 [some (.ref 20)] [] (SH20, i) 30 144 := by
    refine am_go (am_sp_mo _) (fun q => q == 23) 12 (fun X hX => ?_)
    conv => whnf
    try dsimp only
    refine hX _ _ _ _ _ _ (am_wpL rfl (u' := (SH19, i)) (Prod.ext rfl ?_) s1)
    first | exact zr_eq hZ _ (Nat.le_of_ble_eq_true rfl) _ | rfl
  refine ⟨Nat.le_of_ble_eq_true rfl, am_go (am_sp_mo _) (fun q => q == 12) 20 (fun X hX => ?_)⟩
  conv => whnf
  try dsimp only
  refine hX _ _ _ _ _ _ (am_wpL rfl (u' := (SH20, i)) (Prod.ext rfl ?_) s0)
  first | exact zr_eq hZ _ (Nat.le_of_ble_eq_true rfl) _ | rfl
theorem k_Exceptions_init (hZ : ZR 52 i) (hd : 2 ≤ d) (h : Q none (SH22, i)) : SP xl xs d Y_Exceptions_init [.ref 52] (SH21, i) Q := by
  obtain ⟨d, rfl⟩ : ∃ q, d = q + 1 := ⟨d - 1, by omega⟩
  have s0 : am_wp (ax_E xl xs) (ax_cd Y_Exceptions_init) (am_sp (ax_E xl xs) ax_cd ax_ml d) Q 16 [some (.ref 52)] [] (SH22, i) 0 0 := by
    refine am_go (am_sp_mo _) (fun _ => false) 20 (fun X hX => ?_)
    conv => whnf
    try dsimp only
    try rw [up_0 (hZ 52 (Nat.le_refl _))]
    exact h
  refine ⟨Nat.le_of_ble_eq_true rfl, am_go (am_sp_mo _) (fun q => q == 16) 20 (fun X hX => ?_)⟩
  conv => whnf
  try dsimp only
  refine hX _ _ _ _ _ _ (am_wpL rfl (u' := (SH22, i)) (Prod.ext rfl ?_) s0)
  first | exact zr_eq hZ _ (Nat.le_of_ble_eq_true rfl) _ | rfl
theorem k_HitList_init (hZ : ZR 70 i) (hd : 2 ≤ d) (h : Q none (SH24, i)) : SP xl xs d Y_HitList_init [.ref 70] (SH23, i) Q := by
  obtain ⟨d, rfl⟩ : ∃ q, d = q + 1 := ⟨d - 1, by omega⟩
  have s0 : am_wp (ax_E xl xs) (ax_cd Y_HitList_init) (am_sp (ax_E xl xs) ax_cd ax_ml d) Q 16 [some (.ref 70)] [] (SH24, i) 0 0 := by
    refine am_go (am_sp_mo _) (fun _ => false) 20 (fun X hX => ?_)
    conv => whnf
    try dsimp only
    try rw [up_0 (hZ 70 (Nat.le_refl _))]
    exact h
  refine ⟨Nat.le_of_ble_eq_true rfl, am_go (am_sp_mo _) (fun q => q == 16) 20 (fun X hX => ?_)⟩
  conv => whnf
  try dsimp only
  refine hX _ _ _ _ _ _ (am_wpL rfl (u' := (SH24, i)) (Prod.ext rfl ?_) s0)
  first | exact zr_eq hZ _ (Nat.le_of_ble_eq_true rfl) _ | rfl
theorem k_Ways_init0 (hZ : ZR 66 i) (hd : 2 ≤ d) (h : ∀ j : Nat → Nat → Int32, (∀ q, q ≠ 66 → q ≠ 67 → j q = i q) → j 66 2 = 0 → (∀ k, k < 6 → j 67 k = -1) → Q none (SH26, j)) : SP xl xs d Y_Ways_init [.ref 66, .ref 1, .ref 13, .int (Int32.ofInt 0)] (SH25, i) Q := by
  obtain ⟨d, rfl⟩ : ∃ q, d = q + 1 := ⟨d - 1, by omega⟩
  have s2 : am_wp (ax_E xl xs) (ax_cd Y_Ways_init) (am_sp (ax_E xl xs) ax_cd ax_ml d) Q 22 [some (.ref 66), some (.ref 1), some (.ref 13), some (.int (Int32.ofInt 0))] [] (SH26, i) 0 0 := by
    refine am_go (am_sp_mo _) (fun _ => false) 30 (fun X hX => ?_)
    conv => whnf
    try dsimp only
    refine ⟨by decide, ?_⟩
    conv => whnf
    try dsimp only
    refine sp_cast (As' := [.ref 67, .int (-1)]) (u' := (SH26, am_up i 66 2 (Int32.ofInt 0))) rfl rfl (k_fill (n := 6) rfl (by decide) (by omega) (fun j g1 g2 => ?_))
    conv => whnf
    try dsimp only
    refine h j (fun q q1 q2 => (g1 q q2).trans (up_a q1)) ?_ (fun k hk => ?_)
    · rw [g1 66 (by decide), up_s]; try decide
    · rw [g2, if_pos hk]
  have s1 : am_wp (ax_E xl xs) (ax_cd Y_Ways_init) (am_sp (ax_E xl xs) ax_cd ax_ml d) Q 17 [some (.ref 66), some (.ref 1), some (.ref 13), some (.int (Int32.ofInt 0))] [] (SH27, i) 0 0 := by
    refine am_go (am_sp_mo _) (fun q => q == 22) 12 (fun X hX => ?_)
    conv => whnf
    try dsimp only
    refine hX _ _ _ _ _ _ (am_wpL rfl (u' := (SH26, i)) (Prod.ext rfl ?_) s2)
    first | exact zr_eq hZ _ (Nat.le_of_ble_eq_true rfl) _ | rfl
  have s0 : am_wp (ax_E xl xs) (ax_cd Y_Ways_init) (am_sp (ax_E xl xs) ax_cd ax_ml d) Q 12 [some (.ref 66), some (.ref 1), some (.ref 13), some (.int (Int32.ofInt 0))] [] (SH28, i) 0 0 := by
    refine am_go (am_sp_mo _) (fun q => q == 17) 12 (fun X hX => ?_)
    conv => whnf
    try dsimp only
    refine hX _ _ _ _ _ _ (am_wpL rfl (u' := (SH27, i)) (Prod.ext rfl ?_) s1)
    first | exact zr_eq hZ _ (Nat.le_of_ble_eq_true rfl) _ | rfl
  refine ⟨Nat.le_of_ble_eq_true rfl, am_go (am_sp_mo _) (fun q => q == 12) 20 (fun X hX => ?_)⟩
  conv => whnf
  try dsimp only
  refine hX _ _ _ _ _ _ (am_wpL rfl (u' := (SH28, i)) (Prod.ext rfl ?_) s0)
  first | exact zr_eq hZ _ (Nat.le_of_ble_eq_true rfl) _ | rfl
theorem k_Ways_init1 (hZ : ZR 68 i) (hd : 2 ≤ d) (h : ∀ j : Nat → Nat → Int32, (∀ q, q ≠ 68 → q ≠ 69 → j q = i q) → j 68 2 = 1 → (∀ k, k < 6 → j 69 k = -1) → Q none (SH30, j)) : SP xl xs d Y_Ways_init [.ref 68, .ref 1, .ref 13, .int (Int32.ofInt 1)] (SH29, i) Q := by
  obtain ⟨d, rfl⟩ : ∃ q, d = q + 1 := ⟨d - 1, by omega⟩
  have s2 : am_wp (ax_E xl xs) (ax_cd Y_Ways_init) (am_sp (ax_E xl xs) ax_cd ax_ml d) Q 22 [some (.ref 68), some (.ref 1), some (.ref 13), some (.int (Int32.ofInt 1))] [] (SH30, i) 0 0 := by
    refine am_go (am_sp_mo _) (fun _ => false) 30 (fun X hX => ?_)
    conv => whnf
    try dsimp only
    refine ⟨by decide, ?_⟩
    conv => whnf
    try dsimp only
    refine sp_cast (As' := [.ref 69, .int (-1)]) (u' := (SH30, am_up i 68 2 (Int32.ofInt 1))) rfl rfl (k_fill (n := 6) rfl (by decide) (by omega) (fun j g1 g2 => ?_))
    conv => whnf
    try dsimp only
    refine h j (fun q q1 q2 => (g1 q q2).trans (up_a q1)) ?_ (fun k hk => ?_)
    · rw [g1 68 (by decide), up_s]; try decide
    · rw [g2, if_pos hk]
  have s1 : am_wp (ax_E xl xs) (ax_cd Y_Ways_init) (am_sp (ax_E xl xs) ax_cd ax_ml d) Q 17 [some (.ref 68), some (.ref 1), some (.ref 13), some (.int (Int32.ofInt 1))] [] (SH31, i) 0 0 := by
    refine am_go (am_sp_mo _) (fun q => q == 22) 12 (fun X hX => ?_)
    conv => whnf
    try dsimp only
    refine hX _ _ _ _ _ _ (am_wpL rfl (u' := (SH30, i)) (Prod.ext rfl ?_) s2)
    first | exact zr_eq hZ _ (Nat.le_of_ble_eq_true rfl) _ | rfl
  have s0 : am_wp (ax_E xl xs) (ax_cd Y_Ways_init) (am_sp (ax_E xl xs) ax_cd ax_ml d) Q 12 [some (.ref 68), some (.ref 1), some (.ref 13), some (.int (Int32.ofInt 1))] [] (SH32, i) 0 0 := by
    refine am_go (am_sp_mo _) (fun q => q == 17) 12 (fun X hX => ?_)
    conv => whnf
    try dsimp only
    refine hX _ _ _ _ _ _ (am_wpL rfl (u' := (SH31, i)) (Prod.ext rfl ?_) s1)
    first | exact zr_eq hZ _ (Nat.le_of_ble_eq_true rfl) _ | rfl
  refine ⟨Nat.le_of_ble_eq_true rfl, am_go (am_sp_mo _) (fun q => q == 12) 20 (fun X hX => ?_)⟩
  conv => whnf
  try dsimp only
  refine hX _ _ _ _ _ _ (am_wpL rfl (u' := (SH32, i)) (Prod.ext rfl ?_) s0)
  first | exact zr_eq hZ _ (Nat.le_of_ble_eq_true rfl) _ | rfl
theorem k_Planner_init (hZ : ZR 84 i) (hd : 2 ≤ d) (h : ∀ j : Nat → Nat → Int32, (∀ q, q ≠ 84 → q ≠ 87 → q ≠ 88 → j q = i q) → j 84 7 = 0 → (∀ k, k < 6 → j 88 k = -1) → Q none (SH34, j)) : SP xl xs d Y_Planner_init [.ref 84, .ref 1, .ref 13] (SH33, i) Q := by
  obtain ⟨d, rfl⟩ : ∃ q, d = q + 1 := ⟨d - 1, by omega⟩
  have s5 : am_wp (ax_E xl xs) (ax_cd Y_Planner_init) (am_sp (ax_E xl xs) ax_cd ax_ml d) Q 46 [some (.ref 84), some (.ref 1), some (.ref 13)] [] (SH34, i) 0 0 := by
    refine am_go (am_sp_mo _) (fun _ => false) 40 (fun X hX => ?_)
    conv => whnf
    try dsimp only
    refine sp_cast (As' := [.ref 87, .int (-1)]) (u' := (SH34, i)) rfl rfl (k_fill (n := 6) rfl (by decide) (by omega) (fun j g1 g2 => ?_))
    conv => whnf
    try dsimp only
    refine sp_cast (As' := [.ref 88, .int (-1)]) (u' := (SH34, j)) rfl rfl (k_fill (n := 6) rfl (by decide) (by omega) (fun j2 k1 k2 => ?_))
    conv => whnf
    try dsimp only
    refine ⟨by decide, ?_⟩
    conv => whnf
    try dsimp only
    refine h _ (fun q q1 q2 q3 => by rw [up_a q1, up_a q1, k1 q q3, g1 q q2]) (by rw [up_s]; try decide) (fun k hk => ?_)
    rw [up_n (Or.inl (by decide)), up_n (Or.inl (by decide)), k2, if_pos hk]
  have s4 : am_wp (ax_E xl xs) (ax_cd Y_Planner_init) (am_sp (ax_E xl xs) ax_cd ax_ml d) Q 41 [some (.ref 84), some (.ref 1), some (.ref 13)] [] (SH35, i) 0 0 := by
    refine am_go (am_sp_mo _) (fun q => q == 46) 12 (fun X hX => ?_)
    conv => whnf
    try dsimp only
    refine hX _ _ _ _ _ _ (am_wpL rfl (u' := (SH34, i)) (Prod.ext rfl ?_) s5)
    first | exact zr_eq hZ _ (Nat.le_of_ble_eq_true rfl) _ | rfl
  have s3 : am_wp (ax_E xl xs) (ax_cd Y_Planner_init) (am_sp (ax_E xl xs) ax_cd ax_ml d) Q 36 [some (.ref 84), some (.ref 1), some (.ref 13)] [] (SH36, i) 0 0 := by
    refine am_go (am_sp_mo _) (fun q => q == 41) 12 (fun X hX => ?_)
    conv => whnf
    try dsimp only
    refine hX _ _ _ _ _ _ (am_wpL rfl (u' := (SH35, i)) (Prod.ext rfl ?_) s4)
    first | exact zr_eq hZ _ (Nat.le_of_ble_eq_true rfl) _ | rfl
  have s2 : am_wp (ax_E xl xs) (ax_cd Y_Planner_init) (am_sp (ax_E xl xs) ax_cd ax_ml d) Q 28 [some (.ref 84), some (.ref 1), some (.ref 13)] [] (SH37, i) 1 6 := by
    refine am_go (am_sp_mo _) (fun q => q == 36) 12 (fun X hX => ?_)
    conv => whnf
    try dsimp only
    refine hX _ _ _ _ _ _ (am_wpL rfl (u' := (SH36, i)) (Prod.ext rfl ?_) s3)
    first | exact zr_eq hZ _ (Nat.le_of_ble_eq_true rfl) _ | rfl
  have s1 : am_wp (ax_E xl xs) (ax_cd Y_Planner_init) (am_sp (ax_E xl xs) ax_cd ax_ml d) Q 20 [some (.ref 84), some (.ref 1), some (.ref 13)] [] (SH38, i) 2 12 := by
    refine am_go (am_sp_mo _) (fun q => q == 28) 12 (fun X hX => ?_)
    conv => whnf
    try dsimp only
    refine hX _ _ _ _ _ _ (am_wpL rfl (u' := (SH37, i)) (Prod.ext rfl ?_) s2)
    first | exact zr_eq hZ _ (Nat.le_of_ble_eq_true rfl) _ | rfl
  have s0 : am_wp (ax_E xl xs) (ax_cd Y_Planner_init) (am_sp (ax_E xl xs) ax_cd ax_ml d) Q 12 [some (.ref 84), some (.ref 1), some (.ref 13)] [] (SH39, i) 3 18 := by
    refine am_go (am_sp_mo _) (fun q => q == 20) 12 (fun X hX => ?_)
    conv => whnf
    try dsimp only
    refine hX _ _ _ _ _ _ (am_wpL rfl (u' := (SH38, i)) (Prod.ext rfl ?_) s1)
    first | exact zr_eq hZ _ (Nat.le_of_ble_eq_true rfl) _ | rfl
  refine ⟨Nat.le_of_ble_eq_true rfl, am_go (am_sp_mo _) (fun q => q == 12) 20 (fun X hX => ?_)⟩
  conv => whnf
  try dsimp only
  refine hX _ _ _ _ _ _ (am_wpL rfl (u' := (SH39, i)) (Prod.ext rfl ?_) s0)
  first | exact zr_eq hZ _ (Nat.le_of_ble_eq_true rfl) _ | rfl
set_option maxRecDepth 20000 in
theorem k_Model_init (hZ : ZR 89 i) (hd : 2 ≤ d) (h : ∀ j : Nat → Nat → Int32, (∀ q, q ≠ 93 → q ≠ 107 → q ≠ 114 → j q = i q) → (∀ k, k < 6 → j 93 k = -1) → (∀ k, k < 72 → j 107 k = -1) → (∀ k, k < 6 → j 114 k = -1) → Q none (KS, j)) : SP xl xs d Y_Model_init [.ref 89] (SH40, i) Q := by
  have two : ∀ d m p (j : Nat → Nat → Int32), p + m = 72 → (∀ q, q ≠ 93 → q ≠ 107 → q ≠ 114 → j q = i q) → (∀ k, k < 6 → j 93 k = -1) → (∀ k, k < p → j 107 k = -1) → (∀ k, k < 6 → j 114 k = -1) → am_wp (ax_E xl xs) (ax_cd Y_Model_init) (am_sp (ax_E xl xs) ax_cd ax_ml d) Q 235 [some (.ref 89), some (.int (nI p))] [] (KS, j) 0 0 := by
    intro d m
    induction m with
    | zero =>
      intro p j hp g1 g2 g3 g4
      have : p = 72 := by omega
      subst this
      refine am_go (am_sp_mo _) (fun q => q == 235) 20 (fun X hX => ?_)
      conv => whnf
      try dsimp only
      refine ⟨fun _ => ?_, fun hh => absurd (by decide) hh⟩
      conv => whnf
      try dsimp only
      exact h j g1 g2 g3 g4
    | succ m ih =>
      intro p j hp g1 g2 g3 g4
      refine am_go (am_sp_mo _) (fun q => q == 235) 20 (fun X hX => ?_)
      conv => whnf
      try dsimp only
      refine ⟨fun hh => absurd hh (by rw [show Int32.ofInt 72 = nI 72 by decide]; exact nI_ge (by omega) (by decide)), fun _ => ?_⟩
      conv => whnf
      try dsimp only
      refine ⟨72, [], rfl, vp_in_nI (by omega) (by decide), ?_⟩
      conv => whnf
      try dsimp only
      rw [nI_clamp (show p < 2 ^ 31 by omega), show nI p + Int32.ofInt 1 = nI (p + 1) by rw [li_1, nI_add]]
      refine hX _ _ _ _ _ _ (ih (p + 1) _ (by omega) (fun q q1 q2 q3 => (up_a q2).trans (g1 q q1 q2 q3)) (fun k hk => by rw [up_n (Or.inl (by decide))]; exact g2 k hk) (fun k hk => ?_) (fun k hk => by rw [up_n (Or.inl (by decide))]; exact g4 k hk))
      rw [up_at]
      by_cases e : k = p
      · rw [if_pos ⟨rfl, e⟩]; try decide
      · rw [if_neg (fun z => e z.2)]; exact g3 k (by omega)
  have one : ∀ d m p (j : Nat → Nat → Int32), p + m = 6 → (∀ q, q ≠ 93 → q ≠ 107 → q ≠ 114 → j q = i q) → (∀ k, k < p → j 93 k = -1) → (∀ k, k < p → j 114 k = -1) → am_wp (ax_E xl xs) (ax_cd Y_Model_init) (am_sp (ax_E xl xs) ax_cd ax_ml d) Q 207 [some (.ref 89), some (.int (nI p))] [] (KS, j) 0 0 := by
    intro d m
    induction m with
    | zero =>
      intro p j hp g1 g2 g3
      have : p = 6 := by omega
      subst this
      refine am_go (am_sp_mo _) (fun q => q == 207 || q == 235) 20 (fun X hX => ?_)
      conv => whnf
      try dsimp only
      refine ⟨fun _ => ?_, fun hh => absurd (by decide) hh⟩
      conv => whnf
      try dsimp only
      exact hX _ _ _ _ _ _ (two d 72 0 j (by omega) g1 g2 (fun k hk => absurd hk (by omega)) g3)
    | succ m ih =>
      intro p j hp g1 g2 g3
      refine am_go (am_sp_mo _) (fun q => q == 207) 20 (fun X hX => ?_)
      conv => whnf
      try dsimp only
      refine ⟨fun hh => absurd hh (by rw [li_6]; exact nI_ge (by omega) (by decide)), fun _ => ?_⟩
      conv => whnf
      try dsimp only
      refine ⟨6, [], rfl, vp_in_nI (by omega) (by decide), ?_⟩
      conv => whnf
      try dsimp only
      refine ⟨6, [], rfl, vp_in_nI (by omega) (by decide), ?_⟩
      conv => whnf
      try dsimp only
      rw [nI_clamp (show p < 2 ^ 31 by omega), show nI p + Int32.ofInt 1 = nI (p + 1) by rw [li_1, nI_add]]
      refine hX _ _ _ _ _ _ (ih (p + 1) _ (by omega) (fun q q1 q2 q3 => by rw [up_a q3, up_a q1]; exact g1 q q1 q2 q3) (fun k hk => ?_) (fun k hk => ?_))
      · rw [up_n (Or.inl (by decide)), up_at]
        by_cases e : k = p
        · rw [if_pos ⟨rfl, e⟩]; try decide
        · rw [if_neg (fun z => e z.2)]; exact g2 k (by omega)
      · rw [up_at]
        by_cases e : k = p
        · rw [if_pos ⟨rfl, e⟩]; try decide
        · rw [if_neg (fun z => e z.2), up_n (Or.inl (by decide))]; exact g3 k (by omega)
  obtain ⟨d, rfl⟩ : ∃ q, d = q + 1 := ⟨d - 1, by omega⟩
  have s24 : am_wp (ax_E xl xs) (ax_cd Y_Model_init) (am_sp (ax_E xl xs) ax_cd ax_ml d) Q 205 [some (.ref 89), none] [] (KS, i) 0 0 := by
    refine am_go (am_sp_mo _) (fun q => q == 207) 20 (fun X hX => ?_)
    conv => whnf
    try dsimp only
    exact hX _ _ _ _ _ _ (one d 6 0 i (by omega) (fun _ _ _ _ => rfl) (fun k hk => absurd hk (by omega)) (fun k hk => absurd hk (by omega)))
  have s23 : am_wp (ax_E xl xs) (ax_cd Y_Model_init) (am_sp (ax_E xl xs) ax_cd ax_ml d) Q 197 [some (.ref 89), none] [] (SH41, i) 1 6 := by
    refine am_go (am_sp_mo _) (fun q => q == 205) 12 (fun X hX => ?_)
    conv => whnf
    try dsimp only
    refine hX _ _ _ _ _ _ (am_wpL rfl (u' := (KS, i)) (Prod.ext rfl ?_) s24)
    first | exact zr_eq hZ _ (Nat.le_of_ble_eq_true rfl) _ | rfl
  have s22 : am_wp (ax_E xl xs) (ax_cd Y_Model_init) (am_sp (ax_E xl xs) ax_cd ax_ml d) Q 189 [some (.ref 89), none] [] (SH42, i) 2 12 := by
    refine am_go (am_sp_mo _) (fun q => q == 197) 12 (fun X hX => ?_)
    conv => whnf
    try dsimp only
    refine hX _ _ _ _ _ _ (am_wpL rfl (u' := (SH41, i)) (Prod.ext rfl ?_) s23)
    first | exact zr_eq hZ _ (Nat.le_of_ble_eq_true rfl) _ | rfl
  have s21 : am_wp (ax_E xl xs) (ax_cd Y_Model_init) (am_sp (ax_E xl xs) ax_cd ax_ml d) Q 181 [some (.ref 89), none] [] (SH43, i) 3 42 := by
    refine am_go (am_sp_mo _) (fun q => q == 189) 12 (fun X hX => ?_)
    conv => whnf
    try dsimp only
    refine hX _ _ _ _ _ _ (am_wpL rfl (u' := (SH42, i)) (Prod.ext rfl ?_) s22)
    first | exact zr_eq hZ _ (Nat.le_of_ble_eq_true rfl) _ | rfl
  have s20 : am_wp (ax_E xl xs) (ax_cd Y_Model_init) (am_sp (ax_E xl xs) ax_cd ax_ml d) Q 173 [some (.ref 89), none] [] (SH44, i) 4 48 := by
    refine am_go (am_sp_mo _) (fun q => q == 181) 12 (fun X hX => ?_)
    conv => whnf
    try dsimp only
    refine hX _ _ _ _ _ _ (am_wpL rfl (u' := (SH43, i)) (Prod.ext rfl ?_) s21)
    first | exact zr_eq hZ _ (Nat.le_of_ble_eq_true rfl) _ | rfl
  have s19 : am_wp (ax_E xl xs) (ax_cd Y_Model_init) (am_sp (ax_E xl xs) ax_cd ax_ml d) Q 165 [some (.ref 89), none] [] (SH45, i) 5 54 := by
    refine am_go (am_sp_mo _) (fun q => q == 173) 12 (fun X hX => ?_)
    conv => whnf
    try dsimp only
    refine hX _ _ _ _ _ _ (am_wpL rfl (u' := (SH44, i)) (Prod.ext rfl ?_) s20)
    first | exact zr_eq hZ _ (Nat.le_of_ble_eq_true rfl) _ | rfl
  have s18 : am_wp (ax_E xl xs) (ax_cd Y_Model_init) (am_sp (ax_E xl xs) ax_cd ax_ml d) Q 157 [some (.ref 89), none] [] (SH46, i) 6 60 := by
    refine am_go (am_sp_mo _) (fun q => q == 165) 12 (fun X hX => ?_)
    conv => whnf
    try dsimp only
    refine hX _ _ _ _ _ _ (am_wpL rfl (u' := (SH45, i)) (Prod.ext rfl ?_) s19)
    first | exact zr_eq hZ _ (Nat.le_of_ble_eq_true rfl) _ | rfl
  have s17 : am_wp (ax_E xl xs) (ax_cd Y_Model_init) (am_sp (ax_E xl xs) ax_cd ax_ml d) Q 148 [some (.ref 89), none] [] (SH47, i) 7 492 := by
    refine am_go (am_sp_mo _) (fun q => q == 157) 12 (fun X hX => ?_)
    conv => whnf
    try dsimp only
    refine hX _ _ _ _ _ _ (am_wpL rfl (u' := (SH46, i)) (Prod.ext rfl ?_) s18)
    first | exact zr_eq hZ _ (Nat.le_of_ble_eq_true rfl) _ | rfl
  have s16 : am_wp (ax_E xl xs) (ax_cd Y_Model_init) (am_sp (ax_E xl xs) ax_cd ax_ml d) Q 140 [some (.ref 89), none] [] (SH48, i) 8 564 := by
    refine am_go (am_sp_mo _) (fun q => q == 148) 12 (fun X hX => ?_)
    conv => whnf
    try dsimp only
    refine hX _ _ _ _ _ _ (am_wpL rfl (u' := (SH47, i)) (Prod.ext rfl ?_) s17)
    first | exact zr_eq hZ _ (Nat.le_of_ble_eq_true rfl) _ | rfl
  have s15 : am_wp (ax_E xl xs) (ax_cd Y_Model_init) (am_sp (ax_E xl xs) ax_cd ax_ml d) Q 132 [some (.ref 89), none] [] (SH49, i) 9 576 := by
    refine am_go (am_sp_mo _) (fun q => q == 140) 12 (fun X hX => ?_)
    conv => whnf
    try dsimp only
    refine hX _ _ _ _ _ _ (am_wpL rfl (u' := (SH48, i)) (Prod.ext rfl ?_) s16)
    first | exact zr_eq hZ _ (Nat.le_of_ble_eq_true rfl) _ | rfl
  have s14 : am_wp (ax_E xl xs) (ax_cd Y_Model_init) (am_sp (ax_E xl xs) ax_cd ax_ml d) Q 124 [some (.ref 89), none] [] (SH50, i) 10 588 := by
    refine am_go (am_sp_mo _) (fun q => q == 132) 12 (fun X hX => ?_)
    conv => whnf
    try dsimp only
    refine hX _ _ _ _ _ _ (am_wpL rfl (u' := (SH49, i)) (Prod.ext rfl ?_) s15)
    first | exact zr_eq hZ _ (Nat.le_of_ble_eq_true rfl) _ | rfl
  have s13 : am_wp (ax_E xl xs) (ax_cd Y_Model_init) (am_sp (ax_E xl xs) ax_cd ax_ml d) Q 116 [some (.ref 89), none] [] (SH51, i) 11 672 := by
    refine am_go (am_sp_mo _) (fun q => q == 124) 12 (fun X hX => ?_)
    conv => whnf
    try dsimp only
    refine hX _ _ _ _ _ _ (am_wpL rfl (u' := (SH50, i)) (Prod.ext rfl ?_) s14)
    first | exact zr_eq hZ _ (Nat.le_of_ble_eq_true rfl) _ | rfl
  have s12 : am_wp (ax_E xl xs) (ax_cd Y_Model_init) (am_sp (ax_E xl xs) ax_cd ax_ml d) Q 108 [some (.ref 89), none] [] (SH52, i) 12 708 := by
    refine am_go (am_sp_mo _) (fun q => q == 116) 12 (fun X hX => ?_)
    conv => whnf
    try dsimp only
    refine hX _ _ _ _ _ _ (am_wpL rfl (u' := (SH51, i)) (Prod.ext rfl ?_) s13)
    first | exact zr_eq hZ _ (Nat.le_of_ble_eq_true rfl) _ | rfl
  have s11 : am_wp (ax_E xl xs) (ax_cd Y_Model_init) (am_sp (ax_E xl xs) ax_cd ax_ml d) Q 100 [some (.ref 89), none] [] (SH53, i) 13 744 := by
    refine am_go (am_sp_mo _) (fun q => q == 108) 12 (fun X hX => ?_)
    conv => whnf
    try dsimp only
    refine hX _ _ _ _ _ _ (am_wpL rfl (u' := (SH52, i)) (Prod.ext rfl ?_) s12)
    first | exact zr_eq hZ _ (Nat.le_of_ble_eq_true rfl) _ | rfl
  have s10 : am_wp (ax_E xl xs) (ax_cd Y_Model_init) (am_sp (ax_E xl xs) ax_cd ax_ml d) Q 92 [some (.ref 89), none] [] (SH54, i) 14 756 := by
    refine am_go (am_sp_mo _) (fun q => q == 100) 12 (fun X hX => ?_)
    conv => whnf
    try dsimp only
    refine hX _ _ _ _ _ _ (am_wpL rfl (u' := (SH53, i)) (Prod.ext rfl ?_) s11)
    first | exact zr_eq hZ _ (Nat.le_of_ble_eq_true rfl) _ | rfl
  have s9 : am_wp (ax_E xl xs) (ax_cd Y_Model_init) (am_sp (ax_E xl xs) ax_cd ax_ml d) Q 84 [some (.ref 89), none] [] (SH55, i) 15 768 := by
    refine am_go (am_sp_mo _) (fun q => q == 92) 12 (fun X hX => ?_)
    conv => whnf
    try dsimp only
    refine hX _ _ _ _ _ _ (am_wpL rfl (u' := (SH54, i)) (Prod.ext rfl ?_) s10)
    first | exact zr_eq hZ _ (Nat.le_of_ble_eq_true rfl) _ | rfl
  have s8 : am_wp (ax_E xl xs) (ax_cd Y_Model_init) (am_sp (ax_E xl xs) ax_cd ax_ml d) Q 76 [some (.ref 89), none] [] (SH56, i) 16 784 := by
    refine am_go (am_sp_mo _) (fun q => q == 84) 12 (fun X hX => ?_)
    conv => whnf
    try dsimp only
    refine hX _ _ _ _ _ _ (am_wpL rfl (u' := (SH55, i)) (Prod.ext rfl ?_) s9)
    first | exact zr_eq hZ _ (Nat.le_of_ble_eq_true rfl) _ | rfl
  have s7 : am_wp (ax_E xl xs) (ax_cd Y_Model_init) (am_sp (ax_E xl xs) ax_cd ax_ml d) Q 68 [some (.ref 89), none] [] (SH57, i) 17 800 := by
    refine am_go (am_sp_mo _) (fun q => q == 76) 12 (fun X hX => ?_)
    conv => whnf
    try dsimp only
    refine hX _ _ _ _ _ _ (am_wpL rfl (u' := (SH56, i)) (Prod.ext rfl ?_) s8)
    first | exact zr_eq hZ _ (Nat.le_of_ble_eq_true rfl) _ | rfl
  have s6 : am_wp (ax_E xl xs) (ax_cd Y_Model_init) (am_sp (ax_E xl xs) ax_cd ax_ml d) Q 60 [some (.ref 89), none] [] (SH58, i) 18 816 := by
    refine am_go (am_sp_mo _) (fun q => q == 68) 12 (fun X hX => ?_)
    conv => whnf
    try dsimp only
    refine hX _ _ _ _ _ _ (am_wpL rfl (u' := (SH57, i)) (Prod.ext rfl ?_) s7)
    first | exact zr_eq hZ _ (Nat.le_of_ble_eq_true rfl) _ | rfl
  have s5 : am_wp (ax_E xl xs) (ax_cd Y_Model_init) (am_sp (ax_E xl xs) ax_cd ax_ml d) Q 52 [some (.ref 89), none] [] (SH59, i) 19 832 := by
    refine am_go (am_sp_mo _) (fun q => q == 60) 12 (fun X hX => ?_)
    conv => whnf
    try dsimp only
    refine hX _ _ _ _ _ _ (am_wpL rfl (u' := (SH58, i)) (Prod.ext rfl ?_) s6)
    first | exact zr_eq hZ _ (Nat.le_of_ble_eq_true rfl) _ | rfl
  have s4 : am_wp (ax_E xl xs) (ax_cd Y_Model_init) (am_sp (ax_E xl xs) ax_cd ax_ml d) Q 44 [some (.ref 89), none] [] (SH60, i) 20 848 := by
    refine am_go (am_sp_mo _) (fun q => q == 52) 12 (fun X hX => ?_)
    conv => whnf
    try dsimp only
    refine hX _ _ _ _ _ _ (am_wpL rfl (u' := (SH59, i)) (Prod.ext rfl ?_) s5)
    first | exact zr_eq hZ _ (Nat.le_of_ble_eq_true rfl) _ | rfl
  have s3 : am_wp (ax_E xl xs) (ax_cd Y_Model_init) (am_sp (ax_E xl xs) ax_cd ax_ml d) Q 36 [some (.ref 89), none] [] (SH61, i) 21 864 := by
    refine am_go (am_sp_mo _) (fun q => q == 44) 12 (fun X hX => ?_)
    conv => whnf
    try dsimp only
    refine hX _ _ _ _ _ _ (am_wpL rfl (u' := (SH60, i)) (Prod.ext rfl ?_) s4)
    first | exact zr_eq hZ _ (Nat.le_of_ble_eq_true rfl) _ | rfl
  have s2 : am_wp (ax_E xl xs) (ax_cd Y_Model_init) (am_sp (ax_E xl xs) ax_cd ax_ml d) Q 28 [some (.ref 89), none] [] (SH62, i) 22 870 := by
    refine am_go (am_sp_mo _) (fun q => q == 36) 12 (fun X hX => ?_)
    conv => whnf
    try dsimp only
    refine hX _ _ _ _ _ _ (am_wpL rfl (u' := (SH61, i)) (Prod.ext rfl ?_) s3)
    first | exact zr_eq hZ _ (Nat.le_of_ble_eq_true rfl) _ | rfl
  have s1 : am_wp (ax_E xl xs) (ax_cd Y_Model_init) (am_sp (ax_E xl xs) ax_cd ax_ml d) Q 20 [some (.ref 89), none] [] (SH63, i) 23 900 := by
    refine am_go (am_sp_mo _) (fun q => q == 28) 12 (fun X hX => ?_)
    conv => whnf
    try dsimp only
    refine hX _ _ _ _ _ _ (am_wpL rfl (u' := (SH62, i)) (Prod.ext rfl ?_) s2)
    first | exact zr_eq hZ _ (Nat.le_of_ble_eq_true rfl) _ | rfl
  have s0 : am_wp (ax_E xl xs) (ax_cd Y_Model_init) (am_sp (ax_E xl xs) ax_cd ax_ml d) Q 12 [some (.ref 89), none] [] (SH64, i) 24 906 := by
    refine am_go (am_sp_mo _) (fun q => q == 20) 12 (fun X hX => ?_)
    conv => whnf
    try dsimp only
    refine hX _ _ _ _ _ _ (am_wpL rfl (u' := (SH63, i)) (Prod.ext rfl ?_) s1)
    first | exact zr_eq hZ _ (Nat.le_of_ble_eq_true rfl) _ | rfl
  refine ⟨Nat.le_of_ble_eq_true rfl, am_go (am_sp_mo _) (fun q => q == 12) 20 (fun X hX => ?_)⟩
  conv => whnf
  try dsimp only
  refine hX _ _ _ _ _ _ (am_wpL rfl (u' := (SH64, i)) (Prod.ext rfl ?_) s0)
  first | exact zr_eq hZ _ (Nat.le_of_ble_eq_true rfl) _ | rfl
set_option maxRecDepth 20000 in
theorem k_AM_init (hZ : ZR 0 i) (hd : 3 ≤ d) (h : ∀ j : Nat → Nat → Int32, ZR 89 j → (∀ q, q ≠ 11 → q ≠ 12 → q ≠ 66 → q ≠ 67 → q ≠ 68 → q ≠ 69 → q ≠ 84 → q ≠ 87 → q ≠ 88 → j q = fun _ => 0) → (∀ k, k < 6 → j 11 k = -1) → (∀ k, k < 6 → j 12 k = -1) → j 68 2 = 1 → j 66 2 = 0 → j 84 7 = 0 → (∀ k, k < 6 → j 88 k = -1) → Q none (SH66, j)) : SP xl xs d Y_AM_init [.ref 0] (SH65, i) Q := by
  obtain ⟨d, rfl⟩ : ∃ q, d = q + 1 := ⟨d - 1, by omega⟩
  have s7 : ∀ j : Nat → Nat → Int32, ZR 89 j → (∀ q, q ≠ 11 → q ≠ 12 → q ≠ 66 → q ≠ 67 → q ≠ 68 → q ≠ 69 → q ≠ 84 → q ≠ 87 → q ≠ 88 → j q = fun _ => 0) → (∀ k, k < 6 → j 11 k = -1) → (∀ k, k < 6 → j 12 k = -1) → j 68 2 = 1 → j 66 2 = 0 → j 84 7 = 0 → (∀ k, k < 6 → j 88 k = -1) → am_wp (ax_E xl xs) (ax_cd Y_AM_init) (am_sp (ax_E xl xs) ax_cd ax_ml d) Q 118 [some (.ref 0)] [] (SH66, j) 0 0 := by
    intro j hj ha hb hc he hf hg hk
    refine am_go (am_sp_mo _) (fun _ => false) 20 (fun X hX => ?_)
    conv => whnf
    try dsimp only
    rw [up_0 (ha 0 (by decide) (by decide) (by decide) (by decide) (by decide) (by decide) (by decide) (by decide) (by decide))]
    exact h j hj ha hb hc he hf hg hk
  have s6 : ∀ j : Nat → Nat → Int32, ZR 84 j → (∀ q, q ≠ 11 → q ≠ 12 → q ≠ 66 → q ≠ 67 → q ≠ 68 → q ≠ 69 → q ≠ 84 → q ≠ 87 → q ≠ 88 → j q = fun _ => 0) → (∀ k, k < 6 → j 11 k = -1) → (∀ k, k < 6 → j 12 k = -1) → j 68 2 = 1 → j 66 2 = 0 → am_wp (ax_E xl xs) (ax_cd Y_AM_init) (am_sp (ax_E xl xs) ax_cd ax_ml d) Q 99 [some (.ref 0)] [] (SH67, j) 5 56 := by
    intro j hj ha hb hc he hf
    refine am_go (am_sp_mo _) (fun q => q == 118) 20 (fun X hX => ?_)
    conv => whnf
    try dsimp only
    refine sp_cast (As' := [.ref 84, .ref 1, .ref 13]) (u' := (SH33, j)) rfl (Prod.ext rfl (zr_eq hj _ (Nat.le_of_ble_eq_true rfl) _)) (k_Planner_init (fun q hq => hj q (Nat.le_trans (by decide) hq)) (by omega) (fun j2 g1 g2 g3 => ?_))
    conv => whnf
    try dsimp only
    refine hX _ _ _ _ _ _ (am_wpL rfl (u' := (SH66, j2)) rfl (s7 j2 (fun q hq => (g1 q (by omega) (by omega) (by omega)).trans (hj q (Nat.le_trans (by decide) hq))) (fun q q1 q2 qz q3 q4 q5 q6 q7 q8 => (g1 q q6 q7 q8).trans (ha q q1 q2 qz q3 q4 q5 q6 q7 q8)) (by rw [g1 11 (by decide) (by decide) (by decide)]; exact hb) (by rw [g1 12 (by decide) (by decide) (by decide)]; exact hc) (by rw [g1 68 (by decide) (by decide) (by decide)]; exact he) (by rw [g1 66 (by decide) (by decide) (by decide)]; exact hf) g2 g3))
  have s5 : ∀ j : Nat → Nat → Int32, ZR 70 j → (∀ q, q ≠ 11 → q ≠ 12 → q ≠ 66 → q ≠ 67 → q ≠ 68 → q ≠ 69 → q ≠ 84 → q ≠ 87 → q ≠ 88 → j q = fun _ => 0) → (∀ k, k < 6 → j 11 k = -1) → (∀ k, k < 6 → j 12 k = -1) → j 68 2 = 1 → j 66 2 = 0 → am_wp (ax_E xl xs) (ax_cd Y_AM_init) (am_sp (ax_E xl xs) ax_cd ax_ml d) Q 88 [some (.ref 0)] [] (SH68, j) 19 142 := by
    intro j hj ha hb hc he hf
    refine am_go (am_sp_mo _) (fun q => q == 99) 20 (fun X hX => ?_)
    conv => whnf
    try dsimp only
    refine sp_cast (As' := [.ref 70]) (u' := (SH23, j)) rfl (Prod.ext rfl (zr_eq hj _ (Nat.le_of_ble_eq_true rfl) _)) (k_HitList_init (fun q hq => hj q (Nat.le_trans (by decide) hq)) (by omega) ?_)
    conv => whnf
    try dsimp only
    exact hX _ _ _ _ _ _ (am_wpL rfl (u' := (SH67, j)) rfl (s6 j (fun q hq => hj q (Nat.le_trans (by decide) hq)) ha hb hc he hf))
  have s4 : ∀ j : Nat → Nat → Int32, ZR 68 j → (∀ q, q ≠ 11 → q ≠ 12 → q ≠ 66 → q ≠ 67 → q ≠ 68 → q ≠ 69 → q ≠ 84 → q ≠ 87 → q ≠ 88 → j q = fun _ => 0) → (∀ k, k < 6 → j 11 k = -1) → (∀ k, k < 6 → j 12 k = -1) → j 66 2 = 0 → am_wp (ax_E xl xs) (ax_cd Y_AM_init) (am_sp (ax_E xl xs) ax_cd ax_ml d) Q 68 [some (.ref 0)] [] (SH69, j) 21 152 := by
    intro j hj ha hb hc hf
    refine am_go (am_sp_mo _) (fun q => q == 88) 20 (fun X hX => ?_)
    conv => whnf
    try dsimp only
    refine sp_cast (As' := [.ref 68, .ref 1, .ref 13, .int (Int32.ofInt 1)]) (u' := (SH29, j)) rfl (Prod.ext rfl (zr_eq hj _ (Nat.le_of_ble_eq_true rfl) _)) (k_Ways_init1 (fun q hq => hj q (Nat.le_trans (by decide) hq)) (by omega) (fun j2 g1 g2 g3 => ?_))
    conv => whnf
    try dsimp only
    refine hX _ _ _ _ _ _ (am_wpL rfl (u' := (SH68, j2)) rfl (s5 j2 (fun q hq => (g1 q (by omega) (by omega)).trans (hj q (Nat.le_trans (by decide) hq))) (fun q q1 q2 qz q3 q4 q5 q6 q7 q8 => (g1 q q4 q5).trans (ha q q1 q2 qz q3 q4 q5 q6 q7 q8)) (by rw [g1 11 (by decide) (by decide)]; exact hb) (by rw [g1 12 (by decide) (by decide)]; exact hc) g2 (by rw [g1 66 (by decide) (by decide)]; exact hf)))
  have s3 : ∀ j : Nat → Nat → Int32, ZR 66 j → (∀ q, q ≠ 11 → q ≠ 12 → q ≠ 66 → q ≠ 67 → q ≠ 68 → q ≠ 69 → q ≠ 84 → q ≠ 87 → q ≠ 88 → j q = fun _ => 0) → (∀ k, k < 6 → j 11 k = -1) → (∀ k, k < 6 → j 12 k = -1) → am_wp (ax_E xl xs) (ax_cd Y_AM_init) (am_sp (ax_E xl xs) ax_cd ax_ml d) Q 48 [some (.ref 0)] [] (SH70, j) 23 162 := by
    intro j hj ha hb hc
    refine am_go (am_sp_mo _) (fun q => q == 68) 20 (fun X hX => ?_)
    conv => whnf
    try dsimp only
    refine sp_cast (As' := [.ref 66, .ref 1, .ref 13, .int (Int32.ofInt 0)]) (u' := (SH25, j)) rfl (Prod.ext rfl (zr_eq hj _ (Nat.le_of_ble_eq_true rfl) _)) (k_Ways_init0 (fun q hq => hj q (Nat.le_trans (by decide) hq)) (by omega) (fun j2 g1 g2 g3 => ?_))
    conv => whnf
    try dsimp only
    refine hX _ _ _ _ _ _ (am_wpL rfl (u' := (SH69, j2)) rfl (s4 j2 (fun q hq => (g1 q (by omega) (by omega)).trans (hj q (Nat.le_trans (by decide) hq))) (fun q q1 q2 qz q3 q4 q5 q6 q7 q8 => (g1 q qz q3).trans (ha q q1 q2 qz q3 q4 q5 q6 q7 q8)) (by rw [g1 11 (by decide) (by decide)]; exact hb) (by rw [g1 12 (by decide) (by decide)]; exact hc) g2))
  have s2 : ∀ j : Nat → Nat → Int32, ZR 52 j → (∀ q, q ≠ 11 → q ≠ 12 → q ≠ 66 → q ≠ 67 → q ≠ 68 → q ≠ 69 → q ≠ 84 → q ≠ 87 → q ≠ 88 → j q = fun _ => 0) → (∀ k, k < 6 → j 11 k = -1) → (∀ k, k < 6 → j 12 k = -1) → am_wp (ax_E xl xs) (ax_cd Y_AM_init) (am_sp (ax_E xl xs) ax_cd ax_ml d) Q 37 [some (.ref 0)] [] (SH71, j) 37 247 := by
    intro j hj ha hb hc
    refine am_go (am_sp_mo _) (fun q => q == 48) 20 (fun X hX => ?_)
    conv => whnf
    try dsimp only
    refine sp_cast (As' := [.ref 52]) (u' := (SH21, j)) rfl (Prod.ext rfl (zr_eq hj _ (Nat.le_of_ble_eq_true rfl) _)) (k_Exceptions_init (fun q hq => hj q (Nat.le_trans (by decide) hq)) (by omega) ?_)
    conv => whnf
    try dsimp only
    exact hX _ _ _ _ _ _ (am_wpL rfl (u' := (SH70, j)) rfl (s3 j (fun q hq => hj q (Nat.le_trans (by decide) hq)) ha hb hc))
  have s1 : ∀ j : Nat → Nat → Int32, ZR 20 j → (∀ q, q ≠ 11 → q ≠ 12 → q ≠ 66 → q ≠ 67 → q ≠ 68 → q ≠ 69 → q ≠ 84 → q ≠ 87 → q ≠ 88 → j q = fun _ => 0) → (∀ k, k < 6 → j 11 k = -1) → (∀ k, k < 6 → j 12 k = -1) → am_wp (ax_E xl xs) (ax_cd Y_AM_init) (am_sp (ax_E xl xs) ax_cd ax_ml d) Q 26 [some (.ref 0)] [] (SH72, j) 69 411 := by
    intro j hj ha hb hc
    refine am_go (am_sp_mo _) (fun q => q == 37) 20 (fun X hX => ?_)
    conv => whnf
    try dsimp only
    refine sp_cast (As' := [.ref 20]) (u' := (SH13, j)) rfl (Prod.ext rfl (zr_eq hj _ (Nat.le_of_ble_eq_true rfl) _)) (k_Advisories_init (fun q hq => hj q (Nat.le_trans (by decide) hq)) (by omega) ?_)
    conv => whnf
    try dsimp only
    exact hX _ _ _ _ _ _ (am_wpL rfl (u' := (SH71, j)) rfl (s2 j (fun q hq => hj q (Nat.le_trans (by decide) hq)) ha hb hc))
  have s0 : ∀ j : Nat → Nat → Int32, ZR 13 j → (∀ q, q ≠ 11 → q ≠ 12 → q ≠ 66 → q ≠ 67 → q ≠ 68 → q ≠ 69 → q ≠ 84 → q ≠ 87 → q ≠ 88 → j q = fun _ => 0) → (∀ k, k < 6 → j 11 k = -1) → (∀ k, k < 6 → j 12 k = -1) → am_wp (ax_E xl xs) (ax_cd Y_AM_init) (am_sp (ax_E xl xs) ax_cd ax_ml d) Q 15 [some (.ref 0)] [] (SH73, j) 76 514 := by
    intro j hj ha hb hc
    refine am_go (am_sp_mo _) (fun q => q == 26) 20 (fun X hX => ?_)
    conv => whnf
    try dsimp only
    refine sp_cast (As' := [.ref 13]) (u' := (SH6, j)) rfl (Prod.ext rfl (zr_eq hj _ (Nat.le_of_ble_eq_true rfl) _)) (k_Needs_init (fun q hq => hj q (Nat.le_trans (by decide) hq)) (by omega) ?_)
    conv => whnf
    try dsimp only
    exact hX _ _ _ _ _ _ (am_wpL rfl (u' := (SH72, j)) rfl (s1 j (fun q hq => hj q (Nat.le_trans (by decide) hq)) ha hb hc))
  refine ⟨Nat.le_of_ble_eq_true rfl, am_go (am_sp_mo _) (fun q => q == 15) 20 (fun X hX => ?_)⟩
  conv => whnf
  try dsimp only
  refine sp_cast (As' := [.ref 1]) (u' := (SH0, i)) rfl (Prod.ext rfl (zr_eq hZ _ (Nat.le_of_ble_eq_true rfl) _)) (k_Packs_init (fun q _ => hZ q (Nat.zero_le _)) (by omega) (fun j g1 g2 g3 => ?_))
  conv => whnf
  try dsimp only
  exact hX _ _ _ _ _ _ (am_wpL rfl (u' := (SH73, j)) rfl (s0 j (fun q hq => (g1 q (by omega) (by omega)).trans (hZ q (Nat.zero_le _))) (fun q q1 q2 _ _ _ _ _ _ _ => (g1 q q1 q2).trans (hZ q (Nat.zero_le _))) g2 g3))
end INIT
end
section
/-! WHAT IS ALWAYS TRUE OF THE TWO -/
def relE (c m : Int32) : Prop := (m = -1 ∧ c = 0) ∨ (m = c ∧ ¬ c < 0)
def IA (i : Nat → Nat → Int32) (np : Nat) (nv : Nat → Nat) : Prop := i 1 5 = nI np ∧ i 89 1 = nI np ∧ np ≤ 6 ∧ (∀ p, p < 6 → i 10 p = nI (nv p) ∧ i 91 p = nI (nv p) ∧ nv p ≤ 5) ∧ i 2 = i 90 ∧ (∀ p, i 2 p = 0 ∨ i 2 p = 1) ∧ (∀ p k, p < 6 → k < 5 → i (4 + p) k = i 92 (5 * p + k)) ∧ (∀ q, q < 30 → ¬ i 92 q = -1)
def IB (i : Nat → Nat → Int32) (np : Nat) (nv : Nat → Nat) : Prop := (∀ p, p < 6 → i 11 p = i 93 p) ∧ (∀ p, p < np → i 93 p = -1 ∨ ∃ k, k < nv p ∧ i 93 p = nI k) ∧ (∀ p, np ≤ p → p < 6 → i 93 p = -1) ∧ (∀ p, p < 6 → i 12 p = wv (i 92) (i 93) p)
def IC (i : Nat → Nat → Int32) (nn : Nat) : Prop := i 13 6 = nI nn ∧ i 89 6 = nI nn ∧ nn ≤ 16 ∧ (i 14 = i 94 ∧ i 15 = i 95 ∧ i 16 = i 96 ∧ i 17 = i 97 ∧ i 18 = i 98 ∧ i 19 = i 99) ∧ (∀ k, k < nn → ∃ a b, a < 6 ∧ b < 6 ∧ i 14 k = nI a ∧ i 16 k = nI b) ∧ (∀ k, i 19 k = 0 ∨ i 19 k = 1)
def ID (i : Nat → Nat → Int32) (na : Nat) (sp gr : Nat → Nat) : Prop := i 20 7 = nI na ∧ i 89 13 = nI na ∧ na ≤ 12 ∧ i 21 = i 100 ∧ (∀ a, a < na → ∃ o, o < 6 ∧ i 21 a = nI o) ∧ (∀ a, a < 12 → i 48 a = nI (sp a) ∧ i 101 a = nI (sp a) ∧ sp a ≤ 3) ∧ i 50 = i 105 ∧ (∀ a, i 50 a = 0 ∨ i 50 a = 1) ∧ i 51 = i 106 ∧ (∀ a, a < na → i 51 a = nI (gr a) ∧ gr a ≤ a)
def IS (i : Nat → Nat → Int32)  : Prop := ∀ a k, a < 12 → k < 3 → i (23 + a) k = i 102 (3 * a + k) ∧ i (36 + a) k = i 103 (3 * a + k)
def IK (i : Nat → Nat → Int32) (ch : Nat → Nat → Nat) : Prop := (∀ a, a < 12 → ∀ k, k < 7 → i 104 (7 * a + k) = nI (ch a k) ∧ ch a k < 4) ∧ (∀ a, a < 12 → i 49 a = msc (ch a) ∧ ¬ i 49 a < 0)
def IE (i : Nat → Nat → Int32) (na : Nat) (gr : Nat → Nat) : Prop := ∀ g, g < 12 → (na ≤ g ∨ ∃ a, a < na ∧ gr a = g) → ∀ p, p < 6 → relE (i (54 + g) p) (i 107 (6 * g + p))
def IT (i : Nat → Nat → Int32) (c : Nat) : Prop := i 0 8 = nI c ∧ i 89 0 = nI c ∧ c ≤ 1000000000
def IG (i : Nat → Nat → Int32) (nh : Nat) : Prop := i 70 1 = nI nh ∧ i 89 22 = nI nh ∧ nh ≤ 12 ∧ (∀ q w, q < nh → w < 6 → i (72 + q) w = i 108 (6 * q + w))
def IH (i : Nat → Nat → Int32) (np : Nat) (nv : Nat → Nat) : Prop := i 84 7 = i 89 29 ∧ (i 84 7 = 0 ∨ i 84 7 = 1) ∧ (∀ p, p < 6 → i 88 p = i 114 p) ∧ (∀ p, p < np → i 114 p = -1 ∨ ∃ k, k < nv p ∧ i 114 p = nI k) ∧ (∀ p, np ≤ p → p < 6 → i 114 p = -1)
def IM (i : Nat → Nat → Int32)  : Prop := i 66 2 = 0 ∧ i 68 2 = 1 ∧ (∀ q, i 85 q = 0 ∨ i 85 q = 1) ∧ (∀ q, i 110 q = 0 ∨ i 110 q = 1) ∧ (∀ q, i 112 q = 0 ∨ i 112 q = 1)
def INV (i : Nat → Nat → Int32) : Prop := ∃ np nv nn na sp gr ch c nh, IA i np nv ∧ IB i np nv ∧ IC i nn ∧ ID i na sp gr ∧ IS i  ∧ IK i ch ∧ IE i na gr ∧ IT i c ∧ IG i nh ∧ IH i np nv ∧ IM i 
def okS (S C : List Nat) : Bool := C.all (fun q => !(S.contains q))
theorem okS_c {S C : List Nat} {q : Nat} (h : okS S C = true) (hq : C.contains q = true) : S.contains q = false := by
  unfold okS at h
  rw [List.all_eq_true] at h
  have := h q (List.contains_iff_mem.mp hq)
  simpa using this
/-- nothing but the cells of S, and of the reference's own fields those of S', has changed -/
def FRM (S S' : List Nat) (i j : Nat → Nat → Int32) : Prop := (∀ q, S.contains q = false → q ≠ 89 → j q = i q) ∧ ∀ k, S'.contains k = false → j 89 k = i 89 k
theorem FRM.tr {S S' T T' : List Nat} {i j k : Nat → Nat → Int32} (h : FRM S S' i j) (g : FRM T T' j k) : FRM (S ++ T) (S' ++ T') i k := by
  have sp : ∀ (A B : List Nat) (q : Nat), (A ++ B).contains q = false → A.contains q = false ∧ B.contains q = false := fun A B q hq => by
    rw [← Bool.not_eq_true, List.contains_iff_mem, List.mem_append] at hq
    exact ⟨by rw [← Bool.not_eq_true, List.contains_iff_mem]; exact fun z => hq (Or.inl z), by rw [← Bool.not_eq_true, List.contains_iff_mem]; exact fun z => hq (Or.inr z)⟩
  refine ⟨fun q hq h9 => ?_, fun q hq => ?_⟩
  · rw [g.1 q (sp S T q hq).2 h9, h.1 q (sp S T q hq).1 h9]
  · rw [g.2 q (sp S' T' q hq).2, h.2 q (sp S' T' q hq).1]
theorem FRM.up {i : Nat → Nat → Int32} {a k : Nat} {x : Int32} (h : a ≠ 89) : FRM [a] [] i (am_up i a k x) := by
  refine ⟨fun q hq _ => up_a fun e => ?_, fun q _ => by rw [up_n (Or.inl (Ne.symm h))]⟩
  subst e
  simp at hq
theorem FRM.um {i : Nat → Nat → Int32} {k : Nat} {x : Int32} : FRM [] [k] i (am_up i 89 k x) := by
  refine ⟨fun q _ h => up_a h, fun q hq => up_n (Or.inr fun e => ?_)⟩
  subst e
  simp at hq
theorem FRM.sub {S S' T T' : List Nat} {i j : Nat → Nat → Int32} (h : FRM S S' i j) (h1 : ∀ q, S.contains q = true → T.contains q = true) (h2 : ∀ q, S'.contains q = true → T'.contains q = true) : FRM T T' i j := by
  refine ⟨fun q hq h9 => h.1 q ?_ h9, fun q hq => h.2 q ?_⟩
  · cases e : S.contains q with
    | false => rfl
    | true => rw [h1 q e] at hq; cases hq
  · cases e : S'.contains q with
    | false => rfl
    | true => rw [h2 q e] at hq; cases hq
theorem FRM.rf {i : Nat → Nat → Int32} : FRM [] [] i i := ⟨fun _ _ _ => rfl, fun _ _ => rfl⟩
section INV
variable {i j : Nat → Nat → Int32} {S S' : List Nat}
theorem IA.fr {np : Nat} { nv : Nat → Nat} (h : IA i np nv) (hF : FRM S S' i j) (ok : okS S [1, 2, 90, 10, 91, 92, 4, 5, 6, 7, 8, 9] = true) (ok' : okS S' [1] = true) : IA j np nv := by
  have e : ∀ q, [1, 2, 90, 10, 91, 92, 4, 5, 6, 7, 8, 9].contains q = true → q ≠ 89 → j q = i q := fun q hq h9 => hF.1 q (okS_c ok hq) h9
  have f : ∀ q, [1].contains q = true → j 89 q = i 89 q := fun q hq => hF.2 q (okS_c ok' hq)
  obtain ⟨h1, h2, h3, h4, h5, h6, h7, h8⟩ := h
  unfold IA
  rw [e 1 rfl (by decide), e 2 rfl (by decide), e 90 rfl (by decide), e 10 rfl (by decide), e 91 rfl (by decide), e 92 rfl (by decide), f 1 rfl]
  exact ⟨h1, h2, h3, h4, h5, h6, fun p k hp hk => by rw [e (4 + p) ((show ∀ p, p < 6 → [1, 2, 90, 10, 91, 92, 4, 5, 6, 7, 8, 9].contains (4 + p) = true by decide) p hp) (by omega)]; exact h7 p k hp hk, h8⟩
theorem IB.fr {np : Nat} { nv : Nat → Nat} (h : IB i np nv) (hF : FRM S S' i j) (ok : okS S [11, 12, 93, 92] = true) (ok' : okS S' ([] : List Nat) = true) : IB j np nv := by
  have e : ∀ q, [11, 12, 93, 92].contains q = true → q ≠ 89 → j q = i q := fun q hq h9 => hF.1 q (okS_c ok hq) h9
  have f : ∀ q, ([] : List Nat).contains q = true → j 89 q = i 89 q := fun q hq => hF.2 q (okS_c ok' hq)
  unfold IB
  rw [e 11 rfl (by decide), e 12 rfl (by decide), e 93 rfl (by decide), e 92 rfl (by decide)]
  exact h
theorem IC.fr {nn : Nat} (h : IC i nn) (hF : FRM S S' i j) (ok : okS S [13, 14, 15, 16, 17, 18, 19, 94, 95, 96, 97, 98, 99] = true) (ok' : okS S' [6] = true) : IC j nn := by
  have e : ∀ q, [13, 14, 15, 16, 17, 18, 19, 94, 95, 96, 97, 98, 99].contains q = true → q ≠ 89 → j q = i q := fun q hq h9 => hF.1 q (okS_c ok hq) h9
  have f : ∀ q, [6].contains q = true → j 89 q = i 89 q := fun q hq => hF.2 q (okS_c ok' hq)
  unfold IC
  rw [e 13 rfl (by decide), e 14 rfl (by decide), e 15 rfl (by decide), e 16 rfl (by decide), e 17 rfl (by decide), e 18 rfl (by decide), e 19 rfl (by decide), e 94 rfl (by decide), e 95 rfl (by decide), e 96 rfl (by decide), e 97 rfl (by decide), e 98 rfl (by decide), e 99 rfl (by decide), f 6 rfl]
  exact h
theorem ID.fr {na : Nat} { sp gr : Nat → Nat} (h : ID i na sp gr) (hF : FRM S S' i j) (ok : okS S [20, 21, 100, 48, 101, 50, 105, 51, 106] = true) (ok' : okS S' [13] = true) : ID j na sp gr := by
  have e : ∀ q, [20, 21, 100, 48, 101, 50, 105, 51, 106].contains q = true → q ≠ 89 → j q = i q := fun q hq h9 => hF.1 q (okS_c ok hq) h9
  have f : ∀ q, [13].contains q = true → j 89 q = i 89 q := fun q hq => hF.2 q (okS_c ok' hq)
  unfold ID
  rw [e 20 rfl (by decide), e 21 rfl (by decide), e 100 rfl (by decide), e 48 rfl (by decide), e 101 rfl (by decide), e 50 rfl (by decide), e 105 rfl (by decide), e 51 rfl (by decide), e 106 rfl (by decide), f 13 rfl]
  exact h
theorem IS.fr  (h : IS i ) (hF : FRM S S' i j) (ok : okS S [23, 24, 25, 26, 27, 28, 29, 30, 31, 32, 33, 34, 36, 37, 38, 39, 40, 41, 42, 43, 44, 45, 46, 47, 102, 103] = true) (ok' : okS S' ([] : List Nat) = true) : IS j  := by
  have e : ∀ q, [23, 24, 25, 26, 27, 28, 29, 30, 31, 32, 33, 34, 36, 37, 38, 39, 40, 41, 42, 43, 44, 45, 46, 47, 102, 103].contains q = true → q ≠ 89 → j q = i q := fun q hq h9 => hF.1 q (okS_c ok hq) h9
  have f : ∀ q, ([] : List Nat).contains q = true → j 89 q = i 89 q := fun q hq => hF.2 q (okS_c ok' hq)
  intro a k ha hk
  rw [e 102 rfl (by decide), e 103 rfl (by decide), e (23 + a) ((show ∀ p, p < 12 → [23, 24, 25, 26, 27, 28, 29, 30, 31, 32, 33, 34, 36, 37, 38, 39, 40, 41, 42, 43, 44, 45, 46, 47, 102, 103].contains (23 + p) = true by decide) a ha) (by omega), e (36 + a) ((show ∀ p, p < 12 → [23, 24, 25, 26, 27, 28, 29, 30, 31, 32, 33, 34, 36, 37, 38, 39, 40, 41, 42, 43, 44, 45, 46, 47, 102, 103].contains (36 + p) = true by decide) a ha) (by omega)]
  exact h a k ha hk
theorem IK.fr {ch : Nat → Nat → Nat} (h : IK i ch) (hF : FRM S S' i j) (ok : okS S [49, 104] = true) (ok' : okS S' ([] : List Nat) = true) : IK j ch := by
  have e : ∀ q, [49, 104].contains q = true → q ≠ 89 → j q = i q := fun q hq h9 => hF.1 q (okS_c ok hq) h9
  have f : ∀ q, ([] : List Nat).contains q = true → j 89 q = i 89 q := fun q hq => hF.2 q (okS_c ok' hq)
  unfold IK
  rw [e 49 rfl (by decide), e 104 rfl (by decide)]
  exact h
theorem IE.fr {na : Nat} { gr : Nat → Nat} (h : IE i na gr) (hF : FRM S S' i j) (ok : okS S [54, 55, 56, 57, 58, 59, 60, 61, 62, 63, 64, 65, 107] = true) (ok' : okS S' ([] : List Nat) = true) : IE j na gr := by
  have e : ∀ q, [54, 55, 56, 57, 58, 59, 60, 61, 62, 63, 64, 65, 107].contains q = true → q ≠ 89 → j q = i q := fun q hq h9 => hF.1 q (okS_c ok hq) h9
  have f : ∀ q, ([] : List Nat).contains q = true → j 89 q = i 89 q := fun q hq => hF.2 q (okS_c ok' hq)
  intro g hg hl p hp
  rw [e 107 rfl (by decide), e (54 + g) ((show ∀ p, p < 12 → [54, 55, 56, 57, 58, 59, 60, 61, 62, 63, 64, 65, 107].contains (54 + p) = true by decide) g hg) (by omega)]
  exact h g hg hl p hp
theorem IT.fr {c : Nat} (h : IT i c) (hF : FRM S S' i j) (ok : okS S [0] = true) (ok' : okS S' [0] = true) : IT j c := by
  have e : ∀ q, [0].contains q = true → q ≠ 89 → j q = i q := fun q hq h9 => hF.1 q (okS_c ok hq) h9
  have f : ∀ q, [0].contains q = true → j 89 q = i 89 q := fun q hq => hF.2 q (okS_c ok' hq)
  unfold IT
  rw [e 0 rfl (by decide), f 0 rfl]
  exact h
theorem IG.fr {nh : Nat} (h : IG i nh) (hF : FRM S S' i j) (ok : okS S [70, 72, 73, 74, 75, 76, 77, 78, 79, 80, 81, 82, 83, 108] = true) (ok' : okS S' [22] = true) : IG j nh := by
  have e : ∀ q, [70, 72, 73, 74, 75, 76, 77, 78, 79, 80, 81, 82, 83, 108].contains q = true → q ≠ 89 → j q = i q := fun q hq h9 => hF.1 q (okS_c ok hq) h9
  have f : ∀ q, [22].contains q = true → j 89 q = i 89 q := fun q hq => hF.2 q (okS_c ok' hq)
  obtain ⟨h1, h2, h3, h4⟩ := h
  unfold IG
  rw [e 70 rfl (by decide), e 108 rfl (by decide), f 22 rfl]
  exact ⟨h1, h2, h3, fun q w hq hw => by rw [e (72 + q) ((show ∀ p, p < 12 → [70, 72, 73, 74, 75, 76, 77, 78, 79, 80, 81, 82, 83, 108].contains (72 + p) = true by decide) q (by omega)) (by omega)]; exact h4 q w hq hw⟩
theorem IH.fr {np : Nat} { nv : Nat → Nat} (h : IH i np nv) (hF : FRM S S' i j) (ok : okS S [84, 88, 114] = true) (ok' : okS S' [29] = true) : IH j np nv := by
  have e : ∀ q, [84, 88, 114].contains q = true → q ≠ 89 → j q = i q := fun q hq h9 => hF.1 q (okS_c ok hq) h9
  have f : ∀ q, [29].contains q = true → j 89 q = i 89 q := fun q hq => hF.2 q (okS_c ok' hq)
  unfold IH
  rw [e 84 rfl (by decide), e 88 rfl (by decide), e 114 rfl (by decide), f 29 rfl]
  exact h
theorem IM.fr  (h : IM i ) (hF : FRM S S' i j) (ok : okS S [66, 68, 85, 110, 112] = true) (ok' : okS S' ([] : List Nat) = true) : IM j  := by
  have e : ∀ q, [66, 68, 85, 110, 112].contains q = true → q ≠ 89 → j q = i q := fun q hq h9 => hF.1 q (okS_c ok hq) h9
  have f : ∀ q, ([] : List Nat).contains q = true → j 89 q = i 89 q := fun q hq => hF.2 q (okS_c ok' hq)
  unfold IM
  rw [e 66 rfl (by decide), e 68 rfl (by decide), e 85 rfl (by decide), e 110 rfl (by decide), e 112 rfl (by decide)]
  exact h
theorem IA.pk {np : Nat} {nv : Nat → Nat} (h : IA i np nv) : PK i np nv := ⟨h.1, h.2.2.1, fun p hp => ⟨(h.2.2.2.1 p hp).1, (h.2.2.2.1 p hp).2.2⟩⟩
theorem IA.mpk {np : Nat} {nv : Nat → Nat} (h : IA i np nv) : MPK i np nv := ⟨h.2.1, h.2.2.1, fun p hp => (h.2.2.2.1 p hp).2⟩
theorem IC.nk {nn : Nat} (h : IC i nn) : NK i nn := ⟨h.1, h.2.2.1, h.2.2.2.2.1⟩
theorem IC.mnk {nn : Nat} (h : IC i nn) : MNK i nn := ⟨h.2.1, h.2.2.1, by rw [← h.2.2.2.1.1, ← h.2.2.2.1.2.2.1]; exact h.2.2.2.2.1⟩
theorem ID.ak {na : Nat} {sp gr : Nat → Nat} (h : ID i na sp gr) : AK i na sp := ⟨h.1, h.2.2.1, fun a ha => ⟨(h.2.2.2.2.2.1 a ha).1, (h.2.2.2.2.2.1 a ha).2.2⟩⟩
theorem ID.mak {na : Nat} {sp gr : Nat → Nat} (h : ID i na sp gr) : MAK i na sp := ⟨h.2.1, h.2.2.1, fun a ha => (h.2.2.2.2.2.1 a ha).2⟩
theorem ID.cg {na : Nat} {sp gr : Nat → Nat} (h : ID i na sp gr) : ∀ a, a < na → i 51 a = nI (gr a) ∧ gr a < 12 := fun a ha => ⟨(h.2.2.2.2.2.2.2.2.2 a ha).1, by have := (h.2.2.2.2.2.2.2.2.2 a ha).2; have := h.2.2.1; omega⟩
theorem ID.mg {na : Nat} {sp gr : Nat → Nat} (h : ID i na sp gr) : ∀ a, a < na → i 106 a = nI (gr a) ∧ gr a < 12 := by rw [← h.2.2.2.2.2.2.2.2.1]; exact h.cg
/-- one call of each, and the same answer -/
def PRD (xl : Nat) (xs : Nat → Int32) (y1 y2 : Nat) (As : List Value) (i : Nat → Nat → Int32) : Prop := SP xl xs 60 y1 (.ref 0 :: As) (KS, i) (fun r u => ∃ v j, r = some (.int v) ∧ u = (KS, j) ∧ SP xl xs 60 y2 (.ref 89 :: As) (KS, j) (fun r' u' => ∃ j', r' = some (.int v) ∧ u' = (KS, j') ∧ INV j'))
end INV
end
section
/-! ONE CALL OF EACH: the simple ones -/
theorem FRM.upL {i : Nat → Nat → Int32} {a k : Nat} {x : Int32} (L : List Nat) (h : L.contains a = true) (h9 : a ≠ 89) : FRM L [] i (am_up i a k x) :=
  (FRM.up h9).sub (fun q hq => by
    have : q = a := by simpa using hq
    rw [this]; exact h) (fun q hq => by simp at hq)
theorem wv_up {ver w : Nat → Int32} {q p : Nat} {v : Int32} {nv : Nat} (h : w p = -1 ∨ ∃ k, k < nv ∧ w p = nI k) (hn : nv ≤ 5) (hq : ∀ k, k < nv → 5 * p + k ≠ q) : wv (upd ver q v) w p = wv ver w p := by
  unfold wv
  rcases h with h | ⟨k, hk, h⟩
  · rw [if_pos h, if_pos h]
  · rw [h, if_neg (nI_m1 (by omega)), if_neg (nI_m1 (by omega)), nI_clamp (by omega)]
    unfold upd
    rw [if_neg (hq k hk)]
theorem nlt0 {x : Int32} (h : ¬ x < 0) : ¬ x = -1 := fun e => by rw [e] at h; exact h (by decide)
section PAIRS
variable {xl : Nat} {xs : Nat → Int32} {i : Nat → Nat → Int32}
theorem p_pack {x : Int32} (hx : x = 0 ∨ x = 1) (hI : INV i) : PRD xl xs Y_AM_pack Y_Model_pack [.int x] i := by
  obtain ⟨np, nv, nn, na, sp, gr, ch, c, nh, hA, hB, hC, hD, hS, hK, hE, hT, hG, hH, hM⟩ := hI
  have hn := hA.2.2.1
  refine c_pack (np := np) hA.1 hn (by omega) (fun hlt => ⟨_, _, rfl, rfl, ?_⟩) (fun he => ⟨_, _, rfl, rfl, ?_⟩)
  · refine m_pack (np := np) ?_ hn (by omega) (fun _ => ?_) (fun he => absurd he (by omega))
    · rw [up_n (Or.inl (by decide)), up_n (Or.inl (by decide))]; exact hA.2.1
    · have F : FRM _ _ i (am_up (am_up (am_up (am_up i 2 np (vp_nar .boolean x)) 1 5 (nI (np + 1))) 90 np (vp_nar .boolean x)) 89 1 (nI (np + 1))) := (((FRM.up (by decide)).tr (FRM.up (by decide))).tr (FRM.up (by decide))).tr FRM.um
      refine ⟨_, rfl, rfl, np + 1, nv, nn, na, sp, gr, ch, c, nh, ?_, ?_, hC.fr F (by decide) (by decide), hD.fr F (by decide) (by decide), hS.fr F (by decide) (by decide), hK.fr F (by decide) (by decide), hE.fr F (by decide) (by decide), hT.fr F (by decide) (by decide), hG.fr F (by decide) (by decide), ?_, hM.fr F (by decide) (by decide)⟩
      · obtain ⟨h1, h2, h3, h4, h5, h6, h7, h8⟩ := hA
        refine ⟨?_, up_s _ _ _ _, by omega, fun p hp => ?_, ?_, fun p => ?_, fun p k hp hk => ?_, fun q hq => ?_⟩
        · rw [up_n (Or.inl (by decide)), up_n (Or.inl (by decide)), up_s]
        · rw [up_n (Or.inl (by decide)), up_n (Or.inl (by decide)), up_n (Or.inl (by decide)), up_n (Or.inl (by decide)), up_n (Or.inl (by decide)), up_n (Or.inl (by decide)), up_n (Or.inl (by decide)), up_n (Or.inl (by decide))]
          exact h4 p hp
        · rw [up_a (by decide), up_a (by decide), up_a (by decide), up_sa, up_a (by decide), up_sa, up_a (by decide), up_a (by decide), h5]
        · rw [up_n (Or.inl (by decide)), up_n (Or.inl (by decide)), up_n (Or.inl (by decide)), up_at, nar_01 hx]
          by_cases e : p = np
          · rw [if_pos ⟨rfl, e⟩]; exact hx
          · rw [if_neg (fun z => e z.2)]; exact h6 p
        · rw [up_n (Or.inl (by omega)), up_n (Or.inl (by omega)), up_n (Or.inl (by omega)), up_n (Or.inl (by omega)), up_n (Or.inl (by decide)), up_n (Or.inl (by decide)), up_n (Or.inl (by decide)), up_n (Or.inl (by decide))]
          exact h7 p k hp hk
        · rw [up_n (Or.inl (by decide)), up_n (Or.inl (by decide)), up_n (Or.inl (by decide)), up_n (Or.inl (by decide))]
          exact h8 q hq
      · have hB := hB.fr F (by decide) (by decide)
        refine ⟨hB.1, fun p hp => ?_, fun p hp => hB.2.2.1 p (by omega), hB.2.2.2⟩
        rcases Nat.lt_or_ge p np with q | q
        · exact hB.2.1 p q
        · exact Or.inl (hB.2.2.1 p q (by omega))
      · have hH := hH.fr F (by decide) (by decide)
        refine ⟨hH.1, hH.2.1, hH.2.2.1, fun p hp => ?_, fun p hp => hH.2.2.2.2 p (by omega)⟩
        rcases Nat.lt_or_ge p np with q | q
        · exact hH.2.2.2.1 p q
        · exact Or.inl (hH.2.2.2.2 p q (by omega))
  · refine m_pack (np := np) hA.2.1 hn (by omega) (fun hlt => absurd he (by omega)) (fun _ => ⟨i, rfl, rfl, np, nv, nn, na, sp, gr, ch, c, nh, hA, hB, hC, hD, hS, hK, hE, hT, hG, hH, hM⟩)
theorem p_call {x y : Int32} (hy : y = 0 ∨ y = 1) (hI : INV i) : PRD xl xs Y_AM_call Y_Model_call [.int x, .int y] i := by
  obtain ⟨np, nv, nn, na, sp, gr, ch, c, nh, hA, hB, hC, hD, hS, hK, hE, hT, hG, hH, hM⟩ := hI
  have hn := hC.2.2.1
  refine c_call hC.1 hn (by omega) (fun k hk hx => ⟨_, _, rfl, rfl, ?_⟩) (fun hx => ⟨_, _, rfl, rfl, ?_⟩)
  · refine m_call (nn := nn) ?_ hn (by omega) (fun k' hk' hx' => ?_) (fun hx' => absurd hx (out_np (by omega) hx' hk))
    · rw [up_n (Or.inl (by decide))]; exact hC.2.1
    · have := nI_inj (by omega) (by omega) (hx'.symm.trans hx)
      subst this
      have F : FRM _ _ i (am_up (am_up i 19 k' (vp_nar .boolean y)) 99 k' (vp_nar .boolean y)) := (FRM.up (by decide)).tr (FRM.up (by decide))
      refine ⟨_, rfl, rfl, np, nv, nn, na, sp, gr, ch, c, nh, hA.fr F (by decide) (by decide), hB.fr F (by decide) (by decide), ?_, hD.fr F (by decide) (by decide), hS.fr F (by decide) (by decide), hK.fr F (by decide) (by decide), hE.fr F (by decide) (by decide), hT.fr F (by decide) (by decide), hG.fr F (by decide) (by decide), hH.fr F (by decide) (by decide), hM.fr F (by decide) (by decide)⟩
      obtain ⟨h1, h2, h3, ⟨h4, h5, h6, h7, h8, h9⟩, h10, h11⟩ := hC
      refine ⟨?_, ?_, h3, ⟨?_, ?_, ?_, ?_, ?_, ?_⟩, fun k hk => ?_, fun k => ?_⟩
      · rw [up_n (Or.inl (by decide)), up_n (Or.inl (by decide))]; exact h1
      · rw [up_n (Or.inl (by decide)), up_n (Or.inl (by decide))]; exact h2
      · rw [up_a (by decide), up_a (by decide), up_a (by decide), up_a (by decide)]; exact h4
      · rw [up_a (by decide), up_a (by decide), up_a (by decide), up_a (by decide)]; exact h5
      · rw [up_a (by decide), up_a (by decide), up_a (by decide), up_a (by decide)]; exact h6
      · rw [up_a (by decide), up_a (by decide), up_a (by decide), up_a (by decide)]; exact h7
      · rw [up_a (by decide), up_a (by decide), up_a (by decide), up_a (by decide)]; exact h8
      · rw [up_a (by decide), up_sa, up_sa, up_a (by decide), h9]
      · rw [up_n (Or.inl (by decide)), up_n (Or.inl (by decide)), up_n (Or.inl (by decide)), up_n (Or.inl (by decide))]; exact h10 k hk
      · rw [up_n (Or.inl (by decide)), up_at, nar_01 hy]
        by_cases e : k = k'
        · rw [if_pos ⟨rfl, e⟩]; exact hy
        · rw [if_neg (fun z => e z.2)]; exact h11 k
  · refine m_call (nn := nn) hC.2.1 hn (by omega) (fun k' hk' hx' => absurd hx' (out_np (by omega) hx hk')) (fun _ => ⟨i, rfl, rfl, np, nv, nn, na, sp, gr, ch, c, nh, hA, hB, hC, hD, hS, hK, hE, hT, hG, hH, hM⟩)
theorem p_group {x : Int32} (hI : INV i) : PRD xl xs Y_AM_group Y_Model_group [.int x] i := by
  obtain ⟨np, nv, nn, na, sp, gr, ch, c, nh, hA, hB, hC, hD, hS, hK, hE, hT, hG, hH, hM⟩ := hI
  have hn := hD.2.2.1
  have e51 := hD.2.2.2.2.2.2.2.2.1
  refine c_group hD.1 hn (by omega) (fun a ha hx => ⟨_, _, rfl, rfl, ?_⟩) (fun hx => ⟨_, _, rfl, rfl, ?_⟩)
  · refine m_group (na := na) hD.2.1 hn (by omega) (fun a' ha' hx' => ?_) (fun hx' => absurd hx (out_np (by omega) hx' ha))
    have := nI_inj (by omega) (by omega) (hx'.symm.trans hx)
    subst this
    exact ⟨i, by rw [e51], rfl, np, nv, nn, na, sp, gr, ch, c, nh, hA, hB, hC, hD, hS, hK, hE, hT, hG, hH, hM⟩
  · exact m_group (na := na) hD.2.1 hn (by omega) (fun a' ha' hx' => absurd hx' (out_np (by omega) hx ha')) (fun _ => ⟨i, rfl, rfl, np, nv, nn, na, sp, gr, ch, c, nh, hA, hB, hC, hD, hS, hK, hE, hT, hG, hH, hM⟩)
theorem p_score {x : Int32} (hI : INV i) : PRD xl xs Y_AM_score Y_Model_score [.int x] i := by
  obtain ⟨np, nv, nn, na, sp, gr, ch, c, nh, hA, hB, hC, hD, hS, hK, hE, hT, hG, hH, hM⟩ := hI
  have hn := hD.2.2.1
  refine c_score hD.1 hn (by omega) (fun a ha hx => ⟨_, _, rfl, rfl, ?_⟩) (fun hx => ⟨_, _, rfl, rfl, ?_⟩)
  · refine m_score (na := na) (ch := ch) hD.2.1 hn hK.1 (by omega) (fun a' ha' hx' => ?_) (fun hx' => absurd hx (out_np (by omega) hx' ha))
    have := nI_inj (by omega) (by omega) (hx'.symm.trans hx)
    subst this
    exact ⟨i, by rw [(hK.2 a' (by omega)).1], rfl, np, nv, nn, na, sp, gr, ch, c, nh, hA, hB, hC, hD, hS, hK, hE, hT, hG, hH, hM⟩
  · exact m_score (na := na) (ch := ch) hD.2.1 hn hK.1 (by omega) (fun a' ha' hx' => absurd hx' (out_np (by omega) hx ha')) (fun _ => ⟨i, rfl, rfl, np, nv, nn, na, sp, gr, ch, c, nh, hA, hB, hC, hD, hS, hK, hE, hT, hG, hH, hM⟩)
theorem p_hit {x y : Int32} (hI : INV i) : PRD xl xs Y_AM_hit Y_Model_hit [.int x, .int y] i := by
  obtain ⟨np, nv, nn, na, sp, gr, ch, c, nh, hA, hB, hC, hD, hS, hK, hE, hT, hG, hH, hM⟩ := hI
  have hn := hG.2.2.1
  refine c_hit hG.1 hn (by omega) (fun q w hq hw hx hy => ⟨_, _, rfl, rfl, ?_⟩) (fun hno => ⟨_, _, rfl, rfl, ?_⟩)
  · refine m_hit hG.2.1 (by omega) (by omega) (fun q' w' hq' hw' hx' hy' => ?_) (fun hno => absurd ⟨hx, hy⟩ (hno q w hq hw))
    have := nI_inj (by omega) (by omega) (hx'.symm.trans hx)
    subst this
    have := nI_inj (by omega) (by omega) (hy'.symm.trans hy)
    subst this
    exact ⟨i, by rw [hG.2.2.2 q' w' hq hw], rfl, np, nv, nn, na, sp, gr, ch, c, nh, hA, hB, hC, hD, hS, hK, hE, hT, hG, hH, hM⟩
  · exact m_hit hG.2.1 (by omega) (by omega) (fun q' w' hq' hw' hx' hy' => absurd ⟨hx', hy'⟩ (hno q' w' hq' hw')) (fun _ => ⟨i, rfl, rfl, np, nv, nn, na, sp, gr, ch, c, nh, hA, hB, hC, hD, hS, hK, hE, hT, hG, hH, hM⟩)
theorem p_planned {x : Int32} (hI : INV i) : PRD xl xs Y_AM_planned Y_Model_planned [.int x] i := by
  obtain ⟨np, nv, nn, na, sp, gr, ch, c, nh, hA, hB, hC, hD, hS, hK, hE, hT, hG, hH, hM⟩ := hI
  have hn := hA.2.2.1
  refine c_planned (by omega) (fun p hp hx => ⟨_, _, rfl, rfl, ?_⟩) (fun hx => ⟨_, _, rfl, rfl, ?_⟩)
  · refine m_planned (np := np) hA.2.1 hn (by omega) (fun p' hp' hx' => ?_) (fun hx' => ?_)
    · have := nI_inj (by omega) (by omega) (hx'.symm.trans hx)
      subst this
      exact ⟨i, by rw [hH.2.2.1 p' hp], rfl, np, nv, nn, na, sp, gr, ch, c, nh, hA, hB, hC, hD, hS, hK, hE, hT, hG, hH, hM⟩
    · have hpn : np ≤ p := by
        rcases Nat.lt_or_ge p np with q | q
        · exact absurd hx (out_np (by omega) hx' q)
        · exact q
      exact ⟨i, by rw [hH.2.2.1 p hp, hH.2.2.2.2 p hpn hp], rfl, np, nv, nn, na, sp, gr, ch, c, nh, hA, hB, hC, hD, hS, hK, hE, hT, hG, hH, hM⟩
  · refine m_planned (np := np) hA.2.1 hn (by omega) (fun p' hp' hx' => absurd hx' (out_np (by decide) hx (by omega))) (fun _ => ⟨i, rfl, rfl, np, nv, nn, na, sp, gr, ch, c, nh, hA, hB, hC, hD, hS, hK, hE, hT, hG, hH, hM⟩)
theorem p_tick {x : Int32} (hI : INV i) : PRD xl xs Y_AM_tick Y_Model_tick [.int x] i := by
  obtain ⟨np, nv, nn, na, sp, gr, ch, c, nh, hA, hB, hC, hD, hS, hK, hE, hT, hG, hH, hM⟩ := hI
  have hm := hT.2.2
  refine c_tick hT.1 hm (by omega) (fun n hn hx hc => ⟨_, _, rfl, rfl, ?_⟩) (fun hno => ⟨_, _, rfl, rfl, ?_⟩)
  · refine m_tick (c := c) ?_ hm (by omega) (fun n' hn' hx' hc' => ?_) (fun hno => absurd hc (hno n hn hx))
    · rw [up_n (Or.inl (by decide))]; exact hT.2.1
    · have := nI_inj (by omega) (by omega) (hx'.symm.trans hx)
      subst this
      have F : FRM _ _ i (am_up (am_up i 0 8 (nI (c + n'))) 89 0 (nI (c + n'))) := (FRM.up (by decide)).tr FRM.um
      refine ⟨_, rfl, rfl, np, nv, nn, na, sp, gr, ch, c + n', nh, hA.fr F (by decide) (by decide), hB.fr F (by decide) (by decide), hC.fr F (by decide) (by decide), hD.fr F (by decide) (by decide), hS.fr F (by decide) (by decide), hK.fr F (by decide) (by decide), hE.fr F (by decide) (by decide), ?_, hG.fr F (by decide) (by decide), hH.fr F (by decide) (by decide), hM.fr F (by decide) (by decide)⟩
      exact ⟨by rw [up_n (Or.inl (by decide)), up_s], up_s _ _ _ _, hc⟩
  · exact m_tick (c := c) hT.2.1 hm (by omega) (fun n' hn' hx' hc' => absurd hc' (hno n' hn' hx')) (fun _ => ⟨i, rfl, rfl, np, nv, nn, na, sp, gr, ch, c, nh, hA, hB, hC, hD, hS, hK, hE, hT, hG, hH, hM⟩)
theorem p_withdraw {x y : Int32} (hy : y = 0 ∨ y = 1) (hI : INV i) : PRD xl xs Y_AM_withdraw Y_Model_withdraw [.int x, .int y] i := by
  obtain ⟨np, nv, nn, na, sp, gr, ch, c, nh, hA, hB, hC, hD, hS, hK, hE, hT, hG, hH, hM⟩ := hI
  have hn := hD.2.2.1
  refine c_withdraw hD.1 hn (by omega) (fun a ha hx => ⟨_, _, rfl, rfl, ?_⟩) (fun hx => ⟨_, _, rfl, rfl, ?_⟩)
  · refine m_withdraw (na := na) ?_ hn (by omega) (fun a' ha' hx' => ?_) (fun hx' => absurd hx (out_np (by omega) hx' ha))
    · rw [up_n (Or.inl (by decide))]; exact hD.2.1
    · have := nI_inj (by omega) (by omega) (hx'.symm.trans hx)
      subst this
      have F : FRM _ _ i (am_up (am_up i 50 a' (vp_nar .boolean y)) 105 a' (vp_nar .boolean y)) := (FRM.up (by decide)).tr (FRM.up (by decide))
      refine ⟨_, rfl, rfl, np, nv, nn, na, sp, gr, ch, c, nh, hA.fr F (by decide) (by decide), hB.fr F (by decide) (by decide), hC.fr F (by decide) (by decide), ?_, hS.fr F (by decide) (by decide), hK.fr F (by decide) (by decide), hE.fr F (by decide) (by decide), hT.fr F (by decide) (by decide), hG.fr F (by decide) (by decide), hH.fr F (by decide) (by decide), hM.fr F (by decide) (by decide)⟩
      obtain ⟨h1, h2, h3, h4, h5, h6, h7, h8, h9, h10⟩ := hD
      unfold ID
      rw [F.1 20 rfl (by decide), F.2 13 rfl, F.1 21 rfl (by decide), F.1 100 rfl (by decide), F.1 48 rfl (by decide), F.1 101 rfl (by decide), F.1 51 rfl (by decide), F.1 106 rfl (by decide)]
      refine ⟨h1, h2, h3, h4, h5, h6, ?_, fun a => ?_, h9, h10⟩
      · rw [up_a (by decide), up_sa, up_sa, up_a (by decide), h7]
      · rw [up_n (Or.inl (by decide)), up_at, nar_01 hy]
        by_cases e : a = a'
        · rw [if_pos ⟨rfl, e⟩]; exact hy
        · rw [if_neg (fun z => e z.2)]; exact h8 a
  · exact m_withdraw (na := na) hD.2.1 hn (by omega) (fun a' ha' hx' => absurd hx' (out_np (by omega) hx ha')) (fun _ => ⟨i, rfl, rfl, np, nv, nn, na, sp, gr, ch, c, nh, hA, hB, hC, hD, hS, hK, hE, hT, hG, hH, hM⟩)
theorem p_need {x s y l g : Int32} (hI : INV i) : PRD xl xs Y_AM_need Y_Model_need [.int x, .int s, .int y, .int l, .int g] i := by
  obtain ⟨np, nv, nn, na, sp, gr, ch, c, nh, hA, hB, hC, hD, hS, hK, hE, hT, hG, hH, hM⟩ := hI
  have hn := hA.2.2.1
  have hm := hC.2.2.1
  refine c_need hA.1 hn hC.1 hm (by omega) (fun p q hp hq hx hy hlt => ⟨_, _, rfl, rfl, ?_⟩) (fun hno => ⟨_, _, rfl, rfl, ?_⟩)
  · generalize hJ : am_up (am_up (am_up (am_up (am_up (am_up i 14 nn x) 15 nn s) 16 nn y) 17 nn l) 18 nn g) 13 6 (nI (nn + 1)) = J
    have FJ : FRM [14, 15, 16, 17, 18, 13] [] i J := by rw [← hJ]; exact (((((FRM.up (by decide)).tr (FRM.up (by decide))).tr (FRM.up (by decide))).tr (FRM.up (by decide))).tr (FRM.up (by decide))).tr (FRM.up (by decide))
    refine m_need (np := np) (nn := nn) (by rw [FJ.2 1 rfl]; exact hA.2.1) hn (by rw [FJ.2 6 rfl]; exact hC.2.1) hm (by omega) (fun p' q' hp' hq' hx' hy' _ => ?_) (fun hno => absurd hlt (hno p q hp hq hx hy))
    generalize hJ2 : am_up (am_up (am_up (am_up (am_up (am_up J 94 nn x) 95 nn s) 96 nn y) 97 nn l) 98 nn g) 89 6 (nI (nn + 1)) = J2
    have F2 : FRM [94, 95, 96, 97, 98] [6] J J2 := by rw [← hJ2]; exact (((((FRM.up (by decide)).tr (FRM.up (by decide))).tr (FRM.up (by decide))).tr (FRM.up (by decide))).tr (FRM.up (by decide))).tr FRM.um
    have F := FJ.tr F2
    refine ⟨J2, rfl, rfl, np, nv, nn + 1, na, sp, gr, ch, c, nh, hA.fr F (by decide) (by decide), hB.fr F (by decide) (by decide), ?_, hD.fr F (by decide) (by decide), hS.fr F (by decide) (by decide), hK.fr F (by decide) (by decide), hE.fr F (by decide) (by decide), hT.fr F (by decide) (by decide), hG.fr F (by decide) (by decide), hH.fr F (by decide) (by decide), hM.fr F (by decide) (by decide)⟩
    obtain ⟨h1, h2, h3, ⟨h4, h5, h6, h7, h8, h9⟩, h10, h11⟩ := hC
    have a : ∀ b, b = 14 ∨ b = 15 ∨ b = 16 ∨ b = 17 ∨ b = 18 ∨ b = 19 → J2 b = J b := fun b hb => F2.1 b (by rcases hb with rfl | rfl | rfl | rfl | rfl | rfl <;> rfl) (by omega)
    have e14 : J2 14 = upd (i 14) nn x := by rw [a 14 (by omega), ← hJ]; rw [up_a (by decide), up_a (by decide), up_a (by decide), up_a (by decide), up_a (by decide), up_sa]
    have e15 : J2 15 = upd (i 15) nn s := by rw [a 15 (by omega), ← hJ]; rw [up_a (by decide), up_a (by decide), up_a (by decide), up_a (by decide), up_sa, up_a (by decide)]
    have e16 : J2 16 = upd (i 16) nn y := by rw [a 16 (by omega), ← hJ]; rw [up_a (by decide), up_a (by decide), up_a (by decide), up_sa, up_a (by decide), up_a (by decide)]
    have e17 : J2 17 = upd (i 17) nn l := by rw [a 17 (by omega), ← hJ]; rw [up_a (by decide), up_a (by decide), up_sa, up_a (by decide), up_a (by decide), up_a (by decide)]
    have e18 : J2 18 = upd (i 18) nn g := by rw [a 18 (by omega), ← hJ]; rw [up_a (by decide), up_sa, up_a (by decide), up_a (by decide), up_a (by decide), up_a (by decide)]
    have e94 : J2 94 = upd (i 94) nn x := by rw [← hJ2, up_a (by decide), up_a (by decide), up_a (by decide), up_a (by decide), up_a (by decide), up_sa, FJ.1 94 rfl (by decide)]
    have e95 : J2 95 = upd (i 95) nn s := by rw [← hJ2, up_a (by decide), up_a (by decide), up_a (by decide), up_a (by decide), up_sa, up_a (by decide), FJ.1 95 rfl (by decide)]
    have e96 : J2 96 = upd (i 96) nn y := by rw [← hJ2, up_a (by decide), up_a (by decide), up_a (by decide), up_sa, up_a (by decide), up_a (by decide), FJ.1 96 rfl (by decide)]
    have e97 : J2 97 = upd (i 97) nn l := by rw [← hJ2, up_a (by decide), up_a (by decide), up_sa, up_a (by decide), up_a (by decide), up_a (by decide), FJ.1 97 rfl (by decide)]
    have e98 : J2 98 = upd (i 98) nn g := by rw [← hJ2, up_a (by decide), up_sa, up_a (by decide), up_a (by decide), up_a (by decide), up_a (by decide), FJ.1 98 rfl (by decide)]
    refine ⟨?_, ?_, by omega, ⟨by rw [e14, e94, h4], by rw [e15, e95, h5], by rw [e16, e96, h6], by rw [e17, e97, h7], by rw [e18, e98, h8], ?_⟩, fun k hk => ?_, fun k => ?_⟩
    · rw [F2.1 13 rfl (by decide), ← hJ, up_s]
    · rw [← hJ2, up_s]
    · rw [F.1 19 rfl (by decide), F.1 99 rfl (by decide), h9]
    · rw [e14, e16]
      unfold upd
      by_cases e : k = nn
      · rw [if_pos e, if_pos e]
        exact ⟨p, q, by omega, by omega, hx, hy⟩
      · rw [if_neg e, if_neg e]
        exact h10 k (by omega)
    · rw [F.1 19 rfl (by decide)]; exact h11 k
  · exact m_need (np := np) (nn := nn) hA.2.1 hn hC.2.1 hm (by omega) (fun p q hp hq hx hy hlt => absurd hlt (hno p q hp hq hx hy)) (fun _ => ⟨i, rfl, rfl, np, nv, nn, na, sp, gr, ch, c, nh, hA, hB, hC, hD, hS, hK, hE, hT, hG, hH, hM⟩)
theorem p_advisory {x : Int32} (hI : INV i) : PRD xl xs Y_AM_advisory Y_Model_advisory [.int x] i := by
  obtain ⟨np, nv, nn, na, sp, gr, ch, c, nh, hA, hB, hC, hD, hS, hK, hE, hT, hG, hH, hM⟩ := hI
  have hn := hA.2.2.1
  have hm := hD.2.2.1
  refine c_advisory hA.1 hn hD.1 hm (by omega) (fun p hp hx hlt => ⟨_, _, rfl, rfl, ?_⟩) (fun hno => ⟨_, _, rfl, rfl, ?_⟩)
  · generalize hJ : am_up (am_up (am_up i 21 na x) 51 na (nI na)) 20 7 (nI (na + 1)) = J
    have FJ : FRM [21, 51, 20] [] i J := by rw [← hJ]; exact ((FRM.up (by decide)).tr (FRM.up (by decide))).tr (FRM.up (by decide))
    refine m_advisory (np := np) (na := na) (by rw [FJ.2 1 rfl]; exact hA.2.1) hn (by rw [FJ.2 13 rfl]; exact hD.2.1) hm (by omega) (fun p' hp' hx' _ => ?_) (fun hno => absurd hlt (hno p hp hx))
    generalize hJ2 : am_up (am_up (am_up J 100 na x) 106 na (nI na)) 89 13 (nI (na + 1)) = J2
    have F2 : FRM [100, 106] [13] J J2 := by rw [← hJ2]; exact ((FRM.up (by decide)).tr (FRM.up (by decide))).tr FRM.um
    have F := FJ.tr F2
    refine ⟨J2, rfl, rfl, np, nv, nn, na + 1, sp, fset gr na na, ch, c, nh, hA.fr F (by decide) (by decide), hB.fr F (by decide) (by decide), hC.fr F (by decide) (by decide), ?_, hS.fr F (by decide) (by decide), hK.fr F (by decide) (by decide), ?_, hT.fr F (by decide) (by decide), hG.fr F (by decide) (by decide), hH.fr F (by decide) (by decide), hM.fr F (by decide) (by decide)⟩
    · obtain ⟨h1, h2, h3, h4, h5, h6, h7, h8, h9, h10⟩ := hD
      have e21 : J2 21 = upd (i 21) na x := by rw [F2.1 21 rfl (by decide), ← hJ, up_a (by decide), up_a (by decide), up_sa]
      have e51 : J2 51 = upd (i 51) na (nI na) := by rw [F2.1 51 rfl (by decide), ← hJ, up_a (by decide), up_sa, up_a (by decide)]
      have e100 : J2 100 = upd (i 100) na x := by rw [← hJ2, up_a (by decide), up_a (by decide), up_sa, FJ.1 100 rfl (by decide)]
      have e106 : J2 106 = upd (i 106) na (nI na) := by rw [← hJ2, up_a (by decide), up_sa, up_a (by decide), FJ.1 106 rfl (by decide)]
      unfold ID
      rw [e21, e51, e100, e106, F.1 48 rfl (by decide), F.1 101 rfl (by decide), F.1 50 rfl (by decide), F.1 105 rfl (by decide)]
      refine ⟨by rw [F2.1 20 rfl (by decide), ← hJ, up_s], by rw [← hJ2, up_s], by omega, by rw [h4], fun a ha => ?_, h6, h7, h8, by rw [h9], fun a ha => ?_⟩
      · unfold upd
        by_cases e : a = na
        · rw [if_pos e]; exact ⟨p, by omega, hx⟩
        · rw [if_neg e]; exact h5 a (by omega)
      · unfold upd fset
        by_cases e : a = na
        · rw [if_pos e, if_pos e]; exact ⟨rfl, by omega⟩
        · rw [if_neg e, if_neg e]; exact h10 a (by omega)
    · intro g hg hl p hp
      rw [F.1 107 rfl (by decide), F.1 (54 + g) (by
        have : ∀ g, g < 12 → ([21, 51, 20] ++ [100, 106]).contains (54 + g) = false := by decide
        exact this g hg) (by omega)]
      refine hE g hg ?_ p hp
      rcases hl with q | ⟨a, ha, e⟩
      · exact Or.inl (by omega)
      · unfold fset at e
        by_cases e2 : a = na
        · rw [if_pos e2] at e; exact Or.inl (by omega)
        · rw [if_neg e2] at e; exact Or.inr ⟨a, by omega, e⟩
  · exact m_advisory (np := np) (na := na) hA.2.1 hn hD.2.1 hm (by omega) (fun p hp hx hlt => absurd hlt (hno p hp hx)) (fun _ => ⟨i, rfl, rfl, np, nv, nn, na, sp, gr, ch, c, nh, hA, hB, hC, hD, hS, hK, hE, hT, hG, hH, hM⟩)
end PAIRS
end
section
/-! ONE CALL OF EACH: versions, places, spans, scores, groups, exceptions, needs broken, updates -/
theorem bcnt_congr {f g : Nat → Bool} : ∀ {n : Nat}, (∀ k, k < n → f k = g k) → bcnt f n = bcnt g n
  | 0, _ => rfl
  | n + 1, h => by
    unfold bcnt
    rw [bcnt_congr (fun k hk => h k (by omega)), h n (by omega)]
set_option maxRecDepth 100000 in
theorem sco_pos : ∀ r, r < 4 → ∀ e, e < 2 → ∀ t, t < 3 → ∀ h, h < 2 → ∀ m, m < 27 → ¬ cten r e t h m < 0 := by decide +kernel
theorem chs_lt {r e t h m k : Nat} (hr : r < 4) (he : e < 2) (ht : t < 3) (hh : h < 2) (hm : m < 27) : chs r e t h m k < 4 := by
  unfold chs
  repeat' split
  all_goals omega
theorem relE_max {c1 c2 m1 m2 : Int32} (h1 : relE c1 m1) (h2 : relE c2 m2) : relE (if c1 < c2 then c2 else c1) (if m1 < m2 then m2 else m1) := by
  rcases h1 with ⟨rfl, rfl⟩ | ⟨rfl, h1⟩ <;> rcases h2 with ⟨rfl, rfl⟩ | ⟨rfl, h2⟩
  · exact Or.inl ⟨by decide, by decide⟩
  · have : (-1 : Int32) < m2 := by
      rw [Int32.lt_iff_toInt_lt] at h2 ⊢
      rw [show (-1 : Int32).toInt = -1 by decide]
      rw [show (0 : Int32).toInt = 0 by decide] at h2
      omega
    rw [if_pos this]
    by_cases e : (0 : Int32) < m2
    · rw [if_pos e]; exact Or.inr ⟨rfl, h2⟩
    · rw [if_neg e]
      have : m2 = 0 := by
        apply Int32.toInt_inj.mp
        rw [Int32.lt_iff_toInt_lt] at h2 e
        rw [show (0 : Int32).toInt = 0 by decide] at h2 e ⊢
        omega
      rw [this]
      exact Or.inr ⟨rfl, by decide⟩
  · have : ¬ m1 < (-1 : Int32) := by
      rw [Int32.lt_iff_toInt_lt] at h1 ⊢
      rw [show (-1 : Int32).toInt = -1 by decide]
      rw [show (0 : Int32).toInt = 0 by decide] at h1
      omega
    rw [if_neg this, if_neg h1]
    exact Or.inr ⟨rfl, h1⟩
  · by_cases e : m1 < m2
    · rw [if_pos e]; exact Or.inr ⟨rfl, h2⟩
    · rw [if_neg e]; exact Or.inr ⟨rfl, h1⟩
def chm (ch : Nat → Nat → Nat) (a : Nat) (f : Nat → Nat) : Nat → Nat → Nat := fun b => if b = a then f else ch b
theorem chm_s (ch : Nat → Nat → Nat) (a : Nat) (f : Nat → Nat) : chm ch a f a = f := if_pos rfl
theorem chm_n {ch : Nat → Nat → Nat} {a b : Nat} {f : Nat → Nat} (h : ¬ b = a) : chm ch a f b = ch b := if_neg h
def grm (gr : Nat → Nat) (G K c : Nat) : Nat := if gr c = G then K else gr c
section PAIRS2
variable {xl : Nat} {xs : Nat → Int32} {i : Nat → Nat → Int32}
theorem p_version {x v : Int32} (hI : INV i) : PRD xl xs Y_AM_version Y_Model_version [.int x, .int v] i := by
  obtain ⟨np, nv, nn, na, sp, gr, ch, c, nh, hA, hB, hC, hD, hS, hK, hE, hT, hG, hH, hM⟩ := hI
  have hn := hA.2.2.1
  have hcd : ∀ p, p < np → ((nv p = 0 ∨ i (4 + p) (nv p - 1) < v) ↔ (nv p = 0 ∨ i 92 (5 * p + (nv p - 1)) < v)) := fun p hp => by
    rcases Nat.eq_zero_or_pos (nv p) with e | e
    · exact ⟨fun _ => Or.inl e, fun _ => Or.inl e⟩
    · have := (hA.2.2.2.1 p (by omega)).2.2
      rw [hA.2.2.2.2.2.2.1 p (nv p - 1) (by omega) (by omega)]
  refine c_version hA.pk (by omega) (fun p hp hx h0 h1 h5 hc => ⟨_, _, rfl, rfl, ?_⟩) (fun hno => ⟨_, _, rfl, rfl, ?_⟩)
  · have FJ : FRM [4, 5, 6, 7, 8, 9, 10] [] i (am_up (am_up i (4 + p) (nv p) v) 10 p (nI (nv p + 1))) := (FRM.upL [4, 5, 6, 7, 8, 9] ((show ∀ p, p < 6 → [4, 5, 6, 7, 8, 9].contains (4 + p) = true by decide) p (by omega)) (by omega)).tr (FRM.up (by decide))
    generalize hJ : am_up (am_up i (4 + p) (nv p) v) 10 p (nI (nv p + 1)) = J at FJ
    have hkJ : MPK J np nv := by
      have := hA.mpk
      unfold MPK at this ⊢
      rw [FJ.2 1 rfl, FJ.1 91 rfl (by decide)]
      exact this
    have e92 : J 92 = i 92 := FJ.1 92 rfl (by decide)
    refine m_version hkJ (by omega) (fun p' hp' hx' _ _ h5' hc' => ?_) (fun hno => absurd (by rw [e92]; exact (hcd p hp).mp hc) (hno p hp hx h0 h1 h5))
    have := nI_inj (by omega) (by omega) (hx'.symm.trans hx)
    subst this
    have F2 : FRM [92, 91] [] J (am_up (am_up J 92 (5 * p' + nv p') v) 91 p' (nI (nv p' + 1))) := (FRM.up (by decide)).tr (FRM.up (by decide))
    generalize hJ2 : am_up (am_up J 92 (5 * p' + nv p') v) 91 p' (nI (nv p' + 1)) = J2 at F2
    have F := FJ.tr F2
    have a92 : J2 92 = upd (i 92) (5 * p' + nv p') v := by rw [← hJ2, up_a (by decide), up_sa, e92]
    have a10 : ∀ q, J2 10 q = if q = p' then nI (nv p' + 1) else i 10 q := fun q => by
      rw [F2.1 10 rfl (by decide), ← hJ, up_at, up_n (Or.inl (by omega))]
      simp only [true_and]
    have a91 : ∀ q, J2 91 q = if q = p' then nI (nv p' + 1) else i 91 q := fun q => by
      rw [← hJ2, up_at, up_n (Or.inl (by decide)), FJ.1 91 rfl (by decide)]
      simp only [true_and]
    have av : ∀ p k, p < 6 → J2 (4 + p) k = if p = p' ∧ k = nv p' then v else i (4 + p) k := fun p k hp => by
      rw [F2.1 (4 + p) ((show ∀ p, p < 6 → [92, 91].contains (4 + p) = false by decide) p hp) (by omega), ← hJ, up_n (Or.inl (by omega)), up_at]
      by_cases e : p = p' ∧ k = nv p'
      · rw [if_pos e, if_pos ⟨by omega, e.2⟩]
      · rw [if_neg e, if_neg (fun z => e ⟨by omega, z.2⟩)]
    refine ⟨J2, rfl, rfl, np, fset nv p' (nv p' + 1), nn, na, sp, gr, ch, c, nh, ?_, ?_, hC.fr F (by decide) (by decide), hD.fr F (by decide) (by decide), hS.fr F (by decide) (by decide), hK.fr F (by decide) (by decide), hE.fr F (by decide) (by decide), hT.fr F (by decide) (by decide), hG.fr F (by decide) (by decide), (by have hH := hH.fr F (by decide) (by decide); exact ⟨hH.1, hH.2.1, hH.2.2.1, fun p hp => (hH.2.2.2.1 p hp).imp id (fun ⟨k, hk, e⟩ => ⟨k, by unfold fset; split; (rename_i e; subst e; omega); exact hk, e⟩), hH.2.2.2.2⟩), hM.fr F (by decide) (by decide)⟩
    · obtain ⟨k1, k2, k3, k4, k5, k6, k7, k8⟩ := hA
      refine ⟨by rw [F.1 1 rfl (by decide)]; exact k1, by rw [F.2 1 rfl]; exact k2, k3, fun p hp => ?_, by rw [F.1 2 rfl (by decide), F.1 90 rfl (by decide)]; exact k5, by rw [F.1 2 rfl (by decide)]; exact k6, fun p k hp hk => ?_, fun q hq => ?_⟩
      · rw [a10, a91]
        unfold fset
        by_cases e : p = p'
        · rw [if_pos e, if_pos e, if_pos e]; exact ⟨rfl, rfl, by omega⟩
        · rw [if_neg e, if_neg e, if_neg e]; exact k4 p hp
      · rw [av p k hp, a92]
        unfold upd
        have := (k4 p' (by omega)).2.2
        by_cases e : p = p' ∧ k = nv p'
        · rw [if_pos e, if_pos (by rw [e.1, e.2])]
        · rw [if_neg e, if_neg (by omega)]; exact k7 p k hp hk
      · rw [a92]
        unfold upd
        by_cases e : q = 5 * p' + nv p'
        · rw [if_pos e]; exact nlt0 h0
        · rw [if_neg e]; exact k8 q hq
    · have h4 := hA.2.2.2.1
      obtain ⟨k1, k2, k3, k4⟩ := hB
      unfold IB
      rw [F.1 11 rfl (by decide), F.1 93 rfl (by decide), F.1 12 rfl (by decide)]
      refine ⟨k1, fun p hp => (k2 p hp).imp id (fun ⟨k, hk, e⟩ => ⟨k, by unfold fset; split; (rename_i e; subst e; omega); exact hk, e⟩), k3, fun p hp => ?_⟩
      · rw [k4 p hp, a92]
        rcases Nat.lt_or_ge p np with q | q
        · have h5p := (h4 p hp).2.2
          exact (wv_up (nv := nv p) (k2 p q) h5p (fun k hk e => by
            by_cases e2 : p = p'
            · subst e2; omega
            · omega)).symm
        · exact (wv_up (nv := 0) (Or.inl (k3 p q hp)) (by omega) (fun k hk => absurd hk (by omega))).symm
  · exact m_version hA.mpk (by omega) (fun p hp hx h0 h1 h5 hc => absurd ((hcd p hp).mpr hc) (hno p hp hx h0 h1 h5)) (fun _ => ⟨i, rfl, rfl, np, nv, nn, na, sp, gr, ch, c, nh, hA, hB, hC, hD, hS, hK, hE, hT, hG, hH, hM⟩)
theorem p_install {x y : Int32} (hI : INV i) : PRD xl xs Y_AM_install Y_Model_install [.int x, .int y] i := by
  obtain ⟨np, nv, nn, na, sp, gr, ch, c, nh, hA, hB, hC, hD, hS, hK, hE, hT, hG, hH, hM⟩ := hI
  have hn := hA.2.2.1
  have fin : ∀ p (w u : Int32), p < np → (w = -1 ∨ ∃ k, k < nv p ∧ w = nI k) → u = (if w = -1 then -1 else i 92 (5 * p + w.toNatClampNeg)) → INV (am_up (am_up (am_up i 11 p w) 12 p u) 93 p w) := by
    intro p w u hp hw hu
    have F : FRM [11, 12, 93] [] i (am_up (am_up (am_up i 11 p w) 12 p u) 93 p w) := ((FRM.up (by decide)).tr (FRM.up (by decide))).tr (FRM.up (by decide))
    have a11 : ∀ q, am_up (am_up (am_up i 11 p w) 12 p u) 93 p w 11 q = if q = p then w else i 11 q := fun q => by
      rw [up_n (Or.inl (by decide)), up_n (Or.inl (by decide)), up_at]; simp only [true_and]
    have a12 : ∀ q, am_up (am_up (am_up i 11 p w) 12 p u) 93 p w 12 q = if q = p then u else i 12 q := fun q => by
      rw [up_n (Or.inl (by decide)), up_at, up_n (Or.inl (by decide))]; simp only [true_and]
    have a93 : ∀ q, am_up (am_up (am_up i 11 p w) 12 p u) 93 p w 93 q = if q = p then w else i 93 q := fun q => by
      rw [up_at, up_n (Or.inl (by decide)), up_n (Or.inl (by decide))]; simp only [true_and]
    generalize am_up (am_up (am_up i 11 p w) 12 p u) 93 p w = J at *
    refine ⟨np, nv, nn, na, sp, gr, ch, c, nh, hA.fr F (by decide) (by decide), ?_, hC.fr F (by decide) (by decide), hD.fr F (by decide) (by decide), hS.fr F (by decide) (by decide), hK.fr F (by decide) (by decide), hE.fr F (by decide) (by decide), hT.fr F (by decide) (by decide), hG.fr F (by decide) (by decide), hH.fr F (by decide) (by decide), hM.fr F (by decide) (by decide)⟩
    obtain ⟨k1, k2, k3, k4⟩ := hB
    refine ⟨fun q hq => ?_, fun q hq => ?_, fun q hq hq6 => ?_, fun q hq => ?_⟩
    · rw [a11, a93, k1 q hq]
    · rw [a93]
      by_cases e : q = p
      · rw [if_pos e, e]; exact hw
      · rw [if_neg e]; exact k2 q hq
    · rw [a93, if_neg (by omega)]; exact k3 q hq hq6
    · rw [a12]
      unfold wv
      rw [a93, F.1 92 rfl (by decide)]
      by_cases e : q = p
      · rw [if_pos e, if_pos e, hu, e]
      · rw [if_neg e, if_neg e, k4 q hq]; rfl
  refine c_install hA.pk (by omega) (fun p hp hx hy => ⟨_, _, rfl, rfl, ?_⟩) (fun p k hp hk hx hy => ⟨_, _, rfl, rfl, ?_⟩) (fun hno => ⟨_, _, rfl, rfl, ?_⟩)
  · have FJ : FRM [11, 12] [] i (am_up (am_up i 11 p (-1)) 12 p (-1)) := (FRM.up (by decide)).tr (FRM.up (by decide))
    have hkJ : MPK (am_up (am_up i 11 p (-1)) 12 p (-1)) np nv := by
      have := hA.mpk
      unfold MPK at this ⊢
      rw [FJ.2 1 rfl, FJ.1 91 rfl (by decide)]
      exact this
    refine m_install hkJ (by omega) (fun p' hp' hx' _ => ?_) (fun p' k' hp' hk' hx' hy' => ?_) (fun hno => absurd hy (hno p hp hx).1)
    · have := nI_inj (by omega) (by omega) (hx'.symm.trans hx)
      subst this
      exact ⟨_, rfl, rfl, fin p' (-1) (-1) hp (Or.inl rfl) (if_pos rfl).symm⟩
    · have := (hA.2.2.2.1 p' (by omega)).2.2
      exact absurd (hy'.symm.trans hy) (nI_m1 (by omega))
  · have h5 := (hA.2.2.2.1 p (by omega)).2.2
    have FJ : FRM [11, 12] [] i (am_up (am_up i 11 p (nI k)) 12 p (i (4 + p) k)) := (FRM.up (by decide)).tr (FRM.up (by decide))
    have hkJ : MPK (am_up (am_up i 11 p (nI k)) 12 p (i (4 + p) k)) np nv := by
      have := hA.mpk
      unfold MPK at this ⊢
      rw [FJ.2 1 rfl, FJ.1 91 rfl (by decide)]
      exact this
    refine m_install hkJ (by omega) (fun p' hp' hx' hy' => absurd (hy.symm.trans hy') (nI_m1 (by omega))) (fun p' k' hp' hk' hx' hy' => ?_) (fun hno => absurd hy ((hno p hp hx).2 k hk))
    have := nI_inj (by omega) (by omega) (hx'.symm.trans hx)
    subst this
    have := nI_inj (by omega) (by omega) (hy'.symm.trans hy)
    subst this
    refine ⟨_, rfl, rfl, fin p' (nI k') _ hp (Or.inr ⟨k', hk, rfl⟩) ?_⟩
    rw [if_neg (nI_m1 (by omega)), nI_clamp (by omega), hA.2.2.2.2.2.2.1 p' k' (by omega) (by omega)]
  · refine m_install hA.mpk (by omega) (fun p' hp' hx' hy' => absurd hy' (hno p' hp' hx').1) (fun p' k' hp' hk' hx' hy' => absurd hy' ((hno p' hp' hx').2 k' hk')) (fun _ => ⟨i, rfl, rfl, np, nv, nn, na, sp, gr, ch, c, nh, hA, hB, hC, hD, hS, hK, hE, hT, hG, hH, hM⟩)
theorem p_span {x f t : Int32} (hI : INV i) : PRD xl xs Y_AM_span Y_Model_span [.int x, .int f, .int t] i := by
  obtain ⟨np, nv, nn, na, sp, gr, ch, c, nh, hA, hB, hC, hD, hS, hK, hE, hT, hG, hH, hM⟩ := hI
  have hna := hD.2.2.1
  refine c_span hD.ak (by omega) (fun a ha hx h0 h1 h3 => ⟨_, _, rfl, rfl, ?_⟩) (fun hno => ⟨_, _, rfl, rfl, ?_⟩)
  · have FJ : FRM ([23, 24, 25, 26, 27, 28, 29, 30, 31, 32, 33, 34] ++ [36, 37, 38, 39, 40, 41, 42, 43, 44, 45, 46, 47] ++ [48]) [] i (am_up (am_up (am_up i (23 + a) (sp a) f) (36 + a) (sp a) t) 48 a (nI (sp a + 1))) := ((FRM.upL [23, 24, 25, 26, 27, 28, 29, 30, 31, 32, 33, 34] ((show ∀ p, p < 12 → [23, 24, 25, 26, 27, 28, 29, 30, 31, 32, 33, 34].contains (23 + p) = true by decide) a (by omega)) (by omega)).tr (FRM.upL [36, 37, 38, 39, 40, 41, 42, 43, 44, 45, 46, 47] ((show ∀ p, p < 12 → [36, 37, 38, 39, 40, 41, 42, 43, 44, 45, 46, 47].contains (36 + p) = true by decide) a (by omega)) (by omega))).tr (FRM.up (by decide))
    generalize hJ : am_up (am_up (am_up i (23 + a) (sp a) f) (36 + a) (sp a) t) 48 a (nI (sp a + 1)) = J at FJ
    have hkJ : MAK J na sp := by
      have := hD.mak
      unfold MAK at this ⊢
      rw [FJ.2 13 rfl, FJ.1 101 rfl (by decide)]
      exact this
    refine m_span hkJ (by omega) (fun a' ha' hx' _ _ _ => ?_) (fun hno => absurd h3 (hno a ha hx h0 h1))
    have := nI_inj (by omega) (by omega) (hx'.symm.trans hx)
    subst this
    have F2 : FRM [102, 103, 101] [] J (am_up (am_up (am_up J 102 (3 * a' + sp a') f) 103 (3 * a' + sp a') t) 101 a' (nI (sp a' + 1))) := ((FRM.up (by decide)).tr (FRM.up (by decide))).tr (FRM.up (by decide))
    generalize hJ2 : am_up (am_up (am_up J 102 (3 * a' + sp a') f) 103 (3 * a' + sp a') t) 101 a' (nI (sp a' + 1)) = J2 at F2
    have F := FJ.tr F2
    refine ⟨J2, rfl, rfl, np, nv, nn, na, fset sp a' (sp a' + 1), gr, ch, c, nh, hA.fr F (by decide) (by decide), hB.fr F (by decide) (by decide), hC.fr F (by decide) (by decide), ?_, ?_, hK.fr F (by decide) (by decide), hE.fr F (by decide) (by decide), hT.fr F (by decide) (by decide), hG.fr F (by decide) (by decide), hH.fr F (by decide) (by decide), hM.fr F (by decide) (by decide)⟩
    · obtain ⟨k1, k2, k3, k4, k5, k6, k7, k8, k9, k10⟩ := hD
      unfold ID
      rw [F.1 20 rfl (by decide), F.2 13 rfl, F.1 21 rfl (by decide), F.1 100 rfl (by decide), F.1 50 rfl (by decide), F.1 105 rfl (by decide), F.1 51 rfl (by decide), F.1 106 rfl (by decide)]
      refine ⟨k1, k2, k3, k4, k5, fun a ha => ?_, k7, k8, k9, k10⟩
      have e48 : J2 48 a = if a = a' then nI (sp a' + 1) else i 48 a := by
        rw [F2.1 48 rfl (by decide), ← hJ, up_at, up_n (Or.inl (by omega)), up_n (Or.inl (by omega))]; simp only [true_and]
      have e101 : J2 101 a = if a = a' then nI (sp a' + 1) else i 101 a := by
        rw [← hJ2, up_at, up_n (Or.inl (by decide)), up_n (Or.inl (by decide)), FJ.1 101 rfl (by decide)]; simp only [true_and]
      rw [e48, e101]
      unfold fset
      by_cases e : a = a'
      · rw [if_pos e, if_pos e, if_pos e]; exact ⟨rfl, rfl, by omega⟩
      · rw [if_neg e, if_neg e, if_neg e]; exact k6 a ha
    · intro b k hb hk
      have h3' := h3
      have e1 : J2 (23 + b) k = if b = a' ∧ k = sp a' then f else i (23 + b) k := by
        rw [F2.1 (23 + b) ((show ∀ p, p < 12 → [102, 103, 101].contains (23 + p) = false by decide) b hb) (by omega), ← hJ, up_n (Or.inl (by omega)), up_n (Or.inl (by omega)), up_at]
        by_cases e : b = a' ∧ k = sp a'
        · rw [if_pos e, if_pos ⟨by omega, e.2⟩]
        · rw [if_neg e, if_neg (fun z => e ⟨by omega, z.2⟩)]
      have e2 : J2 (36 + b) k = if b = a' ∧ k = sp a' then t else i (36 + b) k := by
        rw [F2.1 (36 + b) ((show ∀ p, p < 12 → [102, 103, 101].contains (36 + p) = false by decide) b hb) (by omega), ← hJ, up_n (Or.inl (by omega)), up_at, up_n (Or.inl (by omega))]
        by_cases e : b = a' ∧ k = sp a'
        · rw [if_pos e, if_pos ⟨by omega, e.2⟩]
        · rw [if_neg e, if_neg (fun z => e ⟨by omega, z.2⟩)]
      have e3 : J2 102 (3 * b + k) = if b = a' ∧ k = sp a' then f else i 102 (3 * b + k) := by
        rw [← hJ2, up_n (Or.inl (by decide)), up_n (Or.inl (by decide)), up_at, FJ.1 102 rfl (by decide)]
        by_cases e : b = a' ∧ k = sp a'
        · rw [if_pos e, if_pos ⟨rfl, by rw [e.1, e.2]⟩]
        · rw [if_neg e, if_neg (fun z => e (by omega))]
      have e4 : J2 103 (3 * b + k) = if b = a' ∧ k = sp a' then t else i 103 (3 * b + k) := by
        rw [← hJ2, up_n (Or.inl (by decide)), up_at, up_n (Or.inl (by decide)), FJ.1 103 rfl (by decide)]
        by_cases e : b = a' ∧ k = sp a'
        · rw [if_pos e, if_pos ⟨rfl, by rw [e.1, e.2]⟩]
        · rw [if_neg e, if_neg (fun z => e (by omega))]
      rw [e1, e2, e3, e4]
      by_cases e : b = a' ∧ k = sp a'
      · rw [if_pos e, if_pos e, if_pos e, if_pos e]; exact ⟨rfl, rfl⟩
      · rw [if_neg e, if_neg e, if_neg e, if_neg e]; exact hS b k hb hk
  · exact m_span hD.mak (by omega) (fun a ha hx h0 h1 h3 => absurd h3 (hno a ha hx h0 h1)) (fun _ => ⟨i, rfl, rfl, np, nv, nn, na, sp, gr, ch, c, nh, hA, hB, hC, hD, hS, hK, hE, hT, hG, hH, hM⟩)
theorem p_severity {x x1 x2 x3 x4 x5 : Int32} (hI : INV i) : PRD xl xs Y_AM_severity Y_Model_severity [.int x, .int x1, .int x2, .int x3, .int x4, .int x5] i := by
  obtain ⟨np, nv, nn, na, sp, gr, ch, c, nh, hA, hB, hC, hD, hS, hK, hE, hT, hG, hH, hM⟩ := hI
  have hna := hD.2.2.1
  refine c_severity hD.1 hna (by omega) (fun a r e t h m ha hr he ht hh hm hx e1 e2 e3 e4 e5 => ⟨_, _, rfl, rfl, ?_⟩) (fun hno => ⟨_, _, rfl, rfl, ?_⟩)
  · refine m_severity (na := na) (by rw [up_n (Or.inl (by decide))]; exact hD.2.1) hna (by omega) (fun a' r' e' t' h' m' ha' hr' he' ht' hh' hm' hx' f1 f2 f3 f4 f5 j g1 g2 => ?_) (fun hno => absurd ⟨hx, e1, e2, e3, e4, e5⟩ (hno a r e t h m ha hr he ht hh hm))
    have := nI_inj (by omega) (by omega) (hx'.symm.trans hx)
    subst this
    have := nI_inj (by omega) (by omega) (f1.symm.trans e1)
    subst this
    have := nI_inj (by omega) (by omega) (f2.symm.trans e2)
    subst this
    have := nI_inj (by omega) (by omega) (f3.symm.trans e3)
    subst this
    have := nI_inj (by omega) (by omega) (f4.symm.trans e4)
    subst this
    have := nI_inj (by omega) (by omega) (f5.symm.trans e5)
    subst this
    have F1 : FRM [49] [] i (am_up i 49 a' (cten r' e' t' h' m')) := FRM.up (by decide)
    have F2 : FRM [104] [] (am_up i 49 a' (cten r' e' t' h' m')) j := ⟨fun q hq _ => g1 q (fun e => by subst e; simp at hq), fun k _ => by rw [g1 89 (by decide)]⟩
    have F := F1.tr F2
    refine ⟨j, rfl, rfl, np, nv, nn, na, sp, gr, chm ch a' (chs r' e' t' h' m'), c, nh, hA.fr F (by decide) (by decide), hB.fr F (by decide) (by decide), hC.fr F (by decide) (by decide), hD.fr F (by decide) (by decide), hS.fr F (by decide) (by decide), ?_, hE.fr F (by decide) (by decide), hT.fr F (by decide) (by decide), hG.fr F (by decide) (by decide), hH.fr F (by decide) (by decide), hM.fr F (by decide) (by decide)⟩
    refine ⟨fun a ha k hk => ?_, fun a ha => ?_⟩
    · rw [g2, up_n (Or.inl (by decide))]
      by_cases e : a = a'
      · subst e
        rw [if_pos (by omega), show 7 * a + k - 7 * a = k by omega, chm_s]
        exact ⟨rfl, chs_lt hr he ht hh hm⟩
      · rw [if_neg (by omega), chm_n e]
        exact hK.1 a ha k hk
    · rw [g1 49 (by decide), up_at]
      by_cases e : a = a'
      · subst e
        rw [if_pos ⟨rfl, rfl⟩, chm_s]
        exact ⟨sco_eq r' hr e' he t' ht h' hh m' hm, sco_pos r' hr e' he t' ht h' hh m' hm⟩
      · rw [if_neg (fun z => e z.2), chm_n e]
        exact hK.2 a ha
  · exact m_severity (na := na) hD.2.1 hna (by omega) (fun a r e t h m ha hr he ht hh hm hx e1 e2 e3 e4 e5 => absurd ⟨hx, e1, e2, e3, e4, e5⟩ (hno a r e t h m ha hr he ht hh hm)) (fun _ => ⟨i, rfl, rfl, np, nv, nn, na, sp, gr, ch, c, nh, hA, hB, hC, hD, hS, hK, hE, hT, hG, hH, hM⟩)
theorem p_except {x y e : Int32} (hI : INV i) : PRD xl xs Y_AM_except Y_Model_except [.int x, .int y, .int e] i := by
  obtain ⟨np, nv, nn, na, sp, gr, ch, c, nh, hA, hB, hC, hD, hS, hK, hE, hT, hG, hH, hM⟩ := hI
  have hn := hA.2.2.1
  have hna := hD.2.2.1
  refine c_except hA.1 hn hD.1 hna hD.cg (by omega) (fun a p ha hp hx hy he => ⟨_, _, rfl, rfl, ?_⟩) (fun hno => ⟨_, _, rfl, rfl, ?_⟩)
  · have hga := (hD.cg a ha).2
    have FJ : FRM [54, 55, 56, 57, 58, 59, 60, 61, 62, 63, 64, 65] [] i (am_up i (54 + gr a) p e) := FRM.upL [54, 55, 56, 57, 58, 59, 60, 61, 62, 63, 64, 65] ((show ∀ p, p < 12 → [54, 55, 56, 57, 58, 59, 60, 61, 62, 63, 64, 65].contains (54 + p) = true by decide) (gr a) hga) (by omega)
    refine m_except (np := np) (na := na) (gr := gr) (by rw [FJ.2 1 rfl]; exact hA.2.1) hn (by rw [FJ.2 13 rfl]; exact hD.2.1) hna (by rw [FJ.1 106 rfl (by decide)]; exact hD.mg) (by omega) (fun a' p' ha' hp' hx' hy' _ => ?_) (fun hno => absurd (hno a p ha hp hx hy) he)
    have := nI_inj (by omega) (by omega) (hx'.symm.trans hx)
    subst this
    have := nI_inj (by omega) (by omega) (hy'.symm.trans hy)
    subst this
    have F2 : FRM [107] [] (am_up i (54 + gr a') p' e) (am_up (am_up i (54 + gr a') p' e) 107 (6 * gr a' + p') e) := FRM.up (by decide)
    have F := FJ.tr F2
    refine ⟨_, rfl, rfl, np, nv, nn, na, sp, gr, ch, c, nh, hA.fr F (by decide) (by decide), hB.fr F (by decide) (by decide), hC.fr F (by decide) (by decide), hD.fr F (by decide) (by decide), hS.fr F (by decide) (by decide), hK.fr F (by decide) (by decide), ?_, hT.fr F (by decide) (by decide), hG.fr F (by decide) (by decide), hH.fr F (by decide) (by decide), hM.fr F (by decide) (by decide)⟩
    intro g hg hl p hp6
    rw [up_n (Or.inl (by omega)), up_at, up_at, up_n (Or.inl (by omega))]
    by_cases eq : g = gr a' ∧ p = p'
    · rw [if_pos ⟨by omega, eq.2⟩, if_pos ⟨rfl, by rw [eq.1, eq.2]⟩]
      exact Or.inr ⟨rfl, he⟩
    · rw [if_neg (fun z => eq ⟨by omega, z.2⟩), if_neg (fun z => eq (by omega))]
      exact hE g hg hl p hp6
  · exact m_except (np := np) (na := na) (gr := gr) hA.2.1 hn hD.2.1 hna hD.mg (by omega) (fun a p ha hp hx hy he => absurd (hno a p ha hp hx hy) he) (fun _ => ⟨i, rfl, rfl, np, nv, nn, na, sp, gr, ch, c, nh, hA, hB, hC, hD, hS, hK, hE, hT, hG, hH, hM⟩)
theorem p_same {x y : Int32} (hI : INV i) : PRD xl xs Y_AM_same Y_Model_same [.int x, .int y] i := by
  obtain ⟨np, nv, nn, na, sp, gr, ch, c, nh, hA, hB, hC, hD, hS, hK, hE, hT, hG, hH, hM⟩ := hI
  have hna := hD.2.2.1
  refine c_same hD.1 hna hD.cg (by omega) (fun a b ha hb hx hy j g1 g2 g3 => ⟨_, _, rfl, rfl, ?_⟩) (fun hno => ⟨_, _, rfl, rfl, ?_⟩)
  · have hga := (hD.2.2.2.2.2.2.2.2.2 a ha).2
    have hgb := (hD.2.2.2.2.2.2.2.2.2 b hb).2
    have hKM : min (gr a) (gr b) ≤ max (gr a) (gr b) ∧ max (gr a) (gr b) < na := by omega
    have hL1 : ∃ c, c < na ∧ gr c = min (gr a) (gr b) := by
      rcases Nat.le_total (gr a) (gr b) with q | q
      · exact ⟨a, ha, by omega⟩
      · exact ⟨b, hb, by omega⟩
    have hL2 : ∃ c, c < na ∧ gr c = max (gr a) (gr b) := by
      rcases Nat.le_total (gr a) (gr b) with q | q
      · exact ⟨b, hb, by omega⟩
      · exact ⟨a, ha, by omega⟩
    have FJ : FRM (51 :: [54, 55, 56, 57, 58, 59, 60, 61, 62, 63, 64, 65]) [] i j := ⟨fun q hq h9 => g1 q (fun e => by subst e; simp at hq) (fun e => by
      have h1 : [54, 55, 56, 57, 58, 59, 60, 61, 62, 63, 64, 65].contains (54 + min (gr a) (gr b)) = true := (show ∀ p, p < 12 → [54, 55, 56, 57, 58, 59, 60, 61, 62, 63, 64, 65].contains (54 + p) = true by decide) _ (by omega)
      subst e
      rw [List.contains_cons, h1, Bool.or_true] at hq
      cases hq), fun k _ => by rw [g1 89 (by decide) (by omega)]⟩
    have j106 : j 106 = i 106 := FJ.1 106 rfl (by decide)
    have j107 : j 107 = i 107 := FJ.1 107 rfl (by decide)
    refine m_same (na := na) (gr := gr) (by rw [FJ.2 13 rfl]; exact hD.2.1) hna (by rw [j106]; exact hD.mg) (by omega) (fun a' b' ha' hb' hx' hy' hne j2 k1 k2 k3 => ?_) (fun a' b' ha' hb' hx' hy' heq => ?_) (fun hno => absurd ⟨hx, hy⟩ (hno a b ha hb))
    · have := nI_inj (by omega) (by omega) (hx'.symm.trans hx)
      subst this
      have := nI_inj (by omega) (by omega) (hy'.symm.trans hy)
      subst this
      generalize hKe : min (gr a') (gr b') = K at *
      generalize hGe : max (gr a') (gr b') = G at *
      have hKG : K < G := by omega
      have F2 : FRM [106, 107] [] j j2 := ⟨fun q hq h9 => k1 q (fun e => by subst e; simp at hq) (fun e => by subst e; simp at hq), fun k _ => by rw [k1 89 (by decide) (by decide)]⟩
      have F := FJ.tr F2
      have rw51 : ∀ c, j2 51 c = if c < na ∧ i 51 c = nI G then nI K else i 51 c := fun c => by rw [F2.1 51 rfl (by decide)]; exact g2 c
      have rw106 : ∀ c, j2 106 c = if c < na ∧ i 106 c = nI G then nI K else i 106 c := fun c => by rw [k2, j106]
      refine ⟨j2, rfl, rfl, np, nv, nn, na, sp, grm gr G K, ch, c, nh, hA.fr F (by decide) (by decide), hB.fr F (by decide) (by decide), hC.fr F (by decide) (by decide), ?_, hS.fr F (by decide) (by decide), hK.fr F (by decide) (by decide), ?_, hT.fr F (by decide) (by decide), hG.fr F (by decide) (by decide), hH.fr F (by decide) (by decide), hM.fr F (by decide) (by decide)⟩
      · obtain ⟨q1, q2, q3, q4, q5, q6, q7, q8, q9, q10⟩ := hD
        unfold ID
        rw [F.1 20 rfl (by decide), F.2 13 rfl, F.1 21 rfl (by decide), F.1 100 rfl (by decide), F.1 48 rfl (by decide), F.1 101 rfl (by decide), F.1 50 rfl (by decide), F.1 105 rfl (by decide)]
        refine ⟨q1, q2, q3, q4, q5, q6, q7, q8, ?_, fun c hc => ?_⟩
        · funext c
          rw [rw51, rw106, q9]
        · have q := q10 c hc
          rw [rw51, q.1]
          unfold grm
          by_cases e : gr c = G
          · rw [if_pos ⟨hc, by rw [e]⟩, if_pos e]; exact ⟨rfl, by omega⟩
          · rw [if_neg (fun z => e (nI_inj (by omega) (by omega) z.2)), if_neg e]; exact ⟨rfl, q.2⟩
      · intro g hg hl p hp
        unfold grm at hl
        have hgG : g ≠ G := by
          rcases hl with q | ⟨c, hc, q⟩
          · omega
          · intro e
            by_cases e2 : gr c = G
            · rw [if_pos e2] at q; omega
            · rw [if_neg e2] at q; omega
        have hlive : na ≤ g ∨ ∃ c, c < na ∧ gr c = g := by
          rcases hl with q | ⟨c, hc, q⟩
          · exact Or.inl q
          · by_cases e2 : gr c = G
            · rw [if_pos e2] at q
              obtain ⟨c', hc', e'⟩ := hL1
              exact Or.inr ⟨c', hc', by omega⟩
            · rw [if_neg e2] at q
              exact Or.inr ⟨c, hc, q⟩
        rw [k3, j107, if_neg (by omega), F2.1 (54 + g) ((show ∀ p, p < 12 → [106, 107].contains (54 + p) = false by decide) g hg) (by omega)]
        by_cases e : g = K
        · subst e
          rw [g3 p hp]
          have r1 := hE g hg (Or.inr hL1) p hp
          have r2 := hE G (by omega) (Or.inr hL2) p hp
          have hs : 6 * G + (6 * g + p - 6 * g) = 6 * G + p := by omega
          rw [hs]
          have hm : (if 6 * g ≤ 6 * g + p ∧ 6 * g + p < 6 * g + 6 ∧ i 107 (6 * g + p) < i 107 (6 * G + p) then i 107 (6 * G + p) else i 107 (6 * g + p)) = (if i 107 (6 * g + p) < i 107 (6 * G + p) then i 107 (6 * G + p) else i 107 (6 * g + p)) := by
            by_cases e3 : i 107 (6 * g + p) < i 107 (6 * G + p)
            · rw [if_pos e3, if_pos ⟨by omega, by omega, e3⟩]
            · rw [if_neg e3, if_neg (fun z => e3 z.2.2)]
          rw [hm]
          exact relE_max r1 r2
        · rw [if_neg (fun z => by omega), g1 (54 + g) (by omega) (by omega)]
          exact hE g hg hlive p hp
    · have := nI_inj (by omega) (by omega) (hx'.symm.trans hx)
      subst this
      have := nI_inj (by omega) (by omega) (hy'.symm.trans hy)
      subst this
      have e51 : j 51 = i 51 := by
        funext c
        rw [g2]
        by_cases e : c < na ∧ i 51 c = nI (max (gr a') (gr b'))
        · rw [if_pos e, e.2, show min (gr a') (gr b') = max (gr a') (gr b') by omega]
        · rw [if_neg e]
      refine ⟨j, by rw [show min (gr a') (gr b') = gr a' by omega], rfl, np, nv, nn, na, sp, gr, ch, c, nh, hA.fr FJ (by decide) (by decide), hB.fr FJ (by decide) (by decide), hC.fr FJ (by decide) (by decide), ?_, hS.fr FJ (by decide) (by decide), hK.fr FJ (by decide) (by decide), ?_, hT.fr FJ (by decide) (by decide), hG.fr FJ (by decide) (by decide), hH.fr FJ (by decide) (by decide), hM.fr FJ (by decide) (by decide)⟩
      · unfold ID
        rw [FJ.1 20 rfl (by decide), FJ.2 13 rfl, FJ.1 21 rfl (by decide), FJ.1 100 rfl (by decide), FJ.1 48 rfl (by decide), FJ.1 101 rfl (by decide), FJ.1 50 rfl (by decide), FJ.1 105 rfl (by decide), e51, j106]
        exact hD
      · intro g hg hl p hp
        rw [j107]
        by_cases e : g = min (gr a') (gr b')
        · have := g3 p hp
          rw [show max (gr a') (gr b') = min (gr a') (gr b') by omega, ← e] at this
          rw [this, if_neg (by rw [Int32.lt_iff_toInt_lt]; omega)]
          exact hE g hg hl p hp
        · rw [g1 (54 + g) (by omega) (by omega)]
          exact hE g hg hl p hp
  · refine m_same (na := na) (gr := gr) hD.2.1 hna hD.mg (by omega) (fun a b ha hb hx hy => absurd ⟨hx, hy⟩ (hno a b ha hb)) (fun a b ha hb hx hy => absurd ⟨hx, hy⟩ (hno a b ha hb)) (fun _ => ⟨i, rfl, rfl, np, nv, nn, na, sp, gr, ch, c, nh, hA, hB, hC, hD, hS, hK, hE, hT, hG, hH, hM⟩)
theorem p_broken (hI : INV i) : PRD xl xs Y_AM_broken Y_Model_broken [] i := by
  obtain ⟨np, nv, nn, na, sp, gr, ch, c, nh, hA, hB, hC, hD, hS, hK, hE, hT, hG, hH, hM⟩ := hI
  have hn := hA.2.2.1
  refine c_broken hC.nk (by omega) ⟨_, _, rfl, rfl, ?_⟩
  refine m_broken hC.mnk hA.2.2.2.2.2.2.2 (fun p hp => ?_) (by omega) (fun j g1 g2 => ?_)
  · rcases Nat.lt_or_ge p np with q | q
    · exact (hB.2.1 p q).imp id (fun ⟨k, hk, e⟩ => ⟨k, by have := (hA.2.2.2.1 p hp).2.2; omega, e⟩)
    · exact Or.inl (hB.2.2.1 p q hp)
  · have F : FRM [111] [] i j := ⟨fun q hq h9 => g1 q (fun e => by subst e; simp at hq), fun k _ => by rw [g1 89 (by decide)]⟩
    refine ⟨j, ?_, rfl, np, nv, nn, na, sp, gr, ch, c, nh, hA.fr F (by decide) (by decide), hB.fr F (by decide) (by decide), hC.fr F (by decide) (by decide), hD.fr F (by decide) (by decide), hS.fr F (by decide) (by decide), hK.fr F (by decide) (by decide), hE.fr F (by decide) (by decide), hT.fr F (by decide) (by decide), hG.fr F (by decide) (by decide), hH.fr F (by decide) (by decide), hM.fr F (by decide) (by decide)⟩
    have : bcnt (mbrk j) nn = bcnt (cbrk i (i 12)) nn := bcnt_congr fun k hk => by
      obtain ⟨a, b, ha, hb, ea, eb⟩ := hC.2.2.2.2.1 k hk
      obtain ⟨h4, h5, h6, h7, h8, h9⟩ := hC.2.2.2.1
      show nbrk (j 94) (j 95) (j 96) (j 97) (j 98) (wv (j 92) (j 111)) k = nbrk (i 14) (i 15) (i 16) (i 17) (i 18) (i 12) k
      rw [g1 94 (by decide), g1 95 (by decide), g1 96 (by decide), g1 97 (by decide), g1 98 (by decide), g1 92 (by decide), ← h4, ← h5, ← h6, ← h7, ← h8]
      exact nbrk_at ha hb ea eb ((wv_congr (g2 a ha)).trans (hB.2.2.2 a ha).symm) ((wv_congr (g2 b hb)).trans (hB.2.2.2 b hb).symm)
    rw [this]
theorem p_update (hI : INV i) : PRD xl xs Y_AM_update Y_Model_update [] i := by
  obtain ⟨np, nv, nn, na, sp, gr, ch, c, nh, hA, hB, hC, hD, hS, hK, hE, hT, hG, hH, hM⟩ := hI
  have hn := hA.2.2.1
  have hl : ∀ p, p < np → i 88 p = -1 ∨ ∃ k, k < nv p ∧ i 88 p = nI k := fun p hp => by rw [hH.2.2.1 p (by omega)]; exact hH.2.2.2.1 p hp
  have hu : ∀ p, p < np → umv (i 93) (i 114) p = umv (i 11) (i 88) p := fun p hp => by unfold umv; rw [hB.1 p (by omega), hH.2.2.1 p (by omega)]
  refine c_update hA.pk hH.2.1 hl (by omega) (fun h1 j g1 g2 g3 => ⟨_, _, rfl, rfl, ?_⟩) (fun h0 => ⟨_, _, rfl, rfl, ?_⟩)
  · have FJ : FRM [11, 12] [] i j := ⟨fun q hq h9 => g1 q (fun e => by subst e; simp at hq) (fun e => by subst e; simp at hq), fun k _ => by rw [g1 89 (by decide) (by decide)]⟩
    have e93 := FJ.1 93 rfl (by decide)
    have e114 := FJ.1 114 rfl (by decide)
    refine m_update (np := np) (by rw [FJ.2 1 rfl]; exact hA.2.1) hn (by rw [FJ.2 29 rfl, ← hH.1]; exact hH.2.1) (by omega) (fun _ j2 k1 k2 => ?_) (fun h0 => ?_)
    · rw [e93, e114] at k2 ⊢
      have F2 : FRM [93] [] j j2 := ⟨fun q hq h9 => k1 q (fun e => by subst e; simp at hq), fun k _ => by rw [k1 89 (by decide)]⟩
      have F := FJ.tr F2
      refine ⟨j2, by rw [bcnt_congr hu], rfl, np, nv, nn, na, sp, gr, ch, c, nh, hA.fr F (by decide) (by decide), ?_, hC.fr F (by decide) (by decide), hD.fr F (by decide) (by decide), hS.fr F (by decide) (by decide), hK.fr F (by decide) (by decide), hE.fr F (by decide) (by decide), hT.fr F (by decide) (by decide), hG.fr F (by decide) (by decide), hH.fr F (by decide) (by decide), hM.fr F (by decide) (by decide)⟩
      have e11 := F2.1 11 rfl (by decide)
      have e12 := F2.1 12 rfl (by decide)
      have val : ∀ p, p < np → j2 93 p = -1 ∨ ∃ k, k < nv p ∧ j2 93 p = nI k := fun p hp => by
        rw [k2]
        by_cases e : p < np ∧ umv (i 93) (i 114) p = true
        · rw [if_pos e]; exact hH.2.2.2.1 p hp
        · rw [if_neg e]; exact hB.2.1 p hp
      refine ⟨fun p hp => ?_, val, fun p hp hp6 => ?_, fun p hp => ?_⟩
      · rw [e11, g2 p hp, k2]
        by_cases e : p < np ∧ umv (i 93) (i 114) p = true
        · rw [if_pos e, if_pos ⟨e.1, by rw [← hu p e.1]; exact e.2⟩, hH.2.2.1 p hp]
        · rw [if_neg e, if_neg (fun z => e ⟨z.1, by rw [hu p z.1]; exact z.2⟩), hB.1 p hp]
      · rw [k2, if_neg (by omega)]; exact hB.2.2.1 p hp hp6
      · rw [e12, g3 p hp]
        unfold wv
        rw [k2, F.1 92 rfl (by decide)]
        by_cases e : p < np ∧ umv (i 93) (i 114) p = true
        · rw [if_pos e, if_pos ⟨e.1, by rw [← hu p e.1]; exact e.2⟩]
          have hne : ¬ i 114 p = -1 := fun z => by
            have := e.2
            unfold umv at this
            rw [show decide (i 114 p = -1) = true from decide_eq_true z] at this
            simp at this
          obtain ⟨k, hk, ek⟩ := (hH.2.2.2.1 p e.1).resolve_left hne
          have h5 := (hA.2.2.2.1 p hp).2.2
          rw [if_neg hne, hH.2.2.1 p hp, ek, nI_clamp (by omega)]
          exact hA.2.2.2.2.2.2.1 p k hp (by omega)
        · rw [if_neg e, if_neg (fun z => e ⟨z.1, by rw [hu p z.1]; exact z.2⟩), hB.2.2.2 p hp]
          rfl
    · rw [FJ.2 29 rfl, ← hH.1, h1] at h0
      exact absurd h0 (by decide)
  · refine m_update (np := np) hA.2.1 hn (by rw [← hH.1]; exact hH.2.1) (by omega) (fun h1 j2 k1 k2 => ?_) (fun _ => ⟨i, rfl, rfl, np, nv, nn, na, sp, gr, ch, c, nh, hA, hB, hC, hD, hS, hK, hE, hT, hG, hH, hM⟩)
    rw [← hH.1, h0] at h1
    exact absurd h1 (by decide)
end PAIRS2
end
section
/-! ONE CALL OF EACH: hits and plan -/
theorem mx_all {f : Nat → Bool} {s : Nat → Int32} : ∀ {n : Nat}, (∀ a, a < n → ¬ s a < 0) → (mx f s n = -1 ∧ ∀ a, a < n → f a = false) ∨ ¬ mx f s n < 0
  | 0, _ => Or.inl ⟨rfl, fun a ha => absurd ha (by omega)⟩
  | n + 1, h => by
    have ih := mx_all (f := f) (s := s) (n := n) (fun a ha => h a (by omega))
    have hn := h n (by omega)
    unfold mx
    cases e : f n with
    | false =>
      rw [if_neg (by decide)]
      rcases ih with ⟨h1, h2⟩ | h1
      · refine Or.inl ⟨h1, fun a ha => ?_⟩
        by_cases q : a = n
        · rw [q]; exact e
        · exact h2 a (by omega)
      · exact Or.inr h1
    | true =>
      rw [if_pos rfl]
      refine Or.inr ?_
      rcases ih with ⟨h1, _⟩ | h1
      · rw [h1, if_pos (by
          rw [Int32.lt_iff_toInt_lt] at hn ⊢
          rw [show (-1 : Int32).toInt = -1 by decide]
          rw [show (0 : Int32).toInt = 0 by decide] at hn
          omega)]
        exact hn
      · split
        · exact hn
        · exact h1
theorem mx_iff {f : Nat → Bool} {s : Nat → Int32} {n : Nat} (h : ∀ a, a < n → ¬ s a < 0) : ¬ mx f s n = -1 ↔ ∃ a, a < n ∧ f a = true := by
  refine ⟨mx_ne, fun ⟨a, ha, e⟩ z => ?_⟩
  rcases mx_all (f := f) h with ⟨_, h2⟩ | h2
  · rw [h2 a ha] at e; cases e
  · rw [z] at h2; exact h2 (by decide)
theorem hlg_mem {T : Nat → Nat → Bool} {p : Nat} : ∀ {g : Nat} {x : Nat × Nat}, x ∈ hlg T p g → x.1 = p ∧ x.2 < g ∧ T x.1 x.2 = true
  | 0, x, h => by cases h
  | g + 1, x, h => by
    unfold hlg at h
    rw [List.mem_append] at h
    rcases h with h | h
    · obtain ⟨h1, h2, h3⟩ := hlg_mem h
      exact ⟨h1, by omega, h3⟩
    · cases e : T p g with
      | false => rw [e, if_neg (by decide)] at h; cases h
      | true =>
        rw [e, if_pos rfl, List.mem_singleton] at h
        subst h
        exact ⟨rfl, by show g < g + 1; omega, e⟩
theorem hls_mem {T : Nat → Nat → Bool} {na : Nat} : ∀ {p : Nat} {x : Nat × Nat}, x ∈ hls T na p → x.1 < p ∧ x.2 < na ∧ T x.1 x.2 = true
  | 0, x, h => by cases h
  | p + 1, x, h => by
    unfold hls at h
    rw [List.mem_append] at h
    rcases h with h | h
    · obtain ⟨h1, h2, h3⟩ := hls_mem h
      exact ⟨by omega, h2, h3⟩
    · obtain ⟨h1, h2, h3⟩ := hlg_mem h
      exact ⟨by omega, h2, h3⟩
theorem getD_mem {R : List (Nat × Nat)} {q : Nat} (h : q < R.length) : R.getD q (0, 0) ∈ R := by
  rw [List.getD_eq_getElem?_getD, List.getElem?_eq_getElem h]
  exact List.getElem_mem h
theorem pst_rng {V : (Nat → Nat) → Bool} {K : (Nat → Nat) → Nat} {c : Nat → Nat} {s : PSt} {f : Nat → Nat} (hs : ∀ q, q < 6 → s.2 q < c q) (hf : ∀ q, q < 6 → f q < c q) : ∀ q, q < 6 → (pst V K s f).2 q < c q := by
  unfold pst
  split
  · exact hf
  · exact hs
theorem pfo_rng {V : (Nat → Nat) → Bool} {K : (Nat → Nat) → Nat} {c : Nat → Nat} : ∀ (m p : Nat) (f : Nat → Nat) (s : PSt), p + m = 6 → (∀ q, q < 6 → s.2 q < c q) → (∀ q, q < 6 → f q < c q) → ∀ q, q < 6 → (pfo V K c m p f s).2 q < c q
  | 0, _, f, s, _, hs, hf => pst_rng hs hf
  | m + 1, p, f, s, hp, hs, hf => by
    unfold pfo
    have : ∀ n, n ≤ c p → ∀ q, q < 6 → (pfk (fun k s => pfo V K c m (p + 1) (fset f p k) s) n s).2 q < c q := by
      intro n
      induction n with
      | zero => intro _; exact hs
      | succ n ih =>
        intro hn
        refine pfo_rng m (p + 1) (fset f p n) _ (by omega) (ih (by omega)) (fun q hq => ?_)
        by_cases e : q = p
        · rw [e, fset_s]; omega
        · rw [fset_n e]; exact hf q hq
    exact this _ (Nat.le_refl _)
theorem pfo_le {V : (Nat → Nat) → Bool} {K : (Nat → Nat) → Nat} {c : Nat → Nat} : ∀ (m p : Nat) (f : Nat → Nat) (s : PSt), (pfo V K c m p f s).1 ≤ s.1
  | 0, _, f, s => by
    unfold pfo pst
    split
    · rename_i h
      exact Nat.le_of_lt h.2
    · exact Nat.le_refl _
  | m + 1, p, f, s => by
    unfold pfo
    have : ∀ n, (pfk (fun k s => pfo V K c m (p + 1) (fset f p k) s) n s).1 ≤ s.1 := by
      intro n
      induction n with
      | zero => exact Nat.le_refl _
      | succ n ih => exact Nat.le_trans (pfo_le m (p + 1) (fset f p n) _) ih
    exact this _
section PAIRS3
variable {xl : Nat} {xs : Nat → Int32} {i : Nat → Nat → Int32} {np nn na c : Nat} {nv sp gr : Nat → Nat} {ch : Nat → Nat → Nat}
theorem gst_eq (hD : ID i na sp gr) (hS : IS i) {g p v : Int32} {a : Nat} (ha : a < na) : cgst i sp g p v a = mgst i sp g p v a := by
  have hna := hD.2.2.1
  have h3 := (hD.2.2.2.2.2.1 a (by omega)).2.2
  unfold cgst cstk mgst mstk stk chas mhas
  rw [hD.2.2.2.2.2.2.2.2.1, hD.2.2.2.1, hD.2.2.2.2.2.2.1]
  rw [bany_congr (fun k hk => ?_)]
  unfold spn
  have := hS a k (by omega) (by omega)
  rw [this.1, this.2]
theorem stk_eq (hD : ID i na sp gr) (hS : IS i) {p v : Int32} {a : Nat} (ha : a < na) : cstk i sp p v a = mstk i sp p v a := by
  have hna := hD.2.2.1
  have h3 := (hD.2.2.2.2.2.1 a (by omega)).2.2
  unfold cstk mstk stk chas mhas
  rw [hD.2.2.2.1, hD.2.2.2.2.2.2.1]
  rw [bany_congr (fun k hk => ?_)]
  unfold spn
  have := hS a k (by omega) (by omega)
  rw [this.1, this.2]
theorem exc_eq (hD : ID i na sp gr) (hE : IE i na gr) (hT : IT i c) {p a : Nat} (hp : p < 6) (ha : a < na) : cX i p (gr a) = mX i p (gr a) := by
  have hg := hD.cg a ha
  have := hE (gr a) hg.2 (Or.inr ⟨a, ha, rfl⟩) p hp
  have hc := hT.2.2
  unfold cX mX
  rw [hT.1, hT.2.1]
  rcases this with ⟨h1, h2⟩ | ⟨h1, _⟩
  · rw [h1, h2, decide_eq_false (nI_pos (by omega)), decide_eq_false]
    rw [Int32.lt_iff_toInt_lt, nI_toInt (by omega), show (-1 : Int32).toInt = -1 by decide]
    omega
  · rw [h1]
theorem clr_eq (hD : ID i na sp gr) (hS : IS i) (hK : IK i ch) (hE : IE i na gr) (hT : IT i c) {p : Nat} (hp : p < 6) {v : Int32} : cclr i sp gr na p v = !(mbad i sp ch na p v na) := by
  have hna := hD.2.2.1
  have hsc : ∀ a, a < na → ¬ (fun a => msc (ch a)) a < 0 := fun a ha => by
    have := hK.2 a (by omega)
    show ¬ msc (ch a) < 0
    rw [← this.1]; exact this.2
  unfold cclr mbad
  refine congrArg _ (Bool.eq_iff_iff.mpr ?_)
  rw [bany_iff, bany_iff]
  constructor
  · intro ⟨a, ha, h⟩
    rw [Bool.and_eq_true] at h
    have hg := hD.2.2.2.2.2.2.2.2.2 a ha
    have hx := exc_eq hD hE hT hp ha
    have hmg : mgst i sp (nI (gr a)) (nI p) v a = true := by
      rw [← gst_eq hD hS ha]
      unfold cgst
      rw [decide_eq_true hg.1, h.1]
      rfl
    refine ⟨gr a, by omega, ?_⟩
    have hne := (mx_iff (f := mgst i sp (nI (gr a)) (nI p) v) hsc).mpr ⟨a, ha, hmg⟩
    rw [decide_eq_false hne, ← hx]
    show (!(decide (i 0 8 < i (54 + gr a) p)) && !false) = true
    rw [h.2]
    rfl
  · intro ⟨g, hg, h⟩
    rw [Bool.and_eq_true] at h
    obtain ⟨a, ha, hm⟩ := (mx_iff hsc).mp (fun z => by rw [decide_eq_true z] at h; cases h.2)
    have hga := hD.2.2.2.2.2.2.2.2.2 a ha
    rw [← gst_eq hD hS ha] at hm
    unfold cgst at hm
    rw [Bool.and_eq_true] at hm
    have e := of_decide_eq_true hm.1
    rw [hga.1] at e
    have := nI_inj (by omega) (by omega) e
    subst this
    refine ⟨a, ha, ?_⟩
    rw [hm.2]
    have hx := exc_eq hD hE hT hp ha
    have h1 := h.1
    rw [← hx] at h1
    exact h1
theorem p_plan (hI : INV i) : PRD xl xs Y_AM_plan Y_Model_plan [] i := by
  obtain ⟨np, nv, nn, na, sp, gr, ch, c, nh, hA, hB, hC, hD, hS, hK, hE, hT, hG, hH, hM⟩ := hI
  have hn := hA.2.2.1
  have hna := hD.2.2.1
  obtain ⟨z, hzd⟩ : ∃ z : Nat → Nat, z = fun p => if p < np then (i 93 p).toNatClampNeg else 0 := ⟨_, rfl⟩
  have hzv : ∀ p, p < np → i 93 p = -1 ∨ (z p < nv p ∧ i 93 p = nI (z p)) := fun p hp => by
    have h5 := (hA.2.2.2.1 p (by omega)).2.2
    rcases hB.2.1 p hp with h | ⟨k, hk, h⟩
    · exact Or.inl h
    · have : z p = k := by rw [hzd]; show (if p < np then (i 93 p).toNatClampNeg else 0) = k; rw [if_pos hp, h, nI_clamp (by omega)]
      rw [this]
      exact Or.inr ⟨hk, h⟩
  have hz5 : ∀ p, z p < 5 := fun p => by
    by_cases hp : p < np
    · rcases hB.2.1 p hp with h | ⟨k, hk, h⟩
      · rw [hzd]; show (if p < np then (i 93 p).toNatClampNeg else 0) < 5; rw [if_pos hp, h]; decide
      · have h5 := (hA.2.2.2.1 p (by omega)).2.2
        rw [hzd]; show (if p < np then (i 93 p).toNatClampNeg else 0) < 5; rw [if_pos hp, h, nI_clamp (by omega)]; omega
    · rw [hzd]; show (if p < np then (i 93 p).toNatClampNeg else 0) < 5; rw [if_neg hp]; omega
  have hcl : ∀ p, p < np → i 11 p = -1 ∨ (z p < nv p ∧ i 11 p = nI (z p)) := fun p hp => by rw [hB.1 p (by omega)]; exact hzv p hp
  refine c_plan (z := z) (gr := gr) hA.pk hC.nk hD.ak hD.2.2.2.2.2.2.2.1 hD.cg hcl hz5 hM.2.2.1 (by omega) (fun I g1 g2 g3 => ?_)
  have hins : cins I np = pins (i 93) np := by
    funext p
    show pins (I 11) np p = pins (i 93) np p
    unfold pins
    rw [g1 11 (by decide)]
    by_cases hp : p < np
    · rw [hB.1 p (by omega)]
    · rw [decide_eq_false hp]; rfl
  -- what the reference finds is the same
  have eqS : ∀ J : Nat → Nat → Int32, (∀ q, 90 ≤ q → q ≠ 112 → J q = i q) → (∀ p k, p < np → k < nv p → mcl J p k = !(mbad i sp ch na p (i 92 (5 * p + k)) na)) → mfo J np nn nv z 6 0 (fun _ => 0) (210, fun _ => 0) = cfo I np nn nv z 6 0 (fun _ => 0) (210, fun _ => 0) ∧ mins J np = cins I np := by
    intro J j1 j2
    have hmi : mins J np = cins I np := by rw [hins]; show pins (J 93) np = _; rw [j1 93 (by decide) (by decide)]
    have hmc : mc J np nv = cc I np nv := by funext p; unfold mc cc; rw [hmi]
    refine ⟨?_, hmi⟩
    have c1 : ∀ q, q < 6 → 0 < mc J np nv q := fun q hq => by
      unfold mc
      cases hi : mins J np q with
      | false => rw [if_neg (by decide)]; omega
      | true =>
        rw [if_pos rfl]
        rw [hmi, hins] at hi
        obtain ⟨h1, h2⟩ := pins_of hi
        have := (hzv q h1).resolve_left h2
        omega
    refine pfo_congr (fun f hf => ?_) (fun f hf => by rw [hmi]) (fun q _ => by rw [hmc]) 6 0 _ _ (by omega) c1
    have hf5 : ∀ p, p < 6 → f p < 5 := fun p hp => by
      have h1 := hf p hp
      have h2 := (hA.2.2.2.1 p hp).2.2
      unfold mc at h1
      split at h1 <;> omega
    have hvs : ∀ p, p < 6 → vers (mins J np) (mver J) f p = vers (cins I np) (cver I) f p := fun p hp => by
      unfold vers
      rw [hmi]
      by_cases e : cins I np p = true
      · rw [if_pos e, if_pos e]
        show J 92 (5 * p + f p) = I (4 + p) (f p)
        rw [j1 92 (by decide) (by decide), g1 (4 + p) (by omega), hA.2.2.2.2.2.2.1 p (f p) hp (hf5 p hp)]
      · rw [if_neg e, if_neg e]
    show vld _ _ _ _ nn f = vld _ _ _ _ nn f
    unfold vld
    have e1 : bany (fun p => mins J np p && !(mcl J p (f p))) 6 = bany (fun p => cins I np p && !(ccl I p (f p))) 6 := bany_congr fun p hp => by
      show (mins J np p && !(mcl J p (f p))) = (cins I np p && !(ccl I p (f p)))
      have hfp := hf p hp
      unfold mc at hfp
      rw [hmi] at hfp ⊢
      cases e : cins I np p with
      | false => rfl
      | true =>
        rw [if_pos e] at hfp
        have hpn := (pins_of e).1
        have h5 := (hA.2.2.2.1 p hp).2.2
        rw [j2 p (f p) hpn hfp, g3 p (f p) hpn hfp, clr_eq hD hS hK hE hT hp, hA.2.2.2.2.2.2.1 p (f p) hp (by omega)]
    have e2 : bany (mB J (vers (mins J np) (mver J) f)) nn = bany (cB I (vers (cins I np) (cver I) f)) nn := bany_congr fun k hk => by
      obtain ⟨a, b, ha, hb, ea, eb⟩ := hC.2.2.2.2.1 k hk
      obtain ⟨h4, h5, h6, h7, h8, h9⟩ := hC.2.2.2.1
      show nbrk (J 94) (J 95) (J 96) (J 97) (J 98) _ k = nbrk (I 14) (I 15) (I 16) (I 17) (I 18) _ k
      rw [j1 94 (by decide) (by decide), j1 95 (by decide) (by decide), j1 96 (by decide) (by decide), j1 97 (by decide) (by decide), j1 98 (by decide) (by decide), g1 14 (by decide), g1 15 (by decide), g1 16 (by decide), g1 17 (by decide), g1 18 (by decide), ← h4, ← h5, ← h6, ← h7, ← h8]
      exact nbrk_at ha hb ea eb (hvs a ha) (hvs b hb)
    rw [e1, e2]
  have hrng : ∀ q, q < 6 → (cfo I np nn nv z 6 0 (fun _ => 0) (210, fun _ => 0)).2 q < cc I np nv q := by
    have c1 : ∀ q, q < 6 → 0 < cc I np nv q := fun q hq => by
      unfold cc
      cases hi : cins I np q with
      | false => rw [if_neg (by decide)]; omega
      | true =>
        rw [if_pos rfl]
        rw [hins] at hi
        obtain ⟨h1, h2⟩ := pins_of hi
        have := (hzv q h1).resolve_left h2
        omega
    exact pfo_rng 6 0 _ _ (by omega) c1 c1
  have hle : (cfo I np nn nv z 6 0 (fun _ => 0) (210, fun _ => 0)).1 ≤ 210 := pfo_le 6 0 _ _
  -- the reference's side
  have ref : ∀ j : Nat → Nat → Int32, (∀ q, q ≠ 84 → q ≠ 86 → q ≠ 87 → q ≠ 88 → j q = I q) → ∀ Q : am_Q, (∀ J j' : Nat → Nat → Int32, (∀ q, q ≠ 112 → J q = j q) → (∀ q, J 112 q = 0 ∨ J 112 q = 1) → (∀ q, q ≠ 89 → q ≠ 111 → q ≠ 113 → q ≠ 114 → j' q = J q) → (∀ q, q ≠ 29 → j' 89 q = J 89 q) → j' 89 29 = 1 → (∀ q, q < 6 → j' 114 q = pvv (cins I np) q ((cfo I np nn nv z 6 0 (fun _ => 0) (210, fun _ => 0)).2 q)) → (cfo I np nn nv z 6 0 (fun _ => 0) (210, fun _ => 0)).1 < 210 → Q (some (.int (nI ((cfo I np nn nv z 6 0 (fun _ => 0) (210, fun _ => 0)).1 / 30)))) (KS, j')) → (∀ J j' : Nat → Nat → Int32, (∀ q, q ≠ 112 → J q = j q) → (∀ q, J 112 q = 0 ∨ J 112 q = 1) → (∀ q, q ≠ 111 → q ≠ 113 → j' q = J q) → (cfo I np nn nv z 6 0 (fun _ => 0) (210, fun _ => 0)).1 = 210 → Q (some (.int (-1))) (KS, j')) → SP xl xs 60 Y_Model_plan [.ref 89] (KS, j) Q := by
    intro j hj Q q1 q0
    have hj9 : ∀ q, 89 ≤ q → j q = i q := fun q hq => (hj q (by omega) (by omega) (by omega) (by omega)).trans (g1 q (by omega))
    have hkj : MPK j np nv := by
      have := hA.mpk
      unfold MPK at this ⊢
      rw [hj9 89 (by decide), hj9 91 (by decide)]
      exact this
    have hAj : MAK j na sp := by
      have := hD.mak
      unfold MAK at this ⊢
      rw [hj9 89 (by decide), hj9 101 (by decide)]
      exact this
    have hNj : MNK j nn := by
      have := hC.mnk
      unfold MNK at this ⊢
      rw [hj9 89 (by decide), hj9 94 (by decide), hj9 96 (by decide)]
      exact this
    refine m_plan (z := z) (ch := ch) hkj hAj (by rw [hj9 105 (by decide), ← hD.2.2.2.2.2.2.1]; exact hD.2.2.2.2.2.2.2.1) (by rw [hj9 104 (by decide)]; exact hK.1) hNj (by rw [hj9 92 (by decide)]; exact hA.2.2.2.2.2.2.2) (by rw [hj9 112 (by decide)]; exact hM.2.2.2.2) (by rw [hj9 93 (by decide)]; exact hzv) (by rw [hj9 93 (by decide)]; exact hB.2.2.1) hz5 (by omega) (fun J k1 k2 k3 => ?_)
    have hbad : ∀ p v, mbad j sp ch na p v = mbad i sp ch na p v := fun p v => by
      unfold mbad mX mgst mstk stk mhas
      rw [hj9 89 (by decide), hj9 107 (by decide), hj9 106 (by decide), hj9 100 (by decide), hj9 105 (by decide), hj9 102 (by decide), hj9 103 (by decide)]
    obtain ⟨eS, eI⟩ := eqS J (fun q hq hq2 => (k1 q hq2).trans (hj9 q (by omega))) (fun p k hp hk => by rw [k3 p k hp hk, hbad, hj9 92 (by decide)])
    rw [eS, eI]
    exact ⟨fun hlt j' a1 a2 a3 a4 => q1 J j' k1 k2 a1 a2 a3 a4 hlt, fun he j' a1 => q0 J j' k1 k2 a1 he⟩
  generalize cfo I np nn nv z 6 0 (fun _ => 0) (210, fun _ => 0) = S at *
  refine ⟨fun hlt j a1 a2 a3 => ⟨_, j, rfl, rfl, ref j a1 _ (fun J j' b1 b2 b3 b4 b5 b6 _ => ?_) (fun J j' b1 b2 b3 he => absurd he (by omega))⟩, fun he j a1 a2 a3 => ⟨_, j, rfl, rfl, ref j a1 _ (fun J j' b1 b2 b3 b4 b5 b6 hlt => absurd he (by omega)) (fun J j' b1 b2 b3 _ => ?_)⟩⟩
  · have F1 : FRM [85, 84, 86, 87, 88] [] i j := ⟨fun q hq _ => by
      simp at hq
      rw [a1 q (by omega) (by omega) (by omega) (by omega), g1 q (by omega)], fun k _ => by rw [a1 89 (by decide) (by decide) (by decide) (by decide), g1 89 (by decide)]⟩
    have F2 : FRM [112, 111, 113, 114] [29] j j' := ⟨fun q hq h9 => by
      simp at hq
      rw [b3 q h9 (by omega) (by omega) (by omega), b1 q (by omega)], fun k hk => by
      simp at hk
      rw [b4 k (by omega), b1 89 (by decide)]⟩
    have F := F1.tr F2
    refine ⟨j', rfl, rfl, np, nv, nn, na, sp, gr, ch, c, nh, hA.fr F (by decide) (by decide), hB.fr F (by decide) (by decide), hC.fr F (by decide) (by decide), hD.fr F (by decide) (by decide), hS.fr F (by decide) (by decide), hK.fr F (by decide) (by decide), hE.fr F (by decide) (by decide), hT.fr F (by decide) (by decide), hG.fr F (by decide) (by decide), ?_, ?_⟩
    · have e84 : j' 84 7 = 1 := by rw [F2.1 84 rfl (by decide)]; exact a2
      refine ⟨by rw [e84, b5], Or.inr e84, fun p hp => ?_, fun p hp => ?_, fun p hp hp6 => ?_⟩
      · rw [F2.1 88 rfl (by decide), a3 p hp, b6 p hp]
      · rw [b6 p (by omega)]
        unfold pvv
        by_cases e : cins I np p = true
        · rw [if_pos e]
          have := hrng p (by omega)
          unfold cc at this
          rw [if_pos e] at this
          exact Or.inr ⟨_, this, rfl⟩
        · rw [if_neg e]; exact Or.inl rfl
      · rw [b6 p hp6]
        exact if_neg (fun e => absurd (pins_of e).1 (by omega))
    · have h85 : j' 85 = I 85 := by rw [F2.1 85 rfl (by decide), a1 85 (by decide) (by decide) (by decide) (by decide)]
      have h112 : j' 112 = J 112 := b3 112 (by decide) (by decide) (by decide) (by decide)
      unfold IM
      rw [F.1 66 rfl (by decide), F.1 68 rfl (by decide), h85, F.1 110 rfl (by decide), h112]
      exact ⟨hM.1, hM.2.1, g2, hM.2.2.2.1, b2⟩
  · have F1 : FRM [85, 84, 86, 87] [] i j := ⟨fun q hq _ => by
      simp at hq
      by_cases e : q = 88
      · subst e; rw [a3, g1 88 (by decide)]
      · rw [a1 q (by omega) (by omega) (by omega) e, g1 q (by omega)], fun k _ => by rw [a1 89 (by decide) (by decide) (by decide) (by decide), g1 89 (by decide)]⟩
    have F2 : FRM [112, 111, 113] [] j j' := ⟨fun q hq h9 => by
      simp at hq
      rw [b3 q (by omega) (by omega), b1 q (by omega)], fun k hk => by rw [b3 89 (by decide) (by decide), b1 89 (by decide)]⟩
    have F := F1.tr F2
    refine ⟨j', rfl, rfl, np, nv, nn, na, sp, gr, ch, c, nh, hA.fr F (by decide) (by decide), hB.fr F (by decide) (by decide), hC.fr F (by decide) (by decide), hD.fr F (by decide) (by decide), hS.fr F (by decide) (by decide), hK.fr F (by decide) (by decide), hE.fr F (by decide) (by decide), hT.fr F (by decide) (by decide), hG.fr F (by decide) (by decide), ?_, ?_⟩
    · have e84 : j' 84 7 = i 84 7 := by rw [F2.1 84 rfl (by decide), a2, g1 84 (by decide)]
      unfold IH
      rw [e84, F.1 88 rfl (by decide), F.1 114 rfl (by decide), F.2 29 rfl]
      exact hH
    · have h85 : j' 85 = I 85 := by rw [F2.1 85 rfl (by decide), a1 85 (by decide) (by decide) (by decide) (by decide)]
      have h112 : j' 112 = J 112 := b3 112 (by decide) (by decide)
      unfold IM
      rw [F.1 66 rfl (by decide), F.1 68 rfl (by decide), h85, F.1 110 rfl (by decide), h112]
      exact ⟨hM.1, hM.2.1, g2, hM.2.2.2.1, b2⟩
end PAIRS3
end
section
/-! ONE CALL OF EACH: hits -/
section PAIRS4
variable {xl : Nat} {xs : Nat → Int32} {i I j J j2 : Nat → Nat → Int32} {np nn na : Nat} {nv sp gr ow : Nat → Nat} {ch : Nat → Nat → Nat}
def hp1 (i I : Nat → Nat → Int32) : Prop := ∀ q, q ≠ 67 → q ≠ 69 → I q = i q
def hp4 (I j : Nat → Nat → Int32) : Prop := ∀ q, q ≠ 70 → (q < 72 ∨ 83 < q) → j q = I q
def hp9 (i j : Nat → Nat → Int32) : Prop := ∀ q, 89 ≤ q → j q = i q
def hpa (j J : Nat → Nat → Int32) : Prop := ∀ q, q ≠ 109 → q ≠ 110 → q ≠ 111 → J q = j q
theorem hp_9 (g1 : hp1 i I) (g4 : hp4 I j) : hp9 i j := fun q hq => (g4 q (by omega) (by omega)).trans (g1 q (by omega) (by omega))
theorem hp_q {q : Nat} (hq : [67, 69, 70, 72, 73, 74, 75, 76, 77, 78, 79, 80, 81, 82, 83].contains q = false) : q < 72 ∨ 83 < q := by
  rcases Nat.lt_or_ge q 72 with z | z
  · exact Or.inl z
  · rcases Nat.lt_or_ge 83 q with z2 | z2
    · exact Or.inr z2
    · exfalso
      have h1 : [67, 69, 70, 72, 73, 74, 75, 76, 77, 78, 79, 80, 81, 82, 83].contains (72 + (q - 72)) = true := (show ∀ p, p < 12 → [67, 69, 70, 72, 73, 74, 75, 76, 77, 78, 79, 80, 81, 82, 83].contains (72 + p) = true by decide) (q - 72) (by clear hq; omega)
      rw [show 72 + (q - 72) = q by clear hq; omega, hq] at h1
      cases h1
theorem hp_ne {S : List Nat} {q a : Nat} (ha : S.contains a = true) (hq : S.contains q = false) : q ≠ a := fun e => by
  rw [e, ha] at hq
  cases hq
theorem hp_F1 (g1 : hp1 i I) (g4 : hp4 I j) : FRM [67, 69, 70, 72, 73, 74, 75, 76, 77, 78, 79, 80, 81, 82, 83] [] i j := by
  refine ⟨fun q hq _ => ?_, fun k _ => ?_⟩
  · exact (g4 q (hp_ne rfl hq) (hp_q hq)).trans (g1 q (hp_ne rfl hq) (hp_ne rfl hq))
  · rw [g4 89 (by decide) (by decide), g1 89 (by decide) (by decide)]
theorem hp_F2 (a1 : hpa j J) (a5 : ∀ q, q ≠ 108 → q ≠ 89 → j2 q = J q) (a6 : ∀ q, q ≠ 22 → j2 89 q = J 89 q) : FRM [108, 109, 110, 111] [22] j j2 := by
  refine ⟨fun q hq h9 => ?_, fun k hk => ?_⟩
  · exact (a5 q (hp_ne rfl hq) h9).trans (a1 q (hp_ne rfl hq) (hp_ne rfl hq) (hp_ne rfl hq))
  · rw [a6 k (hp_ne rfl hk), a1 89 (by decide) (by decide) (by decide)]
theorem hp_mak (hj9 : hp9 i j) (h : MAK i na sp) : MAK j na sp := by
  unfold MAK at h ⊢
  rw [hj9 89 (by decide), hj9 101 (by decide)]
  exact h
theorem hp_mnk (hj9 : hp9 i j) (h : MNK i nn) : MNK j nn := by
  unfold MNK at h ⊢
  rw [hj9 89 (by decide), hj9 94 (by decide), hj9 96 (by decide)]
  exact h
theorem hp_vr (g1 : hp1 i I) (hj9 : hp9 i j) (hA : IA i np nv) (hB : IB i np nv) {p : Nat} (hp : p < np) (hi : ¬ i 93 p = -1) : cvr I p = mvr j p := by
  have hn := hA.2.2.1
  obtain ⟨k, hk, ek⟩ := (hB.2.1 p hp).resolve_left hi
  have h5 := (hA.2.2.2.1 p (by omega)).2.2
  unfold cvr mvr
  rw [g1 11 (by decide) (by decide), g1 (4 + p) (by omega) (by omega), hj9 93 (by decide), hj9 92 (by decide), hB.1 p (by omega), ek, nI_clamp (by omega)]
  exact hA.2.2.2.2.2.2.1 p k (by omega) (by omega)
theorem hp_e1 (g1 : hp1 i I) {g p v : Int32} {a : Nat} (ha : a < 12) : cgst I sp g p v a = cgst i sp g p v a := by
  unfold cgst cstk stk chas
  rw [g1 51 (by decide) (by decide), g1 21 (by decide) (by decide), g1 50 (by decide) (by decide), g1 (23 + a) (by omega) (by omega), g1 (36 + a) (by omega) (by omega)]
theorem hp_e2 (hj9 : hp9 i j) {g p v : Int32} {a : Nat} : mgst j sp g p v a = mgst i sp g p v a := by
  unfold mgst mstk stk mhas
  rw [hj9 106 (by decide), hj9 100 (by decide), hj9 105 (by decide), hj9 102 (by decide), hj9 103 (by decide)]
theorem hp_eS (g1 : hp1 i I) (hj9 : hp9 i j) (hA : IA i np nv) (hB : IB i np nv) (hD : ID i na sp gr) (hS : IS i) (hK : IK i ch) {p g : Nat} (hp : p < np) (hi : ¬ i 93 p = -1) : cS I sp na p g = mS j sp ch na p g := by
  have hna := hD.2.2.1
  unfold cS mS
  rw [hp_vr g1 hj9 hA hB hp hi]
  refine mx_congr (fun a ha => ?_) (fun a ha => ?_)
  · rw [hp_e1 g1 (by omega), hp_e2 hj9, gst_eq hD hS ha]
  · rw [g1 49 (by decide) (by decide)]
    exact (hK.2 a (by omega)).1
theorem hp_eT (g1 : hp1 i I) (hj9 : hp9 i j) (hA : IA i np nv) (hB : IB i np nv) (hD : ID i na sp gr) (hS : IS i) (hK : IK i ch) {p g : Nat} (hp : p < np) : cT I sp na p g = mT j sp ch na p g := by
  have hn := hA.2.2.1
  unfold cT mT
  rw [g1 11 (by decide) (by decide), hj9 93 (by decide), hB.1 p (by omega)]
  by_cases hi : i 93 p = -1
  · rw [decide_eq_true hi, Bool.not_true, Bool.false_and, Bool.false_and]
  · rw [hp_eS g1 hj9 hA hB hD hS hK hp hi]
theorem hp_eR (hj9 : hp9 i j) (hA : IA i np nv) (hB : IB i np nv) : ∀ p, p < 6 → cR i np p = mR j np p := fun p hp => by
  unfold cR mR
  rw [hj9 93 (by decide), hj9 90 (by decide), hB.1 p hp, hA.2.2.2.2.1]
theorem hp_eE (hj9 : hp9 i j) (hB : IB i np nv) (hC : IC i nn) : ∀ k, k < nn → (cact i (i 12) k && chld i (i 12) k) = mE j k := fun k hk => by
  obtain ⟨c4, c5, c6, c7, c8, c9⟩ := hC.2.2.2.1
  obtain ⟨a, b, ha, hb, ea, eb⟩ := hC.2.2.2.2.1 k hk
  unfold mE cact chld
  rw [hj9 94 (by decide), hj9 95 (by decide), hj9 96 (by decide), hj9 97 (by decide), hj9 98 (by decide), hj9 92 (by decide), hj9 93 (by decide), ← c4, ← c5, ← c6, ← c7, ← c8]
  rw [nact_congr ha ea (w' := wv (i 92) (i 93)) (fun p hp => hB.2.2.2 p hp), nhld_congr hb eb (w' := wv (i 92) (i 93)) (fun p hp => hB.2.2.2 p hp)]
theorem hp_66 (hj9 : hp9 i j) (hB : IB i np nv) (hC : IC i nn) (hM : IM i) : ∀ k, k < nn → cE i 66 k = mE j k := fun k hk => by
  unfold cE
  rw [hp_eE hj9 hB hC k hk, hM.1]
  simp
theorem hp_68 (hj9 : hp9 i j) (hB : IB i np nv) (hC : IC i nn) (hM : IM i) : ∀ k, k < nn → cE i 68 k = mF j k := fun k hk => by
  unfold cE mF
  rw [hp_eE hj9 hB hC k hk, hM.2.1, hj9 99 (by decide), ← hC.2.2.2.1.2.2.2.2.2]
  simp
theorem hp_far (hj9 : hp9 i j) (hA : IA i np nv) (hB : IB i np nv) (hC : IC i nn) (hM : IM i) {p : Nat} (hp : p < 6) (g2 : isD (rch (cR i np) (cE i 66) (i 14) (i 16) nn) p (I 67 p)) (a2 : isD (rch (mR j np) (mE j) (j 94) (j 96) nn) p (J 109 p)) : I 67 p = J 109 p :=
  isD_uni (fun l => rch_congr hC.2.2.2.2.1 (hp_eR hj9 hA hB) (hp_66 hj9 hB hC hM) (fun k _ => by rw [hj9 94 (by decide), hC.2.2.2.1.1]) (fun k _ => by rw [hj9 96 (by decide), hC.2.2.2.1.2.2.1]) l p hp) g2 a2
theorem hp_rch (hj9 : hp9 i j) (hA : IA i np nv) (hB : IB i np nv) (hC : IC i nn) (hM : IM i) {p : Nat} (hp : p < 6) (g3 : isD (rch (cR i np) (cE i 68) (i 14) (i 16) nn) p (I 69 p)) (a3 : J 110 p = 0 ∨ J 110 p = 1) (a4 : J 110 p = 1 ↔ rch (mR j np) (mF j) (j 94) (j 96) nn 5 p = true) : (if I 69 p = -1 then (0 : Int32) else 1) = J 110 p := by
  have h1 := isD_5 g3 (fun l hl => rch_all hC.2.2.2.2.1 hp hl)
  have h3 := rch_congr hC.2.2.2.2.1 (hp_eR hj9 hA hB) (hp_68 hj9 hB hC hM) (o' := j 94) (t' := j 96) (fun k _ => by rw [hj9 94 (by decide), hC.2.2.2.1.1]) (fun k _ => by rw [hj9 96 (by decide), hC.2.2.2.1.2.2.1]) 5 p hp
  rw [h3] at h1
  by_cases e : I 69 p = -1
  · rw [if_pos e]
    rcases a3 with z | z
    · exact z.symm
    · exact absurd e (h1.mpr (a4.mp z))
  · rw [if_neg e]
    exact (a4.mpr (h1.mp e)).symm
theorem hp_X (g1 : hp1 i I) (hj9 : hp9 i j) (a1 : hpa j J) (hD : ID i na sp gr) (hE : IE i na gr) {c : Nat} (hT : IT i c) {p a : Nat} (hp : p < 6) (ha : a < na) : cX I p (gr a) = mX J p (gr a) := by
  have := exc_eq hD hE hT hp ha
  have hna := hD.2.2.1
  have hg12 : gr a < 12 := (hD.cg a ha).2
  unfold cX mX at this ⊢
  rw [g1 0 (by decide) (by decide), g1 (54 + gr a) (by omega) (by omega), a1 89 (by decide) (by decide) (by decide), a1 107 (by decide) (by decide) (by decide), hj9 89 (by decide), hj9 107 (by decide)]
  exact this
theorem hp_SS (a1 : hpa j J) {p g : Nat} : mS J sp ch na p g = mS j sp ch na p g := by
  unfold mS mgst mstk stk mhas mvr
  rw [a1 93 (by decide) (by decide) (by decide), a1 92 (by decide) (by decide) (by decide), a1 106 (by decide) (by decide) (by decide), a1 100 (by decide) (by decide) (by decide), a1 105 (by decide) (by decide) (by decide), a1 102 (by decide) (by decide) (by decide), a1 103 (by decide) (by decide) (by decide)]
theorem hp_V {p g w : Nat} (hX : cX I p g = mX J p g) (hs : cS I sp na p g = mS J sp ch na p g) (hf : I 67 p = J 109 p) (hr : (if I 69 p = -1 then (0 : Int32) else 1) = J 110 p) : cV I sp na p g w = mV J sp ch na p g w := by
  unfold cV mV hvl
  rw [hX, hs, hf, show (fun p => if I 69 p = -1 then (0 : Int32) else 1) p = J 110 p from hr]
theorem hp_i (g1 : hp1 i I) (hB : IB i np nv) {p g : Nat} (hp : p < 6) (h : cT I sp na p g = true) : ¬ i 93 p = -1 := fun e => by
  unfold cT at h
  rw [g1 11 (by decide) (by decide), hB.1 p hp, decide_eq_true e, Bool.not_true, Bool.false_and] at h
  cases h
theorem hp_ow (hD : ID i na sp gr) : ∃ ow : Nat → Nat, ∀ a, a < na → i 21 a = nI (ow a) ∧ ow a < 6 := ⟨fun a => (i 21 a).toNatClampNeg, fun a ha => by
  obtain ⟨o, ho, e⟩ := hD.2.2.2.2.1 a ha
  show i 21 a = nI (i 21 a).toNatClampNeg ∧ (i 21 a).toNatClampNeg < 6
  rw [e, nI_clamp (by omega)]
  exact ⟨rfl, ho⟩⟩
theorem hp_IG (F2 : FRM [108, 109, 110, 111] [22] j j2) {LL : List (Nat × Nat)} (g5 : LL.length ≤ 12) (g6 : j 70 1 = nI LL.length) (a7 : j2 89 22 = nI LL.length) {cv mv : Nat → Nat → Nat → Int32} (g7 : RW (fun _ q => j (72 + q)) cv LL) (a8 : RW (fun _ q w => j2 108 (6 * q + w)) mv LL) (hr : ∀ q, q < LL.length → ∀ w, w < 6 → cv (LL.getD q (0, 0)).1 (LL.getD q (0, 0)).2 w = mv (LL.getD q (0, 0)).1 (LL.getD q (0, 0)).2 w) : IG j2 LL.length := by
  refine ⟨by rw [F2.1 70 rfl (by decide)]; exact g6, a7, g5, fun q w hq hw => ?_⟩
  rw [F2.1 (72 + q) ((show ∀ p, p < 12 → [108, 109, 110, 111].contains (72 + p) = false by decide) q (by omega)) (by omega)]
  exact ((g7 q hq w hw).trans (hr q hq w hw)).trans (a8 q hq w hw).symm
theorem hp_IM (F : FRM ([67, 69, 70, 72, 73, 74, 75, 76, 77, 78, 79, 80, 81, 82, 83] ++ [108, 109, 110, 111]) ([] ++ [22]) i j2) (hM : IM i) (a3 : ∀ p, j2 110 p = 0 ∨ j2 110 p = 1) : IM j2 := by
  unfold IM
  rw [F.1 66 rfl (by decide), F.1 68 rfl (by decide), F.1 85 rfl (by decide), F.1 112 rfl (by decide)]
  exact ⟨hM.1, hM.2.1, hM.2.2.1, a3, hM.2.2.2.2⟩
theorem p_hits (hI : INV i) : PRD xl xs Y_AM_hits Y_Model_hits [] i := by
  obtain ⟨np, nv, nn, na, sp, gr, ch, c, nh, hA, hB, hC, hD, hS, hK, hE, hT, hG, hH, hM⟩ := hI
  have hn := hA.2.2.1
  have hna := hD.2.2.1
  obtain ⟨ow, how⟩ := hp_ow hD
  have hgr : ∀ a, a < na → i 51 a = nI (gr a) ∧ gr a < na := fun a ha => ⟨(hD.2.2.2.2.2.2.2.2.2 a ha).1, by have := (hD.2.2.2.2.2.2.2.2.2 a ha).2; omega⟩
  have hvc : ∀ p k, p < 6 → k < nv p → ¬ i (4 + p) k = -1 := fun p k hp hk => by
    have h5 := (hA.2.2.2.1 p hp).2.2
    rw [hA.2.2.2.2.2.2.1 p k hp (by omega)]
    exact hA.2.2.2.2.2.2.2 _ (by omega)
  have hpl : ∀ p, p < np → i 11 p = -1 ∨ ∃ k, k < nv p ∧ i 11 p = nI k := fun p hp => by rw [hB.1 p (by omega)]; exact hB.2.1 p hp
  refine c_hits hA.pk hD.ak hD.2.2.2.2.2.2.2.1 hpl hvc hA.2.2.2.2.2.1 hC.nk hC.2.2.2.2.2 hM.1 hM.2.1 how hgr (by decide) (fun I j g1 g2 g3 g4 g5 g6 g7 => ⟨_, j, rfl, rfl, ?_⟩)
  have g1 : hp1 i I := g1
  have hj9 : hp9 i j := hp_9 g1 g4
  have eT : ∀ p g, p < np → cT I sp na p g = mT j sp ch na p g := fun p g hp => hp_eT g1 hj9 hA hB hD hS hK hp
  have eR : hls (mT j sp ch na) na np = hls (cT I sp na) na np := hls_congr (fun p g hp hg => (eT p g hp).symm)
  have hTa : ∀ p g, p < np → g < na → cT I sp na p g = true → ∃ a, a < na ∧ ow a = p ∧ gr a = g := fun p g hp hg h => cT_adv (I := I) (sp := sp) hna (by rw [g1 21 (by decide) (by decide)]; exact how) (by rw [g1 51 (by decide) (by decide)]; exact hgr) (by omega) hg h
  have hTm : ∀ p g, p < np → g < na → mT j sp ch na p g = true → ∃ a, a < na ∧ ow a = p ∧ gr a = g := fun p g hp hg h => hTa p g hp hg ((eT p g hp).trans h)
  refine m_hits (ch := ch) (np := np) (nn := nn) (by rw [hj9 89 (by decide)]; exact hA.2.1) hn (hp_mak hj9 hD.mak) (by rw [hj9 105 (by decide), ← hD.2.2.2.2.2.2.1]; exact hD.2.2.2.2.2.2.2.1) (by rw [hj9 104 (by decide)]; exact hK.1) (hp_mnk hj9 hC.mnk) (by rw [hj9 92 (by decide)]; exact hA.2.2.2.2.2.2.2) (fun p hp => ?_) (by rw [hj9 90 (by decide), ← hA.2.2.2.2.1]; exact hA.2.2.2.2.2.1) (by rw [hj9 99 (by decide), ← hC.2.2.2.1.2.2.2.2.2]; exact hC.2.2.2.2.2) (by rw [hj9 110 (by decide)]; exact hM.2.2.2.1) (fun p g hp hg h => Nat.lt_of_lt_of_le (hl_lt hTm (fun a ha => (hgr a ha).2) hp hg h) (Nat.le_trans hna (by decide))) (by decide) (fun J j2 a1 a2 a3 a4 a5 a6 a7 a8 => ?_)
  · rw [hj9 93 (by decide)]
    rcases Nat.lt_or_ge p np with q | q
    · exact (hB.2.1 p q).imp id (fun ⟨k, hk, e⟩ => ⟨k, by have := (hA.2.2.2.1 p hp).2.2; omega, e⟩)
    · exact Or.inl (hB.2.2.1 p q hp)
  rw [eR] at a7 a8 ⊢
  have a1 : hpa j J := a1
  have F2 := hp_F2 a1 a5 a6
  have F := (hp_F1 g1 g4).tr F2
  refine ⟨j2, rfl, rfl, np, nv, nn, na, sp, gr, ch, c, (hls (cT I sp na) na np).length, hA.fr F (by decide) (by decide), hB.fr F (by decide) (by decide), hC.fr F (by decide) (by decide), hD.fr F (by decide) (by decide), hS.fr F (by decide) (by decide), hK.fr F (by decide) (by decide), hE.fr F (by decide) (by decide), hT.fr F (by decide) (by decide), ?_, hH.fr F (by decide) (by decide), ?_⟩
  · refine hp_IG F2 g5 g6 a7 g7 a8 (fun q hq w hw => ?_)
    have hmem := hls_mem (getD_mem hq)
    generalize (hls (cT I sp na) na np).getD q (0, 0) = x at hmem ⊢
    have hp6 : x.1 < 6 := by omega
    obtain ⟨a, ha, hoa, hga⟩ := hTa x.1 x.2 hmem.1 hmem.2.1 hmem.2.2
    have hX : cX I x.1 x.2 = mX J x.1 x.2 := by rw [← hga]; exact hp_X g1 hj9 a1 hD hE hT hp6 ha
    exact hp_V hX ((hp_eS g1 hj9 hA hB hD hS hK hmem.1 (hp_i g1 hB hp6 hmem.2.2)).trans (hp_SS a1).symm) (hp_far hj9 hA hB hC hM hp6 (g2 _ hp6) (a2 _ hp6)) (hp_rch hj9 hA hB hC hM hp6 (g3 _ hp6) (a3 _) (a4 _ hp6))
  · exact hp_IM F hM (fun p => by rw [a5 110 (by decide) (by decide)]; exact a3 p)
end PAIRS4
end
