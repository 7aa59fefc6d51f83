/-! THE SMALL MACHINE. Cells have small numbers (ids); 'ad' says where each lies. A state: the shape (kind, length, references of each cell) and the ints of each cell. -/
abbrev am_Sh : Type := List (Nat × Nat × List (Option Nat))
abbrev am_St : Type := am_Sh × (Nat → Nat → Int32)
abbrev am_X : Type := Nat → List (Option Value) → List Value → am_St → Nat → Nat → Prop
abbrev am_Q : Type := Option Value → am_St → Prop
abbrev am_C : Type := Nat → List Value → am_St → am_Q → Prop
abbrev am_In : Type := Nat × Nat × Nat × Int × Nat
def am_sb : Nat := 1000000
def am_xb : Nat := 2000000
def am_cv (ad : Nat → Nat) : Value → Value
  | .ref a => .ref (ad a)
  | v => v
theorem am_cv_cat (ad : Nat → Nat) (v : Value) : (am_cv ad v).category = v.category := by cases v <;> rfl
theorem am_cv_sum (ad : Nat → Nat) (S : List Value) : ((S.map (am_cv ad)).map fun v => v.category).sum = (S.map fun v => v.category).sum := by
  rw [List.map_map]
  exact congrArg List.sum (List.map_congr_left fun v _ => am_cv_cat ad v)
def am_ld (L : List (Option Value)) (i : Nat) : Option Value := (L[i]?).join
def am_nl : Option Value → Option Value
  | some (.long _) => none
  | some (.double _) => none
  | o => o
def am_st1 : List (Option Value) → Nat → Value → List (Option Value)
  | [], _, _ => []
  | _ :: r, 0, v => some v :: r
  | o :: r, 1, v => am_nl o :: am_st1 r 0 v
  | o :: r, i + 2, v => o :: am_st1 r (i + 1) v
def am_st2 : List (Option Value) → Nat → Value → List (Option Value)
  | [], _, _ => []
  | [_], 0, v => [some v]
  | _ :: _ :: r, 0, v => some v :: none :: r
  | o :: r, 1, v => am_nl o :: am_st2 r 0 v
  | o :: r, i + 2, v => o :: am_st2 r (i + 1) v
/-- what is known of the locals -/
def am_kn (ad : Nat → Nat) (L : List (Option Value)) : List (Nat × Value) := (List.range L.length).filterMap fun i => (am_ld L i).map fun v => (i, am_cv ad v)
theorem am_ld_lt {L : List (Option Value)} {i : Nat} {v : Value} (h : am_ld L i = some v) : i < L.length := by
  rcases Nat.lt_or_ge i L.length with q | q
  · exact q
  · rw [am_ld, List.getElem?_eq_none q] at h
    cases h
theorem am_kn_in {ad : Nat → Nat} {L : List (Option Value)} {i : Nat} {v : Value} (h : am_ld L i = some v) : (i, am_cv ad v) ∈ am_kn ad L :=
  List.mem_filterMap.mpr ⟨i, List.mem_range.mpr (am_ld_lt h), by rw [h]; rfl⟩
theorem am_kn_of {ad : Nat → Nat} {L : List (Option Value)} {q : Nat × Value} (h : q ∈ am_kn ad L) : ∃ v, am_ld L q.1 = some v ∧ q.2 = am_cv ad v := by
  obtain ⟨i, -, hi⟩ := List.mem_filterMap.mp h
  cases hv : am_ld L i with
  | none => rw [hv] at hi; cases hi
  | some v =>
    rw [hv] at hi
    cases hi
    exact ⟨v, hv, rfl⟩
theorem am_at {ad : Nat → Nat} {L : List (Option Value)} {ls : Array Slot} {nL i : Nat} {v : Value} (h : lv_has ls nL (am_kn ad L)) (hi : am_ld L i = some v) : ls[i]? = some (.val (am_cv ad v)) := h.2.2 _ (am_kn_in hi)
theorem am_ld_0 (o : Option Value) (r : List (Option Value)) : am_ld (o :: r) 0 = o := by simp [am_ld]
theorem am_ld_s (o : Option Value) (r : List (Option Value)) (i : Nat) : am_ld (o :: r) (i + 1) = am_ld r i := by simp [am_ld]
theorem am_nl_of {o : Option Value} {w : Value} (h : am_nl o = some w) : o = some w ∧ ¬ w.category = 2 := by
  cases o with
  | none => cases h
  | some v => cases v <;> first | (cases h; done) | (cases h; exact ⟨rfl, by simp [Value.category]⟩)
theorem am_st1_of : ∀ (L : List (Option Value)) (i : Nat) (v : Value) (j : Nat) (w : Value), am_ld (am_st1 L i v) j = some w → (j = i ∧ w = v) ∨ (j ≠ i ∧ am_ld L j = some w ∧ ¬ (j + 1 = i ∧ w.category = 2))
  | [], i, v, j, w, h => by simp [am_st1, am_ld] at h
  | o :: r, 0, v, 0, w, h => by
    rw [am_st1, am_ld_0] at h
    exact Or.inl ⟨rfl, (Option.some.inj h).symm⟩
  | o :: r, 0, v, j + 1, w, h => by
    rw [am_st1, am_ld_s] at h
    exact Or.inr ⟨by omega, by rw [am_ld_s]; exact h, by omega⟩
  | o :: r, 1, v, 0, w, h => by
    rw [am_st1, am_ld_0] at h
    obtain ⟨h1, h2⟩ := am_nl_of h
    exact Or.inr ⟨by omega, by rw [am_ld_0]; exact h1, fun q => h2 q.2⟩
  | o :: r, 1, v, j + 1, w, h => by
    rw [am_st1, am_ld_s] at h
    rcases am_st1_of r 0 v j w h with ⟨h1, h2⟩ | ⟨h1, h2, h3⟩
    · exact Or.inl ⟨by omega, h2⟩
    · exact Or.inr ⟨by omega, by rw [am_ld_s]; exact h2, by omega⟩
  | o :: r, i + 2, v, 0, w, h => by
    rw [am_st1, am_ld_0] at h
    exact Or.inr ⟨by omega, by rw [am_ld_0]; exact h, by omega⟩
  | o :: r, i + 2, v, j + 1, w, h => by
    rw [am_st1, am_ld_s] at h
    rcases am_st1_of r (i + 1) v j w h with ⟨h1, h2⟩ | ⟨h1, h2, h3⟩
    · exact Or.inl ⟨by omega, h2⟩
    · exact Or.inr ⟨by omega, by rw [am_ld_s]; exact h2, fun q => h3 ⟨by omega, q.2⟩⟩
theorem am_st2_of : ∀ (L : List (Option Value)) (i : Nat) (v : Value) (j : Nat) (w : Value), am_ld (am_st2 L i v) j = some w → (j = i ∧ w = v) ∨ (j ≠ i ∧ j ≠ i + 1 ∧ am_ld L j = some w ∧ ¬ (j + 1 = i ∧ w.category = 2))
  | [], i, v, j, w, h => by simp [am_st2, am_ld] at h
  | [o], 0, v, 0, w, h => by
    rw [am_st2, am_ld_0] at h
    exact Or.inl ⟨rfl, (Option.some.inj h).symm⟩
  | [o], 0, v, j + 1, w, h => by
    rw [am_st2, am_ld_s] at h
    simp [am_ld] at h
  | o :: o2 :: r, 0, v, 0, w, h => by
    rw [am_st2, am_ld_0] at h
    exact Or.inl ⟨rfl, (Option.some.inj h).symm⟩
  | o :: o2 :: r, 0, v, 1, w, h => by
    rw [am_st2, am_ld_s, am_ld_0] at h
    cases h
  | o :: o2 :: r, 0, v, j + 2, w, h => by
    rw [am_st2, am_ld_s, am_ld_s] at h
    exact Or.inr ⟨by omega, by omega, by rw [am_ld_s, am_ld_s]; exact h, by omega⟩
  | o :: r, 1, v, 0, w, h => by
    rw [am_st2.eq_def] at h
    cases r <;>
    · simp only [am_ld_0] at h
      obtain ⟨h1, h2⟩ := am_nl_of h
      exact Or.inr ⟨by omega, by omega, by rw [am_ld_0]; exact h1, fun q => h2 q.2⟩
  | o :: r, 1, v, j + 1, w, h => by
    have h : am_ld (am_st2 r 0 v) j = some w := by
      rw [am_st2.eq_def] at h
      cases r <;> (simp only [am_ld_s] at h; exact h)
    rcases am_st2_of r 0 v j w h with ⟨h1, h2⟩ | ⟨h1, h2, h3, h4⟩
    · exact Or.inl ⟨by omega, h2⟩
    · exact Or.inr ⟨by omega, by omega, by rw [am_ld_s]; exact h3, by omega⟩
  | o :: r, i + 2, v, 0, w, h => by
    rw [am_st2.eq_def] at h
    cases r <;>
    · simp only [am_ld_0] at h
      exact Or.inr ⟨by omega, by omega, by rw [am_ld_0]; exact h, by omega⟩
  | o :: r, i + 2, v, j + 1, w, h => by
    have h : am_ld (am_st2 r (i + 1) v) j = some w := by
      rw [am_st2.eq_def] at h
      cases r <;> (simp only [am_ld_s] at h; exact h)
    rcases am_st2_of r (i + 1) v j w h with ⟨h1, h2⟩ | ⟨h1, h2, h3, h4⟩
    · exact Or.inl ⟨by omega, h2⟩
    · exact Or.inr ⟨by omega, by omega, by rw [am_ld_s]; exact h3, fun q => h4 ⟨by omega, q.2⟩⟩
theorem am_has_mem {ls : Array Slot} {nL : Nat} {l l' : List (Nat × Value)} (h : lv_has ls nL l) (hs : ∀ q ∈ l', q ∈ l) : lv_has ls nL l' := ⟨h.1, h.2.1, fun q hq => h.2.2 q (hs q hq)⟩
theorem am_has1 {ad : Nat → Nat} {L : List (Option Value)} {ls : Array Slot} {nL i : Nat} {v : Value} (h : lv_has ls nL ((i, am_cv ad v) :: (am_kn ad L).filter (fun q => !(q.1 == i) && !(q.1 + 1 == i && q.2.category == 2)))) : lv_has ls nL (am_kn ad (am_st1 L i v)) := by
  refine am_has_mem h fun q hq => ?_
  obtain ⟨w, h1, h2⟩ := am_kn_of hq
  rcases am_st1_of L i v q.1 w h1 with ⟨e1, e2⟩ | ⟨e1, e2, e3⟩
  · subst e2
    rw [show q = (i, am_cv ad w) from Prod.ext e1 h2]
    exact List.mem_cons_self
  · refine List.mem_cons_of_mem _ (List.mem_filter.mpr ⟨?_, ?_⟩)
    · rw [show q = (q.1, am_cv ad w) from Prod.ext rfl h2]
      exact am_kn_in e2
    · rw [h2, am_cv_cat]
      by_cases g1 : q.1 + 1 = i <;> by_cases g2 : w.category = 2 <;> simp [e1, g1, g2] <;> exact e3 ⟨g1, g2⟩
theorem am_has2 {ad : Nat → Nat} {L : List (Option Value)} {ls : Array Slot} {nL i : Nat} {v : Value} (h : lv_has ls nL ((i, am_cv ad v) :: (am_kn ad L).filter (fun q => !(q.1 == i) && (!(q.1 == i + 1) && !(q.1 + 1 == i && q.2.category == 2))))) : lv_has ls nL (am_kn ad (am_st2 L i v)) := by
  refine am_has_mem h fun q hq => ?_
  obtain ⟨w, h1, h2⟩ := am_kn_of hq
  rcases am_st2_of L i v q.1 w h1 with ⟨e1, e2⟩ | ⟨e1, e4, e2, e3⟩
  · subst e2
    rw [show q = (i, am_cv ad w) from Prod.ext e1 h2]
    exact List.mem_cons_self
  · refine List.mem_cons_of_mem _ (List.mem_filter.mpr ⟨?_, ?_⟩)
    · rw [show q = (q.1, am_cv ad w) from Prod.ext rfl h2]
      exact am_kn_in e2
    · rw [h2, am_cv_cat]
      by_cases g1 : q.1 + 1 = i <;> by_cases g2 : w.category = 2 <;> simp [e1, e4, g1, g2] <;> exact e3 ⟨g1, g2⟩
/-- the ints of one cell anew -/
def am_cp (f : Nat → Nat → Int32) (a : Nat) (g : Nat → Int32) : Nat → Nat → Int32 := fun q => if q = a then g else f q
def am_up (f : Nat → Nat → Int32) (a i : Nat) (x : Int32) : Nat → Nat → Int32 := am_cp f a (upd (f a) i x)
def am_zr (f : Nat → Nat → Int32) (a n : Nat) : Nat → Nat → Int32 := fun q => if a ≤ q ∧ q < a + n then (fun _ => 0) else f q
def am_rg (rs : List (Option Nat)) (j : Nat) : Option Nat := (rs[j]?).join
def am_fl (ft : Nat → Nat → Bool) (ad : Nat → Nat) (f : Nat → Int32) (rs : List (Option Nat)) (t k : Nat) : Value := if ft t k = true then va_rf ((am_rg rs k).map ad) else .int (f k)
def am_en (kA : Nat → ClassId) (ft : Nat → Nat → Bool) (ad : Nat → Nat) (f : Nat → Int32) : Nat × Nat × List (Option Nat) → va_E
  | (0, n, _) => .inl (kA 0, n, .inl f)
  | (1, n, _) => .inl (kA 1, n, .inl f)
  | (2, n, rs) => .inl (kA 2, n, .inr (.inr (.inr (.inr (fun j => (am_rg rs j).map ad)))))
  | (t + 3, n, rs) => .inr (t, (List.range n).map (am_fl ft ad f rs t))
def am_wl (kA : Nat → ClassId) (ft : Nat → Nat → Bool) (ad : Nat → Nat) (u : am_St) : va_W := (List.range u.1.length).map fun q => (ad q, am_en kA ft ad (u.2 q) ((u.1[q]?).getD (0, 0, [])))
theorem am_wl_len (kA : Nat → ClassId) (ft : Nat → Nat → Bool) (ad : Nat → Nat) (u : am_St) : (am_wl kA ft ad u).length = u.1.length := by simp [am_wl]
theorem am_wl_at {kA : Nat → ClassId} {ft : Nat → Nat → Bool} {ad : Nat → Nat} {u : am_St} {q : Nat} {e : Nat × Nat × List (Option Nat)} (h : u.1[q]? = some e) : (am_wl kA ft ad u)[q]? = some (ad q, am_en kA ft ad (u.2 q) e) := by
  have hl : q < u.1.length := (List.getElem?_eq_some_iff.mp h).1
  rw [am_wl, List.getElem?_map, List.getElem?_range hl]
  show some (ad q, am_en kA ft ad (u.2 q) ((u.1[q]?).getD (0, 0, []))) = _
  rw [h]
  rfl
theorem am_wl_no {kA : Nat → ClassId} {ft : Nat → Nat → Bool} {ad : Nat → Nat} {u : am_St} {q : Nat} (h : u.1.length ≤ q) : (am_wl kA ft ad u)[q]? = none := List.getElem?_eq_none (by rw [am_wl_len]; exact h)
theorem am_wl_set {kA : Nat → ClassId} {ft : Nat → Nat → Bool} {ad : Nat → Nat} {u : am_St} {q : Nat} (e : Nat × Nat × List (Option Nat)) (f : Nat → Int32) : (am_wl kA ft ad u).set q (ad q, am_en kA ft ad f e) = am_wl kA ft ad (u.1.set q e, am_cp u.2 q f) := by
  apply List.ext_getElem?
  intro k
  by_cases hk : k < u.1.length
  · by_cases hq : q = k
    · subst hq
      rw [List.getElem?_set_self (by rw [am_wl_len]; exact hk)]
      rw [am_wl_at (u := (u.1.set q e, am_cp u.2 q f)) (e := e) (List.getElem?_set_self hk)]
      simp [am_cp]
    · rw [List.getElem?_set_ne hq]
      have h1 : u.1[k]? = some u.1[k] := List.getElem?_eq_getElem hk
      rw [am_wl_at h1, am_wl_at (u := (u.1.set q e, am_cp u.2 q f)) (e := u.1[k]) (by show (u.1.set q e)[k]? = _; rw [List.getElem?_set_ne hq]; exact h1)]
      simp [am_cp, show ¬ k = q from fun h => hq h.symm]
  · rw [am_wl_no (u := (u.1.set q e, am_cp u.2 q f)) (by show (u.1.set q e).length ≤ k; rw [List.length_set]; omega)]
    exact List.getElem?_eq_none (by rw [List.length_set, am_wl_len]; omega)
theorem am_wl_seti {kA : Nat → ClassId} {ft : Nat → Nat → Bool} {ad : Nat → Nat} {u : am_St} {q : Nat} {e : Nat × Nat × List (Option Nat)} (h : u.1[q]? = some e) (f : Nat → Int32) : (am_wl kA ft ad u).set q (ad q, am_en kA ft ad f e) = am_wl kA ft ad (u.1, am_cp u.2 q f) := by
  rw [am_wl_set e f]
  obtain ⟨h1, h2⟩ := List.getElem?_eq_some_iff.mp h
  rw [← h2, List.set_getElem_self]
