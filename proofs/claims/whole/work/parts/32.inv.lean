/-! WHAT IS ALWAYS TRUE OF THE TWO -/
def relE (c m : Int32) : Prop := (m = -1 ∧ c = 0) ∨ (m = c ∧ ¬ c < 0)
def IA (i : Nat → Nat → Int32) (np : Nat) (nv : Nat → Nat) : Prop := i 1 5 = nI np ∧ i 89 1 = nI np ∧ np ≤ 6 ∧ (∀ p, p < 6 → i 10 p = nI (nv p) ∧ i 91 p = nI (nv p) ∧ nv p ≤ 5) ∧ i 2 = i 90 ∧ (∀ p, i 2 p = 0 ∨ i 2 p = 1) ∧ (∀ p k, p < 6 → k < 5 → i (4 + p) k = i 92 (5 * p + k)) ∧ (∀ q, q < 30 → ¬ i 92 q = -1)
def IB (i : Nat → Nat → Int32) (np : Nat) (nv : Nat → Nat) : Prop := (∀ p, p < 6 → i 11 p = i 93 p) ∧ (∀ p, p < np → i 93 p = -1 ∨ ∃ k, k < nv p ∧ i 93 p = nI k) ∧ (∀ p, np ≤ p → p < 6 → i 93 p = -1) ∧ (∀ p, p < 6 → i 12 p = wv (i 92) (i 93) p)
def IC (i : Nat → Nat → Int32) (nn : Nat) : Prop := i 13 6 = nI nn ∧ i 89 6 = nI nn ∧ nn ≤ 16 ∧ (i 14 = i 94 ∧ i 15 = i 95 ∧ i 16 = i 96 ∧ i 17 = i 97 ∧ i 18 = i 98 ∧ i 19 = i 99) ∧ (∀ k, k < nn → ∃ a b, a < 6 ∧ b < 6 ∧ i 14 k = nI a ∧ i 16 k = nI b) ∧ (∀ k, i 19 k = 0 ∨ i 19 k = 1)
def ID (i : Nat → Nat → Int32) (na : Nat) (sp gr : Nat → Nat) : Prop := i 20 7 = nI na ∧ i 89 13 = nI na ∧ na ≤ 12 ∧ i 21 = i 100 ∧ (∀ a, a < na → ∃ o, o < 6 ∧ i 21 a = nI o) ∧ (∀ a, a < 12 → i 48 a = nI (sp a) ∧ i 101 a = nI (sp a) ∧ sp a ≤ 3) ∧ i 50 = i 105 ∧ (∀ a, i 50 a = 0 ∨ i 50 a = 1) ∧ i 51 = i 106 ∧ (∀ a, a < na → i 51 a = nI (gr a) ∧ gr a ≤ a)
def IS (i : Nat → Nat → Int32)  : Prop := ∀ a k, a < 12 → k < 3 → i (23 + a) k = i 102 (3 * a + k) ∧ i (36 + a) k = i 103 (3 * a + k)
def IK (i : Nat → Nat → Int32) (ch : Nat → Nat → Nat) : Prop := (∀ a, a < 12 → ∀ k, k < 7 → i 104 (7 * a + k) = nI (ch a k) ∧ ch a k < 4) ∧ (∀ a, a < 12 → i 49 a = msc (ch a) ∧ ¬ i 49 a < 0)
def IE (i : Nat → Nat → Int32) (na : Nat) (gr : Nat → Nat) : Prop := ∀ g, g < 12 → (na ≤ g ∨ ∃ a, a < na ∧ gr a = g) → ∀ p, p < 6 → relE (i (54 + g) p) (i 107 (6 * g + p))
def IT (i : Nat → Nat → Int32) (c : Nat) : Prop := i 0 8 = nI c ∧ i 89 0 = nI c ∧ c ≤ 1000000000
def IG (i : Nat → Nat → Int32) (nh : Nat) : Prop := i 70 1 = nI nh ∧ i 89 22 = nI nh ∧ nh ≤ 12 ∧ (∀ q w, q < nh → w < 6 → i (72 + q) w = i 108 (6 * q + w))
def IH (i : Nat → Nat → Int32) (np : Nat) (nv : Nat → Nat) : Prop := i 84 7 = i 89 29 ∧ (i 84 7 = 0 ∨ i 84 7 = 1) ∧ (∀ p, p < 6 → i 88 p = i 114 p) ∧ (∀ p, p < np → i 114 p = -1 ∨ ∃ k, k < nv p ∧ i 114 p = nI k) ∧ (∀ p, np ≤ p → p < 6 → i 114 p = -1)
def IM (i : Nat → Nat → Int32)  : Prop := i 66 2 = 0 ∧ i 68 2 = 1 ∧ (∀ q, i 85 q = 0 ∨ i 85 q = 1) ∧ (∀ q, i 110 q = 0 ∨ i 110 q = 1) ∧ (∀ q, i 112 q = 0 ∨ i 112 q = 1)
def INV (i : Nat → Nat → Int32) : Prop := ∃ np nv nn na sp gr ch c nh, IA i np nv ∧ IB i np nv ∧ IC i nn ∧ ID i na sp gr ∧ IS i  ∧ IK i ch ∧ IE i na gr ∧ IT i c ∧ IG i nh ∧ IH i np nv ∧ IM i 
def okS (S C : List Nat) : Bool := C.all (fun q => !(S.contains q))
theorem okS_c {S C : List Nat} {q : Nat} (h : okS S C = true) (hq : C.contains q = true) : S.contains q = false := by
  unfold okS at h
  rw [List.all_eq_true] at h
  have := h q (List.contains_iff_mem.mp hq)
  simpa using this
/-- nothing but the cells of S, and of the reference's own fields those of S', has changed -/
def FRM (S S' : List Nat) (i j : Nat → Nat → Int32) : Prop := (∀ q, S.contains q = false → q ≠ 89 → j q = i q) ∧ ∀ k, S'.contains k = false → j 89 k = i 89 k
theorem FRM.tr {S S' T T' : List Nat} {i j k : Nat → Nat → Int32} (h : FRM S S' i j) (g : FRM T T' j k) : FRM (S ++ T) (S' ++ T') i k := by
  have sp : ∀ (A B : List Nat) (q : Nat), (A ++ B).contains q = false → A.contains q = false ∧ B.contains q = false := fun A B q hq => by
    rw [← Bool.not_eq_true, List.contains_iff_mem, List.mem_append] at hq
    exact ⟨by rw [← Bool.not_eq_true, List.contains_iff_mem]; exact fun z => hq (Or.inl z), by rw [← Bool.not_eq_true, List.contains_iff_mem]; exact fun z => hq (Or.inr z)⟩
  refine ⟨fun q hq h9 => ?_, fun q hq => ?_⟩
  · rw [g.1 q (sp S T q hq).2 h9, h.1 q (sp S T q hq).1 h9]
  · rw [g.2 q (sp S' T' q hq).2, h.2 q (sp S' T' q hq).1]
theorem FRM.up {i : Nat → Nat → Int32} {a k : Nat} {x : Int32} (h : a ≠ 89) : FRM [a] [] i (am_up i a k x) := by
  refine ⟨fun q hq _ => up_a fun e => ?_, fun q _ => by rw [up_n (Or.inl (Ne.symm h))]⟩
  subst e
  simp at hq
theorem FRM.um {i : Nat → Nat → Int32} {k : Nat} {x : Int32} : FRM [] [k] i (am_up i 89 k x) := by
  refine ⟨fun q _ h => up_a h, fun q hq => up_n (Or.inr fun e => ?_)⟩
  subst e
  simp at hq
theorem FRM.sub {S S' T T' : List Nat} {i j : Nat → Nat → Int32} (h : FRM S S' i j) (h1 : ∀ q, S.contains q = true → T.contains q = true) (h2 : ∀ q, S'.contains q = true → T'.contains q = true) : FRM T T' i j := by
  refine ⟨fun q hq h9 => h.1 q ?_ h9, fun q hq => h.2 q ?_⟩
  · cases e : S.contains q with
    | false => rfl
    | true => rw [h1 q e] at hq; cases hq
  · cases e : S'.contains q with
    | false => rfl
    | true => rw [h2 q e] at hq; cases hq
theorem FRM.rf {i : Nat → Nat → Int32} : FRM [] [] i i := ⟨fun _ _ _ => rfl, fun _ _ => rfl⟩
section INV
variable {i j : Nat → Nat → Int32} {S S' : List Nat}
theorem IA.fr {np : Nat} { nv : Nat → Nat} (h : IA i np nv) (hF : FRM S S' i j) (ok : okS S [1, 2, 90, 10, 91, 92, 4, 5, 6, 7, 8, 9] = true) (ok' : okS S' [1] = true) : IA j np nv := by
  have e : ∀ q, [1, 2, 90, 10, 91, 92, 4, 5, 6, 7, 8, 9].contains q = true → q ≠ 89 → j q = i q := fun q hq h9 => hF.1 q (okS_c ok hq) h9
  have f : ∀ q, [1].contains q = true → j 89 q = i 89 q := fun q hq => hF.2 q (okS_c ok' hq)
  obtain ⟨h1, h2, h3, h4, h5, h6, h7, h8⟩ := h
  unfold IA
  rw [e 1 rfl (by decide), e 2 rfl (by decide), e 90 rfl (by decide), e 10 rfl (by decide), e 91 rfl (by decide), e 92 rfl (by decide), f 1 rfl]
  exact ⟨h1, h2, h3, h4, h5, h6, fun p k hp hk => by rw [e (4 + p) ((show ∀ p, p < 6 → [1, 2, 90, 10, 91, 92, 4, 5, 6, 7, 8, 9].contains (4 + p) = true by decide) p hp) (by omega)]; exact h7 p k hp hk, h8⟩
theorem IB.fr {np : Nat} { nv : Nat → Nat} (h : IB i np nv) (hF : FRM S S' i j) (ok : okS S [11, 12, 93, 92] = true) (ok' : okS S' ([] : List Nat) = true) : IB j np nv := by
  have e : ∀ q, [11, 12, 93, 92].contains q = true → q ≠ 89 → j q = i q := fun q hq h9 => hF.1 q (okS_c ok hq) h9
  have f : ∀ q, ([] : List Nat).contains q = true → j 89 q = i 89 q := fun q hq => hF.2 q (okS_c ok' hq)
  unfold IB
  rw [e 11 rfl (by decide), e 12 rfl (by decide), e 93 rfl (by decide), e 92 rfl (by decide)]
  exact h
theorem IC.fr {nn : Nat} (h : IC i nn) (hF : FRM S S' i j) (ok : okS S [13, 14, 15, 16, 17, 18, 19, 94, 95, 96, 97, 98, 99] = true) (ok' : okS S' [6] = true) : IC j nn := by
  have e : ∀ q, [13, 14, 15, 16, 17, 18, 19, 94, 95, 96, 97, 98, 99].contains q = true → q ≠ 89 → j q = i q := fun q hq h9 => hF.1 q (okS_c ok hq) h9
  have f : ∀ q, [6].contains q = true → j 89 q = i 89 q := fun q hq => hF.2 q (okS_c ok' hq)
  unfold IC
  rw [e 13 rfl (by decide), e 14 rfl (by decide), e 15 rfl (by decide), e 16 rfl (by decide), e 17 rfl (by decide), e 18 rfl (by decide), e 19 rfl (by decide), e 94 rfl (by decide), e 95 rfl (by decide), e 96 rfl (by decide), e 97 rfl (by decide), e 98 rfl (by decide), e 99 rfl (by decide), f 6 rfl]
  exact h
theorem ID.fr {na : Nat} { sp gr : Nat → Nat} (h : ID i na sp gr) (hF : FRM S S' i j) (ok : okS S [20, 21, 100, 48, 101, 50, 105, 51, 106] = true) (ok' : okS S' [13] = true) : ID j na sp gr := by
  have e : ∀ q, [20, 21, 100, 48, 101, 50, 105, 51, 106].contains q = true → q ≠ 89 → j q = i q := fun q hq h9 => hF.1 q (okS_c ok hq) h9
  have f : ∀ q, [13].contains q = true → j 89 q = i 89 q := fun q hq => hF.2 q (okS_c ok' hq)
  unfold ID
  rw [e 20 rfl (by decide), e 21 rfl (by decide), e 100 rfl (by decide), e 48 rfl (by decide), e 101 rfl (by decide), e 50 rfl (by decide), e 105 rfl (by decide), e 51 rfl (by decide), e 106 rfl (by decide), f 13 rfl]
  exact h
theorem IS.fr  (h : IS i ) (hF : FRM S S' i j) (ok : okS S [23, 24, 25, 26, 27, 28, 29, 30, 31, 32, 33, 34, 36, 37, 38, 39, 40, 41, 42, 43, 44, 45, 46, 47, 102, 103] = true) (ok' : okS S' ([] : List Nat) = true) : IS j  := by
  have e : ∀ q, [23, 24, 25, 26, 27, 28, 29, 30, 31, 32, 33, 34, 36, 37, 38, 39, 40, 41, 42, 43, 44, 45, 46, 47, 102, 103].contains q = true → q ≠ 89 → j q = i q := fun q hq h9 => hF.1 q (okS_c ok hq) h9
  have f : ∀ q, ([] : List Nat).contains q = true → j 89 q = i 89 q := fun q hq => hF.2 q (okS_c ok' hq)
  intro a k ha hk
  rw [e 102 rfl (by decide), e 103 rfl (by decide), e (23 + a) ((show ∀ p, p < 12 → [23, 24, 25, 26, 27, 28, 29, 30, 31, 32, 33, 34, 36, 37, 38, 39, 40, 41, 42, 43, 44, 45, 46, 47, 102, 103].contains (23 + p) = true by decide) a ha) (by omega), e (36 + a) ((show ∀ p, p < 12 → [23, 24, 25, 26, 27, 28, 29, 30, 31, 32, 33, 34, 36, 37, 38, 39, 40, 41, 42, 43, 44, 45, 46, 47, 102, 103].contains (36 + p) = true by decide) a ha) (by omega)]
  exact h a k ha hk
theorem IK.fr {ch : Nat → Nat → Nat} (h : IK i ch) (hF : FRM S S' i j) (ok : okS S [49, 104] = true) (ok' : okS S' ([] : List Nat) = true) : IK j ch := by
  have e : ∀ q, [49, 104].contains q = true → q ≠ 89 → j q = i q := fun q hq h9 => hF.1 q (okS_c ok hq) h9
  have f : ∀ q, ([] : List Nat).contains q = true → j 89 q = i 89 q := fun q hq => hF.2 q (okS_c ok' hq)
  unfold IK
  rw [e 49 rfl (by decide), e 104 rfl (by decide)]
  exact h
theorem IE.fr {na : Nat} { gr : Nat → Nat} (h : IE i na gr) (hF : FRM S S' i j) (ok : okS S [54, 55, 56, 57, 58, 59, 60, 61, 62, 63, 64, 65, 107] = true) (ok' : okS S' ([] : List Nat) = true) : IE j na gr := by
  have e : ∀ q, [54, 55, 56, 57, 58, 59, 60, 61, 62, 63, 64, 65, 107].contains q = true → q ≠ 89 → j q = i q := fun q hq h9 => hF.1 q (okS_c ok hq) h9
  have f : ∀ q, ([] : List Nat).contains q = true → j 89 q = i 89 q := fun q hq => hF.2 q (okS_c ok' hq)
  intro g hg hl p hp
  rw [e 107 rfl (by decide), e (54 + g) ((show ∀ p, p < 12 → [54, 55, 56, 57, 58, 59, 60, 61, 62, 63, 64, 65, 107].contains (54 + p) = true by decide) g hg) (by omega)]
  exact h g hg hl p hp
theorem IT.fr {c : Nat} (h : IT i c) (hF : FRM S S' i j) (ok : okS S [0] = true) (ok' : okS S' [0] = true) : IT j c := by
  have e : ∀ q, [0].contains q = true → q ≠ 89 → j q = i q := fun q hq h9 => hF.1 q (okS_c ok hq) h9
  have f : ∀ q, [0].contains q = true → j 89 q = i 89 q := fun q hq => hF.2 q (okS_c ok' hq)
  unfold IT
  rw [e 0 rfl (by decide), f 0 rfl]
  exact h
theorem IG.fr {nh : Nat} (h : IG i nh) (hF : FRM S S' i j) (ok : okS S [70, 72, 73, 74, 75, 76, 77, 78, 79, 80, 81, 82, 83, 108] = true) (ok' : okS S' [22] = true) : IG j nh := by
  have e : ∀ q, [70, 72, 73, 74, 75, 76, 77, 78, 79, 80, 81, 82, 83, 108].contains q = true → q ≠ 89 → j q = i q := fun q hq h9 => hF.1 q (okS_c ok hq) h9
  have f : ∀ q, [22].contains q = true → j 89 q = i 89 q := fun q hq => hF.2 q (okS_c ok' hq)
  obtain ⟨h1, h2, h3, h4⟩ := h
  unfold IG
  rw [e 70 rfl (by decide), e 108 rfl (by decide), f 22 rfl]
  exact ⟨h1, h2, h3, fun q w hq hw => by rw [e (72 + q) ((show ∀ p, p < 12 → [70, 72, 73, 74, 75, 76, 77, 78, 79, 80, 81, 82, 83, 108].contains (72 + p) = true by decide) q (by omega)) (by omega)]; exact h4 q w hq hw⟩
theorem IH.fr {np : Nat} { nv : Nat → Nat} (h : IH i np nv) (hF : FRM S S' i j) (ok : okS S [84, 88, 114] = true) (ok' : okS S' [29] = true) : IH j np nv := by
  have e : ∀ q, [84, 88, 114].contains q = true → q ≠ 89 → j q = i q := fun q hq h9 => hF.1 q (okS_c ok hq) h9
  have f : ∀ q, [29].contains q = true → j 89 q = i 89 q := fun q hq => hF.2 q (okS_c ok' hq)
  unfold IH
  rw [e 84 rfl (by decide), e 88 rfl (by decide), e 114 rfl (by decide), f 29 rfl]
  exact h
theorem IM.fr  (h : IM i ) (hF : FRM S S' i j) (ok : okS S [66, 68, 85, 110, 112] = true) (ok' : okS S' ([] : List Nat) = true) : IM j  := by
  have e : ∀ q, [66, 68, 85, 110, 112].contains q = true → q ≠ 89 → j q = i q := fun q hq h9 => hF.1 q (okS_c ok hq) h9
  have f : ∀ q, ([] : List Nat).contains q = true → j 89 q = i 89 q := fun q hq => hF.2 q (okS_c ok' hq)
  unfold IM
  rw [e 66 rfl (by decide), e 68 rfl (by decide), e 85 rfl (by decide), e 110 rfl (by decide), e 112 rfl (by decide)]
  exact h
theorem IA.pk {np : Nat} {nv : Nat → Nat} (h : IA i np nv) : PK i np nv := ⟨h.1, h.2.2.1, fun p hp => ⟨(h.2.2.2.1 p hp).1, (h.2.2.2.1 p hp).2.2⟩⟩
theorem IA.mpk {np : Nat} {nv : Nat → Nat} (h : IA i np nv) : MPK i np nv := ⟨h.2.1, h.2.2.1, fun p hp => (h.2.2.2.1 p hp).2⟩
theorem IC.nk {nn : Nat} (h : IC i nn) : NK i nn := ⟨h.1, h.2.2.1, h.2.2.2.2.1⟩
theorem IC.mnk {nn : Nat} (h : IC i nn) : MNK i nn := ⟨h.2.1, h.2.2.1, by rw [← h.2.2.2.1.1, ← h.2.2.2.1.2.2.1]; exact h.2.2.2.2.1⟩
theorem ID.ak {na : Nat} {sp gr : Nat → Nat} (h : ID i na sp gr) : AK i na sp := ⟨h.1, h.2.2.1, fun a ha => ⟨(h.2.2.2.2.2.1 a ha).1, (h.2.2.2.2.2.1 a ha).2.2⟩⟩
theorem ID.mak {na : Nat} {sp gr : Nat → Nat} (h : ID i na sp gr) : MAK i na sp := ⟨h.2.1, h.2.2.1, fun a ha => (h.2.2.2.2.2.1 a ha).2⟩
theorem ID.cg {na : Nat} {sp gr : Nat → Nat} (h : ID i na sp gr) : ∀ a, a < na → i 51 a = nI (gr a) ∧ gr a < 12 := fun a ha => ⟨(h.2.2.2.2.2.2.2.2.2 a ha).1, by have := (h.2.2.2.2.2.2.2.2.2 a ha).2; have := h.2.2.1; omega⟩
theorem ID.mg {na : Nat} {sp gr : Nat → Nat} (h : ID i na sp gr) : ∀ a, a < na → i 106 a = nI (gr a) ∧ gr a < 12 := by rw [← h.2.2.2.2.2.2.2.2.1]; exact h.cg
/-- one call of each, and the same answer -/
def PRD (xl : Nat) (xs : Nat → Int32) (y1 y2 : Nat) (As : List Value) (i : Nat → Nat → Int32) : Prop := SP xl xs 60 y1 (.ref 0 :: As) (KS, i) (fun r u => ∃ v j, r = some (.int v) ∧ u = (KS, j) ∧ SP xl xs 60 y2 (.ref 89 :: As) (KS, j) (fun r' u' => ∃ j', r' = some (.int v) ∧ u' = (KS, j') ∧ INV j'))
end INV
