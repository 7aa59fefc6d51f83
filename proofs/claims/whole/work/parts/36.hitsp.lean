/-! ONE CALL OF EACH: hits -/
section PAIRS4
variable {xl : Nat} {xs : Nat → Int32} {i I j J j2 : Nat → Nat → Int32} {np nn na : Nat} {nv sp gr ow : Nat → Nat} {ch : Nat → Nat → Nat}
def hp1 (i I : Nat → Nat → Int32) : Prop := ∀ q, q ≠ 67 → q ≠ 69 → I q = i q
def hp4 (I j : Nat → Nat → Int32) : Prop := ∀ q, q ≠ 70 → (q < 72 ∨ 83 < q) → j q = I q
def hp9 (i j : Nat → Nat → Int32) : Prop := ∀ q, 89 ≤ q → j q = i q
def hpa (j J : Nat → Nat → Int32) : Prop := ∀ q, q ≠ 109 → q ≠ 110 → q ≠ 111 → J q = j q
theorem hp_9 (g1 : hp1 i I) (g4 : hp4 I j) : hp9 i j := fun q hq => (g4 q (by omega) (by omega)).trans (g1 q (by omega) (by omega))
theorem hp_q {q : Nat} (hq : [67, 69, 70, 72, 73, 74, 75, 76, 77, 78, 79, 80, 81, 82, 83].contains q = false) : q < 72 ∨ 83 < q := by
  rcases Nat.lt_or_ge q 72 with z | z
  · exact Or.inl z
  · rcases Nat.lt_or_ge 83 q with z2 | z2
    · exact Or.inr z2
    · exfalso
      have h1 : [67, 69, 70, 72, 73, 74, 75, 76, 77, 78, 79, 80, 81, 82, 83].contains (72 + (q - 72)) = true := (show ∀ p, p < 12 → [67, 69, 70, 72, 73, 74, 75, 76, 77, 78, 79, 80, 81, 82, 83].contains (72 + p) = true by decide) (q - 72) (by clear hq; omega)
      rw [show 72 + (q - 72) = q by clear hq; omega, hq] at h1
      cases h1
theorem hp_ne {S : List Nat} {q a : Nat} (ha : S.contains a = true) (hq : S.contains q = false) : q ≠ a := fun e => by
  rw [e, ha] at hq
  cases hq
theorem hp_F1 (g1 : hp1 i I) (g4 : hp4 I j) : FRM [67, 69, 70, 72, 73, 74, 75, 76, 77, 78, 79, 80, 81, 82, 83] [] i j := by
  refine ⟨fun q hq _ => ?_, fun k _ => ?_⟩
  · exact (g4 q (hp_ne rfl hq) (hp_q hq)).trans (g1 q (hp_ne rfl hq) (hp_ne rfl hq))
  · rw [g4 89 (by decide) (by decide), g1 89 (by decide) (by decide)]
theorem hp_F2 (a1 : hpa j J) (a5 : ∀ q, q ≠ 108 → q ≠ 89 → j2 q = J q) (a6 : ∀ q, q ≠ 22 → j2 89 q = J 89 q) : FRM [108, 109, 110, 111] [22] j j2 := by
  refine ⟨fun q hq h9 => ?_, fun k hk => ?_⟩
  · exact (a5 q (hp_ne rfl hq) h9).trans (a1 q (hp_ne rfl hq) (hp_ne rfl hq) (hp_ne rfl hq))
  · rw [a6 k (hp_ne rfl hk), a1 89 (by decide) (by decide) (by decide)]
theorem hp_mak (hj9 : hp9 i j) (h : MAK i na sp) : MAK j na sp := by
  unfold MAK at h ⊢
  rw [hj9 89 (by decide), hj9 101 (by decide)]
  exact h
theorem hp_mnk (hj9 : hp9 i j) (h : MNK i nn) : MNK j nn := by
  unfold MNK at h ⊢
  rw [hj9 89 (by decide), hj9 94 (by decide), hj9 96 (by decide)]
  exact h
theorem hp_vr (g1 : hp1 i I) (hj9 : hp9 i j) (hA : IA i np nv) (hB : IB i np nv) {p : Nat} (hp : p < np) (hi : ¬ i 93 p = -1) : cvr I p = mvr j p := by
  have hn := hA.2.2.1
  obtain ⟨k, hk, ek⟩ := (hB.2.1 p hp).resolve_left hi
  have h5 := (hA.2.2.2.1 p (by omega)).2.2
  unfold cvr mvr
  rw [g1 11 (by decide) (by decide), g1 (4 + p) (by omega) (by omega), hj9 93 (by decide), hj9 92 (by decide), hB.1 p (by omega), ek, nI_clamp (by omega)]
  exact hA.2.2.2.2.2.2.1 p k (by omega) (by omega)
theorem hp_e1 (g1 : hp1 i I) {g p v : Int32} {a : Nat} (ha : a < 12) : cgst I sp g p v a = cgst i sp g p v a := by
  unfold cgst cstk stk chas
  rw [g1 51 (by decide) (by decide), g1 21 (by decide) (by decide), g1 50 (by decide) (by decide), g1 (23 + a) (by omega) (by omega), g1 (36 + a) (by omega) (by omega)]
theorem hp_e2 (hj9 : hp9 i j) {g p v : Int32} {a : Nat} : mgst j sp g p v a = mgst i sp g p v a := by
  unfold mgst mstk stk mhas
  rw [hj9 106 (by decide), hj9 100 (by decide), hj9 105 (by decide), hj9 102 (by decide), hj9 103 (by decide)]
theorem hp_eS (g1 : hp1 i I) (hj9 : hp9 i j) (hA : IA i np nv) (hB : IB i np nv) (hD : ID i na sp gr) (hS : IS i) (hK : IK i ch) {p g : Nat} (hp : p < np) (hi : ¬ i 93 p = -1) : cS I sp na p g = mS j sp ch na p g := by
  have hna := hD.2.2.1
  unfold cS mS
  rw [hp_vr g1 hj9 hA hB hp hi]
  refine mx_congr (fun a ha => ?_) (fun a ha => ?_)
  · rw [hp_e1 g1 (by omega), hp_e2 hj9, gst_eq hD hS ha]
  · rw [g1 49 (by decide) (by decide)]
    exact (hK.2 a (by omega)).1
theorem hp_eT (g1 : hp1 i I) (hj9 : hp9 i j) (hA : IA i np nv) (hB : IB i np nv) (hD : ID i na sp gr) (hS : IS i) (hK : IK i ch) {p g : Nat} (hp : p < np) : cT I sp na p g = mT j sp ch na p g := by
  have hn := hA.2.2.1
  unfold cT mT
  rw [g1 11 (by decide) (by decide), hj9 93 (by decide), hB.1 p (by omega)]
  by_cases hi : i 93 p = -1
  · rw [decide_eq_true hi, Bool.not_true, Bool.false_and, Bool.false_and]
  · rw [hp_eS g1 hj9 hA hB hD hS hK hp hi]
theorem hp_eR (hj9 : hp9 i j) (hA : IA i np nv) (hB : IB i np nv) : ∀ p, p < 6 → cR i np p = mR j np p := fun p hp => by
  unfold cR mR
  rw [hj9 93 (by decide), hj9 90 (by decide), hB.1 p hp, hA.2.2.2.2.1]
theorem hp_eE (hj9 : hp9 i j) (hB : IB i np nv) (hC : IC i nn) : ∀ k, k < nn → (cact i (i 12) k && chld i (i 12) k) = mE j k := fun k hk => by
  obtain ⟨c4, c5, c6, c7, c8, c9⟩ := hC.2.2.2.1
  obtain ⟨a, b, ha, hb, ea, eb⟩ := hC.2.2.2.2.1 k hk
  unfold mE cact chld
  rw [hj9 94 (by decide), hj9 95 (by decide), hj9 96 (by decide), hj9 97 (by decide), hj9 98 (by decide), hj9 92 (by decide), hj9 93 (by decide), ← c4, ← c5, ← c6, ← c7, ← c8]
  rw [nact_congr ha ea (w' := wv (i 92) (i 93)) (fun p hp => hB.2.2.2 p hp), nhld_congr hb eb (w' := wv (i 92) (i 93)) (fun p hp => hB.2.2.2 p hp)]
theorem hp_66 (hj9 : hp9 i j) (hB : IB i np nv) (hC : IC i nn) (hM : IM i) : ∀ k, k < nn → cE i 66 k = mE j k := fun k hk => by
  unfold cE
  rw [hp_eE hj9 hB hC k hk, hM.1]
  simp
theorem hp_68 (hj9 : hp9 i j) (hB : IB i np nv) (hC : IC i nn) (hM : IM i) : ∀ k, k < nn → cE i 68 k = mF j k := fun k hk => by
  unfold cE mF
  rw [hp_eE hj9 hB hC k hk, hM.2.1, hj9 99 (by decide), ← hC.2.2.2.1.2.2.2.2.2]
  simp
theorem hp_far (hj9 : hp9 i j) (hA : IA i np nv) (hB : IB i np nv) (hC : IC i nn) (hM : IM i) {p : Nat} (hp : p < 6) (g2 : isD (rch (cR i np) (cE i 66) (i 14) (i 16) nn) p (I 67 p)) (a2 : isD (rch (mR j np) (mE j) (j 94) (j 96) nn) p (J 109 p)) : I 67 p = J 109 p :=
  isD_uni (fun l => rch_congr hC.2.2.2.2.1 (hp_eR hj9 hA hB) (hp_66 hj9 hB hC hM) (fun k _ => by rw [hj9 94 (by decide), hC.2.2.2.1.1]) (fun k _ => by rw [hj9 96 (by decide), hC.2.2.2.1.2.2.1]) l p hp) g2 a2
theorem hp_rch (hj9 : hp9 i j) (hA : IA i np nv) (hB : IB i np nv) (hC : IC i nn) (hM : IM i) {p : Nat} (hp : p < 6) (g3 : isD (rch (cR i np) (cE i 68) (i 14) (i 16) nn) p (I 69 p)) (a3 : J 110 p = 0 ∨ J 110 p = 1) (a4 : J 110 p = 1 ↔ rch (mR j np) (mF j) (j 94) (j 96) nn 5 p = true) : (if I 69 p = -1 then (0 : Int32) else 1) = J 110 p := by
  have h1 := isD_5 g3 (fun l hl => rch_all hC.2.2.2.2.1 hp hl)
  have h3 := rch_congr hC.2.2.2.2.1 (hp_eR hj9 hA hB) (hp_68 hj9 hB hC hM) (o' := j 94) (t' := j 96) (fun k _ => by rw [hj9 94 (by decide), hC.2.2.2.1.1]) (fun k _ => by rw [hj9 96 (by decide), hC.2.2.2.1.2.2.1]) 5 p hp
  rw [h3] at h1
  by_cases e : I 69 p = -1
  · rw [if_pos e]
    rcases a3 with z | z
    · exact z.symm
    · exact absurd e (h1.mpr (a4.mp z))
  · rw [if_neg e]
    exact (a4.mpr (h1.mp e)).symm
theorem hp_X (g1 : hp1 i I) (hj9 : hp9 i j) (a1 : hpa j J) (hD : ID i na sp gr) (hE : IE i na gr) {c : Nat} (hT : IT i c) {p a : Nat} (hp : p < 6) (ha : a < na) : cX I p (gr a) = mX J p (gr a) := by
  have := exc_eq hD hE hT hp ha
  have hna := hD.2.2.1
  have hg12 : gr a < 12 := (hD.cg a ha).2
  unfold cX mX at this ⊢
  rw [g1 0 (by decide) (by decide), g1 (54 + gr a) (by omega) (by omega), a1 89 (by decide) (by decide) (by decide), a1 107 (by decide) (by decide) (by decide), hj9 89 (by decide), hj9 107 (by decide)]
  exact this
theorem hp_SS (a1 : hpa j J) {p g : Nat} : mS J sp ch na p g = mS j sp ch na p g := by
  unfold mS mgst mstk stk mhas mvr
  rw [a1 93 (by decide) (by decide) (by decide), a1 92 (by decide) (by decide) (by decide), a1 106 (by decide) (by decide) (by decide), a1 100 (by decide) (by decide) (by decide), a1 105 (by decide) (by decide) (by decide), a1 102 (by decide) (by decide) (by decide), a1 103 (by decide) (by decide) (by decide)]
theorem hp_V {p g w : Nat} (hX : cX I p g = mX J p g) (hs : cS I sp na p g = mS J sp ch na p g) (hf : I 67 p = J 109 p) (hr : (if I 69 p = -1 then (0 : Int32) else 1) = J 110 p) : cV I sp na p g w = mV J sp ch na p g w := by
  unfold cV mV hvl
  rw [hX, hs, hf, show (fun p => if I 69 p = -1 then (0 : Int32) else 1) p = J 110 p from hr]
theorem hp_i (g1 : hp1 i I) (hB : IB i np nv) {p g : Nat} (hp : p < 6) (h : cT I sp na p g = true) : ¬ i 93 p = -1 := fun e => by
  unfold cT at h
  rw [g1 11 (by decide) (by decide), hB.1 p hp, decide_eq_true e, Bool.not_true, Bool.false_and] at h
  cases h
theorem hp_ow (hD : ID i na sp gr) : ∃ ow : Nat → Nat, ∀ a, a < na → i 21 a = nI (ow a) ∧ ow a < 6 := ⟨fun a => (i 21 a).toNatClampNeg, fun a ha => by
  obtain ⟨o, ho, e⟩ := hD.2.2.2.2.1 a ha
  show i 21 a = nI (i 21 a).toNatClampNeg ∧ (i 21 a).toNatClampNeg < 6
  rw [e, nI_clamp (by omega)]
  exact ⟨rfl, ho⟩⟩
theorem hp_IG (F2 : FRM [108, 109, 110, 111] [22] j j2) {LL : List (Nat × Nat)} (g5 : LL.length ≤ 12) (g6 : j 70 1 = nI LL.length) (a7 : j2 89 22 = nI LL.length) {cv mv : Nat → Nat → Nat → Int32} (g7 : RW (fun _ q => j (72 + q)) cv LL) (a8 : RW (fun _ q w => j2 108 (6 * q + w)) mv LL) (hr : ∀ q, q < LL.length → ∀ w, w < 6 → cv (LL.getD q (0, 0)).1 (LL.getD q (0, 0)).2 w = mv (LL.getD q (0, 0)).1 (LL.getD q (0, 0)).2 w) : IG j2 LL.length := by
  refine ⟨by rw [F2.1 70 rfl (by decide)]; exact g6, a7, g5, fun q w hq hw => ?_⟩
  rw [F2.1 (72 + q) ((show ∀ p, p < 12 → [108, 109, 110, 111].contains (72 + p) = false by decide) q (by omega)) (by omega)]
  exact ((g7 q hq w hw).trans (hr q hq w hw)).trans (a8 q hq w hw).symm
theorem hp_IM (F : FRM ([67, 69, 70, 72, 73, 74, 75, 76, 77, 78, 79, 80, 81, 82, 83] ++ [108, 109, 110, 111]) ([] ++ [22]) i j2) (hM : IM i) (a3 : ∀ p, j2 110 p = 0 ∨ j2 110 p = 1) : IM j2 := by
  unfold IM
  rw [F.1 66 rfl (by decide), F.1 68 rfl (by decide), F.1 85 rfl (by decide), F.1 112 rfl (by decide)]
  exact ⟨hM.1, hM.2.1, hM.2.2.1, a3, hM.2.2.2.2⟩
theorem p_hits (hI : INV i) : PRD xl xs Y_AM_hits Y_Model_hits [] i := by
  obtain ⟨np, nv, nn, na, sp, gr, ch, c, nh, hA, hB, hC, hD, hS, hK, hE, hT, hG, hH, hM⟩ := hI
  have hn := hA.2.2.1
  have hna := hD.2.2.1
  obtain ⟨ow, how⟩ := hp_ow hD
  have hgr : ∀ a, a < na → i 51 a = nI (gr a) ∧ gr a < na := fun a ha => ⟨(hD.2.2.2.2.2.2.2.2.2 a ha).1, by have := (hD.2.2.2.2.2.2.2.2.2 a ha).2; omega⟩
  have hvc : ∀ p k, p < 6 → k < nv p → ¬ i (4 + p) k = -1 := fun p k hp hk => by
    have h5 := (hA.2.2.2.1 p hp).2.2
    rw [hA.2.2.2.2.2.2.1 p k hp (by omega)]
    exact hA.2.2.2.2.2.2.2 _ (by omega)
  have hpl : ∀ p, p < np → i 11 p = -1 ∨ ∃ k, k < nv p ∧ i 11 p = nI k := fun p hp => by rw [hB.1 p (by omega)]; exact hB.2.1 p hp
  refine c_hits hA.pk hD.ak hD.2.2.2.2.2.2.2.1 hpl hvc hA.2.2.2.2.2.1 hC.nk hC.2.2.2.2.2 hM.1 hM.2.1 how hgr (by decide) (fun I j g1 g2 g3 g4 g5 g6 g7 => ⟨_, j, rfl, rfl, ?_⟩)
  have g1 : hp1 i I := g1
  have hj9 : hp9 i j := hp_9 g1 g4
  have eT : ∀ p g, p < np → cT I sp na p g = mT j sp ch na p g := fun p g hp => hp_eT g1 hj9 hA hB hD hS hK hp
  have eR : hls (mT j sp ch na) na np = hls (cT I sp na) na np := hls_congr (fun p g hp hg => (eT p g hp).symm)
  have hTa : ∀ p g, p < np → g < na → cT I sp na p g = true → ∃ a, a < na ∧ ow a = p ∧ gr a = g := fun p g hp hg h => cT_adv (I := I) (sp := sp) hna (by rw [g1 21 (by decide) (by decide)]; exact how) (by rw [g1 51 (by decide) (by decide)]; exact hgr) (by omega) hg h
  have hTm : ∀ p g, p < np → g < na → mT j sp ch na p g = true → ∃ a, a < na ∧ ow a = p ∧ gr a = g := fun p g hp hg h => hTa p g hp hg ((eT p g hp).trans h)
  refine m_hits (ch := ch) (np := np) (nn := nn) (by rw [hj9 89 (by decide)]; exact hA.2.1) hn (hp_mak hj9 hD.mak) (by rw [hj9 105 (by decide), ← hD.2.2.2.2.2.2.1]; exact hD.2.2.2.2.2.2.2.1) (by rw [hj9 104 (by decide)]; exact hK.1) (hp_mnk hj9 hC.mnk) (by rw [hj9 92 (by decide)]; exact hA.2.2.2.2.2.2.2) (fun p hp => ?_) (by rw [hj9 90 (by decide), ← hA.2.2.2.2.1]; exact hA.2.2.2.2.2.1) (by rw [hj9 99 (by decide), ← hC.2.2.2.1.2.2.2.2.2]; exact hC.2.2.2.2.2) (by rw [hj9 110 (by decide)]; exact hM.2.2.2.1) (fun p g hp hg h => Nat.lt_of_lt_of_le (hl_lt hTm (fun a ha => (hgr a ha).2) hp hg h) (Nat.le_trans hna (by decide))) (by decide) (fun J j2 a1 a2 a3 a4 a5 a6 a7 a8 => ?_)
  · rw [hj9 93 (by decide)]
    rcases Nat.lt_or_ge p np with q | q
    · exact (hB.2.1 p q).imp id (fun ⟨k, hk, e⟩ => ⟨k, by have := (hA.2.2.2.1 p hp).2.2; omega, e⟩)
    · exact Or.inl (hB.2.2.1 p q hp)
  rw [eR] at a7 a8 ⊢
  have a1 : hpa j J := a1
  have F2 := hp_F2 a1 a5 a6
  have F := (hp_F1 g1 g4).tr F2
  refine ⟨j2, rfl, rfl, np, nv, nn, na, sp, gr, ch, c, (hls (cT I sp na) na np).length, hA.fr F (by decide) (by decide), hB.fr F (by decide) (by decide), hC.fr F (by decide) (by decide), hD.fr F (by decide) (by decide), hS.fr F (by decide) (by decide), hK.fr F (by decide) (by decide), hE.fr F (by decide) (by decide), hT.fr F (by decide) (by decide), ?_, hH.fr F (by decide) (by decide), ?_⟩
  · refine hp_IG F2 g5 g6 a7 g7 a8 (fun q hq w hw => ?_)
    have hmem := hls_mem (getD_mem hq)
    generalize (hls (cT I sp na) na np).getD q (0, 0) = x at hmem ⊢
    have hp6 : x.1 < 6 := by omega
    obtain ⟨a, ha, hoa, hga⟩ := hTa x.1 x.2 hmem.1 hmem.2.1 hmem.2.2
    have hX : cX I x.1 x.2 = mX J x.1 x.2 := by rw [← hga]; exact hp_X g1 hj9 a1 hD hE hT hp6 ha
    exact hp_V hX ((hp_eS g1 hj9 hA hB hD hS hK hmem.1 (hp_i g1 hB hp6 hmem.2.2)).trans (hp_SS a1).symm) (hp_far hj9 hA hB hC hM hp6 (g2 _ hp6) (a2 _ hp6)) (hp_rch hj9 hA hB hC hM hp6 (g3 _ hp6) (a3 _) (a4 _ hp6))
  · exact hp_IM F hM (fun p => by rw [a5 110 (by decide) (by decide)]; exact a3 p)
end PAIRS4
