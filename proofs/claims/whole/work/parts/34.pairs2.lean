/-! ONE CALL OF EACH: versions, places, spans, scores, groups, exceptions, needs broken, updates -/
theorem bcnt_congr {f g : Nat → Bool} : ∀ {n : Nat}, (∀ k, k < n → f k = g k) → bcnt f n = bcnt g n
  | 0, _ => rfl
  | n + 1, h => by
    unfold bcnt
    rw [bcnt_congr (fun k hk => h k (by omega)), h n (by omega)]
set_option maxRecDepth 100000 in
theorem sco_pos : ∀ r, r < 4 → ∀ e, e < 2 → ∀ t, t < 3 → ∀ h, h < 2 → ∀ m, m < 27 → ¬ cten r e t h m < 0 := by decide +kernel
theorem chs_lt {r e t h m k : Nat} (hr : r < 4) (he : e < 2) (ht : t < 3) (hh : h < 2) (hm : m < 27) : chs r e t h m k < 4 := by
  unfold chs
  repeat' split
  all_goals omega
theorem relE_max {c1 c2 m1 m2 : Int32} (h1 : relE c1 m1) (h2 : relE c2 m2) : relE (if c1 < c2 then c2 else c1) (if m1 < m2 then m2 else m1) := by
  rcases h1 with ⟨rfl, rfl⟩ | ⟨rfl, h1⟩ <;> rcases h2 with ⟨rfl, rfl⟩ | ⟨rfl, h2⟩
  · exact Or.inl ⟨by decide, by decide⟩
  · have : (-1 : Int32) < m2 := by
      rw [Int32.lt_iff_toInt_lt] at h2 ⊢
      rw [show (-1 : Int32).toInt = -1 by decide]
      rw [show (0 : Int32).toInt = 0 by decide] at h2
      omega
    rw [if_pos this]
    by_cases e : (0 : Int32) < m2
    · rw [if_pos e]; exact Or.inr ⟨rfl, h2⟩
    · rw [if_neg e]
      have : m2 = 0 := by
        apply Int32.toInt_inj.mp
        rw [Int32.lt_iff_toInt_lt] at h2 e
        rw [show (0 : Int32).toInt = 0 by decide] at h2 e ⊢
        omega
      rw [this]
      exact Or.inr ⟨rfl, by decide⟩
  · have : ¬ m1 < (-1 : Int32) := by
      rw [Int32.lt_iff_toInt_lt] at h1 ⊢
      rw [show (-1 : Int32).toInt = -1 by decide]
      rw [show (0 : Int32).toInt = 0 by decide] at h1
      omega
    rw [if_neg this, if_neg h1]
    exact Or.inr ⟨rfl, h1⟩
  · by_cases e : m1 < m2
    · rw [if_pos e]; exact Or.inr ⟨rfl, h2⟩
    · rw [if_neg e]; exact Or.inr ⟨rfl, h1⟩
def chm (ch : Nat → Nat → Nat) (a : Nat) (f : Nat → Nat) : Nat → Nat → Nat := fun b => if b = a then f else ch b
theorem chm_s (ch : Nat → Nat → Nat) (a : Nat) (f : Nat → Nat) : chm ch a f a = f := if_pos rfl
theorem chm_n {ch : Nat → Nat → Nat} {a b : Nat} {f : Nat → Nat} (h : ¬ b = a) : chm ch a f b = ch b := if_neg h
def grm (gr : Nat → Nat) (G K c : Nat) : Nat := if gr c = G then K else gr c
section PAIRS2
variable {xl : Nat} {xs : Nat → Int32} {i : Nat → Nat → Int32}
theorem p_version {x v : Int32} (hI : INV i) : PRD xl xs Y_AM_version Y_Model_version [.int x, .int v] i := by
  obtain ⟨np, nv, nn, na, sp, gr, ch, c, nh, hA, hB, hC, hD, hS, hK, hE, hT, hG, hH, hM⟩ := hI
  have hn := hA.2.2.1
  have hcd : ∀ p, p < np → ((nv p = 0 ∨ i (4 + p) (nv p - 1) < v) ↔ (nv p = 0 ∨ i 92 (5 * p + (nv p - 1)) < v)) := fun p hp => by
    rcases Nat.eq_zero_or_pos (nv p) with e | e
    · exact ⟨fun _ => Or.inl e, fun _ => Or.inl e⟩
    · have := (hA.2.2.2.1 p (by omega)).2.2
      rw [hA.2.2.2.2.2.2.1 p (nv p - 1) (by omega) (by omega)]
  refine c_version hA.pk (by omega) (fun p hp hx h0 h1 h5 hc => ⟨_, _, rfl, rfl, ?_⟩) (fun hno => ⟨_, _, rfl, rfl, ?_⟩)
  · have FJ : FRM [4, 5, 6, 7, 8, 9, 10] [] i (am_up (am_up i (4 + p) (nv p) v) 10 p (nI (nv p + 1))) := (FRM.upL [4, 5, 6, 7, 8, 9] ((show ∀ p, p < 6 → [4, 5, 6, 7, 8, 9].contains (4 + p) = true by decide) p (by omega)) (by omega)).tr (FRM.up (by decide))
    generalize hJ : am_up (am_up i (4 + p) (nv p) v) 10 p (nI (nv p + 1)) = J at FJ
    have hkJ : MPK J np nv := by
      have := hA.mpk
      unfold MPK at this ⊢
      rw [FJ.2 1 rfl, FJ.1 91 rfl (by decide)]
      exact this
    have e92 : J 92 = i 92 := FJ.1 92 rfl (by decide)
    refine m_version hkJ (by omega) (fun p' hp' hx' _ _ h5' hc' => ?_) (fun hno => absurd (by rw [e92]; exact (hcd p hp).mp hc) (hno p hp hx h0 h1 h5))
    have := nI_inj (by omega) (by omega) (hx'.symm.trans hx)
    subst this
    have F2 : FRM [92, 91] [] J (am_up (am_up J 92 (5 * p' + nv p') v) 91 p' (nI (nv p' + 1))) := (FRM.up (by decide)).tr (FRM.up (by decide))
    generalize hJ2 : am_up (am_up J 92 (5 * p' + nv p') v) 91 p' (nI (nv p' + 1)) = J2 at F2
    have F := FJ.tr F2
    have a92 : J2 92 = upd (i 92) (5 * p' + nv p') v := by rw [← hJ2, up_a (by decide), up_sa, e92]
    have a10 : ∀ q, J2 10 q = if q = p' then nI (nv p' + 1) else i 10 q := fun q => by
      rw [F2.1 10 rfl (by decide), ← hJ, up_at, up_n (Or.inl (by omega))]
      simp only [true_and]
    have a91 : ∀ q, J2 91 q = if q = p' then nI (nv p' + 1) else i 91 q := fun q => by
      rw [← hJ2, up_at, up_n (Or.inl (by decide)), FJ.1 91 rfl (by decide)]
      simp only [true_and]
    have av : ∀ p k, p < 6 → J2 (4 + p) k = if p = p' ∧ k = nv p' then v else i (4 + p) k := fun p k hp => by
      rw [F2.1 (4 + p) ((show ∀ p, p < 6 → [92, 91].contains (4 + p) = false by decide) p hp) (by omega), ← hJ, up_n (Or.inl (by omega)), up_at]
      by_cases e : p = p' ∧ k = nv p'
      · rw [if_pos e, if_pos ⟨by omega, e.2⟩]
      · rw [if_neg e, if_neg (fun z => e ⟨by omega, z.2⟩)]
    refine ⟨J2, rfl, rfl, np, fset nv p' (nv p' + 1), nn, na, sp, gr, ch, c, nh, ?_, ?_, hC.fr F (by decide) (by decide), hD.fr F (by decide) (by decide), hS.fr F (by decide) (by decide), hK.fr F (by decide) (by decide), hE.fr F (by decide) (by decide), hT.fr F (by decide) (by decide), hG.fr F (by decide) (by decide), (by have hH := hH.fr F (by decide) (by decide); exact ⟨hH.1, hH.2.1, hH.2.2.1, fun p hp => (hH.2.2.2.1 p hp).imp id (fun ⟨k, hk, e⟩ => ⟨k, by unfold fset; split; (rename_i e; subst e; omega); exact hk, e⟩), hH.2.2.2.2⟩), hM.fr F (by decide) (by decide)⟩
    · obtain ⟨k1, k2, k3, k4, k5, k6, k7, k8⟩ := hA
      refine ⟨by rw [F.1 1 rfl (by decide)]; exact k1, by rw [F.2 1 rfl]; exact k2, k3, fun p hp => ?_, by rw [F.1 2 rfl (by decide), F.1 90 rfl (by decide)]; exact k5, by rw [F.1 2 rfl (by decide)]; exact k6, fun p k hp hk => ?_, fun q hq => ?_⟩
      · rw [a10, a91]
        unfold fset
        by_cases e : p = p'
        · rw [if_pos e, if_pos e, if_pos e]; exact ⟨rfl, rfl, by omega⟩
        · rw [if_neg e, if_neg e, if_neg e]; exact k4 p hp
      · rw [av p k hp, a92]
        unfold upd
        have := (k4 p' (by omega)).2.2
        by_cases e : p = p' ∧ k = nv p'
        · rw [if_pos e, if_pos (by rw [e.1, e.2])]
        · rw [if_neg e, if_neg (by omega)]; exact k7 p k hp hk
      · rw [a92]
        unfold upd
        by_cases e : q = 5 * p' + nv p'
        · rw [if_pos e]; exact nlt0 h0
        · rw [if_neg e]; exact k8 q hq
    · have h4 := hA.2.2.2.1
      obtain ⟨k1, k2, k3, k4⟩ := hB
      unfold IB
      rw [F.1 11 rfl (by decide), F.1 93 rfl (by decide), F.1 12 rfl (by decide)]
      refine ⟨k1, fun p hp => (k2 p hp).imp id (fun ⟨k, hk, e⟩ => ⟨k, by unfold fset; split; (rename_i e; subst e; omega); exact hk, e⟩), k3, fun p hp => ?_⟩
      · rw [k4 p hp, a92]
        rcases Nat.lt_or_ge p np with q | q
        · have h5p := (h4 p hp).2.2
          exact (wv_up (nv := nv p) (k2 p q) h5p (fun k hk e => by
            by_cases e2 : p = p'
            · subst e2; omega
            · omega)).symm
        · exact (wv_up (nv := 0) (Or.inl (k3 p q hp)) (by omega) (fun k hk => absurd hk (by omega))).symm
  · exact m_version hA.mpk (by omega) (fun p hp hx h0 h1 h5 hc => absurd ((hcd p hp).mpr hc) (hno p hp hx h0 h1 h5)) (fun _ => ⟨i, rfl, rfl, np, nv, nn, na, sp, gr, ch, c, nh, hA, hB, hC, hD, hS, hK, hE, hT, hG, hH, hM⟩)
theorem p_install {x y : Int32} (hI : INV i) : PRD xl xs Y_AM_install Y_Model_install [.int x, .int y] i := by
  obtain ⟨np, nv, nn, na, sp, gr, ch, c, nh, hA, hB, hC, hD, hS, hK, hE, hT, hG, hH, hM⟩ := hI
  have hn := hA.2.2.1
  have fin : ∀ p (w u : Int32), p < np → (w = -1 ∨ ∃ k, k < nv p ∧ w = nI k) → u = (if w = -1 then -1 else i 92 (5 * p + w.toNatClampNeg)) → INV (am_up (am_up (am_up i 11 p w) 12 p u) 93 p w) := by
    intro p w u hp hw hu
    have F : FRM [11, 12, 93] [] i (am_up (am_up (am_up i 11 p w) 12 p u) 93 p w) := ((FRM.up (by decide)).tr (FRM.up (by decide))).tr (FRM.up (by decide))
    have a11 : ∀ q, am_up (am_up (am_up i 11 p w) 12 p u) 93 p w 11 q = if q = p then w else i 11 q := fun q => by
      rw [up_n (Or.inl (by decide)), up_n (Or.inl (by decide)), up_at]; simp only [true_and]
    have a12 : ∀ q, am_up (am_up (am_up i 11 p w) 12 p u) 93 p w 12 q = if q = p then u else i 12 q := fun q => by
      rw [up_n (Or.inl (by decide)), up_at, up_n (Or.inl (by decide))]; simp only [true_and]
    have a93 : ∀ q, am_up (am_up (am_up i 11 p w) 12 p u) 93 p w 93 q = if q = p then w else i 93 q := fun q => by
      rw [up_at, up_n (Or.inl (by decide)), up_n (Or.inl (by decide))]; simp only [true_and]
    generalize am_up (am_up (am_up i 11 p w) 12 p u) 93 p w = J at *
    refine ⟨np, nv, nn, na, sp, gr, ch, c, nh, hA.fr F (by decide) (by decide), ?_, hC.fr F (by decide) (by decide), hD.fr F (by decide) (by decide), hS.fr F (by decide) (by decide), hK.fr F (by decide) (by decide), hE.fr F (by decide) (by decide), hT.fr F (by decide) (by decide), hG.fr F (by decide) (by decide), hH.fr F (by decide) (by decide), hM.fr F (by decide) (by decide)⟩
    obtain ⟨k1, k2, k3, k4⟩ := hB
    refine ⟨fun q hq => ?_, fun q hq => ?_, fun q hq hq6 => ?_, fun q hq => ?_⟩
    · rw [a11, a93, k1 q hq]
    · rw [a93]
      by_cases e : q = p
      · rw [if_pos e, e]; exact hw
      · rw [if_neg e]; exact k2 q hq
    · rw [a93, if_neg (by omega)]; exact k3 q hq hq6
    · rw [a12]
      unfold wv
      rw [a93, F.1 92 rfl (by decide)]
      by_cases e : q = p
      · rw [if_pos e, if_pos e, hu, e]
      · rw [if_neg e, if_neg e, k4 q hq]; rfl
  refine c_install hA.pk (by omega) (fun p hp hx hy => ⟨_, _, rfl, rfl, ?_⟩) (fun p k hp hk hx hy => ⟨_, _, rfl, rfl, ?_⟩) (fun hno => ⟨_, _, rfl, rfl, ?_⟩)
  · have FJ : FRM [11, 12] [] i (am_up (am_up i 11 p (-1)) 12 p (-1)) := (FRM.up (by decide)).tr (FRM.up (by decide))
    have hkJ : MPK (am_up (am_up i 11 p (-1)) 12 p (-1)) np nv := by
      have := hA.mpk
      unfold MPK at this ⊢
      rw [FJ.2 1 rfl, FJ.1 91 rfl (by decide)]
      exact this
    refine m_install hkJ (by omega) (fun p' hp' hx' _ => ?_) (fun p' k' hp' hk' hx' hy' => ?_) (fun hno => absurd hy (hno p hp hx).1)
    · have := nI_inj (by omega) (by omega) (hx'.symm.trans hx)
      subst this
      exact ⟨_, rfl, rfl, fin p' (-1) (-1) hp (Or.inl rfl) (if_pos rfl).symm⟩
    · have := (hA.2.2.2.1 p' (by omega)).2.2
      exact absurd (hy'.symm.trans hy) (nI_m1 (by omega))
  · have h5 := (hA.2.2.2.1 p (by omega)).2.2
    have FJ : FRM [11, 12] [] i (am_up (am_up i 11 p (nI k)) 12 p (i (4 + p) k)) := (FRM.up (by decide)).tr (FRM.up (by decide))
    have hkJ : MPK (am_up (am_up i 11 p (nI k)) 12 p (i (4 + p) k)) np nv := by
      have := hA.mpk
      unfold MPK at this ⊢
      rw [FJ.2 1 rfl, FJ.1 91 rfl (by decide)]
      exact this
    refine m_install hkJ (by omega) (fun p' hp' hx' hy' => absurd (hy.symm.trans hy') (nI_m1 (by omega))) (fun p' k' hp' hk' hx' hy' => ?_) (fun hno => absurd hy ((hno p hp hx).2 k hk))
    have := nI_inj (by omega) (by omega) (hx'.symm.trans hx)
    subst this
    have := nI_inj (by omega) (by omega) (hy'.symm.trans hy)
    subst this
    refine ⟨_, rfl, rfl, fin p' (nI k') _ hp (Or.inr ⟨k', hk, rfl⟩) ?_⟩
    rw [if_neg (nI_m1 (by omega)), nI_clamp (by omega), hA.2.2.2.2.2.2.1 p' k' (by omega) (by omega)]
  · refine m_install hA.mpk (by omega) (fun p' hp' hx' hy' => absurd hy' (hno p' hp' hx').1) (fun p' k' hp' hk' hx' hy' => absurd hy' ((hno p' hp' hx').2 k' hk')) (fun _ => ⟨i, rfl, rfl, np, nv, nn, na, sp, gr, ch, c, nh, hA, hB, hC, hD, hS, hK, hE, hT, hG, hH, hM⟩)
theorem p_span {x f t : Int32} (hI : INV i) : PRD xl xs Y_AM_span Y_Model_span [.int x, .int f, .int t] i := by
  obtain ⟨np, nv, nn, na, sp, gr, ch, c, nh, hA, hB, hC, hD, hS, hK, hE, hT, hG, hH, hM⟩ := hI
  have hna := hD.2.2.1
  refine c_span hD.ak (by omega) (fun a ha hx h0 h1 h3 => ⟨_, _, rfl, rfl, ?_⟩) (fun hno => ⟨_, _, rfl, rfl, ?_⟩)
  · have FJ : FRM ([23, 24, 25, 26, 27, 28, 29, 30, 31, 32, 33, 34] ++ [36, 37, 38, 39, 40, 41, 42, 43, 44, 45, 46, 47] ++ [48]) [] i (am_up (am_up (am_up i (23 + a) (sp a) f) (36 + a) (sp a) t) 48 a (nI (sp a + 1))) := ((FRM.upL [23, 24, 25, 26, 27, 28, 29, 30, 31, 32, 33, 34] ((show ∀ p, p < 12 → [23, 24, 25, 26, 27, 28, 29, 30, 31, 32, 33, 34].contains (23 + p) = true by decide) a (by omega)) (by omega)).tr (FRM.upL [36, 37, 38, 39, 40, 41, 42, 43, 44, 45, 46, 47] ((show ∀ p, p < 12 → [36, 37, 38, 39, 40, 41, 42, 43, 44, 45, 46, 47].contains (36 + p) = true by decide) a (by omega)) (by omega))).tr (FRM.up (by decide))
    generalize hJ : am_up (am_up (am_up i (23 + a) (sp a) f) (36 + a) (sp a) t) 48 a (nI (sp a + 1)) = J at FJ
    have hkJ : MAK J na sp := by
      have := hD.mak
      unfold MAK at this ⊢
      rw [FJ.2 13 rfl, FJ.1 101 rfl (by decide)]
      exact this
    refine m_span hkJ (by omega) (fun a' ha' hx' _ _ _ => ?_) (fun hno => absurd h3 (hno a ha hx h0 h1))
    have := nI_inj (by omega) (by omega) (hx'.symm.trans hx)
    subst this
    have F2 : FRM [102, 103, 101] [] J (am_up (am_up (am_up J 102 (3 * a' + sp a') f) 103 (3 * a' + sp a') t) 101 a' (nI (sp a' + 1))) := ((FRM.up (by decide)).tr (FRM.up (by decide))).tr (FRM.up (by decide))
    generalize hJ2 : am_up (am_up (am_up J 102 (3 * a' + sp a') f) 103 (3 * a' + sp a') t) 101 a' (nI (sp a' + 1)) = J2 at F2
    have F := FJ.tr F2
    refine ⟨J2, rfl, rfl, np, nv, nn, na, fset sp a' (sp a' + 1), gr, ch, c, nh, hA.fr F (by decide) (by decide), hB.fr F (by decide) (by decide), hC.fr F (by decide) (by decide), ?_, ?_, hK.fr F (by decide) (by decide), hE.fr F (by decide) (by decide), hT.fr F (by decide) (by decide), hG.fr F (by decide) (by decide), hH.fr F (by decide) (by decide), hM.fr F (by decide) (by decide)⟩
    · obtain ⟨k1, k2, k3, k4, k5, k6, k7, k8, k9, k10⟩ := hD
      unfold ID
      rw [F.1 20 rfl (by decide), F.2 13 rfl, F.1 21 rfl (by decide), F.1 100 rfl (by decide), F.1 50 rfl (by decide), F.1 105 rfl (by decide), F.1 51 rfl (by decide), F.1 106 rfl (by decide)]
      refine ⟨k1, k2, k3, k4, k5, fun a ha => ?_, k7, k8, k9, k10⟩
      have e48 : J2 48 a = if a = a' then nI (sp a' + 1) else i 48 a := by
        rw [F2.1 48 rfl (by decide), ← hJ, up_at, up_n (Or.inl (by omega)), up_n (Or.inl (by omega))]; simp only [true_and]
      have e101 : J2 101 a = if a = a' then nI (sp a' + 1) else i 101 a := by
        rw [← hJ2, up_at, up_n (Or.inl (by decide)), up_n (Or.inl (by decide)), FJ.1 101 rfl (by decide)]; simp only [true_and]
      rw [e48, e101]
      unfold fset
      by_cases e : a = a'
      · rw [if_pos e, if_pos e, if_pos e]; exact ⟨rfl, rfl, by omega⟩
      · rw [if_neg e, if_neg e, if_neg e]; exact k6 a ha
    · intro b k hb hk
      have h3' := h3
      have e1 : J2 (23 + b) k = if b = a' ∧ k = sp a' then f else i (23 + b) k := by
        rw [F2.1 (23 + b) ((show ∀ p, p < 12 → [102, 103, 101].contains (23 + p) = false by decide) b hb) (by omega), ← hJ, up_n (Or.inl (by omega)), up_n (Or.inl (by omega)), up_at]
        by_cases e : b = a' ∧ k = sp a'
        · rw [if_pos e, if_pos ⟨by omega, e.2⟩]
        · rw [if_neg e, if_neg (fun z => e ⟨by omega, z.2⟩)]
      have e2 : J2 (36 + b) k = if b = a' ∧ k = sp a' then t else i (36 + b) k := by
        rw [F2.1 (36 + b) ((show ∀ p, p < 12 → [102, 103, 101].contains (36 + p) = false by decide) b hb) (by omega), ← hJ, up_n (Or.inl (by omega)), up_at, up_n (Or.inl (by omega))]
        by_cases e : b = a' ∧ k = sp a'
        · rw [if_pos e, if_pos ⟨by omega, e.2⟩]
        · rw [if_neg e, if_neg (fun z => e ⟨by omega, z.2⟩)]
      have e3 : J2 102 (3 * b + k) = if b = a' ∧ k = sp a' then f else i 102 (3 * b + k) := by
        rw [← hJ2, up_n (Or.inl (by decide)), up_n (Or.inl (by decide)), up_at, FJ.1 102 rfl (by decide)]
        by_cases e : b = a' ∧ k = sp a'
        · rw [if_pos e, if_pos ⟨rfl, by rw [e.1, e.2]⟩]
        · rw [if_neg e, if_neg (fun z => e (by omega))]
      have e4 : J2 103 (3 * b + k) = if b = a' ∧ k = sp a' then t else i 103 (3 * b + k) := by
        rw [← hJ2, up_n (Or.inl (by decide)), up_at, up_n (Or.inl (by decide)), FJ.1 103 rfl (by decide)]
        by_cases e : b = a' ∧ k = sp a'
        · rw [if_pos e, if_pos ⟨rfl, by rw [e.1, e.2]⟩]
        · rw [if_neg e, if_neg (fun z => e (by omega))]
      rw [e1, e2, e3, e4]
      by_cases e : b = a' ∧ k = sp a'
      · rw [if_pos e, if_pos e, if_pos e, if_pos e]; exact ⟨rfl, rfl⟩
      · rw [if_neg e, if_neg e, if_neg e, if_neg e]; exact hS b k hb hk
  · exact m_span hD.mak (by omega) (fun a ha hx h0 h1 h3 => absurd h3 (hno a ha hx h0 h1)) (fun _ => ⟨i, rfl, rfl, np, nv, nn, na, sp, gr, ch, c, nh, hA, hB, hC, hD, hS, hK, hE, hT, hG, hH, hM⟩)
theorem p_severity {x x1 x2 x3 x4 x5 : Int32} (hI : INV i) : PRD xl xs Y_AM_severity Y_Model_severity [.int x, .int x1, .int x2, .int x3, .int x4, .int x5] i := by
  obtain ⟨np, nv, nn, na, sp, gr, ch, c, nh, hA, hB, hC, hD, hS, hK, hE, hT, hG, hH, hM⟩ := hI
  have hna := hD.2.2.1
  refine c_severity hD.1 hna (by omega) (fun a r e t h m ha hr he ht hh hm hx e1 e2 e3 e4 e5 => ⟨_, _, rfl, rfl, ?_⟩) (fun hno => ⟨_, _, rfl, rfl, ?_⟩)
  · refine m_severity (na := na) (by rw [up_n (Or.inl (by decide))]; exact hD.2.1) hna (by omega) (fun a' r' e' t' h' m' ha' hr' he' ht' hh' hm' hx' f1 f2 f3 f4 f5 j g1 g2 => ?_) (fun hno => absurd ⟨hx, e1, e2, e3, e4, e5⟩ (hno a r e t h m ha hr he ht hh hm))
    have := nI_inj (by omega) (by omega) (hx'.symm.trans hx)
    subst this
    have := nI_inj (by omega) (by omega) (f1.symm.trans e1)
    subst this
    have := nI_inj (by omega) (by omega) (f2.symm.trans e2)
    subst this
    have := nI_inj (by omega) (by omega) (f3.symm.trans e3)
    subst this
    have := nI_inj (by omega) (by omega) (f4.symm.trans e4)
    subst this
    have := nI_inj (by omega) (by omega) (f5.symm.trans e5)
    subst this
    have F1 : FRM [49] [] i (am_up i 49 a' (cten r' e' t' h' m')) := FRM.up (by decide)
    have F2 : FRM [104] [] (am_up i 49 a' (cten r' e' t' h' m')) j := ⟨fun q hq _ => g1 q (fun e => by subst e; simp at hq), fun k _ => by rw [g1 89 (by decide)]⟩
    have F := F1.tr F2
    refine ⟨j, rfl, rfl, np, nv, nn, na, sp, gr, chm ch a' (chs r' e' t' h' m'), c, nh, hA.fr F (by decide) (by decide), hB.fr F (by decide) (by decide), hC.fr F (by decide) (by decide), hD.fr F (by decide) (by decide), hS.fr F (by decide) (by decide), ?_, hE.fr F (by decide) (by decide), hT.fr F (by decide) (by decide), hG.fr F (by decide) (by decide), hH.fr F (by decide) (by decide), hM.fr F (by decide) (by decide)⟩
    refine ⟨fun a ha k hk => ?_, fun a ha => ?_⟩
    · rw [g2, up_n (Or.inl (by decide))]
      by_cases e : a = a'
      · subst e
        rw [if_pos (by omega), show 7 * a + k - 7 * a = k by omega, chm_s]
        exact ⟨rfl, chs_lt hr he ht hh hm⟩
      · rw [if_neg (by omega), chm_n e]
        exact hK.1 a ha k hk
    · rw [g1 49 (by decide), up_at]
      by_cases e : a = a'
      · subst e
        rw [if_pos ⟨rfl, rfl⟩, chm_s]
        exact ⟨sco_eq r' hr e' he t' ht h' hh m' hm, sco_pos r' hr e' he t' ht h' hh m' hm⟩
      · rw [if_neg (fun z => e z.2), chm_n e]
        exact hK.2 a ha
  · exact m_severity (na := na) hD.2.1 hna (by omega) (fun a r e t h m ha hr he ht hh hm hx e1 e2 e3 e4 e5 => absurd ⟨hx, e1, e2, e3, e4, e5⟩ (hno a r e t h m ha hr he ht hh hm)) (fun _ => ⟨i, rfl, rfl, np, nv, nn, na, sp, gr, ch, c, nh, hA, hB, hC, hD, hS, hK, hE, hT, hG, hH, hM⟩)
theorem p_except {x y e : Int32} (hI : INV i) : PRD xl xs Y_AM_except Y_Model_except [.int x, .int y, .int e] i := by
  obtain ⟨np, nv, nn, na, sp, gr, ch, c, nh, hA, hB, hC, hD, hS, hK, hE, hT, hG, hH, hM⟩ := hI
  have hn := hA.2.2.1
  have hna := hD.2.2.1
  refine c_except hA.1 hn hD.1 hna hD.cg (by omega) (fun a p ha hp hx hy he => ⟨_, _, rfl, rfl, ?_⟩) (fun hno => ⟨_, _, rfl, rfl, ?_⟩)
  · have hga := (hD.cg a ha).2
    have FJ : FRM [54, 55, 56, 57, 58, 59, 60, 61, 62, 63, 64, 65] [] i (am_up i (54 + gr a) p e) := FRM.upL [54, 55, 56, 57, 58, 59, 60, 61, 62, 63, 64, 65] ((show ∀ p, p < 12 → [54, 55, 56, 57, 58, 59, 60, 61, 62, 63, 64, 65].contains (54 + p) = true by decide) (gr a) hga) (by omega)
    refine m_except (np := np) (na := na) (gr := gr) (by rw [FJ.2 1 rfl]; exact hA.2.1) hn (by rw [FJ.2 13 rfl]; exact hD.2.1) hna (by rw [FJ.1 106 rfl (by decide)]; exact hD.mg) (by omega) (fun a' p' ha' hp' hx' hy' _ => ?_) (fun hno => absurd (hno a p ha hp hx hy) he)
    have := nI_inj (by omega) (by omega) (hx'.symm.trans hx)
    subst this
    have := nI_inj (by omega) (by omega) (hy'.symm.trans hy)
    subst this
    have F2 : FRM [107] [] (am_up i (54 + gr a') p' e) (am_up (am_up i (54 + gr a') p' e) 107 (6 * gr a' + p') e) := FRM.up (by decide)
    have F := FJ.tr F2
    refine ⟨_, rfl, rfl, np, nv, nn, na, sp, gr, ch, c, nh, hA.fr F (by decide) (by decide), hB.fr F (by decide) (by decide), hC.fr F (by decide) (by decide), hD.fr F (by decide) (by decide), hS.fr F (by decide) (by decide), hK.fr F (by decide) (by decide), ?_, hT.fr F (by decide) (by decide), hG.fr F (by decide) (by decide), hH.fr F (by decide) (by decide), hM.fr F (by decide) (by decide)⟩
    intro g hg hl p hp6
    rw [up_n (Or.inl (by omega)), up_at, up_at, up_n (Or.inl (by omega))]
    by_cases eq : g = gr a' ∧ p = p'
    · rw [if_pos ⟨by omega, eq.2⟩, if_pos ⟨rfl, by rw [eq.1, eq.2]⟩]
      exact Or.inr ⟨rfl, he⟩
    · rw [if_neg (fun z => eq ⟨by omega, z.2⟩), if_neg (fun z => eq (by omega))]
      exact hE g hg hl p hp6
  · exact m_except (np := np) (na := na) (gr := gr) hA.2.1 hn hD.2.1 hna hD.mg (by omega) (fun a p ha hp hx hy he => absurd (hno a p ha hp hx hy) he) (fun _ => ⟨i, rfl, rfl, np, nv, nn, na, sp, gr, ch, c, nh, hA, hB, hC, hD, hS, hK, hE, hT, hG, hH, hM⟩)
theorem p_same {x y : Int32} (hI : INV i) : PRD xl xs Y_AM_same Y_Model_same [.int x, .int y] i := by
  obtain ⟨np, nv, nn, na, sp, gr, ch, c, nh, hA, hB, hC, hD, hS, hK, hE, hT, hG, hH, hM⟩ := hI
  have hna := hD.2.2.1
  refine c_same hD.1 hna hD.cg (by omega) (fun a b ha hb hx hy j g1 g2 g3 => ⟨_, _, rfl, rfl, ?_⟩) (fun hno => ⟨_, _, rfl, rfl, ?_⟩)
  · have hga := (hD.2.2.2.2.2.2.2.2.2 a ha).2
    have hgb := (hD.2.2.2.2.2.2.2.2.2 b hb).2
    have hKM : min (gr a) (gr b) ≤ max (gr a) (gr b) ∧ max (gr a) (gr b) < na := by omega
    have hL1 : ∃ c, c < na ∧ gr c = min (gr a) (gr b) := by
      rcases Nat.le_total (gr a) (gr b) with q | q
      · exact ⟨a, ha, by omega⟩
      · exact ⟨b, hb, by omega⟩
    have hL2 : ∃ c, c < na ∧ gr c = max (gr a) (gr b) := by
      rcases Nat.le_total (gr a) (gr b) with q | q
      · exact ⟨b, hb, by omega⟩
      · exact ⟨a, ha, by omega⟩
    have FJ : FRM (51 :: [54, 55, 56, 57, 58, 59, 60, 61, 62, 63, 64, 65]) [] i j := ⟨fun q hq h9 => g1 q (fun e => by subst e; simp at hq) (fun e => by
      have h1 : [54, 55, 56, 57, 58, 59, 60, 61, 62, 63, 64, 65].contains (54 + min (gr a) (gr b)) = true := (show ∀ p, p < 12 → [54, 55, 56, 57, 58, 59, 60, 61, 62, 63, 64, 65].contains (54 + p) = true by decide) _ (by omega)
      subst e
      rw [List.contains_cons, h1, Bool.or_true] at hq
      cases hq), fun k _ => by rw [g1 89 (by decide) (by omega)]⟩
    have j106 : j 106 = i 106 := FJ.1 106 rfl (by decide)
    have j107 : j 107 = i 107 := FJ.1 107 rfl (by decide)
    refine m_same (na := na) (gr := gr) (by rw [FJ.2 13 rfl]; exact hD.2.1) hna (by rw [j106]; exact hD.mg) (by omega) (fun a' b' ha' hb' hx' hy' hne j2 k1 k2 k3 => ?_) (fun a' b' ha' hb' hx' hy' heq => ?_) (fun hno => absurd ⟨hx, hy⟩ (hno a b ha hb))
    · have := nI_inj (by omega) (by omega) (hx'.symm.trans hx)
      subst this
      have := nI_inj (by omega) (by omega) (hy'.symm.trans hy)
      subst this
      generalize hKe : min (gr a') (gr b') = K at *
      generalize hGe : max (gr a') (gr b') = G at *
      have hKG : K < G := by omega
      have F2 : FRM [106, 107] [] j j2 := ⟨fun q hq h9 => k1 q (fun e => by subst e; simp at hq) (fun e => by subst e; simp at hq), fun k _ => by rw [k1 89 (by decide) (by decide)]⟩
      have F := FJ.tr F2
      have rw51 : ∀ c, j2 51 c = if c < na ∧ i 51 c = nI G then nI K else i 51 c := fun c => by rw [F2.1 51 rfl (by decide)]; exact g2 c
      have rw106 : ∀ c, j2 106 c = if c < na ∧ i 106 c = nI G then nI K else i 106 c := fun c => by rw [k2, j106]
      refine ⟨j2, rfl, rfl, np, nv, nn, na, sp, grm gr G K, ch, c, nh, hA.fr F (by decide) (by decide), hB.fr F (by decide) (by decide), hC.fr F (by decide) (by decide), ?_, hS.fr F (by decide) (by decide), hK.fr F (by decide) (by decide), ?_, hT.fr F (by decide) (by decide), hG.fr F (by decide) (by decide), hH.fr F (by decide) (by decide), hM.fr F (by decide) (by decide)⟩
      · obtain ⟨q1, q2, q3, q4, q5, q6, q7, q8, q9, q10⟩ := hD
        unfold ID
        rw [F.1 20 rfl (by decide), F.2 13 rfl, F.1 21 rfl (by decide), F.1 100 rfl (by decide), F.1 48 rfl (by decide), F.1 101 rfl (by decide), F.1 50 rfl (by decide), F.1 105 rfl (by decide)]
        refine ⟨q1, q2, q3, q4, q5, q6, q7, q8, ?_, fun c hc => ?_⟩
        · funext c
          rw [rw51, rw106, q9]
        · have q := q10 c hc
          rw [rw51, q.1]
          unfold grm
          by_cases e : gr c = G
          · rw [if_pos ⟨hc, by rw [e]⟩, if_pos e]; exact ⟨rfl, by omega⟩
          · rw [if_neg (fun z => e (nI_inj (by omega) (by omega) z.2)), if_neg e]; exact ⟨rfl, q.2⟩
      · intro g hg hl p hp
        unfold grm at hl
        have hgG : g ≠ G := by
          rcases hl with q | ⟨c, hc, q⟩
          · omega
          · intro e
            by_cases e2 : gr c = G
            · rw [if_pos e2] at q; omega
            · rw [if_neg e2] at q; omega
        have hlive : na ≤ g ∨ ∃ c, c < na ∧ gr c = g := by
          rcases hl with q | ⟨c, hc, q⟩
          · exact Or.inl q
          · by_cases e2 : gr c = G
            · rw [if_pos e2] at q
              obtain ⟨c', hc', e'⟩ := hL1
              exact Or.inr ⟨c', hc', by omega⟩
            · rw [if_neg e2] at q
              exact Or.inr ⟨c, hc, q⟩
        rw [k3, j107, if_neg (by omega), F2.1 (54 + g) ((show ∀ p, p < 12 → [106, 107].contains (54 + p) = false by decide) g hg) (by omega)]
        by_cases e : g = K
        · subst e
          rw [g3 p hp]
          have r1 := hE g hg (Or.inr hL1) p hp
          have r2 := hE G (by omega) (Or.inr hL2) p hp
          have hs : 6 * G + (6 * g + p - 6 * g) = 6 * G + p := by omega
          rw [hs]
          have hm : (if 6 * g ≤ 6 * g + p ∧ 6 * g + p < 6 * g + 6 ∧ i 107 (6 * g + p) < i 107 (6 * G + p) then i 107 (6 * G + p) else i 107 (6 * g + p)) = (if i 107 (6 * g + p) < i 107 (6 * G + p) then i 107 (6 * G + p) else i 107 (6 * g + p)) := by
            by_cases e3 : i 107 (6 * g + p) < i 107 (6 * G + p)
            · rw [if_pos e3, if_pos ⟨by omega, by omega, e3⟩]
            · rw [if_neg e3, if_neg (fun z => e3 z.2.2)]
          rw [hm]
          exact relE_max r1 r2
        · rw [if_neg (fun z => by omega), g1 (54 + g) (by omega) (by omega)]
          exact hE g hg hlive p hp
    · have := nI_inj (by omega) (by omega) (hx'.symm.trans hx)
      subst this
      have := nI_inj (by omega) (by omega) (hy'.symm.trans hy)
      subst this
      have e51 : j 51 = i 51 := by
        funext c
        rw [g2]
        by_cases e : c < na ∧ i 51 c = nI (max (gr a') (gr b'))
        · rw [if_pos e, e.2, show min (gr a') (gr b') = max (gr a') (gr b') by omega]
        · rw [if_neg e]
      refine ⟨j, by rw [show min (gr a') (gr b') = gr a' by omega], rfl, np, nv, nn, na, sp, gr, ch, c, nh, hA.fr FJ (by decide) (by decide), hB.fr FJ (by decide) (by decide), hC.fr FJ (by decide) (by decide), ?_, hS.fr FJ (by decide) (by decide), hK.fr FJ (by decide) (by decide), ?_, hT.fr FJ (by decide) (by decide), hG.fr FJ (by decide) (by decide), hH.fr FJ (by decide) (by decide), hM.fr FJ (by decide) (by decide)⟩
      · unfold ID
        rw [FJ.1 20 rfl (by decide), FJ.2 13 rfl, FJ.1 21 rfl (by decide), FJ.1 100 rfl (by decide), FJ.1 48 rfl (by decide), FJ.1 101 rfl (by decide), FJ.1 50 rfl (by decide), FJ.1 105 rfl (by decide), e51, j106]
        exact hD
      · intro g hg hl p hp
        rw [j107]
        by_cases e : g = min (gr a') (gr b')
        · have := g3 p hp
          rw [show max (gr a') (gr b') = min (gr a') (gr b') by omega, ← e] at this
          rw [this, if_neg (by rw [Int32.lt_iff_toInt_lt]; omega)]
          exact hE g hg hl p hp
        · rw [g1 (54 + g) (by omega) (by omega)]
          exact hE g hg hl p hp
  · refine m_same (na := na) (gr := gr) hD.2.1 hna hD.mg (by omega) (fun a b ha hb hx hy => absurd ⟨hx, hy⟩ (hno a b ha hb)) (fun a b ha hb hx hy => absurd ⟨hx, hy⟩ (hno a b ha hb)) (fun _ => ⟨i, rfl, rfl, np, nv, nn, na, sp, gr, ch, c, nh, hA, hB, hC, hD, hS, hK, hE, hT, hG, hH, hM⟩)
theorem p_broken (hI : INV i) : PRD xl xs Y_AM_broken Y_Model_broken [] i := by
  obtain ⟨np, nv, nn, na, sp, gr, ch, c, nh, hA, hB, hC, hD, hS, hK, hE, hT, hG, hH, hM⟩ := hI
  have hn := hA.2.2.1
  refine c_broken hC.nk (by omega) ⟨_, _, rfl, rfl, ?_⟩
  refine m_broken hC.mnk hA.2.2.2.2.2.2.2 (fun p hp => ?_) (by omega) (fun j g1 g2 => ?_)
  · rcases Nat.lt_or_ge p np with q | q
    · exact (hB.2.1 p q).imp id (fun ⟨k, hk, e⟩ => ⟨k, by have := (hA.2.2.2.1 p hp).2.2; omega, e⟩)
    · exact Or.inl (hB.2.2.1 p q hp)
  · have F : FRM [111] [] i j := ⟨fun q hq h9 => g1 q (fun e => by subst e; simp at hq), fun k _ => by rw [g1 89 (by decide)]⟩
    refine ⟨j, ?_, rfl, np, nv, nn, na, sp, gr, ch, c, nh, hA.fr F (by decide) (by decide), hB.fr F (by decide) (by decide), hC.fr F (by decide) (by decide), hD.fr F (by decide) (by decide), hS.fr F (by decide) (by decide), hK.fr F (by decide) (by decide), hE.fr F (by decide) (by decide), hT.fr F (by decide) (by decide), hG.fr F (by decide) (by decide), hH.fr F (by decide) (by decide), hM.fr F (by decide) (by decide)⟩
    have : bcnt (mbrk j) nn = bcnt (cbrk i (i 12)) nn := bcnt_congr fun k hk => by
      obtain ⟨a, b, ha, hb, ea, eb⟩ := hC.2.2.2.2.1 k hk
      obtain ⟨h4, h5, h6, h7, h8, h9⟩ := hC.2.2.2.1
      show nbrk (j 94) (j 95) (j 96) (j 97) (j 98) (wv (j 92) (j 111)) k = nbrk (i 14) (i 15) (i 16) (i 17) (i 18) (i 12) k
      rw [g1 94 (by decide), g1 95 (by decide), g1 96 (by decide), g1 97 (by decide), g1 98 (by decide), g1 92 (by decide), ← h4, ← h5, ← h6, ← h7, ← h8]
      exact nbrk_at ha hb ea eb ((wv_congr (g2 a ha)).trans (hB.2.2.2 a ha).symm) ((wv_congr (g2 b hb)).trans (hB.2.2.2 b hb).symm)
    rw [this]
theorem p_update (hI : INV i) : PRD xl xs Y_AM_update Y_Model_update [] i := by
  obtain ⟨np, nv, nn, na, sp, gr, ch, c, nh, hA, hB, hC, hD, hS, hK, hE, hT, hG, hH, hM⟩ := hI
  have hn := hA.2.2.1
  have hl : ∀ p, p < np → i 88 p = -1 ∨ ∃ k, k < nv p ∧ i 88 p = nI k := fun p hp => by rw [hH.2.2.1 p (by omega)]; exact hH.2.2.2.1 p hp
  have hu : ∀ p, p < np → umv (i 93) (i 114) p = umv (i 11) (i 88) p := fun p hp => by unfold umv; rw [hB.1 p (by omega), hH.2.2.1 p (by omega)]
  refine c_update hA.pk hH.2.1 hl (by omega) (fun h1 j g1 g2 g3 => ⟨_, _, rfl, rfl, ?_⟩) (fun h0 => ⟨_, _, rfl, rfl, ?_⟩)
  · have FJ : FRM [11, 12] [] i j := ⟨fun q hq h9 => g1 q (fun e => by subst e; simp at hq) (fun e => by subst e; simp at hq), fun k _ => by rw [g1 89 (by decide) (by decide)]⟩
    have e93 := FJ.1 93 rfl (by decide)
    have e114 := FJ.1 114 rfl (by decide)
    refine m_update (np := np) (by rw [FJ.2 1 rfl]; exact hA.2.1) hn (by rw [FJ.2 29 rfl, ← hH.1]; exact hH.2.1) (by omega) (fun _ j2 k1 k2 => ?_) (fun h0 => ?_)
    · rw [e93, e114] at k2 ⊢
      have F2 : FRM [93] [] j j2 := ⟨fun q hq h9 => k1 q (fun e => by subst e; simp at hq), fun k _ => by rw [k1 89 (by decide)]⟩
      have F := FJ.tr F2
      refine ⟨j2, by rw [bcnt_congr hu], rfl, np, nv, nn, na, sp, gr, ch, c, nh, hA.fr F (by decide) (by decide), ?_, hC.fr F (by decide) (by decide), hD.fr F (by decide) (by decide), hS.fr F (by decide) (by decide), hK.fr F (by decide) (by decide), hE.fr F (by decide) (by decide), hT.fr F (by decide) (by decide), hG.fr F (by decide) (by decide), hH.fr F (by decide) (by decide), hM.fr F (by decide) (by decide)⟩
      have e11 := F2.1 11 rfl (by decide)
      have e12 := F2.1 12 rfl (by decide)
      have val : ∀ p, p < np → j2 93 p = -1 ∨ ∃ k, k < nv p ∧ j2 93 p = nI k := fun p hp => by
        rw [k2]
        by_cases e : p < np ∧ umv (i 93) (i 114) p = true
        · rw [if_pos e]; exact hH.2.2.2.1 p hp
        · rw [if_neg e]; exact hB.2.1 p hp
      refine ⟨fun p hp => ?_, val, fun p hp hp6 => ?_, fun p hp => ?_⟩
      · rw [e11, g2 p hp, k2]
        by_cases e : p < np ∧ umv (i 93) (i 114) p = true
        · rw [if_pos e, if_pos ⟨e.1, by rw [← hu p e.1]; exact e.2⟩, hH.2.2.1 p hp]
        · rw [if_neg e, if_neg (fun z => e ⟨z.1, by rw [hu p z.1]; exact z.2⟩), hB.1 p hp]
      · rw [k2, if_neg (by omega)]; exact hB.2.2.1 p hp hp6
      · rw [e12, g3 p hp]
        unfold wv
        rw [k2, F.1 92 rfl (by decide)]
        by_cases e : p < np ∧ umv (i 93) (i 114) p = true
        · rw [if_pos e, if_pos ⟨e.1, by rw [← hu p e.1]; exact e.2⟩]
          have hne : ¬ i 114 p = -1 := fun z => by
            have := e.2
            unfold umv at this
            rw [show decide (i 114 p = -1) = true from decide_eq_true z] at this
            simp at this
          obtain ⟨k, hk, ek⟩ := (hH.2.2.2.1 p e.1).resolve_left hne
          have h5 := (hA.2.2.2.1 p hp).2.2
          rw [if_neg hne, hH.2.2.1 p hp, ek, nI_clamp (by omega)]
          exact hA.2.2.2.2.2.2.1 p k hp (by omega)
        · rw [if_neg e, if_neg (fun z => e ⟨z.1, by rw [hu p z.1]; exact z.2⟩), hB.2.2.2 p hp]
          rfl
    · rw [FJ.2 29 rfl, ← hH.1, h1] at h0
      exact absurd h0 (by decide)
  · refine m_update (np := np) hA.2.1 hn (by rw [← hH.1]; exact hH.2.1) (by omega) (fun h1 j2 k1 k2 => ?_) (fun _ => ⟨i, rfl, rfl, np, nv, nn, na, sp, gr, ch, c, nh, hA, hB, hC, hD, hS, hK, hE, hT, hG, hH, hM⟩)
    rw [← hH.1, h0] at h1
    exact absurd h1 (by decide)
end PAIRS2
