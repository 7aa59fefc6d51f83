/-! WAYS of the reference -/
def mR (i : Nat → Nat → Int32) (np p : Nat) : Bool := decide (p < np) && (!(decide (i 93 p = -1)) && decide (i 90 p = 1))
def mE (i : Nat → Nat → Int32) (k : Nat) : Bool := nact (i 94) (i 95) (wv (i 92) (i 93)) k && nhld (i 96) (i 97) (i 98) (wv (i 92) (i 93)) k
def mF (i : Nat → Nat → Int32) (k : Nat) : Bool := mE i k && decide (i 99 k = 1)
theorem nact_congr {o s w w' : Nat → Int32} {k a : Nat} (ha : a < 6) (e : o k = nI a) (h : ∀ p, p < 6 → w p = w' p) : nact o s w k = nact o s w' k := by
  unfold nact
  rw [e, nI_clamp (by omega), h a ha]
theorem nhld_congr {o l g w w' : Nat → Int32} {k a : Nat} (ha : a < 6) (e : o k = nI a) (h : ∀ p, p < 6 → w p = w' p) : nhld o l g w k = nhld o l g w' k := by
  unfold nhld
  rw [e, nI_clamp (by omega), h a ha]
theorem wv_congr {ver w w' : Nat → Int32} {p : Nat} (h : w p = w' p) : wv ver w p = wv ver w' p := by
  unfold wv
  rw [h]
def RI (R F : Nat → Bool) (o t : Nat → Int32) (nn : Nat) (f : Nat → Int32) (r k : Nat) : Prop := (∀ p, f p = 0 ∨ f p = 1) ∧ (∀ p, p < 6 → f p = 1 → ∃ l, rch R F o t nn l p = true) ∧ (∀ l p, l < r → p < 6 → rch R F o t nn l p = true → f p = 1) ∧ (∀ k' a b l, k' < k → F k' = true → a < 6 → b < 6 → o k' = nI a → t k' = nI b → l < r → rch R F o t nn l a = true → f b = 1)
theorem rs_step {R F : Nat → Bool} {o t : Nat → Int32} {nn r k a b : Nat} {f f' : Nat → Int32} {x : Int32} (h : RI R F o t nn f r k) (hk : k < nn) (ha : a < 6) (hb : b < 6) (ea : o k = nI a) (eb : t k = nI b) (hx : (x = 1 ∧ (f b = 1 ∨ (F k = true ∧ f a = 1))) ∨ (x = 0 ∧ f b = 0 ∧ (F k = true → f a = 0))) (h' : ∀ p, f' p = if p = b then x else f p) : RI R F o t nn f' r (k + 1) := by
  obtain ⟨h1, h2, h3, h4⟩ := h
  have up : ∀ p, f p = 1 → f' p = 1 := fun p e => by
    rw [h']
    by_cases q : p = b
    · rw [if_pos q]
      rw [q] at e
      rcases hx with hx | hx
      · exact hx.1
      · rw [e] at hx; exact absurd hx.2.1 (by decide)
    · rw [if_neg q]; exact e
  refine ⟨fun p => ?_, fun p hp e => ?_, fun l p hl hp hD => up p (h3 l p hl hp hD), fun k' a' b' l hk' hF ha' hb' ea' eb' hl hD => ?_⟩
  · rw [h']
    by_cases q : p = b
    · rw [if_pos q]; exact hx.elim (fun z => Or.inr z.1) (fun z => Or.inl z.1)
    · rw [if_neg q]; exact h1 p
  · rw [h'] at e
    by_cases q : p = b
    · rw [if_pos q] at e
      subst q
      rcases hx with ⟨_, z | ⟨z1, z2⟩⟩ | ⟨z, _⟩
      · exact h2 p hp z
      · obtain ⟨l, hl⟩ := h2 a ha z2
        exact ⟨l + 1, rch_step hk z1 ha ea eb hl⟩
      · rw [z] at e; exact absurd e (by decide)
    · rw [if_neg q] at e; exact h2 p hp e
  · by_cases q : k' = k
    · subst q
      have := nI_inj (by omega) (by omega) (ea.symm.trans ea')
      subst this
      have := nI_inj (by omega) (by omega) (eb.symm.trans eb')
      subst this
      have h5 := h3 l a hl ha hD
      rw [h', if_pos rfl]
      rcases hx with z | ⟨_, _, z⟩
      · exact z.1
      · rw [z hF] at h5; exact absurd h5 (by decide)
    · exact up b' (h4 k' a' b' l (by omega) hF ha' hb' ea' eb' hl hD)
theorem rs_keep {R F : Nat → Bool} {o t : Nat → Int32} {nn r k : Nat} {f : Nat → Int32} (h : RI R F o t nn f r k) (hF : F k = false) : RI R F o t nn f r (k + 1) := by
  obtain ⟨h1, h2, h3, h4⟩ := h
  refine ⟨h1, h2, h3, fun k' a b l hk' hF' => ?_⟩
  by_cases q : k' = k
  · rw [q, hF] at hF'; cases hF'
  · exact h4 k' a b l (by omega) hF'
theorem rs_next {R F : Nat → Bool} {o t : Nat → Int32} {nn r : Nat} {f : Nat → Int32} (hN : NB o t nn) (h : RI R F o t nn f (r + 1) nn) : RI R F o t nn f (r + 1 + 1) 0 := by
  obtain ⟨h1, h2, h3, h4⟩ := h
  refine ⟨h1, h2, fun l p hl hp hD => ?_, fun k' _ _ _ hk' => absurd hk' (by omega)⟩
  rcases Nat.lt_or_ge l (r + 1) with q | q
  · exact h3 l p q hp hD
  · have : l = r + 1 := by omega
    subst this
    rcases rch_inv hN hp hD with hD | ⟨k, a, hk', ha, hE', ea, eb, hD⟩
    · exact h3 r p (by omega) hp hD
    · exact h4 k a p r hk' hE' ha hp ea eb (by omega) hD
def FI (R E : Nat → Bool) (o t : Nat → Int32) (nn : Nat) (f : Nat → Int32) (s k : Nat) : Prop := ∀ p, p < 6 → (f p = -1 ∧ (∀ l, l < s + 1 → rch R E o t nn l p = false) ∧ (∀ k' a, k' < k → E k' = true → a < 6 → o k' = nI a → t k' = nI p → rch R E o t nn s a = false)) ∨ ∃ l, l ≤ s + 1 ∧ l ≤ 6 ∧ f p = nI l ∧ rch R E o t nn l p = true ∧ ∀ m, m < l → rch R E o t nn m p = false
theorem fs_set {R E : Nat → Bool} {o t : Nat → Int32} {nn s k a b : Nat} {f f' : Nat → Int32} (h : FI R E o t nn f s k) (hs : s ≤ 5) (hk : k < nn) (hE : E k = true) (ha : a < 6) (hb : b < 6) (ea : o k = nI a) (eb : t k = nI b) (e1 : f a = nI s) (e2 : f b = -1) (h' : ∀ p, f' p = if p = b then nI (s + 1) else f p) : FI R E o t nn f' s (k + 1) := by
  intro p hp
  rw [h']
  by_cases q : p = b
  · subst q
    rw [if_pos rfl]
    refine Or.inr ⟨s + 1, Nat.le_refl _, by omega, rfl, ?_, fun m hm => ?_⟩
    · rcases h a ha with ⟨z, _⟩ | ⟨l, z1, z2, z3, z4, _⟩
      · rw [e1] at z; exact absurd z (nI_m1 (by omega))
      · have := nI_inj (by omega) (by omega) (e1.symm.trans z3)
        subst this
        exact rch_step hk hE ha ea eb z4
    · rcases h p hp with ⟨_, z, _⟩ | ⟨l, z1, z2, z3, _⟩
      · exact z m hm
      · rw [e2] at z3; exact absurd z3.symm (nI_m1 (by omega))
  · rw [if_neg q]
    rcases h p hp with ⟨z1, z2, z3⟩ | z
    · refine Or.inl ⟨z1, z2, fun k' a' hk' hE' ha' ea' ep => ?_⟩
      by_cases qk : k' = k
      · subst qk
        exact absurd (nI_inj (by omega) (by omega) (ep.symm.trans eb)) q
      · exact z3 k' a' (by omega) hE' ha' ea' ep
    · exact Or.inr z
theorem fs_keep {R E : Nat → Bool} {o t : Nat → Int32} {nn s k a b : Nat} {f : Nat → Int32} (h : FI R E o t nn f s k) (hs : s ≤ 5) (hk : k < nn) (ha : a < 6) (hb : b < 6) (ea : o k = nI a) (eb : t k = nI b) (hno : E k = true → f a = nI s → f b = -1 → False) : FI R E o t nn f s (k + 1) := by
  intro p hp
  rcases h p hp with ⟨z1, z2, z3⟩ | z
  · refine Or.inl ⟨z1, z2, fun k' a' hk' hE' ha' ea' ep => ?_⟩
    by_cases qk : k' = k
    · subst qk
      have := nI_inj (by omega) (by omega) (ep.symm.trans eb)
      subst this
      have := nI_inj (by omega) (by omega) (ea.symm.trans ea')
      subst this
      cases hD : rch R E o t nn s a with
      | false => rfl
      | true =>
        exfalso
        rcases h a ha with ⟨_, y2, _⟩ | ⟨l, y1, y2, y3, y4, y5⟩
        · rw [y2 s (by omega)] at hD; cases hD
        · have hls : l ≤ s := by
            rcases Nat.lt_or_ge s l with w | w
            · rw [y5 s w] at hD; cases hD
            · exact w
          rcases Nat.lt_or_ge l s with w | w
          · have := rch_step hk hE' ha ea eb y4
            rw [z2 (l + 1) (by omega)] at this
            cases this
          · have : l = s := by omega
            subst this
            exact hno hE' y3 z1
    · exact z3 k' a' (by omega) hE' ha' ea' ep
  · exact Or.inr z
theorem fs_next {R E : Nat → Bool} {o t : Nat → Int32} {nn s : Nat} {f : Nat → Int32} (hN : NB o t nn) (h : FI R E o t nn f s nn) : FI R E o t nn f (s + 1) 0 := by
  intro p hp
  rcases h p hp with ⟨z1, z2, z3⟩ | ⟨l, z1, z2⟩
  · refine Or.inl ⟨z1, fun l hl => ?_, fun k' _ hk' => absurd hk' (by omega)⟩
    rcases Nat.lt_or_ge l (s + 1) with q | q
    · exact z2 l q
    · have : l = s + 1 := by omega
      subst this
      cases hD : rch R E o t nn (s + 1) p with
      | false => rfl
      | true =>
        rcases rch_inv hN hp hD with hD | ⟨k, a, hk', ha, hE', ea, eb, hD⟩
        · rw [z2 s (by omega)] at hD; cases hD
        · rw [z3 k a hk' hE' ha ea eb] at hD; cases hD
  · exact Or.inr ⟨l, by omega, z2⟩
theorem fs_end {R E : Nat → Bool} {o t : Nat → Int32} {nn k : Nat} {f : Nat → Int32} (hN : NB o t nn) (h : FI R E o t nn f 6 k) (p : Nat) (hp : p < 6) : isD (rch R E o t nn) p (f p) := by
  rcases h p hp with ⟨z1, z2, _⟩ | ⟨l, _, z2, z3, z4, z5⟩
  · refine Or.inl ⟨z1, fun l => ?_⟩
    cases hD : rch R E o t nn l p with
    | false => rfl
    | true =>
      have := rch_all hN hp hD
      rw [z2 5 (by omega)] at this
      cases this
  · refine Or.inr ⟨l, ?_, z3, z4, z5⟩
    rcases Nat.lt_or_ge 5 l with q | q
    · have := rch_all hN hp z4
      rw [z5 5 q] at this
      cases this
    · exact q
section MWAYS
variable {xl : Nat} {xs : Nat → Int32} {d : Nat} {i : Nat → Nat → Int32} {Q : am_Q} {np nn : Nat}
theorem m_findWays (hp : i 89 1 = nI np) (hn : np ≤ 6) (hN : MNK i nn) (hv : ∀ q, q < 30 → ¬ i 92 q = -1) (hpl : ∀ p, p < 6 → i 93 p = -1 ∨ ∃ q, q < 5 ∧ i 93 p = nI q) (hr : ∀ p, i 90 p = 0 ∨ i 90 p = 1) (hcb : ∀ k, i 99 k = 0 ∨ i 99 k = 1) (hrb : ∀ p, i 110 p = 0 ∨ i 110 p = 1) (hd : 2 ≤ d)
    (h : ∀ j : Nat → Nat → Int32, (∀ q, q ≠ 109 → q ≠ 110 → q ≠ 111 → j q = i q) → (∀ p, p < 6 → j 111 p = i 93 p) → (∀ p, p < 6 → isD (rch (mR i np) (mE i) (i 94) (i 96) nn) p (j 109 p)) → (∀ p, j 110 p = 0 ∨ j 110 p = 1) → (∀ p, p < 6 → (j 110 p = 1 ↔ rch (mR i np) (mF i) (i 94) (i 96) nn 5 p = true)) → Q none (KS, j)) : SP xl xs d Y_Model_findWays [.ref 89] (KS, i) Q := by
  have hNB : NB (i 94) (i 96) nn := hN.2.2
  have hnn := hN.2.1
  obtain ⟨d, rfl⟩ : ∃ q, d = q + 1 := ⟨d - 1, by omega⟩
  have inner : ∀ z s, s + z = 6 → ∀ m k (j : Nat → Nat → Int32), k + m = nn → s ≤ 6 → (s = 6 → k = 0) → (∀ q, q ≠ 109 → q ≠ 110 → q ≠ 111 → j q = i q) → (∀ p, p < 6 → j 111 p = i 93 p) → FI (mR i np) (mE i) (i 94) (i 96) nn (j 109) s k → RI (mR i np) (mF i) (i 94) (i 96) nn (j 110) (s + 1) k → (s < 6 → am_wp (ax_E xl xs) (ax_cd Y_Model_findWays) (am_sp (ax_E xl xs) ax_cd ax_ml d) Q 83 [some (.ref 89), some (.int (nI (s + 1))), some (.int (nI k))] [] (KS, j) 0 0) ∧ (k = 0 → ∀ o, am_wp (ax_E xl xs) (ax_cd Y_Model_findWays) (am_sp (ax_E xl xs) ax_cd ax_ml d) Q 75 [some (.ref 89), some (.int (nI (s + 1))), o] [] (KS, j) 0 0) := by
    intro z
    induction z with
    | zero =>
      intro s hs m k j hk hs6 hsk h1 h2 h3 h4
      have : s = 6 := by omega
      subst this
      refine ⟨fun h => absurd h (by omega), fun hk0 o => ?_⟩
      refine am_go (am_sp_mo _) (fun q => q == 75 || q == 83) 20 (fun X hX => ?_)
      conv => whnf
      try dsimp only
      refine ⟨fun _ => ?_, fun hh => absurd (by decide) hh⟩
      conv => whnf
      try dsimp only
      refine h j h1 h2 (fs_end hNB h3) h4.1 (fun p hp' => ⟨fun e => ?_, fun e => h4.2.2.1 5 p (by omega) hp' e⟩)
      obtain ⟨l, hl⟩ := h4.2.1 p hp' e
      exact rch_all hNB hp' hl
    | succ z ihz =>
      intro s hs
      have in1 : ∀ m k (j : Nat → Nat → Int32), k + m = nn → (∀ q, q ≠ 109 → q ≠ 110 → q ≠ 111 → j q = i q) → (∀ p, p < 6 → j 111 p = i 93 p) → FI (mR i np) (mE i) (i 94) (i 96) nn (j 109) s k → RI (mR i np) (mF i) (i 94) (i 96) nn (j 110) (s + 1) k → am_wp (ax_E xl xs) (ax_cd Y_Model_findWays) (am_sp (ax_E xl xs) ax_cd ax_ml d) Q 83 [some (.ref 89), some (.int (nI (s + 1))), some (.int (nI k))] [] (KS, j) 0 0 := by
        intro m
        induction m with
        | zero =>
          intro k j hk h1 h2 h3 h4
          have : k = nn := by omega
          subst this
          refine am_go (am_sp_mo _) (fun q => q == 75 || q == 83) 20 (fun X hX => ?_)
          conv => whnf
          try dsimp only
          rw [h1 89 (by decide) (by decide) (by decide), hN.1]
          refine ⟨fun _ => ?_, fun hh => absurd (nI_le (Nat.le_refl _) (by omega)) hh⟩
          conv => whnf
          try dsimp only
          rw [show nI (s + 1) + Int32.ofInt 1 = nI (s + 1 + 1) by rw [li_1, nI_add]]
          exact hX _ _ _ _ _ _ ((ihz (s + 1) (by omega) k 0 j (by omega) (by omega) (fun _ => rfl) h1 h2 (fs_next hNB h3) (rs_next hNB h4)).2 rfl _)
        | succ m ih =>
          intro k j hk h1 h2 h3 h4
          obtain ⟨a, b, ha, hb, ea, eb⟩ := hNB k (by omega)
          have hcl : (nI k).toNatClampNeg = k := nI_clamp (by omega)
          have hca : (nI a).toNatClampNeg = a := nI_clamp (by omega)
          have hcbb : (nI b).toNatClampNeg = b := nI_clamp (by omega)
          have hin : vp_in (nI k) 16 := vp_in_nI (by omega) (by decide)
          have hia : vp_in (nI a) 6 := vp_in_nI (by omega) (by decide)
          have hib : vp_in (nI b) 6 := vp_in_nI (by omega) (by decide)
          have e1 : nI k + Int32.ofInt 1 = nI (k + 1) := by rw [li_1, nI_add]
          have j94 := h1 94 (by decide) (by decide) (by decide)
          have j96 := h1 96 (by decide) (by decide) (by decide)
          have hNj : MNK j nn := by
            unfold MNK
            rw [h1 89 (by decide) (by decide) (by decide), j94, j96]
            exact hN
          have hWj : NWK j := by
            unfold NWK
            rw [h1 92 (by decide) (by decide) (by decide)]
            exact ⟨fun p hp => by rw [h2 p hp]; exact hpl p hp, hv⟩
          have eact : mact j k = nact (i 94) (i 95) (wv (i 92) (i 93)) k := by
            unfold mact
            rw [j94, h1 95 (by decide) (by decide) (by decide), h1 92 (by decide) (by decide) (by decide)]
            exact nact_congr ha ea (fun p hp => wv_congr (h2 p hp))
          have ehld : mhld j k = nhld (i 96) (i 97) (i 98) (wv (i 92) (i 93)) k := by
            unfold mhld
            rw [j96, h1 97 (by decide) (by decide) (by decide), h1 98 (by decide) (by decide) (by decide), h1 92 (by decide) (by decide) (by decide)]
            exact nhld_congr hb eb (fun p hp => wv_congr (h2 p hp))
          have skip : mE i k = false → am_wp (ax_E xl xs) (ax_cd Y_Model_findWays) (am_sp (ax_E xl xs) ax_cd ax_ml d) Q 207 [some (.ref 89), some (.int (nI (s + 1))), some (.int (nI k))] [] (KS, j) 0 0 := by
            intro e
            refine am_go (am_sp_mo _) (fun q => q == 83) 20 (fun X hX => ?_)
            conv => whnf
            try dsimp only
            rw [e1]
            exact hX _ _ _ _ _ _ (ih (k + 1) j (by omega) h1 h2 (fs_keep h3 (by omega) (by omega) ha hb ea eb (fun e' => by rw [e] at e'; cases e')) (rs_keep h4 (by unfold mF; rw [e]; rfl)))
          have fin : mE i k = true → ∀ J : Nat → Nat → Int32, (∀ q, q ≠ 109 → q ≠ 110 → q ≠ 111 → J q = i q) → (∀ p, p < 6 → J 111 p = i 93 p) → FI (mR i np) (mE i) (i 94) (i 96) nn (J 109) s (k + 1) → RI (mR i np) (mF i) (i 94) (i 96) nn (J 110) (s + 1) k → am_wp (ax_E xl xs) (ax_cd Y_Model_findWays) (am_sp (ax_E xl xs) ax_cd ax_ml d) Q 154 [some (.ref 89), some (.int (nI (s + 1))), some (.int (nI k))] [] (KS, J) 0 0 := by
            intro hE J k1 k2 k3 k4
            have J94 := k1 94 (by decide) (by decide) (by decide)
            have J96 := k1 96 (by decide) (by decide) (by decide)
            have st : ∀ v : Int32, ((vp_nar .boolean v = 1 ∧ (J 110 b = 1 ∨ (mF i k = true ∧ J 110 a = 1))) ∨ (vp_nar .boolean v = 0 ∧ J 110 b = 0 ∧ (mF i k = true → J 110 a = 0))) → am_wp (ax_E xl xs) (ax_cd Y_Model_findWays) (am_sp (ax_E xl xs) ax_cd ax_ml d) Q 206 [some (.ref 89), some (.int (nI (s + 1))), some (.int (nI k))] [.int v, .int (nI b), .ref 110] (KS, J) 0 0 := by
              intro v hv'
              refine am_go (am_sp_mo _) (fun q => q == 83) 20 (fun X hX => ?_)
              conv => whnf
              try dsimp only
              refine ⟨6, [], rfl, hib, ?_⟩
              conv => whnf
              try dsimp only
              rw [e1, hcbb]
              refine hX _ _ _ _ _ _ (ih (k + 1) _ (by omega) (fun q q1 q2 q3 => (up_a q2).trans (k1 q q1 q2 q3)) (fun p hp => by rw [up_n (Or.inl (by decide))]; exact k2 p hp) ?_ (rs_step k4 (by omega) ha hb ea eb hv' (fun p => ?_)))
              · rw [up_a (by decide)]; exact k3
              · rw [up_at]
                by_cases q : p = b
                · rw [if_pos ⟨rfl, q⟩, if_pos q]
                · rw [if_neg q, if_neg (fun z => q z.2)]
            refine am_go (am_sp_mo _) (fun q => q == 206) 60 (fun X hX => ?_)
            conv => whnf
            try dsimp only
            refine ⟨16, [], rfl, hin, ?_⟩
            conv => whnf
            try dsimp only
            refine ⟨16, [], rfl, hin, ?_⟩
            conv => whnf
            try dsimp only
            rw [hcl, J96, eb]
            refine ⟨6, [], rfl, hib, ?_⟩
            conv => whnf
            try dsimp only
            rw [hcbb]
            refine ⟨fun hb1 => ?_, fun hb0 => ?_⟩
            · conv => whnf
              try dsimp only
              exact hX _ _ _ _ _ _ (st _ (Or.inl ⟨by decide, Or.inl ((k4.1 b).resolve_left hb1)⟩))
            conv => whnf
            try dsimp only
            rw [hcl]
            refine ⟨16, [], rfl, hin, ?_⟩
            conv => whnf
            try dsimp only
            rw [k1 99 (by decide) (by decide) (by decide)]
            rcases hcb k with ec | ec
            · rw [ec]
              refine ⟨fun _ => ?_, fun h => absurd rfl h⟩
              conv => whnf
              try dsimp only
              exact hX _ _ _ _ _ _ (st _ (Or.inr ⟨by decide, hb0, fun e => by unfold mF at e; rw [ec] at e; exact absurd e (by rw [Bool.and_eq_true]; exact fun z => absurd z.2 (by decide))⟩))
            rw [ec]
            refine ⟨fun h => absurd h (by decide), fun _ => ?_⟩
            conv => whnf
            try dsimp only
            rw [hcl]
            refine ⟨16, [], rfl, hin, ?_⟩
            conv => whnf
            try dsimp only
            rw [J94, ea]
            refine ⟨6, [], rfl, hia, ?_⟩
            conv => whnf
            try dsimp only
            rw [hca]
            rcases k4.1 a with er | er
            · rw [er]
              refine ⟨fun _ => ?_, fun h => absurd rfl h⟩
              conv => whnf
              try dsimp only
              exact hX _ _ _ _ _ _ (st _ (Or.inr ⟨by decide, hb0, fun _ => er⟩))
            · rw [er]
              refine ⟨fun h => absurd h (by decide), fun _ => ?_⟩
              conv => whnf
              try dsimp only
              exact hX _ _ _ _ _ _ (st _ (Or.inl ⟨by decide, Or.inr ⟨by unfold mF; rw [hE, ec]; rfl, er⟩⟩))
          refine am_go (am_sp_mo _) (fun q => q == 83 || q == 154 || q == 207) 60 (fun X hX => ?_)
          conv => whnf
          try dsimp only
          rw [h1 89 (by decide) (by decide) (by decide), hN.1]
          refine ⟨fun hh => absurd hh (nI_ge (by omega) (by omega)), fun _ => ?_⟩
          conv => whnf
          try dsimp only
          refine m_active hNj hWj (by omega) (by omega) (fun b1 hb1 => ?_)
          rw [eact] at hb1
          cases b1 with
          | false =>
            conv => whnf
            try dsimp only
            exact ⟨fun _ => hX _ _ _ _ _ _ (skip (by unfold mE; rw [← hb1]; rfl)), fun h => absurd rfl h⟩
          | true =>
            conv => whnf
            try dsimp only
            refine ⟨fun h => absurd h (by decide), fun _ => ?_⟩
            conv => whnf
            try dsimp only
            refine m_holds hNj hWj (by omega) (by omega) (fun b2 hb2 => ?_)
            rw [ehld] at hb2
            cases b2 with
            | false =>
              conv => whnf
              try dsimp only
              refine ⟨fun h => absurd rfl h, fun _ => ?_⟩
              conv => whnf
              try dsimp only
              exact hX _ _ _ _ _ _ (skip (by unfold mE; rw [← hb1, ← hb2]; rfl))
            | true =>
              have hE : mE i k = true := by unfold mE; rw [← hb1, ← hb2]; rfl
              have keep : (j 109 a = nI s → j 109 b = -1 → False) → am_wp (ax_E xl xs) (ax_cd Y_Model_findWays) (am_sp (ax_E xl xs) ax_cd ax_ml d) Q 154 [some (.ref 89), some (.int (nI (s + 1))), some (.int (nI k))] [] (KS, j) 0 0 := fun hno => fin hE j h1 h2 (fs_keep h3 (by omega) (by omega) ha hb ea eb (fun _ => hno)) h4
              conv => whnf
              try dsimp only
              refine ⟨fun _ => ?_, fun h => absurd h (by decide)⟩
              conv => whnf
              try dsimp only
              refine ⟨16, [], rfl, hin, ?_⟩
              conv => whnf
              try dsimp only
              rw [hcl, j94, ea]
              refine ⟨6, [], rfl, hia, ?_⟩
              conv => whnf
              try dsimp only
              rw [hca, show nI (s + 1) - Int32.ofInt 1 = nI s by rw [li_1]; exact nI_pred1 s]
              refine ⟨fun hne => hX _ _ _ _ _ _ (keep (fun z _ => hne z)), fun heq => ?_⟩
              conv => whnf
              try dsimp only
              rw [hcl]
              refine ⟨16, [], rfl, hin, ?_⟩
              conv => whnf
              try dsimp only
              rw [j96, eb]
              refine ⟨6, [], rfl, hib, ?_⟩
              conv => whnf
              try dsimp only
              rw [hcbb]
              refine ⟨fun hne => hX _ _ _ _ _ _ (keep (fun _ z => hne z)), fun heq2 => ?_⟩
              conv => whnf
              try dsimp only
              refine ⟨16, [], rfl, hin, ?_⟩
              conv => whnf
              try dsimp only
              rw [hcl, j96, eb]
              refine ⟨6, [], rfl, hib, ?_⟩
              conv => whnf
              try dsimp only
              rw [hcbb]
              refine hX _ _ _ _ _ _ (fin hE _ (fun q q1 q2 q3 => (up_a q1).trans (h1 q q1 q2 q3)) (fun p hp => by rw [up_n (Or.inl (by decide))]; exact h2 p hp) (fs_set h3 (by omega) (by omega) hE ha hb ea eb heq heq2 (fun p => ?_)) ?_)
              · rw [up_at]
                by_cases q : p = b
                · rw [if_pos ⟨rfl, q⟩, if_pos q]
                · rw [if_neg q, if_neg (fun z => q z.2)]
              · rw [up_a (by decide)]; exact h4
      intro m k j hk hs6 hsk h1 h2 h3 h4
      refine ⟨fun _ => in1 m k j hk h1 h2 h3 h4, fun hk0 o => ?_⟩
      subst hk0
      refine am_go (am_sp_mo _) (fun q => q == 75 || q == 83) 20 (fun X hX => ?_)
      conv => whnf
      try dsimp only
      refine ⟨fun hh => absurd hh (by rw [li_6]; exact nI_nlt (by omega) (by omega)), fun _ => ?_⟩
      conv => whnf
      try dsimp only
      exact hX _ _ _ _ _ _ (in1 m 0 j hk h1 h2 h3 h4)
  have init : ∀ m p o (j : Nat → Nat → Int32), p + m = 6 → (∀ q, q ≠ 109 → q ≠ 110 → q ≠ 111 → j q = i q) → (∀ p, p < 6 → j 111 p = i 93 p) → (∀ q, q < p → j 109 q = if mR i np q = true then nI 0 else -1) → (∀ q, q < p → j 110 q = if mR i np q = true then 1 else 0) → (∀ q, j 110 q = 0 ∨ j 110 q = 1) → am_wp (ax_E xl xs) (ax_cd Y_Model_findWays) (am_sp (ax_E xl xs) ax_cd ax_ml d) Q 6 [some (.ref 89), some (.int (nI p)), o] [] (KS, j) 0 0 := by
    intro m
    induction m with
    | zero =>
      intro p o j hpp h1 h2 h3 h4 h5
      have : p = 6 := by omega
      subst this
      refine am_go (am_sp_mo _) (fun q => q == 6 || q == 75) 20 (fun X hX => ?_)
      conv => whnf
      try dsimp only
      refine ⟨fun _ => ?_, fun hh => absurd (by decide) hh⟩
      conv => whnf
      try dsimp only
      refine hX _ _ _ _ _ _ ((inner 6 0 (by omega) nn 0 j (by omega) (by omega) (fun _ => rfl) h1 h2 (fun p hp => ?_) ⟨h5, fun p hp e => ?_, fun l p hl hp hD => ?_, fun k' _ _ _ hk' => absurd hk' (by omega)⟩).2 rfl _)
      · rw [h3 p hp]
        cases e : mR i np p with
        | false =>
          refine Or.inl ⟨if_neg (by decide), fun l hl => ?_, fun k' _ hk' => absurd hk' (by omega)⟩
          have : l = 0 := by omega
          subst this
          exact e
        | true => exact Or.inr ⟨0, by omega, by omega, if_pos rfl, e, fun m hm => absurd hm (by omega)⟩
      · rw [h4 p hp] at e
        cases e' : mR i np p with
        | false => rw [e', if_neg (by decide)] at e; exact absurd e (by decide)
        | true => exact ⟨0, e'⟩
      · have : l = 0 := by omega
        subst this
        have hD : mR i np p = true := hD
        rw [h4 p hp, if_pos hD]
    | succ m ih =>
      intro p o j hpp h1 h2 h3 h4 h5
      have e1 : nI p + Int32.ofInt 1 = nI (p + 1) := by rw [li_1, nI_add]
      have hcl : (nI p).toNatClampNeg = p := nI_clamp (by omega)
      have hin : vp_in (nI p) 6 := vp_in_nI (by omega) (by decide)
      have put : ∀ b : Bool, mR i np p = b → am_wp (ax_E xl xs) (ax_cd Y_Model_findWays) (am_sp (ax_E xl xs) ax_cd ax_ml d) Q 44 [some (.ref 89), some (.int (nI p)), o] [.int (if b = true then Int32.ofInt 1 else Int32.ofInt 0)] (KS, j) 0 0 := by
        intro b hb
        have nx : ∀ (x y : Int32), x = (if mR i np p = true then nI 0 else -1) → vp_nar .boolean y = (if mR i np p = true then 1 else 0) → ∀ o', am_wp (ax_E xl xs) (ax_cd Y_Model_findWays) (am_sp (ax_E xl xs) ax_cd ax_ml d) Q 6 [some (.ref 89), some (.int (nI (p + 1))), o'] [] (KS, am_up (am_up j 109 p x) 110 p (vp_nar .boolean y)) 0 0 := by
          intro x y hx hy o'
          refine ih (p + 1) o' _ (by omega) (fun q q1 q2 q3 => by rw [up_a q2, up_a q1]; exact h1 q q1 q2 q3) (fun q hq => by rw [up_n (Or.inl (by decide)), up_n (Or.inl (by decide))]; exact h2 q hq) (fun q hq => ?_) (fun q hq => ?_) (fun q => ?_)
          · rw [up_n (Or.inl (by decide)), up_at]
            by_cases e : q = p
            · rw [if_pos ⟨rfl, e⟩, hx, e]
            · rw [if_neg (fun z => e z.2)]; exact h3 q (by omega)
          · rw [up_at]
            by_cases e : q = p
            · rw [if_pos ⟨rfl, e⟩, hy, e]
            · rw [if_neg (fun z => e z.2), up_n (Or.inl (by decide))]; exact h4 q (by omega)
          · rw [up_at]
            by_cases e : q = p
            · rw [if_pos ⟨rfl, e⟩, hy]
              cases mR i np p
              · exact Or.inl rfl
              · exact Or.inr rfl
            · rw [if_neg (fun z => e z.2), up_n (Or.inl (by decide))]; exact h5 q
        cases b with
        | false =>
          refine am_go (am_sp_mo _) (fun q => q == 6) 40 (fun X hX => ?_)
          conv => whnf
          try dsimp only
          refine ⟨fun _ => ?_, fun h => absurd rfl h⟩
          conv => whnf
          try dsimp only
          refine ⟨6, [], rfl, hin, ?_⟩
          conv => whnf
          try dsimp only
          refine ⟨6, [], rfl, hin, ?_⟩
          conv => whnf
          try dsimp only
          rw [hcl, e1]
          exact hX _ _ _ _ _ _ (nx _ _ (by rw [hb]; decide) (by rw [hb]; decide) _)
        | true =>
          refine am_go (am_sp_mo _) (fun q => q == 6) 40 (fun X hX => ?_)
          conv => whnf
          try dsimp only
          refine ⟨fun h => absurd h (by decide), fun _ => ?_⟩
          conv => whnf
          try dsimp only
          refine ⟨6, [], rfl, hin, ?_⟩
          conv => whnf
          try dsimp only
          refine ⟨6, [], rfl, hin, ?_⟩
          conv => whnf
          try dsimp only
          rw [hcl, e1]
          exact hX _ _ _ _ _ _ (nx _ _ (by rw [hb]; decide) (by rw [hb]; decide) _)
      refine am_go (am_sp_mo _) (fun q => q == 6 || q == 44) 40 (fun X hX => ?_)
      conv => whnf
      try dsimp only
      refine ⟨fun hh => absurd hh (by rw [li_6]; exact nI_ge (by omega) (by decide)), fun _ => ?_⟩
      conv => whnf
      try dsimp only
      rw [h1 89 (by decide) (by decide) (by decide), hp]
      refine ⟨fun hle => ?_, fun hle => ?_⟩
      · conv => whnf
        try dsimp only
        exact hX _ _ _ _ _ _ (put false (by unfold mR; rw [decide_eq_false (fun hlt => absurd hle (nI_ge hlt (by omega)))]; rfl))
      have hlt : p < np := by
        rcases Nat.lt_or_ge p np with q | q
        · exact q
        · exact absurd (nI_le q (by omega)) hle
      conv => whnf
      try dsimp only
      refine ⟨6, [], rfl, hin, ?_⟩
      conv => whnf
      try dsimp only
      rw [hcl, h2 p (by omega)]
      refine ⟨fun hm => ?_, fun hm => ?_⟩
      · conv => whnf
        try dsimp only
        exact hX _ _ _ _ _ _ (put false (by unfold mR; rw [show decide (i 93 p = -1) = true from decide_eq_true hm]; simp))
      conv => whnf
      try dsimp only
      refine ⟨6, [], rfl, hin, ?_⟩
      conv => whnf
      try dsimp only
      rw [hcl, h1 90 (by decide) (by decide) (by decide)]
      rcases hr p with e | e
      · rw [e]
        refine ⟨fun _ => ?_, fun h => absurd rfl h⟩
        conv => whnf
        try dsimp only
        exact hX _ _ _ _ _ _ (put false (by unfold mR; rw [e]; simp))
      · rw [e]
        refine ⟨fun h => absurd h (by decide), fun _ => ?_⟩
        conv => whnf
        try dsimp only
        exact hX _ _ _ _ _ _ (put true (by unfold mR; rw [e, decide_eq_true hlt, show decide (i 93 p = -1) = false from decide_eq_false hm]; rfl))
  refine ⟨Nat.le_of_ble_eq_true rfl, ?_⟩
  refine am_go (am_sp_mo _) (fun q => q == 6) 20 (fun X hX => ?_)
  conv => whnf
  try dsimp only
  refine m_look (by omega) (fun j g1 g2 => ?_)
  conv => whnf
  try dsimp only
  exact hX _ _ _ _ _ _ (init 6 0 none j (by omega) (fun q _ _ q3 => g1 q q3) g2 (fun q hq => absurd hq (by omega)) (fun q hq => absurd hq (by omega)) (by rw [g1 110 (by decide)]; exact hrb))
end MWAYS
