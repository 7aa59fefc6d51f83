/-! PLANS of the reference: small methods -/
abbrev mins (I : Nat → Nat → Int32) (np : Nat) : Nat → Bool := pins (I 93) np
abbrev mver (I : Nat → Nat → Int32) (p k : Nat) : Int32 := I 92 (5 * p + k)
abbrev mcl (I : Nat → Nat → Int32) (p k : Nat) : Bool := decide (I 112 (5 * p + k) = 0)
abbrev mB (I : Nat → Nat → Int32) (w : Nat → Int32) : Nat → Bool := nbrk (I 94) (I 95) (I 96) (I 97) (I 98) w
def mc (I : Nat → Nat → Int32) (np : Nat) (nv : Nat → Nat) (p : Nat) : Nat := if mins I np p = true then nv p else 1
abbrev mVd (I : Nat → Nat → Int32) (np nn : Nat) : (Nat → Nat) → Bool := vld (mins I np) (mver I) (mcl I) (mB I) nn
abbrev mfo (I : Nat → Nat → Int32) (np nn : Nat) (nv z : Nat → Nat) : Nat → Nat → (Nat → Nat) → PSt → PSt := pfo (mVd I np nn) (pK (mins I np) z) (mc I np nv)
def mbad (i : Nat → Nat → Int32) (sp : Nat → Nat) (ch : Nat → Nat → Nat) (na p : Nat) (v : Int32) : Nat → Bool := bany (fun g => !(mX i p g) && !(decide (mx (mgst i sp (nI g) (nI p) v) (fun a => msc (ch a)) na = -1)))
/-- the places looked at: those of f -/
def NWF (I : Nat → Nat → Int32) (np : Nat) (f : Nat → Nat) (j : Nat → Nat → Int32) : Prop := ∀ q, q < 6 → j 111 q = pvv (mins I np) q (f q)
def mst (ins : Nat → Bool) (z : Nat → Nat) (p k : Nat) : Nat := if ins p = true then (if k = z p then 0 else 100 + ndist k (z p)) else 0
def mpre (ins : Nat → Bool) (z : Nat → Nat) (f : Nat → Nat) : Nat → Nat
  | 0 => 0
  | p + 1 => mpre ins z f p + mst ins z p (f p)
theorem mk_pre {ins : Nat → Bool} {z f : Nat → Nat} : ∀ {p : Nat}, (∀ q, q < p → z q < 5 ∧ f q < 5) → ∃ c m, m ≤ 4 * p ∧ c ≤ p ∧ kpre ins z f p = 30 * c + m ∧ mpre ins z f p = 100 * c + m
  | 0, _ => ⟨0, 0, by omega, by omega, rfl, rfl⟩
  | p + 1, h => by
    obtain ⟨c, m, h1, h2, h3, h4⟩ := mk_pre (ins := ins) (z := z) (f := f) (p := p) (fun q hq => h q (by omega))
    have hp := h p (by omega)
    unfold kpre mpre kst mst ndist
    by_cases e : ins p = true
    · rw [if_pos e, if_pos e]
      by_cases e2 : f p = z p
      · rw [if_pos e2, if_pos e2]
        exact ⟨c, m, by omega, by omega, by omega, by omega⟩
      · rw [if_neg e2, if_neg e2]
        exact ⟨c + 1, m + (f p - z p + (z p - f p)), by omega, by omega, by omega, by omega⟩
    · rw [if_neg e, if_neg e]
      exact ⟨c, m, by omega, by omega, by omega, by omega⟩
def cvk (x : Nat) : Nat := 100 * (x / 30) + x % 30
theorem cvk_lt {x y : Nat} : cvk x < cvk y ↔ x < y := by
  unfold cvk
  omega
theorem cvk_100 (x : Nat) : cvk x / 100 = x / 30 := by
  unfold cvk
  omega
theorem mpre_cvk {ins : Nat → Bool} {z f : Nat → Nat} (h : ∀ q, q < 6 → z q < 5 ∧ f q < 5) : mpre ins z f 6 = cvk (pK ins z f) := by
  obtain ⟨c, m, h1, h2, h3, h4⟩ := mk_pre (ins := ins) h
  unfold pK cvk
  omega
theorem pK_bd {ins : Nat → Bool} {z f : Nat → Nat} (h : ∀ q, q < 6 → z q < 5 ∧ f q < 5) : pK ins z f ≤ 204 := kpre_bd h
theorem mpre_np {I : Nat → Nat → Int32} {np : Nat} {z f : Nat → Nat} : ∀ n, mpre (mins I np) z f (np + n) = mpre (mins I np) z f np
  | 0 => rfl
  | n + 1 => by
    show mpre (mins I np) z f (np + n) + mst (mins I np) z (np + n) (f (np + n)) = _
    rw [mpre_np n, mst, if_neg]
    · rfl
    · intro e
      have := (pins_of e).1
      omega
theorem m_moved : ∀ a, a < 5 → ∀ b, b < 5 → (nI b ≤ nI a → nI a - nI b = nI (a - b)) := by decide
theorem nI_dn : ∀ m, m < 7 → nI m + Int32.ofInt (-1) = nI m - nI 1 := by decide
section MPLAN
variable {xl : Nat} {xs : Nat → Int32} {d : Nat} {i : Nat → Nat → Int32} {Q : am_Q} {np nn na : Nat} {nv sp z f : Nat → Nat} {ch : Nat → Nat → Nat}
theorem m_findBad (hk : MPK i np nv) (hA : MAK i na sp) (hw : ∀ a, i 105 a = 0 ∨ i 105 a = 1) (hch : ∀ a, a < 12 → ∀ k, k < 7 → i 104 (7 * a + k) = nI (ch a k) ∧ ch a k < 4) (hb : ∀ q, i 112 q = 0 ∨ i 112 q = 1) (hd : 4 ≤ d)
    (h : ∀ j : Nat → Nat → Int32, (∀ q, q ≠ 112 → j q = i q) → (∀ q, j 112 q = 0 ∨ j 112 q = 1) → (∀ p k, p < np → k < nv p → j 112 (5 * p + k) = if mbad i sp ch na p (i 92 (5 * p + k)) na = true then 1 else 0) → Q none (KS, j)) : SP xl xs d Y_Model_findBad [.ref 89] (KS, i) Q := by
  have hn := hk.2.1
  have hna := hA.2.1
  obtain ⟨d, rfl⟩ : ∃ q, d = q + 1 := ⟨d - 1, by omega⟩
  refine ⟨Nat.le_of_ble_eq_true rfl, am_go (am_sp_mo _) (fun q => q == 2) 20 (fun X hX => ?_)⟩
  conv => whnf
  try dsimp only
  refine hX _ _ _ _ _ _ ?_
  have loop : ∀ m p o2 o3 o4 (j : Nat → Nat → Int32), p + m = np → (∀ q, q ≠ 112 → j q = i q) → (∀ q, j 112 q = 0 ∨ j 112 q = 1) → (∀ p' k, p' < p → k < nv p' → j 112 (5 * p' + k) = if mbad i sp ch na p' (i 92 (5 * p' + k)) na = true then 1 else 0) → am_wp (ax_E xl xs) (ax_cd Y_Model_findBad) (am_sp (ax_E xl xs) ax_cd ax_ml d) Q 2 [some (.ref 89), some (.int (nI p)), o2, o3, o4] [] (KS, j) 0 0 := by
    intro m
    induction m with
    | zero =>
      intro p o2 o3 o4 j hp g1 g2 g3
      have : p = np := by omega
      subst this
      refine am_go (am_sp_mo _) (fun q => q == 2) 20 (fun X hX => ?_)
      conv => whnf
      try dsimp only
      rw [g1 89 (by decide), hk.1]
      refine ⟨fun _ => ?_, fun hh => absurd (nI_le (Nat.le_refl _) (by omega)) hh⟩
      conv => whnf
      try dsimp only
      exact h j g1 g2 g3
    | succ m ih =>
      intro p o2 o3 o4 j hp g1 g2 g3
      have hcl : (nI p).toNatClampNeg = p := nI_clamp (by omega)
      have hin : vp_in (nI p) 6 := vp_in_nI (by omega) (by decide)
      have hpv := hk.2.2 p (by omega)
      refine am_go (am_sp_mo _) (fun q => q == 2 || q == 12) 20 (fun X hX => ?_)
      conv => whnf
      try dsimp only
      rw [g1 89 (by decide), hk.1]
      refine ⟨fun hh => absurd hh (nI_ge (by omega) (by omega)), fun _ => ?_⟩
      conv => whnf
      try dsimp only
      refine hX _ _ _ _ _ _ ?_
      have mid : ∀ n k o3 o4 (j : Nat → Nat → Int32), k + n = nv p → (∀ q, q ≠ 112 → j q = i q) → (∀ q, j 112 q = 0 ∨ j 112 q = 1) → (∀ p' k, p' < p → k < nv p' → j 112 (5 * p' + k) = if mbad i sp ch na p' (i 92 (5 * p' + k)) na = true then 1 else 0) → (∀ k', k' < k → j 112 (5 * p + k') = if mbad i sp ch na p (i 92 (5 * p + k')) na = true then 1 else 0) → am_wp (ax_E xl xs) (ax_cd Y_Model_findBad) (am_sp (ax_E xl xs) ax_cd ax_ml d) Q 12 [some (.ref 89), some (.int (nI p)), some (.int (nI k)), o3, o4] [] (KS, j) 0 0 := by
        intro n
        induction n with
        | zero =>
          intro k o3 o4 j hkn g1 g2 g3 g4
          have : k = nv p := by omega
          subst this
          refine am_go (am_sp_mo _) (fun q => q == 2 || q == 12) 20 (fun X hX => ?_)
          conv => whnf
          try dsimp only
          refine ⟨6, [], rfl, hin, ?_⟩
          conv => whnf
          try dsimp only
          rw [hcl, g1 91 (by decide), hpv.1]
          refine ⟨fun _ => ?_, fun hh => absurd (nI_le (Nat.le_refl _) (by omega)) hh⟩
          conv => whnf
          try dsimp only
          rw [show nI p + Int32.ofInt 1 = nI (p + 1) by rw [li_1, nI_add]]
          refine hX _ _ _ _ _ _ (ih (p + 1) _ _ _ j (by omega) g1 g2 (fun p' k hp' hk' => ?_))
          by_cases e : p' = p
          · subst e; exact g4 k hk'
          · exact g3 p' k (by omega) hk'
        | succ n ihn =>
          intro k o3 o4 j hkn g1 g2 g3 g4
          have e5 : Int32.ofInt 5 * nI p + nI k = nI (5 * p + k) := by rw [li_5, pk_mul, nI_add]
          have hc5 : (nI (5 * p + k)).toNatClampNeg = 5 * p + k := nI_clamp (by omega)
          have hi5 : vp_in (nI (5 * p + k)) 30 := vp_in_nI (by omega) (by decide)
          have hAj : MAK j na sp := by
            unfold MAK
            rw [g1 89 (by decide), g1 101 (by decide)]
            exact hA
          have bm : ∀ g, mX j p g = mX i p g := fun g => by unfold mX; rw [g1 89 (by decide), g1 107 (by decide)]
          have gm : ∀ g v, mgst j sp g (nI p) v = mgst i sp g (nI p) v := fun g v => by
            funext a
            unfold mgst mstk stk mhas
            rw [g1 106 (by decide), g1 100 (by decide), g1 105 (by decide), g1 102 (by decide), g1 103 (by decide)]
          refine am_go (am_sp_mo _) (fun q => q == 12 || q == 27) 20 (fun X hX => ?_)
          conv => whnf
          try dsimp only
          refine ⟨6, [], rfl, hin, ?_⟩
          conv => whnf
          try dsimp only
          rw [hcl, g1 91 (by decide), hpv.1]
          refine ⟨fun hh => absurd hh (nI_ge (by omega) (by omega)), fun _ => ?_⟩
          conv => whnf
          try dsimp only
          refine hX _ _ _ _ _ _ ?_
          have inr : ∀ r g, g + r = na → am_wp (ax_E xl xs) (ax_cd Y_Model_findBad) (am_sp (ax_E xl xs) ax_cd ax_ml d) Q 27 [some (.ref 89), some (.int (nI p)), some (.int (nI k)), some (.int (if mbad i sp ch na p (i 92 (5 * p + k)) g = true then Int32.ofInt 1 else Int32.ofInt 0)), some (.int (nI g))] [] (KS, j) 0 0 := by
            intro r
            induction r with
            | zero =>
              intro g hg
              have : g = na := by omega
              subst this
              refine am_go (am_sp_mo _) (fun q => q == 12 || q == 27) 30 (fun X hX => ?_)
              conv => whnf
              try dsimp only
              rw [g1 89 (by decide), hA.1]
              refine ⟨fun _ => ?_, fun hh => absurd (nI_le (Nat.le_refl _) (by omega)) hh⟩
              conv => whnf
              try dsimp only
              rw [e5]
              refine ⟨30, [], rfl, hi5, ?_⟩
              conv => whnf
              try dsimp only
              rw [hc5, show nI k + Int32.ofInt 1 = nI (k + 1) by rw [li_1, nI_add]]
              have hval : vp_nar .boolean (if mbad i sp ch g p (i 92 (5 * p + k)) g = true then Int32.ofInt 1 else Int32.ofInt 0) = (if mbad i sp ch g p (i 92 (5 * p + k)) g = true then 1 else 0) := by
                cases mbad i sp ch g p (i 92 (5 * p + k)) g <;> decide
              rw [hval]
              refine hX _ _ _ _ _ _ (ihn (k + 1) _ _ _ (by omega) (fun q hq => (up_a hq).trans (g1 q hq)) (fun q => ?_) (fun p' k' hp' hk' => ?_) (fun k' hk' => ?_))
              · rw [up_at]
                by_cases e : q = 5 * p + k
                · rw [if_pos ⟨rfl, e⟩]
                  cases mbad i sp ch g p (i 92 (5 * p + k)) g
                  · exact Or.inl rfl
                  · exact Or.inr rfl
                · rw [if_neg (fun z => e z.2)]; exact g2 q
              · have := (hk.2.2 p' (by omega)).2
                rw [up_n (Or.inr (by omega))]
                exact g3 p' k' hp' hk'
              · by_cases e : k' = k
                · subst e; rw [up_s]
                · rw [up_n (Or.inr (by omega))]; exact g4 k' (by omega)
            | succ r ihr =>
              intro g hg
              have ihr := ihr (g + 1) (by omega)
              have e1 : nI g + Int32.ofInt 1 = nI (g + 1) := by rw [li_1, nI_add]
              have hbs : mbad i sp ch na p (i 92 (5 * p + k)) (g + 1) = (mbad i sp ch na p (i 92 (5 * p + k)) g || (!(mX i p g) && !(decide (mx (mgst i sp (nI g) (nI p) (i 92 (5 * p + k))) (fun a => msc (ch a)) na = -1)))) := rfl
              rw [hbs] at ihr
              generalize mbad i sp ch na p (i 92 (5 * p + k)) g = B at ihr ⊢
              refine am_go (am_sp_mo _) (fun q => q == 27) 60 (fun X hX => ?_)
              conv => whnf
              try dsimp only
              rw [g1 89 (by decide), hA.1]
              refine ⟨fun hh => absurd hh (nI_ge (by omega) (by omega)), fun _ => ?_⟩
              conv => whnf
              try dsimp only
              cases B with
              | true =>
                refine ⟨fun _ => ?_, fun h => absurd h (by decide)⟩
                conv => whnf
                try dsimp only
                rw [e1]
                exact hX _ _ _ _ _ _ ihr
              | false =>
                refine ⟨fun h => absurd rfl h, fun _ => ?_⟩
                conv => whnf
                try dsimp only
                refine m_isExcepted (by omega) (by omega) (by omega) (fun b hb' => ?_)
                have hb2 : b = mX i p g := by rw [← bm]; exact hb'
                rw [← hb2] at ihr
                cases b with
                | true =>
                  conv => whnf
                  try dsimp only
                  refine ⟨fun _ => ?_, fun h => absurd h (by decide)⟩
                  conv => whnf
                  try dsimp only
                  rw [e1]
                  exact hX _ _ _ _ _ _ ihr
                | false =>
                  conv => whnf
                  try dsimp only
                  refine ⟨fun h => absurd rfl h, fun _ => ?_⟩
                  conv => whnf
                  try dsimp only
                  rw [e5]
                  refine ⟨30, [], rfl, hi5, ?_⟩
                  conv => whnf
                  try dsimp only
                  rw [hc5, g1 92 (by decide)]
                  refine m_scoreThere (ch := ch) hAj (by rw [g1 105 (by decide)]; exact hw) (by rw [g1 104 (by decide)]; exact hch) (by omega) ?_
                  rw [gm]
                  conv => whnf
                  try dsimp only
                  refine ⟨fun hs => ?_, fun hs => ?_⟩
                  · conv => whnf
                    try dsimp only
                    rw [e1]
                    rw [show decide (mx (mgst i sp (nI g) (nI p) (i 92 (5 * p + k))) (fun a => msc (ch a)) na = -1) = true from decide_eq_true hs] at ihr
                    exact hX _ _ _ _ _ _ ihr
                  · conv => whnf
                    try dsimp only
                    rw [e1]
                    rw [show decide (mx (mgst i sp (nI g) (nI p) (i 92 (5 * p + k))) (fun a => msc (ch a)) na = -1) = false from decide_eq_false hs] at ihr
                    exact hX _ _ _ _ _ _ ihr
          exact inr na 0 (by omega)
      exact mid (nv p) 0 _ _ j (by omega) g1 g2 g3 (fun k' hk' => absurd hk' (by omega))
  exact loop np 0 none none none i (by omega) (fun _ _ => rfl) hb (fun p' _ hp' => absurd hp' (by omega))
theorem m_mayBe (hp : i 89 1 = nI np) (hn : np ≤ 6) (hN : MNK i nn) (hv : ∀ q, q < 30 → ¬ i 92 q = -1) (hb : ∀ q, i 112 q = 0 ∨ i 112 q = 1) (hf : ∀ q, q < 6 → f q < 5) (hw : NWF i np f i) (hd : 3 ≤ d) (h : ∀ b : Bool, b = mVd i np nn f → Q (some (.int (if b = true then 1 else 0))) (KS, i)) : SP xl xs d Y_Model_mayBe [.ref 89] (KS, i) Q := by
  have hNW : NWK i := ⟨fun p hp => by
    rw [hw p hp]
    unfold pvv
    split
    · exact Or.inr ⟨f p, hf p hp, rfl⟩
    · exact Or.inl rfl, hv⟩
  have hwv : ∀ p, p < 6 → wv (i 92) (i 111) p = vers (mins i np) (mver i) f p := fun p hp => by
    unfold wv vers
    rw [hw p hp]
    unfold pvv
    by_cases e : mins i np p = true
    · rw [if_pos e, if_pos e, if_neg (nI_m1 (by have := hf p hp; omega)), nI_clamp (by have := hf p hp; omega)]
    · rw [if_neg e, if_neg e, if_pos rfl]
  have hbr : bany (mbrk i) nn = bany (mB i (vers (mins i np) (mver i) f)) nn := bany_congr fun k hk => by
    obtain ⟨a, b, ha, hb, ea, eb⟩ := hN.2.2 k hk
    exact nbrk_at ha hb ea eb (hwv a ha) (hwv b hb)
  obtain ⟨d, rfl⟩ : ∃ q, d = q + 1 := ⟨d - 1, by omega⟩
  refine ⟨Nat.le_of_ble_eq_true rfl, am_go (am_sp_mo _) (fun q => q == 2) 30 (fun X hX => ?_)⟩
  conv => whnf
  try dsimp only
  refine hX _ _ _ _ _ _ ?_
  have loop : ∀ m p, p + m = np → bany (fun p => mins i np p && !(mcl i p (f p))) p = false → am_wp (ax_E xl xs) (ax_cd Y_Model_mayBe) (am_sp (ax_E xl xs) ax_cd ax_ml d) Q 2 [some (.ref 89), some (.int (nI p))] [] (KS, i) 0 0 := by
    intro m
    induction m with
    | zero =>
      intro p hpp hno
      have : p = np := by omega
      subst this
      have h6 : bany (fun q => mins i p q && !(mcl i q (f q))) 6 = false := by
        cases e : bany (fun q => mins i p q && !(mcl i q (f q))) 6 with
        | false => rfl
        | true =>
          obtain ⟨q, hq, e⟩ := bany_iff.mp e
          have e' := e
          rw [Bool.and_eq_true] at e'
          rw [bany_of (pins_of e'.1).1 e] at hno
          cases hno
      refine am_go (am_sp_mo _) (fun q => q == 2) 30 (fun X hX => ?_)
      conv => whnf
      try dsimp only
      rw [hp]
      refine ⟨fun _ => ?_, fun hh => absurd (nI_le (Nat.le_refl _) (by omega)) hh⟩
      conv => whnf
      try dsimp only
      refine m_lacking hN hNW (by omega) ?_
      conv => whnf
      try dsimp only
      have hvl : mVd i p nn f = !(bany (mbrk i) nn) := by
        show (!(bany _ 6) && !(bany _ nn)) = _
        rw [h6, hbr]
        rfl
      rcases Nat.eq_zero_or_pos (bcnt (mbrk i) nn) with e | e
      · have hnb : bany (mbrk i) nn = false := by
          cases e2 : bany (mbrk i) nn with
          | false => rfl
          | true =>
            obtain ⟨k, hk, e2⟩ := bany_iff.mp e2
            rw [bcnt_none e k hk] at e2
            cases e2
        rw [e]
        refine ⟨fun h => absurd rfl h, fun _ => ?_⟩
        conv => whnf
        try dsimp only
        exact ⟨Or.inr rfl, h true (by rw [hvl, hnb]; rfl)⟩
      · have hnb : bany (mbrk i) nn = true := by
          cases e2 : bany (mbrk i) nn with
          | true => rfl
          | false =>
            have hz : bcnt (mbrk i) nn ≤ bcnt (fun _ => false) nn := bcnt_mono fun k hk e3 => by
              rw [bany_of hk e3] at e2
              cases e2
            have hz2 : ∀ n, bcnt (fun _ => false) n = 0 := by
              intro n
              induction n with
              | zero => rfl
              | succ n ih => rw [bcnt, ih]; rfl
            rw [hz2] at hz
            omega
        have hbn := bcnt_le (mbrk i) nn
        have hnn := hN.2.1
        refine ⟨fun _ => ?_, fun e0 => absurd (nI_inj (b := 0) (by omega) (by omega) e0) (by omega)⟩
        conv => whnf
        try dsimp only
        exact ⟨Or.inl rfl, h false (by rw [hvl, hnb]; rfl)⟩
    | succ m ih =>
      intro p hpp hno
      have hcl : (nI p).toNatClampNeg = p := nI_clamp (by omega)
      have hin : vp_in (nI p) 6 := vp_in_nI (by omega) (by decide)
      have hfp := hf p (by omega)
      have nx : (mins i np p && !(mcl i p (f p))) = false → am_wp (ax_E xl xs) (ax_cd Y_Model_mayBe) (am_sp (ax_E xl xs) ax_cd ax_ml d) Q 40 [some (.ref 89), some (.int (nI p))] [] (KS, i) 0 0 := by
        intro e
        refine am_go (am_sp_mo _) (fun q => q == 2) 20 (fun X hX => ?_)
        conv => whnf
        try dsimp only
        rw [show nI p + Int32.ofInt 1 = nI (p + 1) by rw [li_1, nI_add]]
        exact hX _ _ _ _ _ _ (ih (p + 1) (by omega) (by rw [bany, hno, e]; rfl))
      refine am_go (am_sp_mo _) (fun q => q == 2 || q == 40) 40 (fun X hX => ?_)
      conv => whnf
      try dsimp only
      rw [hp]
      refine ⟨fun hh => absurd hh (nI_ge (by omega) (by omega)), fun _ => ?_⟩
      conv => whnf
      try dsimp only
      refine ⟨6, [], rfl, hin, ?_⟩
      conv => whnf
      try dsimp only
      rw [hcl, hw p (by omega)]
      cases hi : mins i np p with
      | false =>
        have e1 : pvv (mins i np) p (f p) = -1 := if_neg (by rw [hi]; decide)
        rw [e1]
        exact ⟨fun _ => hX _ _ _ _ _ _ (nx (by rw [hi]; rfl)), fun h => absurd (by decide) h⟩
      | true =>
        have e1 : pvv (mins i np) p (f p) = nI (f p) := if_pos hi
        rw [e1]
        refine ⟨fun e => absurd e (by rw [li_m1]; exact nI_m1 (by omega)), fun _ => ?_⟩
        conv => whnf
        try dsimp only
        refine ⟨6, [], rfl, hin, ?_⟩
        conv => whnf
        try dsimp only
        rw [hcl, hw p (by omega), e1, show Int32.ofInt 5 * nI p + nI (f p) = nI (5 * p + f p) by rw [li_5, pk_mul, nI_add]]
        refine ⟨30, [], rfl, vp_in_nI (by omega) (by decide), ?_⟩
        conv => whnf
        try dsimp only
        rw [nI_clamp (show 5 * p + f p < 2 ^ 31 by omega)]
        rcases hb (5 * p + f p) with e | e
        · have hc : mcl i p (f p) = true := decide_eq_true e
          rw [e]
          exact ⟨fun _ => hX _ _ _ _ _ _ (nx (by rw [hc]; simp)), fun h => absurd rfl h⟩
        · have hc : mcl i p (f p) = false := decide_eq_false (by rw [e]; decide)
          rw [e]
          refine ⟨fun h => absurd h (by decide), fun _ => ?_⟩
          conv => whnf
          try dsimp only
          refine ⟨Or.inl rfl, h false ?_⟩
          exact (vld_f1 (p := p) (by omega) hi hc).symm
  exact loop np 0 (by omega) rfl
theorem m_cost (hp : i 89 1 = nI np) (hn : np ≤ 6) (hpl : ∀ p, p < np → i 93 p = -1 ∨ i 93 p = nI (z p)) (hz : ∀ p, z p < 5) (hf : ∀ q, q < 6 → f q < 5) (hw : NWF i np f i) (hd : 1 ≤ d) (h : Q (some (.int (nI (cvk (pK (mins i np) z f))))) (KS, i)) : SP xl xs d Y_Model_cost [.ref 89] (KS, i) Q := by
  have hm6 : mpre (mins i np) z f np = cvk (pK (mins i np) z f) := by
    rw [← mpre_cvk (fun q hq => ⟨hz q, hf q hq⟩), ← mpre_np (6 - np), show np + (6 - np) = 6 by omega]
  rw [← hm6] at h
  obtain ⟨d, rfl⟩ : ∃ q, d = q + 1 := ⟨d - 1, by omega⟩
  refine ⟨Nat.le_of_ble_eq_true rfl, am_go (am_sp_mo _) (fun q => q == 4) 30 (fun X hX => ?_)⟩
  conv => whnf
  try dsimp only
  refine hX _ _ _ _ _ _ ?_
  have loop : ∀ m p o3, p + m = np → am_wp (ax_E xl xs) (ax_cd Y_Model_cost) (am_sp (ax_E xl xs) ax_cd ax_ml d) Q 4 [some (.ref 89), some (.int (nI (mpre (mins i np) z f p))), some (.int (nI p)), o3] [] (KS, i) 0 0 := by
    intro m
    induction m with
    | zero =>
      intro p o3 hpp
      have : p = np := by omega
      subst this
      refine am_go (am_sp_mo _) (fun q => q == 4) 30 (fun X hX => ?_)
      conv => whnf
      try dsimp only
      rw [hp]
      refine ⟨fun _ => ?_, fun hh => absurd (nI_le (Nat.le_refl _) (by omega)) hh⟩
      conv => whnf
      try dsimp only
      exact h
    | succ m ih =>
      intro p o3 hpp
      have hcl : (nI p).toNatClampNeg = p := nI_clamp (by omega)
      have hin : vp_in (nI p) 6 := vp_in_nI (by omega) (by decide)
      have hfp := hf p (by omega)
      have hzp := hz p
      have e1 : nI p + Int32.ofInt 1 = nI (p + 1) := by rw [li_1, nI_add]
      have add : ∀ n, mst (mins i np) z p (f p) = (if 0 < n then 100 + n else 0) → n < 5 → am_wp (ax_E xl xs) (ax_cd Y_Model_cost) (am_sp (ax_E xl xs) ax_cd ax_ml d) Q 56 [some (.ref 89), some (.int (nI (mpre (mins i np) z f p))), some (.int (nI p)), o3] [.int (nI n)] (KS, i) 0 0 := by
        intro n hnn hn5
        have hpre : mpre (mins i np) z f (p + 1) = mpre (mins i np) z f p + (if 0 < n then 100 + n else 0) := by rw [← hnn]; rfl
        refine am_go (am_sp_mo _) (fun q => q == 4) 30 (fun X hX => ?_)
        conv => whnf
        try dsimp only
        refine ⟨fun hle => ?_, fun hle => ?_⟩
        · have : n = 0 := by
            rw [Int32.le_iff_toInt_le, nI_toInt (by omega), show (0 : Int32).toInt = 0 by decide] at hle
            omega
          subst this
          have ih := ih (p + 1) (some (.int (nI 0))) (by omega)
          rw [hpre] at ih
          conv => whnf
          try dsimp only
          rw [e1, li_0, nI_add]
          exact hX _ _ _ _ _ _ ih
        · have hpos : 0 < n := by
            rcases Nat.eq_zero_or_pos n with q | q
            · rw [q] at hle; exact absurd (by decide) hle
            · exact q
          have ih := ih (p + 1) (some (.int (nI n))) (by omega)
          rw [hpre, if_pos hpos] at ih
          conv => whnf
          try dsimp only
          rw [e1, li_100, nI_add, nI_add]
          exact hX _ _ _ _ _ _ ih
      refine am_go (am_sp_mo _) (fun q => q == 4 || q == 56) 60 (fun X hX => ?_)
      conv => whnf
      try dsimp only
      rw [hp]
      refine ⟨fun hh => absurd hh (nI_ge (by omega) (by omega)), fun _ => ?_⟩
      conv => whnf
      try dsimp only
      refine ⟨6, [], rfl, hin, ?_⟩
      conv => whnf
      try dsimp only
      refine ⟨6, [], rfl, hin, ?_⟩
      conv => whnf
      try dsimp only
      rw [hcl, hw p (by omega)]
      rcases hpl p (by omega) with hm1 | hze
      · have hi : mins i np p = false := by
          show pins (i 93) np p = false
          unfold pins
          rw [decide_eq_true hm1]
          simp
        have e2 : pvv (mins i np) p (f p) = -1 := if_neg (by rw [hi]; decide)
        rw [e2, hm1]
        refine ⟨fun _ => ?_, fun h => absurd (by decide) h⟩
        conv => whnf
        try dsimp only
        refine ⟨6, [], rfl, hin, ?_⟩
        conv => whnf
        try dsimp only
        refine ⟨6, [], rfl, hin, ?_⟩
        conv => whnf
        try dsimp only
        rw [hcl, hw p (by omega), e2, hm1]
        exact hX _ _ _ _ _ _ (add 0 (by unfold mst; rw [hi]; rfl) (by decide))
      · have hi : mins i np p = true := by
          show pins (i 93) np p = true
          unfold pins
          rw [decide_eq_true (show p < np by omega), hze, decide_eq_false (nI_m1 (by omega))]
          rfl
        have e2 : pvv (mins i np) p (f p) = nI (f p) := if_pos hi
        have hms : mst (mins i np) z p (f p) = if f p = z p then 0 else 100 + ndist (f p) (z p) := by unfold mst; rw [if_pos hi]
        rw [e2, hze]
        refine ⟨fun hle => ?_, fun hgt => ?_⟩
        · have hle' : f p ≤ z p := (nI_leI (by omega) (by omega)).mp hle
          conv => whnf
          try dsimp only
          refine ⟨6, [], rfl, hin, ?_⟩
          conv => whnf
          try dsimp only
          refine ⟨6, [], rfl, hin, ?_⟩
          conv => whnf
          try dsimp only
          rw [hcl, hw p (by omega), e2, hze, m_moved (z p) hzp (f p) hfp hle]
          refine hX _ _ _ _ _ _ (add (z p - f p) ?_ (by omega))
          rw [hms]
          unfold ndist
          split <;> split <;> omega
        · have hgt' : ¬ f p ≤ z p := fun q => hgt (nI_le q (by omega))
          conv => whnf
          try dsimp only
          refine ⟨6, [], rfl, hin, ?_⟩
          conv => whnf
          try dsimp only
          refine ⟨6, [], rfl, hin, ?_⟩
          conv => whnf
          try dsimp only
          rw [hcl, hw p (by omega), e2, hze, m_moved (f p) hfp (z p) hzp (nI_le (by omega) (by omega))]
          refine hX _ _ _ _ _ _ (add (f p - z p) ?_ (by omega))
          rw [hms]
          unfold ndist
          split <;> split <;> omega
  exact loop np 0 none (by omega)
theorem m_goesOn (hk : MPK i np nv) (hpl : ∀ p, p < np → i 93 p = -1 ∨ (z p < nv p ∧ i 93 p = nI (z p))) (hz : ∀ p, z p < 5) (hf : ∀ q, q < 6 → f q < mc i np nv q) (hw : NWF i np f i) (hd : 1 ≤ d)
    (hA : ∀ p0, p0 < 6 → mins i np p0 = true → f p0 + 1 < nv p0 → (∀ q, p0 < q → q < 6 → f q + 1 = mc i np nv q) → ∀ j : Nat → Nat → Int32, (∀ q, q ≠ 111 → j q = i q) → NWF i np (fun q => if q < p0 then f q else if q = p0 then f p0 + 1 else 0) j → Q (some (.int 1)) (KS, j))
    (hB : (∀ q, q < 6 → f q + 1 = mc i np nv q) → ∀ j : Nat → Nat → Int32, (∀ q, q ≠ 111 → j q = i q) → Q (some (.int 0)) (KS, j)) : SP xl xs d Y_Model_goesOn [.ref 89] (KS, i) Q := by
  have hn := hk.2.1
  obtain ⟨d, rfl⟩ : ∃ q, d = q + 1 := ⟨d - 1, by omega⟩
  refine ⟨Nat.le_of_ble_eq_true rfl, am_go (am_sp_mo _) (fun q => q == 7) 30 (fun X hX => ?_)⟩
  conv => whnf
  try dsimp only
  rw [hk.1, li_1]
  refine hX _ _ _ _ _ _ ?_
  have loop : ∀ m (j : Nat → Nat → Int32), m ≤ np → (∀ q, q ≠ 111 → j q = i q) → (∀ q, q < 6 → j 111 q = pvv (mins i np) q (if m ≤ q then 0 else f q)) → (∀ q, m ≤ q → q < 6 → f q + 1 = mc i np nv q) → am_wp (ax_E xl xs) (ax_cd Y_Model_goesOn) (am_sp (ax_E xl xs) ax_cd ax_ml d) Q 7 [some (.ref 89), some (.int (nI m - nI 1))] [] (KS, j) 0 0 := by
    intro m
    induction m with
    | zero =>
      intro j hm g1 g2 g3
      rw [nI_0m1]
      refine am_go (am_sp_mo _) (fun q => q == 7) 30 (fun X hX => ?_)
      conv => whnf
      try dsimp only
      refine ⟨fun _ => ?_, fun h => absurd (by decide) h⟩
      conv => whnf
      try dsimp only
      refine ⟨fun h => absurd h (by decide), fun _ => ?_⟩
      conv => whnf
      try dsimp only
      exact ⟨Or.inl rfl, hB (fun q hq => g3 q (by omega) hq) j g1⟩
    | succ m ih =>
      intro j hm g1 g2 g3
      rw [nI_pred1]
      have hcl : (nI m).toNatClampNeg = m := nI_clamp (by omega)
      have hin : vp_in (nI m) 6 := vp_in_nI (by omega) (by decide)
      have hmv := hk.2.2 m (by omega)
      have hfm := hf m (by omega)
      have hjm : j 111 m = pvv (mins i np) m (f m) := by rw [g2 m (by omega), if_neg (by omega)]
      have back : ∀ v : Int32, v = pvv (mins i np) m 0 → f m + 1 = mc i np nv m → am_wp (ax_E xl xs) (ax_cd Y_Model_goesOn) (am_sp (ax_E xl xs) ax_cd ax_ml d) Q 58 [some (.ref 89), some (.int (nI m))] [.int v, .int (nI m), .ref 111] (KS, j) 0 0 := by
        intro v hv hl
        refine am_go (am_sp_mo _) (fun q => q == 7) 20 (fun X hX => ?_)
        conv => whnf
        try dsimp only
        refine ⟨6, [], rfl, hin, ?_⟩
        conv => whnf
        try dsimp only
        rw [hcl, nI_dn m (by omega)]
        refine hX _ _ _ _ _ _ (ih _ (by omega) (fun q hq => (up_a hq).trans (g1 q hq)) (fun q hq => ?_) (fun q hq hq6 => ?_))
        · rw [up_at]
          by_cases e : q = m
          · rw [if_pos ⟨rfl, e⟩, if_pos (by omega), hv, e]
          · rw [if_neg (fun z => e z.2), g2 q hq]
            by_cases e2 : m ≤ q
            · rw [if_pos (by omega), if_pos e2]
            · rw [if_neg (by omega), if_neg e2]
        · by_cases e : q = m
          · rw [e]; exact hl
          · exact g3 q (by omega) hq6
      refine am_go (am_sp_mo _) (fun q => q == 7 || q == 58) 60 (fun X hX => ?_)
      conv => whnf
      try dsimp only
      refine ⟨fun h => absurd h (nI_pos (by omega)), fun _ => ?_⟩
      conv => whnf
      try dsimp only
      refine ⟨6, [], rfl, hin, ?_⟩
      conv => whnf
      try dsimp only
      rw [hcl, g1 93 (by decide)]
      rcases hpl m (by omega) with hm1 | ⟨hzv, hze⟩
      · have hi : mins i np m = false := by
          show pins (i 93) np m = false
          unfold pins
          rw [decide_eq_true hm1]
          simp
        have hmc : mc i np nv m = 1 := by unfold mc; rw [hi]; rfl
        rw [hm1]
        refine ⟨fun _ => ?_, fun h => absurd (by decide) h⟩
        conv => whnf
        try dsimp only
        refine ⟨6, [], rfl, hin, ?_⟩
        conv => whnf
        try dsimp only
        rw [hcl, g1 93 (by decide), hm1]
        refine ⟨fun h => absurd (by decide) h, fun _ => ?_⟩
        conv => whnf
        try dsimp only
        exact hX _ _ _ _ _ _ (back _ (by rw [li_m1]; exact (if_neg (by rw [hi]; decide)).symm) (by omega))
      · have hzm := hz m
        have hi : mins i np m = true := by
          show pins (i 93) np m = true
          unfold pins
          rw [decide_eq_true (show m < np by omega), hze, decide_eq_false (nI_m1 (by omega))]
          rfl
        have hmc : mc i np nv m = nv m := by unfold mc; rw [if_pos hi]
        have e2 : pvv (mins i np) m (f m) = nI (f m) := if_pos hi
        obtain ⟨n, hnv⟩ : ∃ n, nv m = n + 1 := ⟨nv m - 1, by omega⟩
        rw [hze]
        refine ⟨fun e => absurd e (by rw [li_m1]; exact nI_m1 (by omega)), fun _ => ?_⟩
        conv => whnf
        try dsimp only
        refine ⟨6, [], rfl, hin, ?_⟩
        conv => whnf
        try dsimp only
        refine ⟨6, [], rfl, hin, ?_⟩
        conv => whnf
        try dsimp only
        rw [hcl, hjm, e2, g1 91 (by decide), hmv.1, hnv, li_1, nI_pred1]
        refine ⟨fun hne => ?_, fun heq => ?_⟩
        · have hlt : f m + 1 < nv m := by
            have : ¬ f m = n := fun e => hne (by rw [e])
            omega
          conv => whnf
          try dsimp only
          refine ⟨fun _ => ?_, fun h => absurd (by rw [Int32.le_iff_toInt_le, nI_toInt (by omega), show (0 : Int32).toInt = 0 by decide]; omega) h⟩
          conv => whnf
          try dsimp only
          refine ⟨6, [], rfl, hin, ?_⟩
          conv => whnf
          try dsimp only
          refine ⟨6, [], rfl, hin, ?_⟩
          conv => whnf
          try dsimp only
          rw [hcl, hjm, e2, show nI (f m) + Int32.ofInt 1 = nI (f m + 1) by rw [li_1, nI_add]]
          refine ⟨Or.inr rfl, hA m (by omega) hi hlt (fun q hq hq6 => g3 q (by omega) hq6) _ (fun q hq => (up_a hq).trans (g1 q hq)) (fun q hq => ?_)⟩
          show _ = pvv (mins i np) q (if q < m then f q else if q = m then f m + 1 else 0)
          rw [up_at]
          by_cases e : q = m
          · subst e
            rw [if_pos ⟨rfl, rfl⟩, if_neg (by omega), if_pos rfl]
            exact (if_pos hi).symm
          · rw [if_neg (fun z => e z.2), g2 q hq]
            by_cases e3 : q < m
            · rw [if_neg (by omega), if_pos e3]
            · rw [if_pos (by omega), if_neg e3, if_neg e]
        · have hl : f m = n := nI_inj (by omega) (by omega) heq
          conv => whnf
          try dsimp only
          refine ⟨6, [], rfl, hin, ?_⟩
          conv => whnf
          try dsimp only
          rw [hcl, g1 93 (by decide), hze]
          refine ⟨fun _ => ?_, fun e => absurd e (by rw [li_m1]; exact nI_m1 (by omega))⟩
          conv => whnf
          try dsimp only
          exact hX _ _ _ _ _ _ (back _ (by rw [li_0]; exact (if_pos hi).symm) (by omega))
  refine loop np i (Nat.le_refl _) (fun _ _ => rfl) (fun q hq => ?_) (fun q hq hq6 => ?_)
  · rw [hw q hq]
    by_cases e : np ≤ q
    · have hi : ¬ mins i np q = true := fun h => absurd (pins_of h).1 (by omega)
      rw [if_pos e]
      unfold pvv
      rw [if_neg hi, if_neg hi]
    · rw [if_neg e]
  · have hi : ¬ mins i np q = true := fun h => absurd (pins_of h).1 (by omega)
    have := hf q hq6
    unfold mc at this ⊢
    rw [if_neg hi] at this ⊢
    omega
end MPLAN
