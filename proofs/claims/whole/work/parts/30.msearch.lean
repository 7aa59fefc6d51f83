/-! PLANS of the reference: the search -/
def mlv (s : PSt) : Int32 := if s.1 = 210 then -1 else nI (cvk s.1)
def mFr (I j : Nat → Nat → Int32) : Prop := ∀ q, q ≠ 111 → q ≠ 113 → j q = I q
def MSt (I : Nat → Nat → Int32) (np : Nat) (j : Nat → Nat → Int32) (s : PSt) : Prop := s.1 ≤ 210 ∧ (s.1 < 210 → ∀ q, q < 6 → j 113 q = pvv (mins I np) q (s.2 q))
theorem cvk_bd {x : Nat} (h : x ≤ 210) : cvk x ≤ 1000 := by
  unfold cvk
  omega
section MSEARCH
variable {xl : Nat} {xs : Nat → Int32} {d : Nat} {Q : am_Q} {I : Nat → Nat → Int32} {np nn : Nat} {nv z : Nat → Nat}
theorem NWF.fr {f : Nat → Nat} {j : Nat → Nat → Int32} (h : NWF I np f j) (e : j 93 = I 93) : NWF j np f j := by
  unfold NWF mins at *
  rw [e]
  exact h
theorem m_leaf (hp : I 89 1 = nI np) (hn : np ≤ 6) (hN : MNK I nn) (hv : ∀ q, q < 30 → ¬ I 92 q = -1) (hb : ∀ q, I 112 q = 0 ∨ I 112 q = 1) (hpl : ∀ p, p < np → I 93 p = -1 ∨ I 93 p = nI (z p)) (hz : ∀ p, z p < 5) {f : Nat → Nat} (hf : ∀ q, q < 6 → f q < 5) {s : PSt} {j : Nat → Nat → Int32} (hF : mFr I j) (hw : NWF I np f j) (hS : MSt I np j s) (hd : 4 ≤ d) {x : Int32} (hx : ¬ x = 0) {o : Option Value}
    (h : ∀ (j' : Nat → Nat → Int32) o', mFr I j' → j' 111 = j 111 → MSt I np j' (pst (mVd I np nn) (pK (mins I np) z) s f) → am_wp (ax_E xl xs) (ax_cd Y_Model_plan) (am_sp (ax_E xl xs) ax_cd ax_ml d) Q 98 [some (.ref 89), some (.int (mlv (pst (mVd I np nn) (pK (mins I np) z) s f))), some (.int x), o'] [] (KS, j') 0 0) : am_wp (ax_E xl xs) (ax_cd Y_Model_plan) (am_sp (ax_E xl xs) ax_cd ax_ml d) Q 43 [some (.ref 89), some (.int (mlv s)), some (.int x), o] [] (KS, j) 0 0 := by
  have f93 := hF 93 (by decide) (by decide)
  have hNj : MNK j nn := by
    unfold MNK
    rw [hF 89 (by decide) (by decide), hF 94 (by decide) (by decide), hF 96 (by decide) (by decide)]
    exact hN
  have hpj : j 89 1 = nI np := by rw [hF 89 (by decide) (by decide)]; exact hp
  have hplj : ∀ p, p < np → j 93 p = -1 ∨ j 93 p = nI (z p) := by rw [f93]; exact hpl
  have hwj : NWF j np f j := hw.fr f93
  have eV : mVd j np nn f = mVd I np nn f := by
    unfold mVd mins mver mcl mB
    rw [f93, hF 92 (by decide) (by decide), hF 112 (by decide) (by decide), hF 94 (by decide) (by decide), hF 95 (by decide) (by decide), hF 96 (by decide) (by decide), hF 97 (by decide) (by decide), hF 98 (by decide) (by decide)]
  have eK : pK (mins j np) z f = pK (mins I np) z f := by unfold mins; rw [f93]
  have hKb : pK (mins I np) z f ≤ 204 := pK_bd (fun q hq => ⟨hz q, hf q hq⟩)
  have hKc := cvk_bd (x := pK (mins I np) z f) (by omega)
  have hSc := cvk_bd hS.1
  have keep : ¬ (mVd I np nn f = true ∧ pK (mins I np) z f < s.1) → am_wp (ax_E xl xs) (ax_cd Y_Model_plan) (am_sp (ax_E xl xs) ax_cd ax_ml d) Q 98 [some (.ref 89), some (.int (mlv s)), some (.int x), o] [] (KS, j) 0 0 := by
    intro hno
    have e : pst (mVd I np nn) (pK (mins I np) z) s f = s := if_neg hno
    rw [e] at h
    exact h j o hF rfl hS
  have take : mVd I np nn f = true → pK (mins I np) z f < s.1 → am_wp (ax_E xl xs) (ax_cd Y_Model_plan) (am_sp (ax_E xl xs) ax_cd ax_ml d) Q 67 [some (.ref 89), some (.int (mlv s)), some (.int x), o] [] (KS, j) 0 0 := by
    intro h1 h2
    have e : pst (mVd I np nn) (pK (mins I np) z) s f = (pK (mins I np) z f, f) := if_pos ⟨h1, h2⟩
    rw [e] at h
    have el : mlv (pK (mins I np) z f, f) = nI (cvk (pK (mins I np) z f)) := if_neg (show ¬ pK (mins I np) z f = 210 by omega)
    rw [el] at h
    refine am_go (am_sp_mo _) (fun q => q == 74) 30 (fun X hX => ?_)
    conv => whnf
    try dsimp only
    refine m_cost hpj hn hplj hz hf hwj (by omega) ?_
    conv => whnf
    try dsimp only
    rw [eK]
    refine hX _ _ _ _ _ _ ?_
    have cp : ∀ m p (j' : Nat → Nat → Int32), p + m = 6 → mFr I j' → j' 111 = j 111 → (∀ q, q < p → j' 113 q = j 111 q) → am_wp (ax_E xl xs) (ax_cd Y_Model_plan) (am_sp (ax_E xl xs) ax_cd ax_ml d) Q 74 [some (.ref 89), some (.int (nI (cvk (pK (mins I np) z f)))), some (.int x), some (.int (nI p))] [] (KS, j') 0 0 := by
      intro m
      induction m with
      | zero =>
        intro p j' hp g1 g2 g3
        have : p = 6 := by omega
        subst this
        refine am_go (am_sp_mo _) (fun q => q == 74 || q == 98) 20 (fun X hX => ?_)
        conv => whnf
        try dsimp only
        refine ⟨fun _ => ?_, fun hh => absurd (by decide) hh⟩
        refine hX _ _ _ _ _ _ (h j' _ g1 g2 ⟨show pK (mins I np) z f ≤ 210 by omega, fun _ q hq => ?_⟩)
        rw [g3 q hq]
        exact hw q hq
      | succ m ih =>
        intro p j' hp g1 g2 g3
        have hcl : (nI p).toNatClampNeg = p := nI_clamp (by omega)
        have hin : vp_in (nI p) 6 := vp_in_nI (by omega) (by decide)
        refine am_go (am_sp_mo _) (fun q => q == 74) 20 (fun X hX => ?_)
        conv => whnf
        try dsimp only
        refine ⟨fun hh => absurd hh (by rw [li_6]; exact nI_ge (by omega) (by decide)), fun _ => ?_⟩
        conv => whnf
        try dsimp only
        refine ⟨6, [], rfl, hin, ?_⟩
        conv => whnf
        try dsimp only
        refine ⟨6, [], rfl, hin, ?_⟩
        conv => whnf
        try dsimp only
        rw [hcl, g2, show nI p + Int32.ofInt 1 = nI (p + 1) by rw [li_1, nI_add]]
        refine hX _ _ _ _ _ _ (ih (p + 1) _ (by omega) (fun q q1 q2 => (up_a q2).trans (g1 q q1 q2)) (by rw [up_a (by decide)]; exact g2) (fun q hq => ?_))
        rw [up_at]
        by_cases e : q = p
        · rw [if_pos ⟨rfl, e⟩, e]
        · rw [if_neg (fun z => e z.2)]; exact g3 q (by omega)
    exact cp 6 0 j (by omega) hF rfl (fun q hq => absurd hq (by omega))
  refine am_go (am_sp_mo _) (fun q => q == 67 || q == 98) 40 (fun X hX => ?_)
  conv => whnf
  try dsimp only
  refine ⟨fun e => absurd e hx, fun _ => ?_⟩
  conv => whnf
  try dsimp only
  refine m_mayBe hpj hn hNj (by rw [hF 92 (by decide) (by decide)]; exact hv) (by rw [hF 112 (by decide) (by decide)]; exact hb) hf hwj (by omega) (fun b hb' => ?_)
  rw [eV] at hb'
  cases b with
  | false =>
    conv => whnf
    try dsimp only
    exact ⟨fun _ => hX _ _ _ _ _ _ (keep (fun z => by rw [← hb'] at z; cases z.1)), fun h => absurd rfl h⟩
  | true =>
    conv => whnf
    try dsimp only
    refine ⟨fun h => absurd h (by decide), fun _ => ?_⟩
    conv => whnf
    try dsimp only
    by_cases e210 : s.1 = 210
    · have el : mlv s = -1 := if_pos e210
      rw [el] at take ⊢
      exact ⟨fun _ => hX _ _ _ _ _ _ (take hb'.symm (by omega)), fun h => absurd (by decide) h⟩
    · have el : mlv s = nI (cvk s.1) := if_neg e210
      rw [el] at take keep ⊢
      refine ⟨fun e => absurd e (by rw [li_m1]; exact nI_m1 (by omega)), fun _ => ?_⟩
      conv => whnf
      try dsimp only
      refine m_cost hpj hn hplj hz hf hwj (by omega) ?_
      conv => whnf
      try dsimp only
      rw [eK]
      refine ⟨fun hge => ?_, fun hlt => ?_⟩
      · refine hX _ _ _ _ _ _ (keep (fun z => ?_))
        have := cvk_lt.mpr z.2
        exact absurd hge (nI_ge this (by omega))
      · refine hX _ _ _ _ _ _ (take hb'.symm ?_)
        rcases Nat.lt_or_ge (cvk (pK (mins I np) z f)) (cvk s.1) with q | q
        · exact cvk_lt.mp q
        · exact absurd (nI_le q (by omega)) hlt
theorem m_tree (hk : MPK I np nv) (hN : MNK I nn) (hv : ∀ q, q < 30 → ¬ I 92 q = -1) (hb : ∀ q, I 112 q = 0 ∨ I 112 q = 1) (hpl : ∀ p, p < np → I 93 p = -1 ∨ (z p < nv p ∧ I 93 p = nI (z p))) (hz : ∀ p, z p < 5) (hd : 4 ≤ d) : ∀ m p, p + m = 6 → ∀ (f : Nat → Nat) (s : PSt) (j : Nat → Nat → Int32) (x : Int32) (o : Option Value), (∀ q, q < 6 → f q < mc I np nv q) → (∀ q, p ≤ q → f q = 0) → mFr I j → NWF I np f j → MSt I np j s → ¬ x = 0 →
    (∀ (f' : Nat → Nat) (j' : Nat → Nat → Int32) x' o', (∀ q, q < p → f' q = f q) → (∀ q, p ≤ q → q < 6 → f' q + 1 = mc I np nv q) → mFr I j' → NWF I np f' j' → MSt I np j' (mfo I np nn nv z m p f s) → am_wp (ax_E xl xs) (ax_cd Y_Model_plan) (am_sp (ax_E xl xs) ax_cd ax_ml d) Q 98 [some (.ref 89), some (.int (mlv (mfo I np nn nv z m p f s))), some (.int x'), o'] [] (KS, j') 0 0) → am_wp (ax_E xl xs) (ax_cd Y_Model_plan) (am_sp (ax_E xl xs) ax_cd ax_ml d) Q 43 [some (.ref 89), some (.int (mlv s)), some (.int x), o] [] (KS, j) 0 0 := by
  have hn := hk.2.1
  have c5 : ∀ q, q < 6 → mc I np nv q ≤ 5 := fun q hq => by
    have := (hk.2.2 q hq).2
    unfold mc
    split <;> omega
  have c1 : ∀ q, q < 6 → 1 ≤ mc I np nv q := fun q hq => by
    unfold mc
    cases hi : mins I np q with
    | false => rw [if_neg (by decide)]; omega
    | true =>
      rw [if_pos rfl]
      obtain ⟨h1, h2⟩ := pins_of hi
      have := (hpl q h1).resolve_left h2
      omega
  intro m
  induction m with
  | zero =>
    intro p hp f s j x o hr h0 hF hw hS hx h
    have : p = 6 := by omega
    subst this
    refine m_leaf hk.1 hn hN hv hb (fun p hp => (hpl p hp).imp id (fun z => z.2)) hz (fun q hq => Nat.lt_of_lt_of_le (hr q hq) (c5 q hq)) hF hw hS hd hx (fun j' o' g1 g2 g3 => ?_)
    exact h f j' x o' (fun _ _ => rfl) (fun q h1 h2 => absurd h2 (by omega)) g1 (fun q hq => by rw [g2]; exact hw q hq) g3
  | succ m ih =>
    intro p hp f s j x o hr h0 hF hw hS hx h
    have kids : ∀ n k, k + n + 1 = mc I np nv p → ∀ (j : Nat → Nat → Int32) (x : Int32) (o : Option Value), mFr I j → NWF I np (fset f p k) j → MSt I np j (pfk (fun k s => mfo I np nn nv z m (p + 1) (fset f p k) s) k s) → ¬ x = 0 → am_wp (ax_E xl xs) (ax_cd Y_Model_plan) (am_sp (ax_E xl xs) ax_cd ax_ml d) Q 43 [some (.ref 89), some (.int (mlv (pfk (fun k s => mfo I np nn nv z m (p + 1) (fset f p k) s) k s))), some (.int x), o] [] (KS, j) 0 0 := by
      intro n
      induction n with
      | zero =>
        intro k hkn j x o g1 g2 g3 hx
        refine ih (p + 1) (by omega) (fset f p k) _ j x o (fun q hq => ?_) (fun q hq => ?_) g1 g2 g3 hx (fun f' j' x' o' a1 a2 a3 a4 a5 => ?_)
        · by_cases e : q = p
          · rw [e, fset_s]; omega
          · rw [fset_n e]; exact hr q hq
        · rw [fset_n (by omega)]; exact h0 q (by omega)
        · have e : mfo I np nn nv z (m + 1) p f s = mfo I np nn nv z m (p + 1) (fset f p k) (pfk (fun k s => mfo I np nn nv z m (p + 1) (fset f p k) s) k s) := by
            show pfk _ (mc I np nv p) s = _
            rw [← hkn]
            rfl
          rw [e] at h
          refine h f' j' x' o' (fun q hq => by rw [a1 q (by omega), fset_n (by omega)]) (fun q hq hq6 => ?_) a3 a4 a5
          by_cases eq : q = p
          · rw [eq, a1 p (by omega), fset_s]; omega
          · exact a2 q (by omega) hq6
      | succ n ihn =>
        intro k hkn j x o g1 g2 g3 hx
        refine ih (p + 1) (by omega) (fset f p k) _ j x o (fun q hq => ?_) (fun q hq => ?_) g1 g2 g3 hx (fun f' j' x' o' a1 a2 a3 a4 a5 => ?_)
        · by_cases e : q = p
          · rw [e, fset_s]; omega
          · rw [fset_n e]; exact hr q hq
        · rw [fset_n (by omega)]; exact h0 q (by omega)
        · have hi : mins I np p = true := by
            cases e : mins I np p with
            | true => rfl
            | false =>
              unfold mc at hkn
              rw [e, if_neg (by decide)] at hkn
              omega
          have hmc : mc I np nv p = nv p := by unfold mc; rw [if_pos hi]
          have f93 := a3 93 (by decide) (by decide)
          have emi : mins j' np = mins I np := by unfold mins; rw [f93]
          have emc : mc j' np nv = mc I np nv := by funext q; unfold mc; rw [emi]
          have hkj : MPK j' np nv := by
            unfold MPK
            rw [a3 89 (by decide) (by decide), a3 91 (by decide) (by decide)]
            exact hk
          have hfp : f' p = k := by rw [a1 p (by omega), fset_s]
          refine am_go (am_sp_mo _) (fun q => q == 43) 30 (fun X hX => ?_)
          conv => whnf
          try dsimp only
          refine m_goesOn (z := z) (f := f') hkj (by rw [f93]; exact hpl) hz (fun q hq => ?_) (a4.fr f93) (by omega) (fun p0 hp0 hi0 hlt hlast j2 b1 b2 => ?_) (fun hall j2 b1 => ?_)
          · rw [emc]
            by_cases e : q < p + 1
            · rw [a1 q e]
              by_cases e2 : q = p
              · rw [e2, fset_s]; omega
              · rw [fset_n e2]; exact hr q hq
            · have := a2 q (by omega) hq
              omega
          · rw [emi] at hi0
            rw [emc] at hlast
            have hp0' : p0 = p := by
              rcases Nat.lt_trichotomy p0 p with q | q | q
              · have := hlast p q (by omega)
                omega
              · exact q
              · have h1 := a2 p0 (by omega) hp0
                unfold mc at h1
                rw [if_pos hi0] at h1
                omega
            subst hp0'
            conv => whnf
            try dsimp only
            refine hX _ _ _ _ _ _ (ihn (k + 1) (by omega) j2 1 o' (fun q q1 q2 => (b1 q q1).trans (a3 q q1 q2)) (fun q hq => ?_) ?_ (by decide))
            · have this : j2 111 q = pvv (mins j' np) q (if q < p0 then f' q else if q = p0 then f' p0 + 1 else 0) := b2 q hq
              rw [emi] at this
              rw [this]
              by_cases e : q < p0
              · rw [if_pos e, fset_n (by omega), a1 q (by omega), fset_n (by omega)]
              · rw [if_neg e]
                by_cases e2 : q = p0
                · rw [if_pos e2, e2, fset_s, hfp]
                · rw [if_neg e2, fset_n e2, h0 q (by omega)]
            · exact ⟨a5.1, fun hl q hq => by rw [b1 113 (by decide)]; exact a5.2 hl q hq⟩
          · have := hall p (by omega)
            rw [emc] at this
            omega
    have hc1 := c1 p (by omega)
    refine kids (mc I np nv p - 1) 0 (by omega) j x o hF (fun q hq => ?_) hS hx
    rw [hw q hq]
    by_cases e : q = p
    · rw [e, fset_s, h0 p (by omega)]
    · rw [fset_n e]
theorem m_plan {i : Nat → Nat → Int32} {na : Nat} {sp : Nat → Nat} {ch : Nat → Nat → Nat} (hk : MPK i np nv) (hA : MAK i na sp) (hw : ∀ a, i 105 a = 0 ∨ i 105 a = 1) (hch : ∀ a, a < 12 → ∀ k, k < 7 → i 104 (7 * a + k) = nI (ch a k) ∧ ch a k < 4) (hN : MNK i nn) (hv : ∀ q, q < 30 → ¬ i 92 q = -1) (hb : ∀ q, i 112 q = 0 ∨ i 112 q = 1) (hpl : ∀ p, p < np → i 93 p = -1 ∨ (z p < nv p ∧ i 93 p = nI (z p))) (hpn : ∀ p, np ≤ p → p < 6 → i 93 p = -1) (hz : ∀ p, z p < 5) (hd : 6 ≤ d)
    (h : ∀ I : Nat → Nat → Int32, (∀ q, q ≠ 112 → I q = i q) → (∀ q, I 112 q = 0 ∨ I 112 q = 1) → (∀ p k, p < np → k < nv p → mcl I p k = !(mbad i sp ch na p (i 92 (5 * p + k)) na)) →
      ((mfo I np nn nv z 6 0 (fun _ => 0) (210, fun _ => 0)).1 < 210 → ∀ j : Nat → Nat → Int32, (∀ q, q ≠ 89 → q ≠ 111 → q ≠ 113 → q ≠ 114 → j q = I q) → (∀ q, q ≠ 29 → j 89 q = I 89 q) → j 89 29 = 1 → (∀ q, q < 6 → j 114 q = pvv (mins I np) q ((mfo I np nn nv z 6 0 (fun _ => 0) (210, fun _ => 0)).2 q)) → Q (some (.int (nI ((mfo I np nn nv z 6 0 (fun _ => 0) (210, fun _ => 0)).1 / 30)))) (KS, j)) ∧
      ((mfo I np nn nv z 6 0 (fun _ => 0) (210, fun _ => 0)).1 = 210 → ∀ j : Nat → Nat → Int32, (∀ q, q ≠ 111 → q ≠ 113 → j q = I q) → Q (some (.int (-1))) (KS, j))) : SP xl xs d Y_Model_plan [.ref 89] (KS, i) Q := by
  have hn := hk.2.1
  obtain ⟨d, rfl⟩ : ∃ q, d = q + 1 := ⟨d - 1, by omega⟩
  refine ⟨Nat.le_of_ble_eq_true rfl, am_go (am_sp_mo _) (fun q => q == 6) 20 (fun X hX => ?_)⟩
  conv => whnf
  try dsimp only
  refine m_findBad (ch := ch) hk hA hw hch hb (by omega) (fun I g1 g2 g3 => ?_)
  obtain ⟨h1, h0⟩ := h I g1 g2 (fun p k hp hk' => by
    show decide (I 112 (5 * p + k) = 0) = _
    rw [g3 p k hp hk']
    cases mbad i sp ch na p (i 92 (5 * p + k)) na <;> decide)
  have hkI : MPK I np nv := by
    unfold MPK
    rw [g1 89 (by decide), g1 91 (by decide)]
    exact hk
  have hNI : MNK I nn := by
    unfold MNK
    rw [g1 89 (by decide), g1 94 (by decide), g1 96 (by decide)]
    exact hN
  have hplI : ∀ p, p < np → I 93 p = -1 ∨ (z p < nv p ∧ I 93 p = nI (z p)) := by rw [g1 93 (by decide)]; exact hpl
  have c1 : ∀ q, q < 6 → 0 < mc I np nv q := fun q hq => by
    unfold mc
    cases hi : mins I np q with
    | false => rw [if_neg (by decide)]; omega
    | true =>
      rw [if_pos rfl]
      obtain ⟨h1, h2⟩ := pins_of hi
      have := (hplI q h1).resolve_left h2
      omega
  conv => whnf
  try dsimp only
  refine hX _ _ _ _ _ _ ?_
  -- the end
  have fin : ∀ (j : Nat → Nat → Int32) (o : Option Value), mFr I j → MSt I np j (mfo I np nn nv z 6 0 (fun _ => 0) (210, fun _ => 0)) → am_wp (ax_E xl xs) (ax_cd Y_Model_plan) (am_sp (ax_E xl xs) ax_cd ax_ml d) Q 106 [some (.ref 89), some (.int (mlv (mfo I np nn nv z 6 0 (fun _ => 0) (210, fun _ => 0)))), some (.int 0), o] [] (KS, j) 0 0 := by
    intro j o a1 a2
    generalize mfo I np nn nv z 6 0 (fun _ => 0) (210, fun _ => 0) = S at *
    have hSc := cvk_bd a2.1
    by_cases e210 : S.1 = 210
    · rw [show mlv S = -1 from if_pos e210]
      refine am_go (am_sp_mo _) (fun _ => false) 20 (fun X hX => ?_)
      conv => whnf
      try dsimp only
      refine ⟨fun h => absurd (by decide) h, fun _ => ?_⟩
      conv => whnf
      try dsimp only
      exact h0 e210 j a1
    · have hlt : S.1 < 210 := by have := a2.1; omega
      have h1 := h1 hlt
      rw [show mlv S = nI (cvk S.1) from if_neg e210]
      refine am_go (am_sp_mo _) (fun q => q == 120) 20 (fun X hX => ?_)
      conv => whnf
      try dsimp only
      refine ⟨fun _ => ?_, fun e => absurd e (by rw [li_m1]; exact nI_m1 (by omega))⟩
      conv => whnf
      try dsimp only
      refine ⟨by decide, ?_⟩
      conv => whnf
      try dsimp only
      refine hX _ _ _ _ _ _ ?_
      have cp : ∀ m p (j' : Nat → Nat → Int32), p + m = 6 → (∀ q, q ≠ 89 → q ≠ 111 → q ≠ 113 → q ≠ 114 → j' q = I q) → (∀ q, q ≠ 29 → j' 89 q = I 89 q) → j' 89 29 = 1 → j' 113 = j 113 → (∀ q, q < p → j' 114 q = j 113 q) → am_wp (ax_E xl xs) (ax_cd Y_Model_plan) (am_sp (ax_E xl xs) ax_cd ax_ml d) Q 120 [some (.ref 89), some (.int (nI (cvk S.1))), some (.int 0), some (.int (nI p))] [] (KS, j') 0 0 := by
        intro m
        induction m with
        | zero =>
          intro p j' hp b1 b2 b3 b4 b5
          have : p = 6 := by omega
          subst this
          refine am_go (am_sp_mo _) (fun q => q == 120) 20 (fun X hX => ?_)
          conv => whnf
          try dsimp only
          refine ⟨fun _ => ?_, fun hh => absurd (by decide) hh⟩
          conv => whnf
          try dsimp only
          refine ⟨by decide, ?_⟩
          conv => whnf
          try dsimp only
          refine q_eq ?_ rfl (h1 j' b1 b2 b3 (fun q hq => by rw [b5 q hq]; exact a2.2 hlt q hq))
          rw [li_100, pk_div (by omega) (by decide) (by decide), cvk_100]
        | succ m ih =>
          intro p j' hp b1 b2 b3 b4 b5
          have hcl : (nI p).toNatClampNeg = p := nI_clamp (by omega)
          have hin : vp_in (nI p) 6 := vp_in_nI (by omega) (by decide)
          refine am_go (am_sp_mo _) (fun q => q == 120) 20 (fun X hX => ?_)
          conv => whnf
          try dsimp only
          refine ⟨fun hh => absurd hh (by rw [li_6]; exact nI_ge (by omega) (by decide)), fun _ => ?_⟩
          conv => whnf
          try dsimp only
          refine ⟨6, [], rfl, hin, ?_⟩
          conv => whnf
          try dsimp only
          refine ⟨6, [], rfl, hin, ?_⟩
          conv => whnf
          try dsimp only
          rw [hcl, b4, show nI p + Int32.ofInt 1 = nI (p + 1) by rw [li_1, nI_add]]
          refine hX _ _ _ _ _ _ (ih (p + 1) _ (by omega) (fun q q1 q2 q3 q4 => (up_a q4).trans (b1 q q1 q2 q3 q4)) (fun q hq => by rw [up_n (Or.inl (by decide))]; exact b2 q hq) (by rw [up_n (Or.inl (by decide))]; exact b3) (by rw [up_a (by decide)]; exact b4) (fun q hq => ?_))
          rw [up_at]
          by_cases e : q = p
          · rw [if_pos ⟨rfl, e⟩, e]
          · rw [if_neg (fun z => e z.2)]; exact b5 q (by omega)
      exact cp 6 0 _ (by omega) (fun q q1 q2 q3 q4 => (up_a q1).trans (a1 q q2 q3)) (fun q hq => by rw [up_n (Or.inr hq), a1 89 (by decide) (by decide)]) (by rw [up_s]; try decide) (up_a (by decide)) (fun q hq => absurd hq (by omega))
  have init : ∀ m p o2 o3 (j : Nat → Nat → Int32), p + m = 6 → (∀ q, q ≠ 111 → j q = I q) → (∀ q, q < p → j 111 q = pvv (mins I np) q 0) → am_wp (ax_E xl xs) (ax_cd Y_Model_plan) (am_sp (ax_E xl xs) ax_cd ax_ml d) Q 6 [some (.ref 89), some (.int (nI p)), o2, o3] [] (KS, j) 0 0 := by
    intro m
    induction m with
    | zero =>
      intro p o2 o3 j hp a1 a2
      have : p = 6 := by omega
      subst this
      refine am_go (am_sp_mo _) (fun q => q == 6 || q == 43) 30 (fun X hX => ?_)
      conv => whnf
      try dsimp only
      refine ⟨fun _ => ?_, fun hh => absurd (by decide) hh⟩
      conv => whnf
      try dsimp only
      refine hX _ _ _ _ _ _ (m_tree (s := (210, fun _ => 0)) hkI hNI (by rw [g1 92 (by decide)]; exact hv) g2 hplI hz (by omega) 6 0 (by omega) (fun _ => 0) j _ _ c1 (fun _ _ => rfl) (fun q q1 q2 => a1 q q1) a2 ⟨Nat.le_refl _, fun h => absurd h (by decide)⟩ (by decide) (fun f' j' x' o' b1 b2 b3 b4 b5 => ?_))
      have f93 := b3 93 (by decide) (by decide)
      have emi : mins j' np = mins I np := by unfold mins; rw [f93]
      have emc : mc j' np nv = mc I np nv := by funext q; unfold mc; rw [emi]
      have hkj : MPK j' np nv := by
        unfold MPK
        rw [b3 89 (by decide) (by decide), b3 91 (by decide) (by decide)]
        exact hkI
      refine am_go (am_sp_mo _) (fun q => q == 43) 30 (fun X hX => ?_)
      conv => whnf
      try dsimp only
      refine m_goesOn (z := z) (f := f') hkj (by rw [f93]; exact hplI) hz (fun q hq => ?_) (b4.fr f93) (by omega) (fun p0 hp0 hi0 hlt hlast j2 d1 d2 => ?_) (fun hall j2 d1 => ?_)
      · rw [emc]
        have := b2 q (by omega) hq
        omega
      · have h1 := b2 p0 (by omega) hp0
        rw [emi] at hi0
        unfold mc at h1
        rw [if_pos hi0] at h1
        omega
      · conv => whnf
        try dsimp only
        refine hX _ _ _ _ _ _ ?_
        refine am_go (am_sp_mo _) (fun q => q == 106) 20 (fun X hX => ?_)
        conv => whnf
        try dsimp only
        refine ⟨fun _ => ?_, fun h => absurd rfl h⟩
        exact hX _ _ _ _ _ _ (fin j2 o' (fun q q1 q2 => (d1 q q1).trans (b3 q q1 q2)) ⟨b5.1, fun hl q hq => by rw [d1 113 (by decide)]; exact b5.2 hl q hq⟩)
    | succ m ih =>
      intro p o2 o3 j hp a1 a2
      have hcl : (nI p).toNatClampNeg = p := nI_clamp (by omega)
      have hin : vp_in (nI p) 6 := vp_in_nI (by omega) (by decide)
      have put : ∀ v : Int32, v = pvv (mins I np) p 0 → am_wp (ax_E xl xs) (ax_cd Y_Model_plan) (am_sp (ax_E xl xs) ax_cd ax_ml d) Q 32 [some (.ref 89), some (.int (nI p)), o2, o3] [.int v, .int (nI p), .ref 111] (KS, j) 0 0 := by
        intro v hv'
        refine am_go (am_sp_mo _) (fun q => q == 6) 20 (fun X hX => ?_)
        conv => whnf
        try dsimp only
        refine ⟨6, [], rfl, hin, ?_⟩
        conv => whnf
        try dsimp only
        rw [hcl, show nI p + Int32.ofInt 1 = nI (p + 1) by rw [li_1, nI_add]]
        refine hX _ _ _ _ _ _ (ih (p + 1) _ _ _ (by omega) (fun q hq => (up_a hq).trans (a1 q hq)) (fun q hq => ?_))
        rw [up_at]
        by_cases e : q = p
        · rw [if_pos ⟨rfl, e⟩, hv', e]
        · rw [if_neg (fun z => e z.2)]; exact a2 q (by omega)
      refine am_go (am_sp_mo _) (fun q => q == 6 || q == 32) 30 (fun X hX => ?_)
      conv => whnf
      try dsimp only
      refine ⟨fun hh => absurd hh (by rw [li_6]; exact nI_ge (by omega) (by decide)), fun _ => ?_⟩
      conv => whnf
      try dsimp only
      refine ⟨6, [], rfl, hin, ?_⟩
      conv => whnf
      try dsimp only
      rw [hcl, a1 93 (by decide)]
      cases hi : mins I np p with
      | true =>
        have hne := (pins_of hi).2
        refine ⟨fun _ => ?_, fun e => absurd e hne⟩
        conv => whnf
        try dsimp only
        exact hX _ _ _ _ _ _ (put _ (by rw [li_0]; exact (if_pos hi).symm))
      | false =>
        have hm1 : I 93 p = -1 := by
          rcases Nat.lt_or_ge p np with q | q
          · exact pins_no hi q
          · rw [g1 93 (by decide)]; exact hpn p q (by omega)
        rw [hm1]
        refine ⟨fun h => absurd (by decide) h, fun _ => ?_⟩
        conv => whnf
        try dsimp only
        exact hX _ _ _ _ _ _ (put _ (by rw [li_m1]; exact (if_neg (by rw [hi]; decide)).symm))
  exact init 6 0 none none I (by omega) (fun _ _ => rfl) (fun q hq => absurd hq (by omega))
end MSEARCH
