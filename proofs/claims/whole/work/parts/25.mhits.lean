/-! HITS of the reference -/
def mvr (i : Nat → Nat → Int32) (p : Nat) : Int32 := i 92 (5 * p + (i 93 p).toNatClampNeg)
def mS (i : Nat → Nat → Int32) (sp : Nat → Nat) (ch : Nat → Nat → Nat) (na p g : Nat) : Int32 := mx (mgst i sp (nI g) (nI p) (mvr i p)) (fun a => msc (ch a)) na
def mT (i : Nat → Nat → Int32) (sp : Nat → Nat) (ch : Nat → Nat → Nat) (na p g : Nat) : Bool := !(decide (i 93 p = -1)) && !(decide (mS i sp ch na p g = -1))
def mX (i : Nat → Nat → Int32) (p g : Nat) : Bool := decide (i 89 0 < i 107 (6 * g + p))
def mV (i : Nat → Nat → Int32) (sp : Nat → Nat) (ch : Nat → Nat → Nat) (na : Nat) : Nat → Nat → Nat → Int32 := hvl (mS i sp ch na) (i 109) (i 110) (mX i)
section MHITS
variable {xl : Nat} {xs : Nat → Int32} {d : Nat} {i : Nat → Nat → Int32} {Q : am_Q} {np nn na : Nat} {nv sp : Nat → Nat} {ch : Nat → Nat → Nat}
theorem m_hits (hp : i 89 1 = nI np) (hn : np ≤ 6) (hA : MAK i na sp) (hw : ∀ a, i 105 a = 0 ∨ i 105 a = 1) (hch : ∀ a, a < 12 → ∀ k, k < 7 → i 104 (7 * a + k) = nI (ch a k) ∧ ch a k < 4) (hN : MNK i nn) (hv : ∀ q, q < 30 → ¬ i 92 q = -1) (hpl : ∀ p, p < 6 → i 93 p = -1 ∨ ∃ q, q < 5 ∧ i 93 p = nI q) (hr : ∀ p, i 90 p = 0 ∨ i 90 p = 1) (hcb : ∀ k, i 99 k = 0 ∨ i 99 k = 1) (hrb : ∀ p, i 110 p = 0 ∨ i 110 p = 1)
    (hb : ∀ p g, p < np → g < na → mT i sp ch na p g = true → (hls (mT i sp ch na) na p ++ hlg (mT i sp ch na) p g).length < 72) (hd : 5 ≤ d)
    (h : ∀ I j : Nat → Nat → Int32, (∀ q, q ≠ 109 → q ≠ 110 → q ≠ 111 → I q = i q) → (∀ p, p < 6 → isD (rch (mR i np) (mE i) (i 94) (i 96) nn) p (I 109 p)) → (∀ p, I 110 p = 0 ∨ I 110 p = 1) → (∀ p, p < 6 → (I 110 p = 1 ↔ rch (mR i np) (mF i) (i 94) (i 96) nn 5 p = true)) → (∀ q, q ≠ 108 → q ≠ 89 → j q = I q) → (∀ q, q ≠ 22 → j 89 q = I 89 q) → j 89 22 = nI (hls (mT i sp ch na) na np).length → RW (fun _ q w => j 108 (6 * q + w)) (mV I sp ch na) (hls (mT i sp ch na) na np) → Q (some (.int (nI (hls (mT i sp ch na) na np).length))) (KS, j)) : SP xl xs d Y_Model_hits [.ref 89] (KS, i) Q := by
  have hna := hA.2.1
  obtain ⟨d, rfl⟩ : ∃ q, d = q + 1 := ⟨d - 1, by omega⟩
  refine ⟨Nat.le_of_ble_eq_true rfl, am_go (am_sp_mo _) (fun q => q == 11) 30 (fun X hX => ?_)⟩
  conv => whnf
  try dsimp only
  refine m_findWays hp hn hN hv hpl hr hcb hrb (by omega) (fun I a1 a2 a3 a4 a5 => ?_)
  conv => whnf
  try dsimp only
  have fI : ∀ q, q ≠ 109 → q ≠ 110 → q ≠ 111 → I q = i q := a1
  have I89 := a1 89 (by decide) (by decide) (by decide)
  have I93 := a1 93 (by decide) (by decide) (by decide)
  have I92 := a1 92 (by decide) (by decide) (by decide)
  have hTI : ∀ q, mT I sp ch na q = mT i sp ch na q := fun q => by
    funext g
    unfold mT mS mgst mstk stk mhas mvr
    rw [I93, I92, a1 106 (by decide) (by decide) (by decide), a1 100 (by decide) (by decide) (by decide), a1 105 (by decide) (by decide) (by decide), a1 102 (by decide) (by decide) (by decide), a1 103 (by decide) (by decide) (by decide)]
  have hTI' : mT I sp ch na = mT i sp ch na := funext hTI
  rw [← hTI'] at h hb
  refine hX _ _ _ _ _ _ ?_
  have loop : ∀ m p o2 o3 o4 (j : Nat → Nat → Int32), p + m = np → (∀ q, q ≠ 108 → q ≠ 89 → j q = I q) → (∀ q, q ≠ 22 → j 89 q = I 89 q) → j 89 22 = nI (hls (mT I sp ch na) na p).length → RW (fun _ q w => j 108 (6 * q + w)) (mV I sp ch na) (hls (mT I sp ch na) na p) → am_wp (ax_E xl xs) (ax_cd Y_Model_hits) (am_sp (ax_E xl xs) ax_cd ax_ml d) Q 11 [some (.ref 89), some (.int (nI p)), o2, o3, o4] [] (KS, j) 0 0 := by
    intro m
    induction m with
    | zero =>
      intro p o2 o3 o4 j hpp h1 h2 h3 h4
      have : p = np := by omega
      subst this
      refine am_go (am_sp_mo _) (fun q => q == 11) 20 (fun X hX => ?_)
      conv => whnf
      try dsimp only
      rw [h2 1 (by decide), I89, hp]
      refine ⟨fun _ => ?_, fun hh => absurd (nI_le (Nat.le_refl _) (by omega)) hh⟩
      conv => whnf
      try dsimp only
      exact q_eq (by rw [h3]) rfl (h I j fI a3 a4 a5 h1 h2 h3 h4)
    | succ m ih =>
      intro p o2 o3 o4 j hpp h1 h2 h3 h4
      have hcl : (nI p).toNatClampNeg = p := nI_clamp (by omega)
      have hin : vp_in (nI p) 6 := vp_in_nI (by omega) (by decide)
      have e1 : nI p + Int32.ofInt 1 = nI (p + 1) := by rw [li_1, nI_add]
      refine am_go (am_sp_mo _) (fun q => q == 11 || q == 50) 40 (fun X hX => ?_)
      conv => whnf
      try dsimp only
      rw [h2 1 (by decide), I89, hp]
      refine ⟨fun hh => absurd hh (nI_ge (by omega) (by omega)), fun _ => ?_⟩
      conv => whnf
      try dsimp only
      refine ⟨6, [], rfl, hin, ?_⟩
      conv => whnf
      try dsimp only
      rw [hcl, h1 93 (by decide) (by decide)]
      refine ⟨fun hne => ?_, fun heq => ?_⟩
      rotate_left
      · have hT : ∀ g, mT I sp ch na p g = false := fun g => by unfold mT; rw [show decide (I 93 p = -1) = true from decide_eq_true heq]; rfl
        have hnil : ∀ g, hlg (mT I sp ch na) p g = [] := by
          intro g
          induction g with
          | zero => rfl
          | succ g ih => unfold hlg; rw [ih, hT, if_neg (by decide)]; rfl
        conv => whnf
        try dsimp only
        rw [e1]
        refine hX _ _ _ _ _ _ (ih (p + 1) _ _ _ j (by omega) h1 h2 ?_ ?_)
        · unfold hls; rw [hnil, List.append_nil]; exact h3
        · unfold hls; rw [hnil, List.append_nil]; exact h4
      obtain ⟨z, hz, ez⟩ := (hpl p (by omega)).resolve_left (by rw [← I93]; exact hne)
      rw [← I93] at ez
      have hat : Int32.ofInt 5 * nI p + nI z = nI (5 * p + z) := by rw [li_5, pk_mul, nI_add]
      have hvr : mvr I p = I 92 (5 * p + z) := by unfold mvr; rw [ez, nI_clamp (by omega)]
      conv => whnf
      try dsimp only
      refine ⟨6, [], rfl, hin, ?_⟩
      conv => whnf
      try dsimp only
      rw [hcl, h1 93 (by decide) (by decide), ez, hat]
      refine ⟨30, [], rfl, vp_in_nI (by omega) (by decide), ?_⟩
      conv => whnf
      try dsimp only
      rw [nI_clamp (show 5 * p + z < 2 ^ 31 by omega), h1 92 (by decide) (by decide)]
      refine hX _ _ _ _ _ _ ?_
      have inl : ∀ m g o4 (j : Nat → Nat → Int32), g + m = na → (∀ q, q ≠ 108 → q ≠ 89 → j q = I q) → (∀ q, q ≠ 22 → j 89 q = I 89 q) → j 89 22 = nI (hls (mT I sp ch na) na p ++ hlg (mT I sp ch na) p g).length → RW (fun _ q w => j 108 (6 * q + w)) (mV I sp ch na) (hls (mT I sp ch na) na p ++ hlg (mT I sp ch na) p g) → am_wp (ax_E xl xs) (ax_cd Y_Model_hits) (am_sp (ax_E xl xs) ax_cd ax_ml d) Q 50 [some (.ref 89), some (.int (nI p)), some (.int (I 92 (5 * p + z))), some (.int (nI g)), o4] [] (KS, j) 0 0 := by
        intro m
        induction m with
        | zero =>
          intro g o4 j hg h1 h2 h3 h4
          have : g = na := by omega
          subst this
          refine am_go (am_sp_mo _) (fun q => q == 11 || q == 50) 20 (fun X hX => ?_)
          conv => whnf
          try dsimp only
          rw [h2 13 (by decide), I89, hA.1]
          refine ⟨fun _ => ?_, fun hh => absurd (nI_le (Nat.le_refl _) (by omega)) hh⟩
          conv => whnf
          try dsimp only
          rw [e1]
          exact hX _ _ _ _ _ _ (ih (p + 1) _ _ _ j (by omega) h1 h2 h3 h4)
        | succ m ih2 =>
          intro g o4 j hg h1 h2 h3 h4
          have e2 : nI g + Int32.ofInt 1 = nI (g + 1) := by rw [li_1, nI_add]
          have hAj : MAK j na sp := by
            unfold MAK
            rw [h2 13 (by decide), I89, h1 101 (by decide) (by decide), fI 101 (by decide) (by decide) (by decide)]
            exact hA
          have hmx : mx (mgst j sp (nI g) (nI p) (I 92 (5 * p + z))) (fun a => msc (ch a)) na = mS I sp ch na p g := by
            unfold mS mgst mstk stk mhas
            rw [hvr, h1 106 (by decide) (by decide), h1 100 (by decide) (by decide), h1 105 (by decide) (by decide), h1 102 (by decide) (by decide), h1 103 (by decide) (by decide)]
          refine am_go (am_sp_mo _) (fun q => q == 50) 40 (fun X hX => ?_)
          conv => whnf
          try dsimp only
          rw [h2 13 (by decide), I89, hA.1]
          refine ⟨fun hh => absurd hh (nI_ge (by omega) (by omega)), fun _ => ?_⟩
          conv => whnf
          try dsimp only
          refine m_scoreThere (ch := ch) hAj (by rw [h1 105 (by decide) (by decide), fI 105 (by decide) (by decide) (by decide)]; exact hw) (by rw [h1 104 (by decide) (by decide), fI 104 (by decide) (by decide) (by decide)]; exact hch) (by omega) ?_
          conv => whnf
          try dsimp only
          rw [hmx]
          refine ⟨fun hs => ?_, fun hs => ?_⟩
          · have hT : mT I sp ch na p g = false := by unfold mT; rw [show decide (mS I sp ch na p g = -1) = true from decide_eq_true hs]; simp
            conv => whnf
            try dsimp only
            rw [e2]
            refine hX _ _ _ _ _ _ (ih2 (g + 1) _ j (by omega) h1 h2 ?_ ?_)
            · unfold hlg; rw [hT, if_neg (by decide), List.append_nil]; exact h3
            · unfold hlg; rw [hT, if_neg (by decide), List.append_nil]; exact h4
          have hT : mT I sp ch na p g = true := by unfold mT; rw [show decide (mS I sp ch na p g = -1) = false from decide_eq_false hs, show decide (I 93 p = -1) = false from decide_eq_false (by rw [ez]; exact nI_m1 (by omega))]; rfl
          have hlt := hb p g (by omega) (by omega) hT
          conv => whnf
          try dsimp only
          refine m_tell h3 hlt (by omega) (by omega) (by rw [h1 110 (by decide) (by decide)]; exact a4) (by omega) (fun j2 g1 g2 g3 g4 g5 g6 g7 g8 g9 => ?_)
          conv => whnf
          try dsimp only
          rw [e2]
          refine hX _ _ _ _ _ _ (ih2 (g + 1) _ j2 (by omega) (fun q q1 q2 => (g1 q q1 q2).trans (h1 q q1 q2)) (fun q hq => by rw [g2, if_neg hq]; exact h2 q hq) ?_ ?_)
          · unfold hlg
            rw [hT, if_pos rfl, ← List.append_assoc, List.length_append (bs := [(p, g)]), g2, if_pos rfl]
            rfl
          · unfold hlg
            rw [hT, if_pos rfl, ← List.append_assoc]
            refine h4.snoc (fun q hq w hw => ?_) (fun w hw => ?_)
            · show j2 108 (6 * q + w) = j 108 (6 * q + w)
              exact g3 _ (by omega)
            · show j2 108 (6 * _ + w) = _
              have cs : w = 0 ∨ w = 1 ∨ w = 2 ∨ w = 3 ∨ w = 4 ∨ w = 5 := by omega
              unfold mV hvl
              rcases cs with rfl | rfl | rfl | rfl | rfl | rfl
              · rw [Nat.add_zero, g4]; rfl
              · rw [g5]; rfl
              · rw [g6]; rfl
              · rw [g7, h1 109 (by decide) (by decide)]; rfl
              · rw [g8, h1 110 (by decide) (by decide)]; rfl
              · rw [g9, h2 0 (by decide), h1 107 (by decide) (by decide)]
                unfold mX
                by_cases e : I 89 0 < I 107 (6 * g + p)
                · rw [if_pos e, decide_eq_true e]; rfl
                · rw [if_neg e, decide_eq_false e]; rfl
      exact inl na 0 _ j (by omega) h1 h2 (by rw [hlg, List.append_nil]; exact h3) (by rw [hlg, List.append_nil]; exact h4)
  exact loop np 0 none none none _ (by omega) (fun q q1 q2 => up_a q2) (fun q hq => up_n (Or.inr hq)) (by rw [up_s]; rfl) (fun q hq => absurd hq (by show ¬ q < 0; omega))
end MHITS
