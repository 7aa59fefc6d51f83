/-! GROUPS MADE ONE, UPDATES, CHOICES -/
theorem min_nI {a b : Nat} (ha : a < 2 ^ 31) (hb : b < 2 ^ 31) : (if nI b < nI a then nI b else nI a) = nI (min a b) := by
  by_cases h : b < a
  · rw [if_pos (nI_lt h ha), Nat.min_eq_right (by omega)]
  · rw [if_neg (nI_nlt (by omega) hb), Nat.min_eq_left (by omega)]
theorem max_nI {a b : Nat} (ha : a < 2 ^ 31) (hb : b < 2 ^ 31) : (if nI a < nI b then nI b else nI a) = nI (max a b) := by
  by_cases h : a < b
  · rw [if_pos (nI_lt h hb), Nat.max_eq_right (by omega)]
  · rw [if_neg (nI_nlt (by omega) ha), Nat.max_eq_left (by omega)]
section SAME
variable {xl : Nat} {xs : Nat → Int32} {d : Nat} {i : Nat → Nat → Int32} {Q : am_Q} {np na : Nat} {nv gr : Nat → Nat}
theorem c_same {x y : Int32} (hc : i 20 7 = nI na) (hn : na ≤ 12) (hg : ∀ a, a < na → i 51 a = nI (gr a) ∧ gr a < 12) (hd : 4 ≤ d)
    (h1 : ∀ a b, a < na → b < na → x = nI a → y = nI b → ∀ j : Nat → Nat → Int32, (∀ q, q ≠ 51 → q ≠ 54 + min (gr a) (gr b) → j q = i q) → (∀ c, j 51 c = if c < na ∧ i 51 c = nI (max (gr a) (gr b)) then nI (min (gr a) (gr b)) else i 51 c) → (∀ p, p < 6 → j (54 + min (gr a) (gr b)) p = if i (54 + min (gr a) (gr b)) p < i (54 + max (gr a) (gr b)) p then i (54 + max (gr a) (gr b)) p else i (54 + min (gr a) (gr b)) p) → Q (some (.int (nI (min (gr a) (gr b))))) (KS, j))
    (h0 : (∀ a b, a < na → b < na → ¬ (x = nI a ∧ y = nI b)) → Q (some (.int (-1))) (KS, i)) : SP xl xs d Y_AM_same [.ref 0, .int x, .int y] (KS, i) Q := by
  obtain ⟨d, rfl⟩ : ∃ q, d = q + 1 := ⟨d - 1, by omega⟩
  refine ⟨Nat.le_of_ble_eq_true rfl, am_go (am_sp_mo _) (fun _ => false) 60 (fun X hX => ?_)⟩
  conv => whnf
  try dsimp only
  refine k_Adv_has hc hn (by omega) (fun a ha hx => ?_) (fun hx => ?_)
  · conv => whnf
    try dsimp only
    refine ⟨fun h => absurd h (by decide), fun _ => ?_⟩
    conv => whnf
    try dsimp only
    refine k_Adv_has hc hn (by omega) (fun b hb hy => ?_) (fun hy => ?_)
    · have ga := hg a ha
      have gb := hg b hb
      have hlt : max (gr a) (gr b) < 12 ∧ min (gr a) (gr b) < 12 := by omega
      conv => whnf
      try dsimp only
      refine ⟨fun _ => ?_, fun h => absurd h (by decide)⟩
      conv => whnf
      try dsimp only
      refine k_groupOf hc hn (by omega) (fun a' _ hx' => ?_) (fun hx' => absurd hx (out_np (by omega) hx' ha))
      have := nI_inj (by omega) (by omega) (hx'.symm.trans hx)
      subst this
      conv => whnf
      try dsimp only
      refine k_groupOf hc hn (by omega) (fun b' _ hy' => ?_) (fun hy' => absurd hy (out_np (by omega) hy' hb))
      have := nI_inj (by omega) (by omega) (hy'.symm.trans hy)
      subst this
      conv => whnf
      try dsimp only
      refine k_groupOf hc hn (by omega) (fun a2 _ hx2 => ?_) (fun hx' => absurd hx (out_np (by omega) hx' ha))
      have := nI_inj (by omega) (by omega) (hx2.symm.trans hx)
      subst this
      conv => whnf
      try dsimp only
      refine k_groupOf hc hn (by omega) (fun b2 _ hy2 => ?_) (fun hy' => absurd hy (out_np (by omega) hy' hb))
      have := nI_inj (by omega) (by omega) (hy2.symm.trans hy)
      subst this
      conv => whnf
      try dsimp only
      rw [ga.1, gb.1, min_nI (by omega) (by omega), max_nI (by omega) (by omega)]
      refine k_renameGroup hc hn (by omega) (fun j hj1 hj2 => ?_)
      conv => whnf
      try dsimp only
      refine k_exJoin hlt.1 hlt.2 (by omega) (fun j2 hk1 hk2 => ?_)
      conv => whnf
      try dsimp only
      refine h1 a2 b2 ha hb hx hy j2 (fun q q1 q2 => ?_) (fun c => ?_) (fun p hp => ?_)
      · rw [hk1 q q2, hj1 q q1]
      · rw [hk1 51 (by omega), hj2]
      · rw [hk2 p hp, hj1 _ (by omega), hj1 _ (by omega)]
    · conv => whnf
      try dsimp only
      refine ⟨fun h => absurd rfl h, fun _ => ?_⟩
      conv => whnf
      try dsimp only
      exact h0 fun a b _ hb' e => out_np (by omega) hy hb' e.2
  · conv => whnf
    try dsimp only
    refine ⟨fun _ => ?_, fun h => absurd rfl h⟩
    conv => whnf
    try dsimp only
    exact h0 fun a b ha' _ e => out_np (by omega) hx ha' e.1
theorem m_same {x y : Int32} (hc : i 89 13 = nI na) (hn : na ≤ 12) (hg : ∀ a, a < na → i 106 a = nI (gr a) ∧ gr a < 12) (hd : 2 ≤ d)
    (h1 : ∀ a b, a < na → b < na → x = nI a → y = nI b → ¬ gr a = gr b → ∀ j : Nat → Nat → Int32, (∀ q, q ≠ 106 → q ≠ 107 → j q = i q) → (∀ c, j 106 c = if c < na ∧ i 106 c = nI (max (gr a) (gr b)) then nI (min (gr a) (gr b)) else i 106 c) → (∀ q, j 107 q = if 6 * max (gr a) (gr b) ≤ q ∧ q < 6 * max (gr a) (gr b) + 6 then -1 else if 6 * min (gr a) (gr b) ≤ q ∧ q < 6 * min (gr a) (gr b) + 6 ∧ i 107 q < i 107 (6 * max (gr a) (gr b) + (q - 6 * min (gr a) (gr b))) then i 107 (6 * max (gr a) (gr b) + (q - 6 * min (gr a) (gr b))) else i 107 q) → Q (some (.int (nI (min (gr a) (gr b))))) (KS, j))
    (h2 : ∀ a b, a < na → b < na → x = nI a → y = nI b → gr a = gr b → Q (some (.int (nI (gr a)))) (KS, i))
    (h0 : (∀ a b, a < na → b < na → ¬ (x = nI a ∧ y = nI b)) → Q (some (.int (-1))) (KS, i)) : SP xl xs d Y_Model_same [.ref 89, .int x, .int y] (KS, i) Q := by
  obtain ⟨d, rfl⟩ : ∃ q, d = q + 1 := ⟨d - 1, by omega⟩
  refine ⟨Nat.le_of_ble_eq_true rfl, am_go (am_sp_mo _) (fun q => q == 48 || q == 79 || q == 92) 80 (fun X hX => ?_)⟩
  conv => whnf
  try dsimp only
  refine m_isAdv hc hn (by omega) (fun a ha hx => ?_) (fun hx => ?_)
  · conv => whnf
    try dsimp only
    refine ⟨fun h => absurd h (by decide), fun _ => ?_⟩
    conv => whnf
    try dsimp only
    refine m_isAdv hc hn (by omega) (fun b hb hy => ?_) (fun hy => ?_)
    · have ga := hg a ha
      have gb := hg b hb
      have hina : vp_in x 12 := by rw [hx]; exact vp_in_nI (by omega) (by decide)
      have hinb : vp_in y 12 := by rw [hy]; exact vp_in_nI (by omega) (by decide)
      have ea : i 106 x.toNatClampNeg = nI (gr a) := by rw [hx, nI_clamp (by omega)]; exact ga.1
      have eb : i 106 y.toNatClampNeg = nI (gr b) := by rw [hy, nI_clamp (by omega)]; exact gb.1
      generalize hK : min (gr a) (gr b) = K at h1
      generalize hG : max (gr a) (gr b) = G at h1
      -- what follows once both are known
      have fin : am_wp (ax_E xl xs) (ax_cd Y_Model_same) (am_sp (ax_E xl xs) ax_cd ax_ml d) Q 79 [some (.ref 89), some (.int x), some (.int y), some (.int (nI K)), none, none, none] [.int (nI G)] (KS, i) 0 0 := by
        have hg6 : ∀ p : Nat, Int32.ofInt 6 * nI G + nI p = nI (6 * G + p) := fun p => by rw [li_6, pk_mul, nI_add]
        have hk6 : ∀ p : Nat, Int32.ofInt 6 * nI K + nI p = nI (6 * K + p) := fun p => by rw [li_6, pk_mul, nI_add]
        have hKG : K ≤ G ∧ G < 12 := by omega
        refine am_go (am_sp_mo _) (fun q => q == 92) 30 (fun X hX => ?_)
        conv => whnf
        try dsimp only
        refine ⟨fun hne => ?_, fun heq => ?_⟩
        rotate_left
        · have : K = G := nI_inj (by omega) (by omega) heq
          have e1 : gr a = K := by omega
          conv => whnf
          try dsimp only
          have := h2 a b ha hb hx hy (by omega)
          rw [e1] at this
          exact this
        have hne' : ¬ K = G := fun e => hne (by rw [e])
        have h1 := h1 a b ha hb hx hy (by omega)
        rw [hK, hG] at h1
        conv => whnf
        try dsimp only
        refine hX _ _ _ _ _ _ ?_
        have ends : ∀ m p o (j : Nat → Nat → Int32), p + m = 6 → (∀ q, q ≠ 106 → q ≠ 107 → j q = i q) → (∀ c, j 106 c = if c < na ∧ i 106 c = nI G then nI K else i 106 c) → (∀ q, j 107 q = if 6 * G ≤ q ∧ q < 6 * G + p then -1 else if 6 * K ≤ q ∧ q < 6 * K + p ∧ i 107 q < i 107 (6 * G + (q - 6 * K)) then i 107 (6 * G + (q - 6 * K)) else i 107 q) → am_wp (ax_E xl xs) (ax_cd Y_Model_same) (am_sp (ax_E xl xs) ax_cd ax_ml d) Q 140 [some (.ref 89), some (.int x), some (.int y), some (.int (nI K)), some (.int (nI G)), some (.int (nI p)), o] [] (KS, j) 0 0 := by
          intro m
          induction m with
          | zero =>
            intro p o j hp k1 k2 k3
            have : p = 6 := by omega
            subst this
            refine am_go (am_sp_mo _) (fun q => q == 140) 30 (fun X hX => ?_)
            conv => whnf
            try dsimp only
            refine ⟨fun _ => ?_, fun hh => absurd (by decide) hh⟩
            conv => whnf
            try dsimp only
            exact h1 j k1 k2 k3
          | succ m ih =>
            intro p o j hp k1 k2 k3
            have jg : j 107 (6 * G + p) = i 107 (6 * G + p) := by rw [k3, if_neg (by omega), if_neg (fun z => by omega)]
            have jk : j 107 (6 * K + p) = i 107 (6 * K + p) := by rw [k3, if_neg (by omega), if_neg (fun z => by omega)]
            refine am_go (am_sp_mo _) (fun q => q == 140) 60 (fun X hX => ?_)
            conv => whnf
            try dsimp only
            refine ⟨fun hh => absurd hh (by rw [li_6]; exact nI_ge (by omega) (by decide)), fun _ => ?_⟩
            conv => whnf
            try dsimp only
            rw [hg6]
            refine ⟨72, [], rfl, vp_in_nI (by omega) (by decide), ?_⟩
            conv => whnf
            try dsimp only
            rw [hk6]
            refine ⟨72, [], rfl, vp_in_nI (by omega) (by decide), ?_⟩
            conv => whnf
            try dsimp only
            rw [nI_clamp (show 6 * G + p < 2 ^ 31 by omega), nI_clamp (show 6 * K + p < 2 ^ 31 by omega), jg, jk]
            refine ⟨fun hle => ?_, fun hle => ?_⟩
            · have hle' : ¬ i 107 (6 * K + p) < i 107 (6 * G + p) := by rw [Int32.lt_iff_toInt_lt]; rw [Int32.le_iff_toInt_le] at hle; omega
              conv => whnf
              try dsimp only
              rw [hg6]
              refine ⟨72, [], rfl, vp_in_nI (by omega) (by decide), ?_⟩
              conv => whnf
              try dsimp only
              rw [nI_clamp (show 6 * G + p < 2 ^ 31 by omega)]
              refine hX _ _ _ _ _ _ (am_wpL ?_ rfl (ih (p + 1) (some (.int (i 107 (6 * G + p)))) (am_up j 107 (6 * G + p) (-1)) (by omega) (fun q q1 q2 => (up_a q2).trans (k1 q q1 q2)) (fun c => by rw [up_n (Or.inl (by decide))]; exact k2 c) (fun q => ?_)))
              · show [_, _, _, _, _, some (Value.int (nI p + Int32.ofInt 1)), _] = _
                rw [li_1, nI_add]
                try rfl
              · rw [up_at, k3]
                by_cases e1 : q = 6 * G + p
                · rw [if_pos ⟨rfl, e1⟩, if_pos (by omega)]
                · rw [if_neg (by omega)]
                  by_cases e2 : 6 * G ≤ q ∧ q < 6 * G + p
                  · rw [if_pos e2, if_pos (by omega)]
                  · rw [if_neg e2, if_neg (show ¬ (6 * G ≤ q ∧ q < 6 * G + (p + 1)) by omega)]
                    by_cases e3 : q = 6 * K + p
                    · subst e3
                      rw [if_neg (show ¬ (6 * K ≤ 6 * K + p ∧ 6 * K + p < 6 * K + p ∧ _) from fun z => absurd z.2.1 (by omega)), if_neg (fun z => hle' (by have := z.2.2; rw [show 6 * G + (6 * K + p - 6 * K) = 6 * G + p by omega] at this; exact this))]
                    · by_cases e4 : 6 * K ≤ q ∧ q < 6 * K + p ∧ i 107 q < i 107 (6 * G + (q - 6 * K))
                      · rw [if_pos e4, if_pos ⟨e4.1, by omega, e4.2.2⟩]
                      · rw [if_neg e4, if_neg (fun z => e4 ⟨z.1, by omega, z.2.2⟩)]
            · have hle' : i 107 (6 * K + p) < i 107 (6 * G + p) := by rw [Int32.lt_iff_toInt_lt]; rw [Int32.le_iff_toInt_le] at hle; omega
              conv => whnf
              try dsimp only
              rw [hk6]
              refine ⟨72, [], rfl, vp_in_nI (by omega) (by decide), ?_⟩
              conv => whnf
              try dsimp only
              rw [hg6]
              refine ⟨72, [], rfl, vp_in_nI (by omega) (by decide), ?_⟩
              conv => whnf
              try dsimp only
              rw [nI_clamp (show 6 * G + p < 2 ^ 31 by omega), nI_clamp (show 6 * K + p < 2 ^ 31 by omega)]
              refine hX _ _ _ _ _ _ (am_wpL ?_ rfl (ih (p + 1) (some (.int (i 107 (6 * G + p)))) (am_up (am_up j 107 (6 * K + p) (i 107 (6 * G + p))) 107 (6 * G + p) (-1)) (by omega) (fun q q1 q2 => by rw [up_a q2, up_a q2]; exact k1 q q1 q2) (fun c => by rw [up_n (Or.inl (by decide)), up_n (Or.inl (by decide))]; exact k2 c) (fun q => ?_)))
              · show [_, _, _, _, _, some (Value.int (nI p + Int32.ofInt 1)), _] = _
                rw [li_1, nI_add]
                try rfl
              · rw [up_at, up_at, k3]
                by_cases e1 : q = 6 * G + p
                · rw [if_pos ⟨rfl, e1⟩, if_pos (by omega)]
                · rw [if_neg (by omega)]
                  by_cases e3 : q = 6 * K + p
                  · subst e3
                    rw [if_pos ⟨rfl, rfl⟩, if_neg (show ¬ (6 * G ≤ 6 * K + p ∧ 6 * K + p < 6 * G + (p + 1)) by omega), if_pos ⟨by omega, by omega, by rw [show 6 * G + (6 * K + p - 6 * K) = 6 * G + p by omega]; exact hle'⟩, show 6 * G + (6 * K + p - 6 * K) = 6 * G + p by omega]
                  · rw [if_neg (by omega)]
                    by_cases e2 : 6 * G ≤ q ∧ q < 6 * G + p
                    · rw [if_pos e2, if_pos (by omega)]
                    · rw [if_neg e2, if_neg (show ¬ (6 * G ≤ q ∧ q < 6 * G + (p + 1)) by omega)]
                      by_cases e4 : 6 * K ≤ q ∧ q < 6 * K + p ∧ i 107 q < i 107 (6 * G + (q - 6 * K))
                      · rw [if_pos e4, if_pos ⟨e4.1, by omega, e4.2.2⟩]
                      · rw [if_neg e4, if_neg (fun z => e4 ⟨z.1, by omega, z.2.2⟩)]
        have ren : ∀ m k (j : Nat → Nat → Int32), k + m = na → (∀ q, q ≠ 106 → j q = i q) → (∀ c, j 106 c = if c < k ∧ i 106 c = nI G then nI K else i 106 c) → am_wp (ax_E xl xs) (ax_cd Y_Model_same) (am_sp (ax_E xl xs) ax_cd ax_ml d) Q 92 [some (.ref 89), some (.int x), some (.int y), some (.int (nI K)), some (.int (nI G)), some (.int (nI k)), none] [] (KS, j) 0 0 := by
          intro m
          induction m with
          | zero =>
            intro k j hk k1 k2
            have : k = na := by omega
            subst this
            refine am_go (am_sp_mo _) (fun q => q == 92 || q == 140) 30 (fun X hX => ?_)
            conv => whnf
            try dsimp only
            rw [k1 89 (by decide), hc]
            refine ⟨fun _ => ?_, fun hh => absurd (nI_le (Nat.le_refl _) (by omega)) hh⟩
            conv => whnf
            try dsimp only
            exact hX _ _ _ _ _ _ (ends 6 0 none j (by omega) (fun q q1 _ => k1 q q1) k2 (fun q => by rw [if_neg (by omega), if_neg (by omega), k1 107 (by decide)]))
          | succ m ih =>
            intro k j hk k1 k2
            have jk : j 106 k = i 106 k := by rw [k2, if_neg (by omega)]
            have hcl : (nI k).toNatClampNeg = k := nI_clamp (by omega)
            refine am_go (am_sp_mo _) (fun q => q == 92) 60 (fun X hX => ?_)
            conv => whnf
            try dsimp only
            rw [k1 89 (by decide), hc]
            refine ⟨fun hh => absurd hh (nI_ge (by omega) (by omega)), fun _ => ?_⟩
            conv => whnf
            try dsimp only
            refine ⟨12, [], rfl, vp_in_nI (by omega) (by decide), ?_⟩
            conv => whnf
            try dsimp only
            rw [hcl, jk]
            refine ⟨fun hne => ?_, fun heq => ?_⟩
            · conv => whnf
              try dsimp only
              rw [hcl]
              refine ⟨12, [], rfl, vp_in_nI (by omega) (by decide), ?_⟩
              conv => whnf
              try dsimp only
              refine ⟨12, [], rfl, vp_in_nI (by omega) (by decide), ?_⟩
              conv => whnf
              try dsimp only
              try rw [hcl]
              try rw [jk]
              refine hX _ _ _ _ _ _ (am_wpL ?_ rfl (ih (k + 1) (am_up j 106 k (i 106 k)) (by omega) (fun q q1 => (up_a q1).trans (k1 q q1)) (fun c => ?_)))
              · show [_, _, _, _, _, some (Value.int (nI k + Int32.ofInt 1)), _] = _
                rw [li_1, nI_add]
                try rfl
              · rw [up_at, k2]
                by_cases e1 : c = k
                · subst e1
                  rw [if_pos ⟨rfl, rfl⟩, if_neg (fun z => hne z.2)]
                · rw [if_neg (by omega)]
                  by_cases e2 : c < k ∧ i 106 c = nI G
                  · rw [if_pos e2, if_pos ⟨by omega, e2.2⟩]
                  · rw [if_neg e2, if_neg (fun z => e2 ⟨by omega, z.2⟩)]
            · conv => whnf
              try dsimp only
              refine ⟨12, [], rfl, vp_in_nI (by omega) (by decide), ?_⟩
              conv => whnf
              try dsimp only
              try rw [hcl]
              refine hX _ _ _ _ _ _ (am_wpL ?_ rfl (ih (k + 1) (am_up j 106 k (nI K)) (by omega) (fun q q1 => (up_a q1).trans (k1 q q1)) (fun c => ?_)))
              · show [_, _, _, _, _, some (Value.int (nI k + Int32.ofInt 1)), _] = _
                rw [li_1, nI_add]
                try rfl
              · rw [up_at, k2]
                by_cases e1 : c = k
                · subst e1
                  rw [if_pos ⟨rfl, rfl⟩, if_pos ⟨by omega, heq⟩]
                · rw [if_neg (by omega)]
                  by_cases e2 : c < k ∧ i 106 c = nI G
                  · rw [if_pos e2, if_pos ⟨by omega, e2.2⟩]
                  · rw [if_neg e2, if_neg (fun z => e2 ⟨by omega, z.2⟩)]
        exact ren na 0 i (by omega) (fun _ _ => rfl) (fun c => by rw [if_neg (by omega)])
      have mid : am_wp (ax_E xl xs) (ax_cd Y_Model_same) (am_sp (ax_E xl xs) ax_cd ax_ml d) Q 48 [some (.ref 89), some (.int x), some (.int y), none, none, none, none] [.int (nI K)] (KS, i) 0 0 := by
        refine am_go (am_sp_mo _) (fun q => q == 79) 40 (fun X hX => ?_)
        conv => whnf
        try dsimp only
        refine ⟨12, [], rfl, hina, ?_⟩
        conv => whnf
        try dsimp only
        refine ⟨12, [], rfl, hinb, ?_⟩
        conv => whnf
        try dsimp only
        rw [ea, eb]
        refine ⟨fun hh => ?_, fun hh => ?_⟩
        · have : gr b ≤ gr a := (nI_leI (by omega) (by omega)).mp hh
          conv => whnf
          try dsimp only
          refine ⟨12, [], rfl, hina, ?_⟩
          conv => whnf
          try dsimp only
          rw [ea, show gr a = G by omega]
          exact hX _ _ _ _ _ _ fin
        · have : ¬ gr b ≤ gr a := fun q => hh (nI_le q (by omega))
          conv => whnf
          try dsimp only
          refine ⟨12, [], rfl, hinb, ?_⟩
          conv => whnf
          try dsimp only
          rw [eb, show gr b = G by omega]
          exact hX _ _ _ _ _ _ fin
      conv => whnf
      try dsimp only
      refine ⟨fun _ => ?_, fun h => absurd h (by decide)⟩
      conv => whnf
      try dsimp only
      refine ⟨12, [], rfl, hina, ?_⟩
      conv => whnf
      try dsimp only
      refine ⟨12, [], rfl, hinb, ?_⟩
      conv => whnf
      try dsimp only
      rw [ea, eb]
      refine ⟨fun hh => ?_, fun hh => ?_⟩
      · have : gr b ≤ gr a := (nI_leI (by omega) (by omega)).mp hh
        conv => whnf
        try dsimp only
        refine ⟨12, [], rfl, hinb, ?_⟩
        conv => whnf
        try dsimp only
        rw [eb, show gr b = K by omega]
        exact hX _ _ _ _ _ _ mid
      · have : ¬ gr b ≤ gr a := fun q => hh (nI_le q (by omega))
        conv => whnf
        try dsimp only
        refine ⟨12, [], rfl, hina, ?_⟩
        conv => whnf
        try dsimp only
        rw [ea, show gr a = K by omega]
        exact hX _ _ _ _ _ _ mid
    · conv => whnf
      try dsimp only
      refine ⟨fun h => absurd rfl h, fun _ => ?_⟩
      conv => whnf
      try dsimp only
      exact h0 fun a b _ hb' e => out_np (by omega) hy hb' e.2
  · conv => whnf
    try dsimp only
    refine ⟨fun _ => ?_, fun h => absurd rfl h⟩
    conv => whnf
    try dsimp only
    exact h0 fun a b ha' _ e => out_np (by omega) hx ha' e.1
theorem c_update (hk : PK i np nv) (hb : i 84 7 = 0 ∨ i 84 7 = 1) (hl : ∀ p, p < np → i 88 p = -1 ∨ ∃ k, k < nv p ∧ i 88 p = nI k) (hd : 5 ≤ d)
    (h1 : i 84 7 = 1 → ∀ j : Nat → Nat → Int32, (∀ b, b ≠ 11 → b ≠ 12 → j b = i b) → (∀ p, p < 6 → j 11 p = if p < np ∧ umv (i 11) (i 88) p = true then i 88 p else i 11 p) → (∀ p, p < 6 → j 12 p = if p < np ∧ umv (i 11) (i 88) p = true then i (4 + p) (i 88 p).toNatClampNeg else i 12 p) → Q (some (.int (nI (bcnt (umv (i 11) (i 88)) np)))) (KS, j))
    (h0 : i 84 7 = 0 → Q (some (.int (-1))) (KS, i)) : SP xl xs d Y_AM_update [.ref 0] (KS, i) Q := by
  have hp := hk.1
  have hn := hk.2.1
  obtain ⟨d, rfl⟩ : ∃ q, d = q + 1 := ⟨d - 1, by omega⟩
  refine ⟨Nat.le_of_ble_eq_true rfl, am_go (am_sp_mo _) (fun _ => false) 20 (fun X hX => ?_)⟩
  conv => whnf
  try dsimp only
  have carry : ∀ {d : Nat} {Q : am_Q}, 4 ≤ d → (i 84 7 = 1 → ∀ j : Nat → Nat → Int32, (∀ b, b ≠ 11 → b ≠ 12 → j b = i b) → (∀ p, p < 6 → j 11 p = if p < np ∧ umv (i 11) (i 88) p = true then i 88 p else i 11 p) → (∀ p, p < 6 → j 12 p = if p < np ∧ umv (i 11) (i 88) p = true then i (4 + p) (i 88 p).toNatClampNeg else i 12 p) → Q (some (.int (nI (bcnt (umv (i 11) (i 88)) np)))) (KS, j)) → (i 84 7 = 0 → Q (some (.int (-1))) (KS, i)) → SP xl xs d Y_Planner_carryOut [.ref 84] (KS, i) Q := by
    intro d Q hd h1 h0
    obtain ⟨d, rfl⟩ : ∃ q, d = q + 1 := ⟨d - 1, by omega⟩
    refine ⟨Nat.le_of_ble_eq_true rfl, am_go (am_sp_mo _) (fun q => q == 13) 30 (fun X hX => ?_)⟩
    conv => whnf
    try dsimp only
    refine ⟨fun hz => ?_, fun hz => ?_⟩
    rotate_left
    · conv => whnf
      try dsimp only
      exact h0 hz
    have h1 := h1 (hb.resolve_left hz)
    conv => whnf
    try dsimp only
    refine hX _ _ _ _ _ _ ?_
    have loop : ∀ m p o (j : Nat → Nat → Int32), p + m = 6 → (∀ b, b ≠ 11 → b ≠ 12 → j b = i b) → (∀ q, j 11 q = if (q < p ∧ q < np) ∧ umv (i 11) (i 88) q = true then i 88 q else i 11 q) → (∀ q, j 12 q = if (q < p ∧ q < np) ∧ umv (i 11) (i 88) q = true then i (4 + q) (i 88 q).toNatClampNeg else i 12 q) → am_wp (ax_E xl xs) (ax_cd Y_Planner_carryOut) (am_sp (ax_E xl xs) ax_cd ax_ml d) Q 13 [some (.ref 84), some (.int (nI (bcnt (umv (i 11) (i 88)) (min p np)))), some (.int (nI p)), o] [] (KS, j) 0 0 := by
      intro m
      induction m with
      | zero =>
        intro p o j hpp h2 h3 h4
        have : p = 6 := by omega
        subst this
        rw [Nat.min_eq_right hn]
        refine am_go (am_sp_mo _) (fun q => q == 13) 30 (fun X hX => ?_)
        conv => whnf
        try dsimp only
        refine ⟨fun _ => ?_, fun hh => absurd (by decide) hh⟩
        conv => whnf
        try dsimp only
        refine h1 j h2 (fun p hp' => ?_) (fun p hp' => ?_)
        · rw [h3]
          by_cases h9 : p < np ∧ umv (i 11) (i 88) p = true
          · rw [if_pos h9, if_pos ⟨⟨hp', h9.1⟩, h9.2⟩]
          · rw [if_neg h9, if_neg (fun z => h9 ⟨z.1.2, z.2⟩)]
        · rw [h4]
          by_cases h9 : p < np ∧ umv (i 11) (i 88) p = true
          · rw [if_pos h9, if_pos ⟨⟨hp', h9.1⟩, h9.2⟩]
          · rw [if_neg h9, if_neg (fun z => h9 ⟨z.1.2, z.2⟩)]
      | succ m ih =>
        intro p o j hpp h2 h3 h4
        have hcp : (nI p).toNatClampNeg = p := nI_clamp (by omega)
        have hjp : j 11 p = i 11 p := by rw [h3, if_neg (by omega)]
        have hkj : PK j np nv := hk.fr (h2 1 (by decide) (by decide)) (h2 10 (by decide) (by decide))
        have hin : vp_in (nI p) 6 := vp_in_nI (by omega) (by decide)
        have same : ∀ o', (p < np → umv (i 11) (i 88) p = false) → am_wp (ax_E xl xs) (ax_cd Y_Planner_carryOut) (am_sp (ax_E xl xs) ax_cd ax_ml d) Q 13 [some (.ref 84), some (.int (nI (bcnt (umv (i 11) (i 88)) (min p np)))), some (.int (nI p + Int32.ofInt 1)), o'] [] (KS, j) 0 0 := by
          intro o' e
          refine am_wpL ?_ rfl (ih (p + 1) o' j (by omega) h2 (fun q => ?_) (fun q => ?_))
          · have hc : bcnt (umv (i 11) (i 88)) (min (p + 1) np) = bcnt (umv (i 11) (i 88)) (min p np) := by
              by_cases hlt : p < np
              · rw [Nat.min_eq_left (by omega), Nat.min_eq_left (by omega), bcnt, e hlt]
                rfl
              · rw [Nat.min_eq_right (by omega), Nat.min_eq_right (by omega)]
            rw [hc, li_1, nI_add]
          · rw [h3]
            by_cases h9 : (q < p ∧ q < np) ∧ umv (i 11) (i 88) q = true
            · rw [if_pos h9, if_pos ⟨⟨by omega, h9.1.2⟩, h9.2⟩]
            · rw [if_neg h9, if_neg (fun z => ?_)]
              by_cases eq : q = p
              · subst eq
                rw [e z.1.2] at z
                cases z.2
              · exact h9 ⟨⟨by omega, z.1.2⟩, z.2⟩
          · rw [h4]
            by_cases h9 : (q < p ∧ q < np) ∧ umv (i 11) (i 88) q = true
            · rw [if_pos h9, if_pos ⟨⟨by omega, h9.1.2⟩, h9.2⟩]
            · rw [if_neg h9, if_neg (fun z => ?_)]
              by_cases eq : q = p
              · subst eq
                rw [e z.1.2] at z
                cases z.2
              · exact h9 ⟨⟨by omega, z.1.2⟩, z.2⟩
        refine am_go (am_sp_mo _) (fun q => q == 13) 60 (fun X hX => ?_)
        conv => whnf
        try dsimp only
        refine ⟨fun hh => absurd hh (by rw [li_6]; exact nI_ge (by omega) (by decide)), fun _ => ?_⟩
        conv => whnf
        try dsimp only
        refine k_placeOf hkj (by omega) (fun p' hp' ep => ?_) (fun hout => ?_)
        · have := nI_inj (by omega) (by omega) ep
          subst this
          conv => whnf
          try dsimp only
          rw [hjp]
          refine ⟨fun hm => ?_, fun hm => ?_⟩
          · conv => whnf
            try dsimp only
            exact hX _ _ _ _ _ _ (same _ (fun _ => by unfold umv; rw [show decide (i 11 p = -1) = true from decide_eq_true hm]; rfl))
          have hm' : decide (i 11 p = -1) = false := decide_eq_false hm
          conv => whnf
          try dsimp only
          refine ⟨6, [], rfl, hin, ?_⟩
          conv => whnf
          try dsimp only
          rw [hcp, h2 88 (by decide) (by decide)]
          refine ⟨fun hg => ?_, fun hg => ?_⟩
          · conv => whnf
            try dsimp only
            exact hX _ _ _ _ _ _ (same _ (fun _ => by unfold umv; rw [show decide (i 88 p = -1) = true from decide_eq_true hg, Bool.not_true, Bool.false_and, Bool.and_false]))
          have hg' : decide (i 88 p = -1) = false := decide_eq_false hg
          obtain ⟨z, hz, ez⟩ := (hl p hp').resolve_left hg
          conv => whnf
          try dsimp only
          refine ⟨6, [], rfl, hin, ?_⟩
          conv => whnf
          try dsimp only
          try rw [hcp]
          rw [h2 88 (by decide) (by decide)]
          refine ⟨fun heq => ?_, fun hne => ?_⟩
          · conv => whnf
            try dsimp only
            exact hX _ _ _ _ _ _ (same _ (fun _ => by unfold umv; rw [show decide (i 88 p = i 11 p) = true from decide_eq_true heq, Bool.not_true, Bool.and_false, Bool.and_false]))
          have hu : umv (i 11) (i 88) p = true := by unfold umv; rw [hm', hg', show decide (i 88 p = i 11 p) = false from decide_eq_false hne]; rfl
          conv => whnf
          try dsimp only
          refine ⟨6, [], rfl, hin, ?_⟩
          conv => whnf
          try dsimp only
          try rw [hcp]
          rw [h2 88 (by decide) (by decide)]
          refine k_putPlace hkj (by omega) (fun p2 _ _ e2 => absurd e2 hg) (fun p2 k2 _ hk2 e1 e2 => ?_) (fun hno => absurd ez ((hno p hp' rfl).2 z hz))
          have := nI_inj (by omega) (by omega) e1
          subst this
          conv => whnf
          try dsimp only
          refine hX _ _ _ _ _ _ (am_wpL ?_ rfl (ih (p + 1) (some (.int (i 11 p))) (am_up (am_up j 11 p (nI k2)) 12 p (j (4 + p) k2)) (by omega) (fun b b1 b2 => by rw [up_a b2, up_a b1]; exact h2 b b1 b2) (fun q => ?_) (fun q => ?_)))
          · show [_, some (Value.int (nI (bcnt (umv (i 11) (i 88)) (min p np)) + Int32.ofInt 1)), some (Value.int (nI p + Int32.ofInt 1)), _] = _
            rw [Nat.min_eq_left (by omega), Nat.min_eq_left (by omega), bcnt, hu, li_1, nI_add, nI_add]
            rfl
          · rw [up_n (Or.inl (by decide)), up_at]
            by_cases eq : q = p
            · subst eq
              rw [if_pos ⟨rfl, rfl⟩, if_pos ⟨⟨by omega, hp'⟩, hu⟩, e2]
            · rw [if_neg (by omega), h3]
              by_cases h9 : (q < p ∧ q < np) ∧ umv (i 11) (i 88) q = true
              · rw [if_pos h9, if_pos ⟨⟨by omega, h9.1.2⟩, h9.2⟩]
              · rw [if_neg h9, if_neg (fun w => h9 ⟨⟨by omega, w.1.2⟩, w.2⟩)]
          · rw [up_at]
            by_cases eq : q = p
            · subst eq
              have h5 := (hk.2.2 q (by omega)).2
              rw [if_pos ⟨rfl, rfl⟩, if_pos ⟨⟨by omega, hp'⟩, hu⟩, e2, nI_clamp (by omega), h2 (4 + q) (by omega) (by omega)]
            · rw [if_neg (by omega), up_n (Or.inl (by decide)), h4]
              by_cases h9 : (q < p ∧ q < np) ∧ umv (i 11) (i 88) q = true
              · rw [if_pos h9, if_pos ⟨⟨by omega, h9.1.2⟩, h9.2⟩]
              · rw [if_neg h9, if_neg (fun w => h9 ⟨⟨by omega, w.1.2⟩, w.2⟩)]
        · conv => whnf
          try dsimp only
          refine ⟨fun _ => ?_, fun hh => absurd rfl hh⟩
          conv => whnf
          try dsimp only
          exact hX _ _ _ _ _ _ (same _ (fun hlt => absurd rfl (out_np (by omega) hout hlt)))
    exact loop 6 0 none i (by omega) (fun _ _ _ => rfl) (fun q => by rw [if_neg (by omega)]) (fun q => by rw [if_neg (by omega)])
  refine carry (by omega) (fun h j a b c => ?_) (fun h => ?_)
  · conv => whnf
    try dsimp only
    exact h1 h j a b c
  · conv => whnf
    try dsimp only
    exact h0 h
end SAME
