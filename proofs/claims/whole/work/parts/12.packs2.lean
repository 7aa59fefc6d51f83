/-! PACKS: writes -/
theorem PK.fr {i j : Nat → Nat → Int32} {np : Nat} {nv : Nat → Nat} (h : PK i np nv) (h1 : j 1 = i 1) (h2 : j 10 = i 10) : PK j np nv := by
  unfold PK at *
  rw [h1, h2]
  exact h
theorem li_M : Int32.ofInt 1000000 = nI 1000000 := by decide
theorem li_G : Int32.ofInt 1000000000 = nI 1000000000 := by decide
theorem nI_0m1 : nI 0 - nI 1 = -1 := by decide
section PACKS2
variable {xl : Nat} {xs : Nat → Int32} {d : Nat} {i : Nat → Nat → Int32} {Q : am_Q} {np : Nat} {nv : Nat → Nat}
theorem k_addVersion {x v : Int32} (hk : PK i np nv) (hd : 3 ≤ d)
    (h1 : ∀ p, p < np → x = nI p → ¬ v < 0 → ¬ nI 1000000 < v → nv p < 5 → (nv p = 0 ∨ i (4 + p) (nv p - 1) < v) → Q (some (.int (nI (nv p)))) (KS, am_up (am_up i (4 + p) (nv p) v) 10 p (nI (nv p + 1))))
    (h0 : (∀ p, p < np → x = nI p → ¬ v < 0 → ¬ nI 1000000 < v → nv p < 5 → ¬ (nv p = 0 ∨ i (4 + p) (nv p - 1) < v)) → Q (some (.int (-1))) (KS, i)) : SP xl xs d Y_Packs_addVersion [.ref 1, .int x, .int v] (KS, i) Q := by
  have hk0 := hk
  obtain ⟨hp, hn, hv⟩ := hk
  obtain ⟨d, rfl⟩ : ∃ q, d = q + 1 := ⟨d - 1, by omega⟩
  refine ⟨Nat.le_of_ble_eq_true rfl, am_go (am_sp_mo _) (fun _ => false) 60 (fun X hX => ?_)⟩
  conv => whnf
  try dsimp only
  refine k_Packs_has np hp hn (by omega) (fun p hpp hx => ?_) (fun hx => ?_)
  · have hv1 := hv p (by omega)
    have huni : ∀ q, q < np → x = nI q → q = p := fun q hq e => nI_inj (by omega) (by omega) (e.symm.trans hx)
    conv => whnf
    try dsimp only
    refine ⟨fun h => absurd h (by decide), fun _ => ?_⟩
    conv => whnf
    try dsimp only
    refine ⟨fun h => ?_, fun hv0 => ?_⟩
    · conv => whnf
      try dsimp only
      exact h0 fun q _ _ hq0 => absurd h hq0
    conv => whnf
    try dsimp only
    refine ⟨fun hvM => ?_, fun h => ?_⟩
    · conv => whnf
      try dsimp only
      refine ⟨6, [], rfl, by rw [hx]; exact vp_in_nI (by omega) (by decide), ?_⟩
      conv => whnf
      try dsimp only
      refine ⟨fun h5 => ?_, fun h5 => ?_⟩
      · conv => whnf
        try dsimp only
        refine h0 fun q hq e _ _ h => ?_
        have := huni q hq e
        subst this
        rw [hx, nI_clamp (by omega), hv1.1, li_5] at h5
        exact absurd h5 (nI_ge h (by omega))
      have hlt : nv p < 5 := by
        rw [hx, nI_clamp (by omega), hv1.1, li_5] at h5
        rcases Nat.lt_or_ge (nv p) 5 with q | q
        · exact q
        · exact absurd (nI_le q (by omega)) h5
      conv => whnf
      try dsimp only
      have hend : (nv p = 0 ∨ i (4 + p) (nv p - 1) < v) → Q (some (.int (nI (nv p)))) (KS, am_up (am_up i (4 + p) (nv p) v) 10 p (nI (nv p + 1))) := h1 p hpp hx hv0 (by rw [li_M] at hvM; exact fun h => by rw [Int32.lt_iff_toInt_lt] at h; rw [Int32.le_iff_toInt_le] at hvM; omega) hlt
      have hcl : i 10 x.toNatClampNeg = nI (nv p) := by rw [hx, nI_clamp (by omega)]; exact hv1.1
      refine k_versionAt hk0 (by omega) (fun p' k hp' hk' e1 e2 => ?_) (fun hno => ?_)
      · have := huni p' hp' e1
        subst this
        have hk1 : k = nv p' - 1 := by
          rw [hcl, li_1] at e2
          have hpos : 0 < nv p' := by omega
          rw [show nI (nv p') - nI 1 = nI (nv p' - 1) by rw [show nv p' = (nv p' - 1) + 1 by omega]; exact nI_pred1 _] at e2
          exact (nI_inj (by omega) (by omega) e2).symm
        conv => whnf
        try dsimp only
        refine ⟨fun h => ?_, fun h => ?_⟩
        · conv => whnf
          try dsimp only
          refine ⟨6, _, 4 + p', rfl, by rw [hx]; exact vp_in_nI (by omega) (by decide), by rw [hx, nI_clamp (by omega)]; exact rg_ver p' (by omega), ?_⟩
          conv => whnf
          try dsimp only
          refine ⟨5, [], ks_ver p' (by omega), by rw [hcl]; exact vp_in_nI (by omega) (by decide), ?_⟩
          conv => whnf
          try dsimp only
          refine ⟨6, [], rfl, by rw [hx]; exact vp_in_nI (by omega) (by decide), ?_⟩
          conv => whnf
          try dsimp only
          refine q_eq ?_ ?_ (hend (Or.inr (by rw [← hk1]; exact h)))
          · rw [hcl]
          · rw [hcl, hx, nI_clamp (by omega), nI_clamp (by omega), li_1, nI_add]
        · conv => whnf
          try dsimp only
          refine h0 fun q hq e _ _ _ h9 => ?_
          have := huni q hq e
          subst this
          rcases h9 with h9 | h9
          · omega
          · rw [← hk1] at h9
            exact h h9
      · have hz : nv p = 0 := by
          rcases Nat.eq_zero_or_pos (nv p) with q | q
          · exact q
          · refine absurd ⟨hx, ?_⟩ (hno p (nv p - 1) hpp (by omega))
            rw [hcl, li_1, show nv p = (nv p - 1) + 1 by omega]
            exact nI_pred1 _
        conv => whnf
        try dsimp only
        refine ⟨fun h => ?_, fun h => ?_⟩
        · conv => whnf
          try dsimp only
          refine ⟨6, _, 4 + p, rfl, by rw [hx]; exact vp_in_nI (by omega) (by decide), by rw [hx, nI_clamp (by omega)]; exact rg_ver p (by omega), ?_⟩
          conv => whnf
          try dsimp only
          refine ⟨5, [], ks_ver p (by omega), by rw [hcl]; exact vp_in_nI (by omega) (by decide), ?_⟩
          conv => whnf
          try dsimp only
          refine ⟨6, [], rfl, by rw [hx]; exact vp_in_nI (by omega) (by decide), ?_⟩
          conv => whnf
          try dsimp only
          refine q_eq ?_ ?_ (hend (Or.inl hz))
          · rw [hcl]
          · rw [hcl, hx, nI_clamp (by omega), nI_clamp (by omega), li_1, nI_add]
        · exfalso
          rw [Int32.lt_iff_toInt_lt] at h hv0
          rw [show (-1 : Int32).toInt = -1 by decide] at h
          rw [show (0 : Int32).toInt = 0 by decide] at hv0
          omega
    · conv => whnf
      try dsimp only
      refine h0 fun q _ _ _ h9 => absurd h9 ?_
      rw [li_M] at h
      exact fun h9 => h9 (by rw [Int32.lt_iff_toInt_lt]; rw [Int32.le_iff_toInt_le] at h; omega)
  · conv => whnf
    try dsimp only
    refine ⟨fun _ => ?_, fun h => absurd rfl h⟩
    conv => whnf
    try dsimp only
    exact h0 fun q hq e => absurd e (out_np (by omega) hx hq)
theorem k_putPlace {x y : Int32} (hk : PK i np nv) (hd : 3 ≤ d)
    (h1 : ∀ p, p < np → x = nI p → y = -1 → Q (some (.int 1)) (KS, am_up (am_up i 11 p (-1)) 12 p (-1)))
    (h2 : ∀ p k, p < np → k < nv p → x = nI p → y = nI k → Q (some (.int 1)) (KS, am_up (am_up i 11 p (nI k)) 12 p (i (4 + p) k)))
    (h0 : (∀ p, p < np → x = nI p → ¬ y = -1 ∧ ∀ k, k < nv p → ¬ y = nI k) → Q (some (.int 0)) (KS, i)) : SP xl xs d Y_Packs_putPlace [.ref 1, .int x, .int y] (KS, i) Q := by
  have hk0 := hk
  obtain ⟨hp, hn, hv⟩ := hk
  obtain ⟨d, rfl⟩ : ∃ q, d = q + 1 := ⟨d - 1, by omega⟩
  refine ⟨Nat.le_of_ble_eq_true rfl, am_go (am_sp_mo _) (fun _ => false) 60 (fun X hX => ?_)⟩
  conv => whnf
  try dsimp only
  refine k_Packs_has np hp hn (by omega) (fun p hpp hx => ?_) (fun hx => ?_)
  · have hv1 := hv p (by omega)
    have huni : ∀ q, q < np → x = nI q → q = p := fun q hq e => nI_inj (by omega) (by omega) (e.symm.trans hx)
    have hk2 : PK (am_up i 11 p y) np nv := hk0.fr (up_a (by decide)) (up_a (by decide))
    conv => whnf
    try dsimp only
    refine ⟨fun h => absurd h (by decide), fun _ => ?_⟩
    conv => whnf
    try dsimp only
    refine ⟨fun hy => ?_, fun hy => ?_⟩
    · conv => whnf
      try dsimp only
      refine ⟨6, [], rfl, by rw [hx]; exact vp_in_nI (by omega) (by decide), ?_⟩
      conv => whnf
      try dsimp only
      rw [hx, nI_clamp (by omega)]
      refine k_versionAt hk2 (by omega) (fun p' k hp' hk' e1 e2 => ?_) (fun hno => ?_)
      · rw [hy] at e2
        exact absurd e2.symm (nI_m1 (by have := (hv p' (by omega)).2; omega))
      · conv => whnf
        try dsimp only
        refine ⟨6, [], rfl, vp_in_nI (by omega) (by decide), ?_⟩
        conv => whnf
        try dsimp only
        rw [hy]
        refine ⟨Or.inr rfl, q_eq rfl ?_ (h1 p hpp hx hy)⟩
        rw [nI_clamp (by omega)]
        rfl
    · conv => whnf
      try dsimp only
      refine ⟨6, [], rfl, by rw [hx]; exact vp_in_nI (by omega) (by decide), ?_⟩
      conv => whnf
      try dsimp only
      refine k_below (nv p) (by rw [hx, nI_clamp (by omega)]; exact hv1.1) (by omega) (by omega) (fun k hkk hyk => ?_) (fun hyo => ?_)
      · conv => whnf
        try dsimp only
        refine ⟨fun _ => ?_, fun h => absurd h (by decide)⟩
        conv => whnf
        try dsimp only
        refine ⟨6, [], rfl, by rw [hx]; exact vp_in_nI (by omega) (by decide), ?_⟩
        conv => whnf
        try dsimp only
        rw [hx, nI_clamp (by omega)]
        refine k_versionAt hk2 (by omega) (fun p' k' hp' hk' e1 e2 => ?_) (fun hno => ?_)
        · have := nI_inj (by omega) (by omega) e1
          subst this
          have := nI_inj (by have := (hv p (by omega)).2; omega) (by have := (hv p (by omega)).2; omega) (e2.symm.trans hyk)
          subst this
          conv => whnf
          try dsimp only
          refine ⟨6, [], rfl, vp_in_nI (by omega) (by decide), ?_⟩
          conv => whnf
          try dsimp only
          refine ⟨Or.inr rfl, q_eq rfl ?_ (h2 p k' hpp hkk hx hyk)⟩
          rw [nI_clamp (by omega), hyk, up_n (Or.inl (by omega))]
        · exact absurd ⟨rfl, hyk⟩ (hno p k hpp hkk)
      · conv => whnf
        try dsimp only
        refine ⟨fun h => absurd h (by decide), fun _ => ?_⟩
        conv => whnf
        try dsimp only
        exact ⟨Or.inl rfl, h0 fun q hq e => by
          have := huni q hq e
          subst this
          exact ⟨hy, fun k hk => out_np (by omega) hyo hk⟩⟩
  · conv => whnf
    try dsimp only
    refine ⟨fun _ => ?_, fun h => absurd rfl h⟩
    conv => whnf
    try dsimp only
    exact ⟨Or.inl rfl, h0 fun q hq e => absurd e (out_np (by omega) hx hq)⟩
end PACKS2
