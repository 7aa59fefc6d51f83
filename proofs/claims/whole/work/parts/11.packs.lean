/-! PACKS -/
theorem ks_ver : ∀ p, p < 6 → KS[4 + p]? = some (0, 5, []) := by decide
theorem rg_ver : ∀ p, p < 6 → am_rg [some 4, some 5, some 6, some 7, some 8, some 9] p = some (4 + p) := by decide
theorem nI_m1 {n : Nat} (h : n < 2 ^ 31) : ¬ nI n = -1 := fun e => by
  have := congrArg Int32.toInt e
  rw [nI_toInt h, show (-1 : Int32).toInt = -1 by decide] at this
  omega
theorem nI_inj {a b : Nat} (ha : a < 2 ^ 31) (hb : b < 2 ^ 31) (h : nI a = nI b) : a = b := (nI_eq ha hb).mp h
theorem out_np {x : Int32} {n : Nat} (hn : n < 2 ^ 31) (h : x < 0 ∨ nI n ≤ x) {k : Nat} (hk : k < n) : ¬ x = nI k := fun e => by
  rcases h with h | h
  · rw [e] at h; exact nI_pos (by omega) h
  · rw [e] at h; exact nI_ge hk hn h
/-- the packages: how many, and how many versions each has -/
def PK (i : Nat → Nat → Int32) (np : Nat) (nv : Nat → Nat) : Prop := i 1 5 = nI np ∧ np ≤ 6 ∧ ∀ p, p < 6 → i 10 p = nI (nv p) ∧ nv p ≤ 5
section PACKS
variable {xl : Nat} {xs : Nat → Int32} {d : Nat} {i : Nat → Nat → Int32} {Q : am_Q} {np : Nat} {nv : Nat → Nat}
theorem k_countVersions {x : Int32} (hk : PK i np nv) (hd : 3 ≤ d) (h1 : ∀ p, p < np → x = nI p → Q (some (.int (nI (nv p)))) (KS, i)) (h0 : (x < 0 ∨ nI np ≤ x) → Q (some (.int 0)) (KS, i)) : SP xl xs d Y_Packs_countVersions [.ref 1, .int x] (KS, i) Q := by
  obtain ⟨hp, hn, hv⟩ := hk
  obtain ⟨d, rfl⟩ : ∃ q, d = q + 1 := ⟨d - 1, by omega⟩
  refine ⟨Nat.le_of_ble_eq_true rfl, am_go (am_sp_mo _) (fun _ => false) 20 (fun X hX => ?_)⟩
  conv => whnf
  try dsimp only
  refine k_Packs_has np hp hn (by omega) (fun p hp hx => ?_) (fun hx => ?_)
  · conv => whnf
    try dsimp only
    refine ⟨fun h => absurd h (by decide), fun _ => ?_⟩
    conv => whnf
    try dsimp only
    refine ⟨6, [], rfl, by rw [hx]; exact vp_in_nI (by omega) (by decide), ?_⟩
    conv => whnf
    try dsimp only
    exact q_eq (by rw [hx, nI_clamp (by omega), (hv p (by omega)).1]) rfl (h1 p hp hx)
  · conv => whnf
    try dsimp only
    refine ⟨fun _ => ?_, fun h => absurd rfl h⟩
    conv => whnf
    try dsimp only
    exact h0 hx
theorem k_placeOf {x : Int32} (hk : PK i np nv) (hd : 3 ≤ d) (h1 : ∀ p, p < np → x = nI p → Q (some (.int (i 11 p))) (KS, i)) (h0 : (x < 0 ∨ nI np ≤ x) → Q (some (.int (-1))) (KS, i)) : SP xl xs d Y_Packs_placeOf [.ref 1, .int x] (KS, i) Q := by
  obtain ⟨hp, hn, hv⟩ := hk
  obtain ⟨d, rfl⟩ : ∃ q, d = q + 1 := ⟨d - 1, by omega⟩
  refine ⟨Nat.le_of_ble_eq_true rfl, am_go (am_sp_mo _) (fun _ => false) 20 (fun X hX => ?_)⟩
  conv => whnf
  try dsimp only
  refine k_Packs_has np hp hn (by omega) (fun p hp hx => ?_) (fun hx => ?_)
  · conv => whnf
    try dsimp only
    refine ⟨fun h => absurd h (by decide), fun _ => ?_⟩
    conv => whnf
    try dsimp only
    refine ⟨6, [], rfl, by rw [hx]; exact vp_in_nI (by omega) (by decide), ?_⟩
    conv => whnf
    try dsimp only
    exact q_eq (by rw [hx, nI_clamp (by omega)]) rfl (h1 p hp hx)
  · conv => whnf
    try dsimp only
    refine ⟨fun _ => ?_, fun h => absurd rfl h⟩
    conv => whnf
    try dsimp only
    exact h0 hx
theorem k_versionAt {x y : Int32} (hk : PK i np nv) (hd : 2 ≤ d) (h1 : ∀ p k, p < np → k < nv p → x = nI p → y = nI k → Q (some (.int (i (4 + p) k))) (KS, i)) (h0 : (∀ p k, p < np → k < nv p → ¬ (x = nI p ∧ y = nI k)) → Q (some (.int (-1))) (KS, i)) : SP xl xs d Y_Packs_versionAt [.ref 1, .int x, .int y] (KS, i) Q := by
  obtain ⟨hp, hn, hv⟩ := hk
  obtain ⟨d, rfl⟩ : ∃ q, d = q + 1 := ⟨d - 1, by omega⟩
  refine ⟨Nat.le_of_ble_eq_true rfl, am_go (am_sp_mo _) (fun _ => false) 40 (fun X hX => ?_)⟩
  conv => whnf
  try dsimp only
  refine k_below np hp (by omega) (by omega) (fun p hpp hx => ?_) (fun hx => ?_)
  · have hv1 := hv p (by omega)
    conv => whnf
    try dsimp only
    refine ⟨fun h => absurd h (by decide), fun _ => ?_⟩
    conv => whnf
    try dsimp only
    refine ⟨6, [], rfl, by rw [hx]; exact vp_in_nI (by omega) (by decide), ?_⟩
    conv => whnf
    try dsimp only
    refine k_below (nv p) (by rw [hx, nI_clamp (by omega)]; exact hv1.1) (by omega) (by omega) (fun k hk hy => ?_) (fun hy => ?_)
    · conv => whnf
      try dsimp only
      refine ⟨fun _ => ?_, fun h => absurd h (by decide)⟩
      conv => whnf
      try dsimp only
      refine ⟨6, _, 4 + p, rfl, by rw [hx]; exact vp_in_nI (by omega) (by decide), by rw [hx, nI_clamp (by omega)]; exact rg_ver p (by omega), ?_⟩
      conv => whnf
      try dsimp only
      refine ⟨5, [], ks_ver p (by omega), by rw [hy]; exact vp_in_nI (by omega) (by decide), ?_⟩
      conv => whnf
      try dsimp only
      exact q_eq (by rw [hy, nI_clamp (by omega)]) rfl (h1 p k hpp hk hx hy)
    · conv => whnf
      try dsimp only
      refine ⟨fun h => absurd h (by decide), fun _ => ?_⟩
      conv => whnf
      try dsimp only
      refine h0 fun p' k' hp' hk' e => ?_
      have : p' = p := nI_inj (by omega) (by omega) (e.1.symm.trans hx)
      subst this
      exact out_np (by omega) hy hk' e.2
  · conv => whnf
    try dsimp only
    refine ⟨fun _ => ?_, fun h => absurd rfl h⟩
    conv => whnf
    try dsimp only
    exact h0 fun p k hp' hk' e => out_np (by omega) hx hp' e.1
theorem k_installedVersions (hd : 1 ≤ d) (h : Q (some (.ref 12)) (KS, i)) : SP xl xs d Y_Packs_installedVersions [.ref 1] (KS, i) Q := by
  obtain ⟨d, rfl⟩ : ∃ q, d = q + 1 := ⟨d - 1, by omega⟩
  refine ⟨Nat.le_of_ble_eq_true rfl, am_go (am_sp_mo _) (fun _ => false) 20 (fun X hX => ?_)⟩
  conv => whnf
  try dsimp only
  exact h
theorem k_isInstalledRoot {x : Int32} (hk : PK i np nv) (hr : ∀ p, i 2 p = 0 ∨ i 2 p = 1) (hd : 4 ≤ d) (h1 : ∀ p, p < np → x = nI p → ¬ i 11 p = -1 → i 2 p = 1 → Q (some (.int 1)) (KS, i)) (h0 : (∀ p, p < np → x = nI p → i 11 p = -1 ∨ i 2 p = 0) → Q (some (.int 0)) (KS, i)) : SP xl xs d Y_Packs_isInstalledRoot [.ref 1, .int x] (KS, i) Q := by
  have hn := hk.2.1
  obtain ⟨d, rfl⟩ : ∃ q, d = q + 1 := ⟨d - 1, by omega⟩
  refine ⟨Nat.le_of_ble_eq_true rfl, am_go (am_sp_mo _) (fun _ => false) 30 (fun X hX => ?_)⟩
  conv => whnf
  try dsimp only
  refine k_placeOf hk (by omega) (fun p hpp hx => ?_) (fun hx => ?_)
  · conv => whnf
    try dsimp only
    refine ⟨fun h => ?_, fun h => ?_⟩
    · conv => whnf
      try dsimp only
      exact ⟨Or.inl rfl, h0 fun q hq e => by
        have : q = p := nI_inj (by omega) (by omega) (e.symm.trans hx)
        subst this
        exact Or.inl h⟩
    · conv => whnf
      try dsimp only
      refine ⟨6, [], rfl, by rw [hx]; exact vp_in_nI (by omega) (by decide), ?_⟩
      conv => whnf
      try dsimp only
      rw [hx, nI_clamp (by omega)]
      rcases hr p with e | e
      · rw [e]
        refine ⟨fun _ => ?_, fun h => absurd rfl h⟩
        conv => whnf
        try dsimp only
        exact ⟨Or.inl rfl, h0 fun q hq e' => by
          have : q = p := nI_inj (by omega) (by omega) (e'.symm.trans hx)
          subst this
          exact Or.inr e⟩
      · rw [e]
        refine ⟨fun h => absurd h (by decide), fun _ => ?_⟩
        conv => whnf
        try dsimp only
        exact ⟨Or.inr rfl, h1 p hpp hx h e⟩
  · conv => whnf
    try dsimp only
    refine ⟨fun _ => ?_, fun h => absurd rfl h⟩
    conv => whnf
    try dsimp only
    exact ⟨Or.inl rfl, h0 fun q hq e => absurd e (out_np (by omega) hx hq)⟩
end PACKS
