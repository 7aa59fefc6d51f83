/-! THE REFERENCE'S SIMPLE CALLS -/
def MPK (i : Nat → Nat → Int32) (np : Nat) (nv : Nat → Nat) : Prop := i 89 1 = nI np ∧ np ≤ 6 ∧ ∀ p, p < 6 → i 91 p = nI (nv p) ∧ nv p ≤ 5
def MAK (i : Nat → Nat → Int32) (na : Nat) (sp : Nat → Nat) : Prop := i 89 13 = nI na ∧ na ≤ 12 ∧ ∀ a, a < 12 → i 101 a = nI (sp a) ∧ sp a ≤ 3
section MODEL
variable {xl : Nat} {xs : Nat → Int32} {d : Nat} {i : Nat → Nat → Int32} {Q : am_Q} {u : am_St} {np nn na : Nat} {nv sp : Nat → Nat}
theorem m_isPack {x : Int32} (hp : i 89 1 = nI np) (hn : np ≤ 6) (hd : 1 ≤ d) (h1 : ∀ p, p < np → x = nI p → Q (some (.int 1)) (KS, i)) (h0 : (x < 0 ∨ nI np ≤ x) → Q (some (.int 0)) (KS, i)) : SP xl xs d Y_Model_isPack [.ref 89, .int x] (KS, i) Q := by
  obtain ⟨d, rfl⟩ : ∃ q, d = q + 1 := ⟨d - 1, by omega⟩
  refine ⟨Nat.le_of_ble_eq_true rfl, am_go (am_sp_mo _) (fun _ => false) 20 (fun X hX => ?_)⟩
  conv => whnf
  try dsimp only
  rcases pk_ix x (n := np) (by omega) with hx | hx | ⟨k, hk, hx⟩
  · refine ⟨fun _ => ?_, fun h => absurd hx h⟩
    conv => whnf
    try dsimp only
    exact ⟨Or.inl rfl, h0 (Or.inl hx)⟩
  · refine ⟨fun _ => ?_, fun _ => ?_⟩
    · conv => whnf
      try dsimp only
      exact ⟨Or.inl rfl, h0 (Or.inr hx)⟩
    · conv => whnf
      try dsimp only
      rw [hp]
      refine ⟨fun _ => ?_, fun h => absurd hx h⟩
      conv => whnf
      try dsimp only
      exact ⟨Or.inl rfl, h0 (Or.inr hx)⟩
  · refine ⟨fun h => absurd h (by rw [hx]; exact nI_pos (by omega)), fun _ => ?_⟩
    conv => whnf
    try dsimp only
    rw [hp]
    refine ⟨fun h => absurd h (by rw [hx]; exact nI_ge hk (by omega)), fun _ => ?_⟩
    conv => whnf
    try dsimp only
    exact ⟨Or.inr rfl, h1 k hk hx⟩
theorem m_isAdv {x : Int32} (hp : i 89 13 = nI na) (hn : na ≤ 12) (hd : 1 ≤ d) (h1 : ∀ p, p < na → x = nI p → Q (some (.int 1)) (KS, i)) (h0 : (x < 0 ∨ nI na ≤ x) → Q (some (.int 0)) (KS, i)) : SP xl xs d Y_Model_isAdvisory [.ref 89, .int x] (KS, i) Q := by
  obtain ⟨d, rfl⟩ : ∃ q, d = q + 1 := ⟨d - 1, by omega⟩
  refine ⟨Nat.le_of_ble_eq_true rfl, am_go (am_sp_mo _) (fun _ => false) 20 (fun X hX => ?_)⟩
  conv => whnf
  try dsimp only
  rcases pk_ix x (n := na) (by omega) with hx | hx | ⟨k, hk, hx⟩
  · refine ⟨fun _ => ?_, fun h => absurd hx h⟩
    conv => whnf
    try dsimp only
    exact ⟨Or.inl rfl, h0 (Or.inl hx)⟩
  · refine ⟨fun _ => ?_, fun _ => ?_⟩
    · conv => whnf
      try dsimp only
      exact ⟨Or.inl rfl, h0 (Or.inr hx)⟩
    · conv => whnf
      try dsimp only
      rw [hp]
      refine ⟨fun _ => ?_, fun h => absurd hx h⟩
      conv => whnf
      try dsimp only
      exact ⟨Or.inl rfl, h0 (Or.inr hx)⟩
  · refine ⟨fun h => absurd h (by rw [hx]; exact nI_pos (by omega)), fun _ => ?_⟩
    conv => whnf
    try dsimp only
    rw [hp]
    refine ⟨fun h => absurd h (by rw [hx]; exact nI_ge hk (by omega)), fun _ => ?_⟩
    conv => whnf
    try dsimp only
    exact ⟨Or.inr rfl, h1 k hk hx⟩
theorem m_in {v lo hi : Int32} (hd : 1 ≤ d) (h1 : lo ≤ v → v ≤ hi → Q (some (.int 1)) u) (h0 : (lo ≤ v → ¬ v ≤ hi) → Q (some (.int 0)) u) : SP xl xs d Y_Model_in [.int v, .int lo, .int hi] u Q := by
  obtain ⟨d, rfl⟩ : ∃ q, d = q + 1 := ⟨d - 1, by omega⟩
  refine ⟨Nat.le_of_ble_eq_true rfl, am_go (am_sp_mo _) (fun _ => false) 20 (fun X hX => ?_)⟩
  conv => whnf
  try dsimp only
  refine ⟨fun h => ?_, fun h => ?_⟩
  · conv => whnf
    try dsimp only
    exact ⟨Or.inl rfl, h0 fun h' => absurd h (by rw [Int32.lt_iff_toInt_lt]; rw [Int32.le_iff_toInt_le] at h'; omega)⟩
  · have hl : lo ≤ v := by rw [Int32.le_iff_toInt_le]; rw [Int32.lt_iff_toInt_lt] at h; omega
    conv => whnf
    try dsimp only
    refine ⟨fun h2 => ?_, fun h2 => ?_⟩
    · conv => whnf
      try dsimp only
      exact ⟨Or.inl rfl, h0 fun _ h' => absurd h2 (by rw [Int32.lt_iff_toInt_lt]; rw [Int32.le_iff_toInt_le] at h'; omega)⟩
    · conv => whnf
      try dsimp only
      exact ⟨Or.inr rfl, h1 hl (by rw [Int32.le_iff_toInt_le]; rw [Int32.lt_iff_toInt_lt] at h2; omega)⟩
theorem m_pack {x : Int32} (hp : i 89 1 = nI np) (hn : np ≤ 6) (hd : 1 ≤ d) (h1 : np < 6 → Q (some (.int (nI np))) (KS, am_up (am_up i 90 np (vp_nar .boolean x)) 89 1 (nI (np + 1)))) (h0 : np = 6 → Q (some (.int (-1))) (KS, i)) : SP xl xs d Y_Model_pack [.ref 89, .int x] (KS, i) Q := by
  obtain ⟨d, rfl⟩ : ∃ q, d = q + 1 := ⟨d - 1, by omega⟩
  refine ⟨Nat.le_of_ble_eq_true rfl, am_go (am_sp_mo _) (fun _ => false) 40 (fun X hX => ?_)⟩
  conv => whnf
  try dsimp only
  rw [hp, li_6]
  refine ⟨fun h => ?_, fun h => ?_⟩
  · have hlt : np < 6 := by
      have : ¬ np = 6 := fun e => h (by rw [e])
      omega
    conv => whnf
    try dsimp only
    refine ⟨6, [], rfl, by rw [hp]; exact vp_in_nI hlt (by decide), ?_⟩
    conv => whnf
    try dsimp only
    refine q_eq ?_ ?_ (h1 hlt)
    · simp only [hp, up_n, up_s, li_1, nI_add, ne_eq, Nat.reduceEqDiff, not_false_eq_true, true_or, nI_pred1]
    · simp only [hp, up_n, li_1, nI_add, ne_eq, Nat.reduceEqDiff, not_false_eq_true, true_or, nI_clamp (show np < 2 ^ 31 by omega)]
  · conv => whnf
    try dsimp only
    exact h0 (nI_inj (by omega) (by omega) h)
theorem m_version {x v : Int32} (hk : MPK i np nv) (hd : 2 ≤ d)
    (h1 : ∀ p, p < np → x = nI p → ¬ v < 0 → ¬ nI 1000000 < v → nv p < 5 → (nv p = 0 ∨ i 92 (5 * p + (nv p - 1)) < v) → Q (some (.int (nI (nv p)))) (KS, am_up (am_up i 92 (5 * p + nv p) v) 91 p (nI (nv p + 1))))
    (h0 : (∀ p, p < np → x = nI p → ¬ v < 0 → ¬ nI 1000000 < v → nv p < 5 → ¬ (nv p = 0 ∨ i 92 (5 * p + (nv p - 1)) < v)) → Q (some (.int (-1))) (KS, i)) : SP xl xs d Y_Model_version [.ref 89, .int x, .int v] (KS, i) Q := by
  obtain ⟨hp, hn, hv⟩ := hk
  obtain ⟨d, rfl⟩ : ∃ q, d = q + 1 := ⟨d - 1, by omega⟩
  refine ⟨Nat.le_of_ble_eq_true rfl, am_go (am_sp_mo _) (fun q => q == 64) 60 (fun X hX => ?_)⟩
  conv => whnf
  try dsimp only
  refine m_isPack hp hn (by omega) (fun p hpp hx => ?_) (fun hx => ?_)
  · have hv1 := hv p (by omega)
    have huni : ∀ q, q < np → x = nI q → q = p := fun q hq e => nI_inj (by omega) (by omega) (e.symm.trans hx)
    have hcl : i 91 x.toNatClampNeg = nI (nv p) := by rw [hx, nI_clamp (by omega)]; exact hv1.1
    have hin6 : vp_in x 6 := by rw [hx]; exact vp_in_nI (by omega) (by decide)
    conv => whnf
    try dsimp only
    refine ⟨fun h => absurd h (by decide), fun _ => ?_⟩
    conv => whnf
    try dsimp only
    refine ⟨6, [], rfl, hin6, ?_⟩
    conv => whnf
    try dsimp only
    rw [hcl, li_5]
    refine ⟨fun h5 => ?_, fun h5 => ?_⟩
    · conv => whnf
      try dsimp only
      refine h0 fun q hq e _ _ h => ?_
      have := huni q hq e
      subst this
      exact absurd (nI_inj (by omega) (by omega) h5) (by omega)
    have hlt : nv p < 5 := by
      have : ¬ nv p = 5 := fun e => h5 (by rw [e])
      omega
    conv => whnf
    try dsimp only
    refine m_in (by omega) (fun hl hh => ?_) (fun hno => ?_)
    · have hv0 : ¬ v < 0 := by
        rw [Int32.le_iff_toInt_le, li_0] at hl
        rw [Int32.lt_iff_toInt_lt]
        exact Int.not_lt.mpr hl
      have hvM : ¬ nI 1000000 < v := by
        rw [Int32.le_iff_toInt_le, li_M] at hh
        rw [Int32.lt_iff_toInt_lt]
        exact Int.not_lt.mpr hh
      have hend := h1 p hpp hx hv0 hvM hlt
      conv => whnf
      try dsimp only
      refine ⟨fun _ => ?_, fun h => absurd h (by decide)⟩
      conv => whnf
      try dsimp only
      refine ⟨6, [], rfl, hin6, ?_⟩
      conv => whnf
      try dsimp only
      refine ⟨6, [], rfl, hin6, ?_⟩
      conv => whnf
      try dsimp only
      have hat : Int32.ofInt 5 * x + i 91 x.toNatClampNeg = nI (5 * p + nv p) := by rw [hcl, hx, li_5, pk_mul, nI_add]
      have fin : (nv p = 0 ∨ i 92 (5 * p + (nv p - 1)) < v) → am_wp (ax_E xl xs) (ax_cd Y_Model_version) (am_sp (ax_E xl xs) ax_cd ax_ml d) Q 64 [some (.ref 89), some (.int x), some (.int v), some (.int (Int32.ofInt 5 * x + i 91 x.toNatClampNeg))] [] (KS, i) 0 0 := by
        intro hor
        rw [hat]
        refine am_go (am_sp_mo _) (fun _ => false) 60 (fun X hX => ?_)
        conv => whnf
        try dsimp only
        refine ⟨30, [], rfl, vp_in_nI (by omega) (by decide), ?_⟩
        conv => whnf
        try dsimp only
        refine ⟨6, [], rfl, hin6, ?_⟩
        conv => whnf
        try dsimp only
        refine ⟨6, [], rfl, hin6, ?_⟩
        conv => whnf
        try dsimp only
        refine ⟨6, [], rfl, hin6, ?_⟩
        conv => whnf
        try dsimp only
        rw [nI_clamp (show 5 * p + nv p < 2 ^ 31 by omega)]
        refine q_eq ?_ ?_ (hend hor)
        · rw [up_s, up_n (Or.inl (by decide)), hcl, li_1, nI_add, nI_pred1]
        · rw [up_n (Or.inl (by decide)), hcl, hx, nI_clamp (by omega), li_1, nI_add]
      rw [hcl]
      refine ⟨fun hz => ?_, fun hz => ?_⟩
      · have hz0 : nv p = 0 := by
          rcases Nat.eq_zero_or_pos (nv p) with q | q
          · exact q
          · exact absurd hz (nI_nle q (by omega))
        conv => whnf
        try dsimp only
        exact hX _ _ _ _ _ _ (by have := fin (Or.inl hz0); rw [hcl] at this; exact this)
      · have hpos : 0 < nv p := by
          rcases Nat.eq_zero_or_pos (nv p) with q | q
          · exact absurd (by rw [q]; decide) hz
          · exact q
        have hat2 : Int32.ofInt 5 * x + nI (nv p) - Int32.ofInt 1 = nI (5 * p + (nv p - 1)) := by rw [hx, li_5, pk_mul, nI_add, li_1, show 5 * p + nv p = (5 * p + (nv p - 1)) + 1 by omega, nI_pred1]
        conv => whnf
        try dsimp only
        refine ⟨30, [], rfl, by rw [hat2]; exact vp_in_nI (by omega) (by decide), ?_⟩
        conv => whnf
        try dsimp only
        rw [hat2, nI_clamp (by omega)]
        refine ⟨fun h => ?_, fun h => ?_⟩
        · conv => whnf
          try dsimp only
          exact hX _ _ _ _ _ _ (by have := fin (Or.inr h); rw [hcl] at this; exact this)
        · conv => whnf
          try dsimp only
          refine h0 fun q hq e _ _ _ h9 => ?_
          have := huni q hq e
          subst this
          rcases h9 with h9 | h9
          · omega
          · exact h h9
    · conv => whnf
      try dsimp only
      refine ⟨fun h => absurd rfl h, fun _ => ?_⟩
      conv => whnf
      try dsimp only
      refine h0 fun q _ _ hv0 hvM => ?_
      refine absurd (hno ?_) (fun h => h ?_)
      · rw [Int32.le_iff_toInt_le, li_0]
        rw [Int32.lt_iff_toInt_lt] at hv0
        exact Int.not_lt.mp hv0
      · rw [Int32.le_iff_toInt_le, li_M]
        rw [Int32.lt_iff_toInt_lt] at hvM
        exact Int.not_lt.mp hvM
  · conv => whnf
    try dsimp only
    refine ⟨fun _ => ?_, fun h => absurd rfl h⟩
    conv => whnf
    try dsimp only
    exact h0 fun q hq e => absurd e (out_np (by omega) hx hq)
theorem m_install {x y : Int32} (hk : MPK i np nv) (hd : 2 ≤ d)
    (h1 : ∀ p, p < np → x = nI p → y = -1 → Q (some (.int 1)) (KS, am_up i 93 p (-1)))
    (h2 : ∀ p k, p < np → k < nv p → x = nI p → y = nI k → Q (some (.int 1)) (KS, am_up i 93 p (nI k)))
    (h0 : (∀ p, p < np → x = nI p → ¬ y = -1 ∧ ∀ k, k < nv p → ¬ y = nI k) → Q (some (.int 0)) (KS, i)) : SP xl xs d Y_Model_install [.ref 89, .int x, .int y] (KS, i) Q := by
  obtain ⟨hp, hn, hv⟩ := hk
  obtain ⟨d, rfl⟩ : ∃ q, d = q + 1 := ⟨d - 1, by omega⟩
  refine ⟨Nat.le_of_ble_eq_true rfl, am_go (am_sp_mo _) (fun _ => false) 60 (fun X hX => ?_)⟩
  conv => whnf
  try dsimp only
  refine m_isPack hp hn (by omega) (fun p hpp hx => ?_) (fun hx => ?_)
  · have hv1 := hv p (by omega)
    have huni : ∀ q, q < np → x = nI q → q = p := fun q hq e => nI_inj (by omega) (by omega) (e.symm.trans hx)
    have hcl : i 91 x.toNatClampNeg = nI (nv p) := by rw [hx, nI_clamp (by omega)]; exact hv1.1
    have hin6 : vp_in x 6 := by rw [hx]; exact vp_in_nI (by omega) (by decide)
    have tm : (Int32.ofInt (-1)).toInt = -1 := by decide
    have hcase : y = -1 ∨ (∃ k, k < nv p ∧ y = nI k) ∨ ¬ (Int32.ofInt (-1) ≤ y ∧ y ≤ nI (nv p) - nI 1) := by
      by_cases hz : nv p = 0
      · by_cases e : y = -1
        · exact Or.inl e
        · refine Or.inr (Or.inr fun h => e ?_)
          rw [hz, nI_0m1, Int32.le_iff_toInt_le, Int32.le_iff_toInt_le, tm, show (-1 : Int32).toInt = -1 by decide] at h
          apply Int32.toInt_inj.mp
          rw [show (-1 : Int32).toInt = -1 by decide]
          omega
      · rw [show nI (nv p) - nI 1 = nI (nv p - 1) by rw [show nv p = (nv p - 1) + 1 by omega]; exact nI_pred1 _]
        rcases pk_ix y (n := nv p) (by omega) with q | q | ⟨k, hk, e⟩
        · by_cases e : y = -1
          · exact Or.inl e
          · refine Or.inr (Or.inr fun h => e ?_)
            rw [Int32.le_iff_toInt_le, tm] at h
            rw [Int32.lt_iff_toInt_lt, show (0 : Int32).toInt = 0 by decide] at q
            apply Int32.toInt_inj.mp
            rw [show (-1 : Int32).toInt = -1 by decide]
            omega
        · refine Or.inr (Or.inr fun h => ?_)
          have h3 := h.2
          rw [Int32.le_iff_toInt_le, nI_toInt (by omega)] at h3 q
          omega
        · exact Or.inr (Or.inl ⟨k, hk, e⟩)
    conv => whnf
    try dsimp only
    refine ⟨fun h => absurd h (by decide), fun _ => ?_⟩
    conv => whnf
    try dsimp only
    refine ⟨6, [], rfl, hin6, ?_⟩
    conv => whnf
    try dsimp only
    rw [hcl, li_1]
    refine m_in (by omega) (fun hl hh => ?_) (fun hno => ?_)
    · conv => whnf
      try dsimp only
      refine ⟨fun _ => ?_, fun h => absurd h (by decide)⟩
      conv => whnf
      try dsimp only
      refine ⟨6, [], rfl, hin6, ?_⟩
      conv => whnf
      try dsimp only
      rcases hcase with e | ⟨k, hk, e⟩ | e
      · exact ⟨Or.inr rfl, q_eq rfl (by rw [hx, nI_clamp (by omega), e]) (h1 p hpp hx e)⟩
      · exact ⟨Or.inr rfl, q_eq rfl (by rw [hx, nI_clamp (by omega), e]) (h2 p k hpp hk hx e)⟩
      · exact absurd ⟨hl, hh⟩ e
    · conv => whnf
      try dsimp only
      refine ⟨fun h => absurd rfl h, fun _ => ?_⟩
      conv => whnf
      try dsimp only
      refine ⟨Or.inl rfl, h0 fun q hq e => ?_⟩
      have := huni q hq e
      subst this
      refine ⟨fun e => ?_, fun k hk e => ?_⟩
      · refine absurd (hno (by rw [e]; decide)) (fun h => h ?_)
        rw [e]
        by_cases hz : nv q = 0
        · rw [hz]; decide
        · rw [show nI (nv q) - nI 1 = nI (nv q - 1) by rw [show nv q = (nv q - 1) + 1 by omega]; exact nI_pred1 _, Int32.le_iff_toInt_le, nI_toInt (by omega), show (-1 : Int32).toInt = -1 by decide]
          omega
      · refine absurd (hno (by rw [e, Int32.le_iff_toInt_le, tm, nI_toInt (by omega)]; omega)) (fun h => h ?_)
        rw [e, show nI (nv q) - nI 1 = nI (nv q - 1) by rw [show nv q = (nv q - 1) + 1 by omega]; exact nI_pred1 _]
        exact nI_le (by omega) (by omega)
  · conv => whnf
    try dsimp only
    refine ⟨fun _ => ?_, fun h => absurd rfl h⟩
    conv => whnf
    try dsimp only
    exact ⟨Or.inl rfl, h0 fun q hq e => absurd e (out_np (by omega) hx hq)⟩
theorem m_need {x s y l g : Int32} (hp : i 89 1 = nI np) (hn : np ≤ 6) (hc : i 89 6 = nI nn) (hm : nn ≤ 16) (hd : 2 ≤ d)
    (h1 : ∀ p q, p < np → q < np → x = nI p → y = nI q → nn < 16 → Q (some (.int (nI nn))) (KS, am_up (am_up (am_up (am_up (am_up (am_up i 94 nn x) 95 nn s) 96 nn y) 97 nn l) 98 nn g) 89 6 (nI (nn + 1))))
    (h0 : (∀ p q, p < np → q < np → x = nI p → y = nI q → ¬ nn < 16) → Q (some (.int (-1))) (KS, i)) : SP xl xs d Y_Model_need [.ref 89, .int x, .int s, .int y, .int l, .int g] (KS, i) Q := by
  obtain ⟨d, rfl⟩ : ∃ q, d = q + 1 := ⟨d - 1, by omega⟩
  refine ⟨Nat.le_of_ble_eq_true rfl, am_go (am_sp_mo _) (fun _ => false) 70 (fun X hX => ?_)⟩
  conv => whnf
  try dsimp only
  rw [hc, li_16]
  refine ⟨fun h => ?_, fun h => ?_⟩
  · conv => whnf
    try dsimp only
    have := nI_inj (by omega) (by omega) h
    exact h0 fun _ _ _ _ _ _ => by omega
  have hlt : nn < 16 := by
    have : ¬ nn = 16 := fun e => h (by rw [e])
    omega
  conv => whnf
  try dsimp only
  refine m_isPack hp hn (by omega) (fun p hpp hx => ?_) (fun hx => ?_)
  · conv => whnf
    try dsimp only
    refine ⟨fun h => absurd h (by decide), fun _ => ?_⟩
    conv => whnf
    try dsimp only
    refine m_isPack hp hn (by omega) (fun q hq hy => ?_) (fun hy => ?_)
    · have hin : ∀ {x : Int32}, x = nI nn → vp_in x 16 := fun e => by rw [e]; exact vp_in_nI hlt (by decide)
      conv => whnf
      try dsimp only
      refine ⟨fun _ => ?_, fun h => absurd h (by decide)⟩
      conv => whnf
      try dsimp only
      refine ⟨16, [], rfl, hin hc, ?_⟩
      conv => whnf
      try dsimp only
      refine ⟨16, [], rfl, hin (by rw [up_n (Or.inl (by decide))]; exact hc), ?_⟩
      conv => whnf
      try dsimp only
      refine ⟨16, [], rfl, hin (by rw [up_n (Or.inl (by decide)), up_n (Or.inl (by decide))]; exact hc), ?_⟩
      conv => whnf
      try dsimp only
      refine ⟨16, [], rfl, hin (by rw [up_n (Or.inl (by decide)), up_n (Or.inl (by decide)), up_n (Or.inl (by decide))]; exact hc), ?_⟩
      conv => whnf
      try dsimp only
      refine ⟨16, [], rfl, hin (by rw [up_n (Or.inl (by decide)), up_n (Or.inl (by decide)), up_n (Or.inl (by decide)), up_n (Or.inl (by decide))]; exact hc), ?_⟩
      conv => whnf
      try dsimp only
      refine q_eq ?_ ?_ (h1 p q hpp hq hx hy hlt)
      · simp only [hc, up_n, up_s, li_1, nI_add, ne_eq, Nat.reduceEqDiff, not_false_eq_true, true_or, nI_pred1]
      · simp only [hc, up_n, li_1, nI_add, ne_eq, Nat.reduceEqDiff, not_false_eq_true, true_or, nI_clamp (show nn < 2 ^ 31 by omega)]
    · conv => whnf
      try dsimp only
      refine ⟨fun h => absurd rfl h, fun _ => ?_⟩
      conv => whnf
      try dsimp only
      exact h0 fun _ q _ hq _ e => absurd e (out_np (by omega) hy hq)
  · conv => whnf
    try dsimp only
    refine ⟨fun _ => ?_, fun h => absurd rfl h⟩
    conv => whnf
    try dsimp only
    exact h0 fun p _ hp' _ e _ => absurd e (out_np (by omega) hx hp')
theorem m_call {x v : Int32} (hc : i 89 6 = nI nn) (hn : nn ≤ 16) (hd : 1 ≤ d) (h1 : ∀ k, k < nn → x = nI k → Q (some (.int 1)) (KS, am_up i 99 k (vp_nar .boolean v))) (h0 : (x < 0 ∨ nI nn ≤ x) → Q (some (.int 0)) (KS, i)) : SP xl xs d Y_Model_call [.ref 89, .int x, .int v] (KS, i) Q := by
  obtain ⟨d, rfl⟩ : ∃ q, d = q + 1 := ⟨d - 1, by omega⟩
  refine ⟨Nat.le_of_ble_eq_true rfl, am_go (am_sp_mo _) (fun _ => false) 30 (fun X hX => ?_)⟩
  conv => whnf
  try dsimp only
  rcases pk_ix x (n := nn) (by omega) with hx | hx | ⟨k, hk, hx⟩
  · refine ⟨fun _ => ?_, fun h => absurd hx h⟩
    conv => whnf
    try dsimp only
    exact ⟨Or.inl rfl, h0 (Or.inl hx)⟩
  · refine ⟨fun _ => ?_, fun _ => ?_⟩
    · conv => whnf
      try dsimp only
      exact ⟨Or.inl rfl, h0 (Or.inr hx)⟩
    · conv => whnf
      try dsimp only
      rw [hc]
      refine ⟨fun h => absurd h (by rw [Int32.lt_iff_toInt_lt]; rw [Int32.le_iff_toInt_le] at hx; omega), fun _ => ?_⟩
      conv => whnf
      try dsimp only
      exact ⟨Or.inl rfl, h0 (Or.inr hx)⟩
  · refine ⟨fun h => absurd h (by rw [hx]; exact nI_pos (by omega)), fun _ => ?_⟩
    conv => whnf
    try dsimp only
    rw [hc]
    refine ⟨fun _ => ?_, fun h => absurd (by rw [hx]; exact nI_lt hk (by omega)) h⟩
    conv => whnf
    try dsimp only
    refine ⟨16, [], rfl, by rw [hx]; exact vp_in_nI (by omega) (by decide), ?_⟩
    conv => whnf
    try dsimp only
    exact ⟨Or.inr rfl, q_eq rfl (by rw [hx, nI_clamp (by omega)]) (h1 k hk hx)⟩
theorem m_advisory {x : Int32} (hp : i 89 1 = nI np) (hn : np ≤ 6) (hc : i 89 13 = nI na) (hm : na ≤ 12) (hd : 2 ≤ d)
    (h1 : ∀ p, p < np → x = nI p → na < 12 → Q (some (.int (nI na))) (KS, am_up (am_up (am_up i 100 na x) 106 na (nI na)) 89 13 (nI (na + 1))))
    (h0 : (∀ p, p < np → x = nI p → ¬ na < 12) → Q (some (.int (-1))) (KS, i)) : SP xl xs d Y_Model_advisory [.ref 89, .int x] (KS, i) Q := by
  obtain ⟨d, rfl⟩ : ∃ q, d = q + 1 := ⟨d - 1, by omega⟩
  refine ⟨Nat.le_of_ble_eq_true rfl, am_go (am_sp_mo _) (fun _ => false) 60 (fun X hX => ?_)⟩
  conv => whnf
  try dsimp only
  rw [hc, li_12]
  refine ⟨fun h => ?_, fun h => ?_⟩
  · conv => whnf
    try dsimp only
    have := nI_inj (by omega) (by omega) h
    exact h0 fun _ _ _ => by omega
  have hlt : na < 12 := by
    have : ¬ na = 12 := fun e => h (by rw [e])
    omega
  conv => whnf
  try dsimp only
  refine m_isPack hp hn (by omega) (fun p hpp hx => ?_) (fun hx => ?_)
  · conv => whnf
    try dsimp only
    refine ⟨fun _ => ?_, fun h => absurd h (by decide)⟩
    conv => whnf
    try dsimp only
    refine ⟨12, [], rfl, by rw [hc]; exact vp_in_nI hlt (by decide), ?_⟩
    conv => whnf
    try dsimp only
    refine ⟨12, [], rfl, by rw [up_n (Or.inl (by decide)), hc]; exact vp_in_nI hlt (by decide), ?_⟩
    conv => whnf
    try dsimp only
    refine q_eq ?_ ?_ (h1 p hpp hx hlt)
    · simp only [hc, up_n, up_s, li_1, nI_add, ne_eq, Nat.reduceEqDiff, not_false_eq_true, true_or, nI_pred1]
    · simp only [hc, up_n, li_1, nI_add, ne_eq, Nat.reduceEqDiff, not_false_eq_true, true_or, nI_clamp (show na < 2 ^ 31 by omega)]
  · conv => whnf
    try dsimp only
    refine ⟨fun h => absurd rfl h, fun _ => ?_⟩
    conv => whnf
    try dsimp only
    exact h0 fun p hp' e => absurd e (out_np (by omega) hx hp')
theorem m_span {x f t : Int32} (hA : MAK i na sp) (hd : 2 ≤ d)
    (h1 : ∀ a, a < na → x = nI a → ¬ f < 0 → (t = -1 ∨ f < t) → sp a < 3 → Q (some (.int 1)) (KS, am_up (am_up (am_up i 102 (3 * a + sp a) f) 103 (3 * a + sp a) t) 101 a (nI (sp a + 1))))
    (h0 : (∀ a, a < na → x = nI a → ¬ f < 0 → (t = -1 ∨ f < t) → ¬ sp a < 3) → Q (some (.int 0)) (KS, i)) : SP xl xs d Y_Model_span [.ref 89, .int x, .int f, .int t] (KS, i) Q := by
  obtain ⟨hc, hn, hs⟩ := hA
  obtain ⟨d, rfl⟩ : ∃ q, d = q + 1 := ⟨d - 1, by omega⟩
  refine ⟨Nat.le_of_ble_eq_true rfl, am_go (am_sp_mo _) (fun q => q == 34) 60 (fun X hX => ?_)⟩
  conv => whnf
  try dsimp only
  refine m_isAdv hc hn (by omega) (fun a ha hx => ?_) (fun hx => ?_)
  · have hs1 := hs a (by omega)
    have huni : ∀ q, q < na → x = nI q → q = a := fun q hq e => nI_inj (by omega) (by omega) (e.symm.trans hx)
    have hcl : i 101 x.toNatClampNeg = nI (sp a) := by rw [hx, nI_clamp (by omega)]; exact hs1.1
    have hin : vp_in x 12 := by rw [hx]; exact vp_in_nI (by omega) (by decide)
    conv => whnf
    try dsimp only
    refine ⟨fun h => absurd h (by decide), fun _ => ?_⟩
    conv => whnf
    try dsimp only
    refine ⟨12, [], rfl, hin, ?_⟩
    conv => whnf
    try dsimp only
    rw [hcl, li_3]
    refine ⟨fun h3 => ?_, fun h3 => ?_⟩
    · conv => whnf
      try dsimp only
      refine ⟨Or.inl rfl, h0 fun q hq e _ _ => ?_⟩
      have := huni q hq e
      subst this
      have := nI_inj (by omega) (by omega) h3
      omega
    have hlt : sp a < 3 := by
      have : ¬ sp a = 3 := fun e => h3 (by rw [e])
      omega
    conv => whnf
    try dsimp only
    refine ⟨fun h => ?_, fun hf0 => ?_⟩
    · conv => whnf
      try dsimp only
      exact ⟨Or.inl rfl, h0 fun q _ _ hq0 => absurd h hq0⟩
    have go : (t = -1 ∨ f < t) → am_wp (ax_E xl xs) (ax_cd Y_Model_span) (am_sp (ax_E xl xs) ax_cd ax_ml d) Q 34 [some (.ref 89), some (.int x), some (.int f), some (.int t)] [] (KS, i) 0 0 := by
      intro ht
      have hat : Int32.ofInt 3 * x + i 101 x.toNatClampNeg = nI (3 * a + sp a) := by rw [hcl, hx, li_3, pk_mul, nI_add]
      refine am_go (am_sp_mo _) (fun _ => false) 60 (fun X hX => ?_)
      conv => whnf
      try dsimp only
      refine ⟨12, [], rfl, hin, ?_⟩
      conv => whnf
      try dsimp only
      refine ⟨36, [], rfl, by rw [hat]; exact vp_in_nI (by omega) (by decide), ?_⟩
      conv => whnf
      try dsimp only
      rw [hat]
      refine ⟨12, [], rfl, hin, ?_⟩
      conv => whnf
      try dsimp only
      rw [up_n (Or.inl (by decide)), hat]
      refine ⟨36, [], rfl, vp_in_nI (by omega) (by decide), ?_⟩
      conv => whnf
      try dsimp only
      refine ⟨12, [], rfl, hin, ?_⟩
      conv => whnf
      try dsimp only
      refine ⟨12, [], rfl, hin, ?_⟩
      conv => whnf
      try dsimp only
      refine ⟨Or.inr rfl, q_eq rfl ?_ (h1 a ha hx hf0 ht hlt)⟩
      rw [up_n (Or.inl (by decide)), up_n (Or.inl (by decide)), hcl, nI_clamp (by omega), li_1, nI_add, hx, nI_clamp (by omega)]
    conv => whnf
    try dsimp only
    refine ⟨fun ht => hX _ _ _ _ _ _ (go (Or.inl ht)), fun ht => ?_⟩
    conv => whnf
    try dsimp only
    refine ⟨fun ht2 => hX _ _ _ _ _ _ (go (Or.inr ht2)), fun ht2 => ?_⟩
    conv => whnf
    try dsimp only
    exact ⟨Or.inl rfl, h0 fun q _ _ _ h => absurd h (by rintro (h | h) <;> contradiction)⟩
  · conv => whnf
    try dsimp only
    refine ⟨fun _ => ?_, fun h => absurd rfl h⟩
    conv => whnf
    try dsimp only
    exact ⟨Or.inl rfl, h0 fun q hq e => absurd e (out_np (by omega) hx hq)⟩
theorem m_withdraw {x v : Int32} (hc : i 89 13 = nI na) (hn : na ≤ 12) (hd : 2 ≤ d) (h1 : ∀ a, a < na → x = nI a → Q (some (.int 1)) (KS, am_up i 105 a (vp_nar .boolean v))) (h0 : (x < 0 ∨ nI na ≤ x) → Q (some (.int 0)) (KS, i)) : SP xl xs d Y_Model_withdraw [.ref 89, .int x, .int v] (KS, i) Q := by
  obtain ⟨d, rfl⟩ : ∃ q, d = q + 1 := ⟨d - 1, by omega⟩
  refine ⟨Nat.le_of_ble_eq_true rfl, am_go (am_sp_mo _) (fun _ => false) 30 (fun X hX => ?_)⟩
  conv => whnf
  try dsimp only
  refine m_isAdv hc hn (by omega) (fun a ha hx => ?_) (fun hx => ?_)
  · conv => whnf
    try dsimp only
    refine ⟨fun _ => ?_, fun h => absurd h (by decide)⟩
    conv => whnf
    try dsimp only
    refine ⟨12, [], rfl, by rw [hx]; exact vp_in_nI (by omega) (by decide), ?_⟩
    conv => whnf
    try dsimp only
    exact ⟨Or.inr rfl, q_eq rfl (by rw [hx, nI_clamp (by omega)]) (h1 a ha hx)⟩
  · conv => whnf
    try dsimp only
    refine ⟨fun h => absurd rfl h, fun _ => ?_⟩
    conv => whnf
    try dsimp only
    exact ⟨Or.inl rfl, h0 hx⟩
theorem m_group {x : Int32} (hc : i 89 13 = nI na) (hn : na ≤ 12) (hd : 2 ≤ d) (h1 : ∀ a, a < na → x = nI a → Q (some (.int (i 106 a))) (KS, i)) (h0 : (x < 0 ∨ nI na ≤ x) → Q (some (.int (-1))) (KS, i)) : SP xl xs d Y_Model_group [.ref 89, .int x] (KS, i) Q := by
  obtain ⟨d, rfl⟩ : ∃ q, d = q + 1 := ⟨d - 1, by omega⟩
  refine ⟨Nat.le_of_ble_eq_true rfl, am_go (am_sp_mo _) (fun _ => false) 30 (fun X hX => ?_)⟩
  conv => whnf
  try dsimp only
  refine m_isAdv hc hn (by omega) (fun a ha hx => ?_) (fun hx => ?_)
  · conv => whnf
    try dsimp only
    refine ⟨fun h => absurd h (by decide), fun _ => ?_⟩
    conv => whnf
    try dsimp only
    refine ⟨12, [], rfl, by rw [hx]; exact vp_in_nI (by omega) (by decide), ?_⟩
    conv => whnf
    try dsimp only
    exact q_eq (by rw [hx, nI_clamp (by omega)]) rfl (h1 a ha hx)
  · conv => whnf
    try dsimp only
    refine ⟨fun _ => ?_, fun h => absurd rfl h⟩
    conv => whnf
    try dsimp only
    exact h0 hx
theorem m_except {x y e : Int32} {gr : Nat → Nat} (hp : i 89 1 = nI np) (hn : np ≤ 6) (hc : i 89 13 = nI na) (hm : na ≤ 12) (hg : ∀ a, a < na → i 106 a = nI (gr a) ∧ gr a < 12) (hd : 2 ≤ d)
    (h1 : ∀ a p, a < na → p < np → x = nI a → y = nI p → ¬ e < 0 → Q (some (.int 1)) (KS, am_up i 107 (6 * gr a + p) e))
    (h0 : (∀ a p, a < na → p < np → x = nI a → y = nI p → e < 0) → Q (some (.int 0)) (KS, i)) : SP xl xs d Y_Model_except [.ref 89, .int x, .int y, .int e] (KS, i) Q := by
  obtain ⟨d, rfl⟩ : ∃ q, d = q + 1 := ⟨d - 1, by omega⟩
  refine ⟨Nat.le_of_ble_eq_true rfl, am_go (am_sp_mo _) (fun _ => false) 40 (fun X hX => ?_)⟩
  conv => whnf
  try dsimp only
  refine m_isAdv hc hm (by omega) (fun a ha hx => ?_) (fun hx => ?_)
  · conv => whnf
    try dsimp only
    refine ⟨fun h => absurd h (by decide), fun _ => ?_⟩
    conv => whnf
    try dsimp only
    refine m_isPack hp hn (by omega) (fun p hpp hy => ?_) (fun hy => ?_)
    · conv => whnf
      try dsimp only
      refine ⟨fun h => absurd h (by decide), fun _ => ?_⟩
      conv => whnf
      try dsimp only
      refine ⟨fun he => ?_, fun he => ?_⟩
      · have hg1 := hg a ha
        have hat : Int32.ofInt 6 * i 106 x.toNatClampNeg + y = nI (6 * gr a + p) := by rw [hx, nI_clamp (by omega), hg1.1, hy, li_6, pk_mul, nI_add]
        conv => whnf
        try dsimp only
        refine ⟨12, [], rfl, by rw [hx]; exact vp_in_nI (by omega) (by decide), ?_⟩
        conv => whnf
        try dsimp only
        refine ⟨72, [], rfl, by rw [hat]; exact vp_in_nI (by omega) (by decide), ?_⟩
        conv => whnf
        try dsimp only
        exact ⟨Or.inr rfl, q_eq rfl (by rw [hat, nI_clamp (by omega)]) (h1 a p ha hpp hx hy (by rw [Int32.lt_iff_toInt_lt]; rw [Int32.le_iff_toInt_le] at he; omega))⟩
      · conv => whnf
        try dsimp only
        exact ⟨Or.inl rfl, h0 fun _ _ _ _ _ _ => by rw [Int32.lt_iff_toInt_lt]; rw [Int32.le_iff_toInt_le] at he; omega⟩
    · conv => whnf
      try dsimp only
      refine ⟨fun _ => ?_, fun h => absurd rfl h⟩
      conv => whnf
      try dsimp only
      exact ⟨Or.inl rfl, h0 fun _ p _ hp' _ e' => absurd e' (out_np (by omega) hy hp')⟩
  · conv => whnf
    try dsimp only
    refine ⟨fun _ => ?_, fun h => absurd rfl h⟩
    conv => whnf
    try dsimp only
    exact ⟨Or.inl rfl, h0 fun a _ ha' _ e' => absurd e' (out_np (by omega) hx ha')⟩
theorem m_tick {x : Int32} {c : Nat} (hc : i 89 0 = nI c) (hm : c ≤ 1000000000) (hd : 2 ≤ d)
    (h1 : ∀ n, n ≤ 1000000 → x = nI n → c + n ≤ 1000000000 → Q (some (.int (nI (c + n)))) (KS, am_up i 89 0 (nI (c + n))))
    (h0 : (∀ n, n ≤ 1000000 → x = nI n → ¬ c + n ≤ 1000000000) → Q (some (.int (-1))) (KS, i)) : SP xl xs d Y_Model_tick [.ref 89, .int x] (KS, i) Q := by
  obtain ⟨d, rfl⟩ : ∃ q, d = q + 1 := ⟨d - 1, by omega⟩
  refine ⟨Nat.le_of_ble_eq_true rfl, am_go (am_sp_mo _) (fun _ => false) 40 (fun X hX => ?_)⟩
  conv => whnf
  try dsimp only
  refine m_in (by omega) (fun hl hh => ?_) (fun hno => ?_)
  · obtain ⟨n, hn, rfl⟩ : ∃ n, n ≤ 1000000 ∧ x = nI n := by
      rw [Int32.le_iff_toInt_le, li_0, show (nI 0).toInt = 0 by decide] at hl
      rw [Int32.le_iff_toInt_le, li_M, show (nI 1000000).toInt = 1000000 by decide] at hh
      rcases pk_ix x (n := 1000001) (by decide) with q | q | ⟨k, hk, e⟩
      · rw [Int32.lt_iff_toInt_lt, show (0 : Int32).toInt = 0 by decide] at q
        omega
      · rw [Int32.le_iff_toInt_le, show (nI 1000001).toInt = 1000001 by decide] at q
        omega
      · exact ⟨k, by omega, e⟩
    conv => whnf
    try dsimp only
    refine ⟨fun h => absurd h (by decide), fun _ => ?_⟩
    conv => whnf
    try dsimp only
    rw [hc, li_G, nI_add]
    refine ⟨fun hh => ?_, fun hh => ?_⟩
    · have hle : c + n ≤ 1000000000 := (nI_leI (by omega) (by omega)).mp hh
      conv => whnf
      try dsimp only
      refine q_eq ?_ ?_ (h1 n hn rfl hle)
      · rw [up_s, hc, nI_add]
      · rw [hc, nI_add]
    · conv => whnf
      try dsimp only
      refine h0 fun n' hn' e => ?_
      have := nI_inj (by omega) (by omega) e
      subst this
      intro hle
      exact hh (nI_le (by omega) (by omega))
  · conv => whnf
    try dsimp only
    refine ⟨fun _ => ?_, fun h => absurd rfl h⟩
    conv => whnf
    try dsimp only
    refine h0 fun n hn e => ?_
    refine absurd (hno ?_) (fun h => h ?_)
    · rw [e, li_0]; exact nI_le (by omega) (by omega)
    · rw [e, li_M]; exact nI_le (by omega) (by omega)
end MODEL
