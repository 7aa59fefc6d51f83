/-! THE REFERENCE: choices, spans, scores at versions, hits told -/
def mhas (i : Nat → Nat → Int32) (sp : Nat → Nat) (v : Int32) (a : Nat) : Bool := bany (spn (fun k => i 102 (3 * a + k)) (fun k => i 103 (3 * a + k)) v) (sp a)
def mstk (i : Nat → Nat → Int32) (sp : Nat → Nat) (p v : Int32) : Nat → Bool := stk (i 100) (i 105) (mhas i sp v) p
def mgst (i : Nat → Nat → Int32) (sp : Nat → Nat) (g p v : Int32) (a : Nat) : Bool := decide (i 106 a = g) && mstk i sp p v a
theorem le_nlt {x y : Int32} (h : x ≤ y) : ¬ y < x := by rw [Int32.lt_iff_toInt_lt]; rw [Int32.le_iff_toInt_le] at h; omega
theorem nle_lt {x y : Int32} (h : ¬ x ≤ y) : y < x := by rw [Int32.lt_iff_toInt_lt]; rw [Int32.le_iff_toInt_le] at h; omega
theorem lt_nle {x y : Int32} (h : x < y) : ¬ y ≤ x := by rw [Int32.lt_iff_toInt_lt] at h; rw [Int32.le_iff_toInt_le]; omega
theorem nlt_le {x y : Int32} (h : ¬ x < y) : y ≤ x := by rw [Int32.lt_iff_toInt_lt] at h; rw [Int32.le_iff_toInt_le]; omega
section MODEL3
variable {xl : Nat} {xs : Nat → Int32} {d : Nat} {i : Nat → Nat → Int32} {Q : am_Q} {u : am_St} {np nn na : Nat} {sp : Nat → Nat} {ch : Nat → Nat → Nat}
theorem m_inN {v hi : Int32} (n : Nat) (hn : n < 2 ^ 30) (hh : hi = nI n) (hd : 1 ≤ d) (h1 : ∀ k, k < n + 1 → v = nI k → Q (some (.int 1)) u) (h0 : (∀ k, k < n + 1 → ¬ v = nI k) → Q (some (.int 0)) u) : SP xl xs d Y_Model_in [.int v, .int (Int32.ofInt 0), .int hi] u Q := by
  subst hh
  refine m_in hd (fun hl hh => ?_) (fun hno => ?_)
  · rcases pk_ix v (n := n + 1) (by omega) with q | q | ⟨k, hk, e⟩
    · rw [li_0] at hl
      exact absurd q (le_nlt hl)
    · rw [Int32.le_iff_toInt_le, nI_toInt (by omega)] at q
      rw [Int32.le_iff_toInt_le, nI_toInt (by omega)] at hh
      omega
    · exact h1 k hk e
  · refine h0 fun k hk e => hno ?_ ?_
    · rw [e, li_0]; exact nI_le (by omega) (by omega)
    · rw [e]; exact nI_le (by omega) (by omega)
theorem m_severity {x x1 x2 x3 x4 x5 : Int32} (hc : i 89 13 = nI na) (hn : na ≤ 12) (hd : 2 ≤ d)
    (h1 : ∀ a r e t h m, a < na → r < 4 → e < 2 → t < 3 → h < 2 → m < 27 → x = nI a → x1 = nI r → x2 = nI e → x3 = nI t → x4 = nI h → x5 = nI m → ∀ j : Nat → Nat → Int32, (∀ q, q ≠ 104 → j q = i q) → (∀ q, j 104 q = if 7 * a ≤ q ∧ q < 7 * a + 7 then nI (chs r e t h m (q - 7 * a)) else i 104 q) → Q (some (.int 1)) (KS, j))
    (h0 : (∀ a r e t h m, a < na → r < 4 → e < 2 → t < 3 → h < 2 → m < 27 → ¬ (x = nI a ∧ x1 = nI r ∧ x2 = nI e ∧ x3 = nI t ∧ x4 = nI h ∧ x5 = nI m)) → Q (some (.int 0)) (KS, i)) : SP xl xs d Y_Model_severity [.ref 89, .int x, .int x1, .int x2, .int x3, .int x4, .int x5] (KS, i) Q := by
  obtain ⟨d, rfl⟩ : ∃ q, d = q + 1 := ⟨d - 1, by omega⟩
  refine ⟨Nat.le_of_ble_eq_true rfl, am_go (am_sp_mo _) (fun q => q == 61) 120 (fun X hX => ?_)⟩
  conv => whnf
  try dsimp only
  have bad : (∀ a r e t h m, a < na → r < 4 → e < 2 → t < 3 → h < 2 → m < 27 → ¬ (x = nI a ∧ x1 = nI r ∧ x2 = nI e ∧ x3 = nI t ∧ x4 = nI h ∧ x5 = nI m)) → am_wp (ax_E xl xs) (ax_cd Y_Model_severity) (am_sp (ax_E xl xs) ax_cd ax_ml d) Q 61 [some (.ref 89), some (.int x), some (.int x1), some (.int x2), some (.int x3), some (.int x4), some (.int x5), none] [] (KS, i) 0 0 := by
    intro hno
    refine am_go (am_sp_mo _) (fun _ => false) 30 (fun X hX => ?_)
    conv => whnf
    try dsimp only
    refine ⟨fun h => absurd rfl h, fun _ => ?_⟩
    conv => whnf
    try dsimp only
    exact ⟨Or.inl rfl, h0 hno⟩
  refine m_isAdv hc hn (by omega) (fun a ha hx => ?_) (fun hx => ?_)
  rotate_left
  · conv => whnf
    try dsimp only
    refine ⟨fun _ => hX _ _ _ _ _ _ (bad fun a _ _ _ _ _ ha _ _ _ _ _ z => out_np (by omega) hx ha z.1), fun h => absurd rfl h⟩
  conv => whnf
  try dsimp only
  refine ⟨fun h => absurd h (by decide), fun _ => ?_⟩
  conv => whnf
  try dsimp only
  refine m_inN 3 (by decide) (by decide) (by omega) (fun r hr e1 => ?_) (fun hno => ?_)
  rotate_left
  · conv => whnf
    try dsimp only
    refine ⟨fun _ => hX _ _ _ _ _ _ (bad fun a r e t h m _ hr _ _ _ _ z => hno r hr z.2.1), fun h => absurd rfl h⟩
  conv => whnf
  try dsimp only
  refine ⟨fun h => absurd h (by decide), fun _ => ?_⟩
  conv => whnf
  try dsimp only
  refine m_inN 1 (by decide) (by decide) (by omega) (fun e he e2 => ?_) (fun hno => ?_)
  rotate_left
  · conv => whnf
    try dsimp only
    refine ⟨fun _ => hX _ _ _ _ _ _ (bad fun a r e t h m _ _ he _ _ _ z => hno e he z.2.2.1), fun h => absurd rfl h⟩
  conv => whnf
  try dsimp only
  refine ⟨fun h => absurd h (by decide), fun _ => ?_⟩
  conv => whnf
  try dsimp only
  refine m_inN 2 (by decide) (by decide) (by omega) (fun t ht e3 => ?_) (fun hno => ?_)
  rotate_left
  · conv => whnf
    try dsimp only
    refine ⟨fun _ => hX _ _ _ _ _ _ (bad fun a r e t h m _ _ _ ht _ _ z => hno t ht z.2.2.2.1), fun h => absurd rfl h⟩
  conv => whnf
  try dsimp only
  refine ⟨fun h => absurd h (by decide), fun _ => ?_⟩
  conv => whnf
  try dsimp only
  refine m_inN 1 (by decide) (by decide) (by omega) (fun h hh e4 => ?_) (fun hno => ?_)
  rotate_left
  · conv => whnf
    try dsimp only
    refine ⟨fun _ => hX _ _ _ _ _ _ (bad fun a r e t h m _ _ _ _ hh _ z => hno h hh z.2.2.2.2.1), fun h => absurd rfl h⟩
  conv => whnf
  try dsimp only
  refine ⟨fun h => absurd h (by decide), fun _ => ?_⟩
  conv => whnf
  try dsimp only
  refine m_inN 26 (by decide) (by decide) (by omega) (fun m hm e5 => ?_) (fun hno => ?_)
  rotate_left
  · conv => whnf
    try dsimp only
    refine ⟨fun _ => hX _ _ _ _ _ _ (bad fun a r e t h m _ _ _ _ _ hm z => hno m hm z.2.2.2.2.2), fun h => absurd rfl h⟩
  conv => whnf
  try dsimp only
  refine ⟨fun h => absurd h (by decide), fun _ => ?_⟩
  conv => whnf
  try dsimp only
  refine ⟨fun _ => ?_, fun h => absurd h (by decide)⟩
  have ix : ∀ k : Nat, Int32.ofInt 7 * x + nI k = nI (7 * a + k) := fun k => by rw [hx, li_7, pk_mul, nI_add]
  have ix0 : Int32.ofInt 7 * x = nI (7 * a) := by rw [hx, li_7, pk_mul]
  have hin : ∀ k, k < 7 → vp_in (nI (7 * a + k)) 84 := fun k hk => vp_in_nI (by omega) (by decide)
  have hcl : ∀ k, k < 7 → (nI (7 * a + k)).toNatClampNeg = 7 * a + k := fun k hk => nI_clamp (by omega)
  have d1 : nI m / Int32.ofInt 9 = nI (m / 9) := by rw [li_9]; exact pk_div (by omega) (by decide) (by decide)
  have d2 : nI m / Int32.ofInt 3 = nI (m / 3) := by rw [li_3]; exact pk_div (by omega) (by decide) (by decide)
  have d3 : nI (m / 3) - nI (m / 3) / Int32.ofInt 3 * Int32.ofInt 3 = nI (m / 3 % 3) := by rw [li_3]; exact pk_rem (by omega) (by decide) (by decide)
  have d4 : nI m - nI m / Int32.ofInt 3 * Int32.ofInt 3 = nI (m % 3) := by rw [li_3]; exact pk_rem (by omega) (by decide) (by decide)
  conv => whnf
  try dsimp only
  refine ⟨84, [], rfl, by rw [ix0]; exact hin 0 (by decide), ?_⟩
  conv => whnf
  try dsimp only
  refine ⟨84, [], rfl, by rw [li_1, ix]; exact hin 1 (by decide), ?_⟩
  conv => whnf
  try dsimp only
  refine ⟨84, [], rfl, by rw [li_2, ix]; exact hin 2 (by decide), ?_⟩
  conv => whnf
  try dsimp only
  refine ⟨84, [], rfl, by rw [li_3, ix]; exact hin 3 (by decide), ?_⟩
  conv => whnf
  try dsimp only
  refine ⟨by decide, ?_⟩
  conv => whnf
  try dsimp only
  refine ⟨84, [], rfl, by rw [li_4, ix]; exact hin 4 (by decide), ?_⟩
  conv => whnf
  try dsimp only
  refine ⟨by decide, ?_⟩
  conv => whnf
  try dsimp only
  refine ⟨by decide, ?_⟩
  conv => whnf
  try dsimp only
  refine ⟨84, [], rfl, by rw [li_5, ix]; exact hin 5 (by decide), ?_⟩
  conv => whnf
  try dsimp only
  refine ⟨by decide, ?_⟩
  conv => whnf
  try dsimp only
  refine ⟨84, [], rfl, by rw [li_6, ix]; exact hin 6 (by decide), ?_⟩
  conv => whnf
  try dsimp only
  refine ⟨Or.inr rfl, h1 a r e t h m ha hr he ht hh hm hx e1 e2 e3 e4 e5 _ (fun q hq => ?_) (fun q => ?_)⟩
  · rw [up_a hq, up_a hq, up_a hq, up_a hq, up_a hq, up_a hq, up_a hq]
  · rw [up_at, up_at, up_at, up_at, up_at, up_at, up_at]
    rw [e5, d4, d2, d3, d1, li_1, li_2, li_4, li_5, li_6]
    rw [show (Int32.ofInt 7 * x + Int32.ofInt 3).toNatClampNeg = 7 * a + 3 by rw [li_3, ix, hcl 3 (by decide)]]
    rw [ix, ix, ix, ix, ix, ix0, hcl 1 (by decide), hcl 2 (by decide), hcl 4 (by decide), hcl 5 (by decide), hcl 6 (by decide), nI_clamp (show 7 * a < 2 ^ 31 by omega)]
    by_cases hq : 7 * a ≤ q ∧ q < 7 * a + 7
    · rw [if_pos hq]
      obtain ⟨k, rfl⟩ : ∃ k, q = 7 * a + k := ⟨q - 7 * a, by omega⟩
      have hk : k < 7 := by omega
      rw [show 7 * a + k - 7 * a = k by omega]
      have cs : k = 0 ∨ k = 1 ∨ k = 2 ∨ k = 3 ∨ k = 4 ∨ k = 5 ∨ k = 6 := by omega
      rcases cs with rfl | rfl | rfl | rfl | rfl | rfl | rfl <;> simp [chs, e1, e2, e3, e4]
    · rw [if_neg hq, if_neg (by omega), if_neg (by omega), if_neg (by omega), if_neg (by omega), if_neg (by omega), if_neg (by omega), if_neg (by omega)]
theorem m_broken (hN : MNK i nn) (hv : ∀ q, q < 30 → ¬ i 92 q = -1) (hpl : ∀ p, p < 6 → i 93 p = -1 ∨ ∃ q, q < 5 ∧ i 93 p = nI q) (hd : 3 ≤ d)
    (h : ∀ j : Nat → Nat → Int32, (∀ b, b ≠ 111 → j b = i b) → (∀ p, p < 6 → j 111 p = i 93 p) → Q (some (.int (nI (bcnt (mbrk j) nn)))) (KS, j)) : SP xl xs d Y_Model_broken [.ref 89] (KS, i) Q := by
  obtain ⟨d, rfl⟩ : ∃ q, d = q + 1 := ⟨d - 1, by omega⟩
  refine ⟨Nat.le_of_ble_eq_true rfl, am_go (am_sp_mo _) (fun _ => false) 20 (fun X hX => ?_)⟩
  conv => whnf
  try dsimp only
  refine m_look (by omega) (fun j h1 h2 => ?_)
  conv => whnf
  try dsimp only
  refine m_lacking (nn := nn) ?_ ?_ (by omega) ?_
  · unfold MNK at *
    rw [h1 89 (by decide), h1 94 (by decide), h1 96 (by decide)]
    exact hN
  · unfold NWK
    rw [h1 92 (by decide)]
    exact ⟨fun p hp => by rw [h2 p hp]; exact hpl p hp, hv⟩
  · conv => whnf
    try dsimp only
    exact h j h1 h2
theorem m_hasSpan {a : Nat} {v : Int32} (hA : MAK i na sp) (ha : a < 12) (hd : 1 ≤ d) (h : ∀ b : Bool, b = mhas i sp v a → Q (some (.int (if b = true then 1 else 0))) (KS, i)) : SP xl xs d Y_Model_hasSpan [.ref 89, .int (nI a), .int v] (KS, i) Q := by
  have hs := hA.2.2 a ha
  have e3 : Int32.ofInt 3 * nI a = nI (3 * a) := by rw [li_3, pk_mul]
  obtain ⟨d, rfl⟩ : ∃ q, d = q + 1 := ⟨d - 1, by omega⟩
  refine ⟨Nat.le_of_ble_eq_true rfl, am_go (am_sp_mo _) (fun q => q == 7) 30 (fun X hX => ?_)⟩
  conv => whnf
  try dsimp only
  rw [e3]
  refine hX _ _ _ _ _ _ ?_
  have loop : ∀ m k, k + m = sp a → am_wp (ax_E xl xs) (ax_cd Y_Model_hasSpan) (am_sp (ax_E xl xs) ax_cd ax_ml d) Q 7 [some (.ref 89), some (.int (nI a)), some (.int v), some (.int (if bany (spn (fun k => i 102 (3 * a + k)) (fun k => i 103 (3 * a + k)) v) k = true then Int32.ofInt 1 else Int32.ofInt 0)), some (.int (nI (3 * a + k)))] [] (KS, i) 0 0 := by
    intro m
    induction m with
    | zero =>
      intro k hk
      have : k = sp a := by omega
      subst this
      generalize hb : bany (spn (fun k => i 102 (3 * a + k)) (fun k => i 103 (3 * a + k)) v) (sp a) = b
      refine am_go (am_sp_mo _) (fun q => q == 7) 40 (fun X hX => ?_)
      conv => whnf
      try dsimp only
      refine ⟨12, [], rfl, vp_in_nI ha (by decide), ?_⟩
      conv => whnf
      try dsimp only
      rw [nI_clamp (show a < 2 ^ 31 by omega), hs.1, e3, nI_add]
      refine ⟨fun _ => ?_, fun hh => absurd (nI_le (Nat.le_refl _) (by omega)) hh⟩
      conv => whnf
      try dsimp only
      have h := h b hb.symm
      cases b with
      | false => exact ⟨Or.inl rfl, h⟩
      | true => exact ⟨Or.inr rfl, h⟩
    | succ m ih =>
      intro k hk
      have ih := ih (k + 1) (by omega)
      rw [bany] at ih
      have hcl : (nI (3 * a + k)).toNatClampNeg = 3 * a + k := nI_clamp (by omega)
      have hin : vp_in (nI (3 * a + k)) 36 := vp_in_nI (by omega) (by decide)
      generalize hb : bany (spn (fun k => i 102 (3 * a + k)) (fun k => i 103 (3 * a + k)) v) k = b at ih
      generalize hs2 : spn (fun k => i 102 (3 * a + k)) (fun k => i 103 (3 * a + k)) v k = b2 at ih
      have e1 : nI (3 * a + k) + Int32.ofInt 1 = nI (3 * a + (k + 1)) := by rw [li_1, nI_add]; rfl
      refine am_go (am_sp_mo _) (fun q => q == 7) 60 (fun X hX => ?_)
      conv => whnf
      try dsimp only
      refine ⟨12, [], rfl, vp_in_nI ha (by decide), ?_⟩
      conv => whnf
      try dsimp only
      rw [nI_clamp (show a < 2 ^ 31 by omega), hs.1, e3, nI_add]
      refine ⟨fun hh => absurd hh (nI_ge (by omega) (by omega)), fun _ => ?_⟩
      conv => whnf
      try dsimp only
      cases b with
      | true =>
        refine ⟨fun _ => ?_, fun h => absurd h (by decide)⟩
        conv => whnf
        try dsimp only
        rw [e1]
        exact hX _ _ _ _ _ _ ih
      | false =>
        refine ⟨fun h => absurd rfl h, fun _ => ?_⟩
        conv => whnf
        try dsimp only
        refine ⟨36, [], rfl, hin, ?_⟩
        conv => whnf
        try dsimp only
        rw [hcl]
        refine ⟨fun hl => ?_, fun hl => ?_⟩
        · have : b2 = false := by rw [← hs2]; unfold spn; rw [show decide (i 102 (3 * a + k) ≤ v) = false from decide_eq_false (lt_nle hl)]; rfl
          subst this
          conv => whnf
          try dsimp only
          rw [e1]
          exact hX _ _ _ _ _ _ ih
        have hl' : decide (i 102 (3 * a + k) ≤ v) = true := decide_eq_true (nlt_le hl)
        conv => whnf
        try dsimp only
        refine ⟨36, [], rfl, hin, ?_⟩
        conv => whnf
        try dsimp only
        rw [hcl]
        refine ⟨fun ht => ?_, fun ht => ?_⟩
        · have : b2 = true := by rw [← hs2]; unfold spn; rw [hl', show decide (i 103 (3 * a + k) = -1) = true from decide_eq_true ht]; rfl
          subst this
          conv => whnf
          try dsimp only
          rw [e1]
          exact hX _ _ _ _ _ _ ih
        conv => whnf
        try dsimp only
        refine ⟨36, [], rfl, hin, ?_⟩
        conv => whnf
        try dsimp only
        rw [hcl]
        refine ⟨fun hg => ?_, fun hg => ?_⟩
        · have : b2 = false := by rw [← hs2]; unfold spn; rw [show decide (i 103 (3 * a + k) = -1) = false from decide_eq_false ht, show decide (v < i 103 (3 * a + k)) = false from decide_eq_false (le_nlt hg), Bool.or_false, Bool.and_false]
          subst this
          conv => whnf
          try dsimp only
          rw [e1]
          exact hX _ _ _ _ _ _ ih
        · have : b2 = true := by rw [← hs2]; unfold spn; rw [hl', show decide (v < i 103 (3 * a + k)) = true from decide_eq_true (nle_lt hg), Bool.or_true]; rfl
          subst this
          conv => whnf
          try dsimp only
          rw [e1]
          exact hX _ _ _ _ _ _ ih
  exact loop (sp a) 0 (by omega)
theorem m_scoreThere {g p v : Int32} (hA : MAK i na sp) (hw : ∀ a, i 105 a = 0 ∨ i 105 a = 1) (hch : ∀ a, a < 12 → ∀ k, k < 7 → i 104 (7 * a + k) = nI (ch a k) ∧ ch a k < 4) (hd : 3 ≤ d) (h : Q (some (.int (mx (mgst i sp g p v) (fun a => msc (ch a)) na))) (KS, i)) : SP xl xs d Y_Model_scoreThere [.ref 89, .int g, .int p, .int v] (KS, i) Q := by
  have hc := hA.1
  have hn := hA.2.1
  obtain ⟨d, rfl⟩ : ∃ q, d = q + 1 := ⟨d - 1, by omega⟩
  refine ⟨Nat.le_of_ble_eq_true rfl, am_go (am_sp_mo _) (fun q => q == 6) 30 (fun X hX => ?_)⟩
  conv => whnf
  try dsimp only
  refine hX _ _ _ _ _ _ ?_
  have loop : ∀ m k o, k + m = na → am_wp (ax_E xl xs) (ax_cd Y_Model_scoreThere) (am_sp (ax_E xl xs) ax_cd ax_ml d) Q 6 [some (.ref 89), some (.int g), some (.int p), some (.int v), some (.int (mx (mgst i sp g p v) (fun a => msc (ch a)) k)), some (.int (nI k)), o] [] (KS, i) 0 0 := by
    intro m
    induction m with
    | zero =>
      intro k o hk
      have : k = na := by omega
      subst this
      refine am_go (am_sp_mo _) (fun q => q == 6) 30 (fun X hX => ?_)
      conv => whnf
      try dsimp only
      refine ⟨fun _ => ?_, fun hh => absurd (by rw [hc]; exact nI_le (Nat.le_refl _) (by omega)) hh⟩
      conv => whnf
      try dsimp only
      exact h
    | succ m ih =>
      intro k o hk
      have ih := fun o => ih (k + 1) o (by omega)
      have hcl : (nI k).toNatClampNeg = k := nI_clamp (by omega)
      have hin : vp_in (nI k) 12 := vp_in_nI (by omega) (by decide)
      have e1 : nI k + Int32.ofInt 1 = nI (k + 1) := by rw [li_1, nI_add]
      have no : mgst i sp g p v k = false → am_wp (ax_E xl xs) (ax_cd Y_Model_scoreThere) (am_sp (ax_E xl xs) ax_cd ax_ml d) Q 61 [some (.ref 89), some (.int g), some (.int p), some (.int v), some (.int (mx (mgst i sp g p v) (fun a => msc (ch a)) k)), some (.int (nI k)), o] [] (KS, i) 0 0 := by
        intro e
        have ih := ih (some (.int (Int32.ofInt 0)))
        rw [mx, e, if_neg (by decide)] at ih
        refine am_go (am_sp_mo _) (fun q => q == 6) 30 (fun X hX => ?_)
        conv => whnf
        try dsimp only
        refine ⟨fun _ => ?_, fun h => absurd rfl h⟩
        conv => whnf
        try dsimp only
        rw [e1]
        exact hX _ _ _ _ _ _ ih
      refine am_go (am_sp_mo _) (fun q => q == 6 || q == 61) 60 (fun X hX => ?_)
      conv => whnf
      try dsimp only
      refine ⟨fun hh => absurd hh (by rw [hc]; exact nI_ge (by omega) (by omega)), fun _ => ?_⟩
      conv => whnf
      try dsimp only
      refine ⟨12, [], rfl, hin, ?_⟩
      conv => whnf
      try dsimp only
      rw [hcl]
      refine ⟨fun hne => hX _ _ _ _ _ _ (no (by unfold mgst; rw [show decide (i 106 k = g) = false from decide_eq_false hne]; rfl)), fun hg => ?_⟩
      have hg' : decide (i 106 k = g) = true := decide_eq_true hg
      conv => whnf
      try dsimp only
      refine ⟨12, [], rfl, hin, ?_⟩
      conv => whnf
      try dsimp only
      rw [hcl]
      refine ⟨fun hne => hX _ _ _ _ _ _ (no (by unfold mgst mstk stk; rw [show decide (i 100 k = p) = false from decide_eq_false hne, Bool.false_and, Bool.and_false])), fun hp => ?_⟩
      have hp' : decide (i 100 k = p) = true := decide_eq_true hp
      conv => whnf
      try dsimp only
      refine ⟨12, [], rfl, hin, ?_⟩
      conv => whnf
      try dsimp only
      rw [hcl]
      rcases hw k with e | e
      rotate_left
      · rw [e]
        refine ⟨fun _ => hX _ _ _ _ _ _ (no (by unfold mgst mstk stk; rw [show decide (i 105 k = 0) = false from decide_eq_false (by rw [e]; decide), Bool.false_and, Bool.and_false, Bool.and_false])), fun h => absurd h (by decide)⟩
      rw [e]
      refine ⟨fun h => absurd rfl h, fun _ => ?_⟩
      conv => whnf
      try dsimp only
      refine m_hasSpan hA (by omega) (by omega) (fun b hb => ?_)
      have hgs : mgst i sp g p v k = b := by unfold mgst mstk stk; rw [hg', hp', show decide (i 105 k = 0) = true from decide_eq_true e, ← hb]; rfl
      cases b with
      | false =>
        conv => whnf
        try dsimp only
        refine ⟨fun _ => hX _ _ _ _ _ _ (no hgs), fun h => absurd rfl h⟩
      | true =>
        have ih := ih (some (.int (Int32.ofInt 1)))
        rw [mx, hgs, if_pos rfl] at ih
        conv => whnf
        try dsimp only
        refine ⟨fun h => absurd h (by decide), fun _ => ?_⟩
        conv => whnf
        try dsimp only
        refine ⟨fun h => absurd h (by decide), fun _ => ?_⟩
        conv => whnf
        try dsimp only
        refine m_scoreOf (by omega) (hch k (by omega)) (by omega) ?_
        conv => whnf
        try dsimp only
        refine ⟨fun hle => ?_, fun hle => ?_⟩
        · rw [if_neg (le_nlt hle)] at ih
          conv => whnf
          try dsimp only
          rw [e1]
          exact hX _ _ _ _ _ _ ih
        · rw [if_pos (nle_lt hle)] at ih
          conv => whnf
          try dsimp only
          refine m_scoreOf (by omega) (hch k (by omega)) (by omega) ?_
          conv => whnf
          try dsimp only
          rw [e1]
          exact hX _ _ _ _ _ _ ih
  exact loop na 0 none (by omega)
theorem m_isExcepted {g p : Nat} (hg : g < 12) (hp : p < 6) (hd : 1 ≤ d) (h : ∀ b : Bool, b = decide (i 89 0 < i 107 (6 * g + p)) → Q (some (.int (if b = true then 1 else 0))) (KS, i)) : SP xl xs d Y_Model_isExcepted [.ref 89, .int (nI g), .int (nI p)] (KS, i) Q := by
  have e6 : Int32.ofInt 6 * nI g + nI p = nI (6 * g + p) := by rw [li_6, pk_mul, nI_add]
  obtain ⟨d, rfl⟩ : ∃ q, d = q + 1 := ⟨d - 1, by omega⟩
  refine ⟨Nat.le_of_ble_eq_true rfl, am_go (am_sp_mo _) (fun _ => false) 30 (fun X hX => ?_)⟩
  conv => whnf
  try dsimp only
  rw [e6]
  refine ⟨72, [], rfl, vp_in_nI (by omega) (by decide), ?_⟩
  conv => whnf
  try dsimp only
  rw [nI_clamp (show 6 * g + p < 2 ^ 31 by omega)]
  refine ⟨fun hle => ?_, fun hle => ?_⟩
  · conv => whnf
    try dsimp only
    exact ⟨Or.inl rfl, h false (decide_eq_false (le_nlt hle)).symm⟩
  · conv => whnf
    try dsimp only
    exact ⟨Or.inr rfl, h true (decide_eq_true (nle_lt hle)).symm⟩
theorem m_tell {nh g p : Nat} {s : Int32} (hc : i 89 22 = nI nh) (hn : nh < 72) (hg : g < 12) (hp : p < 6) (hr : ∀ p, i 110 p = 0 ∨ i 110 p = 1) (hd : 2 ≤ d)
    (h : ∀ j : Nat → Nat → Int32, (∀ q, q ≠ 108 → q ≠ 89 → j q = i q) → (∀ q, j 89 q = if q = 22 then nI (nh + 1) else i 89 q) → (∀ q, q < 6 * nh → j 108 q = i 108 q) → j 108 (6 * nh) = nI p → j 108 (6 * nh + 1) = nI g → j 108 (6 * nh + 2) = s → j 108 (6 * nh + 3) = i 109 p → j 108 (6 * nh + 4) = i 110 p → j 108 (6 * nh + 5) = (if i 89 0 < i 107 (6 * g + p) then 1 else 0) → Q none (KS, j)) : SP xl xs d Y_Model_tell [.ref 89, .int (nI p), .int (nI g), .int s] (KS, i) Q := by
  have e6 : Int32.ofInt 6 * nI nh = nI (6 * nh) := by rw [li_6, pk_mul]
  have hin : ∀ k, k < 6 → vp_in (nI (6 * nh + k)) 432 := fun k hk => vp_in_nI (by omega) (by decide)
  have hcl : ∀ k, k < 6 → (nI (6 * nh + k)).toNatClampNeg = 6 * nh + k := fun k hk => nI_clamp (by omega)
  have hcp : (nI p).toNatClampNeg = p := nI_clamp (by omega)
  have hip : vp_in (nI p) 6 := vp_in_nI hp (by decide)
  obtain ⟨d, rfl⟩ : ∃ q, d = q + 1 := ⟨d - 1, by omega⟩
  refine ⟨Nat.le_of_ble_eq_true rfl, am_go (am_sp_mo _) (fun q => q == 74) 80 (fun X hX => ?_)⟩
  conv => whnf
  try dsimp only
  rw [hc, e6]
  refine ⟨432, [], rfl, hin 0 (by decide), ?_⟩
  conv => whnf
  try dsimp only
  rw [li_1, nI_add]
  refine ⟨432, [], rfl, hin 1 (by decide), ?_⟩
  conv => whnf
  try dsimp only
  rw [li_2, nI_add]
  refine ⟨432, [], rfl, hin 2 (by decide), ?_⟩
  conv => whnf
  try dsimp only
  refine ⟨6, [], rfl, hip, ?_⟩
  conv => whnf
  try dsimp only
  rw [li_3, nI_add]
  refine ⟨432, [], rfl, hin 3 (by decide), ?_⟩
  conv => whnf
  try dsimp only
  refine ⟨6, [], rfl, hip, ?_⟩
  conv => whnf
  try dsimp only
  rw [hcl 1 (by decide), hcl 2 (by decide), hcl 3 (by decide), nI_clamp (show 6 * nh < 2 ^ 31 by omega), hcp, up_n (Or.inl (by decide)), up_n (Or.inl (by decide)), up_n (Or.inl (by decide)), up_n (Or.inl (by decide)), up_n (Or.inl (by decide)), up_n (Or.inl (by decide)), up_n (Or.inl (by decide))]
  generalize hJ : am_up (am_up (am_up (am_up i 108 (6 * nh) (nI p)) 108 (6 * nh + 1) (nI g)) 108 (6 * nh + 2) s) 108 (6 * nh + 3) (i 109 p) = J
  have J0 : ∀ q, q ≠ 108 → J q = i q := fun q hq => by rw [← hJ, up_a hq, up_a hq, up_a hq, up_a hq]
  have J1 : ∀ q, J 108 q = if q = 6 * nh + 3 then i 109 p else if q = 6 * nh + 2 then s else if q = 6 * nh + 1 then nI g else if q = 6 * nh then nI p else i 108 q := fun q => by
    rw [← hJ, up_at, up_at, up_at, up_at]
    simp only [true_and]
  have go : ∀ r : Int32, r = i 110 p → am_wp (ax_E xl xs) (ax_cd Y_Model_tell) (am_sp (ax_E xl xs) ax_cd ax_ml d) Q 74 [some (.ref 89), some (.int (nI p)), some (.int (nI g)), some (.int s), some (.int (nI (6 * nh)))] [.int r, .int (nI (6 * nh) + Int32.ofInt 4), .ref 108] (KS, J) 0 0 := by
    intro r er
    have fin : ∀ b : Bool, b = decide (i 89 0 < i 107 (6 * g + p)) → am_wp (ax_E xl xs) (ax_cd Y_Model_tell) (am_sp (ax_E xl xs) ax_cd ax_ml d) Q 97 [some (.ref 89), some (.int (nI p)), some (.int (nI g)), some (.int s), some (.int (nI (6 * nh)))] [.int (if b = true then 1 else 0), .int (nI (6 * nh) + Int32.ofInt 5), .ref 108] (KS, am_up J 108 (6 * nh + 4) r) 0 0 := by
      intro b hb
      refine am_go (am_sp_mo _) (fun _ => false) 30 (fun X hX => ?_)
      conv => whnf
      try dsimp only
      rw [li_5, nI_add]
      refine ⟨432, [], rfl, hin 5 (by decide), ?_⟩
      conv => whnf
      try dsimp only
      rw [hcl 5 (by decide)]
      refine h _ (fun q q1 q2 => ?_) (fun q => ?_) (fun q hq => ?_) ?_ ?_ ?_ ?_ ?_ ?_
      · rw [up_a q2, up_a q1, up_a q1, J0 q q1]
      · rw [up_at]
        by_cases e : q = 22
        · subst e
          rw [if_pos ⟨rfl, rfl⟩, if_pos rfl, up_n (Or.inl (by decide)), up_n (Or.inl (by decide)), J0 89 (by decide), hc, li_1, nI_add]
        · rw [if_neg (fun z => e z.2), if_neg e, up_n (Or.inl (by decide)), up_n (Or.inl (by decide)), J0 89 (by decide)]
      · rw [up_n (Or.inl (by decide)), up_n (Or.inr (by omega)), up_n (Or.inr (by omega)), J1, if_neg (by omega), if_neg (by omega), if_neg (by omega), if_neg (by omega)]
      · rw [up_n (Or.inl (by decide)), up_n (Or.inr (by omega)), up_n (Or.inr (by omega)), J1, if_neg (by omega), if_neg (by omega), if_neg (by omega), if_pos rfl]
      · rw [up_n (Or.inl (by decide)), up_n (Or.inr (by omega)), up_n (Or.inr (by omega)), J1, if_neg (by omega), if_neg (by omega), if_pos rfl]
      · rw [up_n (Or.inl (by decide)), up_n (Or.inr (by omega)), up_n (Or.inr (by omega)), J1, if_neg (by omega), if_pos rfl]
      · rw [up_n (Or.inl (by decide)), up_n (Or.inr (by omega)), up_n (Or.inr (by omega)), J1, if_pos rfl]
      · rw [up_n (Or.inl (by decide)), up_n (Or.inr (by omega)), up_s, er]
      · rw [up_n (Or.inl (by decide)), up_s, hb]
        by_cases e : i 89 0 < i 107 (6 * g + p)
        · rw [if_pos e, decide_eq_true e]; rfl
        · rw [if_neg e, decide_eq_false e]; rfl
    refine am_go (am_sp_mo _) (fun q => q == 97) 40 (fun X hX => ?_)
    conv => whnf
    try dsimp only
    rw [li_4, nI_add]
    refine ⟨432, [], rfl, hin 4 (by decide), ?_⟩
    conv => whnf
    try dsimp only
    rw [hcl 4 (by decide)]
    refine m_isExcepted hg hp (by omega) (fun b hb => ?_)
    rw [up_n (Or.inl (by decide)), up_n (Or.inl (by decide)), J0 89 (by decide), J0 107 (by decide)] at hb
    cases b with
    | false =>
      conv => whnf
      try dsimp only
      refine ⟨fun _ => ?_, fun h => absurd rfl h⟩
      conv => whnf
      try dsimp only
      exact hX _ _ _ _ _ _ (fin false hb)
    | true =>
      conv => whnf
      try dsimp only
      refine ⟨fun h => absurd h (by decide), fun _ => ?_⟩
      conv => whnf
      try dsimp only
      exact hX _ _ _ _ _ _ (fin true hb)
  rcases hr p with e | e
  · rw [e] at go ⊢
    refine ⟨fun _ => ?_, fun h => absurd rfl h⟩
    conv => whnf
    try dsimp only
    exact hX _ _ _ _ _ _ (go _ (by decide))
  · rw [e] at go ⊢
    refine ⟨fun h => absurd h (by decide), fun _ => ?_⟩
    conv => whnf
    try dsimp only
    exact hX _ _ _ _ _ _ (go _ (by decide))
end MODEL3
