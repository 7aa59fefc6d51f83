/-! THE REFERENCE: needs, updates -/
def MNK (i : Nat → Nat → Int32) (nn : Nat) : Prop := i 89 6 = nI nn ∧ nn ≤ 16 ∧ ∀ k, k < nn → ∃ a b, a < 6 ∧ b < 6 ∧ i 94 k = nI a ∧ i 96 k = nI b
/-- the places looked at now -/
def NWK (i : Nat → Nat → Int32) : Prop := (∀ p, p < 6 → i 111 p = -1 ∨ ∃ q, q < 5 ∧ i 111 p = nI q) ∧ ∀ q, q < 30 → ¬ i 92 q = -1
/-- the versions at places w -/
def wv (ver w : Nat → Int32) (p : Nat) : Int32 := if w p = -1 then -1 else ver (5 * p + (w p).toNatClampNeg)
abbrev mact (i : Nat → Nat → Int32) : Nat → Bool := nact (i 94) (i 95) (wv (i 92) (i 111))
abbrev mhld (i : Nat → Nat → Int32) : Nat → Bool := nhld (i 96) (i 97) (i 98) (wv (i 92) (i 111))
abbrev mbrk (i : Nat → Nat → Int32) : Nat → Bool := nbrk (i 94) (i 95) (i 96) (i 97) (i 98) (wv (i 92) (i 111))
section MODEL2
variable {xl : Nat} {xs : Nat → Int32} {d : Nat} {i : Nat → Nat → Int32} {Q : am_Q} {np nn : Nat}
theorem m_look (hd : 1 ≤ d) (h : ∀ j : Nat → Nat → Int32, (∀ b, b ≠ 111 → j b = i b) → (∀ p, p < 6 → j 111 p = i 93 p) → Q none (KS, j)) : SP xl xs d Y_Model_lookAtInstalled [.ref 89] (KS, i) Q := by
  obtain ⟨d, rfl⟩ : ∃ q, d = q + 1 := ⟨d - 1, by omega⟩
  refine ⟨Nat.le_of_ble_eq_true rfl, am_go (am_sp_mo _) (fun q => q == 2) 30 (fun X hX => ?_)⟩
  conv => whnf
  try dsimp only
  refine hX _ _ _ _ _ _ ?_
  have loop : ∀ m p (j : Nat → Nat → Int32), p + m = 6 → (∀ b, b ≠ 111 → j b = i b) → (∀ q, q < p → j 111 q = i 93 q) → am_wp (ax_E xl xs) (ax_cd Y_Model_lookAtInstalled) (am_sp (ax_E xl xs) ax_cd ax_ml d) Q 2 [some (.ref 89), some (.int (nI p))] [] (KS, j) 0 0 := by
    intro m
    induction m with
    | zero =>
      intro p j hp h1 h2
      have : p = 6 := by omega
      subst this
      refine am_go (am_sp_mo _) (fun q => q == 2) 30 (fun X hX => ?_)
      conv => whnf
      try dsimp only
      refine ⟨fun _ => ?_, fun hh => absurd (by decide) hh⟩
      conv => whnf
      try dsimp only
      exact h j h1 h2
    | succ m ih =>
      intro p j hp h1 h2
      refine am_go (am_sp_mo _) (fun q => q == 2) 30 (fun X hX => ?_)
      conv => whnf
      try dsimp only
      refine ⟨fun hh => absurd hh (by rw [li_6]; exact nI_ge (by omega) (by omega)), fun _ => ?_⟩
      conv => whnf
      try dsimp only
      refine ⟨6, [], rfl, vp_in_nI (by omega) (by decide), ?_⟩
      conv => whnf
      try dsimp only
      refine ⟨6, [], rfl, vp_in_nI (by omega) (by decide), ?_⟩
      conv => whnf
      try dsimp only
      rw [nI_clamp (show p < 2 ^ 31 by omega), h1 93 (by decide)]
      refine hX _ _ _ _ _ _ (am_wpL ?_ rfl (ih (p + 1) (am_up j 111 p (i 93 p)) (by omega) (fun b hb => (up_a hb).trans (h1 b hb)) (fun q hq => ?_)))
      · show [_, some (Value.int (nI p + Int32.ofInt 1))] = _
        rw [li_1, nI_add]
        try rfl
      · rw [up_at]
        by_cases e : q = p
        · subst e; rw [if_pos ⟨rfl, rfl⟩]
        · rw [if_neg (by omega)]; exact h2 q (by omega)
  exact loop 6 0 i (by omega) (fun _ _ => rfl) (fun q hq => absurd hq (by omega))
theorem m_active {k : Nat} (hN : MNK i nn) (hW : NWK i) (hk : k < nn) (hd : 1 ≤ d) (h : ∀ b : Bool, b = mact i k → Q (some (.int (if b = true then 1 else 0))) (KS, i)) : SP xl xs d Y_Model_isActive [.ref 89, .int (nI k)] (KS, i) Q := by
  obtain ⟨hc, hn, hN⟩ := hN
  obtain ⟨p, q, hp, hq, e1, e2⟩ := hN k hk
  have hcl : (nI k).toNatClampNeg = k := nI_clamp (by omega)
  have hcp : (nI p).toNatClampNeg = p := nI_clamp (by omega)
  obtain ⟨d, rfl⟩ : ∃ q, d = q + 1 := ⟨d - 1, by omega⟩
  refine ⟨Nat.le_of_ble_eq_true rfl, am_go (am_sp_mo _) (fun _ => false) 40 (fun X hX => ?_)⟩
  conv => whnf
  try dsimp only
  refine ⟨16, [], rfl, vp_in_nI (by omega) (by decide), ?_⟩
  conv => whnf
  try dsimp only
  rw [hcl, e1]
  refine ⟨6, [], rfl, vp_in_nI hp (by decide), ?_⟩
  conv => whnf
  try dsimp only
  rw [hcp]
  refine ⟨fun hm => ?_, fun hm => ?_⟩
  · conv => whnf
    try dsimp only
    exact ⟨Or.inl rfl, h false (by unfold mact nact; rw [e1, hcp, show wv (i 92) (i 111) p = -1 by unfold wv; exact if_pos hm]; rfl)⟩
  · obtain ⟨z, hz, ez⟩ := (hW.1 p hp).resolve_left hm
    have hwv : wv (i 92) (i 111) p = i 92 (5 * p + z) := by unfold wv; rw [if_neg (show ¬ i 111 p = -1 from hm), ez, nI_clamp (by omega)]
    have hat : Int32.ofInt 5 * nI p + i 111 p = nI (5 * p + z) := by rw [ez, li_5, pk_mul, nI_add]
    have hne := hW.2 (5 * p + z) (by omega)
    conv => whnf
    try dsimp only
    rw [hcp]
    refine ⟨6, [], rfl, vp_in_nI hp (by decide), ?_⟩
    conv => whnf
    try dsimp only
    rw [hat]
    refine ⟨30, [], rfl, vp_in_nI (by omega) (by decide), ?_⟩
    conv => whnf
    try dsimp only
    rw [nI_clamp (show 5 * p + z < 2 ^ 31 by omega)]
    refine ⟨16, [], rfl, vp_in_nI (by omega) (by decide), ?_⟩
    conv => whnf
    try dsimp only
    rw [hcl]
    refine ⟨fun hl => ?_, fun hl => ?_⟩
    · conv => whnf
      try dsimp only
      exact ⟨Or.inl rfl, h false (by unfold mact nact; rw [e1, hcp, hwv, show decide (i 95 k ≤ i 92 (5 * p + z)) = false from decide_eq_false (by rw [Int32.le_iff_toInt_le]; rw [Int32.lt_iff_toInt_lt] at hl; omega), Bool.and_false])⟩
    · conv => whnf
      try dsimp only
      exact ⟨Or.inr rfl, h true (by unfold mact nact; rw [e1, hcp, hwv, show decide (i 95 k ≤ i 92 (5 * p + z)) = true from decide_eq_true (by rw [Int32.le_iff_toInt_le]; rw [Int32.lt_iff_toInt_lt] at hl; omega), show decide (i 92 (5 * p + z) = -1) = false from decide_eq_false hne]; rfl)⟩
theorem m_holds {k : Nat} (hN : MNK i nn) (hW : NWK i) (hk : k < nn) (hd : 1 ≤ d) (h : ∀ b : Bool, b = mhld i k → Q (some (.int (if b = true then 1 else 0))) (KS, i)) : SP xl xs d Y_Model_doesHold [.ref 89, .int (nI k)] (KS, i) Q := by
  obtain ⟨hc, hn, hN⟩ := hN
  obtain ⟨q, p, hq, hp, e2, e1⟩ := hN k hk
  have hcl : (nI k).toNatClampNeg = k := nI_clamp (by omega)
  have hcp : (nI p).toNatClampNeg = p := nI_clamp (by omega)
  obtain ⟨d, rfl⟩ : ∃ q, d = q + 1 := ⟨d - 1, by omega⟩
  refine ⟨Nat.le_of_ble_eq_true rfl, am_go (am_sp_mo _) (fun _ => false) 50 (fun X hX => ?_)⟩
  conv => whnf
  try dsimp only
  refine ⟨16, [], rfl, vp_in_nI (by omega) (by decide), ?_⟩
  conv => whnf
  try dsimp only
  rw [hcl, e1]
  refine ⟨6, [], rfl, vp_in_nI hp (by decide), ?_⟩
  conv => whnf
  try dsimp only
  rw [hcp]
  refine ⟨fun hm => ?_, fun hm => ?_⟩
  · obtain ⟨z, hz, ez⟩ := (hW.1 p hp).resolve_left hm
    have hwv : wv (i 92) (i 111) p = i 92 (5 * p + z) := by unfold wv; rw [if_neg (show ¬ i 111 p = -1 from hm), ez, nI_clamp (by omega)]
    have hat : Int32.ofInt 5 * nI p + i 111 p = nI (5 * p + z) := by rw [ez, li_5, pk_mul, nI_add]
    have hne' : decide (i 92 (5 * p + z) = -1) = false := decide_eq_false (hW.2 (5 * p + z) (by omega))
    conv => whnf
    try dsimp only
    rw [hcp]
    refine ⟨6, [], rfl, vp_in_nI hp (by decide), ?_⟩
    conv => whnf
    try dsimp only
    rw [hat]
    refine ⟨30, [], rfl, vp_in_nI (by omega) (by decide), ?_⟩
    conv => whnf
    try dsimp only
    rw [nI_clamp (show 5 * p + z < 2 ^ 31 by omega)]
    refine ⟨16, [], rfl, vp_in_nI (by omega) (by decide), ?_⟩
    conv => whnf
    try dsimp only
    rw [hcl]
    refine ⟨fun hl => ?_, fun hl => ?_⟩
    · conv => whnf
      try dsimp only
      exact ⟨Or.inl rfl, h false (by unfold mhld nhld; rw [e1, hcp, hwv, show decide (i 97 k ≤ i 92 (5 * p + z)) = false from decide_eq_false (by rw [Int32.le_iff_toInt_le]; rw [Int32.lt_iff_toInt_lt] at hl; omega), Bool.false_and, Bool.and_false])⟩
    · have hl' : decide (i 97 k ≤ i 92 (5 * p + z)) = true := decide_eq_true (by rw [Int32.le_iff_toInt_le]; rw [Int32.lt_iff_toInt_lt] at hl; omega)
      conv => whnf
      try dsimp only
      rw [hcl]
      refine ⟨16, [], rfl, vp_in_nI (by omega) (by decide), ?_⟩
      conv => whnf
      try dsimp only
      refine ⟨fun hg => ?_, fun hg => ?_⟩
      · conv => whnf
        try dsimp only
        exact ⟨Or.inl rfl, h false (by unfold mhld nhld; rw [e1, hcp, hwv, show decide (i 92 (5 * p + z) < i 98 k) = false from decide_eq_false (by rw [Int32.lt_iff_toInt_lt]; rw [Int32.le_iff_toInt_le] at hg; omega), Bool.and_false, Bool.and_false])⟩
      · conv => whnf
        try dsimp only
        exact ⟨Or.inr rfl, h true (by unfold mhld nhld; rw [e1, hcp, hwv, hl', hne', show decide (i 92 (5 * p + z) < i 98 k) = true from decide_eq_true (by rw [Int32.lt_iff_toInt_lt]; rw [Int32.le_iff_toInt_le] at hg; omega)]; rfl)⟩
  · conv => whnf
    try dsimp only
    exact ⟨Or.inl rfl, h false (by unfold mhld nhld; rw [e1, hcp, show wv (i 92) (i 111) p = -1 by unfold wv; exact if_pos hm]; rfl)⟩
theorem m_lacking (hN : MNK i nn) (hW : NWK i) (hd : 2 ≤ d) (h : Q (some (.int (nI (bcnt (mbrk i) nn)))) (KS, i)) : SP xl xs d Y_Model_lacking [.ref 89] (KS, i) Q := by
  have hc := hN.1
  have hn := hN.2.1
  obtain ⟨d, rfl⟩ : ∃ q, d = q + 1 := ⟨d - 1, by omega⟩
  refine ⟨Nat.le_of_ble_eq_true rfl, am_go (am_sp_mo _) (fun q => q == 4) 30 (fun X hX => ?_)⟩
  conv => whnf
  try dsimp only
  refine hX _ _ _ _ _ _ ?_
  have loop : ∀ m k, k + m = nn → am_wp (ax_E xl xs) (ax_cd Y_Model_lacking) (am_sp (ax_E xl xs) ax_cd ax_ml d) Q 4 [some (.ref 89), some (.int (nI (bcnt (mbrk i) k))), some (.int (nI k))] [] (KS, i) 0 0 := by
    intro m
    induction m with
    | zero =>
      intro k hk
      have : k = nn := by omega
      subst this
      refine am_go (am_sp_mo _) (fun q => q == 4) 30 (fun X hX => ?_)
      conv => whnf
      try dsimp only
      refine ⟨fun _ => ?_, fun hh => absurd (by rw [hc]; exact nI_le (Nat.le_refl _) (by omega)) hh⟩
      conv => whnf
      try dsimp only
      exact h
    | succ m ih =>
      intro k hk
      have ih := ih (k + 1) (by omega)
      refine am_go (am_sp_mo _) (fun q => q == 4) 40 (fun X hX => ?_)
      conv => whnf
      try dsimp only
      refine ⟨fun hh => absurd hh (by rw [hc]; exact nI_ge (by omega) (by omega)), fun _ => ?_⟩
      conv => whnf
      try dsimp only
      refine m_active hN hW (by omega) (by omega) (fun b hb => ?_)
      have nx : ∀ b2 : Bool, mbrk i k = b2 → am_wp (ax_E xl xs) (ax_cd Y_Model_lacking) (am_sp (ax_E xl xs) ax_cd ax_ml d) Q 4 [some (.ref 89), some (.int (nI (bcnt (mbrk i) k) + (if b2 = true then Int32.ofInt 1 else Int32.ofInt 0))), some (.int (nI k + Int32.ofInt 1))] [] (KS, i) 0 0 := by
        intro b2 e
        refine am_wpL ?_ rfl ih
        rw [bcnt, e, li_1, li_0, nI_add]
        cases b2 <;> simp [nI_add]
      cases b with
      | false =>
        conv => whnf
        try dsimp only
        refine ⟨fun _ => ?_, fun h => absurd rfl h⟩
        conv => whnf
        try dsimp only
        exact hX _ _ _ _ _ _ (nx false (by show (mact i k && !(mhld i k)) = false; rw [← hb]; rfl))
      | true =>
        conv => whnf
        try dsimp only
        refine ⟨fun h => absurd h (by decide), fun _ => ?_⟩
        conv => whnf
        try dsimp only
        refine m_holds hN hW (by omega) (by omega) (fun b2 hb2 => ?_)
        cases b2 with
        | false =>
          conv => whnf
          try dsimp only
          refine ⟨fun h => absurd rfl h, fun _ => ?_⟩
          conv => whnf
          try dsimp only
          exact hX _ _ _ _ _ _ (nx true (by show (mact i k && !(mhld i k)) = true; rw [← hb, ← hb2]; rfl))
        | true =>
          conv => whnf
          try dsimp only
          refine ⟨fun _ => ?_, fun h => absurd h (by decide)⟩
          conv => whnf
          try dsimp only
          exact hX _ _ _ _ _ _ (nx false (by show (mact i k && !(mhld i k)) = false; rw [← hb, ← hb2]; rfl))
  exact loop nn 0 (by omega)
theorem m_hit {nh : Nat} {x y : Int32} (hc : i 89 22 = nI nh) (hn : nh ≤ 72) (hd : 2 ≤ d) (h1 : ∀ q w, q < nh → w < 6 → x = nI q → y = nI w → Q (some (.int (i 108 (6 * q + w)))) (KS, i)) (h0 : (∀ q w, q < nh → w < 6 → ¬ (x = nI q ∧ y = nI w)) → Q (some (.int (-1))) (KS, i)) : SP xl xs d Y_Model_hit [.ref 89, .int x, .int y] (KS, i) Q := by
  obtain ⟨d, rfl⟩ : ∃ q, d = q + 1 := ⟨d - 1, by omega⟩
  refine ⟨Nat.le_of_ble_eq_true rfl, am_go (am_sp_mo _) (fun _ => false) 40 (fun X hX => ?_)⟩
  conv => whnf
  try dsimp only
  rcases pk_ix x (n := nh) (by omega) with hx | hx | ⟨q, hq, hx⟩
  · refine ⟨fun _ => ?_, fun h => absurd hx h⟩
    conv => whnf
    try dsimp only
    exact h0 fun q w hq _ e => out_np (by omega) (Or.inl hx) hq e.1
  · refine ⟨fun _ => ?_, fun _ => ?_⟩
    · conv => whnf
      try dsimp only
      exact h0 fun q w hq _ e => out_np (by omega) (Or.inr hx) hq e.1
    · conv => whnf
      try dsimp only
      rw [hc]
      refine ⟨fun _ => ?_, fun h => absurd hx h⟩
      conv => whnf
      try dsimp only
      exact h0 fun q w hq _ e => out_np (by omega) (Or.inr hx) hq e.1
  · refine ⟨fun h => absurd h (by rw [hx]; exact nI_pos (by omega)), fun _ => ?_⟩
    conv => whnf
    try dsimp only
    rw [hc]
    refine ⟨fun h => absurd h (by rw [hx]; exact nI_ge hq (by omega)), fun _ => ?_⟩
    conv => whnf
    try dsimp only
    refine m_in (by omega) (fun hl hh => ?_) (fun hno => ?_)
    · obtain ⟨w, hw, hy⟩ : ∃ w, w < 6 ∧ y = nI w := by
        rw [Int32.le_iff_toInt_le, li_0, show (nI 0).toInt = 0 by decide] at hl
        rw [Int32.le_iff_toInt_le, li_5, show (nI 5).toInt = 5 by decide] at hh
        rcases pk_ix y (n := 6) (by decide) with q | q | ⟨k, hk, e⟩
        · rw [Int32.lt_iff_toInt_lt, show (0 : Int32).toInt = 0 by decide] at q
          omega
        · rw [Int32.le_iff_toInt_le, show (nI 6).toInt = 6 by decide] at q
          omega
        · exact ⟨k, hk, e⟩
      have hat : Int32.ofInt 6 * x + y = nI (6 * q + w) := by rw [hx, hy, li_6, pk_mul, nI_add]
      conv => whnf
      try dsimp only
      refine ⟨fun h => absurd h (by decide), fun _ => ?_⟩
      conv => whnf
      try dsimp only
      refine ⟨432, [], rfl, by rw [hat]; exact vp_in_nI (by omega) (by decide), ?_⟩
      conv => whnf
      try dsimp only
      exact q_eq (by rw [hat, nI_clamp (by omega)]) rfl (h1 q w hq hw hx hy)
    · conv => whnf
      try dsimp only
      refine ⟨fun _ => ?_, fun h => absurd rfl h⟩
      conv => whnf
      try dsimp only
      refine h0 fun q' w' _ hw' e => absurd (hno ?_) (fun h => h ?_)
      · rw [e.2, li_0]; exact nI_le (by omega) (by omega)
      · rw [e.2, li_5]; exact nI_le (by omega) (by omega)
theorem m_planned {x : Int32} (hp : i 89 1 = nI np) (hn : np ≤ 6) (hd : 2 ≤ d) (h1 : ∀ p, p < np → x = nI p → Q (some (.int (i 114 p))) (KS, i)) (h0 : (x < 0 ∨ nI np ≤ x) → Q (some (.int (-1))) (KS, i)) : SP xl xs d Y_Model_planned [.ref 89, .int x] (KS, i) Q := by
  obtain ⟨d, rfl⟩ : ∃ q, d = q + 1 := ⟨d - 1, by omega⟩
  refine ⟨Nat.le_of_ble_eq_true rfl, am_go (am_sp_mo _) (fun _ => false) 30 (fun X hX => ?_)⟩
  conv => whnf
  try dsimp only
  refine m_isPack hp hn (by omega) (fun a ha hx => ?_) (fun hx => ?_)
  · conv => whnf
    try dsimp only
    refine ⟨fun h => absurd h (by decide), fun _ => ?_⟩
    conv => whnf
    try dsimp only
    refine ⟨6, [], rfl, by rw [hx]; exact vp_in_nI (by omega) (by decide), ?_⟩
    conv => whnf
    try dsimp only
    exact q_eq (by rw [hx, nI_clamp (by omega)]) rfl (h1 a ha hx)
  · conv => whnf
    try dsimp only
    refine ⟨fun _ => ?_, fun h => absurd rfl h⟩
    conv => whnf
    try dsimp only
    exact h0 hx
/-- does an update move this package? -/
def umv (pl gv : Nat → Int32) (p : Nat) : Bool := !(decide (pl p = -1)) && (!(decide (gv p = -1)) && !(decide (gv p = pl p)))
theorem m_update (hp : i 89 1 = nI np) (hn : np ≤ 6) (hb : i 89 29 = 0 ∨ i 89 29 = 1) (hd : 1 ≤ d)
    (h1 : i 89 29 = 1 → ∀ j : Nat → Nat → Int32, (∀ b, b ≠ 93 → j b = i b) → (∀ p, j 93 p = if p < np ∧ umv (i 93) (i 114) p = true then i 114 p else i 93 p) → Q (some (.int (nI (bcnt (umv (i 93) (i 114)) np)))) (KS, j))
    (h0 : i 89 29 = 0 → Q (some (.int (-1))) (KS, i)) : SP xl xs d Y_Model_update [.ref 89] (KS, i) Q := by
  obtain ⟨d, rfl⟩ : ∃ q, d = q + 1 := ⟨d - 1, by omega⟩
  refine ⟨Nat.le_of_ble_eq_true rfl, am_go (am_sp_mo _) (fun q => q == 13) 30 (fun X hX => ?_)⟩
  conv => whnf
  try dsimp only
  refine ⟨fun hz => ?_, fun hz => ?_⟩
  rotate_left
  · conv => whnf
    try dsimp only
    exact h0 hz
  have h1 := h1 (hb.resolve_left hz)
  conv => whnf
  try dsimp only
  refine hX _ _ _ _ _ _ ?_
  have loop : ∀ m p (j : Nat → Nat → Int32), p + m = np → (∀ b, b ≠ 93 → j b = i b) → (∀ q, j 93 q = if q < p ∧ umv (i 93) (i 114) q = true then i 114 q else i 93 q) → am_wp (ax_E xl xs) (ax_cd Y_Model_update) (am_sp (ax_E xl xs) ax_cd ax_ml d) Q 13 [some (.ref 89), some (.int (nI (bcnt (umv (i 93) (i 114)) p))), some (.int (nI p))] [] (KS, j) 0 0 := by
    intro m
    induction m with
    | zero =>
      intro p j hpp h2 h3
      have : p = np := by omega
      subst this
      refine am_go (am_sp_mo _) (fun q => q == 13) 30 (fun X hX => ?_)
      conv => whnf
      try dsimp only
      rw [h2 89 (by decide), hp]
      refine ⟨fun _ => ?_, fun hh => absurd (nI_le (Nat.le_refl _) (by omega)) hh⟩
      conv => whnf
      try dsimp only
      exact h1 j h2 h3
    | succ m ih =>
      intro p j hpp h2 h3
      have hcp : (nI p).toNatClampNeg = p := nI_clamp (by omega)
      have hjp : j 93 p = i 93 p := by rw [h3, if_neg (by omega)]
      have hin : vp_in (nI p) 6 := vp_in_nI (by omega) (by decide)
      have same : umv (i 93) (i 114) p = false → am_wp (ax_E xl xs) (ax_cd Y_Model_update) (am_sp (ax_E xl xs) ax_cd ax_ml d) Q 13 [some (.ref 89), some (.int (nI (bcnt (umv (i 93) (i 114)) p))), some (.int (nI p + Int32.ofInt 1))] [] (KS, j) 0 0 := by
        intro e
        refine am_wpL ?_ rfl (ih (p + 1) j (by omega) h2 (fun q => ?_))
        · rw [bcnt, e, li_1, nI_add]
          rfl
        · rw [h3]
          by_cases eq : q = p
          · subst eq
            rw [if_neg (by omega), if_neg (fun z => by rw [e] at z; cases z.2)]
          · by_cases h9 : q < p ∧ umv (i 93) (i 114) q = true
            · rw [if_pos h9, if_pos ⟨by omega, h9.2⟩]
            · rw [if_neg h9, if_neg (fun z => h9 ⟨by omega, z.2⟩)]
      refine am_go (am_sp_mo _) (fun q => q == 13) 60 (fun X hX => ?_)
      conv => whnf
      try dsimp only
      rw [h2 89 (by decide), hp]
      refine ⟨fun hh => absurd hh (nI_ge (by omega) (by omega)), fun _ => ?_⟩
      conv => whnf
      try dsimp only
      refine ⟨6, [], rfl, hin, ?_⟩
      conv => whnf
      try dsimp only
      rw [hcp, hjp]
      refine ⟨fun hm => ?_, fun hm => ?_⟩
      · conv => whnf
        try dsimp only
        exact hX _ _ _ _ _ _ (same (by unfold umv; rw [show decide (i 93 p = -1) = true from decide_eq_true hm]; rfl))
      have hm' : decide (i 93 p = -1) = false := decide_eq_false hm
      conv => whnf
      try dsimp only
      refine ⟨6, [], rfl, hin, ?_⟩
      conv => whnf
      try dsimp only
      rw [hcp, h2 114 (by decide)]
      refine ⟨fun hg => ?_, fun hg => ?_⟩
      · have hg' : decide (i 114 p = -1) = false := decide_eq_false hg
        conv => whnf
        try dsimp only
        rw [hcp]
        refine ⟨6, [], rfl, hin, ?_⟩
        conv => whnf
        try dsimp only
        rw [hcp, hjp]
        refine ⟨6, [], rfl, hin, ?_⟩
        conv => whnf
        try dsimp only
        try rw [hcp]
        rw [h2 114 (by decide)]
        refine ⟨fun hne => ?_, fun heq => ?_⟩
        · have hu : umv (i 93) (i 114) p = true := by unfold umv; rw [hm', hg', show decide (i 114 p = i 93 p) = false from decide_eq_false (fun e => hne e.symm)]; rfl
          conv => whnf
          try dsimp only
          refine ⟨6, [], rfl, hin, ?_⟩
          conv => whnf
          try dsimp only
          refine ⟨6, [], rfl, hin, ?_⟩
          conv => whnf
          try dsimp only
          try rw [hcp]
          rw [h2 114 (by decide)]
          refine hX _ _ _ _ _ _ (am_wpL ?_ rfl (ih (p + 1) (am_up j 93 p (i 114 p)) (by omega) (fun b hb => (up_a hb).trans (h2 b hb)) (fun q => ?_)))
          · show [_, some (Value.int (nI (bcnt (umv (i 93) (i 114)) p) + Int32.ofInt 1)), some (Value.int (nI p + Int32.ofInt 1))] = _
            rw [bcnt, hu, li_1, nI_add, nI_add]
            rfl
          · rw [up_at]
            by_cases eq : q = p
            · subst eq
              rw [if_pos ⟨rfl, rfl⟩, if_pos ⟨by omega, hu⟩]
            · rw [if_neg (by omega), h3]
              by_cases h9 : q < p ∧ umv (i 93) (i 114) q = true
              · rw [if_pos h9, if_pos ⟨by omega, h9.2⟩]
              · rw [if_neg h9, if_neg (fun z => h9 ⟨by omega, z.2⟩)]
        · have hu : umv (i 93) (i 114) p = false := by unfold umv; rw [show decide (i 114 p = i 93 p) = true from decide_eq_true heq.symm, Bool.not_true, Bool.and_false, Bool.and_false]
          conv => whnf
          try dsimp only
          refine ⟨6, [], rfl, hin, ?_⟩
          conv => whnf
          try dsimp only
          refine ⟨6, [], rfl, hin, ?_⟩
          conv => whnf
          try dsimp only
          try rw [hcp]
          rw [h2 114 (by decide)]
          refine hX _ _ _ _ _ _ (am_wpL ?_ rfl (ih (p + 1) (am_up j 93 p (i 114 p)) (by omega) (fun b hb => (up_a hb).trans (h2 b hb)) (fun q => ?_)))
          · show [_, some (Value.int (nI (bcnt (umv (i 93) (i 114)) p) + Int32.ofInt 0)), some (Value.int (nI p + Int32.ofInt 1))] = _
            rw [bcnt, hu, li_1, li_0, nI_add, nI_add]
            rfl
          · rw [up_at]
            by_cases eq : q = p
            · subst eq
              rw [if_pos ⟨rfl, rfl⟩, if_neg (fun z => by rw [hu] at z; cases z.2), heq]
            · rw [if_neg (by omega), h3]
              by_cases h9 : q < p ∧ umv (i 93) (i 114) q = true
              · rw [if_pos h9, if_pos ⟨by omega, h9.2⟩]
              · rw [if_neg h9, if_neg (fun z => h9 ⟨by omega, z.2⟩)]
      · conv => whnf
        try dsimp only
        exact hX _ _ _ _ _ _ (same (by unfold umv; rw [show decide (i 114 p = -1) = true from decide_eq_true hg, Bool.not_true, Bool.false_and, Bool.and_false]))
  exact loop np 0 i (by omega) (fun _ _ => rfl) (fun q => by rw [if_neg (by omega)])
end MODEL2
