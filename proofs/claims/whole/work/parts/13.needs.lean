/-! NEEDS -/
theorem am_wpL {E : am_E} {cd : Nat → Option am_In} {C : am_C} {Q : am_Q} {pc : Nat} {L L' : List (Option Value)} {S : List Value} {u u' : am_St} {b c : Nat} (e : L = L') (e2 : u = u') (h : am_wp E cd C Q pc L' S u' b c) : am_wp E cd C Q pc L S u b c := by rw [e, e2]; exact h
/-- is a need active, does it hold, with the versions w -/
def nact (o s w : Nat → Int32) (k : Nat) : Bool := !(decide (w (o k).toNatClampNeg = -1)) && decide (s k ≤ w (o k).toNatClampNeg)
def nhld (t l h w : Nat → Int32) (k : Nat) : Bool := !(decide (w (t k).toNatClampNeg = -1)) && (decide (l k ≤ w (t k).toNatClampNeg) && decide (w (t k).toNatClampNeg < h k))
def nbrk (o s t l h w : Nat → Int32) (k : Nat) : Bool := nact o s w k && !(nhld t l h w k)
def bcnt (f : Nat → Bool) : Nat → Nat
  | 0 => 0
  | n + 1 => bcnt f n + (if f n = true then 1 else 0)
theorem bcnt_le (f : Nat → Bool) : ∀ n, bcnt f n ≤ n
  | 0 => Nat.le_refl _
  | n + 1 => by
    have := bcnt_le f n
    unfold bcnt
    split <;> omega
def NK (i : Nat → Nat → Int32) (nn : Nat) : Prop := i 13 6 = nI nn ∧ nn ≤ 16 ∧ ∀ k, k < nn → ∃ a b, a < 6 ∧ b < 6 ∧ i 14 k = nI a ∧ i 16 k = nI b
abbrev cact (i : Nat → Nat → Int32) (w : Nat → Int32) : Nat → Bool := nact (i 14) (i 15) w
abbrev chld (i : Nat → Nat → Int32) (w : Nat → Int32) : Nat → Bool := nhld (i 16) (i 17) (i 18) w
abbrev cbrk (i : Nat → Nat → Int32) (w : Nat → Int32) : Nat → Bool := nbrk (i 14) (i 15) (i 16) (i 17) (i 18) w
section NEEDS
variable {xl : Nat} {xs : Nat → Int32} {d : Nat} {i : Nat → Nat → Int32} {Q : am_Q} {nn : Nat}
theorem k_Needs_count (hd : 1 ≤ d) (h : Q (some (.int (i 13 6))) (KS, i)) : SP xl xs d Y_Needs_count [.ref 13] (KS, i) Q := by
  obtain ⟨d, rfl⟩ : ∃ q, d = q + 1 := ⟨d - 1, by omega⟩
  refine ⟨Nat.le_of_ble_eq_true rfl, am_go (am_sp_mo _) (fun _ => false) 20 (fun X hX => ?_)⟩
  conv => whnf
  try dsimp only
  exact h
theorem k_Needs_add {o s t l g : Int32} (hc : i 13 6 = nI nn) (hn : nn ≤ 16) (hd : 1 ≤ d) (h1 : nn < 16 → Q (some (.int (nI nn))) (KS, am_up (am_up (am_up (am_up (am_up (am_up i 14 nn o) 15 nn s) 16 nn t) 17 nn l) 18 nn g) 13 6 (nI (nn + 1)))) (h0 : nn = 16 → Q (some (.int (-1))) (KS, i)) : SP xl xs d Y_Needs_add [.ref 13, .int o, .int s, .int t, .int l, .int g] (KS, i) Q := by
  obtain ⟨d, rfl⟩ : ∃ q, d = q + 1 := ⟨d - 1, by omega⟩
  refine ⟨Nat.le_of_ble_eq_true rfl, am_go (am_sp_mo _) (fun _ => false) 60 (fun X hX => ?_)⟩
  conv => whnf
  try dsimp only
  have hin : ∀ {x : Int32}, x = nI nn → nn < 16 → vp_in x 16 := fun e h => by rw [e]; exact vp_in_nI h (by decide)
  refine ⟨fun h => ?_, fun h => ?_⟩
  · have hlt : nn < 16 := by
      rw [hc, li_16] at h
      rcases Nat.lt_or_ge nn 16 with q | q
      · exact q
      · exact absurd h (nI_nlt q (by omega))
    conv => whnf
    try dsimp only
    refine ⟨16, [], rfl, hin hc hlt, ?_⟩
    conv => whnf
    try dsimp only
    refine ⟨16, [], rfl, hin (by rw [up_n (Or.inl (by decide))]; exact hc) hlt, ?_⟩
    conv => whnf
    try dsimp only
    refine ⟨16, [], rfl, hin (by rw [up_n (Or.inl (by decide)), up_n (Or.inl (by decide))]; exact hc) hlt, ?_⟩
    conv => whnf
    try dsimp only
    refine ⟨16, [], rfl, hin (by rw [up_n (Or.inl (by decide)), up_n (Or.inl (by decide)), up_n (Or.inl (by decide))]; exact hc) hlt, ?_⟩
    conv => whnf
    try dsimp only
    refine ⟨16, [], rfl, hin (by rw [up_n (Or.inl (by decide)), up_n (Or.inl (by decide)), up_n (Or.inl (by decide)), up_n (Or.inl (by decide))]; exact hc) hlt, ?_⟩
    conv => whnf
    try dsimp only
    refine q_eq ?_ ?_ (h1 hlt)
    · simp only [hc, up_n, up_s, li_1, nI_add, ne_eq, Nat.reduceEqDiff, not_false_eq_true, true_or, nI_pred1]
    · simp only [hc, up_n, li_1, nI_add, ne_eq, Nat.reduceEqDiff, not_false_eq_true, true_or, nI_clamp (show nn < 2 ^ 31 by omega)]
  · conv => whnf
    try dsimp only
    refine h0 ?_
    rw [hc, li_16] at h
    rcases Nat.lt_or_ge nn 16 with q | q
    · exact absurd (nI_lt q (by omega)) h
    · omega
theorem k_setCalled {x v : Int32} (hc : i 13 6 = nI nn) (hn : nn ≤ 16) (hd : 2 ≤ d) (h1 : ∀ k, k < nn → x = nI k → Q (some (.int 1)) (KS, am_up i 19 k (vp_nar .boolean v))) (h0 : (x < 0 ∨ nI nn ≤ x) → Q (some (.int 0)) (KS, i)) : SP xl xs d Y_Needs_setCalled [.ref 13, .int x, .int v] (KS, i) Q := by
  obtain ⟨d, rfl⟩ : ∃ q, d = q + 1 := ⟨d - 1, by omega⟩
  refine ⟨Nat.le_of_ble_eq_true rfl, am_go (am_sp_mo _) (fun _ => false) 30 (fun X hX => ?_)⟩
  conv => whnf
  try dsimp only
  refine k_below nn hc (by omega) (by omega) (fun k hk hx => ?_) (fun hx => ?_)
  · conv => whnf
    try dsimp only
    refine ⟨fun _ => ?_, fun h => absurd h (by decide)⟩
    conv => whnf
    try dsimp only
    refine ⟨16, [], rfl, by rw [hx]; exact vp_in_nI (by omega) (by decide), ?_⟩
    conv => whnf
    try dsimp only
    exact ⟨Or.inr rfl, q_eq rfl (by rw [hx, nI_clamp (by omega)]) (h1 k hk hx)⟩
  · conv => whnf
    try dsimp only
    refine ⟨fun h => absurd rfl h, fun _ => ?_⟩
    conv => whnf
    try dsimp only
    exact ⟨Or.inl rfl, h0 hx⟩
theorem k_isCalled {x : Int32} (hc : i 13 6 = nI nn) (hn : nn ≤ 16) (hb : ∀ k, i 19 k = 0 ∨ i 19 k = 1) (hd : 2 ≤ d) (h1 : ∀ k, k < nn → x = nI k → i 19 k = 1 → Q (some (.int 1)) (KS, i)) (h0 : (∀ k, k < nn → x = nI k → i 19 k = 0) → Q (some (.int 0)) (KS, i)) : SP xl xs d Y_Needs_isCalled [.ref 13, .int x] (KS, i) Q := by
  obtain ⟨d, rfl⟩ : ∃ q, d = q + 1 := ⟨d - 1, by omega⟩
  refine ⟨Nat.le_of_ble_eq_true rfl, am_go (am_sp_mo _) (fun _ => false) 30 (fun X hX => ?_)⟩
  conv => whnf
  try dsimp only
  refine k_below nn hc (by omega) (by omega) (fun k hk hx => ?_) (fun hx => ?_)
  · conv => whnf
    try dsimp only
    refine ⟨fun h => absurd h (by decide), fun _ => ?_⟩
    conv => whnf
    try dsimp only
    refine ⟨16, [], rfl, by rw [hx]; exact vp_in_nI (by omega) (by decide), ?_⟩
    conv => whnf
    try dsimp only
    rw [hx, nI_clamp (by omega)]
    rcases hb k with e | e
    · rw [e]
      refine ⟨fun _ => ?_, fun h => absurd rfl h⟩
      conv => whnf
      try dsimp only
      exact ⟨Or.inl rfl, h0 fun q hq e' => by
        have := nI_inj (by omega) (by omega) (e'.symm.trans hx)
        subst this
        exact e⟩
    · rw [e]
      refine ⟨fun h => absurd h (by decide), fun _ => ?_⟩
      conv => whnf
      try dsimp only
      exact ⟨Or.inr rfl, h1 k hk hx e⟩
  · conv => whnf
    try dsimp only
    refine ⟨fun _ => ?_, fun h => absurd rfl h⟩
    conv => whnf
    try dsimp only
    exact ⟨Or.inl rfl, h0 fun q hq e => absurd e (out_np (by omega) hx hq)⟩
theorem k_ownerOf {x : Int32} (hc : i 13 6 = nI nn) (hn : nn ≤ 16) (hd : 2 ≤ d) (h1 : ∀ k, k < nn → x = nI k → Q (some (.int (i 14 k))) (KS, i)) (h0 : (x < 0 ∨ nI nn ≤ x) → Q (some (.int (-1))) (KS, i)) : SP xl xs d Y_Needs_ownerOf [.ref 13, .int x] (KS, i) Q := by
  obtain ⟨d, rfl⟩ : ∃ q, d = q + 1 := ⟨d - 1, by omega⟩
  refine ⟨Nat.le_of_ble_eq_true rfl, am_go (am_sp_mo _) (fun _ => false) 30 (fun X hX => ?_)⟩
  conv => whnf
  try dsimp only
  refine k_below nn hc (by omega) (by omega) (fun k hk hx => ?_) (fun hx => ?_)
  · conv => whnf
    try dsimp only
    refine ⟨fun h => absurd h (by decide), fun _ => ?_⟩
    conv => whnf
    try dsimp only
    refine ⟨16, [], rfl, by rw [hx]; exact vp_in_nI (by omega) (by decide), ?_⟩
    conv => whnf
    try dsimp only
    exact q_eq (by rw [hx, nI_clamp (by omega)]) rfl (h1 k hk hx)
  · conv => whnf
    try dsimp only
    refine ⟨fun _ => ?_, fun h => absurd rfl h⟩
    conv => whnf
    try dsimp only
    exact h0 hx
theorem k_otherOf {x : Int32} (hc : i 13 6 = nI nn) (hn : nn ≤ 16) (hd : 2 ≤ d) (h1 : ∀ k, k < nn → x = nI k → Q (some (.int (i 16 k))) (KS, i)) (h0 : (x < 0 ∨ nI nn ≤ x) → Q (some (.int (-1))) (KS, i)) : SP xl xs d Y_Needs_otherOf [.ref 13, .int x] (KS, i) Q := by
  obtain ⟨d, rfl⟩ : ∃ q, d = q + 1 := ⟨d - 1, by omega⟩
  refine ⟨Nat.le_of_ble_eq_true rfl, am_go (am_sp_mo _) (fun _ => false) 30 (fun X hX => ?_)⟩
  conv => whnf
  try dsimp only
  refine k_below nn hc (by omega) (by omega) (fun k hk hx => ?_) (fun hx => ?_)
  · conv => whnf
    try dsimp only
    refine ⟨fun h => absurd h (by decide), fun _ => ?_⟩
    conv => whnf
    try dsimp only
    refine ⟨16, [], rfl, by rw [hx]; exact vp_in_nI (by omega) (by decide), ?_⟩
    conv => whnf
    try dsimp only
    exact q_eq (by rw [hx, nI_clamp (by omega)]) rfl (h1 k hk hx)
  · conv => whnf
    try dsimp only
    refine ⟨fun _ => ?_, fun h => absurd rfl h⟩
    conv => whnf
    try dsimp only
    exact h0 hx
theorem k_nActive {a k : Nat} (ha : KS[a]? = some (0, 6, [])) (hN : NK i nn) (hk : k < nn) (hd : 1 ≤ d) (h : ∀ b : Bool, b = cact i (i a) k → Q (some (.int (if b = true then 1 else 0))) (KS, i)) : SP xl xs d Y_Needs_isActive [.ref 13, .int (nI k), .ref a] (KS, i) Q := by
  obtain ⟨hc, hn, hN⟩ := hN
  obtain ⟨p, q, hp, hq, e1, e2⟩ := hN k hk
  obtain ⟨d, rfl⟩ : ∃ q, d = q + 1 := ⟨d - 1, by omega⟩
  refine ⟨Nat.le_of_ble_eq_true rfl, am_go (am_sp_mo _) (fun _ => false) 30 (fun X hX => ?_)⟩
  conv => whnf
  try dsimp only
  refine ⟨16, [], rfl, vp_in_nI (by omega) (by decide), ?_⟩
  conv => whnf
  try dsimp only
  refine ⟨6, [], ha, by rw [nI_clamp (by omega), e1]; exact vp_in_nI hp (by decide), ?_⟩
  conv => whnf
  try dsimp only
  rw [nI_clamp (show k < 2 ^ 31 by omega)]
  refine ⟨fun hm => ?_, fun hm => ?_⟩
  · conv => whnf
    try dsimp only
    exact ⟨Or.inl rfl, h false (by unfold cact nact; rw [show decide (i a (i 14 k).toNatClampNeg = -1) = true from decide_eq_true hm]; rfl)⟩
  · conv => whnf
    try dsimp only
    refine ⟨16, [], rfl, vp_in_nI (by omega) (by decide), ?_⟩
    conv => whnf
    try dsimp only
    rw [nI_clamp (show k < 2 ^ 31 by omega)]
    refine ⟨fun hl => ?_, fun hl => ?_⟩
    · conv => whnf
      try dsimp only
      exact ⟨Or.inl rfl, h false (by unfold cact nact; rw [show decide (i 15 k ≤ i a (i 14 k).toNatClampNeg) = false from decide_eq_false (by rw [Int32.le_iff_toInt_le]; rw [Int32.lt_iff_toInt_lt] at hl; omega), Bool.and_false])⟩
    · conv => whnf
      try dsimp only
      exact ⟨Or.inr rfl, h true (by unfold cact nact; rw [show decide (i 15 k ≤ i a (i 14 k).toNatClampNeg) = true from decide_eq_true (by rw [Int32.le_iff_toInt_le]; rw [Int32.lt_iff_toInt_lt] at hl; omega), show decide (i a (i 14 k).toNatClampNeg = -1) = false from decide_eq_false hm]; rfl)⟩
theorem k_nHolds {a k : Nat} (ha : KS[a]? = some (0, 6, [])) (hN : NK i nn) (hk : k < nn) (hd : 1 ≤ d) (h : ∀ b : Bool, b = chld i (i a) k → Q (some (.int (if b = true then 1 else 0))) (KS, i)) : SP xl xs d Y_Needs_holds [.ref 13, .int (nI k), .ref a] (KS, i) Q := by
  obtain ⟨hc, hn, hN⟩ := hN
  obtain ⟨p, q, hp, hq, e1, e2⟩ := hN k hk
  obtain ⟨d, rfl⟩ : ∃ q, d = q + 1 := ⟨d - 1, by omega⟩
  refine ⟨Nat.le_of_ble_eq_true rfl, am_go (am_sp_mo _) (fun _ => false) 40 (fun X hX => ?_)⟩
  conv => whnf
  try dsimp only
  refine ⟨16, [], rfl, vp_in_nI (by omega) (by decide), ?_⟩
  conv => whnf
  try dsimp only
  refine ⟨6, [], ha, by rw [nI_clamp (by omega), e2]; exact vp_in_nI hq (by decide), ?_⟩
  conv => whnf
  try dsimp only
  rw [nI_clamp (show k < 2 ^ 31 by omega)]
  refine ⟨fun hm => ?_, fun hm => ?_⟩
  · conv => whnf
    try dsimp only
    exact ⟨Or.inl rfl, h false (by unfold chld nhld; rw [show decide (i a (i 16 k).toNatClampNeg = -1) = true from decide_eq_true hm]; rfl)⟩
  · have hm' : decide (i a (i 16 k).toNatClampNeg = -1) = false := decide_eq_false hm
    conv => whnf
    try dsimp only
    refine ⟨16, [], rfl, vp_in_nI (by omega) (by decide), ?_⟩
    conv => whnf
    try dsimp only
    rw [nI_clamp (show k < 2 ^ 31 by omega)]
    refine ⟨fun hl => ?_, fun hl => ?_⟩
    · conv => whnf
      try dsimp only
      exact ⟨Or.inl rfl, h false (by unfold chld nhld; rw [show decide (i 17 k ≤ i a (i 16 k).toNatClampNeg) = false from decide_eq_false (by rw [Int32.le_iff_toInt_le]; rw [Int32.lt_iff_toInt_lt] at hl; omega), Bool.false_and, Bool.and_false])⟩
    · have hl' : decide (i 17 k ≤ i a (i 16 k).toNatClampNeg) = true := decide_eq_true (by rw [Int32.le_iff_toInt_le]; rw [Int32.lt_iff_toInt_lt] at hl; omega)
      conv => whnf
      try dsimp only
      refine ⟨16, [], rfl, vp_in_nI (by omega) (by decide), ?_⟩
      conv => whnf
      try dsimp only
      rw [nI_clamp (show k < 2 ^ 31 by omega)]
      refine ⟨fun hg => ?_, fun hg => ?_⟩
      · conv => whnf
        try dsimp only
        exact ⟨Or.inl rfl, h false (by unfold chld nhld; rw [show decide (i a (i 16 k).toNatClampNeg < i 18 k) = false from decide_eq_false (by rw [Int32.lt_iff_toInt_lt]; rw [Int32.le_iff_toInt_le] at hg; omega), Bool.and_false, Bool.and_false])⟩
      · conv => whnf
        try dsimp only
        exact ⟨Or.inr rfl, h true (by unfold chld nhld; rw [hl', hm', show decide (i a (i 16 k).toNatClampNeg < i 18 k) = true from decide_eq_true (by rw [Int32.lt_iff_toInt_lt]; rw [Int32.le_iff_toInt_le] at hg; omega)]; rfl)⟩
theorem k_nBroken {a k : Nat} (ha : KS[a]? = some (0, 6, [])) (hN : NK i nn) (hk : k < nn) (hd : 2 ≤ d) (h : ∀ b : Bool, b = cbrk i (i a) k → Q (some (.int (if b = true then 1 else 0))) (KS, i)) : SP xl xs d Y_Needs_isBroken [.ref 13, .int (nI k), .ref a] (KS, i) Q := by
  obtain ⟨d, rfl⟩ : ∃ q, d = q + 1 := ⟨d - 1, by omega⟩
  refine ⟨Nat.le_of_ble_eq_true rfl, am_go (am_sp_mo _) (fun _ => false) 30 (fun X hX => ?_)⟩
  conv => whnf
  try dsimp only
  refine k_nActive ha hN hk (by omega) (fun b hb => ?_)
  cases b with
  | false =>
    conv => whnf
    try dsimp only
    refine ⟨fun _ => ?_, fun h => absurd rfl h⟩
    conv => whnf
    try dsimp only
    exact ⟨Or.inl rfl, h false (by show false = (cact i (i a) k && !(chld i (i a) k)); rw [← hb]; rfl)⟩
  | true =>
    conv => whnf
    try dsimp only
    refine ⟨fun h => absurd h (by decide), fun _ => ?_⟩
    conv => whnf
    try dsimp only
    refine k_nHolds ha hN hk (by omega) (fun b2 hb2 => ?_)
    cases b2 with
    | false =>
      conv => whnf
      try dsimp only
      refine ⟨fun h => absurd rfl h, fun _ => ?_⟩
      conv => whnf
      try dsimp only
      exact ⟨Or.inr rfl, h true (by show true = (cact i (i a) k && !(chld i (i a) k)); rw [← hb, ← hb2]; rfl)⟩
    | true =>
      conv => whnf
      try dsimp only
      refine ⟨fun _ => ?_, fun h => absurd h (by decide)⟩
      conv => whnf
      try dsimp only
      exact ⟨Or.inl rfl, h false (by show false = (cact i (i a) k && !(chld i (i a) k)); rw [← hb, ← hb2]; rfl)⟩
theorem k_leads {a k : Nat} (ha : KS[a]? = some (0, 6, [])) (hN : NK i nn) (hk : k < nn) (hd : 2 ≤ d) (h : ∀ b : Bool, b = (cact i (i a) k && chld i (i a) k) → Q (some (.int (if b = true then 1 else 0))) (KS, i)) : SP xl xs d Y_Needs_leads [.ref 13, .int (nI k), .ref a] (KS, i) Q := by
  have hc := hN.1
  have hn := hN.2.1
  obtain ⟨d, rfl⟩ : ∃ q, d = q + 1 := ⟨d - 1, by omega⟩
  refine ⟨Nat.le_of_ble_eq_true rfl, am_go (am_sp_mo _) (fun _ => false) 40 (fun X hX => ?_)⟩
  conv => whnf
  try dsimp only
  refine k_below nn hc (by omega) (by omega) (fun k' hk' hx => ?_) (fun hx => absurd rfl (out_np (by omega) hx hk))
  conv => whnf
  try dsimp only
  refine ⟨fun h => absurd h (by decide), fun _ => ?_⟩
  conv => whnf
  try dsimp only
  refine k_nActive ha hN hk (by omega) (fun b hb => ?_)
  cases b with
  | false =>
    conv => whnf
    try dsimp only
    refine ⟨fun _ => ?_, fun h => absurd rfl h⟩
    conv => whnf
    try dsimp only
    exact ⟨Or.inl rfl, h false (by rw [← hb]; rfl)⟩
  | true =>
    conv => whnf
    try dsimp only
    refine ⟨fun h => absurd h (by decide), fun _ => ?_⟩
    conv => whnf
    try dsimp only
    refine k_nHolds ha hN hk (by omega) (fun b2 hb2 => ?_)
    cases b2 with
    | false =>
      conv => whnf
      try dsimp only
      refine ⟨fun _ => ?_, fun h => absurd rfl h⟩
      conv => whnf
      try dsimp only
      exact ⟨Or.inl rfl, h false (by rw [← hb, ← hb2]; rfl)⟩
    | true =>
      conv => whnf
      try dsimp only
      refine ⟨fun h => absurd h (by decide), fun _ => ?_⟩
      conv => whnf
      try dsimp only
      exact ⟨Or.inr rfl, h true (by rw [← hb, ← hb2]; rfl)⟩
theorem k_countBroken {a : Nat} (ha : KS[a]? = some (0, 6, [])) (hN : NK i nn) (hd : 3 ≤ d) (h : Q (some (.int (nI (bcnt (cbrk i (i a)) nn)))) (KS, i)) : SP xl xs d Y_Needs_countBroken [.ref 13, .ref a] (KS, i) Q := by
  have hc := hN.1
  have hn := hN.2.1
  obtain ⟨d, rfl⟩ : ∃ q, d = q + 1 := ⟨d - 1, by omega⟩
  refine ⟨Nat.le_of_ble_eq_true rfl, am_go (am_sp_mo _) (fun q => q == 4) 30 (fun X hX => ?_)⟩
  conv => whnf
  try dsimp only
  refine hX _ _ _ _ _ _ ?_
  have loop : ∀ m k, k + m = nn → am_wp (ax_E xl xs) (ax_cd Y_Needs_countBroken) (am_sp (ax_E xl xs) ax_cd ax_ml d) Q 4 [some (.ref 13), some (.ref a), some (.int (nI (bcnt (cbrk i (i a)) k))), some (.int (nI k))] [] (KS, i) 0 0 := by
    intro m
    induction m with
    | zero =>
      intro k hk
      have : k = nn := by omega
      subst this
      refine am_go (am_sp_mo _) (fun q => q == 4) 30 (fun X hX => ?_)
      conv => whnf
      try dsimp only
      refine ⟨fun _ => ?_, fun hh => absurd (by rw [hc]; exact nI_le (Nat.le_refl _) (by omega)) hh⟩
      conv => whnf
      try dsimp only
      exact h
    | succ m ih =>
      intro k hk
      refine am_go (am_sp_mo _) (fun q => q == 4) 30 (fun X hX => ?_)
      conv => whnf
      try dsimp only
      refine ⟨fun hh => absurd hh (by rw [hc]; exact nI_ge (by omega) (by omega)), fun _ => ?_⟩
      conv => whnf
      try dsimp only
      refine k_nBroken ha hN (by omega) (by omega) (fun b hb => ?_)
      have hs : bcnt (cbrk i (i a)) (k + 1) = bcnt (cbrk i (i a)) k + (if b = true then 1 else 0) := by rw [bcnt, ← hb]
      have ih := ih (k + 1) (by omega)
      cases b with
      | false =>
        conv => whnf
        try dsimp only
        refine ⟨fun _ => ?_, fun h => absurd rfl h⟩
        conv => whnf
        try dsimp only
        refine hX _ _ _ _ _ _ (am_wpL ?_ rfl ih)
        show [_, _, _, some (Value.int (nI k + Int32.ofInt 1))] = _
        rw [li_1, nI_add, hs]
        rfl
      | true =>
        conv => whnf
        try dsimp only
        refine ⟨fun h => absurd h (by decide), fun _ => ?_⟩
        conv => whnf
        try dsimp only
        refine hX _ _ _ _ _ _ (am_wpL ?_ rfl ih)
        show [_, _, some (Value.int (nI (bcnt (cbrk i (i a)) k) + Int32.ofInt 1)), some (Value.int (nI k + Int32.ofInt 1))] = _
        rw [li_1, nI_add, nI_add, hs]
        rfl
  exact loop nn 0 (by omega)
end NEEDS
