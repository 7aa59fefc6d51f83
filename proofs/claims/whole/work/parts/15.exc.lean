/-! EXCEPTIONS, HITS KEPT, and the simple calls -/
theorem ks_en : ∀ a, a < 12 → KS[54 + a]? = some (0, 6, []) := by decide
theorem rg_en : ∀ a, a < 12 → am_rg [some 54, some 55, some 56, some 57, some 58, some 59, some 60, some 61, some 62, some 63, some 64, some 65] a = some (54 + a) := by decide
theorem ks_hr : ∀ a, a < 12 → KS[72 + a]? = some (0, 6, []) := by decide
theorem rg_hr : ∀ a, a < 12 → am_rg [some 72, some 73, some 74, some 75, some 76, some 77, some 78, some 79, some 80, some 81, some 82, some 83] a = some (72 + a) := by decide
section EXC
variable {xl : Nat} {xs : Nat → Int32} {d : Nat} {i : Nat → Nat → Int32} {Q : am_Q} {u : am_St}
theorem k_areNumbers {g p : Nat} (hg : g < 12) (hp : p < 6) (hd : 2 ≤ d) (h : Q (some (.int 1)) u) : SP xl xs d Y_Exceptions_areNumbers [.int (nI g), .int (nI p)] u Q := by
  obtain ⟨d, rfl⟩ : ∃ q, d = q + 1 := ⟨d - 1, by omega⟩
  refine ⟨Nat.le_of_ble_eq_true rfl, am_go (am_sp_mo _) (fun _ => false) 30 (fun X hX => ?_)⟩
  conv => whnf
  try dsimp only
  refine k_below 12 li_12 (by decide) (by omega) (fun k hk hx => ?_) (fun hx => absurd rfl (out_np (by decide) hx hg))
  conv => whnf
  try dsimp only
  refine ⟨fun h => absurd h (by decide), fun _ => ?_⟩
  conv => whnf
  try dsimp only
  refine k_below 6 li_6 (by decide) (by omega) (fun k hk hx => ?_) (fun hx => absurd rfl (out_np (by decide) hx hp))
  conv => whnf
  try dsimp only
  refine ⟨fun h => absurd h (by decide), fun _ => ?_⟩
  conv => whnf
  try dsimp only
  exact ⟨Or.inr rfl, h⟩
theorem k_exPut {g p : Nat} {e : Int32} (hg : g < 12) (hp : p < 6) (hd : 3 ≤ d) (h : Q none (KS, am_up i (54 + g) p e)) : SP xl xs d Y_Exceptions_put [.ref 52, .int (nI g), .int (nI p), .int e] (KS, i) Q := by
  obtain ⟨d, rfl⟩ : ∃ q, d = q + 1 := ⟨d - 1, by omega⟩
  refine ⟨Nat.le_of_ble_eq_true rfl, am_go (am_sp_mo _) (fun _ => false) 30 (fun X hX => ?_)⟩
  conv => whnf
  try dsimp only
  refine k_areNumbers hg hp (by omega) ?_
  conv => whnf
  try dsimp only
  refine ⟨fun h => absurd h (by decide), fun _ => ?_⟩
  conv => whnf
  try dsimp only
  refine ⟨12, _, 54 + g, rfl, vp_in_nI hg (by decide), by rw [nI_clamp (by omega)]; exact rg_en g hg, ?_⟩
  conv => whnf
  try dsimp only
  refine ⟨6, [], ks_en g hg, vp_in_nI hp (by decide), ?_⟩
  conv => whnf
  try dsimp only
  exact q_eq rfl (by rw [nI_clamp (by omega)]) h
theorem k_exHolds {g p : Nat} {c : Int32} (hg : g < 12) (hp : p < 6) (hd : 3 ≤ d) (h : ∀ b : Bool, b = decide (c < i (54 + g) p) → Q (some (.int (if b = true then 1 else 0))) (KS, i)) : SP xl xs d Y_Exceptions_holds [.ref 52, .int (nI g), .int (nI p), .int c] (KS, i) Q := by
  obtain ⟨d, rfl⟩ : ∃ q, d = q + 1 := ⟨d - 1, by omega⟩
  refine ⟨Nat.le_of_ble_eq_true rfl, am_go (am_sp_mo _) (fun _ => false) 30 (fun X hX => ?_)⟩
  conv => whnf
  try dsimp only
  refine k_areNumbers hg hp (by omega) ?_
  conv => whnf
  try dsimp only
  refine ⟨fun h => absurd h (by decide), fun _ => ?_⟩
  conv => whnf
  try dsimp only
  refine ⟨12, _, 54 + g, rfl, vp_in_nI hg (by decide), by rw [nI_clamp (by omega)]; exact rg_en g hg, ?_⟩
  conv => whnf
  try dsimp only
  refine ⟨6, [], ks_en g hg, vp_in_nI hp (by decide), ?_⟩
  conv => whnf
  try dsimp only
  rw [nI_clamp (show p < 2 ^ 31 by omega)]
  refine ⟨fun hh => ?_, fun hh => ?_⟩
  · conv => whnf
    try dsimp only
    exact ⟨Or.inl rfl, h false (decide_eq_false (by rw [Int32.lt_iff_toInt_lt]; rw [Int32.le_iff_toInt_le] at hh; omega)).symm⟩
  · conv => whnf
    try dsimp only
    exact ⟨Or.inr rfl, h true (decide_eq_true (by rw [Int32.lt_iff_toInt_lt]; rw [Int32.le_iff_toInt_le] at hh; omega)).symm⟩
theorem k_exJoin {g k : Nat} (hg : g < 12) (hk : k < 12) (hd : 3 ≤ d) (h : ∀ j : Nat → Nat → Int32, (∀ b, b ≠ 54 + k → j b = i b) → (∀ p, p < 6 → j (54 + k) p = if i (54 + k) p < i (54 + g) p then i (54 + g) p else i (54 + k) p) → Q none (KS, j)) : SP xl xs d Y_Exceptions_join [.ref 52, .int (nI g), .int (nI k)] (KS, i) Q := by
  obtain ⟨d, rfl⟩ : ∃ q, d = q + 1 := ⟨d - 1, by omega⟩
  refine ⟨Nat.le_of_ble_eq_true rfl, am_go (am_sp_mo _) (fun q => q == 2) 30 (fun X hX => ?_)⟩
  conv => whnf
  try dsimp only
  refine hX _ _ _ _ _ _ ?_
  have loop : ∀ m p (j : Nat → Nat → Int32), p + m = 6 → (∀ b, b ≠ 54 + k → j b = i b) → (∀ q, q < p → j (54 + k) q = if i (54 + k) q < i (54 + g) q then i (54 + g) q else i (54 + k) q) → (∀ q, p ≤ q → j (54 + k) q = i (54 + k) q) → am_wp (ax_E xl xs) (ax_cd Y_Exceptions_join) (am_sp (ax_E xl xs) ax_cd ax_ml d) Q 2 [some (.ref 52), some (.int (nI g)), some (.int (nI k)), some (.int (nI p))] [] (KS, j) 0 0 := by
    intro m
    induction m with
    | zero =>
      intro p j hp h1 h2 h3
      have : p = 6 := by omega
      subst this
      refine am_go (am_sp_mo _) (fun q => q == 2) 30 (fun X hX => ?_)
      conv => whnf
      try dsimp only
      refine ⟨fun _ => ?_, fun hh => absurd (by decide) hh⟩
      conv => whnf
      try dsimp only
      exact h j h1 h2
    | succ m ih =>
      intro p j hp h1 h2 h3
      refine am_go (am_sp_mo _) (fun q => q == 2) 60 (fun X hX => ?_)
      conv => whnf
      try dsimp only
      refine ⟨fun hh => absurd hh (by rw [li_6]; exact nI_ge (by omega) (by omega)), fun _ => ?_⟩
      conv => whnf
      try dsimp only
      refine k_areNumbers hg (by omega) (by omega) ?_
      conv => whnf
      try dsimp only
      refine ⟨fun h => absurd h (by decide), fun _ => ?_⟩
      conv => whnf
      try dsimp only
      refine k_areNumbers hk (by omega) (by omega) ?_
      conv => whnf
      try dsimp only
      refine ⟨fun h => absurd h (by decide), fun _ => ?_⟩
      conv => whnf
      try dsimp only
      refine ⟨12, _, 54 + k, rfl, vp_in_nI hk (by decide), by rw [nI_clamp (by omega)]; exact rg_en k hk, ?_⟩
      conv => whnf
      try dsimp only
      refine ⟨12, _, 54 + k, rfl, vp_in_nI hk (by decide), by rw [nI_clamp (by omega)]; exact rg_en k hk, ?_⟩
      conv => whnf
      try dsimp only
      refine ⟨6, [], ks_en k hk, vp_in_nI (by omega) (by decide), ?_⟩
      conv => whnf
      try dsimp only
      refine ⟨12, _, 54 + g, rfl, vp_in_nI hg (by decide), by rw [nI_clamp (by omega)]; exact rg_en g hg, ?_⟩
      conv => whnf
      try dsimp only
      refine ⟨6, [], ks_en g hg, vp_in_nI (by omega) (by decide), ?_⟩
      conv => whnf
      try dsimp only
      refine ⟨6, [], ks_en k hk, vp_in_nI (by omega) (by decide), ?_⟩
      conv => whnf
      try dsimp only
      rw [nI_clamp (show p < 2 ^ 31 by omega)]
      have hjg : j (54 + g) p = i (54 + g) p := by
        by_cases e : g = k
        · subst e; exact h3 p (Nat.le_refl _)
        · rw [h1 (54 + g) (by omega)]
      have hjk : j (54 + k) p = i (54 + k) p := h3 p (Nat.le_refl _)
      rw [hjg, hjk]
      refine hX _ _ _ _ _ _ (am_wpL ?_ rfl (ih (p + 1) (am_up j (54 + k) p (if i (54 + k) p < i (54 + g) p then i (54 + g) p else i (54 + k) p)) (by omega) (fun b hb => (up_a hb).trans (h1 b hb)) (fun q hq => ?_) (fun q hq => ?_)))
      · show [_, _, _, some (Value.int (nI p + Int32.ofInt 1))] = _
        rw [li_1, nI_add]
        try rfl
      · rw [up_at]
        by_cases e : q = p
        · subst e; rw [if_pos ⟨rfl, rfl⟩]
        · rw [if_neg (by omega)]; exact h2 q (by omega)
      · rw [up_at, if_neg (by omega)]
        exact h3 q (by omega)
  exact loop 6 0 i (by omega) (fun _ _ => rfl) (fun q hq => absurd hq (by omega)) (fun _ _ => rfl)
theorem k_hlCount (hd : 1 ≤ d) (h : Q (some (.int (i 70 1))) (KS, i)) : SP xl xs d Y_HitList_count [.ref 70] (KS, i) Q := by
  obtain ⟨d, rfl⟩ : ∃ q, d = q + 1 := ⟨d - 1, by omega⟩
  refine ⟨Nat.le_of_ble_eq_true rfl, am_go (am_sp_mo _) (fun _ => false) 20 (fun X hX => ?_)⟩
  conv => whnf
  try dsimp only
  exact h
theorem k_hlClear (hd : 1 ≤ d) (h : Q none (KS, am_up i 70 1 (nI 0))) : SP xl xs d Y_HitList_clear [.ref 70] (KS, i) Q := by
  obtain ⟨d, rfl⟩ : ∃ q, d = q + 1 := ⟨d - 1, by omega⟩
  refine ⟨Nat.le_of_ble_eq_true rfl, am_go (am_sp_mo _) (fun _ => false) 20 (fun X hX => ?_)⟩
  conv => whnf
  try dsimp only
  exact h
theorem k_hlAdd {nh : Nat} {a b c e f g : Int32} (hc : i 70 1 = nI nh) (hn : nh < 12) (hd : 1 ≤ d) (h : ∀ j : Nat → Nat → Int32, (∀ q, q ≠ 72 + nh → q ≠ 70 → j q = i q) → j 70 1 = nI (nh + 1) → j (72 + nh) 0 = a → j (72 + nh) 1 = b → j (72 + nh) 2 = c → j (72 + nh) 3 = e → j (72 + nh) 4 = f → j (72 + nh) 5 = g → Q none (KS, j)) : SP xl xs d Y_HitList_add [.ref 70, .int a, .int b, .int c, .int e, .int f, .int g] (KS, i) Q := by
  obtain ⟨d, rfl⟩ : ∃ q, d = q + 1 := ⟨d - 1, by omega⟩
  refine ⟨Nat.le_of_ble_eq_true rfl, am_go (am_sp_mo _) (fun _ => false) 60 (fun X hX => ?_)⟩
  conv => whnf
  try dsimp only
  rw [hc, li_12]
  refine ⟨fun _ => ?_, fun hh => absurd (nI_lt hn (by omega)) hh⟩
  conv => whnf
  try dsimp only
  refine ⟨12, _, 72 + nh, rfl, by rw [hc]; exact vp_in_nI hn (by decide), by rw [hc, nI_clamp (by omega)]; exact rg_hr nh hn, ?_⟩
  conv => whnf
  try dsimp only
  refine ⟨6, [], ks_hr nh hn, by unfold vp_in; decide, ?_⟩
  conv => whnf
  try dsimp only
  refine ⟨6, [], ks_hr nh hn, by unfold vp_in; decide, ?_⟩
  conv => whnf
  try dsimp only
  refine ⟨6, [], ks_hr nh hn, by unfold vp_in; decide, ?_⟩
  conv => whnf
  try dsimp only
  refine ⟨6, [], ks_hr nh hn, by unfold vp_in; decide, ?_⟩
  conv => whnf
  try dsimp only
  refine ⟨6, [], ks_hr nh hn, by unfold vp_in; decide, ?_⟩
  conv => whnf
  try dsimp only
  refine ⟨6, [], ks_hr nh hn, by unfold vp_in; decide, ?_⟩
  conv => whnf
  try dsimp only
  have z0 : (Int32.ofInt 0).toNatClampNeg = 0 := by decide
  have z1 : (Int32.ofInt 1).toNatClampNeg = 1 := by decide
  have z2 : (Int32.ofInt 2).toNatClampNeg = 2 := by decide
  have z3 : (Int32.ofInt 3).toNatClampNeg = 3 := by decide
  have z4 : (Int32.ofInt 4).toNatClampNeg = 4 := by decide
  have z5 : (Int32.ofInt 5).toNatClampNeg = 5 := by decide
  rw [z0, z1, z2, z3, z4, z5]
  have e70 : ¬ 70 = 72 + nh := by omega
  refine h _ (fun q h1 h2 => ?_) ?_ ?_ ?_ ?_ ?_ ?_ ?_
  · rw [up_a h2, up_a h1, up_a h1, up_a h1, up_a h1, up_a h1, up_a h1]
  · simp only [up_at, e70, hc, li_1, nI_add, false_and, if_false, and_self, if_true]
  · simp only [up_at, show ¬ 72 + nh = 70 by omega, false_and, if_false, true_and, Nat.reduceEqDiff, and_self, if_true]
  · simp only [up_at, show ¬ 72 + nh = 70 by omega, false_and, if_false, true_and, Nat.reduceEqDiff, and_self, if_true]
  · simp only [up_at, show ¬ 72 + nh = 70 by omega, false_and, if_false, true_and, Nat.reduceEqDiff, and_self, if_true]
  · simp only [up_at, show ¬ 72 + nh = 70 by omega, false_and, if_false, true_and, Nat.reduceEqDiff, and_self, if_true]
  · simp only [up_at, show ¬ 72 + nh = 70 by omega, false_and, if_false, true_and, Nat.reduceEqDiff, and_self, if_true]
  · simp only [up_at, show ¬ 72 + nh = 70 by omega, false_and, if_false, true_and, Nat.reduceEqDiff, and_self, if_true]
theorem k_hlPart {nh : Nat} {x y : Int32} (hc : i 70 1 = nI nh) (hn : nh ≤ 12) (hd : 2 ≤ d) (h1 : ∀ q w, q < nh → w < 6 → x = nI q → y = nI w → Q (some (.int (i (72 + q) w))) (KS, i)) (h0 : (∀ q w, q < nh → w < 6 → ¬ (x = nI q ∧ y = nI w)) → Q (some (.int (-1))) (KS, i)) : SP xl xs d Y_HitList_part [.ref 70, .int x, .int y] (KS, i) Q := by
  obtain ⟨d, rfl⟩ : ∃ q, d = q + 1 := ⟨d - 1, by omega⟩
  refine ⟨Nat.le_of_ble_eq_true rfl, am_go (am_sp_mo _) (fun _ => false) 40 (fun X hX => ?_)⟩
  conv => whnf
  try dsimp only
  refine k_below nh hc (by omega) (by omega) (fun q hq hx => ?_) (fun hx => ?_)
  · conv => whnf
    try dsimp only
    refine ⟨fun h => absurd h (by decide), fun _ => ?_⟩
    conv => whnf
    try dsimp only
    refine k_below 6 li_6 (by decide) (by omega) (fun w hw hy => ?_) (fun hy => ?_)
    · conv => whnf
      try dsimp only
      refine ⟨fun h => absurd h (by decide), fun _ => ?_⟩
      conv => whnf
      try dsimp only
      refine ⟨12, _, 72 + q, rfl, by rw [hx]; exact vp_in_nI (by omega) (by decide), by rw [hx, nI_clamp (by omega)]; exact rg_hr q (by omega), ?_⟩
      conv => whnf
      try dsimp only
      refine ⟨6, [], ks_hr q (by omega), by rw [hy]; exact vp_in_nI hw (by decide), ?_⟩
      conv => whnf
      try dsimp only
      exact q_eq (by rw [hy, nI_clamp (by omega)]) rfl (h1 q w hq hw hx hy)
    · conv => whnf
      try dsimp only
      refine ⟨fun _ => ?_, fun h => absurd rfl h⟩
      conv => whnf
      try dsimp only
      exact h0 fun q' w' _ hw' e => out_np (by decide) hy hw' e.2
  · conv => whnf
    try dsimp only
    refine ⟨fun _ => ?_, fun h => absurd rfl h⟩
    conv => whnf
    try dsimp only
    exact h0 fun q' w' hq' _ e => out_np (by omega) hx hq' e.1
end EXC
