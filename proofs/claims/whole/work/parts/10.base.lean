/-! THE SHAPE after the two constructors (by program), and words for the small machine's proofs -/
def KS : am_Sh := [(3, 9, [some 1, some 13, some 20, some 52, some 66, some 68, some 70, some 84, none]), (4, 6, [some 2, some 3, some 10, some 11, some 12, none]), (1, 6, []), (2, 6, [some 4, some 5, some 6, some 7, some 8, some 9]), (0, 5, []), (0, 5, []), (0, 5, []), (0, 5, []), (0, 5, []), (0, 5, []), (0, 6, []), (0, 6, []), (0, 6, []), (5, 7, [some 14, some 15, some 16, some 17, some 18, some 19, none]), (0, 16, []), (0, 16, []), (0, 16, []), (0, 16, []), (0, 16, []), (1, 16, []), (6, 8, [some 21, some 22, some 35, some 48, some 49, some 50, some 51, none]), (0, 12, []), (2, 12, [some 23, some 24, some 25, some 26, some 27, some 28, some 29, some 30, some 31, some 32, some 33, some 34]), (0, 3, []), (0, 3, []), (0, 3, []), (0, 3, []), (0, 3, []), (0, 3, []), (0, 3, []), (0, 3, []), (0, 3, []), (0, 3, []), (0, 3, []), (0, 3, []), (2, 12, [some 36, some 37, some 38, some 39, some 40, some 41, some 42, some 43, some 44, some 45, some 46, some 47]), (0, 3, []), (0, 3, []), (0, 3, []), (0, 3, []), (0, 3, []), (0, 3, []), (0, 3, []), (0, 3, []), (0, 3, []), (0, 3, []), (0, 3, []), (0, 3, []), (0, 12, []), (0, 12, []), (1, 12, []), (0, 12, []), (7, 1, [some 53]), (2, 12, [some 54, some 55, some 56, some 57, some 58, some 59, some 60, some 61, some 62, some 63, some 64, some 65]), (0, 6, []), (0, 6, []), (0, 6, []), (0, 6, []), (0, 6, []), (0, 6, []), (0, 6, []), (0, 6, []), (0, 6, []), (0, 6, []), (0, 6, []), (0, 6, []), (8, 4, [some 1, some 13, none, some 67]), (0, 6, []), (8, 4, [some 1, some 13, none, some 69]), (0, 6, []), (9, 2, [some 71, none]), (2, 12, [some 72, some 73, some 74, some 75, some 76, some 77, some 78, some 79, some 80, some 81, some 82, some 83]), (0, 6, []), (0, 6, []), (0, 6, []), (0, 6, []), (0, 6, []), (0, 6, []), (0, 6, []), (0, 6, []), (0, 6, []), (0, 6, []), (0, 6, []), (0, 6, []), (10, 8, [some 1, some 13, some 85, some 86, some 87, some 88, none, none]), (1, 30, []), (0, 6, []), (0, 6, []), (0, 6, []), (11, 31, [none, none, some 90, some 91, some 92, some 93, none, some 94, some 95, some 96, some 97, some 98, some 99, none, some 100, some 101, some 102, some 103, some 104, some 105, some 106, some 107, none, some 108, some 109, some 110, some 111, some 112, some 113, none, some 114]), (1, 6, []), (0, 6, []), (0, 30, []), (0, 6, []), (0, 16, []), (0, 16, []), (0, 16, []), (0, 16, []), (0, 16, []), (1, 16, []), (0, 12, []), (0, 12, []), (0, 36, []), (0, 36, []), (0, 84, []), (1, 12, []), (0, 12, []), (0, 72, []), (0, 432, []), (0, 6, []), (1, 6, []), (0, 6, []), (1, 30, []), (0, 6, []), (0, 6, [])]

/-- a method's meaning -/
abbrev SP (xl : Nat) (xs : Nat → Int32) (d : Nat) : am_C := am_sp (ax_E xl xs) ax_cd ax_ml d
theorem li_m1 : Int32.ofInt (-1) = -1 := by decide
theorem li_0 : Int32.ofInt 0 = nI 0 := by decide
theorem li_1 : Int32.ofInt 1 = nI 1 := by decide
theorem li_2 : Int32.ofInt 2 = nI 2 := by decide
theorem li_3 : Int32.ofInt 3 = nI 3 := by decide
theorem li_4 : Int32.ofInt 4 = nI 4 := by decide
theorem li_5 : Int32.ofInt 5 = nI 5 := by decide
theorem li_6 : Int32.ofInt 6 = nI 6 := by decide
theorem li_7 : Int32.ofInt 7 = nI 7 := by decide
theorem li_9 : Int32.ofInt 9 = nI 9 := by decide
theorem li_12 : Int32.ofInt 12 = nI 12 := by decide
theorem li_16 : Int32.ofInt 16 = nI 16 := by decide
theorem li_30 : Int32.ofInt 30 = nI 30 := by decide
theorem li_100 : Int32.ofInt 100 = nI 100 := by decide
theorem up_at (f : Nat → Nat → Int32) (a k : Nat) (x : Int32) (b j : Nat) : am_up f a k x b j = if b = a ∧ j = k then x else f b j := by
  unfold am_up am_cp upd
  by_cases h : b = a
  · subst h
    by_cases h2 : j = k <;> simp [h2]
  · simp [h]
theorem up_s (f : Nat → Nat → Int32) (a k : Nat) (x : Int32) : am_up f a k x a k = x := by rw [up_at, if_pos ⟨rfl, rfl⟩]
theorem up_n {f : Nat → Nat → Int32} {a k : Nat} {x : Int32} {b j : Nat} (h : b ≠ a ∨ j ≠ k) : am_up f a k x b j = f b j := by rw [up_at, if_neg (by omega)]
theorem up_a {f : Nat → Nat → Int32} {a k : Nat} {x : Int32} {b : Nat} (h : b ≠ a) : am_up f a k x b = f b := by
  unfold am_up am_cp
  rw [if_neg h]
theorem up_sa (f : Nat → Nat → Int32) (a k : Nat) (x : Int32) : am_up f a k x a = upd (f a) k x := by
  unfold am_up am_cp
  rw [if_pos rfl]
theorem nar_01 {x : Int32} (h : x = 0 ∨ x = 1) : vp_nar .boolean x = x := by rcases h with rfl | rfl <;> decide
theorem q_eq {Q : am_Q} {r r' : Option Value} {v v' : am_St} (hr : r = r') (hv : v = v') (h : Q r' v') : Q r v := by rw [hr, hv]; exact h
theorem nI_pred1 (n : Nat) : nI (n + 1) - nI 1 = nI n := nI_pred n
section BASE
variable {xl : Nat} {xs : Nat → Int32} {d : Nat} {i : Nat → Nat → Int32} {Q : am_Q} {u : am_St}
theorem k_below {x c : Int32} (n : Nat) (hc : c = nI n) (hn : n < 2 ^ 31) (hd : 1 ≤ d) (h1 : ∀ k, k < n → x = nI k → Q (some (.int 1)) u) (h0 : (x < 0 ∨ nI n ≤ x) → Q (some (.int 0)) u) : SP xl xs d Y_AM_isBelow [.int x, .int c] u Q := by
  subst hc
  obtain ⟨d, rfl⟩ : ∃ q, d = q + 1 := ⟨d - 1, by omega⟩
  refine ⟨Nat.le_of_ble_eq_true rfl, am_go (am_sp_mo _) (fun _ => false) 20 (fun X hX => ?_)⟩
  conv => whnf
  try dsimp only
  rcases pk_ix x hn with hx | hx | ⟨k, hk, hx⟩
  · refine ⟨fun _ => ?_, fun h => absurd hx h⟩
    conv => whnf
    try dsimp only
    exact ⟨Or.inl rfl, h0 (Or.inl hx)⟩
  · refine ⟨fun _ => ?_, fun _ => ?_⟩
    · conv => whnf
      try dsimp only
      exact ⟨Or.inl rfl, h0 (Or.inr hx)⟩
    · conv => whnf
      try dsimp only
      refine ⟨fun _ => ?_, fun h => absurd hx h⟩
      conv => whnf
      try dsimp only
      exact ⟨Or.inl rfl, h0 (Or.inr hx)⟩
  · refine ⟨fun h => absurd h (by rw [hx]; exact nI_pos (by omega)), fun _ => ?_⟩
    conv => whnf
    try dsimp only
    refine ⟨fun h => absurd h (by rw [hx]; exact nI_ge hk hn), fun _ => ?_⟩
    conv => whnf
    try dsimp only
    exact ⟨Or.inr rfl, h1 k hk hx⟩
theorem k_Packs_count (hd : 1 ≤ d) (h : Q (some (.int (i 1 5))) (KS, i)) : SP xl xs d Y_Packs_count [.ref 1] (KS, i) Q := by
  obtain ⟨d, rfl⟩ : ∃ q, d = q + 1 := ⟨d - 1, by omega⟩
  refine ⟨Nat.le_of_ble_eq_true rfl, am_go (am_sp_mo _) (fun _ => false) 20 (fun X hX => ?_)⟩
  conv => whnf
  try dsimp only
  exact h
theorem k_Packs_has {x : Int32} (np : Nat) (hp : i 1 5 = nI np) (hn : np ≤ 6) (hd : 2 ≤ d) (h1 : ∀ k, k < np → x = nI k → Q (some (.int 1)) (KS, i)) (h0 : (x < 0 ∨ nI np ≤ x) → Q (some (.int 0)) (KS, i)) : SP xl xs d Y_Packs_has [.ref 1, .int x] (KS, i) Q := by
  obtain ⟨d, rfl⟩ : ∃ q, d = q + 1 := ⟨d - 1, by omega⟩
  refine ⟨Nat.le_of_ble_eq_true rfl, am_go (am_sp_mo _) (fun _ => false) 20 (fun X hX => ?_)⟩
  conv => whnf
  try dsimp only
  refine k_below np hp (by omega) (by omega) (fun k hk hx => ?_) (fun hx => ?_)
  · conv => whnf
    try dsimp only
    exact ⟨Or.inr rfl, h1 k hk hx⟩
  · conv => whnf
    try dsimp only
    exact ⟨Or.inl rfl, h0 hx⟩
theorem k_Packs_add {x : Int32} (np : Nat) (hp : i 1 5 = nI np) (hn : np ≤ 6) (hd : 1 ≤ d) (h1 : np < 6 → Q (some (.int (nI np))) (KS, am_up (am_up i 2 np (vp_nar .boolean x)) 1 5 (nI (np + 1)))) (h0 : np = 6 → Q (some (.int (-1))) (KS, i)) : SP xl xs d Y_Packs_add [.ref 1, .int x] (KS, i) Q := by
  obtain ⟨d, rfl⟩ : ∃ q, d = q + 1 := ⟨d - 1, by omega⟩
  refine ⟨Nat.le_of_ble_eq_true rfl, am_go (am_sp_mo _) (fun _ => false) 40 (fun X hX => ?_)⟩
  conv => whnf
  try dsimp only
  refine ⟨fun h => ?_, fun h => ?_⟩
  · have hlt : np < 6 := by
      rcases Nat.lt_or_ge np 6 with q | q
      · exact q
      · exact absurd h (by show ¬ i 1 5 < Int32.ofInt 6; rw [hp, li_6]; exact nI_nlt q (by omega))
    conv => whnf
    try dsimp only
    refine ⟨6, [], rfl, by show vp_in (i 1 5) 6; rw [hp]; exact vp_in_nI hlt (by decide), ?_⟩
    conv => whnf
    try dsimp only
    refine q_eq ?_ ?_ (h1 hlt)
    · simp only [hp, up_n, up_s, li_1, nI_add, ne_eq, Nat.reduceEqDiff, not_false_eq_true, true_or, nI_pred1]
    · simp only [hp, up_n, li_1, nI_add, ne_eq, Nat.reduceEqDiff, not_false_eq_true, true_or, nI_clamp (show np < 2 ^ 31 by omega)]
  · conv => whnf
    try dsimp only
    exact h0 (by
      rcases Nat.lt_or_ge np 6 with q | q
      · exact absurd (by show i 1 5 < Int32.ofInt 6; rw [hp, li_6]; exact nI_lt q (by omega)) h
      · omega)
end BASE
