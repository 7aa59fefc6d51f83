/-! ADVISORIES -/
theorem ks_fr : ∀ a, a < 12 → KS[23 + a]? = some (0, 3, []) := by decide
theorem ks_to : ∀ a, a < 12 → KS[36 + a]? = some (0, 3, []) := by decide
theorem rg_fr : ∀ a, a < 12 → am_rg [some 23, some 24, some 25, some 26, some 27, some 28, some 29, some 30, some 31, some 32, some 33, some 34] a = some (23 + a) := by decide
theorem rg_to : ∀ a, a < 12 → am_rg [some 36, some 37, some 38, some 39, some 40, some 41, some 42, some 43, some 44, some 45, some 46, some 47] a = some (36 + a) := by decide
def bany (f : Nat → Bool) : Nat → Bool
  | 0 => false
  | n + 1 => bany f n || f n
theorem bany_of {f : Nat → Bool} : ∀ {n k : Nat}, k < n → f k = true → bany f n = true
  | n + 1, k, h, e => by
    unfold bany
    rcases Nat.lt_or_ge k n with q | q
    · rw [bany_of q e]
      rfl
    · have : k = n := by omega
      subst this
      rw [e, Bool.or_true]
theorem bany_iff {f : Nat → Bool} : ∀ {n : Nat}, bany f n = true ↔ ∃ k, k < n ∧ f k = true
  | 0 => ⟨fun h => (by cases h), fun ⟨k, h, _⟩ => absurd h (by omega)⟩
  | n + 1 => by
    constructor
    · intro h
      unfold bany at h
      rw [Bool.or_eq_true] at h
      rcases h with h | h
      · obtain ⟨k, h1, h2⟩ := bany_iff.mp h
        exact ⟨k, by omega, h2⟩
      · exact ⟨n, by omega, h⟩
    · intro ⟨k, h1, h2⟩
      exact bany_of h1 h2
/-- a span with a version -/
def spn (f t : Nat → Int32) (v : Int32) (k : Nat) : Bool := decide (f k ≤ v) && (decide (t k = -1) || decide (v < t k))
def stk (o w : Nat → Int32) (h : Nat → Bool) (p : Int32) (a : Nat) : Bool := decide (o a = p) && (decide (w a = 0) && h a)
def mx (f : Nat → Bool) (s : Nat → Int32) : Nat → Int32
  | 0 => -1
  | n + 1 => if f n = true then (if mx f s n < s n then s n else mx f s n) else mx f s n
def AK (i : Nat → Nat → Int32) (na : Nat) (sp : Nat → Nat) : Prop := i 20 7 = nI na ∧ na ≤ 12 ∧ ∀ a, a < 12 → i 48 a = nI (sp a) ∧ sp a ≤ 3
theorem AK.fr {i j : Nat → Nat → Int32} {na : Nat} {sp : Nat → Nat} (h : AK i na sp) (h1 : j 20 = i 20) (h2 : j 48 = i 48) : AK j na sp := by
  unfold AK at *
  rw [h1, h2]
  exact h
def chas (i : Nat → Nat → Int32) (sp : Nat → Nat) (v : Int32) (a : Nat) : Bool := bany (spn (i (23 + a)) (i (36 + a)) v) (sp a)
def cstk (i : Nat → Nat → Int32) (sp : Nat → Nat) (p v : Int32) : Nat → Bool := stk (i 21) (i 50) (chas i sp v) p
def cgst (i : Nat → Nat → Int32) (sp : Nat → Nat) (g p v : Int32) (a : Nat) : Bool := decide (i 51 a = g) && cstk i sp p v a
section ADV
variable {xl : Nat} {xs : Nat → Int32} {d : Nat} {i : Nat → Nat → Int32} {Q : am_Q} {na : Nat} {sp : Nat → Nat}
theorem k_Adv_count (hd : 1 ≤ d) (h : Q (some (.int (i 20 7))) (KS, i)) : SP xl xs d Y_Advisories_count [.ref 20] (KS, i) Q := by
  obtain ⟨d, rfl⟩ : ∃ q, d = q + 1 := ⟨d - 1, by omega⟩
  refine ⟨Nat.le_of_ble_eq_true rfl, am_go (am_sp_mo _) (fun _ => false) 20 (fun X hX => ?_)⟩
  conv => whnf
  try dsimp only
  exact h
theorem k_Adv_has {x : Int32} (hc : i 20 7 = nI na) (hn : na ≤ 12) (hd : 2 ≤ d) (h1 : ∀ a, a < na → x = nI a → Q (some (.int 1)) (KS, i)) (h0 : (x < 0 ∨ nI na ≤ x) → Q (some (.int 0)) (KS, i)) : SP xl xs d Y_Advisories_has [.ref 20, .int x] (KS, i) Q := by
  obtain ⟨d, rfl⟩ : ∃ q, d = q + 1 := ⟨d - 1, by omega⟩
  refine ⟨Nat.le_of_ble_eq_true rfl, am_go (am_sp_mo _) (fun _ => false) 20 (fun X hX => ?_)⟩
  conv => whnf
  try dsimp only
  refine k_below na hc (by omega) (by omega) (fun a ha hx => ?_) (fun hx => ?_)
  · conv => whnf
    try dsimp only
    exact ⟨Or.inr rfl, h1 a ha hx⟩
  · conv => whnf
    try dsimp only
    exact ⟨Or.inl rfl, h0 hx⟩
theorem k_Adv_add {p : Int32} (hc : i 20 7 = nI na) (hn : na ≤ 12) (hd : 1 ≤ d) (h1 : na < 12 → Q (some (.int (nI na))) (KS, am_up (am_up (am_up i 21 na p) 51 na (nI na)) 20 7 (nI (na + 1)))) (h0 : na = 12 → Q (some (.int (-1))) (KS, i)) : SP xl xs d Y_Advisories_add [.ref 20, .int p] (KS, i) Q := by
  obtain ⟨d, rfl⟩ : ∃ q, d = q + 1 := ⟨d - 1, by omega⟩
  refine ⟨Nat.le_of_ble_eq_true rfl, am_go (am_sp_mo _) (fun _ => false) 60 (fun X hX => ?_)⟩
  conv => whnf
  try dsimp only
  refine ⟨fun h => ?_, fun h => ?_⟩
  · have hlt : na < 12 := by
      rw [hc, li_12] at h
      rcases Nat.lt_or_ge na 12 with q | q
      · exact q
      · exact absurd h (nI_nlt q (by omega))
    conv => whnf
    try dsimp only
    refine ⟨12, [], rfl, by rw [hc]; exact vp_in_nI hlt (by decide), ?_⟩
    conv => whnf
    try dsimp only
    refine ⟨12, [], rfl, by rw [up_n (Or.inl (by decide)), hc]; exact vp_in_nI hlt (by decide), ?_⟩
    conv => whnf
    try dsimp only
    refine q_eq ?_ ?_ (h1 hlt)
    · simp only [hc, up_n, up_s, li_1, nI_add, ne_eq, Nat.reduceEqDiff, not_false_eq_true, true_or, nI_pred1]
    · simp only [hc, up_n, li_1, nI_add, ne_eq, Nat.reduceEqDiff, not_false_eq_true, true_or, nI_clamp (show na < 2 ^ 31 by omega)]
  · conv => whnf
    try dsimp only
    refine h0 ?_
    rw [hc, li_12] at h
    rcases Nat.lt_or_ge na 12 with q | q
    · exact absurd (nI_lt q (by omega)) h
    · omega
theorem k_addSpan {x f t : Int32} (hA : AK i na sp) (hd : 3 ≤ d)
    (h1 : ∀ a, a < na → x = nI a → ¬ f < 0 → (t = -1 ∨ f < t) → sp a < 3 → Q (some (.int 1)) (KS, am_up (am_up (am_up i (23 + a) (sp a) f) (36 + a) (sp a) t) 48 a (nI (sp a + 1))))
    (h0 : (∀ a, a < na → x = nI a → ¬ f < 0 → (t = -1 ∨ f < t) → ¬ sp a < 3) → Q (some (.int 0)) (KS, i)) : SP xl xs d Y_Advisories_addSpan [.ref 20, .int x, .int f, .int t] (KS, i) Q := by
  obtain ⟨hc, hn, hs⟩ := hA
  obtain ⟨d, rfl⟩ : ∃ q, d = q + 1 := ⟨d - 1, by omega⟩
  refine ⟨Nat.le_of_ble_eq_true rfl, am_go (am_sp_mo _) (fun q => q == 24) 60 (fun X hX => ?_)⟩
  conv => whnf
  try dsimp only
  refine k_Adv_has hc hn (by omega) (fun a ha hx => ?_) (fun hx => ?_)
  · have hs1 := hs a (by omega)
    have huni : ∀ q, q < na → x = nI q → q = a := fun q hq e => nI_inj (by omega) (by omega) (e.symm.trans hx)
    conv => whnf
    try dsimp only
    refine ⟨fun h => absurd h (by decide), fun _ => ?_⟩
    conv => whnf
    try dsimp only
    refine ⟨fun h => ?_, fun hf0 => ?_⟩
    · conv => whnf
      try dsimp only
      exact ⟨Or.inl rfl, h0 fun q _ _ hq0 => absurd h hq0⟩
    have go : (t = -1 ∨ f < t) → am_wp (ax_E xl xs) (ax_cd Y_Advisories_addSpan) (am_sp (ax_E xl xs) ax_cd ax_ml d) Q 24 [some (.ref 20), some (.int x), some (.int f), some (.int t), none] [] (KS, i) 0 0 := by
      intro ht
      refine am_go (am_sp_mo _) (fun _ => false) 60 (fun X hX => ?_)
      conv => whnf
      try dsimp only
      refine ⟨12, [], rfl, by rw [hx]; exact vp_in_nI (by omega) (by decide), ?_⟩
      conv => whnf
      try dsimp only
      rw [hx, nI_clamp (by omega), hs1.1, li_3]
      refine ⟨fun h3 => ?_, fun h3 => ?_⟩
      · have hlt : sp a < 3 := by
          rcases Nat.lt_or_ge (sp a) 3 with q | q
          · exact q
          · exact absurd h3 (nI_nlt q (by omega))
        conv => whnf
        try dsimp only
        refine ⟨12, _, 23 + a, rfl, vp_in_nI (by omega) (by decide), by rw [nI_clamp (by omega)]; exact rg_fr a (by omega), ?_⟩
        conv => whnf
        try dsimp only
        refine ⟨3, [], ks_fr a (by omega), vp_in_nI (by omega) (by decide), ?_⟩
        conv => whnf
        try dsimp only
        refine ⟨12, _, 36 + a, rfl, vp_in_nI (by omega) (by decide), by rw [nI_clamp (by omega)]; exact rg_to a (by omega), ?_⟩
        conv => whnf
        try dsimp only
        refine ⟨3, [], ks_to a (by omega), vp_in_nI (by omega) (by decide), ?_⟩
        conv => whnf
        try dsimp only
        refine ⟨12, [], rfl, vp_in_nI (by omega) (by decide), ?_⟩
        conv => whnf
        try dsimp only
        refine ⟨Or.inr rfl, q_eq rfl ?_ (h1 a ha hx hf0 ht hlt)⟩
        rw [nI_clamp (by omega), nI_clamp (by omega), li_1, nI_add]
      · conv => whnf
        try dsimp only
        refine ⟨Or.inl rfl, h0 fun q hq e _ _ => ?_⟩
        have := huni q hq e
        subst this
        exact fun h => h3 (nI_lt h (by omega))
    conv => whnf
    try dsimp only
    refine ⟨fun ht => hX _ _ _ _ _ _ (go (Or.inl ht)), fun ht => ?_⟩
    conv => whnf
    try dsimp only
    refine ⟨fun ht2 => hX _ _ _ _ _ _ (go (Or.inr ht2)), fun ht2 => ?_⟩
    conv => whnf
    try dsimp only
    exact ⟨Or.inl rfl, h0 fun q _ _ _ h => absurd h (by rintro (h | h) <;> contradiction)⟩
  · conv => whnf
    try dsimp only
    refine ⟨fun _ => ?_, fun h => absurd rfl h⟩
    conv => whnf
    try dsimp only
    exact ⟨Or.inl rfl, h0 fun q hq e => absurd e (out_np (by omega) hx hq)⟩
theorem k_setScore {x v : Int32} (hc : i 20 7 = nI na) (hn : na ≤ 12) (hd : 3 ≤ d) (h1 : ∀ a, a < na → x = nI a → Q none (KS, am_up i 49 a v)) (h0 : (x < 0 ∨ nI na ≤ x) → Q none (KS, i)) : SP xl xs d Y_Advisories_setScore [.ref 20, .int x, .int v] (KS, i) Q := by
  obtain ⟨d, rfl⟩ : ∃ q, d = q + 1 := ⟨d - 1, by omega⟩
  refine ⟨Nat.le_of_ble_eq_true rfl, am_go (am_sp_mo _) (fun _ => false) 30 (fun X hX => ?_)⟩
  conv => whnf
  try dsimp only
  refine k_Adv_has hc hn (by omega) (fun a ha hx => ?_) (fun hx => ?_)
  · conv => whnf
    try dsimp only
    refine ⟨fun h => absurd h (by decide), fun _ => ?_⟩
    conv => whnf
    try dsimp only
    refine ⟨12, [], rfl, by rw [hx]; exact vp_in_nI (by omega) (by decide), ?_⟩
    conv => whnf
    try dsimp only
    exact q_eq rfl (by rw [hx, nI_clamp (by omega)]) (h1 a ha hx)
  · conv => whnf
    try dsimp only
    refine ⟨fun _ => ?_, fun h => absurd rfl h⟩
    conv => whnf
    try dsimp only
    exact h0 hx
theorem k_scoreOf {x : Int32} (hc : i 20 7 = nI na) (hn : na ≤ 12) (hd : 3 ≤ d) (h1 : ∀ a, a < na → x = nI a → Q (some (.int (i 49 a))) (KS, i)) (h0 : (x < 0 ∨ nI na ≤ x) → Q (some (.int (-1))) (KS, i)) : SP xl xs d Y_Advisories_scoreOf [.ref 20, .int x] (KS, i) Q := by
  obtain ⟨d, rfl⟩ : ∃ q, d = q + 1 := ⟨d - 1, by omega⟩
  refine ⟨Nat.le_of_ble_eq_true rfl, am_go (am_sp_mo _) (fun _ => false) 30 (fun X hX => ?_)⟩
  conv => whnf
  try dsimp only
  refine k_Adv_has hc hn (by omega) (fun a ha hx => ?_) (fun hx => ?_)
  · conv => whnf
    try dsimp only
    refine ⟨fun h => absurd h (by decide), fun _ => ?_⟩
    conv => whnf
    try dsimp only
    refine ⟨12, [], rfl, by rw [hx]; exact vp_in_nI (by omega) (by decide), ?_⟩
    conv => whnf
    try dsimp only
    exact q_eq (by rw [hx, nI_clamp (by omega)]) rfl (h1 a ha hx)
  · conv => whnf
    try dsimp only
    refine ⟨fun _ => ?_, fun h => absurd rfl h⟩
    conv => whnf
    try dsimp only
    exact h0 hx
theorem k_groupOf {x : Int32} (hc : i 20 7 = nI na) (hn : na ≤ 12) (hd : 3 ≤ d) (h1 : ∀ a, a < na → x = nI a → Q (some (.int (i 51 a))) (KS, i)) (h0 : (x < 0 ∨ nI na ≤ x) → Q (some (.int (-1))) (KS, i)) : SP xl xs d Y_Advisories_groupOf [.ref 20, .int x] (KS, i) Q := by
  obtain ⟨d, rfl⟩ : ∃ q, d = q + 1 := ⟨d - 1, by omega⟩
  refine ⟨Nat.le_of_ble_eq_true rfl, am_go (am_sp_mo _) (fun _ => false) 30 (fun X hX => ?_)⟩
  conv => whnf
  try dsimp only
  refine k_Adv_has hc hn (by omega) (fun a ha hx => ?_) (fun hx => ?_)
  · conv => whnf
    try dsimp only
    refine ⟨fun h => absurd h (by decide), fun _ => ?_⟩
    conv => whnf
    try dsimp only
    refine ⟨12, [], rfl, by rw [hx]; exact vp_in_nI (by omega) (by decide), ?_⟩
    conv => whnf
    try dsimp only
    exact q_eq (by rw [hx, nI_clamp (by omega)]) rfl (h1 a ha hx)
  · conv => whnf
    try dsimp only
    refine ⟨fun _ => ?_, fun h => absurd rfl h⟩
    conv => whnf
    try dsimp only
    exact h0 hx
theorem k_setWithdrawn {x v : Int32} (hc : i 20 7 = nI na) (hn : na ≤ 12) (hd : 3 ≤ d) (h1 : ∀ a, a < na → x = nI a → Q (some (.int 1)) (KS, am_up i 50 a (vp_nar .boolean v))) (h0 : (x < 0 ∨ nI na ≤ x) → Q (some (.int 0)) (KS, i)) : SP xl xs d Y_Advisories_setWithdrawn [.ref 20, .int x, .int v] (KS, i) Q := by
  obtain ⟨d, rfl⟩ : ∃ q, d = q + 1 := ⟨d - 1, by omega⟩
  refine ⟨Nat.le_of_ble_eq_true rfl, am_go (am_sp_mo _) (fun _ => false) 30 (fun X hX => ?_)⟩
  conv => whnf
  try dsimp only
  refine k_Adv_has hc hn (by omega) (fun a ha hx => ?_) (fun hx => ?_)
  · conv => whnf
    try dsimp only
    refine ⟨fun _ => ?_, fun h => absurd h (by decide)⟩
    conv => whnf
    try dsimp only
    refine ⟨12, [], rfl, by rw [hx]; exact vp_in_nI (by omega) (by decide), ?_⟩
    conv => whnf
    try dsimp only
    exact ⟨Or.inr rfl, q_eq rfl (by rw [hx, nI_clamp (by omega)]) (h1 a ha hx)⟩
  · conv => whnf
    try dsimp only
    refine ⟨fun h => absurd rfl h, fun _ => ?_⟩
    conv => whnf
    try dsimp only
    exact ⟨Or.inl rfl, h0 hx⟩
theorem k_hasSpanWith {a : Nat} {v : Int32} (hA : AK i na sp) (ha : a < 12) (hd : 1 ≤ d) (h : ∀ b : Bool, b = chas i sp v a → Q (some (.int (if b = true then 1 else 0))) (KS, i)) : SP xl xs d Y_Advisories_hasSpanWith [.ref 20, .int (nI a), .int v] (KS, i) Q := by
  have hs := hA.2.2 a ha
  obtain ⟨d, rfl⟩ : ∃ q, d = q + 1 := ⟨d - 1, by omega⟩
  refine ⟨Nat.le_of_ble_eq_true rfl, am_go (am_sp_mo _) (fun q => q == 2) 30 (fun X hX => ?_)⟩
  conv => whnf
  try dsimp only
  refine hX _ _ _ _ _ _ ?_
  have loop : ∀ m k o, k + m = sp a → bany (spn (i (23 + a)) (i (36 + a)) v) k = false → am_wp (ax_E xl xs) (ax_cd Y_Advisories_hasSpanWith) (am_sp (ax_E xl xs) ax_cd ax_ml d) Q 2 [some (.ref 20), some (.int (nI a)), some (.int v), some (.int (nI k)), o] [] (KS, i) 0 0 := by
    intro m
    induction m with
    | zero =>
      intro k o hk hno
      have : k = sp a := by omega
      subst this
      refine am_go (am_sp_mo _) (fun q => q == 2) 30 (fun X hX => ?_)
      conv => whnf
      try dsimp only
      refine ⟨12, [], rfl, vp_in_nI ha (by decide), ?_⟩
      conv => whnf
      try dsimp only
      rw [nI_clamp (by omega), hs.1]
      refine ⟨fun _ => ?_, fun hh => absurd (nI_le (Nat.le_refl _) (by omega)) hh⟩
      conv => whnf
      try dsimp only
      exact ⟨Or.inl rfl, h false hno.symm⟩
    | succ m ih =>
      intro k o hk hno
      refine am_go (am_sp_mo _) (fun q => q == 2) 40 (fun X hX => ?_)
      conv => whnf
      try dsimp only
      refine ⟨12, [], rfl, vp_in_nI ha (by decide), ?_⟩
      conv => whnf
      try dsimp only
      rw [nI_clamp (show a < 2 ^ 31 by omega), hs.1]
      refine ⟨fun hh => absurd hh (nI_ge (by omega) (by omega)), fun _ => ?_⟩
      conv => whnf
      try dsimp only
      refine ⟨12, _, 36 + a, rfl, vp_in_nI ha (by decide), by rw [nI_clamp (by omega)]; exact rg_to a ha, ?_⟩
      conv => whnf
      try dsimp only
      refine ⟨3, [], ks_to a ha, vp_in_nI (by omega) (by decide), ?_⟩
      conv => whnf
      try dsimp only
      refine ⟨12, _, 23 + a, rfl, vp_in_nI ha (by decide), by rw [nI_clamp (by omega)]; exact rg_fr a ha, ?_⟩
      conv => whnf
      try dsimp only
      refine ⟨3, [], ks_fr a ha, vp_in_nI (by omega) (by decide), ?_⟩
      conv => whnf
      try dsimp only
      rw [nI_clamp (show k < 2 ^ 31 by omega)]
      have nx : spn (i (23 + a)) (i (36 + a)) v k = false → am_wp (ax_E xl xs) (ax_cd Y_Advisories_hasSpanWith) (am_sp (ax_E xl xs) ax_cd ax_ml d) Q 2 [some (.ref 20), some (.int (nI a)), some (.int v), some (.int (nI k + Int32.ofInt 1)), some (.int (i (36 + a) k))] [] (KS, i) 0 0 := by
        intro hk2
        rw [li_1, nI_add]
        exact ih (k + 1) _ (by omega) (by rw [bany, hno, hk2]; rfl)
      have yes : spn (i (23 + a)) (i (36 + a)) v k = true → Q (some (.int 1)) (KS, i) := fun hy => h true (by rw [chas, bany_of (show k < sp a by omega) hy])
      refine ⟨fun hl => ?_, fun hl => ?_⟩
      · conv => whnf
        try dsimp only
        exact hX _ _ _ _ _ _ (nx (by unfold spn; rw [show decide (i (23 + a) k ≤ v) = false from decide_eq_false (by rw [Int32.le_iff_toInt_le]; rw [Int32.lt_iff_toInt_lt] at hl; omega)]; rfl))
      have hl' : decide (i (23 + a) k ≤ v) = true := decide_eq_true (by rw [Int32.le_iff_toInt_le]; rw [Int32.lt_iff_toInt_lt] at hl; omega)
      conv => whnf
      try dsimp only
      refine ⟨fun ht => ?_, fun ht => ?_⟩
      · conv => whnf
        try dsimp only
        exact ⟨Or.inr rfl, yes (by unfold spn; rw [hl', show decide (i (36 + a) k = -1) = true from decide_eq_true ht]; rfl)⟩
      conv => whnf
      try dsimp only
      refine ⟨fun hg => ?_, fun hg => ?_⟩
      · conv => whnf
        try dsimp only
        exact hX _ _ _ _ _ _ (nx (by unfold spn; rw [show decide (i (36 + a) k = -1) = false from decide_eq_false ht, show decide (v < i (36 + a) k) = false from decide_eq_false (by rw [Int32.lt_iff_toInt_lt]; rw [Int32.le_iff_toInt_le] at hg; omega), Bool.or_false, Bool.and_false]))
      · conv => whnf
        try dsimp only
        exact ⟨Or.inr rfl, yes (by unfold spn; rw [hl', show decide (v < i (36 + a) k) = true from decide_eq_true (by rw [Int32.lt_iff_toInt_lt]; rw [Int32.le_iff_toInt_le] at hg; omega), Bool.or_true]; rfl)⟩
  exact loop (sp a) 0 none (by omega) rfl
theorem k_strikes {a : Nat} {p v : Int32} (hA : AK i na sp) (hw : ∀ a, i 50 a = 0 ∨ i 50 a = 1) (ha : a < na) (hd : 3 ≤ d) (h : ∀ b : Bool, b = cstk i sp p v a → Q (some (.int (if b = true then 1 else 0))) (KS, i)) : SP xl xs d Y_Advisories_strikes [.ref 20, .int (nI a), .int p, .int v] (KS, i) Q := by
  have hn := hA.2.1
  obtain ⟨d, rfl⟩ : ∃ q, d = q + 1 := ⟨d - 1, by omega⟩
  refine ⟨Nat.le_of_ble_eq_true rfl, am_go (am_sp_mo _) (fun _ => false) 40 (fun X hX => ?_)⟩
  conv => whnf
  try dsimp only
  refine k_Adv_has hA.1 hn (by omega) (fun a' ha' hx => ?_) (fun hx => absurd rfl (out_np (by omega) hx ha))
  conv => whnf
  try dsimp only
  refine ⟨fun h => absurd h (by decide), fun _ => ?_⟩
  conv => whnf
  try dsimp only
  refine ⟨12, [], rfl, vp_in_nI (by omega) (by decide), ?_⟩
  conv => whnf
  try dsimp only
  rw [nI_clamp (show a < 2 ^ 31 by omega)]
  refine ⟨fun ho => ?_, fun ho => ?_⟩
  · conv => whnf
    try dsimp only
    exact ⟨Or.inl rfl, h false (by unfold cstk stk; rw [show decide (i 21 a = p) = false from decide_eq_false ho]; rfl)⟩
  have ho' : decide (i 21 a = p) = true := decide_eq_true ho
  conv => whnf
  try dsimp only
  refine ⟨12, [], rfl, vp_in_nI (by omega) (by decide), ?_⟩
  conv => whnf
  try dsimp only
  rw [nI_clamp (show a < 2 ^ 31 by omega)]
  rcases hw a with e | e
  · rw [e]
    refine ⟨fun h => absurd rfl h, fun _ => ?_⟩
    conv => whnf
    try dsimp only
    refine k_hasSpanWith hA (by omega) (by omega) (fun b hb => ?_)
    have hcs : cstk i sp p v a = b := by unfold cstk stk; rw [ho', show decide (i 50 a = 0) = true from decide_eq_true e, ← hb]; rfl
    cases b with
    | false =>
      conv => whnf
      try dsimp only
      refine ⟨fun _ => ?_, fun h => absurd rfl h⟩
      conv => whnf
      try dsimp only
      exact ⟨Or.inl rfl, h false hcs.symm⟩
    | true =>
      conv => whnf
      try dsimp only
      refine ⟨fun h => absurd h (by decide), fun _ => ?_⟩
      conv => whnf
      try dsimp only
      exact ⟨Or.inr rfl, h true hcs.symm⟩
  · rw [e]
    refine ⟨fun _ => ?_, fun h => absurd h (by decide)⟩
    conv => whnf
    try dsimp only
    exact ⟨Or.inl rfl, h false (by unfold cstk stk; rw [show decide (i 50 a = 0) = false from decide_eq_false (by rw [e]; decide), Bool.false_and, Bool.and_false])⟩
theorem k_scoreThere {g p v : Int32} (hA : AK i na sp) (hw : ∀ a, i 50 a = 0 ∨ i 50 a = 1) (hd : 4 ≤ d) (h : Q (some (.int (mx (cgst i sp g p v) (i 49) na))) (KS, i)) : SP xl xs d Y_Advisories_scoreThere [.ref 20, .int g, .int p, .int v] (KS, i) Q := by
  have hc := hA.1
  have hn := hA.2.1
  obtain ⟨d, rfl⟩ : ∃ q, d = q + 1 := ⟨d - 1, by omega⟩
  refine ⟨Nat.le_of_ble_eq_true rfl, am_go (am_sp_mo _) (fun q => q == 6) 30 (fun X hX => ?_)⟩
  conv => whnf
  try dsimp only
  refine hX _ _ _ _ _ _ ?_
  have loop : ∀ m k, k + m = na → am_wp (ax_E xl xs) (ax_cd Y_Advisories_scoreThere) (am_sp (ax_E xl xs) ax_cd ax_ml d) Q 6 [some (.ref 20), some (.int g), some (.int p), some (.int v), some (.int (mx (cgst i sp g p v) (i 49) k)), some (.int (nI k))] [] (KS, i) 0 0 := by
    intro m
    induction m with
    | zero =>
      intro k hk
      have : k = na := by omega
      subst this
      refine am_go (am_sp_mo _) (fun q => q == 6) 30 (fun X hX => ?_)
      conv => whnf
      try dsimp only
      refine ⟨fun _ => ?_, fun hh => absurd (by rw [hc]; exact nI_le (Nat.le_refl _) (by omega)) hh⟩
      conv => whnf
      try dsimp only
      exact h
    | succ m ih =>
      intro k hk
      have ih := ih (k + 1) (by omega)
      have nx : mx (cgst i sp g p v) (i 49) (k + 1) = mx (cgst i sp g p v) (i 49) k → am_wp (ax_E xl xs) (ax_cd Y_Advisories_scoreThere) (am_sp (ax_E xl xs) ax_cd ax_ml d) Q 6 [some (.ref 20), some (.int g), some (.int p), some (.int v), some (.int (mx (cgst i sp g p v) (i 49) k)), some (.int (nI k + Int32.ofInt 1))] [] (KS, i) 0 0 := by
        intro e
        rw [li_1, nI_add, ← e]
        exact ih
      refine am_go (am_sp_mo _) (fun q => q == 6) 40 (fun X hX => ?_)
      conv => whnf
      try dsimp only
      refine ⟨fun hh => absurd hh (by rw [hc]; exact nI_ge (by omega) (by omega)), fun _ => ?_⟩
      conv => whnf
      try dsimp only
      refine ⟨12, [], rfl, vp_in_nI (by omega) (by decide), ?_⟩
      conv => whnf
      try dsimp only
      rw [nI_clamp (show k < 2 ^ 31 by omega)]
      refine ⟨fun hg => ?_, fun hg => ?_⟩
      · conv => whnf
        try dsimp only
        exact hX _ _ _ _ _ _ (nx (by rw [mx, if_neg]; unfold cgst; rw [show decide (i 51 k = g) = false from decide_eq_false hg]; simp))
      conv => whnf
      try dsimp only
      refine k_strikes hA hw (by omega) (by omega) (fun b hb => ?_)
      have hcg : cgst i sp g p v k = b := by unfold cgst; rw [show decide (i 51 k = g) = true from decide_eq_true hg, ← hb]; rfl
      cases b with
      | false =>
        conv => whnf
        try dsimp only
        refine ⟨fun _ => ?_, fun h => absurd rfl h⟩
        conv => whnf
        try dsimp only
        exact hX _ _ _ _ _ _ (nx (by rw [mx, hcg]; simp))
      | true =>
        conv => whnf
        try dsimp only
        refine ⟨fun h => absurd h (by decide), fun _ => ?_⟩
        conv => whnf
        try dsimp only
        refine ⟨12, [], rfl, vp_in_nI (by omega) (by decide), ?_⟩
        conv => whnf
        try dsimp only
        refine hX _ _ _ _ _ _ (am_wpL ?_ rfl ih)
        show [_, _, _, _, some (Value.int (if mx (cgst i sp g p v) (i 49) k < i 49 (nI k).toNatClampNeg then i 49 (nI k).toNatClampNeg else mx (cgst i sp g p v) (i 49) k)), some (Value.int (nI k + Int32.ofInt 1))] = _
        rw [li_1, nI_add, nI_clamp (show k < 2 ^ 31 by omega), mx, if_pos hcg]
        try rfl
  exact loop na 0 (by omega)
theorem k_renameGroup {old nm : Int32} (hc : i 20 7 = nI na) (hn : na ≤ 12) (hd : 1 ≤ d) (h : ∀ j : Nat → Nat → Int32, (∀ b, b ≠ 51 → j b = i b) → (∀ a, j 51 a = if a < na ∧ i 51 a = old then nm else i 51 a) → Q none (KS, j)) : SP xl xs d Y_Advisories_renameGroup [.ref 20, .int old, .int nm] (KS, i) Q := by
  obtain ⟨d, rfl⟩ : ∃ q, d = q + 1 := ⟨d - 1, by omega⟩
  refine ⟨Nat.le_of_ble_eq_true rfl, am_go (am_sp_mo _) (fun q => q == 2) 30 (fun X hX => ?_)⟩
  conv => whnf
  try dsimp only
  refine hX _ _ _ _ _ _ ?_
  have loop : ∀ m k (j : Nat → Nat → Int32), k + m = na → (∀ b, b ≠ 51 → j b = i b) → (∀ a, j 51 a = if a < k ∧ i 51 a = old then nm else i 51 a) → am_wp (ax_E xl xs) (ax_cd Y_Advisories_renameGroup) (am_sp (ax_E xl xs) ax_cd ax_ml d) Q 2 [some (.ref 20), some (.int old), some (.int nm), some (.int (nI k))] [] (KS, j) 0 0 := by
    intro m
    induction m with
    | zero =>
      intro k j hk h1 h2
      have : k = na := by omega
      subst this
      refine am_go (am_sp_mo _) (fun q => q == 2) 30 (fun X hX => ?_)
      conv => whnf
      try dsimp only
      rw [h1 20 (by decide), hc]
      refine ⟨fun _ => ?_, fun hh => absurd (nI_le (Nat.le_refl _) (by omega)) hh⟩
      conv => whnf
      try dsimp only
      exact h j h1 h2
    | succ m ih =>
      intro k j hk h1 h2
      refine am_go (am_sp_mo _) (fun q => q == 2) 30 (fun X hX => ?_)
      conv => whnf
      try dsimp only
      rw [h1 20 (by decide), hc]
      refine ⟨fun hh => absurd hh (nI_ge (by omega) (by omega)), fun _ => ?_⟩
      conv => whnf
      try dsimp only
      refine ⟨12, [], rfl, vp_in_nI (by omega) (by decide), ?_⟩
      conv => whnf
      try dsimp only
      have hjk : j 51 (nI k).toNatClampNeg = i 51 k := by rw [nI_clamp (by omega), h2, if_neg (by omega)]
      rw [hjk]
      refine ⟨fun hne => ?_, fun heq => ?_⟩
      · conv => whnf
        try dsimp only
        refine hX _ _ _ _ _ _ (am_wpL ?_ rfl (ih (k + 1) j (by omega) h1 (fun a => ?_)))
        · show [_, _, _, some (Value.int (nI k + Int32.ofInt 1))] = _
          rw [li_1, nI_add]
          try rfl
        · rw [h2]
          by_cases ha : a = k
          · subst ha
            rw [if_neg (by omega), if_neg (fun q => hne q.2)]
          · by_cases ha2 : a < k ∧ i 51 a = old
            · rw [if_pos ha2, if_pos ⟨by omega, ha2.2⟩]
            · rw [if_neg ha2, if_neg (fun q => ha2 ⟨by omega, q.2⟩)]
      · conv => whnf
        try dsimp only
        refine ⟨12, [], rfl, vp_in_nI (by omega) (by decide), ?_⟩
        conv => whnf
        try dsimp only
        refine hX _ _ _ _ _ _ (am_wpL ?_ rfl (ih (k + 1) (am_up j 51 (nI k).toNatClampNeg nm) (by omega) (fun b hb => (up_a hb).trans (h1 b hb)) (fun a => ?_)))
        · show [_, _, _, some (Value.int (nI k + Int32.ofInt 1))] = _
          rw [li_1, nI_add]
          try rfl
        · rw [up_at, nI_clamp (by omega), h2]
          by_cases ha : a = k
          · subst ha
            rw [if_pos ⟨rfl, rfl⟩, if_pos ⟨by omega, heq⟩]
          · rw [if_neg (by omega)]
            by_cases ha2 : a < k ∧ i 51 a = old
            · rw [if_pos ha2, if_pos ⟨by omega, ha2.2⟩]
            · rw [if_neg ha2, if_neg (fun q => ha2 ⟨by omega, q.2⟩)]
  exact loop na 0 i (by omega) (fun _ _ => rfl) (fun a => by rw [if_neg (by omega)])
end ADV
