/-! THE CLASS'S SIMPLE CALLS -/
section CALLS
variable {xl : Nat} {xs : Nat → Int32} {d : Nat} {i : Nat → Nat → Int32} {Q : am_Q} {np nn na : Nat} {nv sp : Nat → Nat}
theorem c_pack {x : Int32} (hp : i 1 5 = nI np) (hn : np ≤ 6) (hd : 2 ≤ d) (h1 : np < 6 → Q (some (.int (nI np))) (KS, am_up (am_up i 2 np (vp_nar .boolean x)) 1 5 (nI (np + 1)))) (h0 : np = 6 → Q (some (.int (-1))) (KS, i)) : SP xl xs d Y_AM_pack [.ref 0, .int x] (KS, i) Q := by
  obtain ⟨d, rfl⟩ : ∃ q, d = q + 1 := ⟨d - 1, by omega⟩
  refine ⟨Nat.le_of_ble_eq_true rfl, am_go (am_sp_mo _) (fun _ => false) 20 (fun X hX => ?_)⟩
  conv => whnf
  try dsimp only
  refine k_Packs_add np hp hn (by omega) (fun h => ?_) (fun h => ?_)
  · conv => whnf
    try dsimp only
    exact h1 h
  · conv => whnf
    try dsimp only
    exact h0 h
theorem c_version {x v : Int32} (hk : PK i np nv) (hd : 4 ≤ d)
    (h1 : ∀ p, p < np → x = nI p → ¬ v < 0 → ¬ nI 1000000 < v → nv p < 5 → (nv p = 0 ∨ i (4 + p) (nv p - 1) < v) → Q (some (.int (nI (nv p)))) (KS, am_up (am_up i (4 + p) (nv p) v) 10 p (nI (nv p + 1))))
    (h0 : (∀ p, p < np → x = nI p → ¬ v < 0 → ¬ nI 1000000 < v → nv p < 5 → ¬ (nv p = 0 ∨ i (4 + p) (nv p - 1) < v)) → Q (some (.int (-1))) (KS, i)) : SP xl xs d Y_AM_version [.ref 0, .int x, .int v] (KS, i) Q := by
  obtain ⟨d, rfl⟩ : ∃ q, d = q + 1 := ⟨d - 1, by omega⟩
  refine ⟨Nat.le_of_ble_eq_true rfl, am_go (am_sp_mo _) (fun _ => false) 20 (fun X hX => ?_)⟩
  conv => whnf
  try dsimp only
  refine k_addVersion hk (by omega) (fun p a b c e f g => ?_) (fun h => ?_)
  · conv => whnf
    try dsimp only
    exact h1 p a b c e f g
  · conv => whnf
    try dsimp only
    exact h0 h
theorem c_install {x y : Int32} (hk : PK i np nv) (hd : 4 ≤ d)
    (h1 : ∀ p, p < np → x = nI p → y = -1 → Q (some (.int 1)) (KS, am_up (am_up i 11 p (-1)) 12 p (-1)))
    (h2 : ∀ p k, p < np → k < nv p → x = nI p → y = nI k → Q (some (.int 1)) (KS, am_up (am_up i 11 p (nI k)) 12 p (i (4 + p) k)))
    (h0 : (∀ p, p < np → x = nI p → ¬ y = -1 ∧ ∀ k, k < nv p → ¬ y = nI k) → Q (some (.int 0)) (KS, i)) : SP xl xs d Y_AM_install [.ref 0, .int x, .int y] (KS, i) Q := by
  obtain ⟨d, rfl⟩ : ∃ q, d = q + 1 := ⟨d - 1, by omega⟩
  refine ⟨Nat.le_of_ble_eq_true rfl, am_go (am_sp_mo _) (fun _ => false) 20 (fun X hX => ?_)⟩
  conv => whnf
  try dsimp only
  refine k_putPlace hk (by omega) (fun p a b c => ?_) (fun p k a b c e => ?_) (fun h => ?_)
  · conv => whnf
    try dsimp only
    exact ⟨Or.inr rfl, h1 p a b c⟩
  · conv => whnf
    try dsimp only
    exact ⟨Or.inr rfl, h2 p k a b c e⟩
  · conv => whnf
    try dsimp only
    exact ⟨Or.inl rfl, h0 h⟩
theorem c_need {x s y l g : Int32} (hp : i 1 5 = nI np) (hn : np ≤ 6) (hc : i 13 6 = nI nn) (hm : nn ≤ 16) (hd : 3 ≤ d)
    (h1 : ∀ p q, p < np → q < np → x = nI p → y = nI q → nn < 16 → Q (some (.int (nI nn))) (KS, am_up (am_up (am_up (am_up (am_up (am_up i 14 nn x) 15 nn s) 16 nn y) 17 nn l) 18 nn g) 13 6 (nI (nn + 1))))
    (h0 : (∀ p q, p < np → q < np → x = nI p → y = nI q → ¬ nn < 16) → Q (some (.int (-1))) (KS, i)) : SP xl xs d Y_AM_need [.ref 0, .int x, .int s, .int y, .int l, .int g] (KS, i) Q := by
  obtain ⟨d, rfl⟩ : ∃ q, d = q + 1 := ⟨d - 1, by omega⟩
  refine ⟨Nat.le_of_ble_eq_true rfl, am_go (am_sp_mo _) (fun _ => false) 30 (fun X hX => ?_)⟩
  conv => whnf
  try dsimp only
  refine k_Packs_has np hp hn (by omega) (fun p hpp hx => ?_) (fun hx => ?_)
  · conv => whnf
    try dsimp only
    refine ⟨fun h => absurd h (by decide), fun _ => ?_⟩
    conv => whnf
    try dsimp only
    refine k_Packs_has np hp hn (by omega) (fun q hq hy => ?_) (fun hy => ?_)
    · conv => whnf
      try dsimp only
      refine ⟨fun _ => ?_, fun h => absurd h (by decide)⟩
      conv => whnf
      try dsimp only
      refine k_Needs_add hc hm (by omega) (fun h => ?_) (fun h => ?_)
      · conv => whnf
        try dsimp only
        exact h1 p q hpp hq hx hy h
      · conv => whnf
        try dsimp only
        exact h0 fun _ _ _ _ _ _ => by omega
    · conv => whnf
      try dsimp only
      refine ⟨fun h => absurd rfl h, fun _ => ?_⟩
      conv => whnf
      try dsimp only
      exact h0 fun _ q _ hq _ e => absurd e (out_np (by omega) hy hq)
  · conv => whnf
    try dsimp only
    refine ⟨fun _ => ?_, fun h => absurd rfl h⟩
    conv => whnf
    try dsimp only
    exact h0 fun p _ hp' _ e _ => absurd e (out_np (by omega) hx hp')
theorem c_call {x v : Int32} (hc : i 13 6 = nI nn) (hn : nn ≤ 16) (hd : 3 ≤ d) (h1 : ∀ k, k < nn → x = nI k → Q (some (.int 1)) (KS, am_up i 19 k (vp_nar .boolean v))) (h0 : (x < 0 ∨ nI nn ≤ x) → Q (some (.int 0)) (KS, i)) : SP xl xs d Y_AM_call [.ref 0, .int x, .int v] (KS, i) Q := by
  obtain ⟨d, rfl⟩ : ∃ q, d = q + 1 := ⟨d - 1, by omega⟩
  refine ⟨Nat.le_of_ble_eq_true rfl, am_go (am_sp_mo _) (fun _ => false) 20 (fun X hX => ?_)⟩
  conv => whnf
  try dsimp only
  refine k_setCalled hc hn (by omega) (fun k a b => ?_) (fun h => ?_)
  · conv => whnf
    try dsimp only
    exact ⟨Or.inr rfl, h1 k a b⟩
  · conv => whnf
    try dsimp only
    exact ⟨Or.inl rfl, h0 h⟩
theorem c_advisory {x : Int32} (hp : i 1 5 = nI np) (hn : np ≤ 6) (hc : i 20 7 = nI na) (hm : na ≤ 12) (hd : 3 ≤ d)
    (h1 : ∀ p, p < np → x = nI p → na < 12 → Q (some (.int (nI na))) (KS, am_up (am_up (am_up i 21 na x) 51 na (nI na)) 20 7 (nI (na + 1))))
    (h0 : (∀ p, p < np → x = nI p → ¬ na < 12) → Q (some (.int (-1))) (KS, i)) : SP xl xs d Y_AM_advisory [.ref 0, .int x] (KS, i) Q := by
  obtain ⟨d, rfl⟩ : ∃ q, d = q + 1 := ⟨d - 1, by omega⟩
  refine ⟨Nat.le_of_ble_eq_true rfl, am_go (am_sp_mo _) (fun _ => false) 30 (fun X hX => ?_)⟩
  conv => whnf
  try dsimp only
  refine k_Packs_has np hp hn (by omega) (fun p hpp hx => ?_) (fun hx => ?_)
  · conv => whnf
    try dsimp only
    refine ⟨fun h => absurd h (by decide), fun _ => ?_⟩
    conv => whnf
    try dsimp only
    refine k_Adv_add hc hm (by omega) (fun h => ?_) (fun h => ?_)
    · conv => whnf
      try dsimp only
      exact h1 p hpp hx h
    · conv => whnf
      try dsimp only
      exact h0 fun _ _ _ => by omega
  · conv => whnf
    try dsimp only
    refine ⟨fun _ => ?_, fun h => absurd rfl h⟩
    conv => whnf
    try dsimp only
    exact h0 fun p hp' e => absurd e (out_np (by omega) hx hp')
theorem c_span {x f t : Int32} (hA : AK i na sp) (hd : 4 ≤ d)
    (h1 : ∀ a, a < na → x = nI a → ¬ f < 0 → (t = -1 ∨ f < t) → sp a < 3 → Q (some (.int 1)) (KS, am_up (am_up (am_up i (23 + a) (sp a) f) (36 + a) (sp a) t) 48 a (nI (sp a + 1))))
    (h0 : (∀ a, a < na → x = nI a → ¬ f < 0 → (t = -1 ∨ f < t) → ¬ sp a < 3) → Q (some (.int 0)) (KS, i)) : SP xl xs d Y_AM_span [.ref 0, .int x, .int f, .int t] (KS, i) Q := by
  obtain ⟨d, rfl⟩ : ∃ q, d = q + 1 := ⟨d - 1, by omega⟩
  refine ⟨Nat.le_of_ble_eq_true rfl, am_go (am_sp_mo _) (fun _ => false) 20 (fun X hX => ?_)⟩
  conv => whnf
  try dsimp only
  refine k_addSpan hA (by omega) (fun a b c e f g => ?_) (fun h => ?_)
  · conv => whnf
    try dsimp only
    exact ⟨Or.inr rfl, h1 a b c e f g⟩
  · conv => whnf
    try dsimp only
    exact ⟨Or.inl rfl, h0 h⟩
theorem c_withdraw {x v : Int32} (hc : i 20 7 = nI na) (hn : na ≤ 12) (hd : 4 ≤ d) (h1 : ∀ a, a < na → x = nI a → Q (some (.int 1)) (KS, am_up i 50 a (vp_nar .boolean v))) (h0 : (x < 0 ∨ nI na ≤ x) → Q (some (.int 0)) (KS, i)) : SP xl xs d Y_AM_withdraw [.ref 0, .int x, .int v] (KS, i) Q := by
  obtain ⟨d, rfl⟩ : ∃ q, d = q + 1 := ⟨d - 1, by omega⟩
  refine ⟨Nat.le_of_ble_eq_true rfl, am_go (am_sp_mo _) (fun _ => false) 20 (fun X hX => ?_)⟩
  conv => whnf
  try dsimp only
  refine k_setWithdrawn hc hn (by omega) (fun k a b => ?_) (fun h => ?_)
  · conv => whnf
    try dsimp only
    exact ⟨Or.inr rfl, h1 k a b⟩
  · conv => whnf
    try dsimp only
    exact ⟨Or.inl rfl, h0 h⟩
theorem c_group {x : Int32} (hc : i 20 7 = nI na) (hn : na ≤ 12) (hd : 4 ≤ d) (h1 : ∀ a, a < na → x = nI a → Q (some (.int (i 51 a))) (KS, i)) (h0 : (x < 0 ∨ nI na ≤ x) → Q (some (.int (-1))) (KS, i)) : SP xl xs d Y_AM_group [.ref 0, .int x] (KS, i) Q := by
  obtain ⟨d, rfl⟩ : ∃ q, d = q + 1 := ⟨d - 1, by omega⟩
  refine ⟨Nat.le_of_ble_eq_true rfl, am_go (am_sp_mo _) (fun _ => false) 20 (fun X hX => ?_)⟩
  conv => whnf
  try dsimp only
  refine k_groupOf hc hn (by omega) (fun k a b => ?_) (fun h => ?_)
  · conv => whnf
    try dsimp only
    exact h1 k a b
  · conv => whnf
    try dsimp only
    exact h0 h
theorem c_score {x : Int32} (hc : i 20 7 = nI na) (hn : na ≤ 12) (hd : 4 ≤ d) (h1 : ∀ a, a < na → x = nI a → Q (some (.int (i 49 a))) (KS, i)) (h0 : (x < 0 ∨ nI na ≤ x) → Q (some (.int (-1))) (KS, i)) : SP xl xs d Y_AM_score [.ref 0, .int x] (KS, i) Q := by
  obtain ⟨d, rfl⟩ : ∃ q, d = q + 1 := ⟨d - 1, by omega⟩
  refine ⟨Nat.le_of_ble_eq_true rfl, am_go (am_sp_mo _) (fun _ => false) 20 (fun X hX => ?_)⟩
  conv => whnf
  try dsimp only
  refine k_scoreOf hc hn (by omega) (fun k a b => ?_) (fun h => ?_)
  · conv => whnf
    try dsimp only
    exact h1 k a b
  · conv => whnf
    try dsimp only
    exact h0 h
theorem c_except {x y e : Int32} {gr : Nat → Nat} (hp : i 1 5 = nI np) (hn : np ≤ 6) (hc : i 20 7 = nI na) (hm : na ≤ 12) (hg : ∀ a, a < na → i 51 a = nI (gr a) ∧ gr a < 12) (hd : 4 ≤ d)
    (h1 : ∀ a p, a < na → p < np → x = nI a → y = nI p → ¬ e < 0 → Q (some (.int 1)) (KS, am_up i (54 + gr a) p e))
    (h0 : (∀ a p, a < na → p < np → x = nI a → y = nI p → e < 0) → Q (some (.int 0)) (KS, i)) : SP xl xs d Y_AM_except [.ref 0, .int x, .int y, .int e] (KS, i) Q := by
  obtain ⟨d, rfl⟩ : ∃ q, d = q + 1 := ⟨d - 1, by omega⟩
  refine ⟨Nat.le_of_ble_eq_true rfl, am_go (am_sp_mo _) (fun _ => false) 40 (fun X hX => ?_)⟩
  conv => whnf
  try dsimp only
  refine k_Adv_has hc hm (by omega) (fun a ha hx => ?_) (fun hx => ?_)
  · conv => whnf
    try dsimp only
    refine ⟨fun h => absurd h (by decide), fun _ => ?_⟩
    conv => whnf
    try dsimp only
    refine k_Packs_has np hp hn (by omega) (fun p hpp hy => ?_) (fun hy => ?_)
    · conv => whnf
      try dsimp only
      refine ⟨fun h => absurd h (by decide), fun _ => ?_⟩
      conv => whnf
      try dsimp only
      refine ⟨fun he => ?_, fun he => ?_⟩
      · conv => whnf
        try dsimp only
        refine k_groupOf hc hm (by omega) (fun a' ha' hx' => ?_) (fun hx' => absurd hx (out_np (by omega) hx' ha))
        have := nI_inj (by omega) (by omega) (hx'.symm.trans hx)
        subst this
        conv => whnf
        try dsimp only
        rw [(hg a' ha).1, hy]
        refine k_exPut (hg a' ha).2 (by omega) (by omega) ?_
        conv => whnf
        try dsimp only
        exact ⟨Or.inr rfl, h1 a' p ha hpp hx hy (by rw [Int32.lt_iff_toInt_lt]; rw [Int32.le_iff_toInt_le] at he; omega)⟩
      · conv => whnf
        try dsimp only
        exact ⟨Or.inl rfl, h0 fun _ _ _ _ _ _ => by rw [Int32.lt_iff_toInt_lt]; rw [Int32.le_iff_toInt_le] at he; omega⟩
    · conv => whnf
      try dsimp only
      refine ⟨fun _ => ?_, fun h => absurd rfl h⟩
      conv => whnf
      try dsimp only
      exact ⟨Or.inl rfl, h0 fun _ p _ hp' _ e' => absurd e' (out_np (by omega) hy hp')⟩
  · conv => whnf
    try dsimp only
    refine ⟨fun _ => ?_, fun h => absurd rfl h⟩
    conv => whnf
    try dsimp only
    exact ⟨Or.inl rfl, h0 fun a _ ha' _ e' => absurd e' (out_np (by omega) hx ha')⟩
theorem c_tick {x : Int32} {c : Nat} (hc : i 0 8 = nI c) (hm : c ≤ 1000000000) (hd : 1 ≤ d)
    (h1 : ∀ n, n ≤ 1000000 → x = nI n → c + n ≤ 1000000000 → Q (some (.int (nI (c + n)))) (KS, am_up i 0 8 (nI (c + n))))
    (h0 : (∀ n, n ≤ 1000000 → x = nI n → ¬ c + n ≤ 1000000000) → Q (some (.int (-1))) (KS, i)) : SP xl xs d Y_AM_tick [.ref 0, .int x] (KS, i) Q := by
  have tM : (Int32.ofInt 1000000).toInt = 1000000 := by decide
  obtain ⟨d, rfl⟩ : ∃ q, d = q + 1 := ⟨d - 1, by omega⟩
  refine ⟨Nat.le_of_ble_eq_true rfl, am_go (am_sp_mo _) (fun _ => false) 40 (fun X hX => ?_)⟩
  conv => whnf
  try dsimp only
  refine ⟨fun hx => ?_, fun hx => ?_⟩
  · conv => whnf
    try dsimp only
    exact h0 fun n hn e => absurd hx (by rw [e]; exact nI_pos (by omega))
  conv => whnf
  try dsimp only
  refine ⟨fun hx2 => ?_, fun hx2 => ?_⟩
  · conv => whnf
    try dsimp only
    refine h0 fun n hn e => absurd hx2 ?_
    rw [e, li_M]
    exact nI_nlt (by omega) (by omega)
  obtain ⟨n, hn, rfl⟩ : ∃ n, n ≤ 1000000 ∧ x = nI n := by
    rcases pk_ix x (n := 1000001) (by decide) with q | q | ⟨k, hk, e⟩
    · exact absurd q hx
    · refine absurd ?_ hx2
      rw [Int32.lt_iff_toInt_lt, tM]
      rw [Int32.le_iff_toInt_le, show (nI 1000001).toInt = 1000001 by decide] at q
      omega
    · exact ⟨k, by omega, e⟩
  conv => whnf
  try dsimp only
  rw [hc, li_G, pk_sub hm]
  refine ⟨fun hh => ?_, fun hh => ?_⟩
  · have hle : c + n ≤ 1000000000 := by
      have := (nI_leI (by omega) (by omega)).mp hh
      omega
    conv => whnf
    try dsimp only
    refine q_eq ?_ ?_ (h1 n hn rfl hle)
    · rw [up_s, hc, nI_add]
    · rw [hc, nI_add]
  · conv => whnf
    try dsimp only
    refine h0 fun n' hn' e => ?_
    have := nI_inj (by omega) (by omega) e
    subst this
    intro hle
    exact hh (nI_le (by omega) (by omega))
theorem c_hit {nh : Nat} {x y : Int32} (hc : i 70 1 = nI nh) (hn : nh ≤ 12) (hd : 3 ≤ d) (h1 : ∀ q w, q < nh → w < 6 → x = nI q → y = nI w → Q (some (.int (i (72 + q) w))) (KS, i)) (h0 : (∀ q w, q < nh → w < 6 → ¬ (x = nI q ∧ y = nI w)) → Q (some (.int (-1))) (KS, i)) : SP xl xs d Y_AM_hit [.ref 0, .int x, .int y] (KS, i) Q := by
  obtain ⟨d, rfl⟩ : ∃ q, d = q + 1 := ⟨d - 1, by omega⟩
  refine ⟨Nat.le_of_ble_eq_true rfl, am_go (am_sp_mo _) (fun _ => false) 20 (fun X hX => ?_)⟩
  conv => whnf
  try dsimp only
  refine k_hlPart hc hn (by omega) (fun q w a b c e => ?_) (fun h => ?_)
  · conv => whnf
    try dsimp only
    exact h1 q w a b c e
  · conv => whnf
    try dsimp only
    exact h0 h
theorem c_broken (hN : NK i nn) (hd : 4 ≤ d) (h : Q (some (.int (nI (bcnt (cbrk i (i 12)) nn)))) (KS, i)) : SP xl xs d Y_AM_broken [.ref 0] (KS, i) Q := by
  obtain ⟨d, rfl⟩ : ∃ q, d = q + 1 := ⟨d - 1, by omega⟩
  refine ⟨Nat.le_of_ble_eq_true rfl, am_go (am_sp_mo _) (fun _ => false) 20 (fun X hX => ?_)⟩
  conv => whnf
  try dsimp only
  refine k_installedVersions (by omega) ?_
  conv => whnf
  try dsimp only
  refine k_countBroken rfl hN (by omega) ?_
  conv => whnf
  try dsimp only
  exact h
theorem c_planned {x : Int32} (hd : 3 ≤ d) (h1 : ∀ p, p < 6 → x = nI p → Q (some (.int (i 88 p))) (KS, i)) (h0 : (x < 0 ∨ nI 6 ≤ x) → Q (some (.int (-1))) (KS, i)) : SP xl xs d Y_AM_planned [.ref 0, .int x] (KS, i) Q := by
  obtain ⟨d, rfl⟩ : ∃ q, d = q + 1 := ⟨d - 1, by omega⟩
  refine ⟨Nat.le_of_ble_eq_true rfl, am_go (am_sp_mo _) (fun _ => false) 20 (fun X hX => ?_)⟩
  conv => whnf
  try dsimp only
  have k_placeFor : ∀ {d : Nat} {Q : am_Q}, 2 ≤ d → (∀ p, p < 6 → x = nI p → Q (some (.int (i 88 p))) (KS, i)) → ((x < 0 ∨ nI 6 ≤ x) → Q (some (.int (-1))) (KS, i)) → SP xl xs d Y_Planner_placeFor [.ref 84, .int x] (KS, i) Q := by
    intro d Q hd h1 h0
    obtain ⟨d, rfl⟩ : ∃ q, d = q + 1 := ⟨d - 1, by omega⟩
    refine ⟨Nat.le_of_ble_eq_true rfl, am_go (am_sp_mo _) (fun _ => false) 20 (fun X hX => ?_)⟩
    conv => whnf
    try dsimp only
    refine k_below 6 li_6 (by decide) (by omega) (fun p hp hx => ?_) (fun hx => ?_)
    · conv => whnf
      try dsimp only
      refine ⟨fun h => absurd h (by decide), fun _ => ?_⟩
      conv => whnf
      try dsimp only
      refine ⟨6, [], rfl, by rw [hx]; exact vp_in_nI (by omega) (by decide), ?_⟩
      conv => whnf
      try dsimp only
      exact q_eq (by rw [hx, nI_clamp (by omega)]) rfl (h1 p hp hx)
    · conv => whnf
      try dsimp only
      refine ⟨fun _ => ?_, fun h => absurd rfl h⟩
      conv => whnf
      try dsimp only
      exact h0 hx
  refine k_placeFor (by omega) (fun p a b => ?_) (fun h => ?_)
  · conv => whnf
    try dsimp only
    exact h1 p a b
  · conv => whnf
    try dsimp only
    exact h0 h
end CALLS
