/-! PLANS: the class's small methods -/
def kpt (o t : Nat → Int32) (B : Nat → Bool) (nn p : Nat) : Bool := !(bany (fun k => decide ((if o k < t k then t k else o k) = nI p) && B k) nn)
/-- no advisory strikes there, or only excepted ones -/
def cclr (i : Nat → Nat → Int32) (sp gr : Nat → Nat) (na p : Nat) (v : Int32) : Bool := !(bany (fun a => cstk i sp (nI p) v a && !(decide (i 0 8 < i (54 + gr a) p))) na)
def ndist (k z : Nat) : Nat := (k - z) + (z - k)
theorem abs_nI : ∀ k, k < 5 → ∀ z, z < 5 → (if 0 ≤ nI k - nI z then nI k - nI z else 0 - (nI k - nI z)) = nI (ndist k z) := by decide
section PLAN
variable {xl : Nat} {xs : Nat → Int32} {d : Nat} {i : Nat → Nat → Int32} {Q : am_Q} {u : am_St} {np nn na : Nat} {nv sp gr : Nat → Nat}
theorem k_areKept {a p : Nat} (ha : KS[a]? = some (0, 6, [])) (hN : NK i nn) (hd : 3 ≤ d) (h : ∀ b : Bool, b = kpt (i 14) (i 16) (cbrk i (i a)) nn p → Q (some (.int (if b = true then 1 else 0))) (KS, i)) : SP xl xs d Y_Needs_areKept [.ref 13, .int (nI p), .ref a] (KS, i) Q := by
  have hc := hN.1
  have hn := hN.2.1
  obtain ⟨d, rfl⟩ : ∃ q, d = q + 1 := ⟨d - 1, by omega⟩
  refine ⟨Nat.le_of_ble_eq_true rfl, am_go (am_sp_mo _) (fun q => q == 2) 30 (fun X hX => ?_)⟩
  conv => whnf
  try dsimp only
  refine hX _ _ _ _ _ _ ?_
  have loop : ∀ m k, k + m = nn → bany (fun k => decide ((if i 14 k < i 16 k then i 16 k else i 14 k) = nI p) && cbrk i (i a) k) k = false → am_wp (ax_E xl xs) (ax_cd Y_Needs_areKept) (am_sp (ax_E xl xs) ax_cd ax_ml d) Q 2 [some (.ref 13), some (.int (nI p)), some (.ref a), some (.int (nI k))] [] (KS, i) 0 0 := by
    intro m
    induction m with
    | zero =>
      intro k hk hno
      have : k = nn := by omega
      subst this
      refine am_go (am_sp_mo _) (fun q => q == 2) 30 (fun X hX => ?_)
      conv => whnf
      try dsimp only
      rw [hc]
      refine ⟨fun _ => ?_, fun hh => absurd (nI_le (Nat.le_refl _) (by omega)) hh⟩
      conv => whnf
      try dsimp only
      exact ⟨Or.inr rfl, h true (by unfold kpt; rw [hno]; rfl)⟩
    | succ m ih =>
      intro k hk hno
      have hcl : (nI k).toNatClampNeg = k := nI_clamp (by omega)
      have hin : vp_in (nI k) 16 := vp_in_nI (by omega) (by decide)
      have nx : (decide ((if i 14 k < i 16 k then i 16 k else i 14 k) = nI p) && cbrk i (i a) k) = false → am_wp (ax_E xl xs) (ax_cd Y_Needs_areKept) (am_sp (ax_E xl xs) ax_cd ax_ml d) Q 40 [some (.ref 13), some (.int (nI p)), some (.ref a), some (.int (nI k))] [] (KS, i) 0 0 := by
        intro e
        refine am_go (am_sp_mo _) (fun q => q == 2) 20 (fun X hX => ?_)
        conv => whnf
        try dsimp only
        rw [show nI k + Int32.ofInt 1 = nI (k + 1) by rw [li_1, nI_add]]
        exact hX _ _ _ _ _ _ (ih (k + 1) (by omega) (by rw [bany, hno, e]; rfl))
      refine am_go (am_sp_mo _) (fun q => q == 2 || q == 40) 40 (fun X hX => ?_)
      conv => whnf
      try dsimp only
      rw [hc]
      refine ⟨fun hh => absurd hh (nI_ge (by omega) (by omega)), fun _ => ?_⟩
      conv => whnf
      try dsimp only
      refine ⟨16, [], rfl, hin, ?_⟩
      conv => whnf
      try dsimp only
      refine ⟨16, [], rfl, hin, ?_⟩
      conv => whnf
      try dsimp only
      rw [hcl]
      refine ⟨fun hne => hX _ _ _ _ _ _ (nx (by rw [decide_eq_false hne]; rfl)), fun heq => ?_⟩
      conv => whnf
      try dsimp only
      refine k_nBroken ha hN (by omega) (by omega) (fun b hb => ?_)
      cases b with
      | false =>
        conv => whnf
        try dsimp only
        exact ⟨fun _ => hX _ _ _ _ _ _ (nx (by rw [← hb, Bool.and_false])), fun h => absurd rfl h⟩
      | true =>
        conv => whnf
        try dsimp only
        refine ⟨fun h => absurd h (by decide), fun _ => ?_⟩
        conv => whnf
        try dsimp only
        exact ⟨Or.inl rfl, h false (by unfold kpt; rw [bany_of (show k < nn by omega) (by show (decide ((if i 14 k < i 16 k then i 16 k else i 14 k) = nI p) && cbrk i (i a) k) = true; rw [decide_eq_true heq, ← hb]; rfl)]; rfl)⟩
  exact loop nn 0 (by omega) rfl
theorem k_markPlace {p k : Nat} {v : Int32} (hp : p < 6) (hk : k < 5) (hd : 2 ≤ d) (h : Q none (KS, am_up i 85 (5 * p + k) (vp_nar .boolean v))) : SP xl xs d Y_Planner_markPlace [.ref 84, .int (nI p), .int (nI k), .int v] (KS, i) Q := by
  have e5 : nI p * Int32.ofInt 5 + nI k = nI (5 * p + k) := by rw [li_5, pk_mul, nI_add, Nat.mul_comm]
  obtain ⟨d, rfl⟩ : ∃ q, d = q + 1 := ⟨d - 1, by omega⟩
  refine ⟨Nat.le_of_ble_eq_true rfl, am_go (am_sp_mo _) (fun _ => false) 40 (fun X hX => ?_)⟩
  conv => whnf
  try dsimp only
  refine k_below 6 (by decide) (by decide) (by omega) (fun p' _ hx => ?_) (fun hx => absurd rfl (out_np (by omega) hx hp))
  conv => whnf
  try dsimp only
  refine ⟨fun h => absurd h (by decide), fun _ => ?_⟩
  conv => whnf
  try dsimp only
  refine k_below 5 (by decide) (by decide) (by omega) (fun k' _ hx => ?_) (fun hx => absurd rfl (out_np (by omega) hx hk))
  conv => whnf
  try dsimp only
  refine ⟨fun h => absurd h (by decide), fun _ => ?_⟩
  conv => whnf
  try dsimp only
  rw [e5]
  refine ⟨30, [], rfl, vp_in_nI (by omega) (by decide), ?_⟩
  conv => whnf
  try dsimp only
  rw [nI_clamp (by omega)]
  exact h
theorem k_isClearPlace {p k : Nat} (hp : p < 6) (hk : k < 5) (hb : ∀ q, i 85 q = 0 ∨ i 85 q = 1) (hd : 2 ≤ d) (h : ∀ b : Bool, b = decide (i 85 (5 * p + k) = 1) → Q (some (.int (if b = true then 1 else 0))) (KS, i)) : SP xl xs d Y_Planner_isClearPlace [.ref 84, .int (nI p), .int (nI k)] (KS, i) Q := by
  have e5 : nI p * Int32.ofInt 5 + nI k = nI (5 * p + k) := by rw [li_5, pk_mul, nI_add, Nat.mul_comm]
  obtain ⟨d, rfl⟩ : ∃ q, d = q + 1 := ⟨d - 1, by omega⟩
  refine ⟨Nat.le_of_ble_eq_true rfl, am_go (am_sp_mo _) (fun _ => false) 40 (fun X hX => ?_)⟩
  conv => whnf
  try dsimp only
  refine k_below 6 (by decide) (by decide) (by omega) (fun p' _ hx => ?_) (fun hx => absurd rfl (out_np (by omega) hx hp))
  conv => whnf
  try dsimp only
  refine ⟨fun h => absurd h (by decide), fun _ => ?_⟩
  conv => whnf
  try dsimp only
  refine k_below 5 (by decide) (by decide) (by omega) (fun k' _ hx => ?_) (fun hx => absurd rfl (out_np (by omega) hx hk))
  conv => whnf
  try dsimp only
  refine ⟨fun h => absurd h (by decide), fun _ => ?_⟩
  conv => whnf
  try dsimp only
  rw [e5]
  refine ⟨30, [], rfl, vp_in_nI (by omega) (by decide), ?_⟩
  conv => whnf
  try dsimp only
  rw [nI_clamp (show 5 * p + k < 2 ^ 31 by omega)]
  rcases hb (5 * p + k) with e | e
  · rw [e] at h ⊢
    refine ⟨fun _ => ?_, fun h => absurd rfl h⟩
    conv => whnf
    try dsimp only
    exact ⟨Or.inl rfl, h false (by decide)⟩
  · rw [e] at h ⊢
    refine ⟨fun h => absurd h (by decide), fun _ => ?_⟩
    conv => whnf
    try dsimp only
    exact ⟨Or.inr rfl, h true (by decide)⟩
theorem k_costOf {z k : Nat} (hz : z < 5) (hk : k < 5) (hd : 1 ≤ d) (h : Q (some (.int (nI (if k = z then 0 else 30 + ndist k z)))) u) : SP xl xs d Y_Planner_costOf [.int (nI z), .int (nI k)] u Q := by
  obtain ⟨d, rfl⟩ : ∃ q, d = q + 1 := ⟨d - 1, by omega⟩
  refine ⟨Nat.le_of_ble_eq_true rfl, am_go (am_sp_mo _) (fun _ => false) 20 (fun X hX => ?_)⟩
  conv => whnf
  try dsimp only
  refine ⟨fun hne => ?_, fun heq => ?_⟩
  · conv => whnf
    try dsimp only
    rw [if_neg (fun e => hne (by rw [e]))] at h
    exact q_eq (show some (Value.int (Int32.ofInt 30 + (if 0 ≤ nI k - nI z then nI k - nI z else 0 - (nI k - nI z)))) = _ by rw [abs_nI k hk z hz, li_30, nI_add]) rfl h
  · conv => whnf
    try dsimp only
    rw [if_pos (nI_inj (by omega) (by omega) heq).symm] at h
    exact h
theorem k_keepTried {x : Int32} (hd : 1 ≤ d) (h : ∀ j : Nat → Nat → Int32, (∀ q, q ≠ 84 → q ≠ 88 → j q = i q) → (∀ q, j 84 q = if q = 6 then x else i 84 q) → (∀ p, p < 6 → j 88 p = i 86 p) → Q none (KS, j)) : SP xl xs d Y_Planner_keepTried [.ref 84, .int x] (KS, i) Q := by
  obtain ⟨d, rfl⟩ : ∃ q, d = q + 1 := ⟨d - 1, by omega⟩
  refine ⟨Nat.le_of_ble_eq_true rfl, am_go (am_sp_mo _) (fun _ => false) 20 (fun X hX => ?_)⟩
  conv => whnf
  try dsimp only
  refine ⟨rfl, 6, [], 6, [], rfl, rfl, by decide, by decide, by decide, by decide, by decide, ?_⟩
  conv => whnf
  try dsimp only
  refine h _ (fun q q1 q2 => ?_) (fun q => ?_) (fun p hp => ?_)
  · unfold am_cp
    rw [if_neg q2]
    exact up_a q1
  · show am_up i 84 6 x 84 q = _
    rw [up_at]
    by_cases e : q = 6
    · rw [if_pos ⟨rfl, e⟩, if_pos e]
    · rw [if_neg e, if_neg (fun z => e z.2)]
  · show va_cpy (am_up i 84 6 x 86) (am_up i 84 6 x 88) 0 0 6 p = _
    unfold va_cpy
    rw [if_pos (by omega), up_a (by decide), show 0 + (p - 0) = p by omega]
theorem k_isClear {p : Nat} {v : Int32} (hp : p < 6) (hA : AK i na sp) (hw : ∀ a, i 50 a = 0 ∨ i 50 a = 1) (hg : ∀ a, a < na → i 51 a = nI (gr a) ∧ gr a < 12) (hd : 4 ≤ d) (h : ∀ b : Bool, b = cclr i sp gr na p v → Q (some (.int (if b = true then 1 else 0))) (KS, i)) : SP xl xs d Y_AM_isClear [.ref 0, .int (nI p), .int v] (KS, i) Q := by
  have hc := hA.1
  have hn := hA.2.1
  obtain ⟨d, rfl⟩ : ∃ q, d = q + 1 := ⟨d - 1, by omega⟩
  refine ⟨Nat.le_of_ble_eq_true rfl, am_go (am_sp_mo _) (fun q => q == 2) 30 (fun X hX => ?_)⟩
  conv => whnf
  try dsimp only
  refine hX _ _ _ _ _ _ ?_
  have loop : ∀ m k, k + m = na → bany (fun a => cstk i sp (nI p) v a && !(decide (i 0 8 < i (54 + gr a) p))) k = false → am_wp (ax_E xl xs) (ax_cd Y_AM_isClear) (am_sp (ax_E xl xs) ax_cd ax_ml d) Q 2 [some (.ref 0), some (.int (nI p)), some (.int v), some (.int (nI k))] [] (KS, i) 0 0 := by
    intro m
    induction m with
    | zero =>
      intro k hk hno
      have : k = na := by omega
      subst this
      refine am_go (am_sp_mo _) (fun q => q == 2) 30 (fun X hX => ?_)
      conv => whnf
      try dsimp only
      refine k_Adv_count (by omega) ?_
      conv => whnf
      try dsimp only
      rw [hc]
      refine ⟨fun _ => ?_, fun hh => absurd (nI_le (Nat.le_refl _) (by omega)) hh⟩
      conv => whnf
      try dsimp only
      exact ⟨Or.inr rfl, h true (by unfold cclr; rw [hno]; rfl)⟩
    | succ m ih =>
      intro k hk hno
      have nx : (cstk i sp (nI p) v k && !(decide (i 0 8 < i (54 + gr k) p))) = false → am_wp (ax_E xl xs) (ax_cd Y_AM_isClear) (am_sp (ax_E xl xs) ax_cd ax_ml d) Q 51 [some (.ref 0), some (.int (nI p)), some (.int v), some (.int (nI k))] [] (KS, i) 0 0 := by
        intro e
        refine am_go (am_sp_mo _) (fun q => q == 2) 20 (fun X hX => ?_)
        conv => whnf
        try dsimp only
        rw [show nI k + Int32.ofInt 1 = nI (k + 1) by rw [li_1, nI_add]]
        exact hX _ _ _ _ _ _ (ih (k + 1) (by omega) (by rw [bany, hno, e]; rfl))
      refine am_go (am_sp_mo _) (fun q => q == 2 || q == 51) 40 (fun X hX => ?_)
      conv => whnf
      try dsimp only
      refine k_Adv_count (by omega) ?_
      conv => whnf
      try dsimp only
      rw [hc]
      refine ⟨fun hh => absurd hh (nI_ge (by omega) (by omega)), fun _ => ?_⟩
      conv => whnf
      try dsimp only
      refine k_strikes hA hw (by omega) (by omega) (fun b hb => ?_)
      cases b with
      | false =>
        conv => whnf
        try dsimp only
        exact ⟨fun _ => hX _ _ _ _ _ _ (nx (by rw [← hb]; rfl)), fun h => absurd rfl h⟩
      | true =>
        have hgk := hg k (by omega)
        conv => whnf
        try dsimp only
        refine ⟨fun h => absurd h (by decide), fun _ => ?_⟩
        conv => whnf
        try dsimp only
        refine k_groupOf hc hn (by omega) (fun k' _ hx => ?_) (fun hx => absurd rfl (out_np (by omega) hx (show k < na by omega)))
        have := nI_inj (by omega) (by omega) hx
        subst this
        conv => whnf
        try dsimp only
        rw [hgk.1]
        refine k_exHolds hgk.2 hp (by omega) (fun b2 hb2 => ?_)
        cases b2 with
        | false =>
          conv => whnf
          try dsimp only
          refine ⟨fun h => absurd rfl h, fun _ => ?_⟩
          conv => whnf
          try dsimp only
          exact ⟨Or.inl rfl, h false (by unfold cclr; rw [bany_of (show k < na by omega) (by show (cstk i sp (nI p) v k && !(decide (i 0 8 < i (54 + gr k) p))) = true; rw [← hb, ← hb2]; rfl)]; rfl)⟩
        | true =>
          conv => whnf
          try dsimp only
          exact ⟨fun _ => hX _ _ _ _ _ _ (nx (by rw [← hb, ← hb2]; rfl)), fun h => absurd h (by decide)⟩
  exact loop na 0 (by omega) rfl
theorem k_markPlacesOf {p : Nat} {I : Nat → Nat → Int32} (hf : ∀ q, q ≠ 85 → i q = I q) (hk : PK I np nv) (hp : p < np) (hA : AK I na sp) (hw : ∀ a, I 50 a = 0 ∨ I 50 a = 1) (hg : ∀ a, a < na → I 51 a = nI (gr a) ∧ gr a < 12) (hd : 5 ≤ d)
    (h : ∀ j : Nat → Nat → Int32, (∀ q, q ≠ 85 → j q = I q) → (∀ q, j 85 q = if 5 * p ≤ q ∧ q < 5 * p + nv p then (if cclr I sp gr na p (I (4 + p) (q - 5 * p)) = true then 1 else 0) else i 85 q) → Q none (KS, j)) : SP xl xs d Y_AM_markPlacesOf [.ref 0, .int (nI p)] (KS, i) Q := by
  have hn := hk.2.1
  have h5 := (hk.2.2 p (by omega)).2
  obtain ⟨d, rfl⟩ : ∃ q, d = q + 1 := ⟨d - 1, by omega⟩
  refine ⟨Nat.le_of_ble_eq_true rfl, am_go (am_sp_mo _) (fun q => q == 2) 30 (fun X hX => ?_)⟩
  conv => whnf
  try dsimp only
  refine hX _ _ _ _ _ _ ?_
  have loop : ∀ m k (j : Nat → Nat → Int32), k + m = nv p → (∀ q, q ≠ 85 → j q = I q) → (∀ q, j 85 q = if 5 * p ≤ q ∧ q < 5 * p + k then (if cclr I sp gr na p (I (4 + p) (q - 5 * p)) = true then 1 else 0) else i 85 q) → am_wp (ax_E xl xs) (ax_cd Y_AM_markPlacesOf) (am_sp (ax_E xl xs) ax_cd ax_ml d) Q 2 [some (.ref 0), some (.int (nI p)), some (.int (nI k))] [] (KS, j) 0 0 := by
    intro m
    induction m with
    | zero =>
      intro k j hkk h1 h2
      have : k = nv p := by omega
      subst this
      refine am_go (am_sp_mo _) (fun q => q == 2) 30 (fun X hX => ?_)
      conv => whnf
      try dsimp only
      refine k_countVersions (hk.fr (h1 1 (by decide)) (h1 10 (by decide))) (by omega) (fun p' hp' ep => ?_) (fun hx => absurd rfl (out_np (by omega) hx hp))
      have := nI_inj (by omega) (by omega) ep
      subst this
      conv => whnf
      try dsimp only
      refine ⟨fun _ => ?_, fun hh => absurd (nI_le (Nat.le_refl _) (by omega)) hh⟩
      conv => whnf
      try dsimp only
      exact h j h1 h2
    | succ m ih =>
      intro k j hkk h1 h2
      have hkj : PK j np nv := hk.fr (h1 1 (by decide)) (h1 10 (by decide))
      have hcl : cclr j sp gr na p (j (4 + p) k) = cclr I sp gr na p (I (4 + p) k) := by
        unfold cclr
        rw [h1 (4 + p) (by omega)]
        refine congrArg _ (bany_congr fun a ha => ?_)
        have hga := hg a ha
        have hna := hA.2.1
        unfold cstk stk chas
        rw [h1 21 (by decide), h1 50 (by decide), h1 (23 + a) (by omega), h1 (36 + a) (by omega), h1 0 (by decide), h1 (54 + gr a) (by omega)]
      refine am_go (am_sp_mo _) (fun q => q == 2) 40 (fun X hX => ?_)
      conv => whnf
      try dsimp only
      refine k_countVersions hkj (by omega) (fun p' hp' ep => ?_) (fun hx => absurd rfl (out_np (by omega) hx hp))
      have := nI_inj (by omega) (by omega) ep
      subst this
      conv => whnf
      try dsimp only
      refine ⟨fun hh => absurd hh (nI_ge (by omega) (by omega)), fun _ => ?_⟩
      conv => whnf
      try dsimp only
      refine k_versionAt hkj (by omega) (fun p2 k2 hp2 hk2 e1 e2 => ?_) (fun hno => absurd ⟨rfl, rfl⟩ (hno p k hp (by omega)))
      have := nI_inj (by omega) (by omega) e1
      subst this
      have := nI_inj (by omega) (by have := (hk.2.2 p (by omega)).2; omega) e2
      subst this
      conv => whnf
      try dsimp only
      refine k_isClear (by omega) (hA.fr (h1 20 (by decide)) (h1 48 (by decide))) (by rw [h1 50 (by decide)]; exact hw) (by rw [h1 51 (by decide)]; exact hg) (by omega) (fun b hb => ?_)
      rw [hcl] at hb
      conv => whnf
      try dsimp only
      refine k_markPlace (by omega) (by omega) (by omega) ?_
      conv => whnf
      try dsimp only
      rw [show nI k + Int32.ofInt 1 = nI (k + 1) by rw [li_1, nI_add]]
      refine hX _ _ _ _ _ _ (ih (k + 1) _ (by omega) (fun q hq => (up_a hq).trans (h1 q hq)) (fun q => ?_))
      have hval : vp_nar .boolean (if b = true then 1 else 0) = (if cclr I sp gr na p (I (4 + p) k) = true then 1 else 0) := by rw [← hb]; cases b <;> decide
      rw [hval, up_at, h2]
      by_cases e : q = 5 * p + k
      · rw [if_pos (show 85 = 85 ∧ q = 5 * p + k from ⟨rfl, e⟩), if_pos (show 5 * p ≤ q ∧ q < 5 * p + (k + 1) by omega), e, show 5 * p + k - 5 * p = k by omega]
      · rw [if_neg (fun z : 85 = 85 ∧ q = 5 * p + k => e z.2)]
        by_cases e2 : 5 * p ≤ q ∧ q < 5 * p + k
        · rw [if_pos e2, if_pos (show 5 * p ≤ q ∧ q < 5 * p + (k + 1) by omega)]
        · rw [if_neg e2, if_neg (show ¬ (5 * p ≤ q ∧ q < 5 * p + (k + 1)) by omega)]
  exact loop (nv p) 0 i (by omega) hf (fun q => by rw [if_neg (by omega)])
end PLAN
