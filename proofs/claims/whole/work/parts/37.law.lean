/-! THE LAW'S OWN BODY -/
theorem nI_00 : (0 : Int32) = nI 0 := by decide
theorem inv_0 {j : Nat → Nat → Int32} (z : ∀ q k, [11, 12, 66, 67, 68, 69, 84, 87, 88, 93, 107, 114].contains q = false → j q k = 0) (h11 : ∀ k, k < 6 → j 11 k = -1) (h12 : ∀ k, k < 6 → j 12 k = -1) (h68 : j 68 2 = 1) (h66 : j 66 2 = 0) (h84 : j 84 7 = 0) (h88 : ∀ k, k < 6 → j 88 k = -1) (h93 : ∀ k, k < 6 → j 93 k = -1) (h107 : ∀ k, k < 72 → j 107 k = -1) (h114 : ∀ k, k < 6 → j 114 k = -1) : INV j := by
  refine ⟨0, fun _ => 0, 0, 0, fun _ => 0, fun _ => 0, fun _ _ => 0, 0, 0, ?_, ?_, ?_, ?_, ?_, ?_, ?_, ?_, ?_, ?_, ?_⟩
  · exact ⟨(z 1 5 rfl).trans (by decide), (z 89 1 rfl).trans (by decide), by decide, fun p _ => ⟨(z 10 p rfl).trans nI_00, (z 91 p rfl).trans nI_00, Nat.zero_le _⟩, funext fun p => (z 2 p rfl).trans (z 90 p rfl).symm, fun p => Or.inl (z 2 p rfl), fun p k hp _ => (z (4 + p) k ((show ∀ p, p < 6 → [11, 12, 66, 67, 68, 69, 84, 87, 88, 93, 107, 114].contains (4 + p) = false by decide) p hp)).trans (z 92 _ rfl).symm, fun q _ => by rw [z 92 q rfl]; decide⟩
  · exact ⟨fun p hp => (h11 p hp).trans (h93 p hp).symm, fun p hp => absurd hp (Nat.not_lt_zero p), fun p _ hp => h93 p hp, fun p hp => by rw [h12 p hp]; unfold wv; rw [if_pos (h93 p hp)]⟩
  · exact ⟨(z 13 6 rfl).trans (by decide), (z 89 6 rfl).trans (by decide), by decide, ⟨funext fun k => (z 14 k rfl).trans (z 94 k rfl).symm, funext fun k => (z 15 k rfl).trans (z 95 k rfl).symm, funext fun k => (z 16 k rfl).trans (z 96 k rfl).symm, funext fun k => (z 17 k rfl).trans (z 97 k rfl).symm, funext fun k => (z 18 k rfl).trans (z 98 k rfl).symm, funext fun k => (z 19 k rfl).trans (z 99 k rfl).symm⟩, fun k hk => absurd hk (Nat.not_lt_zero k), fun k => Or.inl (z 19 k rfl)⟩
  · exact ⟨(z 20 7 rfl).trans (by decide), (z 89 13 rfl).trans (by decide), by decide, funext fun k => (z 21 k rfl).trans (z 100 k rfl).symm, fun k hk => absurd hk (Nat.not_lt_zero k), fun a _ => ⟨(z 48 a rfl).trans nI_00, (z 101 a rfl).trans nI_00, Nat.zero_le _⟩, funext fun k => (z 50 k rfl).trans (z 105 k rfl).symm, fun a => Or.inl (z 50 a rfl), funext fun k => (z 51 k rfl).trans (z 106 k rfl).symm, fun k hk => absurd hk (Nat.not_lt_zero k)⟩
  · exact fun a k ha _ => ⟨(z (23 + a) k ((show ∀ p, p < 12 → [11, 12, 66, 67, 68, 69, 84, 87, 88, 93, 107, 114].contains (23 + p) = false by decide) a ha)).trans (z 102 _ rfl).symm, (z (36 + a) k ((show ∀ p, p < 12 → [11, 12, 66, 67, 68, 69, 84, 87, 88, 93, 107, 114].contains (36 + p) = false by decide) a ha)).trans (z 103 _ rfl).symm⟩
  · exact ⟨fun a _ k _ => ⟨(z 104 _ rfl).trans nI_00, (by decide : (0 : Nat) < 4)⟩, fun a _ => ⟨(z 49 a rfl).trans sco_0.symm, by rw [z 49 a rfl]; decide⟩⟩
  · exact fun g hg _ p hp => Or.inl ⟨h107 _ (by omega), z (54 + g) p ((show ∀ p, p < 12 → [11, 12, 66, 67, 68, 69, 84, 87, 88, 93, 107, 114].contains (54 + p) = false by decide) g hg)⟩
  · exact ⟨(z 0 8 rfl).trans (by decide), (z 89 0 rfl).trans (by decide), by decide⟩
  · exact ⟨(z 70 1 rfl).trans (by decide), (z 89 22 rfl).trans (by decide), by decide, fun q _ hq => absurd hq (Nat.not_lt_zero q)⟩
  · exact ⟨h84.trans (z 89 29 rfl).symm, Or.inl h84, fun p hp => (h88 p hp).trans (h114 p hp).symm, fun p hp => absurd hp (Nat.not_lt_zero p), fun p _ hp => h114 p hp⟩
  · exact ⟨h66, h68, fun q => Or.inl (z 85 q rfl), fun q => Or.inl (z 110 q rfl), fun q => Or.inl (z 112 q rfl)⟩
abbrev LW (n : Nat) : List (Option Value) := [some (.ref am_xb), some (.ref 0), some (.ref 89), some (.int (nI n))]
abbrev LWP (xl : Nat) (xs : Nat → Int32) (C : am_C) : am_X := am_wp (ax_E xl xs) (ax_cd ax_law) C (fun r _ => r = some (.int 1))
theorem vl {n xl : Nat} (h : n + 7 ≤ xl) (hx : xl ≤ 3584) (z : Int) (h0 : 0 ≤ z) (h6 : z ≤ 6) : vp_in (nI n + Int32.ofInt z) xl := by
  obtain ⟨k, rfl⟩ := Int.eq_ofNat_of_zero_le h0
  have e : Int32.ofInt (k : Int) = nI k := (show ∀ k : Nat, k < 7 → Int32.ofInt (k : Int) = nI k by decide) k (by omega)
  rw [e, nI_add]
  exact vp_in_nI (by omega) (by omega)
theorem prdC {xl : Nat} {xs : Nat → Int32} {C : am_C} (hC : C = SP xl xs 60) {y1 y2 : Nat} {As : List Value} {i : Nat → Nat → Int32} (h : PRD xl xs y1 y2 As i) : C y1 (.ref 0 :: As) (KS, i) (fun r u => ∃ v j, r = some (.int v) ∧ u = (KS, j) ∧ C y2 (.ref 89 :: As) (KS, j) (fun r' u' => ∃ j', r' = some (.int v) ∧ u' = (KS, j') ∧ INV j')) := by
  subst hC
  exact h
section LAW
variable {xl : Nat} {xs : Nat → Int32} {C : am_C} {i : Nat → Nat → Int32} {n b c : Nat}
set_option maxRecDepth 100000 in
theorem lw_pack (hn : n + 7 ≤ xl) (hx : xl ≤ 3584) (hC : C = SP xl xs 60) (hm : am_mo C) (hI : INV i) (hK : ∀ j, INV j → LWP xl xs C 788 (LW n) [] (KS, j) 599885 7300718) : LWP xl xs C 128 (LW n) [] (KS, i) 599885 7300718 := by
  refine am_go hm (fun q => q == 788) 120 (fun X hX => ?_)
  conv => whnf
  try dsimp only
  refine ⟨rfl, vl hn hx _ (by decide) (by decide), ?_⟩
  conv => whnf
  try dsimp only
  refine ⟨fun hz => ?_, fun hz => ?_⟩
  · conv => whnf
    try dsimp only
    refine hm _ _ _ _ _ (fun r u hh => ?_) (prdC hC (p_pack (x := Int32.ofInt 0) (Or.inl (by decide)) hI))
    obtain ⟨v, j, rfl, rfl, h2⟩ := hh
    conv => whnf
    try dsimp only
    refine ⟨rfl, vl hn hx _ (by decide) (by decide), ?_⟩
    conv => whnf
    try dsimp only
    refine ⟨fun _ => ?_, fun h => absurd hz h⟩
    conv => whnf
    try dsimp only
    refine hm _ _ _ _ _ (fun r u hh => ?_) h2
    obtain ⟨j', rfl, rfl, hj⟩ := hh
    conv => whnf
    try dsimp only
    exact ⟨fun _ => hX _ _ _ _ _ _ (hK j' hj), fun h => absurd rfl h⟩
  · conv => whnf
    try dsimp only
    refine hm _ _ _ _ _ (fun r u hh => ?_) (prdC hC (p_pack (x := Int32.ofInt 1) (Or.inr (by decide)) hI))
    obtain ⟨v, j, rfl, rfl, h2⟩ := hh
    conv => whnf
    try dsimp only
    refine ⟨rfl, vl hn hx _ (by decide) (by decide), ?_⟩
    conv => whnf
    try dsimp only
    refine ⟨fun h => absurd h hz, fun _ => ?_⟩
    conv => whnf
    try dsimp only
    refine hm _ _ _ _ _ (fun r u hh => ?_) h2
    obtain ⟨j', rfl, rfl, hj⟩ := hh
    conv => whnf
    try dsimp only
    exact ⟨fun _ => hX _ _ _ _ _ _ (hK j' hj), fun h => absurd rfl h⟩
set_option maxRecDepth 100000 in
theorem lw_version (hn : n + 7 ≤ xl) (hx : xl ≤ 3584) (hC : C = SP xl xs 60) (hm : am_mo C) (hI : INV i) (hK : ∀ j, INV j → LWP xl xs C 788 (LW n) [] (KS, j) 599885 7300718) : LWP xl xs C 167 (LW n) [] (KS, i) 599885 7300718 := by
  refine am_go hm (fun q => q == 788) 120 (fun X hX => ?_)
  conv => whnf
  try dsimp only
  refine ⟨rfl, vl hn hx _ (by decide) (by decide), ?_⟩
  conv => whnf
  try dsimp only
  refine ⟨rfl, vl hn hx _ (by decide) (by decide), ?_⟩
  conv => whnf
  try dsimp only
  refine hm _ _ _ _ _ (fun r u hh => ?_) (prdC hC (p_version hI))
  obtain ⟨v, j, rfl, rfl, h2⟩ := hh
  conv => whnf
  try dsimp only
  refine ⟨rfl, vl hn hx _ (by decide) (by decide), ?_⟩
  conv => whnf
  try dsimp only
  refine ⟨rfl, vl hn hx _ (by decide) (by decide), ?_⟩
  conv => whnf
  try dsimp only
  refine hm _ _ _ _ _ (fun r u hh => ?_) h2
  obtain ⟨j', rfl, rfl, hj⟩ := hh
  conv => whnf
  try dsimp only
  exact ⟨fun _ => hX _ _ _ _ _ _ (hK j' hj), fun h => absurd rfl h⟩
set_option maxRecDepth 100000 in
theorem lw_install (hn : n + 7 ≤ xl) (hx : xl ≤ 3584) (hC : C = SP xl xs 60) (hm : am_mo C) (hI : INV i) (hK : ∀ j, INV j → LWP xl xs C 788 (LW n) [] (KS, j) 599885 7300718) : LWP xl xs C 200 (LW n) [] (KS, i) 599885 7300718 := by
  refine am_go hm (fun q => q == 788) 120 (fun X hX => ?_)
  conv => whnf
  try dsimp only
  refine ⟨rfl, vl hn hx _ (by decide) (by decide), ?_⟩
  conv => whnf
  try dsimp only
  refine ⟨rfl, vl hn hx _ (by decide) (by decide), ?_⟩
  conv => whnf
  try dsimp only
  refine hm _ _ _ _ _ (fun r u hh => ?_) (prdC hC (p_install hI))
  obtain ⟨v, j, rfl, rfl, h2⟩ := hh
  conv => whnf
  try dsimp only
  refine ⟨rfl, vl hn hx _ (by decide) (by decide), ?_⟩
  conv => whnf
  try dsimp only
  refine ⟨rfl, vl hn hx _ (by decide) (by decide), ?_⟩
  conv => whnf
  try dsimp only
  refine hm _ _ _ _ _ (fun r u hh => ?_) h2
  obtain ⟨j', rfl, rfl, hj⟩ := hh
  conv => whnf
  try dsimp only
  exact ⟨fun _ => hX _ _ _ _ _ _ (hK j' hj), fun h => absurd rfl h⟩
set_option maxRecDepth 100000 in
theorem lw_need (hn : n + 7 ≤ xl) (hx : xl ≤ 3584) (hC : C = SP xl xs 60) (hm : am_mo C) (hI : INV i) (hK : ∀ j, INV j → LWP xl xs C 788 (LW n) [] (KS, j) 599885 7300718) : LWP xl xs C 233 (LW n) [] (KS, i) 599885 7300718 := by
  refine am_go hm (fun q => q == 788) 120 (fun X hX => ?_)
  conv => whnf
  try dsimp only
  refine ⟨rfl, vl hn hx _ (by decide) (by decide), ?_⟩
  conv => whnf
  try dsimp only
  refine ⟨rfl, vl hn hx _ (by decide) (by decide), ?_⟩
  conv => whnf
  try dsimp only
  refine ⟨rfl, vl hn hx _ (by decide) (by decide), ?_⟩
  conv => whnf
  try dsimp only
  refine ⟨rfl, vl hn hx _ (by decide) (by decide), ?_⟩
  conv => whnf
  try dsimp only
  refine ⟨rfl, vl hn hx _ (by decide) (by decide), ?_⟩
  conv => whnf
  try dsimp only
  refine hm _ _ _ _ _ (fun r u hh => ?_) (prdC hC (p_need hI))
  obtain ⟨v, j, rfl, rfl, h2⟩ := hh
  conv => whnf
  try dsimp only
  refine ⟨rfl, vl hn hx _ (by decide) (by decide), ?_⟩
  conv => whnf
  try dsimp only
  refine ⟨rfl, vl hn hx _ (by decide) (by decide), ?_⟩
  conv => whnf
  try dsimp only
  refine ⟨rfl, vl hn hx _ (by decide) (by decide), ?_⟩
  conv => whnf
  try dsimp only
  refine ⟨rfl, vl hn hx _ (by decide) (by decide), ?_⟩
  conv => whnf
  try dsimp only
  refine ⟨rfl, vl hn hx _ (by decide) (by decide), ?_⟩
  conv => whnf
  try dsimp only
  refine hm _ _ _ _ _ (fun r u hh => ?_) h2
  obtain ⟨j', rfl, rfl, hj⟩ := hh
  conv => whnf
  try dsimp only
  exact ⟨fun _ => hX _ _ _ _ _ _ (hK j' hj), fun h => absurd rfl h⟩
set_option maxRecDepth 100000 in
theorem lw_call (hn : n + 7 ≤ xl) (hx : xl ≤ 3584) (hC : C = SP xl xs 60) (hm : am_mo C) (hI : INV i) (hK : ∀ j, INV j → LWP xl xs C 788 (LW n) [] (KS, j) 599885 7300718) : LWP xl xs C 296 (LW n) [] (KS, i) 599885 7300718 := by
  refine am_go hm (fun q => q == 788) 120 (fun X hX => ?_)
  conv => whnf
  try dsimp only
  refine ⟨rfl, vl hn hx _ (by decide) (by decide), ?_⟩
  conv => whnf
  try dsimp only
  refine ⟨rfl, vl hn hx _ (by decide) (by decide), ?_⟩
  conv => whnf
  try dsimp only
  refine ⟨fun hz => ?_, fun hz => ?_⟩
  · conv => whnf
    try dsimp only
    refine hm _ _ _ _ _ (fun r u hh => ?_) (prdC hC (p_call (y := Int32.ofInt 0) (Or.inl (by decide)) hI))
    obtain ⟨v, j, rfl, rfl, h2⟩ := hh
    conv => whnf
    try dsimp only
    refine ⟨rfl, vl hn hx _ (by decide) (by decide), ?_⟩
    conv => whnf
    try dsimp only
    refine ⟨rfl, vl hn hx _ (by decide) (by decide), ?_⟩
    conv => whnf
    try dsimp only
    refine ⟨fun _ => ?_, fun h => absurd hz h⟩
    conv => whnf
    try dsimp only
    refine hm _ _ _ _ _ (fun r u hh => ?_) h2
    obtain ⟨j', rfl, rfl, hj⟩ := hh
    conv => whnf
    try dsimp only
    exact ⟨fun _ => hX _ _ _ _ _ _ (hK j' hj), fun h => absurd rfl h⟩
  · conv => whnf
    try dsimp only
    refine hm _ _ _ _ _ (fun r u hh => ?_) (prdC hC (p_call (y := Int32.ofInt 1) (Or.inr (by decide)) hI))
    obtain ⟨v, j, rfl, rfl, h2⟩ := hh
    conv => whnf
    try dsimp only
    refine ⟨rfl, vl hn hx _ (by decide) (by decide), ?_⟩
    conv => whnf
    try dsimp only
    refine ⟨rfl, vl hn hx _ (by decide) (by decide), ?_⟩
    conv => whnf
    try dsimp only
    refine ⟨fun h => absurd h hz, fun _ => ?_⟩
    conv => whnf
    try dsimp only
    refine hm _ _ _ _ _ (fun r u hh => ?_) h2
    obtain ⟨j', rfl, rfl, hj⟩ := hh
    conv => whnf
    try dsimp only
    exact ⟨fun _ => hX _ _ _ _ _ _ (hK j' hj), fun h => absurd rfl h⟩
set_option maxRecDepth 100000 in
theorem lw_advisory (hn : n + 7 ≤ xl) (hx : xl ≤ 3584) (hC : C = SP xl xs 60) (hm : am_mo C) (hI : INV i) (hK : ∀ j, INV j → LWP xl xs C 788 (LW n) [] (KS, j) 599885 7300718) : LWP xl xs C 345 (LW n) [] (KS, i) 599885 7300718 := by
  refine am_go hm (fun q => q == 788) 120 (fun X hX => ?_)
  conv => whnf
  try dsimp only
  refine ⟨rfl, vl hn hx _ (by decide) (by decide), ?_⟩
  conv => whnf
  try dsimp only
  refine hm _ _ _ _ _ (fun r u hh => ?_) (prdC hC (p_advisory hI))
  obtain ⟨v, j, rfl, rfl, h2⟩ := hh
  conv => whnf
  try dsimp only
  refine ⟨rfl, vl hn hx _ (by decide) (by decide), ?_⟩
  conv => whnf
  try dsimp only
  refine hm _ _ _ _ _ (fun r u hh => ?_) h2
  obtain ⟨j', rfl, rfl, hj⟩ := hh
  conv => whnf
  try dsimp only
  exact ⟨fun _ => hX _ _ _ _ _ _ (hK j' hj), fun h => absurd rfl h⟩
set_option maxRecDepth 100000 in
theorem lw_span (hn : n + 7 ≤ xl) (hx : xl ≤ 3584) (hC : C = SP xl xs 60) (hm : am_mo C) (hI : INV i) (hK : ∀ j, INV j → LWP xl xs C 788 (LW n) [] (KS, j) 599885 7300718) : LWP xl xs C 368 (LW n) [] (KS, i) 599885 7300718 := by
  refine am_go hm (fun q => q == 788) 120 (fun X hX => ?_)
  conv => whnf
  try dsimp only
  refine ⟨rfl, vl hn hx _ (by decide) (by decide), ?_⟩
  conv => whnf
  try dsimp only
  refine ⟨rfl, vl hn hx _ (by decide) (by decide), ?_⟩
  conv => whnf
  try dsimp only
  refine ⟨rfl, vl hn hx _ (by decide) (by decide), ?_⟩
  conv => whnf
  try dsimp only
  refine hm _ _ _ _ _ (fun r u hh => ?_) (prdC hC (p_span hI))
  obtain ⟨v, j, rfl, rfl, h2⟩ := hh
  conv => whnf
  try dsimp only
  refine ⟨rfl, vl hn hx _ (by decide) (by decide), ?_⟩
  conv => whnf
  try dsimp only
  refine ⟨rfl, vl hn hx _ (by decide) (by decide), ?_⟩
  conv => whnf
  try dsimp only
  refine ⟨rfl, vl hn hx _ (by decide) (by decide), ?_⟩
  conv => whnf
  try dsimp only
  refine hm _ _ _ _ _ (fun r u hh => ?_) h2
  obtain ⟨j', rfl, rfl, hj⟩ := hh
  conv => whnf
  try dsimp only
  exact ⟨fun _ => hX _ _ _ _ _ _ (hK j' hj), fun h => absurd rfl h⟩
set_option maxRecDepth 100000 in
theorem lw_severity (hn : n + 7 ≤ xl) (hx : xl ≤ 3584) (hC : C = SP xl xs 60) (hm : am_mo C) (hI : INV i) (hK : ∀ j, INV j → LWP xl xs C 788 (LW n) [] (KS, j) 599885 7300718) : LWP xl xs C 411 (LW n) [] (KS, i) 599885 7300718 := by
  refine am_go hm (fun q => q == 788) 120 (fun X hX => ?_)
  conv => whnf
  try dsimp only
  refine ⟨rfl, vl hn hx _ (by decide) (by decide), ?_⟩
  conv => whnf
  try dsimp only
  refine ⟨rfl, vl hn hx _ (by decide) (by decide), ?_⟩
  conv => whnf
  try dsimp only
  refine ⟨rfl, vl hn hx _ (by decide) (by decide), ?_⟩
  conv => whnf
  try dsimp only
  refine ⟨rfl, vl hn hx _ (by decide) (by decide), ?_⟩
  conv => whnf
  try dsimp only
  refine ⟨rfl, vl hn hx _ (by decide) (by decide), ?_⟩
  conv => whnf
  try dsimp only
  refine ⟨rfl, vl hn hx _ (by decide) (by decide), ?_⟩
  conv => whnf
  try dsimp only
  refine hm _ _ _ _ _ (fun r u hh => ?_) (prdC hC (p_severity hI))
  obtain ⟨v, j, rfl, rfl, h2⟩ := hh
  conv => whnf
  try dsimp only
  refine ⟨rfl, vl hn hx _ (by decide) (by decide), ?_⟩
  conv => whnf
  try dsimp only
  refine ⟨rfl, vl hn hx _ (by decide) (by decide), ?_⟩
  conv => whnf
  try dsimp only
  refine ⟨rfl, vl hn hx _ (by decide) (by decide), ?_⟩
  conv => whnf
  try dsimp only
  refine ⟨rfl, vl hn hx _ (by decide) (by decide), ?_⟩
  conv => whnf
  try dsimp only
  refine ⟨rfl, vl hn hx _ (by decide) (by decide), ?_⟩
  conv => whnf
  try dsimp only
  refine ⟨rfl, vl hn hx _ (by decide) (by decide), ?_⟩
  conv => whnf
  try dsimp only
  refine hm _ _ _ _ _ (fun r u hh => ?_) h2
  obtain ⟨j', rfl, rfl, hj⟩ := hh
  conv => whnf
  try dsimp only
  exact ⟨fun _ => hX _ _ _ _ _ _ (hK j' hj), fun h => absurd rfl h⟩
set_option maxRecDepth 100000 in
theorem lw_withdraw (hn : n + 7 ≤ xl) (hx : xl ≤ 3584) (hC : C = SP xl xs 60) (hm : am_mo C) (hI : INV i) (hK : ∀ j, INV j → LWP xl xs C 788 (LW n) [] (KS, j) 599885 7300718) : LWP xl xs C 486 (LW n) [] (KS, i) 599885 7300718 := by
  refine am_go hm (fun q => q == 788) 120 (fun X hX => ?_)
  conv => whnf
  try dsimp only
  refine ⟨rfl, vl hn hx _ (by decide) (by decide), ?_⟩
  conv => whnf
  try dsimp only
  refine ⟨rfl, vl hn hx _ (by decide) (by decide), ?_⟩
  conv => whnf
  try dsimp only
  refine ⟨fun hz => ?_, fun hz => ?_⟩
  · conv => whnf
    try dsimp only
    refine hm _ _ _ _ _ (fun r u hh => ?_) (prdC hC (p_withdraw (y := Int32.ofInt 0) (Or.inl (by decide)) hI))
    obtain ⟨v, j, rfl, rfl, h2⟩ := hh
    conv => whnf
    try dsimp only
    refine ⟨rfl, vl hn hx _ (by decide) (by decide), ?_⟩
    conv => whnf
    try dsimp only
    refine ⟨rfl, vl hn hx _ (by decide) (by decide), ?_⟩
    conv => whnf
    try dsimp only
    refine ⟨fun _ => ?_, fun h => absurd hz h⟩
    conv => whnf
    try dsimp only
    refine hm _ _ _ _ _ (fun r u hh => ?_) h2
    obtain ⟨j', rfl, rfl, hj⟩ := hh
    conv => whnf
    try dsimp only
    exact ⟨fun _ => hX _ _ _ _ _ _ (hK j' hj), fun h => absurd rfl h⟩
  · conv => whnf
    try dsimp only
    refine hm _ _ _ _ _ (fun r u hh => ?_) (prdC hC (p_withdraw (y := Int32.ofInt 1) (Or.inr (by decide)) hI))
    obtain ⟨v, j, rfl, rfl, h2⟩ := hh
    conv => whnf
    try dsimp only
    refine ⟨rfl, vl hn hx _ (by decide) (by decide), ?_⟩
    conv => whnf
    try dsimp only
    refine ⟨rfl, vl hn hx _ (by decide) (by decide), ?_⟩
    conv => whnf
    try dsimp only
    refine ⟨fun h => absurd h hz, fun _ => ?_⟩
    conv => whnf
    try dsimp only
    refine hm _ _ _ _ _ (fun r u hh => ?_) h2
    obtain ⟨j', rfl, rfl, hj⟩ := hh
    conv => whnf
    try dsimp only
    exact ⟨fun _ => hX _ _ _ _ _ _ (hK j' hj), fun h => absurd rfl h⟩
set_option maxRecDepth 100000 in
theorem lw_same (hn : n + 7 ≤ xl) (hx : xl ≤ 3584) (hC : C = SP xl xs 60) (hm : am_mo C) (hI : INV i) (hK : ∀ j, INV j → LWP xl xs C 788 (LW n) [] (KS, j) 599885 7300718) : LWP xl xs C 535 (LW n) [] (KS, i) 599885 7300718 := by
  refine am_go hm (fun q => q == 788) 120 (fun X hX => ?_)
  conv => whnf
  try dsimp only
  refine ⟨rfl, vl hn hx _ (by decide) (by decide), ?_⟩
  conv => whnf
  try dsimp only
  refine ⟨rfl, vl hn hx _ (by decide) (by decide), ?_⟩
  conv => whnf
  try dsimp only
  refine hm _ _ _ _ _ (fun r u hh => ?_) (prdC hC (p_same hI))
  obtain ⟨v, j, rfl, rfl, h2⟩ := hh
  conv => whnf
  try dsimp only
  refine ⟨rfl, vl hn hx _ (by decide) (by decide), ?_⟩
  conv => whnf
  try dsimp only
  refine ⟨rfl, vl hn hx _ (by decide) (by decide), ?_⟩
  conv => whnf
  try dsimp only
  refine hm _ _ _ _ _ (fun r u hh => ?_) h2
  obtain ⟨j', rfl, rfl, hj⟩ := hh
  conv => whnf
  try dsimp only
  exact ⟨fun _ => hX _ _ _ _ _ _ (hK j' hj), fun h => absurd rfl h⟩
set_option maxRecDepth 100000 in
theorem lw_group (hn : n + 7 ≤ xl) (hx : xl ≤ 3584) (hC : C = SP xl xs 60) (hm : am_mo C) (hI : INV i) (hK : ∀ j, INV j → LWP xl xs C 788 (LW n) [] (KS, j) 599885 7300718) : LWP xl xs C 568 (LW n) [] (KS, i) 599885 7300718 := by
  refine am_go hm (fun q => q == 788) 120 (fun X hX => ?_)
  conv => whnf
  try dsimp only
  refine ⟨rfl, vl hn hx _ (by decide) (by decide), ?_⟩
  conv => whnf
  try dsimp only
  refine hm _ _ _ _ _ (fun r u hh => ?_) (prdC hC (p_group hI))
  obtain ⟨v, j, rfl, rfl, h2⟩ := hh
  conv => whnf
  try dsimp only
  refine ⟨rfl, vl hn hx _ (by decide) (by decide), ?_⟩
  conv => whnf
  try dsimp only
  refine hm _ _ _ _ _ (fun r u hh => ?_) h2
  obtain ⟨j', rfl, rfl, hj⟩ := hh
  conv => whnf
  try dsimp only
  exact ⟨fun _ => hX _ _ _ _ _ _ (hK j' hj), fun h => absurd rfl h⟩
set_option maxRecDepth 100000 in
theorem lw_score (hn : n + 7 ≤ xl) (hx : xl ≤ 3584) (hC : C = SP xl xs 60) (hm : am_mo C) (hI : INV i) (hK : ∀ j, INV j → LWP xl xs C 788 (LW n) [] (KS, j) 599885 7300718) : LWP xl xs C 591 (LW n) [] (KS, i) 599885 7300718 := by
  refine am_go hm (fun q => q == 788) 120 (fun X hX => ?_)
  conv => whnf
  try dsimp only
  refine ⟨rfl, vl hn hx _ (by decide) (by decide), ?_⟩
  conv => whnf
  try dsimp only
  refine hm _ _ _ _ _ (fun r u hh => ?_) (prdC hC (p_score hI))
  obtain ⟨v, j, rfl, rfl, h2⟩ := hh
  conv => whnf
  try dsimp only
  refine ⟨rfl, vl hn hx _ (by decide) (by decide), ?_⟩
  conv => whnf
  try dsimp only
  refine hm _ _ _ _ _ (fun r u hh => ?_) h2
  obtain ⟨j', rfl, rfl, hj⟩ := hh
  conv => whnf
  try dsimp only
  exact ⟨fun _ => hX _ _ _ _ _ _ (hK j' hj), fun h => absurd rfl h⟩
set_option maxRecDepth 100000 in
theorem lw_except (hn : n + 7 ≤ xl) (hx : xl ≤ 3584) (hC : C = SP xl xs 60) (hm : am_mo C) (hI : INV i) (hK : ∀ j, INV j → LWP xl xs C 788 (LW n) [] (KS, j) 599885 7300718) : LWP xl xs C 614 (LW n) [] (KS, i) 599885 7300718 := by
  refine am_go hm (fun q => q == 788) 120 (fun X hX => ?_)
  conv => whnf
  try dsimp only
  refine ⟨rfl, vl hn hx _ (by decide) (by decide), ?_⟩
  conv => whnf
  try dsimp only
  refine ⟨rfl, vl hn hx _ (by decide) (by decide), ?_⟩
  conv => whnf
  try dsimp only
  refine ⟨rfl, vl hn hx _ (by decide) (by decide), ?_⟩
  conv => whnf
  try dsimp only
  refine hm _ _ _ _ _ (fun r u hh => ?_) (prdC hC (p_except hI))
  obtain ⟨v, j, rfl, rfl, h2⟩ := hh
  conv => whnf
  try dsimp only
  refine ⟨rfl, vl hn hx _ (by decide) (by decide), ?_⟩
  conv => whnf
  try dsimp only
  refine ⟨rfl, vl hn hx _ (by decide) (by decide), ?_⟩
  conv => whnf
  try dsimp only
  refine ⟨rfl, vl hn hx _ (by decide) (by decide), ?_⟩
  conv => whnf
  try dsimp only
  refine hm _ _ _ _ _ (fun r u hh => ?_) h2
  obtain ⟨j', rfl, rfl, hj⟩ := hh
  conv => whnf
  try dsimp only
  exact ⟨fun _ => hX _ _ _ _ _ _ (hK j' hj), fun h => absurd rfl h⟩
set_option maxRecDepth 100000 in
theorem lw_tick (hn : n + 7 ≤ xl) (hx : xl ≤ 3584) (hC : C = SP xl xs 60) (hm : am_mo C) (hI : INV i) (hK : ∀ j, INV j → LWP xl xs C 788 (LW n) [] (KS, j) 599885 7300718) : LWP xl xs C 657 (LW n) [] (KS, i) 599885 7300718 := by
  refine am_go hm (fun q => q == 788) 120 (fun X hX => ?_)
  conv => whnf
  try dsimp only
  refine ⟨rfl, vl hn hx _ (by decide) (by decide), ?_⟩
  conv => whnf
  try dsimp only
  refine hm _ _ _ _ _ (fun r u hh => ?_) (prdC hC (p_tick hI))
  obtain ⟨v, j, rfl, rfl, h2⟩ := hh
  conv => whnf
  try dsimp only
  refine ⟨rfl, vl hn hx _ (by decide) (by decide), ?_⟩
  conv => whnf
  try dsimp only
  refine hm _ _ _ _ _ (fun r u hh => ?_) h2
  obtain ⟨j', rfl, rfl, hj⟩ := hh
  conv => whnf
  try dsimp only
  exact ⟨fun _ => hX _ _ _ _ _ _ (hK j' hj), fun h => absurd rfl h⟩
set_option maxRecDepth 100000 in
theorem lw_hits (hn : n + 7 ≤ xl) (hx : xl ≤ 3584) (hC : C = SP xl xs 60) (hm : am_mo C) (hI : INV i) (hK : ∀ j, INV j → LWP xl xs C 788 (LW n) [] (KS, j) 599885 7300718) : LWP xl xs C 680 (LW n) [] (KS, i) 599885 7300718 := by
  refine am_go hm (fun q => q == 788) 120 (fun X hX => ?_)
  conv => whnf
  try dsimp only
  refine hm _ _ _ _ _ (fun r u hh => ?_) (prdC hC (p_hits hI))
  obtain ⟨v, j, rfl, rfl, h2⟩ := hh
  conv => whnf
  try dsimp only
  refine hm _ _ _ _ _ (fun r u hh => ?_) h2
  obtain ⟨j', rfl, rfl, hj⟩ := hh
  conv => whnf
  try dsimp only
  exact ⟨fun _ => hX _ _ _ _ _ _ (hK j' hj), fun h => absurd rfl h⟩
set_option maxRecDepth 100000 in
theorem lw_hit (hn : n + 7 ≤ xl) (hx : xl ≤ 3584) (hC : C = SP xl xs 60) (hm : am_mo C) (hI : INV i) (hK : ∀ j, INV j → LWP xl xs C 788 (LW n) [] (KS, j) 599885 7300718) : LWP xl xs C 693 (LW n) [] (KS, i) 599885 7300718 := by
  refine am_go hm (fun q => q == 788) 120 (fun X hX => ?_)
  conv => whnf
  try dsimp only
  refine ⟨rfl, vl hn hx _ (by decide) (by decide), ?_⟩
  conv => whnf
  try dsimp only
  refine ⟨rfl, vl hn hx _ (by decide) (by decide), ?_⟩
  conv => whnf
  try dsimp only
  refine hm _ _ _ _ _ (fun r u hh => ?_) (prdC hC (p_hit hI))
  obtain ⟨v, j, rfl, rfl, h2⟩ := hh
  conv => whnf
  try dsimp only
  refine ⟨rfl, vl hn hx _ (by decide) (by decide), ?_⟩
  conv => whnf
  try dsimp only
  refine ⟨rfl, vl hn hx _ (by decide) (by decide), ?_⟩
  conv => whnf
  try dsimp only
  refine hm _ _ _ _ _ (fun r u hh => ?_) h2
  obtain ⟨j', rfl, rfl, hj⟩ := hh
  conv => whnf
  try dsimp only
  exact ⟨fun _ => hX _ _ _ _ _ _ (hK j' hj), fun h => absurd rfl h⟩
set_option maxRecDepth 100000 in
theorem lw_broken (hn : n + 7 ≤ xl) (hx : xl ≤ 3584) (hC : C = SP xl xs 60) (hm : am_mo C) (hI : INV i) (hK : ∀ j, INV j → LWP xl xs C 788 (LW n) [] (KS, j) 599885 7300718) : LWP xl xs C 726 (LW n) [] (KS, i) 599885 7300718 := by
  refine am_go hm (fun q => q == 788) 120 (fun X hX => ?_)
  conv => whnf
  try dsimp only
  refine hm _ _ _ _ _ (fun r u hh => ?_) (prdC hC (p_broken hI))
  obtain ⟨v, j, rfl, rfl, h2⟩ := hh
  conv => whnf
  try dsimp only
  refine hm _ _ _ _ _ (fun r u hh => ?_) h2
  obtain ⟨j', rfl, rfl, hj⟩ := hh
  conv => whnf
  try dsimp only
  exact ⟨fun _ => hX _ _ _ _ _ _ (hK j' hj), fun h => absurd rfl h⟩
set_option maxRecDepth 100000 in
theorem lw_plan (hn : n + 7 ≤ xl) (hx : xl ≤ 3584) (hC : C = SP xl xs 60) (hm : am_mo C) (hI : INV i) (hK : ∀ j, INV j → LWP xl xs C 788 (LW n) [] (KS, j) 599885 7300718) : LWP xl xs C 739 (LW n) [] (KS, i) 599885 7300718 := by
  refine am_go hm (fun q => q == 788) 120 (fun X hX => ?_)
  conv => whnf
  try dsimp only
  refine hm _ _ _ _ _ (fun r u hh => ?_) (prdC hC (p_plan hI))
  obtain ⟨v, j, rfl, rfl, h2⟩ := hh
  conv => whnf
  try dsimp only
  refine hm _ _ _ _ _ (fun r u hh => ?_) h2
  obtain ⟨j', rfl, rfl, hj⟩ := hh
  conv => whnf
  try dsimp only
  exact ⟨fun _ => hX _ _ _ _ _ _ (hK j' hj), fun h => absurd rfl h⟩
set_option maxRecDepth 100000 in
theorem lw_planned (hn : n + 7 ≤ xl) (hx : xl ≤ 3584) (hC : C = SP xl xs 60) (hm : am_mo C) (hI : INV i) (hK : ∀ j, INV j → LWP xl xs C 788 (LW n) [] (KS, j) 599885 7300718) : LWP xl xs C 752 (LW n) [] (KS, i) 599885 7300718 := by
  refine am_go hm (fun q => q == 788) 120 (fun X hX => ?_)
  conv => whnf
  try dsimp only
  refine ⟨rfl, vl hn hx _ (by decide) (by decide), ?_⟩
  conv => whnf
  try dsimp only
  refine hm _ _ _ _ _ (fun r u hh => ?_) (prdC hC (p_planned hI))
  obtain ⟨v, j, rfl, rfl, h2⟩ := hh
  conv => whnf
  try dsimp only
  refine ⟨rfl, vl hn hx _ (by decide) (by decide), ?_⟩
  conv => whnf
  try dsimp only
  refine hm _ _ _ _ _ (fun r u hh => ?_) h2
  obtain ⟨j', rfl, rfl, hj⟩ := hh
  conv => whnf
  try dsimp only
  exact ⟨fun _ => hX _ _ _ _ _ _ (hK j' hj), fun h => absurd rfl h⟩
set_option maxRecDepth 100000 in
theorem lw_update (hn : n + 7 ≤ xl) (hx : xl ≤ 3584) (hC : C = SP xl xs 60) (hm : am_mo C) (hI : INV i) (hK : ∀ j, INV j → LWP xl xs C 788 (LW n) [] (KS, j) 599885 7300718) : LWP xl xs C 775 (LW n) [] (KS, i) 599885 7300718 := by
  refine am_go hm (fun q => q == 788) 120 (fun X hX => ?_)
  conv => whnf
  try dsimp only
  refine hm _ _ _ _ _ (fun r u hh => ?_) (prdC hC (p_update hI))
  obtain ⟨v, j, rfl, rfl, h2⟩ := hh
  conv => whnf
  try dsimp only
  refine hm _ _ _ _ _ (fun r u hh => ?_) h2
  obtain ⟨j', rfl, rfl, hj⟩ := hh
  conv => whnf
  try dsimp only
  exact ⟨fun _ => hX _ _ _ _ _ _ (hK j' hj), fun h => absurd rfl h⟩
theorem sw_mem (x : Int32) : ax_sw 33 x ∈ ax_swl ++ [788] := by
  unfold ax_sw
  by_cases h : x.toInt < 0
  · rw [if_pos h]; decide
  · rw [if_neg h]
    rcases Nat.lt_or_ge x.toInt.toNat ax_swl.length with q | q
    · rw [List.getElem?_eq_getElem q]
      exact List.mem_append_left _ (List.getElem_mem q)
    · rw [List.getElem?_eq_none q]; decide
theorem lw_sw {x : Int32} {L : List (Option Value)} {u : am_St} (h : ∀ pc, pc ∈ ax_swl ++ [788] → LWP xl xs C pc L [] u b c) : LWP xl xs C 33 L [.int x] u b c := fun X hX => hX _ _ _ _ _ _ (show X (ax_sw 33 x) L [] u b c from h _ (sw_mem x) X hX)
theorem lw_end (hx : xl ≤ 3584) (hn : n ≤ xl) : nI xl - Int32.ofInt 7 < nI n ↔ xl < n + 7 := by
  rw [li_7]
  rcases Nat.lt_or_ge xl 7 with q | q
  · refine ⟨fun _ => by omega, fun _ => ?_⟩
    have h1 : ∀ a, a < 7 → nI a - nI 7 < 0 := by decide
    have h2 := h1 xl q
    rw [Int32.lt_iff_toInt_lt, Int32.toInt_zero] at h2
    rw [Int32.lt_iff_toInt_lt, nI_toInt (n := n) (by omega)]
    omega
  · obtain ⟨m, rfl⟩ : ∃ m, xl = m + 7 := ⟨xl - 7, by omega⟩
    rw [← nI_add m 7, Int32.add_sub_cancel, Int32.lt_iff_toInt_lt, nI_toInt (by omega), nI_toInt (by omega)]
    omega
theorem lw_body (hn : n + 7 ≤ xl) (hx : xl ≤ 3584) (hC : C = SP xl xs 60) (hm : am_mo C) (hI : INV i) (hK : ∀ j, INV j → LWP xl xs C 788 (LW n) [] (KS, j) 599885 7300718) : ∀ pc, pc ∈ ax_swl ++ [788] → LWP xl xs C pc (LW n) [] (KS, i) 599885 7300718 := by
  intro pc hpc
  have h : pc = 128 ∨ pc = 167 ∨ pc = 200 ∨ pc = 233 ∨ pc = 296 ∨ pc = 345 ∨ pc = 368 ∨ pc = 411 ∨ pc = 486 ∨ pc = 535 ∨ pc = 568 ∨ pc = 591 ∨ pc = 614 ∨ pc = 657 ∨ pc = 680 ∨ pc = 693 ∨ pc = 726 ∨ pc = 739 ∨ pc = 752 ∨ pc = 775 ∨ pc = 788 := by
    have h2 : pc ∈ [128, 167, 200, 233, 296, 345, 368, 411, 486, 535, 568, 591, 614, 657, 680, 693, 726, 739, 752, 775, 788] := hpc
    simpa only [List.mem_cons, List.not_mem_nil, or_false] using h2
  rcases h with rfl | rfl | rfl | rfl | rfl | rfl | rfl | rfl | rfl | rfl | rfl | rfl | rfl | rfl | rfl | rfl | rfl | rfl | rfl | rfl | rfl
  · exact lw_pack hn hx hC hm hI hK
  · exact lw_version hn hx hC hm hI hK
  · exact lw_install hn hx hC hm hI hK
  · exact lw_need hn hx hC hm hI hK
  · exact lw_call hn hx hC hm hI hK
  · exact lw_advisory hn hx hC hm hI hK
  · exact lw_span hn hx hC hm hI hK
  · exact lw_severity hn hx hC hm hI hK
  · exact lw_withdraw hn hx hC hm hI hK
  · exact lw_same hn hx hC hm hI hK
  · exact lw_group hn hx hC hm hI hK
  · exact lw_score hn hx hC hm hI hK
  · exact lw_except hn hx hC hm hI hK
  · exact lw_tick hn hx hC hm hI hK
  · exact lw_hits hn hx hC hm hI hK
  · exact lw_hit hn hx hC hm hI hK
  · exact lw_broken hn hx hC hm hI hK
  · exact lw_plan hn hx hC hm hI hK
  · exact lw_planned hn hx hC hm hI hK
  · exact lw_update hn hx hC hm hI hK
  · exact hK i hI
set_option maxRecDepth 100000 in
theorem lw_loop (hx : xl ≤ 3584) (hC : C = SP xl xs 60) (hm : am_mo C) : ∀ m n (i : Nat → Nat → Int32), xl ≤ n + m → n ≤ xl → INV i → LWP xl xs C 18 (LW n) [] (KS, i) 599885 7300718 := by
  intro m
  induction m with
  | zero =>
    intro n i h1 h2 hI
    refine am_go hm (fun q => q == 33) 40 (fun X hX => ?_)
    conv => whnf
    try dsimp only
    refine ⟨rfl, ?_⟩
    conv => whnf
    try dsimp only
    refine ⟨fun _ => ?_, fun h => absurd ((lw_end hx h2).mpr (by omega)) h⟩
    conv => whnf
    try dsimp only
    exact ⟨Or.inr rfl, rfl⟩
  | succ m ih =>
    intro n i h1 h2 hI
    refine am_go hm (fun q => q == 33) 40 (fun X hX => ?_)
    conv => whnf
    try dsimp only
    refine ⟨rfl, ?_⟩
    conv => whnf
    try dsimp only
    refine ⟨fun _ => ?_, fun h => ?_⟩
    · conv => whnf
      try dsimp only
      exact ⟨Or.inr rfl, rfl⟩
    · have hn : n + 7 ≤ xl := by
        rcases Nat.lt_or_ge xl (n + 7) with q | q
        · exact absurd ((lw_end hx h2).mpr q) h
        · exact q
      conv => whnf
      try dsimp only
      refine ⟨rfl, vp_in_nI (N := xl) (by omega) (by omega), ?_⟩
      conv => whnf
      try dsimp only
      refine hX _ _ _ _ _ _ (lw_sw (lw_body hn hx hC hm hI (fun j hj => ?_)))
      refine am_go hm (fun q => q == 18) 10 (fun X hX => ?_)
      conv => whnf
      try dsimp only
      refine hX _ _ _ _ _ _ (am_wpL (L' := LW (n + 7)) ?_ rfl (ih (n + 7) j (by omega) hn hj))
      show [some (Value.ref am_xb), some (.ref 0), some (.ref 89), some (.int (nI n + Int32.ofInt 7))] = _
      rw [li_7, nI_add]
set_option maxRecDepth 100000 in
theorem lw_all {d : Nat} (hd : d = 60) (hx : xl ≤ 3584) : LWP xl xs (SP xl xs d) 0 (am_lo 4 [.ref am_xb]) [] ([], fun _ _ => 0) 600000 7302250 := by
  refine am_go (am_sp_mo _) (fun q => q == 18) 40 (fun X hX => ?_)
  conv => whnf
  try dsimp only
  refine sp_cast (As' := [.ref 0]) (u' := (SH65, fun _ _ => 0)) rfl (Prod.ext rfl (zr_eq (n := 0) (fun _ _ => rfl) _ (Nat.zero_le _) _)) (k_AM_init (fun _ _ => rfl) (by omega) (fun j b0 b1 b2 b3 b4 b5 b6 b7 => ?_))
  conv => whnf
  try dsimp only
  refine sp_cast (As' := [.ref 89]) (u' := (SH40, j)) rfl (Prod.ext rfl (zr_eq b0 _ (Nat.le_of_ble_eq_true rfl) _)) (k_Model_init b0 (by omega) (fun j2 c1 c2 c3 c4 => ?_))
  conv => whnf
  try dsimp only
  refine hX _ _ _ _ _ _ (am_wpL (L' := LW 0) ?_ rfl (lw_loop hx (by rw [hd]) (am_sp_mo _) xl 0 j2 (by omega) (Nat.zero_le _) (inv_0 (fun q k hq => ?_) ?_ ?_ ?_ ?_ ?_ ?_ c2 c3 c4)))
  · show [some (Value.ref am_xb), some (.ref 0), some (.ref 89), some (.int (Int32.ofInt 0))] = _
    rw [li_0]
  · rw [c1 q (hp_ne rfl hq) (hp_ne rfl hq) (hp_ne rfl hq), b1 q (hp_ne rfl hq) (hp_ne rfl hq) (hp_ne rfl hq) (hp_ne rfl hq) (hp_ne rfl hq) (hp_ne rfl hq) (hp_ne rfl hq) (hp_ne rfl hq) (hp_ne rfl hq)]
  · rw [c1 11 (by decide) (by decide) (by decide)]; exact b2
  · rw [c1 12 (by decide) (by decide) (by decide)]; exact b3
  · rw [c1 68 (by decide) (by decide) (by decide)]; exact b4
  · rw [c1 66 (by decide) (by decide) (by decide)]; exact b5
  · rw [c1 84 (by decide) (by decide) (by decide)]; exact b6
  · rw [c1 88 (by decide) (by decide) (by decide)]; exact b7
end LAW
