/-! SCORES -/
def hrt (k j : Nat) : Int64 := (ax_sv k j).toInt64
def cimp (m : Nat) : Int64 := Int64.ofInt 642 * (Int64.ofInt 1000000 - hrt 4 (m / 9) * hrt 4 (m / 3 % 3) * hrt 4 (m % 3))
def cuse (r e t h : Nat) : Int64 := Int64.ofInt 822 * hrt 0 r * hrt 1 e * hrt 2 t * hrt 3 h
def cq (r e t h m : Nat) : Int64 := (cimp m * Int64.ofInt 100 + cuse r e t h + Int64.ofInt 1000000000 - Int64.ofInt 1) / Int64.ofInt 1000000000
def cten (r e t h m : Nat) : Int32 := if cimp m = 0 then 0 else (if cq r e t h m < Int64.ofInt 100 then cq r e t h m else Int64.ofInt 100).toInt32
def hund (w k : Nat) : Nat := if w = 0 then (if k = 0 then 85 else if k = 1 then 62 else if k = 2 then 55 else 20) else if w = 1 then (if k = 0 then 77 else 44) else if w < 4 then (if k = 0 then 85 else if k = 1 then 62 else 27) else (if k = 0 then 100 else if k = 1 then 78 else 44)
def hl (w k : Nat) : Int64 := (nI (hund w k)).toInt64
def mway (c : Nat → Nat) : Int64 := Int64.ofInt 822 * hl 0 (c 0) * hl 1 (c 1) * hl 2 (c 2) * hl 3 (c 3)
def mimp (c : Nat → Nat) : Int64 := Int64.ofInt 64200 * (Int64.ofInt 1000000 - Int64.ofInt 1 * hl 4 (c 4) * hl 5 (c 5) * hl 6 (c 6))
def mq (c : Nat → Nat) : Int64 := (mimp c + mway c + Int64.ofInt 999999999) / Int64.ofInt 1000000000
def msc (c : Nat → Nat) : Int32 := if mimp c = 0 then 0 else if mq c ≤ Int64.ofInt 100 then (mq c).toInt32 else nI 100
def chs (r e t h m k : Nat) : Nat := if k = 0 then r else if k = 1 then e else if k = 2 then t else if k = 3 then h else if k = 4 then m / 9 else if k = 5 then m / 3 % 3 else m % 3
set_option maxRecDepth 100000 in
theorem sco_eq : ∀ r, r < 4 → ∀ e, e < 2 → ∀ t, t < 3 → ∀ h, h < 2 → ∀ m, m < 27 → cten r e t h m = msc (chs r e t h m) := by decide +kernel
theorem sco_0 : msc (fun _ => 0) = 0 := by decide +kernel
theorem lg_eq0 (x y : Int64) : lg_cmp x y = 0 ↔ x = y := by
  unfold lg_cmp
  by_cases h : x > y
  · rw [if_pos h]
    refine ⟨fun h' => absurd h' (by decide), fun e => ?_⟩
    subst e
    rw [gt_iff_lt, Int64.lt_iff_toInt_lt] at h
    omega
  · rw [if_neg h]
    by_cases e : x = y
    · rw [if_pos e]; exact ⟨fun _ => e, fun _ => rfl⟩
    · rw [if_neg e]; exact ⟨fun h' => absurd h' (by decide), fun h' => absurd h' e⟩
theorem lg_le0 (x y : Int64) : lg_cmp x y ≤ 0 ↔ x ≤ y := by
  unfold lg_cmp
  by_cases h : x > y
  · rw [if_pos h]
    refine ⟨fun h' => absurd h' (by decide), fun e => ?_⟩
    rw [gt_iff_lt, Int64.lt_iff_toInt_lt] at h
    rw [Int64.le_iff_toInt_le] at e
    omega
  · rw [if_neg h]
    have hle : x ≤ y := by
      rw [gt_iff_lt, Int64.lt_iff_toInt_lt] at h
      rw [Int64.le_iff_toInt_le]
      omega
    by_cases e : x = y
    · rw [if_pos e]; exact ⟨fun _ => hle, fun _ => by decide⟩
    · rw [if_neg e]; exact ⟨fun _ => hle, fun _ => by decide⟩
section SCORE
variable {xl : Nat} {xs : Nat → Int32} {d : Nat} {i : Nat → Nat → Int32} {Q : am_Q} {u : am_St} {na : Nat}
theorem k_areChoices {x1 x2 x3 x4 x5 : Int32} (hd : 2 ≤ d) (h1 : ∀ r e t h m, r < 4 → e < 2 → t < 3 → h < 2 → m < 27 → x1 = nI r → x2 = nI e → x3 = nI t → x4 = nI h → x5 = nI m → Q (some (.int 1)) u) (h0 : (∀ r e t h m, r < 4 → e < 2 → t < 3 → h < 2 → m < 27 → ¬ (x1 = nI r ∧ x2 = nI e ∧ x3 = nI t ∧ x4 = nI h ∧ x5 = nI m)) → Q (some (.int 0)) u) : SP xl xs d Y_Severity_areChoices [.int x1, .int x2, .int x3, .int x4, .int x5] u Q := by
  obtain ⟨d, rfl⟩ : ∃ q, d = q + 1 := ⟨d - 1, by omega⟩
  refine ⟨Nat.le_of_ble_eq_true rfl, am_go (am_sp_mo _) (fun _ => false) 60 (fun X hX => ?_)⟩
  conv => whnf
  try dsimp only
  refine ⟨0, rfl, Nat.le_of_ble_eq_true rfl, ?_⟩
  conv => whnf
  try dsimp only
  refine k_below 4 rfl (by decide) (by omega) (fun r hr e1 => ?_) (fun hx => ?_)
  rotate_left
  · conv => whnf
    try dsimp only
    refine ⟨fun _ => ?_, fun h => absurd rfl h⟩
    conv => whnf
    try dsimp only
    exact ⟨Or.inl rfl, h0 fun r _ _ _ _ hr _ _ _ _ e => out_np (by decide) hx hr e.1⟩
  conv => whnf
  try dsimp only
  refine ⟨fun h => absurd h (by decide), fun _ => ?_⟩
  conv => whnf
  try dsimp only
  refine ⟨1, rfl, Nat.le_of_ble_eq_true rfl, ?_⟩
  conv => whnf
  try dsimp only
  refine k_below 2 rfl (by decide) (by omega) (fun e he e2 => ?_) (fun hx => ?_)
  rotate_left
  · conv => whnf
    try dsimp only
    refine ⟨fun _ => ?_, fun h => absurd rfl h⟩
    conv => whnf
    try dsimp only
    exact ⟨Or.inl rfl, h0 fun _ r _ _ _ _ hr _ _ _ e => out_np (by decide) hx hr e.2.1⟩
  conv => whnf
  try dsimp only
  refine ⟨fun h => absurd h (by decide), fun _ => ?_⟩
  conv => whnf
  try dsimp only
  refine ⟨2, rfl, Nat.le_of_ble_eq_true rfl, ?_⟩
  conv => whnf
  try dsimp only
  refine k_below 3 rfl (by decide) (by omega) (fun t ht e3 => ?_) (fun hx => ?_)
  rotate_left
  · conv => whnf
    try dsimp only
    refine ⟨fun _ => ?_, fun h => absurd rfl h⟩
    conv => whnf
    try dsimp only
    exact ⟨Or.inl rfl, h0 fun _ _ r _ _ _ _ hr _ _ e => out_np (by decide) hx hr e.2.2.1⟩
  conv => whnf
  try dsimp only
  refine ⟨fun h => absurd h (by decide), fun _ => ?_⟩
  conv => whnf
  try dsimp only
  refine ⟨3, rfl, Nat.le_of_ble_eq_true rfl, ?_⟩
  conv => whnf
  try dsimp only
  refine k_below 2 rfl (by decide) (by omega) (fun h hh e4 => ?_) (fun hx => ?_)
  rotate_left
  · conv => whnf
    try dsimp only
    refine ⟨fun _ => ?_, fun h => absurd rfl h⟩
    conv => whnf
    try dsimp only
    exact ⟨Or.inl rfl, h0 fun _ _ _ r _ _ _ _ hr _ e => out_np (by decide) hx hr e.2.2.2.1⟩
  conv => whnf
  try dsimp only
  refine ⟨fun h => absurd h (by decide), fun _ => ?_⟩
  conv => whnf
  try dsimp only
  refine k_below 27 (by decide) (by decide) (by omega) (fun m hm e5 => ?_) (fun hx => ?_)
  rotate_left
  · conv => whnf
    try dsimp only
    refine ⟨fun _ => ?_, fun h => absurd rfl h⟩
    conv => whnf
    try dsimp only
    exact ⟨Or.inl rfl, h0 fun _ _ _ _ r _ _ _ _ hr e => out_np (by decide) hx hr e.2.2.2.2⟩
  conv => whnf
  try dsimp only
  refine ⟨fun h => absurd h (by decide), fun _ => ?_⟩
  conv => whnf
  try dsimp only
  exact ⟨Or.inr rfl, h1 r e t h m hr he ht hh hm e1 e2 e3 e4 e5⟩
theorem k_impactOf {m : Nat} (hm : m < 27) (hd : 1 ≤ d) (h : Q (some (.long (cimp m))) u) : SP xl xs d Y_Severity_impactOf [.int (nI m)] u Q := by
  obtain ⟨d, rfl⟩ : ∃ q, d = q + 1 := ⟨d - 1, by omega⟩
  refine ⟨Nat.le_of_ble_eq_true rfl, am_go (am_sp_mo _) (fun _ => false) 60 (fun X hX => ?_)⟩
  conv => whnf
  try dsimp only
  refine ⟨by decide, ?_⟩
  conv => whnf
  try dsimp only
  refine ⟨by decide, ?_⟩
  conv => whnf
  try dsimp only
  refine ⟨by decide, ?_⟩
  conv => whnf
  try dsimp only
  refine ⟨by decide, ?_⟩
  conv => whnf
  try dsimp only
  have e1 : nI m / Int32.ofInt 9 = nI (m / 9) := by rw [li_9]; exact pk_div (by omega) (by decide) (by decide)
  have e2 : nI m / Int32.ofInt 3 = nI (m / 3) := by rw [li_3]; exact pk_div (by omega) (by decide) (by decide)
  have e3 : nI (m / 3) - nI (m / 3) / Int32.ofInt 3 * Int32.ofInt 3 = nI (m / 3 % 3) := by rw [li_3]; exact pk_rem (by omega) (by decide) (by decide)
  have e4 : nI m - nI m / Int32.ofInt 3 * Int32.ofInt 3 = nI (m % 3) := by rw [li_3]; exact pk_rem (by omega) (by decide) (by decide)
  have c1 : (nI (m / 9)).toNatClampNeg = m / 9 := nI_clamp (by omega)
  have c2 : (nI (m / 3 % 3)).toNatClampNeg = m / 3 % 3 := nI_clamp (by omega)
  have c3 : (nI (m % 3)).toNatClampNeg = m % 3 := nI_clamp (by omega)
  refine ⟨4, rfl, Nat.le_of_ble_eq_true rfl, by rw [e1]; exact vp_in_nI (N := 3) (by show m / 9 < 3; omega) (by decide), ?_⟩
  conv => whnf
  try dsimp only
  refine ⟨4, rfl, Nat.le_of_ble_eq_true rfl, by rw [e2, e3]; exact vp_in_nI (N := 3) (by show m / 3 % 3 < 3; omega) (by decide), ?_⟩
  conv => whnf
  try dsimp only
  refine ⟨4, rfl, Nat.le_of_ble_eq_true rfl, by rw [e4]; exact vp_in_nI (N := 3) (by show m % 3 < 3; omega) (by decide), ?_⟩
  conv => whnf
  try dsimp only
  rw [e4, e2, e3, e1, c1, c2, c3]
  exact h
theorem k_tenths {r e t h m : Nat} (hr : r < 4) (he : e < 2) (ht : t < 3) (hh : h < 2) (hm : m < 27) (hd : 3 ≤ d) (hq : Q (some (.int (cten r e t h m))) u) : SP xl xs d Y_Severity_tenths [.int (nI r), .int (nI e), .int (nI t), .int (nI h), .int (nI m)] u Q := by
  obtain ⟨d, rfl⟩ : ∃ q, d = q + 1 := ⟨d - 1, by omega⟩
  refine ⟨Nat.le_of_ble_eq_true rfl, am_go (am_sp_mo _) (fun _ => false) 80 (fun X hX => ?_)⟩
  conv => whnf
  try dsimp only
  refine k_areChoices (by omega) (fun _ _ _ _ _ _ _ _ _ _ _ _ _ _ _ => ?_) (fun hno => absurd ⟨rfl, rfl, rfl, rfl, rfl⟩ (hno r e t h m hr he ht hh hm))
  conv => whnf
  try dsimp only
  refine ⟨fun _ => ?_, fun h => absurd h (by decide)⟩
  conv => whnf
  try dsimp only
  refine k_impactOf hm (by omega) ?_
  conv => whnf
  try dsimp only
  have c1 : (nI r).toNatClampNeg = r := nI_clamp (by omega)
  have c2 : (nI e).toNatClampNeg = e := nI_clamp (by omega)
  have c3 : (nI t).toNatClampNeg = t := nI_clamp (by omega)
  have c4 : (nI h).toNatClampNeg = h := nI_clamp (by omega)
  refine ⟨fun hne => ?_, fun heq => ?_⟩
  · have hne : ¬ cimp m = 0 := fun e => hne ((lg_eq0 _ _).mpr e)
    conv => whnf
    try dsimp only
    refine ⟨0, rfl, Nat.le_of_ble_eq_true rfl, vp_in_nI (N := 4) hr (by decide), ?_⟩
    conv => whnf
    try dsimp only
    refine ⟨1, rfl, Nat.le_of_ble_eq_true rfl, vp_in_nI (N := 2) he (by decide), ?_⟩
    conv => whnf
    try dsimp only
    refine ⟨2, rfl, Nat.le_of_ble_eq_true rfl, vp_in_nI (N := 3) ht (by decide), ?_⟩
    conv => whnf
    try dsimp only
    refine ⟨3, rfl, Nat.le_of_ble_eq_true rfl, vp_in_nI (N := 2) hh (by decide), ?_⟩
    conv => whnf
    try dsimp only
    refine ⟨by decide, ?_⟩
    conv => whnf
    try dsimp only
    rw [c1, c2, c3, c4]
    refine q_eq ?_ rfl hq
    rw [cten, if_neg hne]
    rfl
  · have heq : cimp m = 0 := (lg_eq0 _ _).mp heq
    conv => whnf
    try dsimp only
    refine q_eq ?_ rfl hq
    rw [cten, if_pos heq]
    rfl
theorem c_severity {x x1 x2 x3 x4 x5 : Int32} (hc : i 20 7 = nI na) (hn : na ≤ 12) (hd : 4 ≤ d)
    (h1 : ∀ a r e t h m, a < na → r < 4 → e < 2 → t < 3 → h < 2 → m < 27 → x = nI a → x1 = nI r → x2 = nI e → x3 = nI t → x4 = nI h → x5 = nI m → Q (some (.int 1)) (KS, am_up i 49 a (cten r e t h m)))
    (h0 : (∀ a r e t h m, a < na → r < 4 → e < 2 → t < 3 → h < 2 → m < 27 → ¬ (x = nI a ∧ x1 = nI r ∧ x2 = nI e ∧ x3 = nI t ∧ x4 = nI h ∧ x5 = nI m)) → Q (some (.int 0)) (KS, i)) : SP xl xs d Y_AM_severity [.ref 0, .int x, .int x1, .int x2, .int x3, .int x4, .int x5] (KS, i) Q := by
  obtain ⟨d, rfl⟩ : ∃ q, d = q + 1 := ⟨d - 1, by omega⟩
  refine ⟨Nat.le_of_ble_eq_true rfl, am_go (am_sp_mo _) (fun _ => false) 60 (fun X hX => ?_)⟩
  conv => whnf
  try dsimp only
  refine k_Adv_has hc hn (by omega) (fun a ha hx => ?_) (fun hx => ?_)
  · conv => whnf
    try dsimp only
    refine ⟨fun h => absurd h (by decide), fun _ => ?_⟩
    conv => whnf
    try dsimp only
    refine k_areChoices (by omega) (fun r e t h m hr he ht hh hm e1 e2 e3 e4 e5 => ?_) (fun hno => ?_)
    · conv => whnf
      try dsimp only
      refine ⟨fun _ => ?_, fun h => absurd h (by decide)⟩
      conv => whnf
      try dsimp only
      rw [e1, e2, e3, e4, e5]
      refine k_tenths hr he ht hh hm (by omega) ?_
      conv => whnf
      try dsimp only
      refine k_setScore hc hn (by omega) (fun a' ha' hx' => ?_) (fun hx' => absurd hx (out_np (by omega) hx' ha))
      have := nI_inj (by omega) (by omega) (hx'.symm.trans hx)
      subst this
      conv => whnf
      try dsimp only
      exact ⟨Or.inr rfl, h1 a' r e t h m ha hr he ht hh hm hx e1 e2 e3 e4 e5⟩
    · conv => whnf
      try dsimp only
      refine ⟨fun h => absurd rfl h, fun _ => ?_⟩
      conv => whnf
      try dsimp only
      exact ⟨Or.inl rfl, h0 fun a r e t h m _ hr he ht hh hm z => hno r e t h m hr he ht hh hm z.2⟩
  · conv => whnf
    try dsimp only
    refine ⟨fun _ => ?_, fun h => absurd rfl h⟩
    conv => whnf
    try dsimp only
    exact ⟨Or.inl rfl, h0 fun a r e t h m ha _ _ _ _ _ z => out_np (by omega) hx ha z.1⟩
theorem m_hund_0_0 (hd : 1 ≤ d) (h : Q (some (.int (nI (hund 0 0)))) u) : SP xl xs d Y_Model_hundredths [.int (nI 0), .int (nI 0)] u Q := by
  obtain ⟨d, rfl⟩ : ∃ q, d = q + 1 := ⟨d - 1, by omega⟩
  refine ⟨Nat.le_of_ble_eq_true rfl, am_go (am_sp_mo _) (fun _ => false) 30 (fun X hX => ?_)⟩
  conv => whnf
  try dsimp only
  repeat (first | (refine ⟨fun hh => absurd hh (by decide), fun _ => ?_⟩; conv => whnf; try dsimp only) | (refine ⟨fun _ => ?_, fun hh => absurd (by decide) hh⟩; conv => whnf; try dsimp only) | (refine ⟨fun _ => ?_, fun hh => absurd hh (by decide)⟩; conv => whnf; try dsimp only))
  exact h
theorem m_hund_0_1 (hd : 1 ≤ d) (h : Q (some (.int (nI (hund 0 1)))) u) : SP xl xs d Y_Model_hundredths [.int (nI 0), .int (nI 1)] u Q := by
  obtain ⟨d, rfl⟩ : ∃ q, d = q + 1 := ⟨d - 1, by omega⟩
  refine ⟨Nat.le_of_ble_eq_true rfl, am_go (am_sp_mo _) (fun _ => false) 30 (fun X hX => ?_)⟩
  conv => whnf
  try dsimp only
  repeat (first | (refine ⟨fun hh => absurd hh (by decide), fun _ => ?_⟩; conv => whnf; try dsimp only) | (refine ⟨fun _ => ?_, fun hh => absurd (by decide) hh⟩; conv => whnf; try dsimp only) | (refine ⟨fun _ => ?_, fun hh => absurd hh (by decide)⟩; conv => whnf; try dsimp only))
  exact h
theorem m_hund_0_2 (hd : 1 ≤ d) (h : Q (some (.int (nI (hund 0 2)))) u) : SP xl xs d Y_Model_hundredths [.int (nI 0), .int (nI 2)] u Q := by
  obtain ⟨d, rfl⟩ : ∃ q, d = q + 1 := ⟨d - 1, by omega⟩
  refine ⟨Nat.le_of_ble_eq_true rfl, am_go (am_sp_mo _) (fun _ => false) 30 (fun X hX => ?_)⟩
  conv => whnf
  try dsimp only
  repeat (first | (refine ⟨fun hh => absurd hh (by decide), fun _ => ?_⟩; conv => whnf; try dsimp only) | (refine ⟨fun _ => ?_, fun hh => absurd (by decide) hh⟩; conv => whnf; try dsimp only) | (refine ⟨fun _ => ?_, fun hh => absurd hh (by decide)⟩; conv => whnf; try dsimp only))
  exact h
theorem m_hund_0_3 (hd : 1 ≤ d) (h : Q (some (.int (nI (hund 0 3)))) u) : SP xl xs d Y_Model_hundredths [.int (nI 0), .int (nI 3)] u Q := by
  obtain ⟨d, rfl⟩ : ∃ q, d = q + 1 := ⟨d - 1, by omega⟩
  refine ⟨Nat.le_of_ble_eq_true rfl, am_go (am_sp_mo _) (fun _ => false) 30 (fun X hX => ?_)⟩
  conv => whnf
  try dsimp only
  repeat (first | (refine ⟨fun hh => absurd hh (by decide), fun _ => ?_⟩; conv => whnf; try dsimp only) | (refine ⟨fun _ => ?_, fun hh => absurd (by decide) hh⟩; conv => whnf; try dsimp only) | (refine ⟨fun _ => ?_, fun hh => absurd hh (by decide)⟩; conv => whnf; try dsimp only))
  exact h
theorem m_hund_1_0 (hd : 1 ≤ d) (h : Q (some (.int (nI (hund 1 0)))) u) : SP xl xs d Y_Model_hundredths [.int (nI 1), .int (nI 0)] u Q := by
  obtain ⟨d, rfl⟩ : ∃ q, d = q + 1 := ⟨d - 1, by omega⟩
  refine ⟨Nat.le_of_ble_eq_true rfl, am_go (am_sp_mo _) (fun _ => false) 30 (fun X hX => ?_)⟩
  conv => whnf
  try dsimp only
  repeat (first | (refine ⟨fun hh => absurd hh (by decide), fun _ => ?_⟩; conv => whnf; try dsimp only) | (refine ⟨fun _ => ?_, fun hh => absurd (by decide) hh⟩; conv => whnf; try dsimp only) | (refine ⟨fun _ => ?_, fun hh => absurd hh (by decide)⟩; conv => whnf; try dsimp only))
  exact h
theorem m_hund_1_1 (hd : 1 ≤ d) (h : Q (some (.int (nI (hund 1 1)))) u) : SP xl xs d Y_Model_hundredths [.int (nI 1), .int (nI 1)] u Q := by
  obtain ⟨d, rfl⟩ : ∃ q, d = q + 1 := ⟨d - 1, by omega⟩
  refine ⟨Nat.le_of_ble_eq_true rfl, am_go (am_sp_mo _) (fun _ => false) 30 (fun X hX => ?_)⟩
  conv => whnf
  try dsimp only
  repeat (first | (refine ⟨fun hh => absurd hh (by decide), fun _ => ?_⟩; conv => whnf; try dsimp only) | (refine ⟨fun _ => ?_, fun hh => absurd (by decide) hh⟩; conv => whnf; try dsimp only) | (refine ⟨fun _ => ?_, fun hh => absurd hh (by decide)⟩; conv => whnf; try dsimp only))
  exact h
theorem m_hund_1_2 (hd : 1 ≤ d) (h : Q (some (.int (nI (hund 1 2)))) u) : SP xl xs d Y_Model_hundredths [.int (nI 1), .int (nI 2)] u Q := by
  obtain ⟨d, rfl⟩ : ∃ q, d = q + 1 := ⟨d - 1, by omega⟩
  refine ⟨Nat.le_of_ble_eq_true rfl, am_go (am_sp_mo _) (fun _ => false) 30 (fun X hX => ?_)⟩
  conv => whnf
  try dsimp only
  repeat (first | (refine ⟨fun hh => absurd hh (by decide), fun _ => ?_⟩; conv => whnf; try dsimp only) | (refine ⟨fun _ => ?_, fun hh => absurd (by decide) hh⟩; conv => whnf; try dsimp only) | (refine ⟨fun _ => ?_, fun hh => absurd hh (by decide)⟩; conv => whnf; try dsimp only))
  exact h
theorem m_hund_1_3 (hd : 1 ≤ d) (h : Q (some (.int (nI (hund 1 3)))) u) : SP xl xs d Y_Model_hundredths [.int (nI 1), .int (nI 3)] u Q := by
  obtain ⟨d, rfl⟩ : ∃ q, d = q + 1 := ⟨d - 1, by omega⟩
  refine ⟨Nat.le_of_ble_eq_true rfl, am_go (am_sp_mo _) (fun _ => false) 30 (fun X hX => ?_)⟩
  conv => whnf
  try dsimp only
  repeat (first | (refine ⟨fun hh => absurd hh (by decide), fun _ => ?_⟩; conv => whnf; try dsimp only) | (refine ⟨fun _ => ?_, fun hh => absurd (by decide) hh⟩; conv => whnf; try dsimp only) | (refine ⟨fun _ => ?_, fun hh => absurd hh (by decide)⟩; conv => whnf; try dsimp only))
  exact h
theorem m_hund_2_0 (hd : 1 ≤ d) (h : Q (some (.int (nI (hund 2 0)))) u) : SP xl xs d Y_Model_hundredths [.int (nI 2), .int (nI 0)] u Q := by
  obtain ⟨d, rfl⟩ : ∃ q, d = q + 1 := ⟨d - 1, by omega⟩
  refine ⟨Nat.le_of_ble_eq_true rfl, am_go (am_sp_mo _) (fun _ => false) 30 (fun X hX => ?_)⟩
  conv => whnf
  try dsimp only
  repeat (first | (refine ⟨fun hh => absurd hh (by decide), fun _ => ?_⟩; conv => whnf; try dsimp only) | (refine ⟨fun _ => ?_, fun hh => absurd (by decide) hh⟩; conv => whnf; try dsimp only) | (refine ⟨fun _ => ?_, fun hh => absurd hh (by decide)⟩; conv => whnf; try dsimp only))
  exact h
theorem m_hund_2_1 (hd : 1 ≤ d) (h : Q (some (.int (nI (hund 2 1)))) u) : SP xl xs d Y_Model_hundredths [.int (nI 2), .int (nI 1)] u Q := by
  obtain ⟨d, rfl⟩ : ∃ q, d = q + 1 := ⟨d - 1, by omega⟩
  refine ⟨Nat.le_of_ble_eq_true rfl, am_go (am_sp_mo _) (fun _ => false) 30 (fun X hX => ?_)⟩
  conv => whnf
  try dsimp only
  repeat (first | (refine ⟨fun hh => absurd hh (by decide), fun _ => ?_⟩; conv => whnf; try dsimp only) | (refine ⟨fun _ => ?_, fun hh => absurd (by decide) hh⟩; conv => whnf; try dsimp only) | (refine ⟨fun _ => ?_, fun hh => absurd hh (by decide)⟩; conv => whnf; try dsimp only))
  exact h
theorem m_hund_2_2 (hd : 1 ≤ d) (h : Q (some (.int (nI (hund 2 2)))) u) : SP xl xs d Y_Model_hundredths [.int (nI 2), .int (nI 2)] u Q := by
  obtain ⟨d, rfl⟩ : ∃ q, d = q + 1 := ⟨d - 1, by omega⟩
  refine ⟨Nat.le_of_ble_eq_true rfl, am_go (am_sp_mo _) (fun _ => false) 30 (fun X hX => ?_)⟩
  conv => whnf
  try dsimp only
  repeat (first | (refine ⟨fun hh => absurd hh (by decide), fun _ => ?_⟩; conv => whnf; try dsimp only) | (refine ⟨fun _ => ?_, fun hh => absurd (by decide) hh⟩; conv => whnf; try dsimp only) | (refine ⟨fun _ => ?_, fun hh => absurd hh (by decide)⟩; conv => whnf; try dsimp only))
  exact h
theorem m_hund_2_3 (hd : 1 ≤ d) (h : Q (some (.int (nI (hund 2 3)))) u) : SP xl xs d Y_Model_hundredths [.int (nI 2), .int (nI 3)] u Q := by
  obtain ⟨d, rfl⟩ : ∃ q, d = q + 1 := ⟨d - 1, by omega⟩
  refine ⟨Nat.le_of_ble_eq_true rfl, am_go (am_sp_mo _) (fun _ => false) 30 (fun X hX => ?_)⟩
  conv => whnf
  try dsimp only
  repeat (first | (refine ⟨fun hh => absurd hh (by decide), fun _ => ?_⟩; conv => whnf; try dsimp only) | (refine ⟨fun _ => ?_, fun hh => absurd (by decide) hh⟩; conv => whnf; try dsimp only) | (refine ⟨fun _ => ?_, fun hh => absurd hh (by decide)⟩; conv => whnf; try dsimp only))
  exact h
theorem m_hund_3_0 (hd : 1 ≤ d) (h : Q (some (.int (nI (hund 3 0)))) u) : SP xl xs d Y_Model_hundredths [.int (nI 3), .int (nI 0)] u Q := by
  obtain ⟨d, rfl⟩ : ∃ q, d = q + 1 := ⟨d - 1, by omega⟩
  refine ⟨Nat.le_of_ble_eq_true rfl, am_go (am_sp_mo _) (fun _ => false) 30 (fun X hX => ?_)⟩
  conv => whnf
  try dsimp only
  repeat (first | (refine ⟨fun hh => absurd hh (by decide), fun _ => ?_⟩; conv => whnf; try dsimp only) | (refine ⟨fun _ => ?_, fun hh => absurd (by decide) hh⟩; conv => whnf; try dsimp only) | (refine ⟨fun _ => ?_, fun hh => absurd hh (by decide)⟩; conv => whnf; try dsimp only))
  exact h
theorem m_hund_3_1 (hd : 1 ≤ d) (h : Q (some (.int (nI (hund 3 1)))) u) : SP xl xs d Y_Model_hundredths [.int (nI 3), .int (nI 1)] u Q := by
  obtain ⟨d, rfl⟩ : ∃ q, d = q + 1 := ⟨d - 1, by omega⟩
  refine ⟨Nat.le_of_ble_eq_true rfl, am_go (am_sp_mo _) (fun _ => false) 30 (fun X hX => ?_)⟩
  conv => whnf
  try dsimp only
  repeat (first | (refine ⟨fun hh => absurd hh (by decide), fun _ => ?_⟩; conv => whnf; try dsimp only) | (refine ⟨fun _ => ?_, fun hh => absurd (by decide) hh⟩; conv => whnf; try dsimp only) | (refine ⟨fun _ => ?_, fun hh => absurd hh (by decide)⟩; conv => whnf; try dsimp only))
  exact h
theorem m_hund_3_2 (hd : 1 ≤ d) (h : Q (some (.int (nI (hund 3 2)))) u) : SP xl xs d Y_Model_hundredths [.int (nI 3), .int (nI 2)] u Q := by
  obtain ⟨d, rfl⟩ : ∃ q, d = q + 1 := ⟨d - 1, by omega⟩
  refine ⟨Nat.le_of_ble_eq_true rfl, am_go (am_sp_mo _) (fun _ => false) 30 (fun X hX => ?_)⟩
  conv => whnf
  try dsimp only
  repeat (first | (refine ⟨fun hh => absurd hh (by decide), fun _ => ?_⟩; conv => whnf; try dsimp only) | (refine ⟨fun _ => ?_, fun hh => absurd (by decide) hh⟩; conv => whnf; try dsimp only) | (refine ⟨fun _ => ?_, fun hh => absurd hh (by decide)⟩; conv => whnf; try dsimp only))
  exact h
theorem m_hund_3_3 (hd : 1 ≤ d) (h : Q (some (.int (nI (hund 3 3)))) u) : SP xl xs d Y_Model_hundredths [.int (nI 3), .int (nI 3)] u Q := by
  obtain ⟨d, rfl⟩ : ∃ q, d = q + 1 := ⟨d - 1, by omega⟩
  refine ⟨Nat.le_of_ble_eq_true rfl, am_go (am_sp_mo _) (fun _ => false) 30 (fun X hX => ?_)⟩
  conv => whnf
  try dsimp only
  repeat (first | (refine ⟨fun hh => absurd hh (by decide), fun _ => ?_⟩; conv => whnf; try dsimp only) | (refine ⟨fun _ => ?_, fun hh => absurd (by decide) hh⟩; conv => whnf; try dsimp only) | (refine ⟨fun _ => ?_, fun hh => absurd hh (by decide)⟩; conv => whnf; try dsimp only))
  exact h
theorem m_hund_4_0 (hd : 1 ≤ d) (h : Q (some (.int (nI (hund 4 0)))) u) : SP xl xs d Y_Model_hundredths [.int (nI 4), .int (nI 0)] u Q := by
  obtain ⟨d, rfl⟩ : ∃ q, d = q + 1 := ⟨d - 1, by omega⟩
  refine ⟨Nat.le_of_ble_eq_true rfl, am_go (am_sp_mo _) (fun _ => false) 30 (fun X hX => ?_)⟩
  conv => whnf
  try dsimp only
  repeat (first | (refine ⟨fun hh => absurd hh (by decide), fun _ => ?_⟩; conv => whnf; try dsimp only) | (refine ⟨fun _ => ?_, fun hh => absurd (by decide) hh⟩; conv => whnf; try dsimp only) | (refine ⟨fun _ => ?_, fun hh => absurd hh (by decide)⟩; conv => whnf; try dsimp only))
  exact h
theorem m_hund_4_1 (hd : 1 ≤ d) (h : Q (some (.int (nI (hund 4 1)))) u) : SP xl xs d Y_Model_hundredths [.int (nI 4), .int (nI 1)] u Q := by
  obtain ⟨d, rfl⟩ : ∃ q, d = q + 1 := ⟨d - 1, by omega⟩
  refine ⟨Nat.le_of_ble_eq_true rfl, am_go (am_sp_mo _) (fun _ => false) 30 (fun X hX => ?_)⟩
  conv => whnf
  try dsimp only
  repeat (first | (refine ⟨fun hh => absurd hh (by decide), fun _ => ?_⟩; conv => whnf; try dsimp only) | (refine ⟨fun _ => ?_, fun hh => absurd (by decide) hh⟩; conv => whnf; try dsimp only) | (refine ⟨fun _ => ?_, fun hh => absurd hh (by decide)⟩; conv => whnf; try dsimp only))
  exact h
theorem m_hund_4_2 (hd : 1 ≤ d) (h : Q (some (.int (nI (hund 4 2)))) u) : SP xl xs d Y_Model_hundredths [.int (nI 4), .int (nI 2)] u Q := by
  obtain ⟨d, rfl⟩ : ∃ q, d = q + 1 := ⟨d - 1, by omega⟩
  refine ⟨Nat.le_of_ble_eq_true rfl, am_go (am_sp_mo _) (fun _ => false) 30 (fun X hX => ?_)⟩
  conv => whnf
  try dsimp only
  repeat (first | (refine ⟨fun hh => absurd hh (by decide), fun _ => ?_⟩; conv => whnf; try dsimp only) | (refine ⟨fun _ => ?_, fun hh => absurd (by decide) hh⟩; conv => whnf; try dsimp only) | (refine ⟨fun _ => ?_, fun hh => absurd hh (by decide)⟩; conv => whnf; try dsimp only))
  exact h
theorem m_hund_4_3 (hd : 1 ≤ d) (h : Q (some (.int (nI (hund 4 3)))) u) : SP xl xs d Y_Model_hundredths [.int (nI 4), .int (nI 3)] u Q := by
  obtain ⟨d, rfl⟩ : ∃ q, d = q + 1 := ⟨d - 1, by omega⟩
  refine ⟨Nat.le_of_ble_eq_true rfl, am_go (am_sp_mo _) (fun _ => false) 30 (fun X hX => ?_)⟩
  conv => whnf
  try dsimp only
  repeat (first | (refine ⟨fun hh => absurd hh (by decide), fun _ => ?_⟩; conv => whnf; try dsimp only) | (refine ⟨fun _ => ?_, fun hh => absurd (by decide) hh⟩; conv => whnf; try dsimp only) | (refine ⟨fun _ => ?_, fun hh => absurd hh (by decide)⟩; conv => whnf; try dsimp only))
  exact h
theorem m_hund_5_0 (hd : 1 ≤ d) (h : Q (some (.int (nI (hund 5 0)))) u) : SP xl xs d Y_Model_hundredths [.int (nI 5), .int (nI 0)] u Q := by
  obtain ⟨d, rfl⟩ : ∃ q, d = q + 1 := ⟨d - 1, by omega⟩
  refine ⟨Nat.le_of_ble_eq_true rfl, am_go (am_sp_mo _) (fun _ => false) 30 (fun X hX => ?_)⟩
  conv => whnf
  try dsimp only
  repeat (first | (refine ⟨fun hh => absurd hh (by decide), fun _ => ?_⟩; conv => whnf; try dsimp only) | (refine ⟨fun _ => ?_, fun hh => absurd (by decide) hh⟩; conv => whnf; try dsimp only) | (refine ⟨fun _ => ?_, fun hh => absurd hh (by decide)⟩; conv => whnf; try dsimp only))
  exact h
theorem m_hund_5_1 (hd : 1 ≤ d) (h : Q (some (.int (nI (hund 5 1)))) u) : SP xl xs d Y_Model_hundredths [.int (nI 5), .int (nI 1)] u Q := by
  obtain ⟨d, rfl⟩ : ∃ q, d = q + 1 := ⟨d - 1, by omega⟩
  refine ⟨Nat.le_of_ble_eq_true rfl, am_go (am_sp_mo _) (fun _ => false) 30 (fun X hX => ?_)⟩
  conv => whnf
  try dsimp only
  repeat (first | (refine ⟨fun hh => absurd hh (by decide), fun _ => ?_⟩; conv => whnf; try dsimp only) | (refine ⟨fun _ => ?_, fun hh => absurd (by decide) hh⟩; conv => whnf; try dsimp only) | (refine ⟨fun _ => ?_, fun hh => absurd hh (by decide)⟩; conv => whnf; try dsimp only))
  exact h
theorem m_hund_5_2 (hd : 1 ≤ d) (h : Q (some (.int (nI (hund 5 2)))) u) : SP xl xs d Y_Model_hundredths [.int (nI 5), .int (nI 2)] u Q := by
  obtain ⟨d, rfl⟩ : ∃ q, d = q + 1 := ⟨d - 1, by omega⟩
  refine ⟨Nat.le_of_ble_eq_true rfl, am_go (am_sp_mo _) (fun _ => false) 30 (fun X hX => ?_)⟩
  conv => whnf
  try dsimp only
  repeat (first | (refine ⟨fun hh => absurd hh (by decide), fun _ => ?_⟩; conv => whnf; try dsimp only) | (refine ⟨fun _ => ?_, fun hh => absurd (by decide) hh⟩; conv => whnf; try dsimp only) | (refine ⟨fun _ => ?_, fun hh => absurd hh (by decide)⟩; conv => whnf; try dsimp only))
  exact h
theorem m_hund_5_3 (hd : 1 ≤ d) (h : Q (some (.int (nI (hund 5 3)))) u) : SP xl xs d Y_Model_hundredths [.int (nI 5), .int (nI 3)] u Q := by
  obtain ⟨d, rfl⟩ : ∃ q, d = q + 1 := ⟨d - 1, by omega⟩
  refine ⟨Nat.le_of_ble_eq_true rfl, am_go (am_sp_mo _) (fun _ => false) 30 (fun X hX => ?_)⟩
  conv => whnf
  try dsimp only
  repeat (first | (refine ⟨fun hh => absurd hh (by decide), fun _ => ?_⟩; conv => whnf; try dsimp only) | (refine ⟨fun _ => ?_, fun hh => absurd (by decide) hh⟩; conv => whnf; try dsimp only) | (refine ⟨fun _ => ?_, fun hh => absurd hh (by decide)⟩; conv => whnf; try dsimp only))
  exact h
theorem m_hund_6_0 (hd : 1 ≤ d) (h : Q (some (.int (nI (hund 6 0)))) u) : SP xl xs d Y_Model_hundredths [.int (nI 6), .int (nI 0)] u Q := by
  obtain ⟨d, rfl⟩ : ∃ q, d = q + 1 := ⟨d - 1, by omega⟩
  refine ⟨Nat.le_of_ble_eq_true rfl, am_go (am_sp_mo _) (fun _ => false) 30 (fun X hX => ?_)⟩
  conv => whnf
  try dsimp only
  repeat (first | (refine ⟨fun hh => absurd hh (by decide), fun _ => ?_⟩; conv => whnf; try dsimp only) | (refine ⟨fun _ => ?_, fun hh => absurd (by decide) hh⟩; conv => whnf; try dsimp only) | (refine ⟨fun _ => ?_, fun hh => absurd hh (by decide)⟩; conv => whnf; try dsimp only))
  exact h
theorem m_hund_6_1 (hd : 1 ≤ d) (h : Q (some (.int (nI (hund 6 1)))) u) : SP xl xs d Y_Model_hundredths [.int (nI 6), .int (nI 1)] u Q := by
  obtain ⟨d, rfl⟩ : ∃ q, d = q + 1 := ⟨d - 1, by omega⟩
  refine ⟨Nat.le_of_ble_eq_true rfl, am_go (am_sp_mo _) (fun _ => false) 30 (fun X hX => ?_)⟩
  conv => whnf
  try dsimp only
  repeat (first | (refine ⟨fun hh => absurd hh (by decide), fun _ => ?_⟩; conv => whnf; try dsimp only) | (refine ⟨fun _ => ?_, fun hh => absurd (by decide) hh⟩; conv => whnf; try dsimp only) | (refine ⟨fun _ => ?_, fun hh => absurd hh (by decide)⟩; conv => whnf; try dsimp only))
  exact h
theorem m_hund_6_2 (hd : 1 ≤ d) (h : Q (some (.int (nI (hund 6 2)))) u) : SP xl xs d Y_Model_hundredths [.int (nI 6), .int (nI 2)] u Q := by
  obtain ⟨d, rfl⟩ : ∃ q, d = q + 1 := ⟨d - 1, by omega⟩
  refine ⟨Nat.le_of_ble_eq_true rfl, am_go (am_sp_mo _) (fun _ => false) 30 (fun X hX => ?_)⟩
  conv => whnf
  try dsimp only
  repeat (first | (refine ⟨fun hh => absurd hh (by decide), fun _ => ?_⟩; conv => whnf; try dsimp only) | (refine ⟨fun _ => ?_, fun hh => absurd (by decide) hh⟩; conv => whnf; try dsimp only) | (refine ⟨fun _ => ?_, fun hh => absurd hh (by decide)⟩; conv => whnf; try dsimp only))
  exact h
theorem m_hund_6_3 (hd : 1 ≤ d) (h : Q (some (.int (nI (hund 6 3)))) u) : SP xl xs d Y_Model_hundredths [.int (nI 6), .int (nI 3)] u Q := by
  obtain ⟨d, rfl⟩ : ∃ q, d = q + 1 := ⟨d - 1, by omega⟩
  refine ⟨Nat.le_of_ble_eq_true rfl, am_go (am_sp_mo _) (fun _ => false) 30 (fun X hX => ?_)⟩
  conv => whnf
  try dsimp only
  repeat (first | (refine ⟨fun hh => absurd hh (by decide), fun _ => ?_⟩; conv => whnf; try dsimp only) | (refine ⟨fun _ => ?_, fun hh => absurd (by decide) hh⟩; conv => whnf; try dsimp only) | (refine ⟨fun _ => ?_, fun hh => absurd hh (by decide)⟩; conv => whnf; try dsimp only))
  exact h
theorem m_hund {w k : Nat} (hw : w < 7) (hk : k < 4) (hd : 1 ≤ d) (h : Q (some (.int (nI (hund w k)))) u) : SP xl xs d Y_Model_hundredths [.int (nI w), .int (nI k)] u Q := by
  match w, k, hw, hk, h with
  | 0, 0, _, _, h => exact m_hund_0_0 hd h
  | 0, 1, _, _, h => exact m_hund_0_1 hd h
  | 0, 2, _, _, h => exact m_hund_0_2 hd h
  | 0, 3, _, _, h => exact m_hund_0_3 hd h
  | 1, 0, _, _, h => exact m_hund_1_0 hd h
  | 1, 1, _, _, h => exact m_hund_1_1 hd h
  | 1, 2, _, _, h => exact m_hund_1_2 hd h
  | 1, 3, _, _, h => exact m_hund_1_3 hd h
  | 2, 0, _, _, h => exact m_hund_2_0 hd h
  | 2, 1, _, _, h => exact m_hund_2_1 hd h
  | 2, 2, _, _, h => exact m_hund_2_2 hd h
  | 2, 3, _, _, h => exact m_hund_2_3 hd h
  | 3, 0, _, _, h => exact m_hund_3_0 hd h
  | 3, 1, _, _, h => exact m_hund_3_1 hd h
  | 3, 2, _, _, h => exact m_hund_3_2 hd h
  | 3, 3, _, _, h => exact m_hund_3_3 hd h
  | 4, 0, _, _, h => exact m_hund_4_0 hd h
  | 4, 1, _, _, h => exact m_hund_4_1 hd h
  | 4, 2, _, _, h => exact m_hund_4_2 hd h
  | 4, 3, _, _, h => exact m_hund_4_3 hd h
  | 5, 0, _, _, h => exact m_hund_5_0 hd h
  | 5, 1, _, _, h => exact m_hund_5_1 hd h
  | 5, 2, _, _, h => exact m_hund_5_2 hd h
  | 5, 3, _, _, h => exact m_hund_5_3 hd h
  | 6, 0, _, _, h => exact m_hund_6_0 hd h
  | 6, 1, _, _, h => exact m_hund_6_1 hd h
  | 6, 2, _, _, h => exact m_hund_6_2 hd h
  | 6, 3, _, _, h => exact m_hund_6_3 hd h
  | w + 7, k, hw, _, _ => exact absurd hw (by omega)
  | w, k + 4, _, hk, _ => exact absurd hk (by omega)
theorem m_scoreOf {a : Nat} {ch : Nat → Nat} (ha : a < 12) (hch : ∀ k, k < 7 → i 104 (7 * a + k) = nI (ch k) ∧ ch k < 4) (hd : 2 ≤ d) (h : Q (some (.int (msc ch))) (KS, i)) : SP xl xs d Y_Model_scoreOf [.ref 89, .int (nI a)] (KS, i) Q := by
  have hat : ∀ k, k < 7 → Int32.ofInt 7 * nI a + nI k = nI (7 * a + k) := fun k _ => by rw [li_7, pk_mul, nI_add]
  have hcl : ∀ k, k < 7 → (nI (7 * a + k)).toNatClampNeg = 7 * a + k := fun k _ => nI_clamp (by omega)
  have hin : ∀ k, k < 7 → vp_in (nI (7 * a + k)) 84 := fun k _ => vp_in_nI (by omega) (by decide)
  obtain ⟨d, rfl⟩ : ∃ q, d = q + 1 := ⟨d - 1, by omega⟩
  refine ⟨Nat.le_of_ble_eq_true rfl, am_go (am_sp_mo _) (fun q => q == 7) 40 (fun X hX => ?_)⟩
  conv => whnf
  try dsimp only
  refine hX _ _ _ _ _ _ ?_
  have loop1 : ∀ (n k : Nat) (v : Int64), k + n = 4 → (∀ v' : Int64, v' = (if k = 0 then v * hl 0 (ch 0) * hl 1 (ch 1) * hl 2 (ch 2) * hl 3 (ch 3) else if k = 1 then v * hl 1 (ch 1) * hl 2 (ch 2) * hl 3 (ch 3) else if k = 2 then v * hl 2 (ch 2) * hl 3 (ch 3) else if k = 3 then v * hl 3 (ch 3) else v) → am_wp (ax_E xl xs) (ax_cd Y_Model_scoreOf) (am_sp (ax_E xl xs) ax_cd ax_ml d) Q 7 [some (.ref 89), some (.int (nI a)), some (.long v'), none, some (.int (nI 4)), none, none, none, none, none] [] (KS, i) 0 0) → am_wp (ax_E xl xs) (ax_cd Y_Model_scoreOf) (am_sp (ax_E xl xs) ax_cd ax_ml d) Q 7 [some (.ref 89), some (.int (nI a)), some (.long v), none, some (.int (nI k)), none, none, none, none, none] [] (KS, i) 0 0 := by
    intro n
    induction n with
    | zero =>
      intro k v hk hg
      have : k = 4 := by omega
      subst this
      exact hg v rfl
    | succ n ih =>
      intro k v hk hg
      refine am_go (am_sp_mo _) (fun q => q == 7) 40 (fun X hX => ?_)
      conv => whnf
      try dsimp only
      refine ⟨fun hh => absurd hh (by rw [li_4]; exact nI_ge (by omega) (by decide)), fun _ => ?_⟩
      conv => whnf
      try dsimp only
      rw [hat k (by omega)]
      refine ⟨84, [], rfl, hin k (by omega), ?_⟩
      conv => whnf
      try dsimp only
      rw [hcl k (by omega), (hch k (by omega)).1]
      refine m_hund (by omega) (hch k (by omega)).2 (by omega) ?_
      conv => whnf
      try dsimp only
      refine hX _ _ _ _ _ _ (am_wpL ?_ rfl (ih (k + 1) (v * hl k (ch k)) (by omega) (fun v' hv' => hg v' ?_)))
      · show [_, _, some (Value.long (v * (nI (hund k (ch k))).toInt64)), _, some (Value.int (nI k + Int32.ofInt 1)), _, _, _, _, _] = _
        rw [li_1, nI_add]
        rfl
      · rw [hv']
        rcases (show k = 0 ∨ k = 1 ∨ k = 2 ∨ k = 3 by omega) with rfl | rfl | rfl | rfl <;> rfl
  refine loop1 4 0 (Int64.ofInt 822) (by omega) (fun v' hv' => ?_)
  have hv' : v' = mway ch := hv'
  subst hv'
  refine am_go (am_sp_mo _) (fun q => q == 46) 40 (fun X hX => ?_)
  conv => whnf
  try dsimp only
  refine ⟨fun _ => ?_, fun hh => absurd (by decide) hh⟩
  conv => whnf
  try dsimp only
  refine hX _ _ _ _ _ _ ?_
  have loop2 : ∀ (n k : Nat) (v : Int64), k + n = 7 → 4 ≤ k → (∀ v' : Int64, v' = (if k = 4 then v * hl 4 (ch 4) * hl 5 (ch 5) * hl 6 (ch 6) else if k = 5 then v * hl 5 (ch 5) * hl 6 (ch 6) else if k = 6 then v * hl 6 (ch 6) else v) → am_wp (ax_E xl xs) (ax_cd Y_Model_scoreOf) (am_sp (ax_E xl xs) ax_cd ax_ml d) Q 46 [some (.ref 89), some (.int (nI a)), some (.long (mway ch)), none, some (.long v'), none, some (.int (nI 7)), none, none, none] [] (KS, i) 0 0) → am_wp (ax_E xl xs) (ax_cd Y_Model_scoreOf) (am_sp (ax_E xl xs) ax_cd ax_ml d) Q 46 [some (.ref 89), some (.int (nI a)), some (.long (mway ch)), none, some (.long v), none, some (.int (nI k)), none, none, none] [] (KS, i) 0 0 := by
    intro n
    induction n with
    | zero =>
      intro k v hk _ hg
      have : k = 7 := by omega
      subst this
      exact hg v rfl
    | succ n ih =>
      intro k v hk hk4 hg
      refine am_go (am_sp_mo _) (fun q => q == 46) 40 (fun X hX => ?_)
      conv => whnf
      try dsimp only
      refine ⟨fun hh => absurd hh (by rw [li_7]; exact nI_ge (by omega) (by decide)), fun _ => ?_⟩
      conv => whnf
      try dsimp only
      rw [hat k (by omega)]
      refine ⟨84, [], rfl, hin k (by omega), ?_⟩
      conv => whnf
      try dsimp only
      rw [hcl k (by omega), (hch k (by omega)).1]
      refine m_hund (by omega) (hch k (by omega)).2 (by omega) ?_
      conv => whnf
      try dsimp only
      refine hX _ _ _ _ _ _ (am_wpL ?_ rfl (ih (k + 1) (v * hl k (ch k)) (by omega) (by omega) (fun v' hv' => hg v' ?_)))
      · show [_, _, _, _, some (Value.long (v * (nI (hund k (ch k))).toInt64)), _, some (Value.int (nI k + Int32.ofInt 1)), _, _, _] = _
        rw [li_1, nI_add]
        rfl
      · rw [hv']
        rcases (show k = 4 ∨ k = 5 ∨ k = 6 by omega) with rfl | rfl | rfl <;> rfl
  refine loop2 3 4 (Int64.ofInt 1) (by omega) (by omega) (fun v' hv' => ?_)
  subst hv'
  refine am_go (am_sp_mo _) (fun _ => false) 60 (fun X hX => ?_)
  conv => whnf
  try dsimp only
  refine ⟨fun _ => ?_, fun hh => absurd (by decide) hh⟩
  conv => whnf
  try dsimp only
  refine ⟨fun hne => ?_, fun heq => ?_⟩
  · have hne : ¬ mimp ch = 0 := fun e => hne ((lg_eq0 _ _).mpr e)
    conv => whnf
    try dsimp only
    refine ⟨by decide, ?_⟩
    conv => whnf
    try dsimp only
    refine ⟨fun hle => ?_, fun hle => ?_⟩
    · have hle : mq ch ≤ Int64.ofInt 100 := (lg_le0 _ _).mp hle
      conv => whnf
      try dsimp only
      refine q_eq ?_ rfl h
      rw [msc, if_neg hne, if_pos hle]
      rfl
    · have hle : ¬ mq ch ≤ Int64.ofInt 100 := fun e => hle ((lg_le0 _ _).mpr e)
      conv => whnf
      try dsimp only
      refine q_eq ?_ rfl h
      rw [msc, if_neg hne, if_neg hle]
      rfl
  · have heq : mimp ch = 0 := (lg_eq0 _ _).mp heq
    conv => whnf
    try dsimp only
    refine q_eq ?_ rfl h
    rw [msc, if_pos heq]
    rfl
theorem m_score {x : Int32} {ch : Nat → Nat → Nat} (hc : i 89 13 = nI na) (hn : na ≤ 12) (hch : ∀ a, a < 12 → ∀ k, k < 7 → i 104 (7 * a + k) = nI (ch a k) ∧ ch a k < 4) (hd : 3 ≤ d) (h1 : ∀ a, a < na → x = nI a → Q (some (.int (msc (ch a)))) (KS, i)) (h0 : (x < 0 ∨ nI na ≤ x) → Q (some (.int (-1))) (KS, i)) : SP xl xs d Y_Model_score [.ref 89, .int x] (KS, i) Q := by
  obtain ⟨d, rfl⟩ : ∃ q, d = q + 1 := ⟨d - 1, by omega⟩
  refine ⟨Nat.le_of_ble_eq_true rfl, am_go (am_sp_mo _) (fun _ => false) 30 (fun X hX => ?_)⟩
  conv => whnf
  try dsimp only
  refine m_isAdv hc hn (by omega) (fun a ha hx => ?_) (fun hx => ?_)
  · conv => whnf
    try dsimp only
    refine ⟨fun h => absurd h (by decide), fun _ => ?_⟩
    conv => whnf
    try dsimp only
    rw [hx]
    refine m_scoreOf (by omega) (hch a (by omega)) (by omega) ?_
    conv => whnf
    try dsimp only
    exact h1 a ha hx
  · conv => whnf
    try dsimp only
    refine ⟨fun _ => ?_, fun h => absurd rfl h⟩
    conv => whnf
    try dsimp only
    exact h0 hx
end SCORE
