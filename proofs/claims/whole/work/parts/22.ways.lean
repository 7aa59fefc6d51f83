/-! WAYS: what is reached by so many needs; the class's measure -/
theorem bcnt_mono {f g : Nat → Bool} : ∀ {n : Nat}, (∀ p, p < n → f p = true → g p = true) → bcnt f n ≤ bcnt g n
  | 0, _ => Nat.le_refl _
  | n + 1, h => by
    have h1 := bcnt_mono (n := n) (fun p hp => h p (by omega))
    have h2 := h n (by omega)
    unfold bcnt
    by_cases e : f n = true
    · rw [if_pos e, if_pos (h2 e)]; omega
    · rw [if_neg e]; omega
theorem bcnt_same {f g : Nat → Bool} : ∀ {n : Nat}, (∀ p, p < n → f p = true → g p = true) → bcnt g n ≤ bcnt f n → ∀ p, p < n → f p = g p
  | 0, _, _, p, hp => absurd hp (by omega)
  | n + 1, h, hc, p, hp => by
    have h1 := bcnt_mono (n := n) (fun p hp => h p (by omega))
    have h2 := h n (by omega)
    unfold bcnt at hc
    by_cases e : f n = true
    · rw [if_pos e, if_pos (h2 e)] at hc
      rcases Nat.lt_or_ge p n with q | q
      · exact bcnt_same (fun p hp => h p (by omega)) (by omega) p q
      · have : p = n := by omega
        subst this
        rw [e, h2 e]
    · rw [if_neg e] at hc
      by_cases e2 : g n = true
      · rw [if_pos e2] at hc
        omega
      · rw [if_neg e2] at hc
        rcases Nat.lt_or_ge p n with q | q
        · exact bcnt_same (fun p hp => h p (by omega)) (by omega) p q
        · have : p = n := by omega
          subst this
          rw [Bool.eq_false_iff.mpr e, Bool.eq_false_iff.mpr e2]
theorem bcnt_full {f : Nat → Bool} : ∀ {n : Nat}, n ≤ bcnt f n → ∀ p, p < n → f p = true
  | 0, _, p, hp => absurd hp (by omega)
  | n + 1, hc, p, hp => by
    have h1 := bcnt_le f n
    unfold bcnt at hc
    by_cases e : f n = true
    · rw [if_pos e] at hc
      rcases Nat.lt_or_ge p n with q | q
      · exact bcnt_full (by omega) p q
      · have : p = n := by omega
        subst this
        exact e
    · rw [if_neg e] at hc
      omega
theorem bcnt_none {f : Nat → Bool} : ∀ {n : Nat}, bcnt f n = 0 → ∀ p, p < n → f p = false
  | 0, _, p, hp => absurd hp (by omega)
  | n + 1, hc, p, hp => by
    unfold bcnt at hc
    by_cases e : f n = true
    · rw [if_pos e] at hc
      omega
    · rw [if_neg e] at hc
      rcases Nat.lt_or_ge p n with q | q
      · exact bcnt_none (by omega) p q
      · have : p = n := by omega
        subst this
        exact Bool.eq_false_iff.mpr e
theorem bany_congr {f g : Nat → Bool} : ∀ {n : Nat}, (∀ k, k < n → f k = g k) → bany f n = bany g n
  | 0, _ => rfl
  | n + 1, h => by
    unfold bany
    rw [bany_congr (fun k hk => h k (by omega)), h n (by omega)]
/-- reached from R by at most so many of the needs E -/
def rch (R E : Nat → Bool) (o t : Nat → Int32) (nn : Nat) : Nat → Nat → Bool
  | 0, p => R p
  | n + 1, p => rch R E o t nn n p || bany (fun k => E k && (decide (t k = nI p) && rch R E o t nn n (o k).toNatClampNeg)) nn
def NB (o t : Nat → Int32) (nn : Nat) : Prop := ∀ k, k < nn → ∃ a b, a < 6 ∧ b < 6 ∧ o k = nI a ∧ t k = nI b
theorem rch_step {R E : Nat → Bool} {o t : Nat → Int32} {nn k a b l : Nat} (hk : k < nn) (hE : E k = true) (ha : a < 6) (e1 : o k = nI a) (e2 : t k = nI b) (h : rch R E o t nn l a = true) : rch R E o t nn (l + 1) b = true := by
  rw [rch, bany_of hk (by show (E k && (decide (t k = nI b) && rch R E o t nn l (o k).toNatClampNeg)) = true; rw [hE, decide_eq_true e2, e1, nI_clamp (by omega), h]; rfl), Bool.or_true]
theorem rch_up {R E : Nat → Bool} {o t : Nat → Int32} {nn l p : Nat} (h : rch R E o t nn l p = true) : rch R E o t nn (l + 1) p = true := by
  rw [rch, h, Bool.true_or]
theorem rch_mono {R E : Nat → Bool} {o t : Nat → Int32} {nn l p : Nat} (h : rch R E o t nn l p = true) : ∀ m, rch R E o t nn (l + m) p = true
  | 0 => h
  | m + 1 => rch_up (rch_mono h m)
theorem rch_inv {R E : Nat → Bool} {o t : Nat → Int32} {nn l p : Nat} (hN : NB o t nn) (hp : p < 6) (h : rch R E o t nn (l + 1) p = true) : rch R E o t nn l p = true ∨ ∃ k a, k < nn ∧ a < 6 ∧ E k = true ∧ o k = nI a ∧ t k = nI p ∧ rch R E o t nn l a = true := by
  rw [rch, Bool.or_eq_true] at h
  rcases h with h | h
  · exact Or.inl h
  · obtain ⟨k, hk, h⟩ := bany_iff.mp h
    rw [Bool.and_eq_true, Bool.and_eq_true] at h
    obtain ⟨a, b, ha, hb, e1, e2⟩ := hN k hk
    rw [e1, nI_clamp (by omega)] at h
    exact Or.inr ⟨k, a, hk, ha, h.1, e1, of_decide_eq_true h.2.1, h.2.2⟩
theorem rch_next {R E : Nat → Bool} {o t : Nat → Int32} {nn n : Nat} (hN : NB o t nn) (h : ∀ p, p < 6 → rch R E o t nn n p = rch R E o t nn (n + 1) p) (p : Nat) (hp : p < 6) : rch R E o t nn (n + 1) p = rch R E o t nn (n + 1 + 1) p := by
  cases e : rch R E o t nn (n + 1 + 1) p with
  | false =>
    cases e2 : rch R E o t nn (n + 1) p with
    | false => rfl
    | true => rw [rch_up e2] at e; cases e
  | true =>
    rcases rch_inv hN hp e with h1 | ⟨k, a, hk, ha, hE, e1, e2, h1⟩
    · exact h1
    · rw [← h a ha] at h1
      exact rch_step hk hE ha e1 e2 h1
theorem rch_grow {R E : Nat → Bool} {o t : Nat → Int32} {nn : Nat} (hN : NB o t nn) : ∀ n, (∀ p, p < 6 → rch R E o t nn n p = rch R E o t nn (n + 1) p) ∨ n + 1 ≤ bcnt (rch R E o t nn n) 6
  | 0 => by
    rcases Nat.eq_zero_or_pos (bcnt (rch R E o t nn 0) 6) with h | h
    · refine Or.inl fun p hp => ?_
      have h0 := bcnt_none h
      rw [h0 p hp]
      cases e : rch R E o t nn (0 + 1) p with
      | false => rfl
      | true =>
        rcases rch_inv hN hp e with h1 | ⟨k, a, hk, ha, hE, e1, e2, h1⟩
        · rw [h0 p hp] at h1; exact h1
        · rw [h0 a ha] at h1; cases h1
    · exact Or.inr h
  | n + 1 => by
    rcases rch_grow hN n with h | h
    · exact Or.inl (rch_next hN h)
    · rcases Nat.lt_or_ge (bcnt (rch R E o t nn n) 6) (bcnt (rch R E o t nn (n + 1)) 6) with q | q
      · exact Or.inr (by omega)
      · exact Or.inl (rch_next hN (bcnt_same (fun p _ hp => rch_up hp) q))
theorem rch_5 {R E : Nat → Bool} {o t : Nat → Int32} {nn : Nat} (hN : NB o t nn) : ∀ p, p < 6 → rch R E o t nn 5 p = rch R E o t nn (5 + 1) p := by
  rcases rch_grow hN (R := R) (E := E) 5 with h | h
  · exact h
  · intro p hp
    have := bcnt_full h p hp
    rw [this, rch_up this]
theorem rch_all {R E : Nat → Bool} {o t : Nat → Int32} {nn : Nat} (hN : NB o t nn) {l p : Nat} (hp : p < 6) (h : rch R E o t nn l p = true) : rch R E o t nn 5 p = true := by
  have st : ∀ n, ∀ p, p < 6 → rch R E o t nn (5 + n) p = rch R E o t nn (5 + n + 1) p := by
    intro n
    induction n with
    | zero => exact rch_5 hN
    | succ n ih => exact rch_next hN ih
  have al : ∀ n, rch R E o t nn (5 + n) p = rch R E o t nn 5 p := by
    intro n
    induction n with
    | zero => rfl
    | succ n ih => rw [← ih]; exact (st n p hp).symm
  have := rch_mono h 5
  rw [Nat.add_comm l 5, al] at this
  exact this
theorem rch_congr {R E R' E' : Nat → Bool} {o t o' t' : Nat → Int32} {nn : Nat} (hN : NB o t nn) (hR : ∀ p, p < 6 → R p = R' p) (hE : ∀ k, k < nn → E k = E' k) (ho : ∀ k, k < nn → o k = o' k) (ht : ∀ k, k < nn → t k = t' k) : ∀ l p, p < 6 → rch R E o t nn l p = rch R' E' o' t' nn l p
  | 0, p, hp => hR p hp
  | l + 1, p, hp => by
    rw [rch, rch, rch_congr hN hR hE ho ht l p hp]
    refine congrArg _ (bany_congr fun k hk => ?_)
    obtain ⟨a, b, ha, hb, e1, e2⟩ := hN k hk
    rw [hE k hk, ← ht k hk, ← ho k hk, e1, nI_clamp (by omega), rch_congr hN hR hE ho ht l a ha]
/-- the length of the shortest way -/
def isD (D : Nat → Nat → Bool) (p : Nat) (x : Int32) : Prop := (x = -1 ∧ ∀ l, D l p = false) ∨ ∃ l, l ≤ 5 ∧ x = nI l ∧ D l p = true ∧ ∀ m, m < l → D m p = false
theorem isD_uni {D D' : Nat → Nat → Bool} {p : Nat} {x y : Int32} (e : ∀ l, D l p = D' l p) (h1 : isD D p x) (h2 : isD D' p y) : x = y := by
  rcases h1 with ⟨h1, h3⟩ | ⟨l, h3, h4, h5, h6⟩ <;> rcases h2 with ⟨g1, g3⟩ | ⟨m, g3, g4, g5, g6⟩
  · rw [h1, g1]
  · rw [← e, h3] at g5; cases g5
  · rw [e, g3] at h5; cases h5
  · have : l = m := by
      rcases Nat.lt_trichotomy l m with q | q | q
      · have := g6 l q; rw [← e, h5] at this; cases this
      · exact q
      · have := h6 m q; rw [e, g5] at this; cases this
    rw [h4, g4, this]
theorem isD_5 {D : Nat → Nat → Bool} {p : Nat} {x : Int32} (h : isD D p x) (hall : ∀ l, D l p = true → D 5 p = true) : ¬ x = -1 ↔ D 5 p = true := by
  rcases h with ⟨h1, h3⟩ | ⟨l, h3, h4, h5, h6⟩
  · rw [h1, h3]
    exact ⟨fun h => absurd rfl h, fun h => by cases h⟩
  · exact ⟨fun _ => hall l h5, fun _ => by rw [h4]; exact nI_m1 (by omega)⟩
def WI (D : Nat → Nat → Bool) (len : Nat → Int32) (c : Nat) : Prop := ∀ p, p < 6 → len p = -1 ∨ ∃ l, l ≤ c ∧ len p = nI l ∧ D l p = true
def WB (len : Nat → Int32) (p m : Nat) : Prop := ∃ l, l ≤ m ∧ l ≤ 1000 ∧ len p = nI l
theorem WI.up {D : Nat → Nat → Bool} {len : Nat → Int32} {c c' : Nat} (h : WI D len c) (hc : c ≤ c') : WI D len c' := fun p hp => by
  rcases h p hp with h | ⟨l, h1, h2⟩
  · exact Or.inl h
  · exact Or.inr ⟨l, by omega, h2⟩
def stp (x y : Int32) : Int32 := if x = -1 then y else if y = -1 ∨ x + nI 1 < y then x + nI 1 else y
theorem ws_step {D : Nat → Nat → Bool} {len len' : Nat → Int32} {c a b : Nat} (ha : a < 6) (hb : b < 6) (hE : ∀ l, D l a = true → D (l + 1) b = true) (h : WI D len c) (hc : c < 900) (h' : ∀ p, p < 6 → len' p = if p = b then stp (len a) (len b) else len p) : WI D len' (c + 1) ∧ (∀ p m, p < 6 → WB len p m → WB len' p m) ∧ (∀ m, WB len a m → WB len' b (m + 1)) := by
  rcases h a ha with e | ⟨l, h1, h2, h3⟩
  · have e' : ∀ p, p < 6 → len' p = len p := fun p hp => by
      rw [h' p hp]
      by_cases q : p = b
      · rw [if_pos q, stp, if_pos e, q]
      · rw [if_neg q]
    refine ⟨fun p hp => ?_, fun p m hp hw => ?_, fun m hw => ?_⟩
    · rw [e' p hp]; exact h.up (Nat.le_succ c) p hp
    · unfold WB; rw [e' p hp]; exact hw
    · obtain ⟨l, _, h3, h2⟩ := hw
      rw [e] at h2
      exact absurd h2.symm (nI_m1 (by omega))
  · have e1 : len a + nI 1 = nI (l + 1) := by rw [h2, nI_add]
    have ne : ¬ len a = -1 := by rw [h2]; exact nI_m1 (by omega)
    have am : ∀ m, WB len a m → l ≤ m := fun m ⟨l', g1, g2, g3⟩ => by
      have := nI_inj (by omega) (by omega) (h2.symm.trans g3)
      omega
    by_cases hs : len b = -1 ∨ len a + nI 1 < len b
    · have e' : ∀ p, p < 6 → len' p = if p = b then nI (l + 1) else len p := fun p hp => by
        rw [h' p hp, stp, if_neg ne, if_pos hs, e1]
      refine ⟨fun p hp => ?_, fun p m hp hw => ?_, fun m hw => ?_⟩
      · rw [e' p hp]
        by_cases q : p = b
        · rw [if_pos q, q]
          exact Or.inr ⟨l + 1, by omega, rfl, hE l h3⟩
        · rw [if_neg q]
          exact h.up (Nat.le_succ c) p hp
      · unfold WB
        rw [e' p hp]
        by_cases q : p = b
        · subst q
          rw [if_pos rfl]
          obtain ⟨l2, g1, g2, g3⟩ := hw
          rw [e1, g3] at hs
          have := hs.resolve_left (nI_m1 (by omega))
          rw [Int32.lt_iff_toInt_lt, nI_toInt (by omega), nI_toInt (by omega)] at this
          exact ⟨l + 1, by omega, by omega, rfl⟩
        · rw [if_neg q]
          exact hw
      · have := am m hw
        refine ⟨l + 1, by omega, by omega, ?_⟩
        rw [e' b hb, if_pos rfl]
    · have e' : ∀ p, p < 6 → len' p = len p := fun p hp => by
        rw [h' p hp]
        by_cases q : p = b
        · rw [if_pos q, stp, if_neg ne, if_neg hs, q]
        · rw [if_neg q]
      refine ⟨fun p hp => ?_, fun p m hp hw => ?_, fun m hw => ?_⟩
      · rw [e' p hp]; exact h.up (Nat.le_succ c) p hp
      · unfold WB; rw [e' p hp]; exact hw
      · have := am m hw
        rcases h b hb with z | ⟨l3, z1, z2, z3⟩
        · exact absurd (Or.inl z) hs
        · have : l3 ≤ l + 1 := by
            rcases Nat.lt_or_ge (l + 1) l3 with q | q
            · exact absurd (Or.inr (by rw [e1, z2]; exact nI_lt q (by omega))) hs
            · exact q
          exact ⟨l3, by omega, by omega, by rw [e' b hb, z2]⟩
theorem ws_end {R E : Nat → Bool} {o t : Nat → Int32} {nn c : Nat} {len : Nat → Int32} (hN : NB o t nn) (hc : c < 900) (h : WI (rch R E o t nn) len c) (h2 : ∀ l p, l ≤ 5 → p < 6 → rch R E o t nn l p = true → WB len p l) (p : Nat) (hp : p < 6) : isD (rch R E o t nn) p (len p) := by
  have no : len p = -1 → ∀ m, ¬ WB len p m := fun e m ⟨l, _, g, q⟩ => by
    rw [e] at q
    exact nI_m1 (by omega) q.symm
  rcases h p hp with e | ⟨l, g1, g2, g3⟩
  · refine Or.inl ⟨e, fun l => ?_⟩
    cases q : rch R E o t nn l p with
    | false => rfl
    | true => exact absurd (h2 5 p (by omega) hp (rch_all hN hp q)) (no e 5)
  · have am : ∀ m, WB len p m → l ≤ m := fun m ⟨l', q1, q2, q3⟩ => by
      have := nI_inj (by omega) (by omega) (g2.symm.trans q3)
      omega
    have h5 := am 5 (h2 5 p (by omega) hp (rch_all hN hp g3))
    refine Or.inr ⟨l, h5, g2, g3, fun m hm => ?_⟩
    cases q : rch R E o t nn m p with
    | false => rfl
    | true =>
      have := am m (h2 m p (by omega) hp q)
      omega
/-- of the class: the installed roots; the needs that lead -/
def cR (i : Nat → Nat → Int32) (np p : Nat) : Bool := decide (p < np) && (!(decide (i 11 p = -1)) && decide (i 2 p = 1))
def cE (i : Nat → Nat → Int32) (w k : Nat) : Bool := (cact i (i 12) k && chld i (i 12) k) && (decide (i w 2 = 0) || decide (i 19 k = 1))
section WAYS
variable {xl : Nat} {xs : Nat → Int32} {d : Nat} {i : Nat → Nat → Int32} {Q : am_Q} {np nn : Nat} {nv : Nat → Nat}
theorem k_lengthTo {w p : Nat} (hw : w = 66 ∨ w = 68) (hp : p < 6) (hd : 2 ≤ d) (h : Q (some (.int (i (w + 1) p))) (KS, i)) : SP xl xs d Y_Ways_lengthTo [.ref w, .int (nI p)] (KS, i) Q := by
  rcases hw with rfl | rfl
  all_goals
    obtain ⟨d, rfl⟩ : ∃ q, d = q + 1 := ⟨d - 1, by omega⟩
    refine ⟨Nat.le_of_ble_eq_true rfl, am_go (am_sp_mo _) (fun _ => false) 30 (fun X hX => ?_)⟩
    conv => whnf
    try dsimp only
    refine k_below 6 (by decide) (by decide) (by omega) (fun k hk hx => ?_) (fun hx => absurd rfl (out_np (by omega) hx hp))
    conv => whnf
    try dsimp only
    refine ⟨fun h => absurd h (by decide), fun _ => ?_⟩
    conv => whnf
    try dsimp only
    refine ⟨6, [], rfl, vp_in_nI hp (by decide), ?_⟩
    conv => whnf
    try dsimp only
    rw [nI_clamp (by omega)]
    exact h
theorem k_goOn {w a b : Nat} (hw : w = 66 ∨ w = 68) (ha : a < 6) (hb : b < 6) (hd : 3 ≤ d) (h : ∀ j : Nat → Nat → Int32, (∀ q, q ≠ w + 1 → j q = i q) → (∀ p, j (w + 1) p = if p = b then stp (i (w + 1) a) (i (w + 1) b) else i (w + 1) p) → Q none (KS, j)) : SP xl xs d Y_Ways_goOn [.ref w, .int (nI a), .int (nI b)] (KS, i) Q := by
  have hin : vp_in (nI b) 6 := vp_in_nI hb (by decide)
  have hcl : (nI b).toNatClampNeg = b := nI_clamp (by omega)
  have keep : stp (i (w + 1) a) (i (w + 1) b) = i (w + 1) b → Q none (KS, i) := fun e => h i (fun _ _ => rfl) (fun p => by
    rw [e]
    by_cases q : p = b
    · rw [if_pos q, q]
    · rw [if_neg q])
  have put : stp (i (w + 1) a) (i (w + 1) b) = i (w + 1) a + nI 1 → Q none (KS, am_up i (w + 1) b (i (w + 1) a + nI 1)) := fun e => h _ (fun q hq => up_a hq) (fun p => by
    rw [e, up_at]
    by_cases q : p = b
    · rw [if_pos ⟨rfl, q⟩, if_pos q]
    · rw [if_neg q, if_neg (fun z => q z.2)])
  rcases hw with rfl | rfl
  all_goals
    obtain ⟨d, rfl⟩ : ∃ q, d = q + 1 := ⟨d - 1, by omega⟩
    refine ⟨Nat.le_of_ble_eq_true rfl, am_go (am_sp_mo _) (fun q => q == 43) 60 (fun X hX => ?_)⟩
    conv => whnf
    try dsimp only
    refine k_lengthTo (by omega) ha (by omega) ?_
    conv => whnf
    try dsimp only
    refine ⟨fun hm => ?_, fun hm => ?_⟩
    · conv => whnf
      try dsimp only
      exact keep (by unfold stp; exact if_pos hm)
    conv => whnf
    try dsimp only
    refine k_below 6 (by decide) (by decide) (by omega) (fun k hk hx => ?_) (fun hx => absurd rfl (out_np (by omega) hx hb))
    conv => whnf
    try dsimp only
    refine ⟨fun _ => ?_, fun h => absurd h (by decide)⟩
    conv => whnf
    try dsimp only
    refine ⟨6, [], rfl, hin, ?_⟩
    conv => whnf
    try dsimp only
    rw [hcl]
    rw [li_m1] at hm
    refine ⟨fun hb1 => ?_, fun hb1 => ?_⟩
    · refine hX _ _ _ _ _ _ ?_
      refine am_go (am_sp_mo _) (fun _ => false) 30 (fun X hX => ?_)
      conv => whnf
      try dsimp only
      refine ⟨6, [], rfl, hin, ?_⟩
      conv => whnf
      try dsimp only
      rw [hcl]
      exact put (by unfold stp; rw [if_neg hm]; exact if_pos (Or.inl hb1))
    conv => whnf
    try dsimp only
    refine ⟨6, [], rfl, hin, ?_⟩
    conv => whnf
    try dsimp only
    rw [hcl]
    refine ⟨fun hle => ?_, fun hle => ?_⟩
    · conv => whnf
      try dsimp only
      exact keep (by unfold stp; rw [if_neg hm, if_neg]; rintro (z | z); exact hb1 z; exact le_nlt hle z)
    · refine hX _ _ _ _ _ _ ?_
      refine am_go (am_sp_mo _) (fun _ => false) 30 (fun X hX => ?_)
      conv => whnf
      try dsimp only
      refine ⟨6, [], rfl, hin, ?_⟩
      conv => whnf
      try dsimp only
      rw [hcl]
      exact put (by unfold stp; rw [if_neg hm]; exact if_pos (Or.inr (nle_lt hle)))
theorem k_goOnAll {w c : Nat} {R : Nat → Bool} (hw : w = 66 ∨ w = 68) (hN : NK i nn) (hcb : ∀ k, i 19 k = 0 ∨ i 19 k = 1) (hwb : i w 2 = 0 ∨ i w 2 = 1) (hc : c < 800) (hI : WI (rch R (cE i w) (i 14) (i 16) nn) (i (w + 1)) c) (hd : 4 ≤ d)
    (h : ∀ j : Nat → Nat → Int32, (∀ q, q ≠ w + 1 → j q = i q) → WI (rch R (cE i w) (i 14) (i 16) nn) (j (w + 1)) (c + 16) → (∀ p m, p < 6 → WB (i (w + 1)) p m → WB (j (w + 1)) p m) → (∀ k a b m, k < nn → cE i w k = true → a < 6 → b < 6 → i 14 k = nI a → i 16 k = nI b → WB (i (w + 1)) a m → WB (j (w + 1)) b (m + 1)) → Q none (KS, j)) : SP xl xs d Y_Ways_goOnByEachNeed [.ref w] (KS, i) Q := by
  have hcn := hN.1
  have hn := hN.2.1
  have hw13 : 13 ≠ w + 1 := by omega
  have main : ∀ m k (j : Nat → Nat → Int32), k + m = nn → (∀ q, q ≠ w + 1 → j q = i q) → WI (rch R (cE i w) (i 14) (i 16) nn) (j (w + 1)) (c + k) → (∀ p m, p < 6 → WB (i (w + 1)) p m → WB (j (w + 1)) p m) → (∀ k' a b m, k' < k → cE i w k' = true → a < 6 → b < 6 → i 14 k' = nI a → i 16 k' = nI b → WB (i (w + 1)) a m → WB (j (w + 1)) b (m + 1)) → ∀ d, 3 ≤ d → am_wp (ax_E xl xs) (ax_cd Y_Ways_goOnByEachNeed) (am_sp (ax_E xl xs) ax_cd ax_ml d) Q 2 [some (.ref w), some (.int (nI k))] [] (KS, j) 0 0 := by
    intro m
    induction m with
    | zero =>
      intro k j hk h1 h2 h3 h4 d hd
      have : k = nn := by omega
      subst this
      rcases hw with rfl | rfl
      all_goals
        refine am_go (am_sp_mo _) (fun q => q == 2) 30 (fun X hX => ?_)
        conv => whnf
        try dsimp only
        refine k_Needs_count (by omega) ?_
        conv => whnf
        try dsimp only
        rw [h1 13 (by decide), hcn]
        refine ⟨fun _ => ?_, fun hh => absurd (nI_le (Nat.le_refl _) (by omega)) hh⟩
        conv => whnf
        try dsimp only
        exact h j h1 (h2.up (by omega)) h3 h4
    | succ m ih =>
      intro k j hk h1 h2 h3 h4 d hd
      obtain ⟨a, b, ha, hb, ea, eb⟩ := hN.2.2 k (by omega)
      have hNj : NK j nn := by
        unfold NK
        rw [h1 13 hw13, h1 14 (by omega), h1 16 (by omega)]
        exact hN
      have hlead : (cact j (j 12) k && chld j (j 12) k) = (cact i (i 12) k && chld i (i 12) k) := by
        unfold cact chld
        rw [h1 12 (by omega), h1 14 (by omega), h1 15 (by omega), h1 16 (by omega), h1 17 (by omega), h1 18 (by omega)]
      have e1 : nI k + Int32.ofInt 1 = nI (k + 1) := by rw [li_1, nI_add]
      have skip : cE i w k = false → am_wp (ax_E xl xs) (ax_cd Y_Ways_goOnByEachNeed) (am_sp (ax_E xl xs) ax_cd ax_ml d) Q 69 [some (.ref w), some (.int (nI k))] [] (KS, j) 0 0 := by
        intro e
        refine am_go (am_sp_mo _) (fun q => q == 2) 20 (fun X hX => ?_)
        conv => whnf
        try dsimp only
        rw [e1]
        refine hX _ _ _ _ _ _ (ih (k + 1) j (by omega) h1 (h2.up (by omega)) h3 (fun k' a b m hk' hE' => ?_) d hd)
        by_cases q : k' = k
        · subst q
          rw [e] at hE'
          cases hE'
        · exact h4 k' a b m (by omega) hE'
      have take : cE i w k = true → am_wp (ax_E xl xs) (ax_cd Y_Ways_goOnByEachNeed) (am_sp (ax_E xl xs) ax_cd ax_ml d) Q 49 [some (.ref w), some (.int (nI k))] [] (KS, j) 0 0 := by
        intro e
        have fin : am_wp (ax_E xl xs) (ax_cd Y_Ways_goOnByEachNeed) (am_sp (ax_E xl xs) ax_cd ax_ml d) Q 66 [some (.ref w), some (.int (nI k))] [.int (i 16 k), .int (i 14 k), .ref w] (KS, j) 0 0 := by
          rw [ea, eb]
          have hw' := hw
          rcases hw with rfl | rfl
          all_goals
            refine am_go (am_sp_mo _) (fun q => q == 2) 20 (fun X hX => ?_)
            conv => whnf
            try dsimp only
            refine k_goOn hw' ha hb (by omega) (fun j2 g1 g2 => ?_)
            conv => whnf
            try dsimp only
            rw [e1]
            obtain ⟨w1, w2, w3⟩ := ws_step (D := rch R (cE i _) (i 14) (i 16) nn) (c := c + k) ha hb (fun l hl => rch_step (by omega) e ha ea eb hl) h2 (by omega) (fun p _ => g2 p)
            refine hX _ _ _ _ _ _ (ih (k + 1) j2 (by omega) (fun q hq => (g1 q hq).trans (h1 q hq)) w1 (fun p m hp hB => w2 p m hp (h3 p m hp hB)) (fun k' a' b' m hk' hE' ha' hb' ea' eb' hB => ?_) d hd)
            by_cases q : k' = k
            · subst q
              have := nI_inj (by omega) (by omega) (ea.symm.trans ea')
              subst this
              have := nI_inj (by omega) (by omega) (eb.symm.trans eb')
              subst this
              exact w3 m (h3 a m ha hB)
            · exact w2 b' (m + 1) hb' (h4 k' a' b' m (by omega) hE' ha' hb' ea' eb' hB)
        rcases hw with rfl | rfl
        all_goals
          refine am_go (am_sp_mo _) (fun q => q == 66) 40 (fun X hX => ?_)
          conv => whnf
          try dsimp only
          refine k_ownerOf (by rw [h1 13 (by decide)]; exact hcn) hn (by omega) (fun k2 hk2 hx => ?_) (fun hx => absurd rfl (out_np (by omega) hx (show k < nn by omega)))
          have := nI_inj (by omega) (by omega) hx
          subst this
          conv => whnf
          try dsimp only
          refine k_otherOf (by rw [h1 13 (by decide)]; exact hcn) hn (by omega) (fun k2 hk2 hx => ?_) (fun hx => absurd rfl (out_np (by omega) hx (show k < nn by omega)))
          have := nI_inj (by omega) (by omega) hx
          subst this
          conv => whnf
          try dsimp only
          rw [h1 14 (by decide), h1 16 (by decide)]
          exact hX _ _ _ _ _ _ fin
      rcases hw with rfl | rfl
      all_goals
        refine am_go (am_sp_mo _) (fun q => q == 2 || q == 49 || q == 69) 60 (fun X hX => ?_)
        conv => whnf
        try dsimp only
        refine k_Needs_count (by omega) ?_
        conv => whnf
        try dsimp only
        rw [h1 13 (by decide), hcn]
        refine ⟨fun hh => absurd hh (nI_ge (by omega) (by omega)), fun _ => ?_⟩
        conv => whnf
        try dsimp only
        refine k_installedVersions (by omega) ?_
        conv => whnf
        try dsimp only
        refine k_leads rfl hNj (by omega) (by omega) (fun bb hbb => ?_)
        rw [hlead] at hbb
        cases bb with
        | false =>
          conv => whnf
          try dsimp only
          refine ⟨fun _ => hX _ _ _ _ _ _ (skip (by unfold cE; rw [← hbb]; rfl)), fun h => absurd rfl h⟩
        | true =>
          conv => whnf
          try dsimp only
          refine ⟨fun h => absurd h (by decide), fun _ => ?_⟩
          conv => whnf
          try dsimp only
          rw [h1 _ (by decide)]
          rcases hwb with e | e
          · rw [e]
            refine ⟨fun _ => hX _ _ _ _ _ _ (take (by unfold cE; rw [← hbb, e]; rfl)), fun h => absurd rfl h⟩
          · rw [e]
            refine ⟨fun h => absurd h (by decide), fun _ => ?_⟩
            conv => whnf
            try dsimp only
            refine k_isCalled (by rw [h1 13 (by decide)]; exact hcn) hn (by rw [h1 19 (by decide)]; exact hcb) (by omega) (fun k2 hk2 hx hk1 => ?_) (fun hx => ?_)
            · have := nI_inj (by omega) (by omega) hx
              subst this
              rw [h1 19 (by decide)] at hk1
              conv => whnf
              try dsimp only
              refine ⟨fun h => absurd h (by decide), fun _ => hX _ _ _ _ _ _ (take (by unfold cE; rw [← hbb, hk1]; simp))⟩
            · have hk1 := hx k (by omega) rfl
              rw [h1 19 (by decide)] at hk1
              conv => whnf
              try dsimp only
              refine ⟨fun _ => hX _ _ _ _ _ _ (skip (by unfold cE; rw [← hbb, e, hk1]; rfl)), fun h => absurd rfl h⟩
  rcases hw with rfl | rfl
  all_goals
    obtain ⟨d, rfl⟩ : ∃ q, d = q + 1 := ⟨d - 1, by omega⟩
    refine ⟨Nat.le_of_ble_eq_true rfl, am_go (am_sp_mo _) (fun q => q == 2) 20 (fun X hX => ?_)⟩
    conv => whnf
    try dsimp only
    exact hX _ _ _ _ _ _ (main nn 0 i (by omega) (fun _ _ => rfl) hI (fun _ _ _ h => h) (fun k' _ _ _ h => absurd h (by omega)) d (by omega))
theorem k_measure {w : Nat} (hw : w = 66 ∨ w = 68) (hk : PK i np nv) (hr : ∀ p, i 2 p = 0 ∨ i 2 p = 1) (hN : NK i nn) (hcb : ∀ k, i 19 k = 0 ∨ i 19 k = 1) (hwb : i w 2 = 0 ∨ i w 2 = 1) (hd : 5 ≤ d)
    (h : ∀ j : Nat → Nat → Int32, (∀ q, q ≠ w + 1 → j q = i q) → (∀ p, p < 6 → isD (rch (cR i np) (cE i w) (i 14) (i 16) nn) p (j (w + 1) p)) → Q none (KS, j)) : SP xl xs d Y_Ways_measure [.ref w] (KS, i) Q := by
  have hn := hk.2.1
  have hNB : NB (i 14) (i 16) nn := hN.2.2
  have rounds : ∀ m r (j : Nat → Nat → Int32), r + m = 6 → 1 ≤ r → (∀ q, q ≠ w + 1 → j q = i q) → WI (rch (cR i np) (cE i w) (i 14) (i 16) nn) (j (w + 1)) (16 * r) → (∀ l p, l < r → p < 6 → rch (cR i np) (cE i w) (i 14) (i 16) nn l p = true → WB (j (w + 1)) p l) → ∀ d, 4 ≤ d → am_wp (ax_E xl xs) (ax_cd Y_Ways_measure) (am_sp (ax_E xl xs) ax_cd ax_ml d) Q 38 [some (.ref w), some (.int (nI r))] [] (KS, j) 0 0 := by
    intro m
    induction m with
    | zero =>
      intro r j hr h1 h2 h3 h4 d hd
      have : r = 6 := by omega
      subst this
      refine am_go (am_sp_mo _) (fun q => q == 38) 20 (fun X hX => ?_)
      conv => whnf
      try dsimp only
      refine ⟨fun _ => ?_, fun hh => absurd (by decide) hh⟩
      conv => whnf
      try dsimp only
      exact h j h2 (ws_end hNB (by omega) h3 (fun l p hl hp => h4 l p (by omega) hp))
    | succ m ih =>
      intro r j hr h1 h2 h3 h4 d hd
      have e1 : nI r + Int32.ofInt 1 = nI (r + 1) := by rw [li_1, nI_add]
      have hNj : NK j nn := by
        unfold NK
        rw [h2 13 (by omega), h2 14 (by omega), h2 16 (by omega)]
        exact hN
      have eE : cE j w = cE i w := by
        funext k
        unfold cE cact chld
        rw [h2 12 (by omega), h2 14 (by omega), h2 15 (by omega), h2 16 (by omega), h2 17 (by omega), h2 18 (by omega), h2 19 (by omega), h2 w (by omega)]
      have hw' := hw
      rcases hw with rfl | rfl
      all_goals
        refine am_go (am_sp_mo _) (fun q => q == 38) 20 (fun X hX => ?_)
        conv => whnf
        try dsimp only
        refine ⟨fun hh => absurd hh (by rw [li_6]; exact nI_ge (by omega) (by decide)), fun _ => ?_⟩
        conv => whnf
        try dsimp only
        refine k_goOnAll (R := cR i np) (c := 16 * r) hw' hNj (by rw [h2 19 (by omega)]; exact hcb) (by rw [h2 _ (by omega)]; exact hwb) (by omega) (by rw [eE, h2 14 (by omega), h2 16 (by omega)]; exact h3) (by omega) (fun j2 g1 g2 g3 g4 => ?_)
        rw [eE, h2 14 (by omega), h2 16 (by omega)] at g2 g4
        conv => whnf
        try dsimp only
        rw [e1]
        refine hX _ _ _ _ _ _ (ih (r + 1) j2 (by omega) (by omega) (fun q hq => (g1 q hq).trans (h2 q hq)) g2 (fun l p hl hp hD => ?_) d hd)
        cases l with
        | zero => exact g3 p 0 hp (h4 0 p (by omega) hp hD)
        | succ l =>
          rcases rch_inv hNB hp hD with hD | ⟨k, a, hk', ha, hE', ea, eb, hD⟩
          · obtain ⟨z, z1, z2⟩ := g3 p l hp (h4 l p (by omega) hp hD)
            exact ⟨z, by omega, z2⟩
          · exact g4 k a p l hk' hE' ha hp ea eb (h4 l a (by omega) ha hD)
  have init : ∀ m p (j : Nat → Nat → Int32), p + m = 6 → (∀ q, q ≠ w + 1 → j q = i q) → (∀ q, q < p → j (w + 1) q = if cR i np q = true then nI 0 else -1) → ∀ d, 4 ≤ d → am_wp (ax_E xl xs) (ax_cd Y_Ways_measure) (am_sp (ax_E xl xs) ax_cd ax_ml d) Q 2 [some (.ref w), some (.int (nI p))] [] (KS, j) 0 0 := by
    intro m
    induction m with
    | zero =>
      intro p j hp h1 h2 d hd
      have : p = 6 := by omega
      subst this
      refine am_go (am_sp_mo _) (fun q => q == 2 || q == 38) 20 (fun X hX => ?_)
      conv => whnf
      try dsimp only
      refine ⟨fun _ => ?_, fun hh => absurd (by decide) hh⟩
      conv => whnf
      try dsimp only
      refine hX _ _ _ _ _ _ (rounds 5 1 j (by omega) (by omega) h1 (fun p hp => ?_) (fun l p hl hp hD => ?_) d hd)
      · rw [h2 p hp]
        cases e : cR i np p with
        | false => exact Or.inl (if_neg (by decide))
        | true => exact Or.inr ⟨0, by omega, if_pos rfl, e⟩
      · have : l = 0 := by omega
        subst this
        have hD : cR i np p = true := hD
        exact ⟨0, by omega, by omega, by rw [h2 p hp, if_pos hD]⟩
    | succ m ih =>
      intro p j hp h1 h2 d hd
      have e1 : nI p + Int32.ofInt 1 = nI (p + 1) := by rw [li_1, nI_add]
      have hcl : (nI p).toNatClampNeg = p := nI_clamp (by omega)
      have hkj : PK j np nv := hk.fr (h1 1 (by omega)) (h1 10 (by omega))
      have put : ∀ v : Int32, v = (if cR i np p = true then nI 0 else -1) → am_wp (ax_E xl xs) (ax_cd Y_Ways_measure) (am_sp (ax_E xl xs) ax_cd ax_ml d) Q 29 [some (.ref w), some (.int (nI p))] [.int v, .int (nI p), .ref (w + 1)] (KS, j) 0 0 := by
        intro v hv
        have nx := ih (p + 1) (am_up j (w + 1) p v) (by omega) (fun q hq => (up_a hq).trans (h1 q hq)) (fun q hq => by
          rw [up_at]
          by_cases e : q = p
          · rw [if_pos ⟨rfl, e⟩, hv, e]
          · rw [if_neg (fun z => e z.2)]
            exact h2 q (by omega)) d hd
        rcases hw with rfl | rfl
        all_goals
          refine am_go (am_sp_mo _) (fun q => q == 2) 20 (fun X hX => ?_)
          conv => whnf
          try dsimp only
          refine ⟨6, [], rfl, vp_in_nI (by omega) (by decide), ?_⟩
          conv => whnf
          try dsimp only
          rw [e1, hcl]
          exact hX _ _ _ _ _ _ nx
      rcases hw with rfl | rfl
      all_goals
        refine am_go (am_sp_mo _) (fun q => q == 2 || q == 29) 30 (fun X hX => ?_)
        conv => whnf
        try dsimp only
        refine ⟨fun hh => absurd hh (by rw [li_6]; exact nI_ge (by omega) (by decide)), fun _ => ?_⟩
        conv => whnf
        try dsimp only
        refine k_isInstalledRoot hkj (by rw [h1 2 (by decide)]; exact hr) (by omega) (fun p' hp' ep hi hroot => ?_) (fun hno => ?_)
        · have := nI_inj (by omega) (by omega) ep
          subst this
          rw [h1 11 (by decide)] at hi
          rw [h1 2 (by decide)] at hroot
          conv => whnf
          try dsimp only
          refine ⟨fun h => absurd h (by decide), fun _ => ?_⟩
          conv => whnf
          try dsimp only
          refine hX _ _ _ _ _ _ (put (Int32.ofInt 0) ?_)
          rw [if_pos, li_0]
          unfold cR
          rw [decide_eq_true hp', decide_eq_false hi, decide_eq_true hroot]
          rfl
        · conv => whnf
          try dsimp only
          refine ⟨fun _ => ?_, fun h => absurd rfl h⟩
          conv => whnf
          try dsimp only
          refine hX _ _ _ _ _ _ (put (Int32.ofInt (-1)) ?_)
          rw [if_neg, li_m1]
          unfold cR
          intro hcr
          rw [Bool.and_eq_true, Bool.and_eq_true] at hcr
          have hlt := of_decide_eq_true hcr.1
          have := hno p hlt rfl
          rw [h1 11 (by decide), h1 2 (by decide)] at this
          rcases this with z | z
          · rw [decide_eq_true z] at hcr
            cases hcr.2.1
          · rw [z] at hcr
            exact absurd hcr.2.2 (by decide)
  obtain ⟨d, rfl⟩ : ∃ q, d = q + 1 := ⟨d - 1, by omega⟩
  refine ⟨Nat.le_of_ble_eq_true rfl, am_go (am_sp_mo _) (fun q => q == 2) 20 (fun X hX => ?_)⟩
  conv => whnf
  try dsimp only
  exact hX _ _ _ _ _ _ (init 6 0 i (by omega) (fun _ _ => rfl) (fun q hq => absurd hq (by omega)) d (by omega))
end WAYS
