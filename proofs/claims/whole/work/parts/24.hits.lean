/-! HITS: the list; the class's -/
def hlg (T : Nat → Nat → Bool) (p : Nat) : Nat → List (Nat × Nat)
  | 0 => []
  | g + 1 => hlg T p g ++ (if T p g = true then [(p, g)] else [])
def hls (T : Nat → Nat → Bool) (na : Nat) : Nat → List (Nat × Nat)
  | 0 => []
  | p + 1 => hls T na p ++ hlg T p na
theorem hlg_congr {T T' : Nat → Nat → Bool} {p : Nat} : ∀ {g : Nat}, (∀ q, q < g → T p q = T' p q) → hlg T p g = hlg T' p g
  | 0, _ => rfl
  | g + 1, h => by
    unfold hlg
    rw [hlg_congr (fun q hq => h q (by omega)), h g (by omega)]
theorem hls_congr {T T' : Nat → Nat → Bool} {na : Nat} : ∀ {p : Nat}, (∀ q g, q < p → g < na → T q g = T' q g) → hls T na p = hls T' na p
  | 0, _ => rfl
  | p + 1, h => by
    unfold hls
    rw [hls_congr (fun q g hq hg => h q g (by omega) hg), hlg_congr (fun q hq => h p q (by omega) hq)]
/-- which advisories come before a package and a group -/
def lxb (o g : Nat → Nat) (p q a : Nat) : Bool := decide (o a < p) || (decide (o a = p) && decide (g a < q))
theorem hl_bd {T : Nat → Nat → Bool} {o gr : Nat → Nat} {na np : Nat} (hT : ∀ p g, p < np → g < na → T p g = true → ∃ a, a < na ∧ o a = p ∧ gr a = g) (hg : ∀ a, a < na → gr a < na) : ∀ p, p ≤ np → (hls T na p).length ≤ bcnt (lxb o gr p 0) na ∧ (p < np → ∀ g, g ≤ na → (hls T na p ++ hlg T p g).length ≤ bcnt (lxb o gr p g) na) := by
  have gs : ∀ p, p < np → (hls T na p).length ≤ bcnt (lxb o gr p 0) na → ∀ g, g ≤ na → (hls T na p ++ hlg T p g).length ≤ bcnt (lxb o gr p g) na := by
    intro p hp h0 g
    induction g with
    | zero => intro _; rw [hlg, List.append_nil]; exact h0
    | succ g ih =>
      intro hg'
      have ih := ih (by omega)
      have mono : ∀ a, a < na → lxb o gr p g a = true → lxb o gr p (g + 1) a = true := by
        intro a _ h
        unfold lxb at *
        rw [Bool.or_eq_true, Bool.and_eq_true, decide_eq_true_eq, decide_eq_true_eq, decide_eq_true_eq] at *
        omega
      have hm := bcnt_mono mono
      unfold hlg
      cases e : T p g with
      | false =>
        rw [if_neg (by decide), List.append_nil]
        omega
      | true =>
        rw [if_pos rfl, ← List.append_assoc, List.length_append]
        have : bcnt (lxb o gr p g) na < bcnt (lxb o gr p (g + 1)) na := by
          rcases Nat.lt_or_ge (bcnt (lxb o gr p g) na) (bcnt (lxb o gr p (g + 1)) na) with q | q
          · exact q
          · obtain ⟨a, ha, ho, hga⟩ := hT p g hp (by omega) e
            have := bcnt_same mono q a ha
            unfold lxb at this
            rw [ho, hga] at this
            simp at this
        show (hls T na p ++ hlg T p g).length + 1 ≤ _
        omega
  intro p
  induction p with
  | zero => intro _; exact ⟨Nat.zero_le _, fun h => gs 0 h (Nat.zero_le _)⟩
  | succ p ih =>
    intro hp
    have h1 := (ih (by omega)).2 (by omega) na (Nat.le_refl _)
    have h2 : bcnt (lxb o gr p na) na ≤ bcnt (lxb o gr (p + 1) 0) na := bcnt_mono (fun a _ h => by
      unfold lxb at *
      rw [Bool.or_eq_true, Bool.and_eq_true, decide_eq_true_eq, decide_eq_true_eq, decide_eq_true_eq] at *
      omega)
    have h3 : (hls T na (p + 1)).length ≤ bcnt (lxb o gr (p + 1) 0) na := by unfold hls; omega
    exact ⟨h3, fun h => gs (p + 1) h h3⟩
theorem hl_lt {T : Nat → Nat → Bool} {o gr : Nat → Nat} {na np : Nat} (hT : ∀ p g, p < np → g < na → T p g = true → ∃ a, a < na ∧ o a = p ∧ gr a = g) (hg : ∀ a, a < na → gr a < na) {p g : Nat} (hp : p < np) (hgg : g < na) (e : T p g = true) : (hls T na p ++ hlg T p g).length < na := by
  have h1 := (hl_bd hT hg p (by omega)).2 hp (g + 1) (by omega)
  have h2 := bcnt_le (lxb o gr p (g + 1)) na
  unfold hlg at h1
  rw [e, if_pos rfl, ← List.append_assoc, List.length_append] at h1
  have h1 : (hls T na p ++ hlg T p g).length + 1 ≤ _ := h1
  omega
theorem hl_le {T : Nat → Nat → Bool} {o gr : Nat → Nat} {na np : Nat} (hT : ∀ p g, p < np → g < na → T p g = true → ∃ a, a < na ∧ o a = p ∧ gr a = g) (hg : ∀ a, a < na → gr a < na) : (hls T na np).length ≤ na := by
  have h1 := (hl_bd hT hg np (Nat.le_refl _)).1
  have h2 := bcnt_le (lxb o gr np 0) na
  omega
def RW (row V : Nat → Nat → Nat → Int32) (R : List (Nat × Nat)) : Prop := ∀ q, q < R.length → ∀ w, w < 6 → row 0 q w = V (R.getD q (0, 0)).1 (R.getD q (0, 0)).2 w
theorem getD_snoc (R : List (Nat × Nat)) (x : Nat × Nat) (q : Nat) : (R ++ [x]).getD q (0, 0) = if q < R.length then R.getD q (0, 0) else if q = R.length then x else (0, 0) := by
  by_cases h : q < R.length
  · rw [if_pos h, List.getD_eq_getElem?_getD, List.getD_eq_getElem?_getD, List.getElem?_append_left h]
  · rw [if_neg h, List.getD_eq_getElem?_getD, List.getElem?_append_right (by omega)]
    by_cases h2 : q = R.length
    · subst h2
      rw [if_pos rfl, Nat.sub_self]
      rfl
    · rw [if_neg h2, List.getElem?_eq_none (by show 1 ≤ _; omega)]
      rfl
theorem RW.snoc {row row' V : Nat → Nat → Nat → Int32} {R : List (Nat × Nat)} {p g : Nat} (h : RW row V R) (h1 : ∀ q, q < R.length → ∀ w, w < 6 → row' 0 q w = row 0 q w) (h2 : ∀ w, w < 6 → row' 0 R.length w = V p g w) : RW row' V (R ++ [(p, g)]) := by
  intro q hq w hw
  rw [List.length_append] at hq
  have hq : q < R.length + 1 := hq
  rw [getD_snoc]
  by_cases e : q < R.length
  · rw [if_pos e, h1 q e w hw]; exact h q e w hw
  · have : q = R.length := by omega
    subst this
    rw [if_neg e, if_pos rfl]
    exact h2 w hw
def hvl (S : Nat → Nat → Int32) (far rc : Nat → Int32) (ex : Nat → Nat → Bool) (p g w : Nat) : Int32 := if w = 0 then nI p else if w = 1 then nI g else if w = 2 then S p g else if w = 3 then far p else if w = 4 then rc p else if ex p g = true then 1 else 0
theorem mx_congr {f f' : Nat → Bool} {s s' : Nat → Int32} : ∀ {n : Nat}, (∀ a, a < n → f a = f' a) → (∀ a, a < n → s a = s' a) → mx f s n = mx f' s' n
  | 0, _, _ => rfl
  | n + 1, h, g => by
    unfold mx
    rw [mx_congr (fun a ha => h a (by omega)) (fun a ha => g a (by omega)), h n (by omega), g n (by omega)]
theorem mx_ne {f : Nat → Bool} {s : Nat → Int32} : ∀ {n : Nat}, ¬ mx f s n = -1 → ∃ a, a < n ∧ f a = true
  | 0, h => absurd rfl h
  | n + 1, h => by
    cases e : f n with
    | true => exact ⟨n, by omega, e⟩
    | false =>
      unfold mx at h
      rw [e, if_neg (by decide)] at h
      obtain ⟨a, ha, h⟩ := mx_ne h
      exact ⟨a, by omega, h⟩
/-- of the class: the version there, the score there, is it a hit, is it excepted -/
def cvr (i : Nat → Nat → Int32) (p : Nat) : Int32 := i (4 + p) (i 11 p).toNatClampNeg
def cS (i : Nat → Nat → Int32) (sp : Nat → Nat) (na p g : Nat) : Int32 := mx (cgst i sp (nI g) (nI p) (cvr i p)) (i 49) na
def cT (i : Nat → Nat → Int32) (sp : Nat → Nat) (na p g : Nat) : Bool := !(decide (i 11 p = -1)) && !(decide (cS i sp na p g = -1))
def cX (i : Nat → Nat → Int32) (p g : Nat) : Bool := decide (i 0 8 < i (54 + g) p)
def cV (i : Nat → Nat → Int32) (sp : Nat → Nat) (na : Nat) : Nat → Nat → Nat → Int32 := hvl (cS i sp na) (i 67) (fun p => if i 69 p = -1 then 0 else 1) (cX i)
section HITS
variable {xl : Nat} {xs : Nat → Int32} {d : Nat} {i : Nat → Nat → Int32} {Q : am_Q} {np nn na : Nat} {nv sp : Nat → Nat}
theorem k_noteHitsOf {p : Nat} {I : Nat → Nat → Int32} {R : List (Nat × Nat)} (hf : ∀ q, q ≠ 70 → (q < 72 ∨ 83 < q) → i q = I q) (hk : PK I np nv) (hA : AK I na sp) (hw : ∀ a, I 50 a = 0 ∨ I 50 a = 1) (hpl : ∀ p, p < np → I 11 p = -1 ∨ ∃ k, k < nv p ∧ I 11 p = nI k) (hv : ∀ p k, p < 6 → k < nv p → ¬ I (4 + p) k = -1) (hp : p < np)
    (hR : i 70 1 = nI R.length) (hRW : RW (fun _ q => i (72 + q)) (cV I sp na) R) (hb : ∀ g, g < na → cT I sp na p g = true → (R ++ hlg (cT I sp na) p g).length < 12) (hd : 5 ≤ d)
    (h : ∀ j : Nat → Nat → Int32, (∀ q, q ≠ 70 → (q < 72 ∨ 83 < q) → j q = I q) → j 70 1 = nI (R ++ hlg (cT I sp na) p na).length → RW (fun _ q => j (72 + q)) (cV I sp na) (R ++ hlg (cT I sp na) p na) → Q none (KS, j)) : SP xl xs d Y_AM_noteHitsOf [.ref 0, .int (nI p)] (KS, i) Q := by
  have hn := hk.2.1
  have hna := hA.2.1
  have hki : PK i np nv := hk.fr (hf 1 (by decide) (by decide)) (hf 10 (by decide) (by decide))
  obtain ⟨d, rfl⟩ : ∃ q, d = q + 1 := ⟨d - 1, by omega⟩
  refine ⟨Nat.le_of_ble_eq_true rfl, am_go (am_sp_mo _) (fun q => q == 25) 40 (fun X hX => ?_)⟩
  conv => whnf
  try dsimp only
  refine k_placeOf hki (by omega) (fun p' hp' ep => ?_) (fun hx => absurd rfl (out_np (by omega) hx hp))
  have := nI_inj (by omega) (by omega) ep
  subst this
  conv => whnf
  try dsimp only
  rw [hf 11 (by decide) (by decide)]
  rcases hpl p hp with hm | ⟨k, hk', ek⟩
  · have hT : ∀ g, cT I sp na p g = false := fun g => by unfold cT; rw [decide_eq_true hm]; rfl
    have hnil : ∀ g, hlg (cT I sp na) p g = [] := by
      intro g
      induction g with
      | zero => rfl
      | succ g ih => unfold hlg; rw [ih, hT, if_neg (by decide)]; rfl
    rw [hnil, List.append_nil] at h
    rw [hm]
    refine k_versionAt hki (by omega) (fun p2 k2 hp2 hk2 _ e2 => absurd e2.symm (nI_m1 (by have := (hk.2.2 p2 (by omega)).2; omega))) (fun _ => ?_)
    conv => whnf
    try dsimp only
    refine ⟨fun h => absurd (by decide) h, fun _ => ?_⟩
    conv => whnf
    try dsimp only
    exact h i hf hR hRW
  have h5 := (hk.2.2 p (by omega)).2
  rw [ek]
  refine k_versionAt hki (by omega) (fun p2 k2 hp2 hk2 e1 e2 => ?_) (fun hno => absurd ⟨rfl, rfl⟩ (hno p k hp hk'))
  have := nI_inj (by omega) (by omega) e1
  subst this
  have := nI_inj (by omega) (by have := (hk.2.2 p (by omega)).2; omega) e2
  subst this
  conv => whnf
  try dsimp only
  rw [hf (4 + p) (by omega) (by omega)]
  have hcv : cvr I p = I (4 + p) k := by unfold cvr; rw [ek, nI_clamp (by omega)]
  refine ⟨fun _ => ?_, fun e => absurd e (hv p k (by omega) hk')⟩
  conv => whnf
  try dsimp only
  refine hX _ _ _ _ _ _ ?_
  have loop : ∀ m g o4 o5 o6 (j : Nat → Nat → Int32), g + m = na → (∀ q, q ≠ 70 → (q < 72 ∨ 83 < q) → j q = I q) → j 70 1 = nI (R ++ hlg (cT I sp na) p g).length → RW (fun _ q => j (72 + q)) (cV I sp na) (R ++ hlg (cT I sp na) p g) → am_wp (ax_E xl xs) (ax_cd Y_AM_noteHitsOf) (am_sp (ax_E xl xs) ax_cd ax_ml d) Q 25 [some (.ref 0), some (.int (nI p)), some (.int (I (4 + p) k)), some (.int (nI g)), o4, o5, o6] [] (KS, j) 0 0 := by
    intro m
    induction m with
    | zero =>
      intro g o4 o5 o6 j hg h1 h2 h3
      have : g = na := by omega
      subst this
      refine am_go (am_sp_mo _) (fun q => q == 25) 20 (fun X hX => ?_)
      conv => whnf
      try dsimp only
      refine k_Adv_count (by omega) ?_
      conv => whnf
      try dsimp only
      rw [h1 20 (by decide) (by decide), hA.1]
      refine ⟨fun _ => ?_, fun hh => absurd (nI_le (Nat.le_refl _) (by omega)) hh⟩
      conv => whnf
      try dsimp only
      exact h j h1 h2 h3
    | succ m ih =>
      intro g o4 o5 o6 j hg h1 h2 h3
      have e1 : nI g + Int32.ofInt 1 = nI (g + 1) := by rw [li_1, nI_add]
      have hAj : AK j na sp := hA.fr (h1 20 (by decide) (by decide)) (h1 48 (by decide) (by decide))
      have hmx : mx (cgst j sp (nI g) (nI p) (I (4 + p) k)) (j 49) na = cS I sp na p g := by
        unfold cS
        rw [hcv, h1 49 (by decide) (by decide)]
        refine mx_congr (fun a ha => ?_) (fun _ _ => rfl)
        unfold cgst cstk stk chas
        rw [h1 51 (by decide) (by decide), h1 21 (by decide) (by decide), h1 50 (by decide) (by decide), h1 (23 + a) (by omega) (by omega), h1 (36 + a) (by omega) (by omega)]
      refine am_go (am_sp_mo _) (fun q => q == 25 || q == 71 || q == 94) 80 (fun X hX => ?_)
      conv => whnf
      try dsimp only
      refine k_Adv_count (by omega) ?_
      conv => whnf
      try dsimp only
      rw [h1 20 (by decide) (by decide), hA.1]
      refine ⟨fun hh => absurd hh (nI_ge (by omega) (by omega)), fun _ => ?_⟩
      conv => whnf
      try dsimp only
      refine k_scoreThere hAj (by rw [h1 50 (by decide) (by decide)]; exact hw) (by omega) ?_
      conv => whnf
      try dsimp only
      rw [hmx]
      refine ⟨fun hs => ?_, fun hs => ?_⟩
      · have hT : cT I sp na p g = false := by unfold cT; rw [show decide (cS I sp na p g = -1) = true from decide_eq_true hs]; simp
        conv => whnf
        try dsimp only
        rw [e1]
        refine hX _ _ _ _ _ _ (ih (g + 1) _ o5 o6 j (by omega) h1 ?_ ?_)
        · unfold hlg; rw [hT, if_neg (by decide), List.append_nil]; exact h2
        · unfold hlg; rw [hT, if_neg (by decide), List.append_nil]; exact h3
      have hT : cT I sp na p g = true := by unfold cT; rw [show decide (cS I sp na p g = -1) = false from decide_eq_false hs, show decide (I 11 p = -1) = false from decide_eq_false (by rw [ek]; exact nI_m1 (by omega))]; rfl
      have hlt := hb g (by omega) hT
      have fin : ∀ r x : Int32, r = (if I 69 p = -1 then 0 else 1) → x = (if cX I p g = true then 1 else 0) → am_wp (ax_E xl xs) (ax_cd Y_AM_noteHitsOf) (am_sp (ax_E xl xs) ax_cd ax_ml d) Q 94 [some (.ref 0), some (.int (nI p)), some (.int (I (4 + p) k)), some (.int (nI g)), some (.int (cS I sp na p g)), some (.int r), o6] [.int x] (KS, j) 0 0 := by
        intro r x hr hx
        refine am_go (am_sp_mo _) (fun q => q == 25) 40 (fun X hX => ?_)
        conv => whnf
        try dsimp only
        refine k_lengthTo (Or.inl rfl) (by omega) (by omega) ?_
        conv => whnf
        try dsimp only
        refine k_hlAdd h2 hlt (by omega) (fun j2 g1 g2 g3 g4 g5 g6 g7 g8 => ?_)
        conv => whnf
        try dsimp only
        rw [e1]
        refine hX _ _ _ _ _ _ (ih (g + 1) _ _ _ j2 (by omega) (fun q q1 q2 => (g1 q (by omega) q1).trans (h1 q q1 q2)) ?_ ?_)
        · unfold hlg
          rw [hT, if_pos rfl, ← List.append_assoc, List.length_append (bs := [(p, g)]), g2]
          rfl
        · unfold hlg
          rw [hT, if_pos rfl, ← List.append_assoc]
          refine h3.snoc (fun q hq w hw => ?_) (fun w hw => ?_)
          · show j2 (72 + q) w = j (72 + q) w
            rw [g1 (72 + q) (by omega) (by omega)]
          · show j2 (72 + _) w = _
            have cs : w = 0 ∨ w = 1 ∨ w = 2 ∨ w = 3 ∨ w = 4 ∨ w = 5 := by omega
            unfold cV hvl
            rcases cs with rfl | rfl | rfl | rfl | rfl | rfl
            · rw [g3]; rfl
            · rw [g4]; rfl
            · rw [g5]; rfl
            · rw [g6, h1 67 (by decide) (by decide)]; rfl
            · rw [g7, hr]; rfl
            · rw [g8, hx]; rfl
      have mid : ∀ r : Int32, r = (if I 69 p = -1 then 0 else 1) → am_wp (ax_E xl xs) (ax_cd Y_AM_noteHitsOf) (am_sp (ax_E xl xs) ax_cd ax_ml d) Q 71 [some (.ref 0), some (.int (nI p)), some (.int (I (4 + p) k)), some (.int (nI g)), some (.int (cS I sp na p g)), o5, o6] [.int r] (KS, j) 0 0 := by
        intro r hr
        refine am_go (am_sp_mo _) (fun q => q == 94) 40 (fun X hX => ?_)
        conv => whnf
        try dsimp only
        refine k_exHolds (by omega) (by omega) (by omega) (fun b hb' => ?_)
        rw [h1 0 (by decide) (by decide), h1 (54 + g) (by omega) (by omega)] at hb'
        cases b with
        | false =>
          conv => whnf
          try dsimp only
          refine ⟨fun _ => ?_, fun h => absurd rfl h⟩
          conv => whnf
          try dsimp only
          exact hX _ _ _ _ _ _ (fin r _ hr (by unfold cX; rw [← hb']; rfl))
        | true =>
          conv => whnf
          try dsimp only
          refine ⟨fun h => absurd h (by decide), fun _ => ?_⟩
          conv => whnf
          try dsimp only
          exact hX _ _ _ _ _ _ (fin r _ hr (by unfold cX; rw [← hb']; rfl))
      conv => whnf
      try dsimp only
      refine k_lengthTo (Or.inr rfl) (by omega) (by omega) ?_
      conv => whnf
      try dsimp only
      rw [h1 69 (by decide) (by decide)]
      refine ⟨fun hl => ?_, fun hl => ?_⟩
      · conv => whnf
        try dsimp only
        exact hX _ _ _ _ _ _ (mid _ (by rw [if_neg (show ¬ I 69 p = -1 from hl)]; decide))
      · conv => whnf
        try dsimp only
        exact hX _ _ _ _ _ _ (mid _ (by rw [if_pos (show I 69 p = -1 from hl)]; decide))
  exact loop na 0 none none none i (by omega) hf (by rw [hlg, List.append_nil]; exact hR) (by rw [hlg, List.append_nil]; exact hRW)
theorem cT_adv {I : Nat → Nat → Int32} {ow gr : Nat → Nat} (hna : na ≤ 12) (ho : ∀ a, a < na → I 21 a = nI (ow a) ∧ ow a < 6) (hg : ∀ a, a < na → I 51 a = nI (gr a) ∧ gr a < na) {p g : Nat} (hp : p < 6) (hgg : g < na) (h : cT I sp na p g = true) : ∃ a, a < na ∧ ow a = p ∧ gr a = g := by
  unfold cT at h
  rw [Bool.and_eq_true] at h
  have hne : ¬ cS I sp na p g = -1 := fun e => by rw [decide_eq_true e] at h; cases h.2
  unfold cS at hne
  obtain ⟨a, ha, h⟩ := mx_ne hne
  unfold cgst cstk stk at h
  rw [Bool.and_eq_true, Bool.and_eq_true] at h
  have h1 := of_decide_eq_true h.1
  have h2 := of_decide_eq_true h.2.1
  have hoa := ho a ha
  have hga := hg a ha
  rw [hga.1] at h1
  rw [hoa.1] at h2
  exact ⟨a, ha, nI_inj (by omega) (by omega) h2, nI_inj (by omega) (by omega) h1⟩
theorem c_hits {ow gr : Nat → Nat} (hk : PK i np nv) (hA : AK i na sp) (hw : ∀ a, i 50 a = 0 ∨ i 50 a = 1) (hpl : ∀ p, p < np → i 11 p = -1 ∨ ∃ k, k < nv p ∧ i 11 p = nI k) (hv : ∀ p k, p < 6 → k < nv p → ¬ i (4 + p) k = -1) (hr : ∀ p, i 2 p = 0 ∨ i 2 p = 1) (hN : NK i nn) (hcb : ∀ k, i 19 k = 0 ∨ i 19 k = 1) (hw0 : i 66 2 = 0) (hw1 : i 68 2 = 1)
    (ho : ∀ a, a < na → i 21 a = nI (ow a) ∧ ow a < 6) (hg : ∀ a, a < na → i 51 a = nI (gr a) ∧ gr a < na) (hd : 6 ≤ d)
    (h : ∀ I j : Nat → Nat → Int32, (∀ q, q ≠ 67 → q ≠ 69 → I q = i q) → (∀ p, p < 6 → isD (rch (cR i np) (cE i 66) (i 14) (i 16) nn) p (I 67 p)) → (∀ p, p < 6 → isD (rch (cR i np) (cE i 68) (i 14) (i 16) nn) p (I 69 p)) → (∀ q, q ≠ 70 → (q < 72 ∨ 83 < q) → j q = I q) → (hls (cT I sp na) na np).length ≤ 12 → j 70 1 = nI (hls (cT I sp na) na np).length → RW (fun _ q => j (72 + q)) (cV I sp na) (hls (cT I sp na) na np) → Q (some (.int (nI (hls (cT I sp na) na np).length))) (KS, j)) : SP xl xs d Y_AM_hits [.ref 0] (KS, i) Q := by
  have hn := hk.2.1
  have hna := hA.2.1
  obtain ⟨d, rfl⟩ : ∃ q, d = q + 1 := ⟨d - 1, by omega⟩
  refine ⟨Nat.le_of_ble_eq_true rfl, am_go (am_sp_mo _) (fun q => q == 23) 30 (fun X hX => ?_)⟩
  conv => whnf
  try dsimp only
  refine k_measure (Or.inl rfl) hk hr hN hcb (Or.inl hw0) (by omega) (fun J1 a1 a2 => ?_)
  conv => whnf
  try dsimp only
  have hkJ : PK J1 np nv := hk.fr (a1 1 (by decide)) (a1 10 (by decide))
  have hNJ : NK J1 nn := by
    unfold NK
    rw [a1 13 (by decide), a1 14 (by decide), a1 16 (by decide)]
    exact hN
  refine k_measure (Or.inr rfl) hkJ (by rw [a1 2 (by decide)]; exact hr) hNJ (by rw [a1 19 (by decide)]; exact hcb) (Or.inr (by rw [a1 68 (by decide)]; exact hw1)) (by omega) (fun I b1 b2 => ?_)
  have e1 : cR J1 np = cR i np := by funext p; unfold cR; rw [a1 11 (by decide), a1 2 (by decide)]
  have e2 : cE J1 68 = cE i 68 := by funext k; unfold cE cact chld; rw [a1 12 (by decide), a1 14 (by decide), a1 15 (by decide), a1 16 (by decide), a1 17 (by decide), a1 18 (by decide), a1 19 (by decide), a1 68 (by decide)]
  rw [e1, e2, a1 14 (by decide), a1 16 (by decide)] at b2
  have fI : ∀ q, q ≠ 67 → q ≠ 69 → I q = i q := fun q q1 q2 => (b1 q q2).trans (a1 q q1)
  have hkI : PK I np nv := hk.fr (fI 1 (by decide) (by decide)) (fI 10 (by decide) (by decide))
  have hAI : AK I na sp := hA.fr (fI 20 (by decide) (by decide)) (fI 48 (by decide) (by decide))
  have hTa : ∀ p g, p < np → g < na → cT I sp na p g = true → ∃ a, a < na ∧ ow a = p ∧ gr a = g := fun p g hp hgg hT => cT_adv (I := I) hna (by rw [fI 21 (by decide) (by decide)]; exact ho) (by rw [fI 51 (by decide) (by decide)]; exact hg) (by omega) hgg hT
  have hle := hl_le (np := np) hTa (fun a ha => (hg a ha).2)
  conv => whnf
  try dsimp only
  refine k_hlClear (by omega) ?_
  conv => whnf
  try dsimp only
  refine hX _ _ _ _ _ _ ?_
  have loop : ∀ m p (j : Nat → Nat → Int32), p + m = np → (∀ q, q ≠ 70 → (q < 72 ∨ 83 < q) → j q = I q) → j 70 1 = nI (hls (cT I sp na) na p).length → RW (fun _ q => j (72 + q)) (cV I sp na) (hls (cT I sp na) na p) → am_wp (ax_E xl xs) (ax_cd Y_AM_hits) (am_sp (ax_E xl xs) ax_cd ax_ml d) Q 23 [some (.ref 0), some (.int (nI p))] [] (KS, j) 0 0 := by
    intro m
    induction m with
    | zero =>
      intro p j hp h1 h2 h3
      have : p = np := by omega
      subst this
      refine am_go (am_sp_mo _) (fun q => q == 23) 20 (fun X hX => ?_)
      conv => whnf
      try dsimp only
      refine k_Packs_count (by omega) ?_
      conv => whnf
      try dsimp only
      rw [h1 1 (by decide) (by decide), hkI.1]
      refine ⟨fun _ => ?_, fun hh => absurd (nI_le (Nat.le_refl _) (by omega)) hh⟩
      conv => whnf
      try dsimp only
      refine k_hlCount (by omega) ?_
      conv => whnf
      try dsimp only
      exact q_eq (by rw [h2]) rfl (h I j fI (fun p hp => by rw [b1 67 (by decide)]; exact a2 p hp) b2 h1 (by omega) h2 h3)
    | succ m ih =>
      intro p j hp h1 h2 h3
      refine am_go (am_sp_mo _) (fun q => q == 23) 20 (fun X hX => ?_)
      conv => whnf
      try dsimp only
      refine k_Packs_count (by omega) ?_
      conv => whnf
      try dsimp only
      rw [h1 1 (by decide) (by decide), hkI.1]
      refine ⟨fun hh => absurd hh (nI_ge (by omega) (by omega)), fun _ => ?_⟩
      conv => whnf
      try dsimp only
      refine k_noteHitsOf h1 hkI hAI (by rw [fI 50 (by decide) (by decide)]; exact hw) (by rw [fI 11 (by decide) (by decide)]; exact hpl) (fun p k hp => by rw [fI (4 + p) (by omega) (by omega)]; exact hv p k hp) (by omega) h2 h3 (fun g hgg hT => Nat.lt_of_lt_of_le (hl_lt hTa (fun a ha => (hg a ha).2) (by omega) hgg hT) hna) (by omega) (fun j2 g1 g2 g3 => ?_)
      conv => whnf
      try dsimp only
      rw [show nI p + Int32.ofInt 1 = nI (p + 1) by rw [li_1, nI_add]]
      exact hX _ _ _ _ _ _ (ih (p + 1) j2 (by omega) g1 g2 g3)
  exact loop np 0 _ (by omega) (fun q q1 q2 => up_a q1) (by rw [up_s]; rfl) (fun q hq => absurd hq (by show ¬ q < 0; omega))
end HITS
