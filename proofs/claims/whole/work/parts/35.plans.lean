/-! ONE CALL OF EACH: hits and plan -/
theorem mx_all {f : Nat → Bool} {s : Nat → Int32} : ∀ {n : Nat}, (∀ a, a < n → ¬ s a < 0) → (mx f s n = -1 ∧ ∀ a, a < n → f a = false) ∨ ¬ mx f s n < 0
  | 0, _ => Or.inl ⟨rfl, fun a ha => absurd ha (by omega)⟩
  | n + 1, h => by
    have ih := mx_all (f := f) (s := s) (n := n) (fun a ha => h a (by omega))
    have hn := h n (by omega)
    unfold mx
    cases e : f n with
    | false =>
      rw [if_neg (by decide)]
      rcases ih with ⟨h1, h2⟩ | h1
      · refine Or.inl ⟨h1, fun a ha => ?_⟩
        by_cases q : a = n
        · rw [q]; exact e
        · exact h2 a (by omega)
      · exact Or.inr h1
    | true =>
      rw [if_pos rfl]
      refine Or.inr ?_
      rcases ih with ⟨h1, _⟩ | h1
      · rw [h1, if_pos (by
          rw [Int32.lt_iff_toInt_lt] at hn ⊢
          rw [show (-1 : Int32).toInt = -1 by decide]
          rw [show (0 : Int32).toInt = 0 by decide] at hn
          omega)]
        exact hn
      · split
        · exact hn
        · exact h1
theorem mx_iff {f : Nat → Bool} {s : Nat → Int32} {n : Nat} (h : ∀ a, a < n → ¬ s a < 0) : ¬ mx f s n = -1 ↔ ∃ a, a < n ∧ f a = true := by
  refine ⟨mx_ne, fun ⟨a, ha, e⟩ z => ?_⟩
  rcases mx_all (f := f) h with ⟨_, h2⟩ | h2
  · rw [h2 a ha] at e; cases e
  · rw [z] at h2; exact h2 (by decide)
theorem hlg_mem {T : Nat → Nat → Bool} {p : Nat} : ∀ {g : Nat} {x : Nat × Nat}, x ∈ hlg T p g → x.1 = p ∧ x.2 < g ∧ T x.1 x.2 = true
  | 0, x, h => by cases h
  | g + 1, x, h => by
    unfold hlg at h
    rw [List.mem_append] at h
    rcases h with h | h
    · obtain ⟨h1, h2, h3⟩ := hlg_mem h
      exact ⟨h1, by omega, h3⟩
    · cases e : T p g with
      | false => rw [e, if_neg (by decide)] at h; cases h
      | true =>
        rw [e, if_pos rfl, List.mem_singleton] at h
        subst h
        exact ⟨rfl, by show g < g + 1; omega, e⟩
theorem hls_mem {T : Nat → Nat → Bool} {na : Nat} : ∀ {p : Nat} {x : Nat × Nat}, x ∈ hls T na p → x.1 < p ∧ x.2 < na ∧ T x.1 x.2 = true
  | 0, x, h => by cases h
  | p + 1, x, h => by
    unfold hls at h
    rw [List.mem_append] at h
    rcases h with h | h
    · obtain ⟨h1, h2, h3⟩ := hls_mem h
      exact ⟨by omega, h2, h3⟩
    · obtain ⟨h1, h2, h3⟩ := hlg_mem h
      exact ⟨by omega, h2, h3⟩
theorem getD_mem {R : List (Nat × Nat)} {q : Nat} (h : q < R.length) : R.getD q (0, 0) ∈ R := by
  rw [List.getD_eq_getElem?_getD, List.getElem?_eq_getElem h]
  exact List.getElem_mem h
theorem pst_rng {V : (Nat → Nat) → Bool} {K : (Nat → Nat) → Nat} {c : Nat → Nat} {s : PSt} {f : Nat → Nat} (hs : ∀ q, q < 6 → s.2 q < c q) (hf : ∀ q, q < 6 → f q < c q) : ∀ q, q < 6 → (pst V K s f).2 q < c q := by
  unfold pst
  split
  · exact hf
  · exact hs
theorem pfo_rng {V : (Nat → Nat) → Bool} {K : (Nat → Nat) → Nat} {c : Nat → Nat} : ∀ (m p : Nat) (f : Nat → Nat) (s : PSt), p + m = 6 → (∀ q, q < 6 → s.2 q < c q) → (∀ q, q < 6 → f q < c q) → ∀ q, q < 6 → (pfo V K c m p f s).2 q < c q
  | 0, _, f, s, _, hs, hf => pst_rng hs hf
  | m + 1, p, f, s, hp, hs, hf => by
    unfold pfo
    have : ∀ n, n ≤ c p → ∀ q, q < 6 → (pfk (fun k s => pfo V K c m (p + 1) (fset f p k) s) n s).2 q < c q := by
      intro n
      induction n with
      | zero => intro _; exact hs
      | succ n ih =>
        intro hn
        refine pfo_rng m (p + 1) (fset f p n) _ (by omega) (ih (by omega)) (fun q hq => ?_)
        by_cases e : q = p
        · rw [e, fset_s]; omega
        · rw [fset_n e]; exact hf q hq
    exact this _ (Nat.le_refl _)
theorem pfo_le {V : (Nat → Nat) → Bool} {K : (Nat → Nat) → Nat} {c : Nat → Nat} : ∀ (m p : Nat) (f : Nat → Nat) (s : PSt), (pfo V K c m p f s).1 ≤ s.1
  | 0, _, f, s => by
    unfold pfo pst
    split
    · rename_i h
      exact Nat.le_of_lt h.2
    · exact Nat.le_refl _
  | m + 1, p, f, s => by
    unfold pfo
    have : ∀ n, (pfk (fun k s => pfo V K c m (p + 1) (fset f p k) s) n s).1 ≤ s.1 := by
      intro n
      induction n with
      | zero => exact Nat.le_refl _
      | succ n ih => exact Nat.le_trans (pfo_le m (p + 1) (fset f p n) _) ih
    exact this _
section PAIRS3
variable {xl : Nat} {xs : Nat → Int32} {i : Nat → Nat → Int32} {np nn na c : Nat} {nv sp gr : Nat → Nat} {ch : Nat → Nat → Nat}
theorem gst_eq (hD : ID i na sp gr) (hS : IS i) {g p v : Int32} {a : Nat} (ha : a < na) : cgst i sp g p v a = mgst i sp g p v a := by
  have hna := hD.2.2.1
  have h3 := (hD.2.2.2.2.2.1 a (by omega)).2.2
  unfold cgst cstk mgst mstk stk chas mhas
  rw [hD.2.2.2.2.2.2.2.2.1, hD.2.2.2.1, hD.2.2.2.2.2.2.1]
  rw [bany_congr (fun k hk => ?_)]
  unfold spn
  have := hS a k (by omega) (by omega)
  rw [this.1, this.2]
theorem stk_eq (hD : ID i na sp gr) (hS : IS i) {p v : Int32} {a : Nat} (ha : a < na) : cstk i sp p v a = mstk i sp p v a := by
  have hna := hD.2.2.1
  have h3 := (hD.2.2.2.2.2.1 a (by omega)).2.2
  unfold cstk mstk stk chas mhas
  rw [hD.2.2.2.1, hD.2.2.2.2.2.2.1]
  rw [bany_congr (fun k hk => ?_)]
  unfold spn
  have := hS a k (by omega) (by omega)
  rw [this.1, this.2]
theorem exc_eq (hD : ID i na sp gr) (hE : IE i na gr) (hT : IT i c) {p a : Nat} (hp : p < 6) (ha : a < na) : cX i p (gr a) = mX i p (gr a) := by
  have hg := hD.cg a ha
  have := hE (gr a) hg.2 (Or.inr ⟨a, ha, rfl⟩) p hp
  have hc := hT.2.2
  unfold cX mX
  rw [hT.1, hT.2.1]
  rcases this with ⟨h1, h2⟩ | ⟨h1, _⟩
  · rw [h1, h2, decide_eq_false (nI_pos (by omega)), decide_eq_false]
    rw [Int32.lt_iff_toInt_lt, nI_toInt (by omega), show (-1 : Int32).toInt = -1 by decide]
    omega
  · rw [h1]
theorem clr_eq (hD : ID i na sp gr) (hS : IS i) (hK : IK i ch) (hE : IE i na gr) (hT : IT i c) {p : Nat} (hp : p < 6) {v : Int32} : cclr i sp gr na p v = !(mbad i sp ch na p v na) := by
  have hna := hD.2.2.1
  have hsc : ∀ a, a < na → ¬ (fun a => msc (ch a)) a < 0 := fun a ha => by
    have := hK.2 a (by omega)
    show ¬ msc (ch a) < 0
    rw [← this.1]; exact this.2
  unfold cclr mbad
  refine congrArg _ (Bool.eq_iff_iff.mpr ?_)
  rw [bany_iff, bany_iff]
  constructor
  · intro ⟨a, ha, h⟩
    rw [Bool.and_eq_true] at h
    have hg := hD.2.2.2.2.2.2.2.2.2 a ha
    have hx := exc_eq hD hE hT hp ha
    have hmg : mgst i sp (nI (gr a)) (nI p) v a = true := by
      rw [← gst_eq hD hS ha]
      unfold cgst
      rw [decide_eq_true hg.1, h.1]
      rfl
    refine ⟨gr a, by omega, ?_⟩
    have hne := (mx_iff (f := mgst i sp (nI (gr a)) (nI p) v) hsc).mpr ⟨a, ha, hmg⟩
    rw [decide_eq_false hne, ← hx]
    show (!(decide (i 0 8 < i (54 + gr a) p)) && !false) = true
    rw [h.2]
    rfl
  · intro ⟨g, hg, h⟩
    rw [Bool.and_eq_true] at h
    obtain ⟨a, ha, hm⟩ := (mx_iff hsc).mp (fun z => by rw [decide_eq_true z] at h; cases h.2)
    have hga := hD.2.2.2.2.2.2.2.2.2 a ha
    rw [← gst_eq hD hS ha] at hm
    unfold cgst at hm
    rw [Bool.and_eq_true] at hm
    have e := of_decide_eq_true hm.1
    rw [hga.1] at e
    have := nI_inj (by omega) (by omega) e
    subst this
    refine ⟨a, ha, ?_⟩
    rw [hm.2]
    have hx := exc_eq hD hE hT hp ha
    have h1 := h.1
    rw [← hx] at h1
    exact h1
theorem p_plan (hI : INV i) : PRD xl xs Y_AM_plan Y_Model_plan [] i := by
  obtain ⟨np, nv, nn, na, sp, gr, ch, c, nh, hA, hB, hC, hD, hS, hK, hE, hT, hG, hH, hM⟩ := hI
  have hn := hA.2.2.1
  have hna := hD.2.2.1
  obtain ⟨z, hzd⟩ : ∃ z : Nat → Nat, z = fun p => if p < np then (i 93 p).toNatClampNeg else 0 := ⟨_, rfl⟩
  have hzv : ∀ p, p < np → i 93 p = -1 ∨ (z p < nv p ∧ i 93 p = nI (z p)) := fun p hp => by
    have h5 := (hA.2.2.2.1 p (by omega)).2.2
    rcases hB.2.1 p hp with h | ⟨k, hk, h⟩
    · exact Or.inl h
    · have : z p = k := by rw [hzd]; show (if p < np then (i 93 p).toNatClampNeg else 0) = k; rw [if_pos hp, h, nI_clamp (by omega)]
      rw [this]
      exact Or.inr ⟨hk, h⟩
  have hz5 : ∀ p, z p < 5 := fun p => by
    by_cases hp : p < np
    · rcases hB.2.1 p hp with h | ⟨k, hk, h⟩
      · rw [hzd]; show (if p < np then (i 93 p).toNatClampNeg else 0) < 5; rw [if_pos hp, h]; decide
      · have h5 := (hA.2.2.2.1 p (by omega)).2.2
        rw [hzd]; show (if p < np then (i 93 p).toNatClampNeg else 0) < 5; rw [if_pos hp, h, nI_clamp (by omega)]; omega
    · rw [hzd]; show (if p < np then (i 93 p).toNatClampNeg else 0) < 5; rw [if_neg hp]; omega
  have hcl : ∀ p, p < np → i 11 p = -1 ∨ (z p < nv p ∧ i 11 p = nI (z p)) := fun p hp => by rw [hB.1 p (by omega)]; exact hzv p hp
  refine c_plan (z := z) (gr := gr) hA.pk hC.nk hD.ak hD.2.2.2.2.2.2.2.1 hD.cg hcl hz5 hM.2.2.1 (by omega) (fun I g1 g2 g3 => ?_)
  have hins : cins I np = pins (i 93) np := by
    funext p
    show pins (I 11) np p = pins (i 93) np p
    unfold pins
    rw [g1 11 (by decide)]
    by_cases hp : p < np
    · rw [hB.1 p (by omega)]
    · rw [decide_eq_false hp]; rfl
  -- what the reference finds is the same
  have eqS : ∀ J : Nat → Nat → Int32, (∀ q, 90 ≤ q → q ≠ 112 → J q = i q) → (∀ p k, p < np → k < nv p → mcl J p k = !(mbad i sp ch na p (i 92 (5 * p + k)) na)) → mfo J np nn nv z 6 0 (fun _ => 0) (210, fun _ => 0) = cfo I np nn nv z 6 0 (fun _ => 0) (210, fun _ => 0) ∧ mins J np = cins I np := by
    intro J j1 j2
    have hmi : mins J np = cins I np := by rw [hins]; show pins (J 93) np = _; rw [j1 93 (by decide) (by decide)]
    have hmc : mc J np nv = cc I np nv := by funext p; unfold mc cc; rw [hmi]
    refine ⟨?_, hmi⟩
    have c1 : ∀ q, q < 6 → 0 < mc J np nv q := fun q hq => by
      unfold mc
      cases hi : mins J np q with
      | false => rw [if_neg (by decide)]; omega
      | true =>
        rw [if_pos rfl]
        rw [hmi, hins] at hi
        obtain ⟨h1, h2⟩ := pins_of hi
        have := (hzv q h1).resolve_left h2
        omega
    refine pfo_congr (fun f hf => ?_) (fun f hf => by rw [hmi]) (fun q _ => by rw [hmc]) 6 0 _ _ (by omega) c1
    have hf5 : ∀ p, p < 6 → f p < 5 := fun p hp => by
      have h1 := hf p hp
      have h2 := (hA.2.2.2.1 p hp).2.2
      unfold mc at h1
      split at h1 <;> omega
    have hvs : ∀ p, p < 6 → vers (mins J np) (mver J) f p = vers (cins I np) (cver I) f p := fun p hp => by
      unfold vers
      rw [hmi]
      by_cases e : cins I np p = true
      · rw [if_pos e, if_pos e]
        show J 92 (5 * p + f p) = I (4 + p) (f p)
        rw [j1 92 (by decide) (by decide), g1 (4 + p) (by omega), hA.2.2.2.2.2.2.1 p (f p) hp (hf5 p hp)]
      · rw [if_neg e, if_neg e]
    show vld _ _ _ _ nn f = vld _ _ _ _ nn f
    unfold vld
    have e1 : bany (fun p => mins J np p && !(mcl J p (f p))) 6 = bany (fun p => cins I np p && !(ccl I p (f p))) 6 := bany_congr fun p hp => by
      show (mins J np p && !(mcl J p (f p))) = (cins I np p && !(ccl I p (f p)))
      have hfp := hf p hp
      unfold mc at hfp
      rw [hmi] at hfp ⊢
      cases e : cins I np p with
      | false => rfl
      | true =>
        rw [if_pos e] at hfp
        have hpn := (pins_of e).1
        have h5 := (hA.2.2.2.1 p hp).2.2
        rw [j2 p (f p) hpn hfp, g3 p (f p) hpn hfp, clr_eq hD hS hK hE hT hp, hA.2.2.2.2.2.2.1 p (f p) hp (by omega)]
    have e2 : bany (mB J (vers (mins J np) (mver J) f)) nn = bany (cB I (vers (cins I np) (cver I) f)) nn := bany_congr fun k hk => by
      obtain ⟨a, b, ha, hb, ea, eb⟩ := hC.2.2.2.2.1 k hk
      obtain ⟨h4, h5, h6, h7, h8, h9⟩ := hC.2.2.2.1
      show nbrk (J 94) (J 95) (J 96) (J 97) (J 98) _ k = nbrk (I 14) (I 15) (I 16) (I 17) (I 18) _ k
      rw [j1 94 (by decide) (by decide), j1 95 (by decide) (by decide), j1 96 (by decide) (by decide), j1 97 (by decide) (by decide), j1 98 (by decide) (by decide), g1 14 (by decide), g1 15 (by decide), g1 16 (by decide), g1 17 (by decide), g1 18 (by decide), ← h4, ← h5, ← h6, ← h7, ← h8]
      exact nbrk_at ha hb ea eb (hvs a ha) (hvs b hb)
    rw [e1, e2]
  have hrng : ∀ q, q < 6 → (cfo I np nn nv z 6 0 (fun _ => 0) (210, fun _ => 0)).2 q < cc I np nv q := by
    have c1 : ∀ q, q < 6 → 0 < cc I np nv q := fun q hq => by
      unfold cc
      cases hi : cins I np q with
      | false => rw [if_neg (by decide)]; omega
      | true =>
        rw [if_pos rfl]
        rw [hins] at hi
        obtain ⟨h1, h2⟩ := pins_of hi
        have := (hzv q h1).resolve_left h2
        omega
    exact pfo_rng 6 0 _ _ (by omega) c1 c1
  have hle : (cfo I np nn nv z 6 0 (fun _ => 0) (210, fun _ => 0)).1 ≤ 210 := pfo_le 6 0 _ _
  -- the reference's side
  have ref : ∀ j : Nat → Nat → Int32, (∀ q, q ≠ 84 → q ≠ 86 → q ≠ 87 → q ≠ 88 → j q = I q) → ∀ Q : am_Q, (∀ J j' : Nat → Nat → Int32, (∀ q, q ≠ 112 → J q = j q) → (∀ q, J 112 q = 0 ∨ J 112 q = 1) → (∀ q, q ≠ 89 → q ≠ 111 → q ≠ 113 → q ≠ 114 → j' q = J q) → (∀ q, q ≠ 29 → j' 89 q = J 89 q) → j' 89 29 = 1 → (∀ q, q < 6 → j' 114 q = pvv (cins I np) q ((cfo I np nn nv z 6 0 (fun _ => 0) (210, fun _ => 0)).2 q)) → (cfo I np nn nv z 6 0 (fun _ => 0) (210, fun _ => 0)).1 < 210 → Q (some (.int (nI ((cfo I np nn nv z 6 0 (fun _ => 0) (210, fun _ => 0)).1 / 30)))) (KS, j')) → (∀ J j' : Nat → Nat → Int32, (∀ q, q ≠ 112 → J q = j q) → (∀ q, J 112 q = 0 ∨ J 112 q = 1) → (∀ q, q ≠ 111 → q ≠ 113 → j' q = J q) → (cfo I np nn nv z 6 0 (fun _ => 0) (210, fun _ => 0)).1 = 210 → Q (some (.int (-1))) (KS, j')) → SP xl xs 60 Y_Model_plan [.ref 89] (KS, j) Q := by
    intro j hj Q q1 q0
    have hj9 : ∀ q, 89 ≤ q → j q = i q := fun q hq => (hj q (by omega) (by omega) (by omega) (by omega)).trans (g1 q (by omega))
    have hkj : MPK j np nv := by
      have := hA.mpk
      unfold MPK at this ⊢
      rw [hj9 89 (by decide), hj9 91 (by decide)]
      exact this
    have hAj : MAK j na sp := by
      have := hD.mak
      unfold MAK at this ⊢
      rw [hj9 89 (by decide), hj9 101 (by decide)]
      exact this
    have hNj : MNK j nn := by
      have := hC.mnk
      unfold MNK at this ⊢
      rw [hj9 89 (by decide), hj9 94 (by decide), hj9 96 (by decide)]
      exact this
    refine m_plan (z := z) (ch := ch) hkj hAj (by rw [hj9 105 (by decide), ← hD.2.2.2.2.2.2.1]; exact hD.2.2.2.2.2.2.2.1) (by rw [hj9 104 (by decide)]; exact hK.1) hNj (by rw [hj9 92 (by decide)]; exact hA.2.2.2.2.2.2.2) (by rw [hj9 112 (by decide)]; exact hM.2.2.2.2) (by rw [hj9 93 (by decide)]; exact hzv) (by rw [hj9 93 (by decide)]; exact hB.2.2.1) hz5 (by omega) (fun J k1 k2 k3 => ?_)
    have hbad : ∀ p v, mbad j sp ch na p v = mbad i sp ch na p v := fun p v => by
      unfold mbad mX mgst mstk stk mhas
      rw [hj9 89 (by decide), hj9 107 (by decide), hj9 106 (by decide), hj9 100 (by decide), hj9 105 (by decide), hj9 102 (by decide), hj9 103 (by decide)]
    obtain ⟨eS, eI⟩ := eqS J (fun q hq hq2 => (k1 q hq2).trans (hj9 q (by omega))) (fun p k hp hk => by rw [k3 p k hp hk, hbad, hj9 92 (by decide)])
    rw [eS, eI]
    exact ⟨fun hlt j' a1 a2 a3 a4 => q1 J j' k1 k2 a1 a2 a3 a4 hlt, fun he j' a1 => q0 J j' k1 k2 a1 he⟩
  generalize cfo I np nn nv z 6 0 (fun _ => 0) (210, fun _ => 0) = S at *
  refine ⟨fun hlt j a1 a2 a3 => ⟨_, j, rfl, rfl, ref j a1 _ (fun J j' b1 b2 b3 b4 b5 b6 _ => ?_) (fun J j' b1 b2 b3 he => absurd he (by omega))⟩, fun he j a1 a2 a3 => ⟨_, j, rfl, rfl, ref j a1 _ (fun J j' b1 b2 b3 b4 b5 b6 hlt => absurd he (by omega)) (fun J j' b1 b2 b3 _ => ?_)⟩⟩
  · have F1 : FRM [85, 84, 86, 87, 88] [] i j := ⟨fun q hq _ => by
      simp at hq
      rw [a1 q (by omega) (by omega) (by omega) (by omega), g1 q (by omega)], fun k _ => by rw [a1 89 (by decide) (by decide) (by decide) (by decide), g1 89 (by decide)]⟩
    have F2 : FRM [112, 111, 113, 114] [29] j j' := ⟨fun q hq h9 => by
      simp at hq
      rw [b3 q h9 (by omega) (by omega) (by omega), b1 q (by omega)], fun k hk => by
      simp at hk
      rw [b4 k (by omega), b1 89 (by decide)]⟩
    have F := F1.tr F2
    refine ⟨j', rfl, rfl, np, nv, nn, na, sp, gr, ch, c, nh, hA.fr F (by decide) (by decide), hB.fr F (by decide) (by decide), hC.fr F (by decide) (by decide), hD.fr F (by decide) (by decide), hS.fr F (by decide) (by decide), hK.fr F (by decide) (by decide), hE.fr F (by decide) (by decide), hT.fr F (by decide) (by decide), hG.fr F (by decide) (by decide), ?_, ?_⟩
    · have e84 : j' 84 7 = 1 := by rw [F2.1 84 rfl (by decide)]; exact a2
      refine ⟨by rw [e84, b5], Or.inr e84, fun p hp => ?_, fun p hp => ?_, fun p hp hp6 => ?_⟩
      · rw [F2.1 88 rfl (by decide), a3 p hp, b6 p hp]
      · rw [b6 p (by omega)]
        unfold pvv
        by_cases e : cins I np p = true
        · rw [if_pos e]
          have := hrng p (by omega)
          unfold cc at this
          rw [if_pos e] at this
          exact Or.inr ⟨_, this, rfl⟩
        · rw [if_neg e]; exact Or.inl rfl
      · rw [b6 p hp6]
        exact if_neg (fun e => absurd (pins_of e).1 (by omega))
    · have h85 : j' 85 = I 85 := by rw [F2.1 85 rfl (by decide), a1 85 (by decide) (by decide) (by decide) (by decide)]
      have h112 : j' 112 = J 112 := b3 112 (by decide) (by decide) (by decide) (by decide)
      unfold IM
      rw [F.1 66 rfl (by decide), F.1 68 rfl (by decide), h85, F.1 110 rfl (by decide), h112]
      exact ⟨hM.1, hM.2.1, g2, hM.2.2.2.1, b2⟩
  · have F1 : FRM [85, 84, 86, 87] [] i j := ⟨fun q hq _ => by
      simp at hq
      by_cases e : q = 88
      · subst e; rw [a3, g1 88 (by decide)]
      · rw [a1 q (by omega) (by omega) (by omega) e, g1 q (by omega)], fun k _ => by rw [a1 89 (by decide) (by decide) (by decide) (by decide), g1 89 (by decide)]⟩
    have F2 : FRM [112, 111, 113] [] j j' := ⟨fun q hq h9 => by
      simp at hq
      rw [b3 q (by omega) (by omega), b1 q (by omega)], fun k hk => by rw [b3 89 (by decide) (by decide), b1 89 (by decide)]⟩
    have F := F1.tr F2
    refine ⟨j', rfl, rfl, np, nv, nn, na, sp, gr, ch, c, nh, hA.fr F (by decide) (by decide), hB.fr F (by decide) (by decide), hC.fr F (by decide) (by decide), hD.fr F (by decide) (by decide), hS.fr F (by decide) (by decide), hK.fr F (by decide) (by decide), hE.fr F (by decide) (by decide), hT.fr F (by decide) (by decide), hG.fr F (by decide) (by decide), ?_, ?_⟩
    · have e84 : j' 84 7 = i 84 7 := by rw [F2.1 84 rfl (by decide), a2, g1 84 (by decide)]
      unfold IH
      rw [e84, F.1 88 rfl (by decide), F.1 114 rfl (by decide), F.2 29 rfl]
      exact hH
    · have h85 : j' 85 = I 85 := by rw [F2.1 85 rfl (by decide), a1 85 (by decide) (by decide) (by decide) (by decide)]
      have h112 : j' 112 = J 112 := b3 112 (by decide) (by decide)
      unfold IM
      rw [F.1 66 rfl (by decide), F.1 68 rfl (by decide), h85, F.1 110 rfl (by decide), h112]
      exact ⟨hM.1, hM.2.1, g2, hM.2.2.2.1, b2⟩
end PAIRS3
