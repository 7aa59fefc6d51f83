/-! THE CONSTRUCTORS -/
def SH0 : am_Sh := ((KS.take 2).set 0 (3, 9, [none, none, none, none, none, none, none, none, none])).set 1 (4, 6, [none, none, none, none, none, none])
def SH1 : am_Sh := (KS.take 13).set 0 (3, 9, [none, none, none, none, none, none, none, none, none])
def SH2 : am_Sh := ((KS.take 12).set 0 (3, 9, [none, none, none, none, none, none, none, none, none])).set 1 (4, 6, [some 2, some 3, some 10, some 11, none, none])
def SH3 : am_Sh := ((KS.take 11).set 0 (3, 9, [none, none, none, none, none, none, none, none, none])).set 1 (4, 6, [some 2, some 3, some 10, none, none, none])
def SH4 : am_Sh := ((KS.take 10).set 0 (3, 9, [none, none, none, none, none, none, none, none, none])).set 1 (4, 6, [some 2, some 3, none, none, none, none])
def SH5 : am_Sh := ((KS.take 3).set 0 (3, 9, [none, none, none, none, none, none, none, none, none])).set 1 (4, 6, [some 2, none, none, none, none, none])
def SH6 : am_Sh := ((KS.take 14).set 0 (3, 9, [some 1, none, none, none, none, none, none, none, none])).set 13 (5, 7, [none, none, none, none, none, none, none])
def SH7 : am_Sh := (KS.take 20).set 0 (3, 9, [some 1, none, none, none, none, none, none, none, none])
def SH8 : am_Sh := ((KS.take 19).set 0 (3, 9, [some 1, none, none, none, none, none, none, none, none])).set 13 (5, 7, [some 14, some 15, some 16, some 17, some 18, none, none])
def SH9 : am_Sh := ((KS.take 18).set 0 (3, 9, [some 1, none, none, none, none, none, none, none, none])).set 13 (5, 7, [some 14, some 15, some 16, some 17, none, none, none])
def SH10 : am_Sh := ((KS.take 17).set 0 (3, 9, [some 1, none, none, none, none, none, none, none, none])).set 13 (5, 7, [some 14, some 15, some 16, none, none, none, none])
def SH11 : am_Sh := ((KS.take 16).set 0 (3, 9, [some 1, none, none, none, none, none, none, none, none])).set 13 (5, 7, [some 14, some 15, none, none, none, none, none])
def SH12 : am_Sh := ((KS.take 15).set 0 (3, 9, [some 1, none, none, none, none, none, none, none, none])).set 13 (5, 7, [some 14, none, none, none, none, none, none])
def SH13 : am_Sh := ((KS.take 21).set 0 (3, 9, [some 1, some 13, none, none, none, none, none, none, none])).set 20 (6, 8, [none, none, none, none, none, none, none, none])
def SH14 : am_Sh := (KS.take 52).set 0 (3, 9, [some 1, some 13, none, none, none, none, none, none, none])
def SH15 : am_Sh := ((KS.take 51).set 0 (3, 9, [some 1, some 13, none, none, none, none, none, none, none])).set 20 (6, 8, [some 21, some 22, some 35, some 48, some 49, some 50, none, none])
def SH16 : am_Sh := ((KS.take 50).set 0 (3, 9, [some 1, some 13, none, none, none, none, none, none, none])).set 20 (6, 8, [some 21, some 22, some 35, some 48, some 49, none, none, none])
def SH17 : am_Sh := ((KS.take 49).set 0 (3, 9, [some 1, some 13, none, none, none, none, none, none, none])).set 20 (6, 8, [some 21, some 22, some 35, some 48, none, none, none, none])
def SH18 : am_Sh := ((KS.take 48).set 0 (3, 9, [some 1, some 13, none, none, none, none, none, none, none])).set 20 (6, 8, [some 21, some 22, some 35, none, none, none, none, none])
def SH19 : am_Sh := ((KS.take 35).set 0 (3, 9, [some 1, some 13, none, none, none, none, none, none, none])).set 20 (6, 8, [some 21, some 22, none, none, none, none, none, none])
def SH20 : am_Sh := ((KS.take 22).set 0 (3, 9, [some 1, some 13, none, none, none, none, none, none, none])).set 20 (6, 8, [some 21, none, none, none, none, none, none, none])
def SH21 : am_Sh := ((KS.take 53).set 0 (3, 9, [some 1, some 13, some 20, none, none, none, none, none, none])).set 52 (7, 1, [none])
def SH22 : am_Sh := (KS.take 66).set 0 (3, 9, [some 1, some 13, some 20, none, none, none, none, none, none])
def SH23 : am_Sh := ((KS.take 71).set 0 (3, 9, [some 1, some 13, some 20, some 52, some 66, some 68, none, none, none])).set 70 (9, 2, [none, none])
def SH24 : am_Sh := (KS.take 84).set 0 (3, 9, [some 1, some 13, some 20, some 52, some 66, some 68, none, none, none])
def SH25 : am_Sh := ((KS.take 67).set 0 (3, 9, [some 1, some 13, some 20, some 52, none, none, none, none, none])).set 66 (8, 4, [none, none, none, none])
def SH26 : am_Sh := (KS.take 68).set 0 (3, 9, [some 1, some 13, some 20, some 52, none, none, none, none, none])
def SH27 : am_Sh := ((KS.take 68).set 0 (3, 9, [some 1, some 13, some 20, some 52, none, none, none, none, none])).set 66 (8, 4, [some 1, none, none, some 67])
def SH28 : am_Sh := ((KS.take 68).set 0 (3, 9, [some 1, some 13, some 20, some 52, none, none, none, none, none])).set 66 (8, 4, [none, none, none, some 67])
def SH29 : am_Sh := ((KS.take 69).set 0 (3, 9, [some 1, some 13, some 20, some 52, some 66, none, none, none, none])).set 68 (8, 4, [none, none, none, none])
def SH30 : am_Sh := (KS.take 70).set 0 (3, 9, [some 1, some 13, some 20, some 52, some 66, none, none, none, none])
def SH31 : am_Sh := ((KS.take 70).set 0 (3, 9, [some 1, some 13, some 20, some 52, some 66, none, none, none, none])).set 68 (8, 4, [some 1, none, none, some 69])
def SH32 : am_Sh := ((KS.take 70).set 0 (3, 9, [some 1, some 13, some 20, some 52, some 66, none, none, none, none])).set 68 (8, 4, [none, none, none, some 69])
def SH33 : am_Sh := ((KS.take 85).set 0 (3, 9, [some 1, some 13, some 20, some 52, some 66, some 68, some 70, none, none])).set 84 (10, 8, [none, none, none, none, none, none, none, none])
def SH34 : am_Sh := (KS.take 89).set 0 (3, 9, [some 1, some 13, some 20, some 52, some 66, some 68, some 70, none, none])
def SH35 : am_Sh := ((KS.take 89).set 0 (3, 9, [some 1, some 13, some 20, some 52, some 66, some 68, some 70, none, none])).set 84 (10, 8, [some 1, none, some 85, some 86, some 87, some 88, none, none])
def SH36 : am_Sh := ((KS.take 89).set 0 (3, 9, [some 1, some 13, some 20, some 52, some 66, some 68, some 70, none, none])).set 84 (10, 8, [none, none, some 85, some 86, some 87, some 88, none, none])
def SH37 : am_Sh := ((KS.take 88).set 0 (3, 9, [some 1, some 13, some 20, some 52, some 66, some 68, some 70, none, none])).set 84 (10, 8, [none, none, some 85, some 86, some 87, none, none, none])
def SH38 : am_Sh := ((KS.take 87).set 0 (3, 9, [some 1, some 13, some 20, some 52, some 66, some 68, some 70, none, none])).set 84 (10, 8, [none, none, some 85, some 86, none, none, none, none])
def SH39 : am_Sh := ((KS.take 86).set 0 (3, 9, [some 1, some 13, some 20, some 52, some 66, some 68, some 70, none, none])).set 84 (10, 8, [none, none, some 85, none, none, none, none, none])
def SH40 : am_Sh := (KS.take 90).set 89 (11, 31, [none, none, none, none, none, none, none, none, none, none, none, none, none, none, none, none, none, none, none, none, none, none, none, none, none, none, none, none, none, none, none])
def SH41 : am_Sh := (KS.take 114).set 89 (11, 31, [none, none, some 90, some 91, some 92, some 93, none, some 94, some 95, some 96, some 97, some 98, some 99, none, some 100, some 101, some 102, some 103, some 104, some 105, some 106, some 107, none, some 108, some 109, some 110, some 111, some 112, some 113, none, none])
def SH42 : am_Sh := (KS.take 113).set 89 (11, 31, [none, none, some 90, some 91, some 92, some 93, none, some 94, some 95, some 96, some 97, some 98, some 99, none, some 100, some 101, some 102, some 103, some 104, some 105, some 106, some 107, none, some 108, some 109, some 110, some 111, some 112, none, none, none])
def SH43 : am_Sh := (KS.take 112).set 89 (11, 31, [none, none, some 90, some 91, some 92, some 93, none, some 94, some 95, some 96, some 97, some 98, some 99, none, some 100, some 101, some 102, some 103, some 104, some 105, some 106, some 107, none, some 108, some 109, some 110, some 111, none, none, none, none])
def SH44 : am_Sh := (KS.take 111).set 89 (11, 31, [none, none, some 90, some 91, some 92, some 93, none, some 94, some 95, some 96, some 97, some 98, some 99, none, some 100, some 101, some 102, some 103, some 104, some 105, some 106, some 107, none, some 108, some 109, some 110, none, none, none, none, none])
def SH45 : am_Sh := (KS.take 110).set 89 (11, 31, [none, none, some 90, some 91, some 92, some 93, none, some 94, some 95, some 96, some 97, some 98, some 99, none, some 100, some 101, some 102, some 103, some 104, some 105, some 106, some 107, none, some 108, some 109, none, none, none, none, none, none])
def SH46 : am_Sh := (KS.take 109).set 89 (11, 31, [none, none, some 90, some 91, some 92, some 93, none, some 94, some 95, some 96, some 97, some 98, some 99, none, some 100, some 101, some 102, some 103, some 104, some 105, some 106, some 107, none, some 108, none, none, none, none, none, none, none])
def SH47 : am_Sh := (KS.take 108).set 89 (11, 31, [none, none, some 90, some 91, some 92, some 93, none, some 94, some 95, some 96, some 97, some 98, some 99, none, some 100, some 101, some 102, some 103, some 104, some 105, some 106, some 107, none, none, none, none, none, none, none, none, none])
def SH48 : am_Sh := (KS.take 107).set 89 (11, 31, [none, none, some 90, some 91, some 92, some 93, none, some 94, some 95, some 96, some 97, some 98, some 99, none, some 100, some 101, some 102, some 103, some 104, some 105, some 106, none, none, none, none, none, none, none, none, none, none])
def SH49 : am_Sh := (KS.take 106).set 89 (11, 31, [none, none, some 90, some 91, some 92, some 93, none, some 94, some 95, some 96, some 97, some 98, some 99, none, some 100, some 101, some 102, some 103, some 104, some 105, none, none, none, none, none, none, none, none, none, none, none])
def SH50 : am_Sh := (KS.take 105).set 89 (11, 31, [none, none, some 90, some 91, some 92, some 93, none, some 94, some 95, some 96, some 97, some 98, some 99, none, some 100, some 101, some 102, some 103, some 104, none, none, none, none, none, none, none, none, none, none, none, none])
def SH51 : am_Sh := (KS.take 104).set 89 (11, 31, [none, none, some 90, some 91, some 92, some 93, none, some 94, some 95, some 96, some 97, some 98, some 99, none, some 100, some 101, some 102, some 103, none, none, none, none, none, none, none, none, none, none, none, none, none])
def SH52 : am_Sh := (KS.take 103).set 89 (11, 31, [none, none, some 90, some 91, some 92, some 93, none, some 94, some 95, some 96, some 97, some 98, some 99, none, some 100, some 101, some 102, none, none, none, none, none, none, none, none, none, none, none, none, none, none])
def SH53 : am_Sh := (KS.take 102).set 89 (11, 31, [none, none, some 90, some 91, some 92, some 93, none, some 94, some 95, some 96, some 97, some 98, some 99, none, some 100, some 101, none, none, none, none, none, none, none, none, none, none, none, none, none, none, none])
def SH54 : am_Sh := (KS.take 101).set 89 (11, 31, [none, none, some 90, some 91, some 92, some 93, none, some 94, some 95, some 96, some 97, some 98, some 99, none, some 100, none, none, none, none, none, none, none, none, none, none, none, none, none, none, none, none])
def SH55 : am_Sh := (KS.take 100).set 89 (11, 31, [none, none, some 90, some 91, some 92, some 93, none, some 94, some 95, some 96, some 97, some 98, some 99, none, none, none, none, none, none, none, none, none, none, none, none, none, none, none, none, none, none])
def SH56 : am_Sh := (KS.take 99).set 89 (11, 31, [none, none, some 90, some 91, some 92, some 93, none, some 94, some 95, some 96, some 97, some 98, none, none, none, none, none, none, none, none, none, none, none, none, none, none, none, none, none, none, none])
def SH57 : am_Sh := (KS.take 98).set 89 (11, 31, [none, none, some 90, some 91, some 92, some 93, none, some 94, some 95, some 96, some 97, none, none, none, none, none, none, none, none, none, none, none, none, none, none, none, none, none, none, none, none])
def SH58 : am_Sh := (KS.take 97).set 89 (11, 31, [none, none, some 90, some 91, some 92, some 93, none, some 94, some 95, some 96, none, none, none, none, none, none, none, none, none, none, none, none, none, none, none, none, none, none, none, none, none])
def SH59 : am_Sh := (KS.take 96).set 89 (11, 31, [none, none, some 90, some 91, some 92, some 93, none, some 94, some 95, none, none, none, none, none, none, none, none, none, none, none, none, none, none, none, none, none, none, none, none, none, none])
def SH60 : am_Sh := (KS.take 95).set 89 (11, 31, [none, none, some 90, some 91, some 92, some 93, none, some 94, none, none, none, none, none, none, none, none, none, none, none, none, none, none, none, none, none, none, none, none, none, none, none])
def SH61 : am_Sh := (KS.take 94).set 89 (11, 31, [none, none, some 90, some 91, some 92, some 93, none, none, none, none, none, none, none, none, none, none, none, none, none, none, none, none, none, none, none, none, none, none, none, none, none])
def SH62 : am_Sh := (KS.take 93).set 89 (11, 31, [none, none, some 90, some 91, some 92, none, none, none, none, none, none, none, none, none, none, none, none, none, none, none, none, none, none, none, none, none, none, none, none, none, none])
def SH63 : am_Sh := (KS.take 92).set 89 (11, 31, [none, none, some 90, some 91, none, none, none, none, none, none, none, none, none, none, none, none, none, none, none, none, none, none, none, none, none, none, none, none, none, none, none])
def SH64 : am_Sh := (KS.take 91).set 89 (11, 31, [none, none, some 90, none, none, none, none, none, none, none, none, none, none, none, none, none, none, none, none, none, none, none, none, none, none, none, none, none, none, none, none])
def SH65 : am_Sh := (KS.take 1).set 0 (3, 9, [none, none, none, none, none, none, none, none, none])
def SH66 : am_Sh := KS.take 89
def SH67 : am_Sh := (KS.take 84).set 0 (3, 9, [some 1, some 13, some 20, some 52, some 66, some 68, some 70, none, none])
def SH68 : am_Sh := (KS.take 70).set 0 (3, 9, [some 1, some 13, some 20, some 52, some 66, some 68, none, none, none])
def SH69 : am_Sh := (KS.take 68).set 0 (3, 9, [some 1, some 13, some 20, some 52, some 66, none, none, none, none])
def SH70 : am_Sh := (KS.take 66).set 0 (3, 9, [some 1, some 13, some 20, some 52, none, none, none, none, none])
def SH71 : am_Sh := (KS.take 52).set 0 (3, 9, [some 1, some 13, some 20, none, none, none, none, none, none])
def SH72 : am_Sh := (KS.take 20).set 0 (3, 9, [some 1, some 13, none, none, none, none, none, none, none])
def SH73 : am_Sh := (KS.take 13).set 0 (3, 9, [some 1, none, none, none, none, none, none, none, none])
def ZR (n : Nat) (i : Nat → Nat → Int32) : Prop := ∀ q, n ≤ q → i q = fun _ => 0
theorem zr_eq {i : Nat → Nat → Int32} {n : Nat} (h : ZR n i) (a : Nat) (ha : n ≤ a) (k : Nat) : am_zr i a k = i := by
  funext q
  unfold am_zr
  by_cases e : a ≤ q ∧ q < a + k
  · rw [if_pos e, h q (by omega)]
  · rw [if_neg e]
theorem up_0 {i : Nat → Nat → Int32} {a : Nat} (h : i a = fun _ => 0) (k : Nat) : am_up i a k (Int32.ofInt 0) = i := by
  funext q
  by_cases e : q = a
  · subst e
    rw [up_sa, h]
    funext j
    unfold upd
    split <;> rfl
  · rw [up_a e]
theorem sp_cast {xl : Nat} {xs : Nat → Int32} {d y : Nat} {As As' : List Value} {u u' : am_St} {Q : am_Q} (e : As = As') (e2 : u = u') (h : SP xl xs d y As' u' Q) : SP xl xs d y As u Q := by rw [e, e2]; exact h
section INIT
variable {xl : Nat} {xs : Nat → Int32} {d : Nat} {i : Nat → Nat → Int32} {Q : am_Q} {u : am_St}
theorem k_fill {sh : am_Sh} {a n : Nat} {v : Int32} (ha : sh[a]? = some (0, n, [])) (hn : n < 1000) (hd : 1 ≤ d) (h : ∀ j : Nat → Nat → Int32, (∀ q, q ≠ a → j q = i q) → (∀ k, j a k = if k < n then v else i a k) → Q none (sh, j)) : SP xl xs d Y_Arrays_fill [.ref a, .int v] (sh, i) Q := by
  obtain ⟨d, rfl⟩ : ∃ q, d = q + 1 := ⟨d - 1, by omega⟩
  refine ⟨Nat.le_of_ble_eq_true rfl, am_go (am_sp_mo _) (fun q => q == 5) 20 (fun X hX => ?_)⟩
  conv => whnf
  try dsimp only
  refine ⟨0, n, [], ha, by decide, ?_⟩
  conv => whnf
  try dsimp only
  refine hX _ _ _ _ _ _ ?_
  have loop : ∀ m k (j : Nat → Nat → Int32), k + m = n → (∀ q, q ≠ a → j q = i q) → (∀ q, j a q = if q < k then v else i a q) → am_wp (ax_E xl xs) (ax_cd Y_Arrays_fill) (am_sp (ax_E xl xs) ax_cd ax_ml d) Q 5 [some (.ref a), some (.int v), some (.int (nI k)), some (.int (nI n))] [] (sh, j) 0 0 := by
    intro m
    induction m with
    | zero =>
      intro k j hk g1 g2
      have : k = n := by omega
      subst this
      refine am_go (am_sp_mo _) (fun q => q == 5) 20 (fun X hX => ?_)
      conv => whnf
      try dsimp only
      refine ⟨fun _ => ?_, fun hh => absurd (nI_le (Nat.le_refl _) (by omega)) hh⟩
      conv => whnf
      try dsimp only
      exact h j g1 g2
    | succ m ih =>
      intro k j hk g1 g2
      refine am_go (am_sp_mo _) (fun q => q == 5) 20 (fun X hX => ?_)
      conv => whnf
      try dsimp only
      refine ⟨fun hh => absurd hh (nI_ge (by omega) (by omega)), fun _ => ?_⟩
      conv => whnf
      try dsimp only
      refine ⟨n, [], ha, vp_in_nI (by omega) (by omega), ?_⟩
      conv => whnf
      try dsimp only
      rw [nI_clamp (show k < 2 ^ 31 by omega), show nI k + Int32.ofInt 1 = nI (k + 1) by rw [li_1, nI_add]]
      refine hX _ _ _ _ _ _ (ih (k + 1) _ (by omega) (fun q hq => (up_a hq).trans (g1 q hq)) (fun q => ?_))
      rw [up_at, g2]
      by_cases e : q = k
      · rw [if_pos ⟨rfl, e⟩, if_pos (by omega)]
      · rw [if_neg (fun z => e z.2)]
        by_cases e2 : q < k
        · rw [if_pos e2, if_pos (by omega)]
        · rw [if_neg e2, if_neg (by omega)]
  exact loop n 0 i (by omega) (fun _ _ => rfl) (fun q => by rw [if_neg (by omega)])
theorem k_Packs_init (hZ : ZR 1 i) (hd : 2 ≤ d) (h : ∀ j : Nat → Nat → Int32, (∀ q, q ≠ 11 → q ≠ 12 → j q = i q) → (∀ k, k < 6 → j 11 k = -1) → (∀ k, k < 6 → j 12 k = -1) → Q none (SH1, j)) : SP xl xs d Y_Packs_init [.ref 1] (SH0, i) Q := by
  obtain ⟨d, rfl⟩ : ∃ q, d = q + 1 := ⟨d - 1, by omega⟩
  have s4 : am_wp (ax_E xl xs) (ax_cd Y_Packs_init) (am_sp (ax_E xl xs) ax_cd ax_ml d) Q 47 [some (.ref 1)] [] (SH1, i) 0 0 := by
    refine am_go (am_sp_mo _) (fun _ => false) 30 (fun X hX => ?_)
    conv => whnf
    try dsimp only
    refine sp_cast (As' := [.ref 11, .int (-1)]) (u' := (SH1, i)) rfl rfl (k_fill (n := 6) rfl (by decide) (by omega) (fun j g1 g2 => ?_))
    conv => whnf
    try dsimp only
    refine sp_cast (As' := [.ref 12, .int (-1)]) (u' := (SH1, j)) rfl rfl (k_fill (n := 6) rfl (by decide) (by omega) (fun j2 k1 k2 => ?_))
    conv => whnf
    try dsimp only
    rw [up_0 (by rw [k1 1 (by decide), g1 1 (by decide), hZ 1 (by decide)])]
    refine h j2 (fun q q1 q2 => (k1 q q2).trans (g1 q q1)) (fun k hk => ?_) (fun k hk => ?_)
    · rw [k1 11 (by decide), g2, if_pos hk]
    · rw [k2, if_pos hk]
  have s3 : am_wp (ax_E xl xs) (ax_cd Y_Packs_init) (am_sp (ax_E xl xs) ax_cd ax_ml d) Q 39 [some (.ref 1)] [] (SH2, i) 1 6 := by
    refine am_go (am_sp_mo _) (fun q => q == 47) 12 (fun X hX => ?_)
    conv => whnf
    try dsimp only
    refine hX _ _ _ _ _ _ (am_wpL rfl (u' := (SH1, i)) (Prod.ext rfl ?_) s4)
    first | exact zr_eq hZ _ (Nat.le_of_ble_eq_true rfl) _ | rfl
  have s2 : am_wp (ax_E xl xs) (ax_cd Y_Packs_init) (am_sp (ax_E xl xs) ax_cd ax_ml d) Q 31 [some (.ref 1)] [] (SH3, i) 2 12 := by
    refine am_go (am_sp_mo _) (fun q => q == 39) 12 (fun X hX => ?_)
    conv => whnf
    try dsimp only
    refine hX _ _ _ _ _ _ (am_wpL rfl (u' := (SH2, i)) (Prod.ext rfl ?_) s3)
    first | exact zr_eq hZ _ (Nat.le_of_ble_eq_true rfl) _ | rfl
  have s1 : am_wp (ax_E xl xs) (ax_cd Y_Packs_init) (am_sp (ax_E xl xs) ax_cd ax_ml d) Q 23 [some (.ref 1)] [] (SH4, i) 3 18 := by
    refine am_go (am_sp_mo _) (fun q => q == 31) 12 (fun X hX => ?_)
    conv => whnf
    try dsimp only
    refine hX _ _ _ _ _ _ (am_wpL rfl (u' := (SH3, i)) (Prod.ext rfl ?_) s2)
    first | exact zr_eq hZ _ (Nat.le_of_ble_eq_true rfl) _ | rfl
  have s0 : am_wp (ax_E xl xs) (ax_cd Y_Packs_init) (am_sp (ax_E xl xs) ax_cd ax_ml d) Q 12 [some (.ref 1)] [] (SH5, i) 10 54 := by
    refine am_go (am_sp_mo _) (fun q => q == 23) 12 (fun X hX => ?_)
    conv => whnf
    try dsimp only
    refine hX _ _ _ _ _ _ (am_wpL rfl (u' := (SH4, i)) (Prod.ext rfl ?_) s1)
    first | exact zr_eq hZ _ (Nat.le_of_ble_eq_true rfl) _ | rfl
  refine ⟨Nat.le_of_ble_eq_true rfl, am_go (am_sp_mo _) (fun q => q == 12) 20 (fun X hX => ?_)⟩
  conv => whnf
  try dsimp only
  refine hX _ _ _ _ _ _ (am_wpL rfl (u' := (SH5, i)) (Prod.ext rfl ?_) s0)
  first | exact zr_eq hZ _ (Nat.le_of_ble_eq_true rfl) _ | rfl
theorem k_Needs_init (hZ : ZR 13 i) (hd : 2 ≤ d) (h : Q none (SH7, i)) : SP xl xs d Y_Needs_init [.ref 13] (SH6, i) Q := by
  obtain ⟨d, rfl⟩ : ∃ q, d = q + 1 := ⟨d - 1, by omega⟩
  have s5 : am_wp (ax_E xl xs) (ax_cd Y_Needs_init) (am_sp (ax_E xl xs) ax_cd ax_ml d) Q 52 [some (.ref 13)] [] (SH7, i) 0 0 := by
    refine am_go (am_sp_mo _) (fun _ => false) 20 (fun X hX => ?_)
    conv => whnf
    try dsimp only
    try rw [up_0 (hZ 13 (Nat.le_refl _))]
    exact h
  have s4 : am_wp (ax_E xl xs) (ax_cd Y_Needs_init) (am_sp (ax_E xl xs) ax_cd ax_ml d) Q 44 [some (.ref 13)] [] (SH8, i) 1 16 := by
    refine am_go (am_sp_mo _) (fun q => q == 52) 12 (fun X hX => ?_)
    conv => whnf
    try dsimp only
    refine hX _ _ _ _ _ _ (am_wpL rfl (u' := (SH7, i)) (Prod.ext rfl ?_) s5)
    first | exact zr_eq hZ _ (Nat.le_of_ble_eq_true rfl) _ | rfl
  have s3 : am_wp (ax_E xl xs) (ax_cd Y_Needs_init) (am_sp (ax_E xl xs) ax_cd ax_ml d) Q 36 [some (.ref 13)] [] (SH9, i) 2 32 := by
    refine am_go (am_sp_mo _) (fun q => q == 44) 12 (fun X hX => ?_)
    conv => whnf
    try dsimp only
    refine hX _ _ _ _ _ _ (am_wpL rfl (u' := (SH8, i)) (Prod.ext rfl ?_) s4)
    first | exact zr_eq hZ _ (Nat.le_of_ble_eq_true rfl) _ | rfl
  have s2 : am_wp (ax_E xl xs) (ax_cd Y_Needs_init) (am_sp (ax_E xl xs) ax_cd ax_ml d) Q 28 [some (.ref 13)] [] (SH10, i) 3 48 := by
    refine am_go (am_sp_mo _) (fun q => q == 36) 12 (fun X hX => ?_)
    conv => whnf
    try dsimp only
    refine hX _ _ _ _ _ _ (am_wpL rfl (u' := (SH9, i)) (Prod.ext rfl ?_) s3)
    first | exact zr_eq hZ _ (Nat.le_of_ble_eq_true rfl) _ | rfl
  have s1 : am_wp (ax_E xl xs) (ax_cd Y_Needs_init) (am_sp (ax_E xl xs) ax_cd ax_ml d) Q 20 [some (.ref 13)] [] (SH11, i) 4 64 := by
    refine am_go (am_sp_mo _) (fun q => q == 28) 12 (fun X hX => ?_)
    conv => whnf
    try dsimp only
    refine hX _ _ _ _ _ _ (am_wpL rfl (u' := (SH10, i)) (Prod.ext rfl ?_) s2)
    first | exact zr_eq hZ _ (Nat.le_of_ble_eq_true rfl) _ | rfl
  have s0 : am_wp (ax_E xl xs) (ax_cd Y_Needs_init) (am_sp (ax_E xl xs) ax_cd ax_ml d) Q 12 [some (.ref 13)] [] (SH12, i) 5 80 := by
    refine am_go (am_sp_mo _) (fun q => q == 20) 12 (fun X hX => ?_)
    conv => whnf
    try dsimp only
    refine hX _ _ _ _ _ _ (am_wpL rfl (u' := (SH11, i)) (Prod.ext rfl ?_) s1)
    first | exact zr_eq hZ _ (Nat.le_of_ble_eq_true rfl) _ | rfl
  refine ⟨Nat.le_of_ble_eq_true rfl, am_go (am_sp_mo _) (fun q => q == 12) 20 (fun X hX => ?_)⟩
  conv => whnf
  try dsimp only
  refine hX _ _ _ _ _ _ (am_wpL rfl (u' := (SH12, i)) (Prod.ext rfl ?_) s0)
  first | exact zr_eq hZ _ (Nat.le_of_ble_eq_true rfl) _ | rfl
theorem k_Advisories_init (hZ : ZR 20 i) (hd : 2 ≤ d) (h : Q none (SH14, i)) : SP xl xs d Y_Advisories_init [.ref 20] (SH13, i) Q := by
  obtain ⟨d, rfl⟩ : ∃ q, d = q + 1 := ⟨d - 1, by omega⟩
  have s6 : am_wp (ax_E xl xs) (ax_cd Y_Advisories_init) (am_sp (ax_E xl xs) ax_cd ax_ml d) Q 66 [some (.ref 20)] [] (SH14, i) 0 0 := by
    refine am_go (am_sp_mo _) (fun _ => false) 20 (fun X hX => ?_)
    conv => whnf
    try dsimp only
    try rw [up_0 (hZ 20 (Nat.le_refl _))]
    exact h
  have s5 : am_wp (ax_E xl xs) (ax_cd Y_Advisories_init) (am_sp (ax_E xl xs) ax_cd ax_ml d) Q 58 [some (.ref 20)] [] (SH15, i) 1 12 := by
    refine am_go (am_sp_mo _) (fun q => q == 66) 12 (fun X hX => ?_)
    conv => whnf
    try dsimp only
    refine hX _ _ _ _ _ _ (am_wpL rfl (u' := (SH14, i)) (Prod.ext rfl ?_) s6)
    first | exact zr_eq hZ _ (Nat.le_of_ble_eq_true rfl) _ | rfl
  have s4 : am_wp (ax_E xl xs) (ax_cd Y_Advisories_init) (am_sp (ax_E xl xs) ax_cd ax_ml d) Q 50 [some (.ref 20)] [] (SH16, i) 2 24 := by
    refine am_go (am_sp_mo _) (fun q => q == 58) 12 (fun X hX => ?_)
    conv => whnf
    try dsimp only
    refine hX _ _ _ _ _ _ (am_wpL rfl (u' := (SH15, i)) (Prod.ext rfl ?_) s5)
    first | exact zr_eq hZ _ (Nat.le_of_ble_eq_true rfl) _ | rfl
  have s3 : am_wp (ax_E xl xs) (ax_cd Y_Advisories_init) (am_sp (ax_E xl xs) ax_cd ax_ml d) Q 42 [some (.ref 20)] [] (SH17, i) 3 36 := by
    refine am_go (am_sp_mo _) (fun q => q == 50) 12 (fun X hX => ?_)
    conv => whnf
    try dsimp only
    refine hX _ _ _ _ _ _ (am_wpL rfl (u' := (SH16, i)) (Prod.ext rfl ?_) s4)
    first | exact zr_eq hZ _ (Nat.le_of_ble_eq_true rfl) _ | rfl
  have s2 : am_wp (ax_E xl xs) (ax_cd Y_Advisories_init) (am_sp (ax_E xl xs) ax_cd ax_ml d) Q 34 [some (.ref 20)] [] (SH18, i) 4 48 := by
    refine am_go (am_sp_mo _) (fun q => q == 42) 12 (fun X hX => ?_)
    conv => whnf
    try dsimp only
    refine hX _ _ _ _ _ _ (am_wpL rfl (u' := (SH17, i)) (Prod.ext rfl ?_) s3)
    first | exact zr_eq hZ _ (Nat.le_of_ble_eq_true rfl) _ | rfl
  have s1 : am_wp (ax_E xl xs) (ax_cd Y_Advisories_init) (am_sp (ax_E xl xs) ax_cd ax_ml d) Q 23 [some (.ref 20)] [] (SH19, i) 17 96 := by
    refine am_go (am_sp_mo _) (fun q => q == 34) 12 (fun X hX => ?_)
    conv => whnf
    try dsimp only
    refine hX _ _ _ _ _ _ (am_wpL rfl (u' := (SH18, i)) (Prod.ext rfl ?_) s2)
    first | exact zr_eq hZ _ (Nat.le_of_ble_eq_true rfl) _ | rfl
  have s0 : am_wp (ax_E xl xs) (ax_cd Y_Advisories_init) (am_sp (ax_E xl xs) ax_cd ax_ml d) Q 12 [some (.ref 20)] [] (SH20, i) 30 144 := by
    refine am_go (am_sp_mo _) (fun q => q == 23) 12 (fun X hX => ?_)
    conv => whnf
    try dsimp only
    refine hX _ _ _ _ _ _ (am_wpL rfl (u' := (SH19, i)) (Prod.ext rfl ?_) s1)
    first | exact zr_eq hZ _ (Nat.le_of_ble_eq_true rfl) _ | rfl
  refine ⟨Nat.le_of_ble_eq_true rfl, am_go (am_sp_mo _) (fun q => q == 12) 20 (fun X hX => ?_)⟩
  conv => whnf
  try dsimp only
  refine hX _ _ _ _ _ _ (am_wpL rfl (u' := (SH20, i)) (Prod.ext rfl ?_) s0)
  first | exact zr_eq hZ _ (Nat.le_of_ble_eq_true rfl) _ | rfl
theorem k_Exceptions_init (hZ : ZR 52 i) (hd : 2 ≤ d) (h : Q none (SH22, i)) : SP xl xs d Y_Exceptions_init [.ref 52] (SH21, i) Q := by
  obtain ⟨d, rfl⟩ : ∃ q, d = q + 1 := ⟨d - 1, by omega⟩
  have s0 : am_wp (ax_E xl xs) (ax_cd Y_Exceptions_init) (am_sp (ax_E xl xs) ax_cd ax_ml d) Q 16 [some (.ref 52)] [] (SH22, i) 0 0 := by
    refine am_go (am_sp_mo _) (fun _ => false) 20 (fun X hX => ?_)
    conv => whnf
    try dsimp only
    try rw [up_0 (hZ 52 (Nat.le_refl _))]
    exact h
  refine ⟨Nat.le_of_ble_eq_true rfl, am_go (am_sp_mo _) (fun q => q == 16) 20 (fun X hX => ?_)⟩
  conv => whnf
  try dsimp only
  refine hX _ _ _ _ _ _ (am_wpL rfl (u' := (SH22, i)) (Prod.ext rfl ?_) s0)
  first | exact zr_eq hZ _ (Nat.le_of_ble_eq_true rfl) _ | rfl
theorem k_HitList_init (hZ : ZR 70 i) (hd : 2 ≤ d) (h : Q none (SH24, i)) : SP xl xs d Y_HitList_init [.ref 70] (SH23, i) Q := by
  obtain ⟨d, rfl⟩ : ∃ q, d = q + 1 := ⟨d - 1, by omega⟩
  have s0 : am_wp (ax_E xl xs) (ax_cd Y_HitList_init) (am_sp (ax_E xl xs) ax_cd ax_ml d) Q 16 [some (.ref 70)] [] (SH24, i) 0 0 := by
    refine am_go (am_sp_mo _) (fun _ => false) 20 (fun X hX => ?_)
    conv => whnf
    try dsimp only
    try rw [up_0 (hZ 70 (Nat.le_refl _))]
    exact h
  refine ⟨Nat.le_of_ble_eq_true rfl, am_go (am_sp_mo _) (fun q => q == 16) 20 (fun X hX => ?_)⟩
  conv => whnf
  try dsimp only
  refine hX _ _ _ _ _ _ (am_wpL rfl (u' := (SH24, i)) (Prod.ext rfl ?_) s0)
  first | exact zr_eq hZ _ (Nat.le_of_ble_eq_true rfl) _ | rfl
theorem k_Ways_init0 (hZ : ZR 66 i) (hd : 2 ≤ d) (h : ∀ j : Nat → Nat → Int32, (∀ q, q ≠ 66 → q ≠ 67 → j q = i q) → j 66 2 = 0 → (∀ k, k < 6 → j 67 k = -1) → Q none (SH26, j)) : SP xl xs d Y_Ways_init [.ref 66, .ref 1, .ref 13, .int (Int32.ofInt 0)] (SH25, i) Q := by
  obtain ⟨d, rfl⟩ : ∃ q, d = q + 1 := ⟨d - 1, by omega⟩
  have s2 : am_wp (ax_E xl xs) (ax_cd Y_Ways_init) (am_sp (ax_E xl xs) ax_cd ax_ml d) Q 22 [some (.ref 66), some (.ref 1), some (.ref 13), some (.int (Int32.ofInt 0))] [] (SH26, i) 0 0 := by
    refine am_go (am_sp_mo _) (fun _ => false) 30 (fun X hX => ?_)
    conv => whnf
    try dsimp only
    refine ⟨by decide, ?_⟩
    conv => whnf
    try dsimp only
    refine sp_cast (As' := [.ref 67, .int (-1)]) (u' := (SH26, am_up i 66 2 (Int32.ofInt 0))) rfl rfl (k_fill (n := 6) rfl (by decide) (by omega) (fun j g1 g2 => ?_))
    conv => whnf
    try dsimp only
    refine h j (fun q q1 q2 => (g1 q q2).trans (up_a q1)) ?_ (fun k hk => ?_)
    · rw [g1 66 (by decide), up_s]; try decide
    · rw [g2, if_pos hk]
  have s1 : am_wp (ax_E xl xs) (ax_cd Y_Ways_init) (am_sp (ax_E xl xs) ax_cd ax_ml d) Q 17 [some (.ref 66), some (.ref 1), some (.ref 13), some (.int (Int32.ofInt 0))] [] (SH27, i) 0 0 := by
    refine am_go (am_sp_mo _) (fun q => q == 22) 12 (fun X hX => ?_)
    conv => whnf
    try dsimp only
    refine hX _ _ _ _ _ _ (am_wpL rfl (u' := (SH26, i)) (Prod.ext rfl ?_) s2)
    first | exact zr_eq hZ _ (Nat.le_of_ble_eq_true rfl) _ | rfl
  have s0 : am_wp (ax_E xl xs) (ax_cd Y_Ways_init) (am_sp (ax_E xl xs) ax_cd ax_ml d) Q 12 [some (.ref 66), some (.ref 1), some (.ref 13), some (.int (Int32.ofInt 0))] [] (SH28, i) 0 0 := by
    refine am_go (am_sp_mo _) (fun q => q == 17) 12 (fun X hX => ?_)
    conv => whnf
    try dsimp only
    refine hX _ _ _ _ _ _ (am_wpL rfl (u' := (SH27, i)) (Prod.ext rfl ?_) s1)
    first | exact zr_eq hZ _ (Nat.le_of_ble_eq_true rfl) _ | rfl
  refine ⟨Nat.le_of_ble_eq_true rfl, am_go (am_sp_mo _) (fun q => q == 12) 20 (fun X hX => ?_)⟩
  conv => whnf
  try dsimp only
  refine hX _ _ _ _ _ _ (am_wpL rfl (u' := (SH28, i)) (Prod.ext rfl ?_) s0)
  first | exact zr_eq hZ _ (Nat.le_of_ble_eq_true rfl) _ | rfl
theorem k_Ways_init1 (hZ : ZR 68 i) (hd : 2 ≤ d) (h : ∀ j : Nat → Nat → Int32, (∀ q, q ≠ 68 → q ≠ 69 → j q = i q) → j 68 2 = 1 → (∀ k, k < 6 → j 69 k = -1) → Q none (SH30, j)) : SP xl xs d Y_Ways_init [.ref 68, .ref 1, .ref 13, .int (Int32.ofInt 1)] (SH29, i) Q := by
  obtain ⟨d, rfl⟩ : ∃ q, d = q + 1 := ⟨d - 1, by omega⟩
  have s2 : am_wp (ax_E xl xs) (ax_cd Y_Ways_init) (am_sp (ax_E xl xs) ax_cd ax_ml d) Q 22 [some (.ref 68), some (.ref 1), some (.ref 13), some (.int (Int32.ofInt 1))] [] (SH30, i) 0 0 := by
    refine am_go (am_sp_mo _) (fun _ => false) 30 (fun X hX => ?_)
    conv => whnf
    try dsimp only
    refine ⟨by decide, ?_⟩
    conv => whnf
    try dsimp only
    refine sp_cast (As' := [.ref 69, .int (-1)]) (u' := (SH30, am_up i 68 2 (Int32.ofInt 1))) rfl rfl (k_fill (n := 6) rfl (by decide) (by omega) (fun j g1 g2 => ?_))
    conv => whnf
    try dsimp only
    refine h j (fun q q1 q2 => (g1 q q2).trans (up_a q1)) ?_ (fun k hk => ?_)
    · rw [g1 68 (by decide), up_s]; try decide
    · rw [g2, if_pos hk]
  have s1 : am_wp (ax_E xl xs) (ax_cd Y_Ways_init) (am_sp (ax_E xl xs) ax_cd ax_ml d) Q 17 [some (.ref 68), some (.ref 1), some (.ref 13), some (.int (Int32.ofInt 1))] [] (SH31, i) 0 0 := by
    refine am_go (am_sp_mo _) (fun q => q == 22) 12 (fun X hX => ?_)
    conv => whnf
    try dsimp only
    refine hX _ _ _ _ _ _ (am_wpL rfl (u' := (SH30, i)) (Prod.ext rfl ?_) s2)
    first | exact zr_eq hZ _ (Nat.le_of_ble_eq_true rfl) _ | rfl
  have s0 : am_wp (ax_E xl xs) (ax_cd Y_Ways_init) (am_sp (ax_E xl xs) ax_cd ax_ml d) Q 12 [some (.ref 68), some (.ref 1), some (.ref 13), some (.int (Int32.ofInt 1))] [] (SH32, i) 0 0 := by
    refine am_go (am_sp_mo _) (fun q => q == 17) 12 (fun X hX => ?_)
    conv => whnf
    try dsimp only
    refine hX _ _ _ _ _ _ (am_wpL rfl (u' := (SH31, i)) (Prod.ext rfl ?_) s1)
    first | exact zr_eq hZ _ (Nat.le_of_ble_eq_true rfl) _ | rfl
  refine ⟨Nat.le_of_ble_eq_true rfl, am_go (am_sp_mo _) (fun q => q == 12) 20 (fun X hX => ?_)⟩
  conv => whnf
  try dsimp only
  refine hX _ _ _ _ _ _ (am_wpL rfl (u' := (SH32, i)) (Prod.ext rfl ?_) s0)
  first | exact zr_eq hZ _ (Nat.le_of_ble_eq_true rfl) _ | rfl
theorem k_Planner_init (hZ : ZR 84 i) (hd : 2 ≤ d) (h : ∀ j : Nat → Nat → Int32, (∀ q, q ≠ 84 → q ≠ 87 → q ≠ 88 → j q = i q) → j 84 7 = 0 → (∀ k, k < 6 → j 88 k = -1) → Q none (SH34, j)) : SP xl xs d Y_Planner_init [.ref 84, .ref 1, .ref 13] (SH33, i) Q := by
  obtain ⟨d, rfl⟩ : ∃ q, d = q + 1 := ⟨d - 1, by omega⟩
  have s5 : am_wp (ax_E xl xs) (ax_cd Y_Planner_init) (am_sp (ax_E xl xs) ax_cd ax_ml d) Q 46 [some (.ref 84), some (.ref 1), some (.ref 13)] [] (SH34, i) 0 0 := by
    refine am_go (am_sp_mo _) (fun _ => false) 40 (fun X hX => ?_)
    conv => whnf
    try dsimp only
    refine sp_cast (As' := [.ref 87, .int (-1)]) (u' := (SH34, i)) rfl rfl (k_fill (n := 6) rfl (by decide) (by omega) (fun j g1 g2 => ?_))
    conv => whnf
    try dsimp only
    refine sp_cast (As' := [.ref 88, .int (-1)]) (u' := (SH34, j)) rfl rfl (k_fill (n := 6) rfl (by decide) (by omega) (fun j2 k1 k2 => ?_))
    conv => whnf
    try dsimp only
    refine ⟨by decide, ?_⟩
    conv => whnf
    try dsimp only
    refine h _ (fun q q1 q2 q3 => by rw [up_a q1, up_a q1, k1 q q3, g1 q q2]) (by rw [up_s]; try decide) (fun k hk => ?_)
    rw [up_n (Or.inl (by decide)), up_n (Or.inl (by decide)), k2, if_pos hk]
  have s4 : am_wp (ax_E xl xs) (ax_cd Y_Planner_init) (am_sp (ax_E xl xs) ax_cd ax_ml d) Q 41 [some (.ref 84), some (.ref 1), some (.ref 13)] [] (SH35, i) 0 0 := by
    refine am_go (am_sp_mo _) (fun q => q == 46) 12 (fun X hX => ?_)
    conv => whnf
    try dsimp only
    refine hX _ _ _ _ _ _ (am_wpL rfl (u' := (SH34, i)) (Prod.ext rfl ?_) s5)
    first | exact zr_eq hZ _ (Nat.le_of_ble_eq_true rfl) _ | rfl
  have s3 : am_wp (ax_E xl xs) (ax_cd Y_Planner_init) (am_sp (ax_E xl xs) ax_cd ax_ml d) Q 36 [some (.ref 84), some (.ref 1), some (.ref 13)] [] (SH36, i) 0 0 := by
    refine am_go (am_sp_mo _) (fun q => q == 41) 12 (fun X hX => ?_)
    conv => whnf
    try dsimp only
    refine hX _ _ _ _ _ _ (am_wpL rfl (u' := (SH35, i)) (Prod.ext rfl ?_) s4)
    first | exact zr_eq hZ _ (Nat.le_of_ble_eq_true rfl) _ | rfl
  have s2 : am_wp (ax_E xl xs) (ax_cd Y_Planner_init) (am_sp (ax_E xl xs) ax_cd ax_ml d) Q 28 [some (.ref 84), some (.ref 1), some (.ref 13)] [] (SH37, i) 1 6 := by
    refine am_go (am_sp_mo _) (fun q => q == 36) 12 (fun X hX => ?_)
    conv => whnf
    try dsimp only
    refine hX _ _ _ _ _ _ (am_wpL rfl (u' := (SH36, i)) (Prod.ext rfl ?_) s3)
    first | exact zr_eq hZ _ (Nat.le_of_ble_eq_true rfl) _ | rfl
  have s1 : am_wp (ax_E xl xs) (ax_cd Y_Planner_init) (am_sp (ax_E xl xs) ax_cd ax_ml d) Q 20 [some (.ref 84), some (.ref 1), some (.ref 13)] [] (SH38, i) 2 12 := by
    refine am_go (am_sp_mo _) (fun q => q == 28) 12 (fun X hX => ?_)
    conv => whnf
    try dsimp only
    refine hX _ _ _ _ _ _ (am_wpL rfl (u' := (SH37, i)) (Prod.ext rfl ?_) s2)
    first | exact zr_eq hZ _ (Nat.le_of_ble_eq_true rfl) _ | rfl
  have s0 : am_wp (ax_E xl xs) (ax_cd Y_Planner_init) (am_sp (ax_E xl xs) ax_cd ax_ml d) Q 12 [some (.ref 84), some (.ref 1), some (.ref 13)] [] (SH39, i) 3 18 := by
    refine am_go (am_sp_mo _) (fun q => q == 20) 12 (fun X hX => ?_)
    conv => whnf
    try dsimp only
    refine hX _ _ _ _ _ _ (am_wpL rfl (u' := (SH38, i)) (Prod.ext rfl ?_) s1)
    first | exact zr_eq hZ _ (Nat.le_of_ble_eq_true rfl) _ | rfl
  refine ⟨Nat.le_of_ble_eq_true rfl, am_go (am_sp_mo _) (fun q => q == 12) 20 (fun X hX => ?_)⟩
  conv => whnf
  try dsimp only
  refine hX _ _ _ _ _ _ (am_wpL rfl (u' := (SH39, i)) (Prod.ext rfl ?_) s0)
  first | exact zr_eq hZ _ (Nat.le_of_ble_eq_true rfl) _ | rfl
set_option maxRecDepth 20000 in
theorem k_Model_init (hZ : ZR 89 i) (hd : 2 ≤ d) (h : ∀ j : Nat → Nat → Int32, (∀ q, q ≠ 93 → q ≠ 107 → q ≠ 114 → j q = i q) → (∀ k, k < 6 → j 93 k = -1) → (∀ k, k < 72 → j 107 k = -1) → (∀ k, k < 6 → j 114 k = -1) → Q none (KS, j)) : SP xl xs d Y_Model_init [.ref 89] (SH40, i) Q := by
  have two : ∀ d m p (j : Nat → Nat → Int32), p + m = 72 → (∀ q, q ≠ 93 → q ≠ 107 → q ≠ 114 → j q = i q) → (∀ k, k < 6 → j 93 k = -1) → (∀ k, k < p → j 107 k = -1) → (∀ k, k < 6 → j 114 k = -1) → am_wp (ax_E xl xs) (ax_cd Y_Model_init) (am_sp (ax_E xl xs) ax_cd ax_ml d) Q 235 [some (.ref 89), some (.int (nI p))] [] (KS, j) 0 0 := by
    intro d m
    induction m with
    | zero =>
      intro p j hp g1 g2 g3 g4
      have : p = 72 := by omega
      subst this
      refine am_go (am_sp_mo _) (fun q => q == 235) 20 (fun X hX => ?_)
      conv => whnf
      try dsimp only
      refine ⟨fun _ => ?_, fun hh => absurd (by decide) hh⟩
      conv => whnf
      try dsimp only
      exact h j g1 g2 g3 g4
    | succ m ih =>
      intro p j hp g1 g2 g3 g4
      refine am_go (am_sp_mo _) (fun q => q == 235) 20 (fun X hX => ?_)
      conv => whnf
      try dsimp only
      refine ⟨fun hh => absurd hh (by rw [show Int32.ofInt 72 = nI 72 by decide]; exact nI_ge (by omega) (by decide)), fun _ => ?_⟩
      conv => whnf
      try dsimp only
      refine ⟨72, [], rfl, vp_in_nI (by omega) (by decide), ?_⟩
      conv => whnf
      try dsimp only
      rw [nI_clamp (show p < 2 ^ 31 by omega), show nI p + Int32.ofInt 1 = nI (p + 1) by rw [li_1, nI_add]]
      refine hX _ _ _ _ _ _ (ih (p + 1) _ (by omega) (fun q q1 q2 q3 => (up_a q2).trans (g1 q q1 q2 q3)) (fun k hk => by rw [up_n (Or.inl (by decide))]; exact g2 k hk) (fun k hk => ?_) (fun k hk => by rw [up_n (Or.inl (by decide))]; exact g4 k hk))
      rw [up_at]
      by_cases e : k = p
      · rw [if_pos ⟨rfl, e⟩]; try decide
      · rw [if_neg (fun z => e z.2)]; exact g3 k (by omega)
  have one : ∀ d m p (j : Nat → Nat → Int32), p + m = 6 → (∀ q, q ≠ 93 → q ≠ 107 → q ≠ 114 → j q = i q) → (∀ k, k < p → j 93 k = -1) → (∀ k, k < p → j 114 k = -1) → am_wp (ax_E xl xs) (ax_cd Y_Model_init) (am_sp (ax_E xl xs) ax_cd ax_ml d) Q 207 [some (.ref 89), some (.int (nI p))] [] (KS, j) 0 0 := by
    intro d m
    induction m with
    | zero =>
      intro p j hp g1 g2 g3
      have : p = 6 := by omega
      subst this
      refine am_go (am_sp_mo _) (fun q => q == 207 || q == 235) 20 (fun X hX => ?_)
      conv => whnf
      try dsimp only
      refine ⟨fun _ => ?_, fun hh => absurd (by decide) hh⟩
      conv => whnf
      try dsimp only
      exact hX _ _ _ _ _ _ (two d 72 0 j (by omega) g1 g2 (fun k hk => absurd hk (by omega)) g3)
    | succ m ih =>
      intro p j hp g1 g2 g3
      refine am_go (am_sp_mo _) (fun q => q == 207) 20 (fun X hX => ?_)
      conv => whnf
      try dsimp only
      refine ⟨fun hh => absurd hh (by rw [li_6]; exact nI_ge (by omega) (by decide)), fun _ => ?_⟩
      conv => whnf
      try dsimp only
      refine ⟨6, [], rfl, vp_in_nI (by omega) (by decide), ?_⟩
      conv => whnf
      try dsimp only
      refine ⟨6, [], rfl, vp_in_nI (by omega) (by decide), ?_⟩
      conv => whnf
      try dsimp only
      rw [nI_clamp (show p < 2 ^ 31 by omega), show nI p + Int32.ofInt 1 = nI (p + 1) by rw [li_1, nI_add]]
      refine hX _ _ _ _ _ _ (ih (p + 1) _ (by omega) (fun q q1 q2 q3 => by rw [up_a q3, up_a q1]; exact g1 q q1 q2 q3) (fun k hk => ?_) (fun k hk => ?_))
      · rw [up_n (Or.inl (by decide)), up_at]
        by_cases e : k = p
        · rw [if_pos ⟨rfl, e⟩]; try decide
        · rw [if_neg (fun z => e z.2)]; exact g2 k (by omega)
      · rw [up_at]
        by_cases e : k = p
        · rw [if_pos ⟨rfl, e⟩]; try decide
        · rw [if_neg (fun z => e z.2), up_n (Or.inl (by decide))]; exact g3 k (by omega)
  obtain ⟨d, rfl⟩ : ∃ q, d = q + 1 := ⟨d - 1, by omega⟩
  have s24 : am_wp (ax_E xl xs) (ax_cd Y_Model_init) (am_sp (ax_E xl xs) ax_cd ax_ml d) Q 205 [some (.ref 89), none] [] (KS, i) 0 0 := by
    refine am_go (am_sp_mo _) (fun q => q == 207) 20 (fun X hX => ?_)
    conv => whnf
    try dsimp only
    exact hX _ _ _ _ _ _ (one d 6 0 i (by omega) (fun _ _ _ _ => rfl) (fun k hk => absurd hk (by omega)) (fun k hk => absurd hk (by omega)))
  have s23 : am_wp (ax_E xl xs) (ax_cd Y_Model_init) (am_sp (ax_E xl xs) ax_cd ax_ml d) Q 197 [some (.ref 89), none] [] (SH41, i) 1 6 := by
    refine am_go (am_sp_mo _) (fun q => q == 205) 12 (fun X hX => ?_)
    conv => whnf
    try dsimp only
    refine hX _ _ _ _ _ _ (am_wpL rfl (u' := (KS, i)) (Prod.ext rfl ?_) s24)
    first | exact zr_eq hZ _ (Nat.le_of_ble_eq_true rfl) _ | rfl
  have s22 : am_wp (ax_E xl xs) (ax_cd Y_Model_init) (am_sp (ax_E xl xs) ax_cd ax_ml d) Q 189 [some (.ref 89), none] [] (SH42, i) 2 12 := by
    refine am_go (am_sp_mo _) (fun q => q == 197) 12 (fun X hX => ?_)
    conv => whnf
    try dsimp only
    refine hX _ _ _ _ _ _ (am_wpL rfl (u' := (SH41, i)) (Prod.ext rfl ?_) s23)
    first | exact zr_eq hZ _ (Nat.le_of_ble_eq_true rfl) _ | rfl
  have s21 : am_wp (ax_E xl xs) (ax_cd Y_Model_init) (am_sp (ax_E xl xs) ax_cd ax_ml d) Q 181 [some (.ref 89), none] [] (SH43, i) 3 42 := by
    refine am_go (am_sp_mo _) (fun q => q == 189) 12 (fun X hX => ?_)
    conv => whnf
    try dsimp only
    refine hX _ _ _ _ _ _ (am_wpL rfl (u' := (SH42, i)) (Prod.ext rfl ?_) s22)
    first | exact zr_eq hZ _ (Nat.le_of_ble_eq_true rfl) _ | rfl
  have s20 : am_wp (ax_E xl xs) (ax_cd Y_Model_init) (am_sp (ax_E xl xs) ax_cd ax_ml d) Q 173 [some (.ref 89), none] [] (SH44, i) 4 48 := by
    refine am_go (am_sp_mo _) (fun q => q == 181) 12 (fun X hX => ?_)
    conv => whnf
    try dsimp only
    refine hX _ _ _ _ _ _ (am_wpL rfl (u' := (SH43, i)) (Prod.ext rfl ?_) s21)
    first | exact zr_eq hZ _ (Nat.le_of_ble_eq_true rfl) _ | rfl
  have s19 : am_wp (ax_E xl xs) (ax_cd Y_Model_init) (am_sp (ax_E xl xs) ax_cd ax_ml d) Q 165 [some (.ref 89), none] [] (SH45, i) 5 54 := by
    refine am_go (am_sp_mo _) (fun q => q == 173) 12 (fun X hX => ?_)
    conv => whnf
    try dsimp only
    refine hX _ _ _ _ _ _ (am_wpL rfl (u' := (SH44, i)) (Prod.ext rfl ?_) s20)
    first | exact zr_eq hZ _ (Nat.le_of_ble_eq_true rfl) _ | rfl
  have s18 : am_wp (ax_E xl xs) (ax_cd Y_Model_init) (am_sp (ax_E xl xs) ax_cd ax_ml d) Q 157 [some (.ref 89), none] [] (SH46, i) 6 60 := by
    refine am_go (am_sp_mo _) (fun q => q == 165) 12 (fun X hX => ?_)
    conv => whnf
    try dsimp only
    refine hX _ _ _ _ _ _ (am_wpL rfl (u' := (SH45, i)) (Prod.ext rfl ?_) s19)
    first | exact zr_eq hZ _ (Nat.le_of_ble_eq_true rfl) _ | rfl
  have s17 : am_wp (ax_E xl xs) (ax_cd Y_Model_init) (am_sp (ax_E xl xs) ax_cd ax_ml d) Q 148 [some (.ref 89), none] [] (SH47, i) 7 492 := by
    refine am_go (am_sp_mo _) (fun q => q == 157) 12 (fun X hX => ?_)
    conv => whnf
    try dsimp only
    refine hX _ _ _ _ _ _ (am_wpL rfl (u' := (SH46, i)) (Prod.ext rfl ?_) s18)
    first | exact zr_eq hZ _ (Nat.le_of_ble_eq_true rfl) _ | rfl
  have s16 : am_wp (ax_E xl xs) (ax_cd Y_Model_init) (am_sp (ax_E xl xs) ax_cd ax_ml d) Q 140 [some (.ref 89), none] [] (SH48, i) 8 564 := by
    refine am_go (am_sp_mo _) (fun q => q == 148) 12 (fun X hX => ?_)
    conv => whnf
    try dsimp only
    refine hX _ _ _ _ _ _ (am_wpL rfl (u' := (SH47, i)) (Prod.ext rfl ?_) s17)
    first | exact zr_eq hZ _ (Nat.le_of_ble_eq_true rfl) _ | rfl
  have s15 : am_wp (ax_E xl xs) (ax_cd Y_Model_init) (am_sp (ax_E xl xs) ax_cd ax_ml d) Q 132 [some (.ref 89), none] [] (SH49, i) 9 576 := by
    refine am_go (am_sp_mo _) (fun q => q == 140) 12 (fun X hX => ?_)
    conv => whnf
    try dsimp only
    refine hX _ _ _ _ _ _ (am_wpL rfl (u' := (SH48, i)) (Prod.ext rfl ?_) s16)
    first | exact zr_eq hZ _ (Nat.le_of_ble_eq_true rfl) _ | rfl
  have s14 : am_wp (ax_E xl xs) (ax_cd Y_Model_init) (am_sp (ax_E xl xs) ax_cd ax_ml d) Q 124 [some (.ref 89), none] [] (SH50, i) 10 588 := by
    refine am_go (am_sp_mo _) (fun q => q == 132) 12 (fun X hX => ?_)
    conv => whnf
    try dsimp only
    refine hX _ _ _ _ _ _ (am_wpL rfl (u' := (SH49, i)) (Prod.ext rfl ?_) s15)
    first | exact zr_eq hZ _ (Nat.le_of_ble_eq_true rfl) _ | rfl
  have s13 : am_wp (ax_E xl xs) (ax_cd Y_Model_init) (am_sp (ax_E xl xs) ax_cd ax_ml d) Q 116 [some (.ref 89), none] [] (SH51, i) 11 672 := by
    refine am_go (am_sp_mo _) (fun q => q == 124) 12 (fun X hX => ?_)
    conv => whnf
    try dsimp only
    refine hX _ _ _ _ _ _ (am_wpL rfl (u' := (SH50, i)) (Prod.ext rfl ?_) s14)
    first | exact zr_eq hZ _ (Nat.le_of_ble_eq_true rfl) _ | rfl
  have s12 : am_wp (ax_E xl xs) (ax_cd Y_Model_init) (am_sp (ax_E xl xs) ax_cd ax_ml d) Q 108 [some (.ref 89), none] [] (SH52, i) 12 708 := by
    refine am_go (am_sp_mo _) (fun q => q == 116) 12 (fun X hX => ?_)
    conv => whnf
    try dsimp only
    refine hX _ _ _ _ _ _ (am_wpL rfl (u' := (SH51, i)) (Prod.ext rfl ?_) s13)
    first | exact zr_eq hZ _ (Nat.le_of_ble_eq_true rfl) _ | rfl
  have s11 : am_wp (ax_E xl xs) (ax_cd Y_Model_init) (am_sp (ax_E xl xs) ax_cd ax_ml d) Q 100 [some (.ref 89), none] [] (SH53, i) 13 744 := by
    refine am_go (am_sp_mo _) (fun q => q == 108) 12 (fun X hX => ?_)
    conv => whnf
    try dsimp only
    refine hX _ _ _ _ _ _ (am_wpL rfl (u' := (SH52, i)) (Prod.ext rfl ?_) s12)
    first | exact zr_eq hZ _ (Nat.le_of_ble_eq_true rfl) _ | rfl
  have s10 : am_wp (ax_E xl xs) (ax_cd Y_Model_init) (am_sp (ax_E xl xs) ax_cd ax_ml d) Q 92 [some (.ref 89), none] [] (SH54, i) 14 756 := by
    refine am_go (am_sp_mo _) (fun q => q == 100) 12 (fun X hX => ?_)
    conv => whnf
    try dsimp only
    refine hX _ _ _ _ _ _ (am_wpL rfl (u' := (SH53, i)) (Prod.ext rfl ?_) s11)
    first | exact zr_eq hZ _ (Nat.le_of_ble_eq_true rfl) _ | rfl
  have s9 : am_wp (ax_E xl xs) (ax_cd Y_Model_init) (am_sp (ax_E xl xs) ax_cd ax_ml d) Q 84 [some (.ref 89), none] [] (SH55, i) 15 768 := by
    refine am_go (am_sp_mo _) (fun q => q == 92) 12 (fun X hX => ?_)
    conv => whnf
    try dsimp only
    refine hX _ _ _ _ _ _ (am_wpL rfl (u' := (SH54, i)) (Prod.ext rfl ?_) s10)
    first | exact zr_eq hZ _ (Nat.le_of_ble_eq_true rfl) _ | rfl
  have s8 : am_wp (ax_E xl xs) (ax_cd Y_Model_init) (am_sp (ax_E xl xs) ax_cd ax_ml d) Q 76 [some (.ref 89), none] [] (SH56, i) 16 784 := by
    refine am_go (am_sp_mo _) (fun q => q == 84) 12 (fun X hX => ?_)
    conv => whnf
    try dsimp only
    refine hX _ _ _ _ _ _ (am_wpL rfl (u' := (SH55, i)) (Prod.ext rfl ?_) s9)
    first | exact zr_eq hZ _ (Nat.le_of_ble_eq_true rfl) _ | rfl
  have s7 : am_wp (ax_E xl xs) (ax_cd Y_Model_init) (am_sp (ax_E xl xs) ax_cd ax_ml d) Q 68 [some (.ref 89), none] [] (SH57, i) 17 800 := by
    refine am_go (am_sp_mo _) (fun q => q == 76) 12 (fun X hX => ?_)
    conv => whnf
    try dsimp only
    refine hX _ _ _ _ _ _ (am_wpL rfl (u' := (SH56, i)) (Prod.ext rfl ?_) s8)
    first | exact zr_eq hZ _ (Nat.le_of_ble_eq_true rfl) _ | rfl
  have s6 : am_wp (ax_E xl xs) (ax_cd Y_Model_init) (am_sp (ax_E xl xs) ax_cd ax_ml d) Q 60 [some (.ref 89), none] [] (SH58, i) 18 816 := by
    refine am_go (am_sp_mo _) (fun q => q == 68) 12 (fun X hX => ?_)
    conv => whnf
    try dsimp only
    refine hX _ _ _ _ _ _ (am_wpL rfl (u' := (SH57, i)) (Prod.ext rfl ?_) s7)
    first | exact zr_eq hZ _ (Nat.le_of_ble_eq_true rfl) _ | rfl
  have s5 : am_wp (ax_E xl xs) (ax_cd Y_Model_init) (am_sp (ax_E xl xs) ax_cd ax_ml d) Q 52 [some (.ref 89), none] [] (SH59, i) 19 832 := by
    refine am_go (am_sp_mo _) (fun q => q == 60) 12 (fun X hX => ?_)
    conv => whnf
    try dsimp only
    refine hX _ _ _ _ _ _ (am_wpL rfl (u' := (SH58, i)) (Prod.ext rfl ?_) s6)
    first | exact zr_eq hZ _ (Nat.le_of_ble_eq_true rfl) _ | rfl
  have s4 : am_wp (ax_E xl xs) (ax_cd Y_Model_init) (am_sp (ax_E xl xs) ax_cd ax_ml d) Q 44 [some (.ref 89), none] [] (SH60, i) 20 848 := by
    refine am_go (am_sp_mo _) (fun q => q == 52) 12 (fun X hX => ?_)
    conv => whnf
    try dsimp only
    refine hX _ _ _ _ _ _ (am_wpL rfl (u' := (SH59, i)) (Prod.ext rfl ?_) s5)
    first | exact zr_eq hZ _ (Nat.le_of_ble_eq_true rfl) _ | rfl
  have s3 : am_wp (ax_E xl xs) (ax_cd Y_Model_init) (am_sp (ax_E xl xs) ax_cd ax_ml d) Q 36 [some (.ref 89), none] [] (SH61, i) 21 864 := by
    refine am_go (am_sp_mo _) (fun q => q == 44) 12 (fun X hX => ?_)
    conv => whnf
    try dsimp only
    refine hX _ _ _ _ _ _ (am_wpL rfl (u' := (SH60, i)) (Prod.ext rfl ?_) s4)
    first | exact zr_eq hZ _ (Nat.le_of_ble_eq_true rfl) _ | rfl
  have s2 : am_wp (ax_E xl xs) (ax_cd Y_Model_init) (am_sp (ax_E xl xs) ax_cd ax_ml d) Q 28 [some (.ref 89), none] [] (SH62, i) 22 870 := by
    refine am_go (am_sp_mo _) (fun q => q == 36) 12 (fun X hX => ?_)
    conv => whnf
    try dsimp only
    refine hX _ _ _ _ _ _ (am_wpL rfl (u' := (SH61, i)) (Prod.ext rfl ?_) s3)
    first | exact zr_eq hZ _ (Nat.le_of_ble_eq_true rfl) _ | rfl
  have s1 : am_wp (ax_E xl xs) (ax_cd Y_Model_init) (am_sp (ax_E xl xs) ax_cd ax_ml d) Q 20 [some (.ref 89), none] [] (SH63, i) 23 900 := by
    refine am_go (am_sp_mo _) (fun q => q == 28) 12 (fun X hX => ?_)
    conv => whnf
    try dsimp only
    refine hX _ _ _ _ _ _ (am_wpL rfl (u' := (SH62, i)) (Prod.ext rfl ?_) s2)
    first | exact zr_eq hZ _ (Nat.le_of_ble_eq_true rfl) _ | rfl
  have s0 : am_wp (ax_E xl xs) (ax_cd Y_Model_init) (am_sp (ax_E xl xs) ax_cd ax_ml d) Q 12 [some (.ref 89), none] [] (SH64, i) 24 906 := by
    refine am_go (am_sp_mo _) (fun q => q == 20) 12 (fun X hX => ?_)
    conv => whnf
    try dsimp only
    refine hX _ _ _ _ _ _ (am_wpL rfl (u' := (SH63, i)) (Prod.ext rfl ?_) s1)
    first | exact zr_eq hZ _ (Nat.le_of_ble_eq_true rfl) _ | rfl
  refine ⟨Nat.le_of_ble_eq_true rfl, am_go (am_sp_mo _) (fun q => q == 12) 20 (fun X hX => ?_)⟩
  conv => whnf
  try dsimp only
  refine hX _ _ _ _ _ _ (am_wpL rfl (u' := (SH64, i)) (Prod.ext rfl ?_) s0)
  first | exact zr_eq hZ _ (Nat.le_of_ble_eq_true rfl) _ | rfl
set_option maxRecDepth 20000 in
theorem k_AM_init (hZ : ZR 0 i) (hd : 3 ≤ d) (h : ∀ j : Nat → Nat → Int32, ZR 89 j → (∀ q, q ≠ 11 → q ≠ 12 → q ≠ 66 → q ≠ 67 → q ≠ 68 → q ≠ 69 → q ≠ 84 → q ≠ 87 → q ≠ 88 → j q = fun _ => 0) → (∀ k, k < 6 → j 11 k = -1) → (∀ k, k < 6 → j 12 k = -1) → j 68 2 = 1 → j 66 2 = 0 → j 84 7 = 0 → (∀ k, k < 6 → j 88 k = -1) → Q none (SH66, j)) : SP xl xs d Y_AM_init [.ref 0] (SH65, i) Q := by
  obtain ⟨d, rfl⟩ : ∃ q, d = q + 1 := ⟨d - 1, by omega⟩
  have s7 : ∀ j : Nat → Nat → Int32, ZR 89 j → (∀ q, q ≠ 11 → q ≠ 12 → q ≠ 66 → q ≠ 67 → q ≠ 68 → q ≠ 69 → q ≠ 84 → q ≠ 87 → q ≠ 88 → j q = fun _ => 0) → (∀ k, k < 6 → j 11 k = -1) → (∀ k, k < 6 → j 12 k = -1) → j 68 2 = 1 → j 66 2 = 0 → j 84 7 = 0 → (∀ k, k < 6 → j 88 k = -1) → am_wp (ax_E xl xs) (ax_cd Y_AM_init) (am_sp (ax_E xl xs) ax_cd ax_ml d) Q 118 [some (.ref 0)] [] (SH66, j) 0 0 := by
    intro j hj ha hb hc he hf hg hk
    refine am_go (am_sp_mo _) (fun _ => false) 20 (fun X hX => ?_)
    conv => whnf
    try dsimp only
    rw [up_0 (ha 0 (by decide) (by decide) (by decide) (by decide) (by decide) (by decide) (by decide) (by decide) (by decide))]
    exact h j hj ha hb hc he hf hg hk
  have s6 : ∀ j : Nat → Nat → Int32, ZR 84 j → (∀ q, q ≠ 11 → q ≠ 12 → q ≠ 66 → q ≠ 67 → q ≠ 68 → q ≠ 69 → q ≠ 84 → q ≠ 87 → q ≠ 88 → j q = fun _ => 0) → (∀ k, k < 6 → j 11 k = -1) → (∀ k, k < 6 → j 12 k = -1) → j 68 2 = 1 → j 66 2 = 0 → am_wp (ax_E xl xs) (ax_cd Y_AM_init) (am_sp (ax_E xl xs) ax_cd ax_ml d) Q 99 [some (.ref 0)] [] (SH67, j) 5 56 := by
    intro j hj ha hb hc he hf
    refine am_go (am_sp_mo _) (fun q => q == 118) 20 (fun X hX => ?_)
    conv => whnf
    try dsimp only
    refine sp_cast (As' := [.ref 84, .ref 1, .ref 13]) (u' := (SH33, j)) rfl (Prod.ext rfl (zr_eq hj _ (Nat.le_of_ble_eq_true rfl) _)) (k_Planner_init (fun q hq => hj q (Nat.le_trans (by decide) hq)) (by omega) (fun j2 g1 g2 g3 => ?_))
    conv => whnf
    try dsimp only
    refine hX _ _ _ _ _ _ (am_wpL rfl (u' := (SH66, j2)) rfl (s7 j2 (fun q hq => (g1 q (by omega) (by omega) (by omega)).trans (hj q (Nat.le_trans (by decide) hq))) (fun q q1 q2 qz q3 q4 q5 q6 q7 q8 => (g1 q q6 q7 q8).trans (ha q q1 q2 qz q3 q4 q5 q6 q7 q8)) (by rw [g1 11 (by decide) (by decide) (by decide)]; exact hb) (by rw [g1 12 (by decide) (by decide) (by decide)]; exact hc) (by rw [g1 68 (by decide) (by decide) (by decide)]; exact he) (by rw [g1 66 (by decide) (by decide) (by decide)]; exact hf) g2 g3))
  have s5 : ∀ j : Nat → Nat → Int32, ZR 70 j → (∀ q, q ≠ 11 → q ≠ 12 → q ≠ 66 → q ≠ 67 → q ≠ 68 → q ≠ 69 → q ≠ 84 → q ≠ 87 → q ≠ 88 → j q = fun _ => 0) → (∀ k, k < 6 → j 11 k = -1) → (∀ k, k < 6 → j 12 k = -1) → j 68 2 = 1 → j 66 2 = 0 → am_wp (ax_E xl xs) (ax_cd Y_AM_init) (am_sp (ax_E xl xs) ax_cd ax_ml d) Q 88 [some (.ref 0)] [] (SH68, j) 19 142 := by
    intro j hj ha hb hc he hf
    refine am_go (am_sp_mo _) (fun q => q == 99) 20 (fun X hX => ?_)
    conv => whnf
    try dsimp only
    refine sp_cast (As' := [.ref 70]) (u' := (SH23, j)) rfl (Prod.ext rfl (zr_eq hj _ (Nat.le_of_ble_eq_true rfl) _)) (k_HitList_init (fun q hq => hj q (Nat.le_trans (by decide) hq)) (by omega) ?_)
    conv => whnf
    try dsimp only
    exact hX _ _ _ _ _ _ (am_wpL rfl (u' := (SH67, j)) rfl (s6 j (fun q hq => hj q (Nat.le_trans (by decide) hq)) ha hb hc he hf))
  have s4 : ∀ j : Nat → Nat → Int32, ZR 68 j → (∀ q, q ≠ 11 → q ≠ 12 → q ≠ 66 → q ≠ 67 → q ≠ 68 → q ≠ 69 → q ≠ 84 → q ≠ 87 → q ≠ 88 → j q = fun _ => 0) → (∀ k, k < 6 → j 11 k = -1) → (∀ k, k < 6 → j 12 k = -1) → j 66 2 = 0 → am_wp (ax_E xl xs) (ax_cd Y_AM_init) (am_sp (ax_E xl xs) ax_cd ax_ml d) Q 68 [some (.ref 0)] [] (SH69, j) 21 152 := by
    intro j hj ha hb hc hf
    refine am_go (am_sp_mo _) (fun q => q == 88) 20 (fun X hX => ?_)
    conv => whnf
    try dsimp only
    refine sp_cast (As' := [.ref 68, .ref 1, .ref 13, .int (Int32.ofInt 1)]) (u' := (SH29, j)) rfl (Prod.ext rfl (zr_eq hj _ (Nat.le_of_ble_eq_true rfl) _)) (k_Ways_init1 (fun q hq => hj q (Nat.le_trans (by decide) hq)) (by omega) (fun j2 g1 g2 g3 => ?_))
    conv => whnf
    try dsimp only
    refine hX _ _ _ _ _ _ (am_wpL rfl (u' := (SH68, j2)) rfl (s5 j2 (fun q hq => (g1 q (by omega) (by omega)).trans (hj q (Nat.le_trans (by decide) hq))) (fun q q1 q2 qz q3 q4 q5 q6 q7 q8 => (g1 q q4 q5).trans (ha q q1 q2 qz q3 q4 q5 q6 q7 q8)) (by rw [g1 11 (by decide) (by decide)]; exact hb) (by rw [g1 12 (by decide) (by decide)]; exact hc) g2 (by rw [g1 66 (by decide) (by decide)]; exact hf)))
  have s3 : ∀ j : Nat → Nat → Int32, ZR 66 j → (∀ q, q ≠ 11 → q ≠ 12 → q ≠ 66 → q ≠ 67 → q ≠ 68 → q ≠ 69 → q ≠ 84 → q ≠ 87 → q ≠ 88 → j q = fun _ => 0) → (∀ k, k < 6 → j 11 k = -1) → (∀ k, k < 6 → j 12 k = -1) → am_wp (ax_E xl xs) (ax_cd Y_AM_init) (am_sp (ax_E xl xs) ax_cd ax_ml d) Q 48 [some (.ref 0)] [] (SH70, j) 23 162 := by
    intro j hj ha hb hc
    refine am_go (am_sp_mo _) (fun q => q == 68) 20 (fun X hX => ?_)
    conv => whnf
    try dsimp only
    refine sp_cast (As' := [.ref 66, .ref 1, .ref 13, .int (Int32.ofInt 0)]) (u' := (SH25, j)) rfl (Prod.ext rfl (zr_eq hj _ (Nat.le_of_ble_eq_true rfl) _)) (k_Ways_init0 (fun q hq => hj q (Nat.le_trans (by decide) hq)) (by omega) (fun j2 g1 g2 g3 => ?_))
    conv => whnf
    try dsimp only
    refine hX _ _ _ _ _ _ (am_wpL rfl (u' := (SH69, j2)) rfl (s4 j2 (fun q hq => (g1 q (by omega) (by omega)).trans (hj q (Nat.le_trans (by decide) hq))) (fun q q1 q2 qz q3 q4 q5 q6 q7 q8 => (g1 q qz q3).trans (ha q q1 q2 qz q3 q4 q5 q6 q7 q8)) (by rw [g1 11 (by decide) (by decide)]; exact hb) (by rw [g1 12 (by decide) (by decide)]; exact hc) g2))
  have s2 : ∀ j : Nat → Nat → Int32, ZR 52 j → (∀ q, q ≠ 11 → q ≠ 12 → q ≠ 66 → q ≠ 67 → q ≠ 68 → q ≠ 69 → q ≠ 84 → q ≠ 87 → q ≠ 88 → j q = fun _ => 0) → (∀ k, k < 6 → j 11 k = -1) → (∀ k, k < 6 → j 12 k = -1) → am_wp (ax_E xl xs) (ax_cd Y_AM_init) (am_sp (ax_E xl xs) ax_cd ax_ml d) Q 37 [some (.ref 0)] [] (SH71, j) 37 247 := by
    intro j hj ha hb hc
    refine am_go (am_sp_mo _) (fun q => q == 48) 20 (fun X hX => ?_)
    conv => whnf
    try dsimp only
    refine sp_cast (As' := [.ref 52]) (u' := (SH21, j)) rfl (Prod.ext rfl (zr_eq hj _ (Nat.le_of_ble_eq_true rfl) _)) (k_Exceptions_init (fun q hq => hj q (Nat.le_trans (by decide) hq)) (by omega) ?_)
    conv => whnf
    try dsimp only
    exact hX _ _ _ _ _ _ (am_wpL rfl (u' := (SH70, j)) rfl (s3 j (fun q hq => hj q (Nat.le_trans (by decide) hq)) ha hb hc))
  have s1 : ∀ j : Nat → Nat → Int32, ZR 20 j → (∀ q, q ≠ 11 → q ≠ 12 → q ≠ 66 → q ≠ 67 → q ≠ 68 → q ≠ 69 → q ≠ 84 → q ≠ 87 → q ≠ 88 → j q = fun _ => 0) → (∀ k, k < 6 → j 11 k = -1) → (∀ k, k < 6 → j 12 k = -1) → am_wp (ax_E xl xs) (ax_cd Y_AM_init) (am_sp (ax_E xl xs) ax_cd ax_ml d) Q 26 [some (.ref 0)] [] (SH72, j) 69 411 := by
    intro j hj ha hb hc
    refine am_go (am_sp_mo _) (fun q => q == 37) 20 (fun X hX => ?_)
    conv => whnf
    try dsimp only
    refine sp_cast (As' := [.ref 20]) (u' := (SH13, j)) rfl (Prod.ext rfl (zr_eq hj _ (Nat.le_of_ble_eq_true rfl) _)) (k_Advisories_init (fun q hq => hj q (Nat.le_trans (by decide) hq)) (by omega) ?_)
    conv => whnf
    try dsimp only
    exact hX _ _ _ _ _ _ (am_wpL rfl (u' := (SH71, j)) rfl (s2 j (fun q hq => hj q (Nat.le_trans (by decide) hq)) ha hb hc))
  have s0 : ∀ j : Nat → Nat → Int32, ZR 13 j → (∀ q, q ≠ 11 → q ≠ 12 → q ≠ 66 → q ≠ 67 → q ≠ 68 → q ≠ 69 → q ≠ 84 → q ≠ 87 → q ≠ 88 → j q = fun _ => 0) → (∀ k, k < 6 → j 11 k = -1) → (∀ k, k < 6 → j 12 k = -1) → am_wp (ax_E xl xs) (ax_cd Y_AM_init) (am_sp (ax_E xl xs) ax_cd ax_ml d) Q 15 [some (.ref 0)] [] (SH73, j) 76 514 := by
    intro j hj ha hb hc
    refine am_go (am_sp_mo _) (fun q => q == 26) 20 (fun X hX => ?_)
    conv => whnf
    try dsimp only
    refine sp_cast (As' := [.ref 13]) (u' := (SH6, j)) rfl (Prod.ext rfl (zr_eq hj _ (Nat.le_of_ble_eq_true rfl) _)) (k_Needs_init (fun q hq => hj q (Nat.le_trans (by decide) hq)) (by omega) ?_)
    conv => whnf
    try dsimp only
    exact hX _ _ _ _ _ _ (am_wpL rfl (u' := (SH72, j)) rfl (s1 j (fun q hq => hj q (Nat.le_trans (by decide) hq)) ha hb hc))
  refine ⟨Nat.le_of_ble_eq_true rfl, am_go (am_sp_mo _) (fun q => q == 15) 20 (fun X hX => ?_)⟩
  conv => whnf
  try dsimp only
  refine sp_cast (As' := [.ref 1]) (u' := (SH0, i)) rfl (Prod.ext rfl (zr_eq hZ _ (Nat.le_of_ble_eq_true rfl) _)) (k_Packs_init (fun q _ => hZ q (Nat.zero_le _)) (by omega) (fun j g1 g2 g3 => ?_))
  conv => whnf
  try dsimp only
  exact hX _ _ _ _ _ _ (am_wpL rfl (u' := (SH73, j)) rfl (s0 j (fun q hq => (g1 q (by omega) (by omega)).trans (hZ q (Nat.zero_le _))) (fun q q1 q2 _ _ _ _ _ _ _ => (g1 q q1 q2).trans (hZ q (Nat.zero_le _))) g2 g3))
end INIT
