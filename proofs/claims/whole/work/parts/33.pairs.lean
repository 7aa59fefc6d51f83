/-! ONE CALL OF EACH: the simple ones -/
theorem FRM.upL {i : Nat → Nat → Int32} {a k : Nat} {x : Int32} (L : List Nat) (h : L.contains a = true) (h9 : a ≠ 89) : FRM L [] i (am_up i a k x) :=
  (FRM.up h9).sub (fun q hq => by
    have : q = a := by simpa using hq
    rw [this]; exact h) (fun q hq => by simp at hq)
theorem wv_up {ver w : Nat → Int32} {q p : Nat} {v : Int32} {nv : Nat} (h : w p = -1 ∨ ∃ k, k < nv ∧ w p = nI k) (hn : nv ≤ 5) (hq : ∀ k, k < nv → 5 * p + k ≠ q) : wv (upd ver q v) w p = wv ver w p := by
  unfold wv
  rcases h with h | ⟨k, hk, h⟩
  · rw [if_pos h, if_pos h]
  · rw [h, if_neg (nI_m1 (by omega)), if_neg (nI_m1 (by omega)), nI_clamp (by omega)]
    unfold upd
    rw [if_neg (hq k hk)]
theorem nlt0 {x : Int32} (h : ¬ x < 0) : ¬ x = -1 := fun e => by rw [e] at h; exact h (by decide)
section PAIRS
variable {xl : Nat} {xs : Nat → Int32} {i : Nat → Nat → Int32}
theorem p_pack {x : Int32} (hx : x = 0 ∨ x = 1) (hI : INV i) : PRD xl xs Y_AM_pack Y_Model_pack [.int x] i := by
  obtain ⟨np, nv, nn, na, sp, gr, ch, c, nh, hA, hB, hC, hD, hS, hK, hE, hT, hG, hH, hM⟩ := hI
  have hn := hA.2.2.1
  refine c_pack (np := np) hA.1 hn (by omega) (fun hlt => ⟨_, _, rfl, rfl, ?_⟩) (fun he => ⟨_, _, rfl, rfl, ?_⟩)
  · refine m_pack (np := np) ?_ hn (by omega) (fun _ => ?_) (fun he => absurd he (by omega))
    · rw [up_n (Or.inl (by decide)), up_n (Or.inl (by decide))]; exact hA.2.1
    · have F : FRM _ _ i (am_up (am_up (am_up (am_up i 2 np (vp_nar .boolean x)) 1 5 (nI (np + 1))) 90 np (vp_nar .boolean x)) 89 1 (nI (np + 1))) := (((FRM.up (by decide)).tr (FRM.up (by decide))).tr (FRM.up (by decide))).tr FRM.um
      refine ⟨_, rfl, rfl, np + 1, nv, nn, na, sp, gr, ch, c, nh, ?_, ?_, hC.fr F (by decide) (by decide), hD.fr F (by decide) (by decide), hS.fr F (by decide) (by decide), hK.fr F (by decide) (by decide), hE.fr F (by decide) (by decide), hT.fr F (by decide) (by decide), hG.fr F (by decide) (by decide), ?_, hM.fr F (by decide) (by decide)⟩
      · obtain ⟨h1, h2, h3, h4, h5, h6, h7, h8⟩ := hA
        refine ⟨?_, up_s _ _ _ _, by omega, fun p hp => ?_, ?_, fun p => ?_, fun p k hp hk => ?_, fun q hq => ?_⟩
        · rw [up_n (Or.inl (by decide)), up_n (Or.inl (by decide)), up_s]
        · rw [up_n (Or.inl (by decide)), up_n (Or.inl (by decide)), up_n (Or.inl (by decide)), up_n (Or.inl (by decide)), up_n (Or.inl (by decide)), up_n (Or.inl (by decide)), up_n (Or.inl (by decide)), up_n (Or.inl (by decide))]
          exact h4 p hp
        · rw [up_a (by decide), up_a (by decide), up_a (by decide), up_sa, up_a (by decide), up_sa, up_a (by decide), up_a (by decide), h5]
        · rw [up_n (Or.inl (by decide)), up_n (Or.inl (by decide)), up_n (Or.inl (by decide)), up_at, nar_01 hx]
          by_cases e : p = np
          · rw [if_pos ⟨rfl, e⟩]; exact hx
          · rw [if_neg (fun z => e z.2)]; exact h6 p
        · rw [up_n (Or.inl (by omega)), up_n (Or.inl (by omega)), up_n (Or.inl (by omega)), up_n (Or.inl (by omega)), up_n (Or.inl (by decide)), up_n (Or.inl (by decide)), up_n (Or.inl (by decide)), up_n (Or.inl (by decide))]
          exact h7 p k hp hk
        · rw [up_n (Or.inl (by decide)), up_n (Or.inl (by decide)), up_n (Or.inl (by decide)), up_n (Or.inl (by decide))]
          exact h8 q hq
      · have hB := hB.fr F (by decide) (by decide)
        refine ⟨hB.1, fun p hp => ?_, fun p hp => hB.2.2.1 p (by omega), hB.2.2.2⟩
        rcases Nat.lt_or_ge p np with q | q
        · exact hB.2.1 p q
        · exact Or.inl (hB.2.2.1 p q (by omega))
      · have hH := hH.fr F (by decide) (by decide)
        refine ⟨hH.1, hH.2.1, hH.2.2.1, fun p hp => ?_, fun p hp => hH.2.2.2.2 p (by omega)⟩
        rcases Nat.lt_or_ge p np with q | q
        · exact hH.2.2.2.1 p q
        · exact Or.inl (hH.2.2.2.2 p q (by omega))
  · refine m_pack (np := np) hA.2.1 hn (by omega) (fun hlt => absurd he (by omega)) (fun _ => ⟨i, rfl, rfl, np, nv, nn, na, sp, gr, ch, c, nh, hA, hB, hC, hD, hS, hK, hE, hT, hG, hH, hM⟩)
theorem p_call {x y : Int32} (hy : y = 0 ∨ y = 1) (hI : INV i) : PRD xl xs Y_AM_call Y_Model_call [.int x, .int y] i := by
  obtain ⟨np, nv, nn, na, sp, gr, ch, c, nh, hA, hB, hC, hD, hS, hK, hE, hT, hG, hH, hM⟩ := hI
  have hn := hC.2.2.1
  refine c_call hC.1 hn (by omega) (fun k hk hx => ⟨_, _, rfl, rfl, ?_⟩) (fun hx => ⟨_, _, rfl, rfl, ?_⟩)
  · refine m_call (nn := nn) ?_ hn (by omega) (fun k' hk' hx' => ?_) (fun hx' => absurd hx (out_np (by omega) hx' hk))
    · rw [up_n (Or.inl (by decide))]; exact hC.2.1
    · have := nI_inj (by omega) (by omega) (hx'.symm.trans hx)
      subst this
      have F : FRM _ _ i (am_up (am_up i 19 k' (vp_nar .boolean y)) 99 k' (vp_nar .boolean y)) := (FRM.up (by decide)).tr (FRM.up (by decide))
      refine ⟨_, rfl, rfl, np, nv, nn, na, sp, gr, ch, c, nh, hA.fr F (by decide) (by decide), hB.fr F (by decide) (by decide), ?_, hD.fr F (by decide) (by decide), hS.fr F (by decide) (by decide), hK.fr F (by decide) (by decide), hE.fr F (by decide) (by decide), hT.fr F (by decide) (by decide), hG.fr F (by decide) (by decide), hH.fr F (by decide) (by decide), hM.fr F (by decide) (by decide)⟩
      obtain ⟨h1, h2, h3, ⟨h4, h5, h6, h7, h8, h9⟩, h10, h11⟩ := hC
      refine ⟨?_, ?_, h3, ⟨?_, ?_, ?_, ?_, ?_, ?_⟩, fun k hk => ?_, fun k => ?_⟩
      · rw [up_n (Or.inl (by decide)), up_n (Or.inl (by decide))]; exact h1
      · rw [up_n (Or.inl (by decide)), up_n (Or.inl (by decide))]; exact h2
      · rw [up_a (by decide), up_a (by decide), up_a (by decide), up_a (by decide)]; exact h4
      · rw [up_a (by decide), up_a (by decide), up_a (by decide), up_a (by decide)]; exact h5
      · rw [up_a (by decide), up_a (by decide), up_a (by decide), up_a (by decide)]; exact h6
      · rw [up_a (by decide), up_a (by decide), up_a (by decide), up_a (by decide)]; exact h7
      · rw [up_a (by decide), up_a (by decide), up_a (by decide), up_a (by decide)]; exact h8
      · rw [up_a (by decide), up_sa, up_sa, up_a (by decide), h9]
      · rw [up_n (Or.inl (by decide)), up_n (Or.inl (by decide)), up_n (Or.inl (by decide)), up_n (Or.inl (by decide))]; exact h10 k hk
      · rw [up_n (Or.inl (by decide)), up_at, nar_01 hy]
        by_cases e : k = k'
        · rw [if_pos ⟨rfl, e⟩]; exact hy
        · rw [if_neg (fun z => e z.2)]; exact h11 k
  · refine m_call (nn := nn) hC.2.1 hn (by omega) (fun k' hk' hx' => absurd hx' (out_np (by omega) hx hk')) (fun _ => ⟨i, rfl, rfl, np, nv, nn, na, sp, gr, ch, c, nh, hA, hB, hC, hD, hS, hK, hE, hT, hG, hH, hM⟩)
theorem p_group {x : Int32} (hI : INV i) : PRD xl xs Y_AM_group Y_Model_group [.int x] i := by
  obtain ⟨np, nv, nn, na, sp, gr, ch, c, nh, hA, hB, hC, hD, hS, hK, hE, hT, hG, hH, hM⟩ := hI
  have hn := hD.2.2.1
  have e51 := hD.2.2.2.2.2.2.2.2.1
  refine c_group hD.1 hn (by omega) (fun a ha hx => ⟨_, _, rfl, rfl, ?_⟩) (fun hx => ⟨_, _, rfl, rfl, ?_⟩)
  · refine m_group (na := na) hD.2.1 hn (by omega) (fun a' ha' hx' => ?_) (fun hx' => absurd hx (out_np (by omega) hx' ha))
    have := nI_inj (by omega) (by omega) (hx'.symm.trans hx)
    subst this
    exact ⟨i, by rw [e51], rfl, np, nv, nn, na, sp, gr, ch, c, nh, hA, hB, hC, hD, hS, hK, hE, hT, hG, hH, hM⟩
  · exact m_group (na := na) hD.2.1 hn (by omega) (fun a' ha' hx' => absurd hx' (out_np (by omega) hx ha')) (fun _ => ⟨i, rfl, rfl, np, nv, nn, na, sp, gr, ch, c, nh, hA, hB, hC, hD, hS, hK, hE, hT, hG, hH, hM⟩)
theorem p_score {x : Int32} (hI : INV i) : PRD xl xs Y_AM_score Y_Model_score [.int x] i := by
  obtain ⟨np, nv, nn, na, sp, gr, ch, c, nh, hA, hB, hC, hD, hS, hK, hE, hT, hG, hH, hM⟩ := hI
  have hn := hD.2.2.1
  refine c_score hD.1 hn (by omega) (fun a ha hx => ⟨_, _, rfl, rfl, ?_⟩) (fun hx => ⟨_, _, rfl, rfl, ?_⟩)
  · refine m_score (na := na) (ch := ch) hD.2.1 hn hK.1 (by omega) (fun a' ha' hx' => ?_) (fun hx' => absurd hx (out_np (by omega) hx' ha))
    have := nI_inj (by omega) (by omega) (hx'.symm.trans hx)
    subst this
    exact ⟨i, by rw [(hK.2 a' (by omega)).1], rfl, np, nv, nn, na, sp, gr, ch, c, nh, hA, hB, hC, hD, hS, hK, hE, hT, hG, hH, hM⟩
  · exact m_score (na := na) (ch := ch) hD.2.1 hn hK.1 (by omega) (fun a' ha' hx' => absurd hx' (out_np (by omega) hx ha')) (fun _ => ⟨i, rfl, rfl, np, nv, nn, na, sp, gr, ch, c, nh, hA, hB, hC, hD, hS, hK, hE, hT, hG, hH, hM⟩)
theorem p_hit {x y : Int32} (hI : INV i) : PRD xl xs Y_AM_hit Y_Model_hit [.int x, .int y] i := by
  obtain ⟨np, nv, nn, na, sp, gr, ch, c, nh, hA, hB, hC, hD, hS, hK, hE, hT, hG, hH, hM⟩ := hI
  have hn := hG.2.2.1
  refine c_hit hG.1 hn (by omega) (fun q w hq hw hx hy => ⟨_, _, rfl, rfl, ?_⟩) (fun hno => ⟨_, _, rfl, rfl, ?_⟩)
  · refine m_hit hG.2.1 (by omega) (by omega) (fun q' w' hq' hw' hx' hy' => ?_) (fun hno => absurd ⟨hx, hy⟩ (hno q w hq hw))
    have := nI_inj (by omega) (by omega) (hx'.symm.trans hx)
    subst this
    have := nI_inj (by omega) (by omega) (hy'.symm.trans hy)
    subst this
    exact ⟨i, by rw [hG.2.2.2 q' w' hq hw], rfl, np, nv, nn, na, sp, gr, ch, c, nh, hA, hB, hC, hD, hS, hK, hE, hT, hG, hH, hM⟩
  · exact m_hit hG.2.1 (by omega) (by omega) (fun q' w' hq' hw' hx' hy' => absurd ⟨hx', hy'⟩ (hno q' w' hq' hw')) (fun _ => ⟨i, rfl, rfl, np, nv, nn, na, sp, gr, ch, c, nh, hA, hB, hC, hD, hS, hK, hE, hT, hG, hH, hM⟩)
theorem p_planned {x : Int32} (hI : INV i) : PRD xl xs Y_AM_planned Y_Model_planned [.int x] i := by
  obtain ⟨np, nv, nn, na, sp, gr, ch, c, nh, hA, hB, hC, hD, hS, hK, hE, hT, hG, hH, hM⟩ := hI
  have hn := hA.2.2.1
  refine c_planned (by omega) (fun p hp hx => ⟨_, _, rfl, rfl, ?_⟩) (fun hx => ⟨_, _, rfl, rfl, ?_⟩)
  · refine m_planned (np := np) hA.2.1 hn (by omega) (fun p' hp' hx' => ?_) (fun hx' => ?_)
    · have := nI_inj (by omega) (by omega) (hx'.symm.trans hx)
      subst this
      exact ⟨i, by rw [hH.2.2.1 p' hp], rfl, np, nv, nn, na, sp, gr, ch, c, nh, hA, hB, hC, hD, hS, hK, hE, hT, hG, hH, hM⟩
    · have hpn : np ≤ p := by
        rcases Nat.lt_or_ge p np with q | q
        · exact absurd hx (out_np (by omega) hx' q)
        · exact q
      exact ⟨i, by rw [hH.2.2.1 p hp, hH.2.2.2.2 p hpn hp], rfl, np, nv, nn, na, sp, gr, ch, c, nh, hA, hB, hC, hD, hS, hK, hE, hT, hG, hH, hM⟩
  · refine m_planned (np := np) hA.2.1 hn (by omega) (fun p' hp' hx' => absurd hx' (out_np (by decide) hx (by omega))) (fun _ => ⟨i, rfl, rfl, np, nv, nn, na, sp, gr, ch, c, nh, hA, hB, hC, hD, hS, hK, hE, hT, hG, hH, hM⟩)
theorem p_tick {x : Int32} (hI : INV i) : PRD xl xs Y_AM_tick Y_Model_tick [.int x] i := by
  obtain ⟨np, nv, nn, na, sp, gr, ch, c, nh, hA, hB, hC, hD, hS, hK, hE, hT, hG, hH, hM⟩ := hI
  have hm := hT.2.2
  refine c_tick hT.1 hm (by omega) (fun n hn hx hc => ⟨_, _, rfl, rfl, ?_⟩) (fun hno => ⟨_, _, rfl, rfl, ?_⟩)
  · refine m_tick (c := c) ?_ hm (by omega) (fun n' hn' hx' hc' => ?_) (fun hno => absurd hc (hno n hn hx))
    · rw [up_n (Or.inl (by decide))]; exact hT.2.1
    · have := nI_inj (by omega) (by omega) (hx'.symm.trans hx)
      subst this
      have F : FRM _ _ i (am_up (am_up i 0 8 (nI (c + n'))) 89 0 (nI (c + n'))) := (FRM.up (by decide)).tr FRM.um
      refine ⟨_, rfl, rfl, np, nv, nn, na, sp, gr, ch, c + n', nh, hA.fr F (by decide) (by decide), hB.fr F (by decide) (by decide), hC.fr F (by decide) (by decide), hD.fr F (by decide) (by decide), hS.fr F (by decide) (by decide), hK.fr F (by decide) (by decide), hE.fr F (by decide) (by decide), ?_, hG.fr F (by decide) (by decide), hH.fr F (by decide) (by decide), hM.fr F (by decide) (by decide)⟩
      exact ⟨by rw [up_n (Or.inl (by decide)), up_s], up_s _ _ _ _, hc⟩
  · exact m_tick (c := c) hT.2.1 hm (by omega) (fun n' hn' hx' hc' => absurd hc' (hno n' hn' hx')) (fun _ => ⟨i, rfl, rfl, np, nv, nn, na, sp, gr, ch, c, nh, hA, hB, hC, hD, hS, hK, hE, hT, hG, hH, hM⟩)
theorem p_withdraw {x y : Int32} (hy : y = 0 ∨ y = 1) (hI : INV i) : PRD xl xs Y_AM_withdraw Y_Model_withdraw [.int x, .int y] i := by
  obtain ⟨np, nv, nn, na, sp, gr, ch, c, nh, hA, hB, hC, hD, hS, hK, hE, hT, hG, hH, hM⟩ := hI
  have hn := hD.2.2.1
  refine c_withdraw hD.1 hn (by omega) (fun a ha hx => ⟨_, _, rfl, rfl, ?_⟩) (fun hx => ⟨_, _, rfl, rfl, ?_⟩)
  · refine m_withdraw (na := na) ?_ hn (by omega) (fun a' ha' hx' => ?_) (fun hx' => absurd hx (out_np (by omega) hx' ha))
    · rw [up_n (Or.inl (by decide))]; exact hD.2.1
    · have := nI_inj (by omega) (by omega) (hx'.symm.trans hx)
      subst this
      have F : FRM _ _ i (am_up (am_up i 50 a' (vp_nar .boolean y)) 105 a' (vp_nar .boolean y)) := (FRM.up (by decide)).tr (FRM.up (by decide))
      refine ⟨_, rfl, rfl, np, nv, nn, na, sp, gr, ch, c, nh, hA.fr F (by decide) (by decide), hB.fr F (by decide) (by decide), hC.fr F (by decide) (by decide), ?_, hS.fr F (by decide) (by decide), hK.fr F (by decide) (by decide), hE.fr F (by decide) (by decide), hT.fr F (by decide) (by decide), hG.fr F (by decide) (by decide), hH.fr F (by decide) (by decide), hM.fr F (by decide) (by decide)⟩
      obtain ⟨h1, h2, h3, h4, h5, h6, h7, h8, h9, h10⟩ := hD
      unfold ID
      rw [F.1 20 rfl (by decide), F.2 13 rfl, F.1 21 rfl (by decide), F.1 100 rfl (by decide), F.1 48 rfl (by decide), F.1 101 rfl (by decide), F.1 51 rfl (by decide), F.1 106 rfl (by decide)]
      refine ⟨h1, h2, h3, h4, h5, h6, ?_, fun a => ?_, h9, h10⟩
      · rw [up_a (by decide), up_sa, up_sa, up_a (by decide), h7]
      · rw [up_n (Or.inl (by decide)), up_at, nar_01 hy]
        by_cases e : a = a'
        · rw [if_pos ⟨rfl, e⟩]; exact hy
        · rw [if_neg (fun z => e z.2)]; exact h8 a
  · exact m_withdraw (na := na) hD.2.1 hn (by omega) (fun a' ha' hx' => absurd hx' (out_np (by omega) hx ha')) (fun _ => ⟨i, rfl, rfl, np, nv, nn, na, sp, gr, ch, c, nh, hA, hB, hC, hD, hS, hK, hE, hT, hG, hH, hM⟩)
theorem p_need {x s y l g : Int32} (hI : INV i) : PRD xl xs Y_AM_need Y_Model_need [.int x, .int s, .int y, .int l, .int g] i := by
  obtain ⟨np, nv, nn, na, sp, gr, ch, c, nh, hA, hB, hC, hD, hS, hK, hE, hT, hG, hH, hM⟩ := hI
  have hn := hA.2.2.1
  have hm := hC.2.2.1
  refine c_need hA.1 hn hC.1 hm (by omega) (fun p q hp hq hx hy hlt => ⟨_, _, rfl, rfl, ?_⟩) (fun hno => ⟨_, _, rfl, rfl, ?_⟩)
  · generalize hJ : am_up (am_up (am_up (am_up (am_up (am_up i 14 nn x) 15 nn s) 16 nn y) 17 nn l) 18 nn g) 13 6 (nI (nn + 1)) = J
    have FJ : FRM [14, 15, 16, 17, 18, 13] [] i J := by rw [← hJ]; exact (((((FRM.up (by decide)).tr (FRM.up (by decide))).tr (FRM.up (by decide))).tr (FRM.up (by decide))).tr (FRM.up (by decide))).tr (FRM.up (by decide))
    refine m_need (np := np) (nn := nn) (by rw [FJ.2 1 rfl]; exact hA.2.1) hn (by rw [FJ.2 6 rfl]; exact hC.2.1) hm (by omega) (fun p' q' hp' hq' hx' hy' _ => ?_) (fun hno => absurd hlt (hno p q hp hq hx hy))
    generalize hJ2 : am_up (am_up (am_up (am_up (am_up (am_up J 94 nn x) 95 nn s) 96 nn y) 97 nn l) 98 nn g) 89 6 (nI (nn + 1)) = J2
    have F2 : FRM [94, 95, 96, 97, 98] [6] J J2 := by rw [← hJ2]; exact (((((FRM.up (by decide)).tr (FRM.up (by decide))).tr (FRM.up (by decide))).tr (FRM.up (by decide))).tr (FRM.up (by decide))).tr FRM.um
    have F := FJ.tr F2
    refine ⟨J2, rfl, rfl, np, nv, nn + 1, na, sp, gr, ch, c, nh, hA.fr F (by decide) (by decide), hB.fr F (by decide) (by decide), ?_, hD.fr F (by decide) (by decide), hS.fr F (by decide) (by decide), hK.fr F (by decide) (by decide), hE.fr F (by decide) (by decide), hT.fr F (by decide) (by decide), hG.fr F (by decide) (by decide), hH.fr F (by decide) (by decide), hM.fr F (by decide) (by decide)⟩
    obtain ⟨h1, h2, h3, ⟨h4, h5, h6, h7, h8, h9⟩, h10, h11⟩ := hC
    have a : ∀ b, b = 14 ∨ b = 15 ∨ b = 16 ∨ b = 17 ∨ b = 18 ∨ b = 19 → J2 b = J b := fun b hb => F2.1 b (by rcases hb with rfl | rfl | rfl | rfl | rfl | rfl <;> rfl) (by omega)
    have e14 : J2 14 = upd (i 14) nn x := by rw [a 14 (by omega), ← hJ]; rw [up_a (by decide), up_a (by decide), up_a (by decide), up_a (by decide), up_a (by decide), up_sa]
    have e15 : J2 15 = upd (i 15) nn s := by rw [a 15 (by omega), ← hJ]; rw [up_a (by decide), up_a (by decide), up_a (by decide), up_a (by decide), up_sa, up_a (by decide)]
    have e16 : J2 16 = upd (i 16) nn y := by rw [a 16 (by omega), ← hJ]; rw [up_a (by decide), up_a (by decide), up_a (by decide), up_sa, up_a (by decide), up_a (by decide)]
    have e17 : J2 17 = upd (i 17) nn l := by rw [a 17 (by omega), ← hJ]; rw [up_a (by decide), up_a (by decide), up_sa, up_a (by decide), up_a (by decide), up_a (by decide)]
    have e18 : J2 18 = upd (i 18) nn g := by rw [a 18 (by omega), ← hJ]; rw [up_a (by decide), up_sa, up_a (by decide), up_a (by decide), up_a (by decide), up_a (by decide)]
    have e94 : J2 94 = upd (i 94) nn x := by rw [← hJ2, up_a (by decide), up_a (by decide), up_a (by decide), up_a (by decide), up_a (by decide), up_sa, FJ.1 94 rfl (by decide)]
    have e95 : J2 95 = upd (i 95) nn s := by rw [← hJ2, up_a (by decide), up_a (by decide), up_a (by decide), up_a (by decide), up_sa, up_a (by decide), FJ.1 95 rfl (by decide)]
    have e96 : J2 96 = upd (i 96) nn y := by rw [← hJ2, up_a (by decide), up_a (by decide), up_a (by decide), up_sa, up_a (by decide), up_a (by decide), FJ.1 96 rfl (by decide)]
    have e97 : J2 97 = upd (i 97) nn l := by rw [← hJ2, up_a (by decide), up_a (by decide), up_sa, up_a (by decide), up_a (by decide), up_a (by decide), FJ.1 97 rfl (by decide)]
    have e98 : J2 98 = upd (i 98) nn g := by rw [← hJ2, up_a (by decide), up_sa, up_a (by decide), up_a (by decide), up_a (by decide), up_a (by decide), FJ.1 98 rfl (by decide)]
    refine ⟨?_, ?_, by omega, ⟨by rw [e14, e94, h4], by rw [e15, e95, h5], by rw [e16, e96, h6], by rw [e17, e97, h7], by rw [e18, e98, h8], ?_⟩, fun k hk => ?_, fun k => ?_⟩
    · rw [F2.1 13 rfl (by decide), ← hJ, up_s]
    · rw [← hJ2, up_s]
    · rw [F.1 19 rfl (by decide), F.1 99 rfl (by decide), h9]
    · rw [e14, e16]
      unfold upd
      by_cases e : k = nn
      · rw [if_pos e, if_pos e]
        exact ⟨p, q, by omega, by omega, hx, hy⟩
      · rw [if_neg e, if_neg e]
        exact h10 k (by omega)
    · rw [F.1 19 rfl (by decide)]; exact h11 k
  · exact m_need (np := np) (nn := nn) hA.2.1 hn hC.2.1 hm (by omega) (fun p q hp hq hx hy hlt => absurd hlt (hno p q hp hq hx hy)) (fun _ => ⟨i, rfl, rfl, np, nv, nn, na, sp, gr, ch, c, nh, hA, hB, hC, hD, hS, hK, hE, hT, hG, hH, hM⟩)
theorem p_advisory {x : Int32} (hI : INV i) : PRD xl xs Y_AM_advisory Y_Model_advisory [.int x] i := by
  obtain ⟨np, nv, nn, na, sp, gr, ch, c, nh, hA, hB, hC, hD, hS, hK, hE, hT, hG, hH, hM⟩ := hI
  have hn := hA.2.2.1
  have hm := hD.2.2.1
  refine c_advisory hA.1 hn hD.1 hm (by omega) (fun p hp hx hlt => ⟨_, _, rfl, rfl, ?_⟩) (fun hno => ⟨_, _, rfl, rfl, ?_⟩)
  · generalize hJ : am_up (am_up (am_up i 21 na x) 51 na (nI na)) 20 7 (nI (na + 1)) = J
    have FJ : FRM [21, 51, 20] [] i J := by rw [← hJ]; exact ((FRM.up (by decide)).tr (FRM.up (by decide))).tr (FRM.up (by decide))
    refine m_advisory (np := np) (na := na) (by rw [FJ.2 1 rfl]; exact hA.2.1) hn (by rw [FJ.2 13 rfl]; exact hD.2.1) hm (by omega) (fun p' hp' hx' _ => ?_) (fun hno => absurd hlt (hno p hp hx))
    generalize hJ2 : am_up (am_up (am_up J 100 na x) 106 na (nI na)) 89 13 (nI (na + 1)) = J2
    have F2 : FRM [100, 106] [13] J J2 := by rw [← hJ2]; exact ((FRM.up (by decide)).tr (FRM.up (by decide))).tr FRM.um
    have F := FJ.tr F2
    refine ⟨J2, rfl, rfl, np, nv, nn, na + 1, sp, fset gr na na, ch, c, nh, hA.fr F (by decide) (by decide), hB.fr F (by decide) (by decide), hC.fr F (by decide) (by decide), ?_, hS.fr F (by decide) (by decide), hK.fr F (by decide) (by decide), ?_, hT.fr F (by decide) (by decide), hG.fr F (by decide) (by decide), hH.fr F (by decide) (by decide), hM.fr F (by decide) (by decide)⟩
    · obtain ⟨h1, h2, h3, h4, h5, h6, h7, h8, h9, h10⟩ := hD
      have e21 : J2 21 = upd (i 21) na x := by rw [F2.1 21 rfl (by decide), ← hJ, up_a (by decide), up_a (by decide), up_sa]
      have e51 : J2 51 = upd (i 51) na (nI na) := by rw [F2.1 51 rfl (by decide), ← hJ, up_a (by decide), up_sa, up_a (by decide)]
      have e100 : J2 100 = upd (i 100) na x := by rw [← hJ2, up_a (by decide), up_a (by decide), up_sa, FJ.1 100 rfl (by decide)]
      have e106 : J2 106 = upd (i 106) na (nI na) := by rw [← hJ2, up_a (by decide), up_sa, up_a (by decide), FJ.1 106 rfl (by decide)]
      unfold ID
      rw [e21, e51, e100, e106, F.1 48 rfl (by decide), F.1 101 rfl (by decide), F.1 50 rfl (by decide), F.1 105 rfl (by decide)]
      refine ⟨by rw [F2.1 20 rfl (by decide), ← hJ, up_s], by rw [← hJ2, up_s], by omega, by rw [h4], fun a ha => ?_, h6, h7, h8, by rw [h9], fun a ha => ?_⟩
      · unfold upd
        by_cases e : a = na
        · rw [if_pos e]; exact ⟨p, by omega, hx⟩
        · rw [if_neg e]; exact h5 a (by omega)
      · unfold upd fset
        by_cases e : a = na
        · rw [if_pos e, if_pos e]; exact ⟨rfl, by omega⟩
        · rw [if_neg e, if_neg e]; exact h10 a (by omega)
    · intro g hg hl p hp
      rw [F.1 107 rfl (by decide), F.1 (54 + g) (by
        have : ∀ g, g < 12 → ([21, 51, 20] ++ [100, 106]).contains (54 + g) = false := by decide
        exact this g hg) (by omega)]
      refine hE g hg ?_ p hp
      rcases hl with q | ⟨a, ha, e⟩
      · exact Or.inl (by omega)
      · unfold fset at e
        by_cases e2 : a = na
        · rw [if_pos e2] at e; exact Or.inl (by omega)
        · rw [if_neg e2] at e; exact Or.inr ⟨a, by omega, e⟩
  · exact m_advisory (np := np) (na := na) hA.2.1 hn hD.2.1 hm (by omega) (fun p hp hx hlt => absurd hlt (hno p hp hx)) (fun _ => ⟨i, rfl, rfl, np, nv, nn, na, sp, gr, ch, c, nh, hA, hB, hC, hD, hS, hK, hE, hT, hG, hH, hM⟩)
end PAIRS
