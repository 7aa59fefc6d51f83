/-! PLANS: the class's search -/
abbrev cins (I : Nat → Nat → Int32) (np : Nat) : Nat → Bool := pins (I 11) np
abbrev cver (I : Nat → Nat → Int32) (p k : Nat) : Int32 := I (4 + p) k
abbrev ccl (I : Nat → Nat → Int32) (p k : Nat) : Bool := decide (I 85 (5 * p + k) = 1)
abbrev cB (I : Nat → Nat → Int32) (w : Nat → Int32) : Nat → Bool := nbrk (I 14) (I 15) (I 16) (I 17) (I 18) w
def cc (I : Nat → Nat → Int32) (np : Nat) (nv : Nat → Nat) (p : Nat) : Nat := if cins I np p = true then nv p else 1
abbrev cVd (I : Nat → Nat → Int32) (np nn : Nat) : (Nat → Nat) → Bool := vld (cins I np) (cver I) (ccl I) (cB I) nn
abbrev cfo (I : Nat → Nat → Int32) (np nn : Nat) (nv z : Nat → Nat) : Nat → Nat → (Nat → Nat) → PSt → PSt := pfo (cVd I np nn) (pK (cins I np) z) (cc I np nv)
def cFr (I j : Nat → Nat → Int32) : Prop := (∀ q, q ≠ 84 → q ≠ 86 → q ≠ 87 → q ≠ 88 → j q = I q) ∧ ∀ q, q ≠ 6 → j 84 q = I 84 q
def LST (I : Nat → Nat → Int32) (ins : Nat → Bool) (j : Nat → Nat → Int32) (s : PSt) : Prop := j 84 6 = nI s.1 ∧ s.1 ≤ 210 ∧ (s.1 < 210 → ∀ q, q < 6 → j 88 q = pvv ins q (s.2 q)) ∧ (s.1 = 210 → j 88 = I 88)
def TRD (ins : Nat → Bool) (ver : Nat → Nat → Int32) (f : Nat → Nat) (p : Nat) (j : Nat → Nat → Int32) : Prop := ∀ q, q < p → j 86 q = pvv ins q (f q) ∧ j 87 q = vers ins ver f q
def OKP (I : Nat → Nat → Int32) (np nn : Nat) (f : Nat → Nat) (p : Nat) : Prop := ∀ q, q < p → f q < 5 ∧ (cins I np q = true → ccl I q (f q) = true) ∧ kpt (I 14) (I 16) (cB I (vers (cins I np) (cver I) f)) nn q = true
theorem kpt_vers {I : Nat → Nat → Int32} {nn p : Nat} {w w' : Nat → Int32} (hp : p < 6) (hN : NK I nn) (h : ∀ q, q ≤ p → w q = w' q) : kpt (I 14) (I 16) (cB I w) nn p = kpt (I 14) (I 16) (cB I w') nn p :=
  kpt_congr hp hN.2.2 fun k a b _ ea eb ha hb => nbrk_at (by omega) (by omega) ea eb (h a ha) (h b hb)
theorem pins_of {pl : Nat → Int32} {np p : Nat} (h : pins pl np p = true) : p < np ∧ ¬ pl p = -1 := by
  unfold pins at h
  rw [Bool.and_eq_true] at h
  exact ⟨of_decide_eq_true h.1, fun e => by rw [decide_eq_true e] at h; cases h.2⟩
theorem pins_no {pl : Nat → Int32} {np p : Nat} (h : pins pl np p = false) (hp : p < np) : pl p = -1 := by
  unfold pins at h
  rw [decide_eq_true hp, Bool.true_and, Bool.not_eq_false'] at h
  exact of_decide_eq_true h
section SEARCH
variable {xl : Nat} {xs : Nat → Int32} {I : Nat → Nat → Int32} {np nn : Nat} {nv z : Nat → Nat}
theorem k_choose (hk : PK I np nv) (hN : NK I nn) (hpl : ∀ p, p < np → I 11 p = -1 ∨ (z p < nv p ∧ I 11 p = nI (z p))) (hz : ∀ p, z p < 5) (h85 : ∀ q, I 85 q = 0 ∨ I 85 q = 1) : ∀ (m p : Nat), p + m = 6 → ∀ (f : Nat → Nat) (s : PSt) (j : Nat → Nat → Int32) (Q : am_Q) (d : Nat), 2 * m + 6 ≤ d → cFr I j → LST I (cins I np) j s → TRD (cins I np) (cver I) f p j → OKP I np nn f p → (∀ j' : Nat → Nat → Int32, cFr I j' → LST I (cins I np) j' (cfo I np nn nv z m p f s) → (∀ q, q < p → j' 86 q = j 86 q ∧ j' 87 q = j 87 q) → Q none (KS, j')) → SP xl xs d Y_Planner_choose [.ref 84, .int (nI p), .int (nI (kpre (cins I np) z f p))] (KS, j) Q := by
  have hn := hk.2.1
  intro m
  induction m with
  | zero =>
    intro p hp f s j Q d hd hF hL hT hO h
    have : p = 6 := by omega
    subst this
    have hbd : kpre (cins I np) z f 6 ≤ 34 * 6 := kpre_bd (fun q hq => ⟨hz q, (hO q hq).1⟩)
    have h210 := hL.2.1
    obtain ⟨d, rfl⟩ : ∃ q, d = q + 1 := ⟨d - 1, by omega⟩
    refine ⟨Nat.le_of_ble_eq_true rfl, am_go (am_sp_mo _) (fun _ => false) 30 (fun X hX => ?_)⟩
    conv => whnf
    try dsimp only
    rw [hL.1]
    refine ⟨fun hlt => ?_, fun hge => ?_⟩
    · have hlt' : kpre (cins I np) z f 6 < s.1 := by
        rw [Int32.lt_iff_toInt_lt, nI_toInt (by omega), nI_toInt (by omega)] at hlt
        omega
      conv => whnf
      try dsimp only
      refine k_below 6 (by decide) (by decide) (by omega) (fun k hk' e => absurd (nI_inj (by omega) (by omega) e) (by omega)) (fun _ => ?_)
      conv => whnf
      try dsimp only
      refine ⟨fun h => absurd rfl h, fun _ => ?_⟩
      conv => whnf
      try dsimp only
      refine k_keepTried (by omega) (fun j' g1 g2 g3 => ?_)
      conv => whnf
      try dsimp only
      have hv : cVd I np nn f = true := vld_t hN.2.2 (fun p hp => (hO p hp).2.1) (fun p hp => (hO p hp).2.2)
      have hfo : cfo I np nn nv z 0 6 f s = (kpre (cins I np) z f 6, f) := by
        show pst _ _ s f = _
        unfold pst
        exact if_pos ⟨hv, hlt'⟩
      refine h j' ⟨fun q q1 q2 q3 q4 => (g1 q q1 q4).trans (hF.1 q q1 q2 q3 q4), fun q hq => by rw [g2, if_neg hq]; exact hF.2 q hq⟩ ?_ (fun q hq => by rw [g1 86 (by decide) (by decide), g1 87 (by decide) (by decide)]; exact ⟨rfl, rfl⟩)
      rw [hfo]
      exact ⟨by rw [g2, if_pos rfl], (show kpre (cins I np) z f 6 ≤ 210 by omega), fun _ q hq => by rw [g3 q hq]; exact (hT q hq).1, fun e => absurd (show kpre (cins I np) z f 6 = 210 from e) (by omega)⟩
    · conv => whnf
      try dsimp only
      have hfo : cfo I np nn nv z 0 6 f s = s := pfo_skip 0 6 f s (fun f' hf' => Or.inr (by
        have e : kpre (cins I np) z f' 6 = kpre (cins I np) z f 6 := kpre_congr hf'
        show s.1 ≤ kpre (cins I np) z f' 6
        rw [e]
        rcases Nat.lt_or_ge (kpre (cins I np) z f 6) s.1 with q | q
        · exact absurd (nI_lt q (by omega)) hge
        · exact q))
      exact h j hF (by rw [hfo]; exact hL) (fun _ _ => ⟨rfl, rfl⟩)
  | succ m ih =>
    intro p hp f s j Q d hd hF hL hT hO h
    have hbd : kpre (cins I np) z f p ≤ 34 * p := kpre_bd (fun q hq => ⟨hz q, (hO q hq).1⟩)
    have h210 := hL.2.1
    have hpk := (hk.2.2 p (by omega))
    have settle : ∀ (k : Nat) (s : PSt) (j : Nat → Nat → Int32) (Q : am_Q) (d : Nat), 2 * m + 7 ≤ d → k < cc I np nv p → (cins I np p = true → ccl I p k = true) → cFr I j → LST I (cins I np) j s → TRD (cins I np) (cver I) f p j → (∀ j' : Nat → Nat → Int32, cFr I j' → LST I (cins I np) j' (cfo I np nn nv z m (p + 1) (fset f p k) s) → (∀ q, q < p → j' 86 q = j 86 q ∧ j' 87 q = j 87 q) → Q none (KS, j')) → ∀ pv cost : Int32, pv = pvv (cins I np) p k → cost = nI (kpre (cins I np) z (fset f p k) (p + 1)) → SP xl xs d Y_Planner_settle [.ref 84, .int (nI p), .int pv, .int cost] (KS, j) Q := by
      intro k s j Q d hd hkc hkl hF hL hT h pv cost epv ecost
      subst epv
      subst ecost
      have hk5 : k < 5 := by
        unfold cc at hkc
        split at hkc <;> omega
      have hkj : PK j np nv := hk.fr (hF.1 1 (by decide) (by decide) (by decide) (by decide)) (hF.1 10 (by decide) (by decide) (by decide) (by decide))
      have hkm : ∀ x : Int32, PK (am_up j 86 p x) np nv := fun x => hkj.fr (up_a (by decide)) (up_a (by decide))
      obtain ⟨d, rfl⟩ : ∃ q, d = q + 1 := ⟨d - 1, by omega⟩
      refine ⟨Nat.le_of_ble_eq_true rfl, am_go (am_sp_mo _) (fun q => q == 31) 40 (fun X hX => ?_)⟩
      conv => whnf
      try dsimp only
      refine k_below 6 (by decide) (by decide) (by omega) (fun _ _ _ => ?_) (fun hx => absurd rfl (out_np (by omega) hx (show p < 6 by omega)))
      conv => whnf
      try dsimp only
      refine ⟨fun _ => ?_, fun h => absurd h (by decide)⟩
      conv => whnf
      try dsimp only
      refine ⟨6, [], rfl, vp_in_nI (by omega) (by decide), ?_⟩
      conv => whnf
      try dsimp only
      rw [nI_clamp (show p < 2 ^ 31 by omega)]
      have go : am_wp (ax_E xl xs) (ax_cd Y_Planner_settle) (am_sp (ax_E xl xs) ax_cd ax_ml d) Q 31 [some (.ref 84), some (.int (nI p)), some (.int (pvv (cins I np) p k)), some (.int (nI (kpre (cins I np) z (fset f p k) (p + 1))))] [.int (vers (cins I np) (cver I) (fset f p k) p), .int (nI p), .ref 87] (KS, am_up j 86 p (pvv (cins I np) p k)) 0 0 := by
        generalize hJ : am_up (am_up j 86 p (pvv (cins I np) p k)) 87 p (vers (cins I np) (cver I) (fset f p k) p) = J
        have J0 : ∀ q, q ≠ 86 → q ≠ 87 → J q = j q := fun q q1 q2 => by rw [← hJ, up_a q2, up_a q1]
        have hFJ : cFr I J := ⟨fun q q1 q2 q3 q4 => (J0 q q2 q3).trans (hF.1 q q1 q2 q3 q4), fun q hq => by rw [J0 84 (by decide) (by decide)]; exact hF.2 q hq⟩
        have hLJ : LST I (cins I np) J s := by unfold LST; rw [J0 84 (by decide) (by decide), J0 88 (by decide) (by decide)]; exact hL
        have hTJ : TRD (cins I np) (cver I) (fset f p k) (p + 1) J := by
          intro q hq
          rw [← hJ, up_a (show 86 ≠ 87 by decide), up_at, up_at, up_a (show 87 ≠ 86 by decide)]
          by_cases e : q = p
          · rw [if_pos ⟨rfl, e⟩, if_pos ⟨rfl, e⟩, e, fset_s]
            exact ⟨rfl, rfl⟩
          · rw [if_neg (fun z => e z.2), if_neg (fun z => e z.2), fset_n e, vers_congr (fset_n e)]
            exact hT q (by omega)
        have J86 : ∀ q, q < p → J 86 q = j 86 q ∧ J 87 q = j 87 q := fun q hq => by
          rw [← hJ, up_a (show 86 ≠ 87 by decide), up_at, up_at, up_a (show 87 ≠ 86 by decide), if_neg (by omega), if_neg (by omega)]
          exact ⟨rfl, rfl⟩
        have hNJ : NK J nn := by
          unfold NK
          rw [hFJ.1 13 (by decide) (by decide) (by decide) (by decide), hFJ.1 14 (by decide) (by decide) (by decide) (by decide), hFJ.1 16 (by decide) (by decide) (by decide) (by decide)]
          exact hN
        refine am_go (am_sp_mo _) (fun _ => false) 30 (fun X hX => ?_)
        conv => whnf
        try dsimp only
        refine ⟨6, [], rfl, vp_in_nI (by omega) (by decide), ?_⟩
        conv => whnf
        try dsimp only
        rw [nI_clamp (show p < 2 ^ 31 by omega), hJ]
        refine k_areKept rfl hNJ (by omega) (fun b hb => ?_)
        have hb' : b = kpt (I 14) (I 16) (cB I (vers (cins I np) (cver I) (fset f p k))) nn p := by
          rw [hb]
          unfold cbrk
          rw [hFJ.1 14 (by decide) (by decide) (by decide) (by decide), hFJ.1 15 (by decide) (by decide) (by decide) (by decide), hFJ.1 16 (by decide) (by decide) (by decide) (by decide), hFJ.1 17 (by decide) (by decide) (by decide) (by decide), hFJ.1 18 (by decide) (by decide) (by decide) (by decide)]
          exact kpt_vers (by omega) hN (fun q hq => (hTJ q (by omega)).2)
        cases b with
        | false =>
          conv => whnf
          try dsimp only
          refine ⟨fun _ => ?_, fun h => absurd rfl h⟩
          conv => whnf
          try dsimp only
          have hfo : cfo I np nn nv z m (p + 1) (fset f p k) s = s := pfo_skip m (p + 1) (fset f p k) s (fun f' hf' => Or.inl (vld_f2 (o := I 14) (t := I 16) (p := p) (by
            rw [hb']
            exact kpt_vers (by omega) hN (fun q hq => vers_congr (hf' q (by omega))))))
          exact h J hFJ (by rw [hfo]; exact hLJ) J86
        | true =>
          conv => whnf
          try dsimp only
          refine ⟨fun h => absurd h (by decide), fun _ => ?_⟩
          conv => whnf
          try dsimp only
          rw [show nI p + Int32.ofInt 1 = nI (p + 1) by rw [li_1, nI_add]]
          refine ih (p + 1) (by omega) (fset f p k) s J _ d (by omega) hFJ hLJ hTJ (fun q hq => ?_) (fun j' g1 g2 g3 => ?_)
          · by_cases e : q = p
            · subst e
              rw [fset_s]
              exact ⟨hk5, hkl, hb'.symm⟩
            · rw [fset_n e]
              obtain ⟨o1, o2, o3⟩ := hO q (by omega)
              refine ⟨o1, o2, ?_⟩
              rw [← o3]
              exact kpt_vers (by omega) hN (fun q' hq' => vers_congr (fset_n (by omega)))
          · conv => whnf
            try dsimp only
            exact h j' g1 g2 (fun q hq => by rw [(g3 q (by omega)).1, (g3 q (by omega)).2]; exact J86 q hq)
      cases hi : cins I np p with
      | true =>
        obtain ⟨hpn, hne⟩ := pins_of hi
        have hkv : k < nv p := by unfold cc at hkc; rw [if_pos hi] at hkc; exact hkc
        have e1 : pvv (cins I np) p k = nI k := if_pos hi
        have e2 : vers (cins I np) (cver I) (fset f p k) p = I (4 + p) k := by unfold vers; rw [if_pos hi, fset_s]
        rw [e1, e2] at go
        rw [e1]
        refine k_versionAt (hkm _) (by omega) (fun p2 k2 hp2 hk2 q1 q2 => ?_) (fun hno => absurd ⟨rfl, rfl⟩ (hno p k hpn hkv))
        have := nI_inj (by omega) (by omega) q1
        subst this
        have := nI_inj (by omega) (by have := hpk.2; omega) q2
        subst this
        conv => whnf
        try dsimp only
        rw [up_a (show 4 + p ≠ 86 by omega), hF.1 (4 + p) (by omega) (by omega) (by omega) (by omega)]
        exact hX _ _ _ _ _ _ go
      | false =>
        have e1 : pvv (cins I np) p k = -1 := if_neg (by rw [hi]; decide)
        have e2 : vers (cins I np) (cver I) (fset f p k) p = -1 := if_neg (by rw [hi]; decide)
        rw [e1, e2] at go
        rw [e1]
        refine k_versionAt (hkm _) (by omega) (fun p2 k2 hp2 hk2 q1 q2 => absurd q2.symm (nI_m1 (by have := (hk.2.2 p2 (by omega)).2; omega))) (fun hno => ?_)
        conv => whnf
        try dsimp only
        exact hX _ _ _ _ _ _ go
    obtain ⟨d, rfl⟩ : ∃ q, d = q + 1 := ⟨d - 1, by omega⟩
    refine ⟨Nat.le_of_ble_eq_true rfl, am_go (am_sp_mo _) (fun q => q == 49) 40 (fun X hX => ?_)⟩
    conv => whnf
    try dsimp only
    rw [hL.1]
    refine ⟨fun hlt => ?_, fun hge => ?_⟩
    rotate_left
    · conv => whnf
      try dsimp only
      have hfo : cfo I np nn nv z (m + 1) p f s = s := pfo_skip (m + 1) p f s (fun f' hf' => Or.inr (by
        have e : kpre (cins I np) z f' p = kpre (cins I np) z f p := kpre_congr hf'
        have e2 := kpre_le (ins := cins I np) (z := z) (f := f') p (m + 1)
        rw [hp] at e2
        show s.1 ≤ kpre (cins I np) z f' 6
        rcases Nat.lt_or_ge (kpre (cins I np) z f p) s.1 with q | q
        · exact absurd (nI_lt q (by omega)) hge
        · omega))
      exact h j hF (by rw [hfo]; exact hL) (fun _ _ => ⟨rfl, rfl⟩)
    have hkj : PK j np nv := hk.fr (hF.1 1 (by decide) (by decide) (by decide) (by decide)) (hF.1 10 (by decide) (by decide) (by decide) (by decide))
    conv => whnf
    try dsimp only
    refine k_below 6 (by decide) (by decide) (by omega) (fun _ _ _ => ?_) (fun hx => absurd rfl (out_np (by omega) hx (show p < 6 by omega)))
    conv => whnf
    try dsimp only
    refine ⟨fun _ => ?_, fun h => absurd h (by decide)⟩
    have noin : cins I np p = false → ∀ (j' : Nat → Nat → Int32), cFr I j' → LST I (cins I np) j' (cfo I np nn nv z m (p + 1) (fset f p 0) s) → (∀ q, q < p → j' 86 q = j 86 q ∧ j' 87 q = j 87 q) → Q none (KS, j') := fun hi j' g1 g2 g3 => h j' g1 (by
      have e : cfo I np nn nv z (m + 1) p f s = cfo I np nn nv z m (p + 1) (fset f p 0) s := by
        show pfk _ (cc I np nv p) s = _
        unfold cc
        rw [hi]
        rfl
      rw [e]; exact g2) g3
    have k0 : cins I np p = false → kpre (cins I np) z (fset f p 0) (p + 1) = kpre (cins I np) z f p := fun hi => by
      show kpre (cins I np) z (fset f p 0) p + kst (cins I np) z p (fset f p 0 p) = _
      rw [kpre_congr (f' := f) (fun q hq => fset_n (by omega)), kst, hi, if_neg (by decide)]
      rfl
    conv => whnf
    try dsimp only
    refine k_placeOf hkj (by omega) (fun p' hp' ep => ?_) (fun hout => ?_)
    rotate_left
    · have hi : cins I np p = false := by
        cases e : cins I np p with
        | false => rfl
        | true => exact absurd rfl (out_np (by omega) hout (pins_of e).1)
      conv => whnf
      try dsimp only
      refine ⟨fun h => absurd (by decide) h, fun _ => ?_⟩
      conv => whnf
      try dsimp only
      refine settle 0 s j _ d (by omega) (by unfold cc; rw [hi, if_neg (by decide)]; omega) (fun e => by rw [hi] at e; cases e) hF hL hT (fun j' g1 g2 g3 => ?_) _ _ (by rw [li_m1]; exact (if_neg (by rw [hi]; decide)).symm) (by rw [k0 hi])
      conv => whnf
      try dsimp only
      exact noin hi j' g1 g2 g3
    have := nI_inj (by omega) (by omega) ep
    subst this
    conv => whnf
    try dsimp only
    rw [hF.1 11 (by decide) (by decide) (by decide) (by decide)]
    rcases hpl p hp' with hm1 | ⟨hzv, hze⟩
    · have hi : cins I np p = false := by
        show pins (I 11) np p = false
        unfold pins
        rw [decide_eq_true hm1]
        simp
      rw [hm1]
      refine ⟨fun h => absurd (by decide) h, fun _ => ?_⟩
      conv => whnf
      try dsimp only
      refine settle 0 s j _ d (by omega) (by unfold cc; rw [hi, if_neg (by decide)]; omega) (fun e => by rw [hi] at e; cases e) hF hL hT (fun j' g1 g2 g3 => ?_) _ _ (by rw [li_m1]; exact (if_neg (by rw [hi]; decide)).symm) (by rw [k0 hi])
      conv => whnf
      try dsimp only
      exact noin hi j' g1 g2 g3
    have hi : cins I np p = true := by
      show pins (I 11) np p = true
      unfold pins
      rw [decide_eq_true hp', hze, decide_eq_false (nI_m1 (by have := hz p; omega))]
      rfl
    have hcc : cc I np nv p = nv p := by unfold cc; rw [if_pos hi]
    have hz5 := hz p
    have hkp : ∀ k, nI (kpre (cins I np) z f p) + nI (if k = z p then 0 else 30 + ndist k (z p)) = nI (kpre (cins I np) z (fset f p k) (p + 1)) := fun k => by
      show _ = nI (kpre (cins I np) z (fset f p k) p + kst (cins I np) z p (fset f p k p))
      rw [nI_add, kpre_congr (f' := f) (fun q hq => fset_n (by omega)), fset_s, kst, if_pos hi]
    rw [hze]
    refine ⟨fun _ => ?_, fun e => absurd e (by rw [li_m1]; exact nI_m1 (by omega))⟩
    conv => whnf
    try dsimp only
    refine hX _ _ _ _ _ _ ?_
    have loop : ∀ n k (j' : Nat → Nat → Int32), k + n = nv p → cFr I j' → LST I (cins I np) j' (pfk (fun k s => cfo I np nn nv z m (p + 1) (fset f p k) s) k s) → (∀ q, q < p → j' 86 q = j 86 q ∧ j' 87 q = j 87 q) → am_wp (ax_E xl xs) (ax_cd Y_Planner_choose) (am_sp (ax_E xl xs) ax_cd ax_ml d) Q 49 [some (.ref 84), some (.int (nI p)), some (.int (nI (kpre (cins I np) z f p))), some (.int (nI (z p))), some (.int (nI k))] [] (KS, j') 0 0 := by
      intro n
      induction n with
      | zero =>
        intro k j' hkn g1 g2 g3
        have : k = nv p := by omega
        subst this
        have hkj' : PK j' np nv := hk.fr (g1.1 1 (by decide) (by decide) (by decide) (by decide)) (g1.1 10 (by decide) (by decide) (by decide) (by decide))
        refine am_go (am_sp_mo _) (fun q => q == 49) 30 (fun X hX => ?_)
        conv => whnf
        try dsimp only
        refine k_countVersions hkj' (by omega) (fun p2 hp2 ep2 => ?_) (fun hx => absurd rfl (out_np (by omega) hx hp'))
        have := nI_inj (by omega) (by omega) ep2
        subst this
        conv => whnf
        try dsimp only
        refine ⟨fun _ => ?_, fun hh => absurd (nI_le (Nat.le_refl _) (by omega)) hh⟩
        conv => whnf
        try dsimp only
        refine h j' g1 ?_ g3
        show LST I (cins I np) j' (pfk _ (cc I np nv p) s)
        rw [hcc]
        exact g2
      | succ n ihn =>
        intro k j' hkn g1 g2 g3
        have hkj' : PK j' np nv := hk.fr (g1.1 1 (by decide) (by decide) (by decide) (by decide)) (g1.1 10 (by decide) (by decide) (by decide) (by decide))
        have e1 : nI k + Int32.ofInt 1 = nI (k + 1) := by rw [li_1, nI_add]
        refine am_go (am_sp_mo _) (fun q => q == 49) 40 (fun X hX => ?_)
        conv => whnf
        try dsimp only
        refine k_countVersions hkj' (by omega) (fun p2 hp2 ep2 => ?_) (fun hx => absurd rfl (out_np (by omega) hx hp'))
        have := nI_inj (by omega) (by omega) ep2
        subst this
        conv => whnf
        try dsimp only
        refine ⟨fun hh => absurd hh (nI_ge (by omega) (by omega)), fun _ => ?_⟩
        conv => whnf
        try dsimp only
        refine k_isClearPlace (by omega) (by omega) (by rw [g1.1 85 (by decide) (by decide) (by decide) (by decide)]; exact h85) (by omega) (fun b hb => ?_)
        rw [g1.1 85 (by decide) (by decide) (by decide) (by decide)] at hb
        cases b with
        | false =>
          conv => whnf
          try dsimp only
          refine ⟨fun _ => ?_, fun h => absurd rfl h⟩
          conv => whnf
          try dsimp only
          rw [e1]
          refine hX _ _ _ _ _ _ (ihn (k + 1) j' (by omega) g1 ?_ g3)
          have hsk : ∀ s' : PSt, cfo I np nn nv z m (p + 1) (fset f p k) s' = s' := fun s' => pfo_skip m (p + 1) (fset f p k) s' (fun f' hf' => Or.inl (vld_f1 (p := p) (by omega) hi (by rw [hf' p (by omega), fset_s]; exact hb.symm)))
          show LST I (cins I np) j' (cfo I np nn nv z m (p + 1) (fset f p k) (pfk _ k s))
          rw [hsk]
          exact g2
        | true =>
          conv => whnf
          try dsimp only
          refine ⟨fun h => absurd h (by decide), fun _ => ?_⟩
          conv => whnf
          try dsimp only
          refine k_costOf hz5 (by omega) (by omega) ?_
          conv => whnf
          try dsimp only
          refine settle k _ j' _ d (by omega) (by rw [hcc]; omega) (fun _ => hb.symm) g1 g2 (fun q hq => by rw [(g3 q hq).1, (g3 q hq).2]; exact hT q hq) (fun j2 k1 k2 k3 => ?_) _ _ (if_pos hi).symm (hkp k)
          conv => whnf
          try dsimp only
          rw [e1]
          exact hX _ _ _ _ _ _ (ihn (k + 1) j2 (by omega) k1 k2 (fun q hq => by rw [(k3 q hq).1, (k3 q hq).2]; exact g3 q hq))
    exact loop (nv p) 0 j (by omega) hF hL (fun _ _ => ⟨rfl, rfl⟩)
theorem k_search {i : Nat → Nat → Int32} {Q : am_Q} {d : Nat} (hk : PK i np nv) (hN : NK i nn) (hpl : ∀ p, p < np → i 11 p = -1 ∨ (z p < nv p ∧ i 11 p = nI (z p))) (hz : ∀ p, z p < 5) (h85 : ∀ q, i 85 q = 0 ∨ i 85 q = 1) (hd : 20 ≤ d)
    (h1 : (cfo i np nn nv z 6 0 (fun _ => 0) (210, fun _ => 0)).1 < 210 → ∀ j : Nat → Nat → Int32, (∀ q, q ≠ 84 → q ≠ 86 → q ≠ 87 → q ≠ 88 → j q = i q) → j 84 7 = 1 → (∀ q, q < 6 → j 88 q = pvv (cins i np) q ((cfo i np nn nv z 6 0 (fun _ => 0) (210, fun _ => 0)).2 q)) → Q (some (.int (nI ((cfo i np nn nv z 6 0 (fun _ => 0) (210, fun _ => 0)).1 / 30)))) (KS, j))
    (h0 : (cfo i np nn nv z 6 0 (fun _ => 0) (210, fun _ => 0)).1 = 210 → ∀ j : Nat → Nat → Int32, (∀ q, q ≠ 84 → q ≠ 86 → q ≠ 87 → q ≠ 88 → j q = i q) → j 84 7 = i 84 7 → j 88 = i 88 → Q (some (.int (-1))) (KS, j)) : SP xl xs d Y_Planner_search [.ref 84] (KS, i) Q := by
  obtain ⟨d, rfl⟩ : ∃ q, d = q + 1 := ⟨d - 1, by omega⟩
  refine ⟨Nat.le_of_ble_eq_true rfl, am_go (am_sp_mo _) (fun _ => false) 30 (fun X hX => ?_)⟩
  conv => whnf
  try dsimp only
  have hc := k_choose (xl := xl) (xs := xs) (I := i) hk hN hpl hz h85 6 0 (by omega) (fun _ => 0) (210, fun _ => 0) (am_up i 84 6 (Int32.ofInt 210))
  refine hc _ d (by omega) ⟨fun q q1 _ _ _ => up_a q1, fun q hq => up_n (Or.inr hq)⟩ ⟨by rw [up_s]; decide, Nat.le_refl _, fun h => absurd h (by decide), fun _ => up_a (by decide)⟩ (fun q hq => absurd hq (by omega)) (fun q hq => absurd hq (by omega)) (fun j' g1 g2 g3 => ?_)
  clear hc
  generalize cfo i np nn nv z 6 0 (fun _ => 0) (210, fun _ => 0) = S at *
  obtain ⟨l1, l2, l3, l4⟩ := g2
  conv => whnf
  try dsimp only
  rw [l1]
  refine ⟨fun hne => ?_, fun heq => ?_⟩
  · have hlt : S.1 < 210 := by
      rcases Nat.lt_or_ge S.1 210 with q | q
      · exact q
      · exact absurd (show nI S.1 = Int32.ofInt 210 by rw [show S.1 = 210 by omega]; decide) hne
    conv => whnf
    try dsimp only
    refine ⟨by decide, ?_⟩
    conv => whnf
    try dsimp only
    refine ⟨by decide, ?_⟩
    conv => whnf
    try dsimp only
    rw [up_n (Or.inr (by decide)), l1]
    refine q_eq ?_ rfl (h1 hlt _ (fun q q1 q2 q3 q4 => (up_a q1).trans (g1.1 q q1 q2 q3 q4)) (by rw [up_s]; try decide) (fun q hq => by rw [up_n (Or.inl (by decide))]; exact l3 hlt q hq))
    rw [li_30, pk_div (by omega) (by decide) (by decide)]
  · have he : S.1 = 210 := nI_inj (by omega) (by decide) (heq.trans (by decide))
    conv => whnf
    try dsimp only
    exact h0 he j' g1.1 (g1.2 7 (by decide)) (l4 he)
theorem c_plan {i : Nat → Nat → Int32} {Q : am_Q} {d na : Nat} {sp gr : Nat → Nat} (hk : PK i np nv) (hN : NK i nn) (hA : AK i na sp) (hw : ∀ a, i 50 a = 0 ∨ i 50 a = 1) (hg : ∀ a, a < na → i 51 a = nI (gr a) ∧ gr a < 12) (hpl : ∀ p, p < np → i 11 p = -1 ∨ (z p < nv p ∧ i 11 p = nI (z p))) (hz : ∀ p, z p < 5) (h85 : ∀ q, i 85 q = 0 ∨ i 85 q = 1) (hd : 22 ≤ d)
    (h : ∀ I : Nat → Nat → Int32, (∀ q, q ≠ 85 → I q = i q) → (∀ q, I 85 q = 0 ∨ I 85 q = 1) → (∀ p k, p < np → k < nv p → ccl I p k = cclr i sp gr na p (i (4 + p) k)) → 
      ((cfo I np nn nv z 6 0 (fun _ => 0) (210, fun _ => 0)).1 < 210 → ∀ j : Nat → Nat → Int32, (∀ q, q ≠ 84 → q ≠ 86 → q ≠ 87 → q ≠ 88 → j q = I q) → j 84 7 = 1 → (∀ q, q < 6 → j 88 q = pvv (cins I np) q ((cfo I np nn nv z 6 0 (fun _ => 0) (210, fun _ => 0)).2 q)) → Q (some (.int (nI ((cfo I np nn nv z 6 0 (fun _ => 0) (210, fun _ => 0)).1 / 30)))) (KS, j)) ∧
      ((cfo I np nn nv z 6 0 (fun _ => 0) (210, fun _ => 0)).1 = 210 → ∀ j : Nat → Nat → Int32, (∀ q, q ≠ 84 → q ≠ 86 → q ≠ 87 → q ≠ 88 → j q = I q) → j 84 7 = I 84 7 → j 88 = I 88 → Q (some (.int (-1))) (KS, j))) : SP xl xs d Y_AM_plan [.ref 0] (KS, i) Q := by
  have hn := hk.2.1
  obtain ⟨d, rfl⟩ : ∃ q, d = q + 1 := ⟨d - 1, by omega⟩
  refine ⟨Nat.le_of_ble_eq_true rfl, am_go (am_sp_mo _) (fun q => q == 2) 30 (fun X hX => ?_)⟩
  conv => whnf
  try dsimp only
  refine hX _ _ _ _ _ _ ?_
  have loop : ∀ m p (j : Nat → Nat → Int32), p + m = np → (∀ q, q ≠ 85 → j q = i q) → (∀ q, j 85 q = 0 ∨ j 85 q = 1) → (∀ p' k, p' < p → k < nv p' → ccl j p' k = cclr i sp gr na p' (i (4 + p') k)) → am_wp (ax_E xl xs) (ax_cd Y_AM_plan) (am_sp (ax_E xl xs) ax_cd ax_ml d) Q 2 [some (.ref 0), some (.int (nI p))] [] (KS, j) 0 0 := by
    intro m
    induction m with
    | zero =>
      intro p j hp g1 g2 g3
      have : p = np := by omega
      subst this
      have hkj : PK j p nv := hk.fr (g1 1 (by decide)) (g1 10 (by decide))
      have hNj : NK j nn := by
        unfold NK
        rw [g1 13 (by decide), g1 14 (by decide), g1 16 (by decide)]
        exact hN
      obtain ⟨h1, h0⟩ := h j g1 g2 g3
      refine am_go (am_sp_mo _) (fun q => q == 2) 30 (fun X hX => ?_)
      conv => whnf
      try dsimp only
      refine k_Packs_count (by omega) ?_
      conv => whnf
      try dsimp only
      rw [g1 1 (by decide), hk.1]
      refine ⟨fun _ => ?_, fun hh => absurd (nI_le (Nat.le_refl _) (by omega)) hh⟩
      conv => whnf
      try dsimp only
      refine k_search (z := z) hkj hNj (by rw [g1 11 (by decide)]; exact hpl) hz g2 (by omega) (fun e j2 a1 a2 a3 => ?_) (fun e j2 a1 a2 a3 => ?_)
      · conv => whnf
        try dsimp only
        exact h1 e j2 a1 a2 a3
      · conv => whnf
        try dsimp only
        exact h0 e j2 a1 a2 a3
    | succ m ih =>
      intro p j hp g1 g2 g3
      have h5 := (hk.2.2 p (by omega)).2
      refine am_go (am_sp_mo _) (fun q => q == 2) 30 (fun X hX => ?_)
      conv => whnf
      try dsimp only
      refine k_Packs_count (by omega) ?_
      conv => whnf
      try dsimp only
      rw [g1 1 (by decide), hk.1]
      refine ⟨fun hh => absurd hh (nI_ge (by omega) (by omega)), fun _ => ?_⟩
      conv => whnf
      try dsimp only
      refine k_markPlacesOf g1 hk (by omega) hA hw hg (by omega) (fun j2 a1 a2 => ?_)
      conv => whnf
      try dsimp only
      rw [show nI p + Int32.ofInt 1 = nI (p + 1) by rw [li_1, nI_add]]
      refine hX _ _ _ _ _ _ (ih (p + 1) j2 (by omega) a1 (fun q => ?_) (fun p' k hp' hk' => ?_))
      · rw [a2]
        split
        · split
          · exact Or.inr rfl
          · exact Or.inl rfl
        · exact g2 q
      · show decide (j2 85 (5 * p' + k) = 1) = _
        have h5' := (hk.2.2 p' (by omega)).2
        rw [a2]
        by_cases e : p' = p
        · subst e
          rw [if_pos (by omega), show 5 * p' + k - 5 * p' = k by omega]
          cases cclr i sp gr na p' (i (4 + p') k) <;> decide
        · rw [if_neg (by omega)]
          exact g3 p' k (by omega) hk'
  exact loop np 0 i (by omega) (fun _ _ => rfl) h85 (fun p' _ hp' => absurd hp' (by omega))
end SEARCH
