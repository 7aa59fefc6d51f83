/-! PLANS: the search -/
def fset (f : Nat → Nat) (p k : Nat) : Nat → Nat := fun q => if q = p then k else f q
abbrev PSt : Type := Nat × (Nat → Nat)
def pst (V : (Nat → Nat) → Bool) (K : (Nat → Nat) → Nat) (s : PSt) (f : Nat → Nat) : PSt := if V f = true ∧ K f < s.1 then (K f, f) else s
def pfk (F : Nat → PSt → PSt) : Nat → PSt → PSt
  | 0, s => s
  | n + 1, s => F n (pfk F n s)
def pfo (V : (Nat → Nat) → Bool) (K : (Nat → Nat) → Nat) (c : Nat → Nat) : Nat → Nat → (Nat → Nat) → PSt → PSt
  | 0, _, f, s => pst V K s f
  | m + 1, p, f, s => pfk (fun k s => pfo V K c m (p + 1) (fset f p k) s) (c p) s
theorem fset_n {f : Nat → Nat} {p k q : Nat} (h : q ≠ p) : fset f p k q = f q := if_neg h
theorem fset_s (f : Nat → Nat) (p k : Nat) : fset f p k p = k := if_pos rfl
theorem pfk_skip {F : Nat → PSt → PSt} {s : PSt} : ∀ {n : Nat}, (∀ k, k < n → F k s = s) → pfk F n s = s
  | 0, _ => rfl
  | n + 1, h => by
    unfold pfk
    rw [pfk_skip (fun k hk => h k (by omega)), h n (by omega)]
theorem pfo_skip {V : (Nat → Nat) → Bool} {K : (Nat → Nat) → Nat} {c : Nat → Nat} : ∀ (m p : Nat) (f : Nat → Nat) (s : PSt), (∀ f' : Nat → Nat, (∀ q, q < p → f' q = f q) → V f' = false ∨ s.1 ≤ K f') → pfo V K c m p f s = s
  | 0, p, f, s, h => by
    unfold pfo pst
    rw [if_neg]
    intro ⟨h1, h2⟩
    rcases h f (fun _ _ => rfl) with z | z
    · rw [h1] at z; cases z
    · omega
  | m + 1, p, f, s, h => by
    unfold pfo
    exact pfk_skip fun k _ => pfo_skip m (p + 1) (fset f p k) s (fun f' hf' => h f' (fun q hq => by rw [hf' q (by omega), fset_n (by omega)]))
theorem pfk_congr {F G : Nat → PSt → PSt} {s : PSt} : ∀ {n : Nat}, (∀ k s, k < n → F k s = G k s) → pfk F n s = pfk G n s
  | 0, _ => rfl
  | n + 1, h => by
    unfold pfk
    rw [pfk_congr (fun k s hk => h k s (by omega)), h n _ (by omega)]
theorem pfo_congr {V V' : (Nat → Nat) → Bool} {K K' : (Nat → Nat) → Nat} {c c' : Nat → Nat} (hV : ∀ f : Nat → Nat, (∀ q, q < 6 → f q < c q) → V f = V' f) (hK : ∀ f : Nat → Nat, (∀ q, q < 6 → f q < c q) → K f = K' f) (hc : ∀ q, q < 6 → c q = c' q) : ∀ (m p : Nat) (f : Nat → Nat) (s : PSt), p + m = 6 → (∀ q, q < 6 → f q < c q) → pfo V K c m p f s = pfo V' K' c' m p f s
  | 0, p, f, s, _, hf => by
    unfold pfo pst
    rw [hV f hf, hK f hf]
  | m + 1, p, f, s, hp, hf => by
    unfold pfo
    rw [← hc p (by omega)]
    refine pfk_congr fun k s hk => ?_
    refine pfo_congr hV hK hc m (p + 1) (fset f p k) s (by omega) (fun q hq => ?_)
    by_cases e : q = p
    · rw [e, fset_s]; exact hk
    · rw [fset_n e]; exact hf q hq
def pins (pl : Nat → Int32) (np p : Nat) : Bool := decide (p < np) && !(decide (pl p = -1))
def pvv (ins : Nat → Bool) (p k : Nat) : Int32 := if ins p = true then nI k else -1
def vers (ins : Nat → Bool) (ver : Nat → Nat → Int32) (f : Nat → Nat) (p : Nat) : Int32 := if ins p = true then ver p (f p) else -1
def vld (ins : Nat → Bool) (ver : Nat → Nat → Int32) (clr : Nat → Nat → Bool) (B : (Nat → Int32) → Nat → Bool) (nn : Nat) (f : Nat → Nat) : Bool := !(bany (fun p => ins p && !(clr p (f p))) 6) && !(bany (B (vers ins ver f)) nn)
def kst (ins : Nat → Bool) (z : Nat → Nat) (p k : Nat) : Nat := if ins p = true then (if k = z p then 0 else 30 + ndist k (z p)) else 0
def kpre (ins : Nat → Bool) (z : Nat → Nat) (f : Nat → Nat) : Nat → Nat
  | 0 => 0
  | p + 1 => kpre ins z f p + kst ins z p (f p)
def pK (ins : Nat → Bool) (z : Nat → Nat) (f : Nat → Nat) : Nat := kpre ins z f 6
theorem kpre_congr {ins : Nat → Bool} {z f f' : Nat → Nat} : ∀ {p : Nat}, (∀ q, q < p → f q = f' q) → kpre ins z f p = kpre ins z f' p
  | 0, _ => rfl
  | p + 1, h => by
    unfold kpre
    rw [kpre_congr (fun q hq => h q (by omega)), h p (by omega)]
theorem kpre_le {ins : Nat → Bool} {z f : Nat → Nat} (p : Nat) : ∀ n, kpre ins z f p ≤ kpre ins z f (p + n)
  | 0 => Nat.le_refl _
  | n + 1 => by
    have := kpre_le (ins := ins) (z := z) (f := f) p n
    show _ ≤ kpre ins z f (p + n) + kst ins z (p + n) (f (p + n))
    omega
theorem kst_le {ins : Nat → Bool} {z : Nat → Nat} {p k : Nat} (hz : z p < 5) (hk : k < 5) : kst ins z p k ≤ 34 := by
  unfold kst ndist
  split
  · split <;> omega
  · omega
theorem kpre_bd {ins : Nat → Bool} {z f : Nat → Nat} : ∀ {p : Nat}, (∀ q, q < p → z q < 5 ∧ f q < 5) → kpre ins z f p ≤ 34 * p
  | 0, _ => Nat.le_refl _
  | p + 1, h => by
    have h1 := kpre_bd (ins := ins) (z := z) (f := f) (p := p) (fun q hq => h q (by omega))
    have h2 := kst_le (ins := ins) (h p (by omega)).1 (h p (by omega)).2
    unfold kpre
    omega
theorem vld_f1 {ins : Nat → Bool} {ver : Nat → Nat → Int32} {clr : Nat → Nat → Bool} {B : (Nat → Int32) → Nat → Bool} {nn : Nat} {f : Nat → Nat} {p : Nat} (hp : p < 6) (h1 : ins p = true) (h2 : clr p (f p) = false) : vld ins ver clr B nn f = false := by
  unfold vld
  rw [bany_of hp (by show (ins p && !(clr p (f p))) = true; rw [h1, h2]; rfl)]
  rfl
theorem vld_f2 {ins : Nat → Bool} {ver : Nat → Nat → Int32} {clr : Nat → Nat → Bool} {B : (Nat → Int32) → Nat → Bool} {o t : Nat → Int32} {nn : Nat} {f : Nat → Nat} {p : Nat} (h : kpt o t (B (vers ins ver f)) nn p = false) : vld ins ver clr B nn f = false := by
  unfold kpt at h
  rw [Bool.not_eq_false'] at h
  obtain ⟨k, hk, h⟩ := bany_iff.mp h
  rw [Bool.and_eq_true] at h
  unfold vld
  rw [bany_of hk h.2, Bool.not_true, Bool.and_false]
theorem vld_t {ins : Nat → Bool} {ver : Nat → Nat → Int32} {clr : Nat → Nat → Bool} {B : (Nat → Int32) → Nat → Bool} {o t : Nat → Int32} {nn : Nat} {f : Nat → Nat} (hN : NB o t nn) (h1 : ∀ p, p < 6 → ins p = true → clr p (f p) = true) (h2 : ∀ p, p < 6 → kpt o t (B (vers ins ver f)) nn p = true) : vld ins ver clr B nn f = true := by
  unfold vld
  have e1 : bany (fun p => ins p && !(clr p (f p))) 6 = false := by
    cases e : bany (fun p => ins p && !(clr p (f p))) 6 with
    | false => rfl
    | true =>
      obtain ⟨p, hp, h⟩ := bany_iff.mp e
      rw [Bool.and_eq_true] at h
      rw [h1 p hp h.1] at h
      cases h.2
  have e2 : bany (B (vers ins ver f)) nn = false := by
    cases e : bany (B (vers ins ver f)) nn with
    | false => rfl
    | true =>
      obtain ⟨k, hk, h⟩ := bany_iff.mp e
      obtain ⟨a, b, ha, hb, ea, eb⟩ := hN k hk
      have := h2 (max a b) (by omega)
      unfold kpt at this
      rw [bany_of hk (by show (decide ((if o k < t k then t k else o k) = nI (max a b)) && B (vers ins ver f) k) = true; rw [ea, eb, max_nI (by omega) (by omega), h, decide_eq_true rfl]; rfl)] at this
      cases this
  rw [e1, e2]
  rfl
theorem kpt_congr {o t : Nat → Int32} {B B' : Nat → Bool} {nn p : Nat} (hp : p < 6) (hN : NB o t nn) (h : ∀ k a b, k < nn → o k = nI a → t k = nI b → a ≤ p → b ≤ p → B k = B' k) : kpt o t B nn p = kpt o t B' nn p := by
  unfold kpt
  refine congrArg _ (bany_congr fun k hk => ?_)
  obtain ⟨a, b, ha, hb, ea, eb⟩ := hN k hk
  by_cases e : (if o k < t k then t k else o k) = nI p
  · have e' := e
    rw [ea, eb, max_nI (by omega) (by omega)] at e'
    have : max a b = p := nI_inj (by omega) (by omega) e'
    rw [h k a b hk ea eb (by omega) (by omega)]
  · rw [decide_eq_false e]
    rfl
theorem nbrk_at {o s t l h w w' : Nat → Int32} {k a b : Nat} (ha : a < 6) (hb : b < 6) (ea : o k = nI a) (eb : t k = nI b) (h1 : w a = w' a) (h2 : w b = w' b) : nbrk o s t l h w k = nbrk o s t l h w' k := by
  unfold nbrk nact nhld
  rw [ea, eb, nI_clamp (by omega), nI_clamp (by omega), h1, h2]
theorem vers_congr {ins : Nat → Bool} {ver : Nat → Nat → Int32} {f f' : Nat → Nat} {p : Nat} (h : f p = f' p) : vers ins ver f p = vers ins ver f' p := by
  unfold vers
  rw [h]
