/-! THE SHAPE after the two constructors (by program), and words for the small machine's proofs -/
def KS : am_Sh := [(3, 9, [some 1, some 13, some 20, some 52, some 66, some 68, some 70, some 84, none]), (4, 6, [some 2, some 3, some 10, some 11, some 12, none]), (1, 6, []), (2, 6, [some 4, some 5, some 6, some 7, some 8, some 9]), (0, 5, []), (0, 5, []), (0, 5, []), (0, 5, []), (0, 5, []), (0, 5, []), (0, 6, []), (0, 6, []), (0, 6, []), (5, 7, [some 14, some 15, some 16, some 17, some 18, some 19, none]), (0, 16, []), (0, 16, []), (0, 16, []), (0, 16, []), (0, 16, []), (1, 16, []), (6, 8, [some 21, some 22, some 35, some 48, some 49, some 50, some 51, none]), (0, 12, []), (2, 12, [some 23, some 24, some 25, some 26, some 27, some 28, some 29, some 30, some 31, some 32, some 33, some 34]), (0, 3, []), (0, 3, []), (0, 3, []), (0, 3, []), (0, 3, []), (0, 3, []), (0, 3, []), (0, 3, []), (0, 3, []), (0, 3, []), (0, 3, []), (0, 3, []), (2, 12, [some 36, some 37, some 38, some 39, some 40, some 41, some 42, some 43, some 44, some 45, some 46, some 47]), (0, 3, []), (0, 3, []), (0, 3, []), (0, 3, []), (0, 3, []), (0, 3, []), (0, 3, []), (0, 3, []), (0, 3, []), (0, 3, []), (0, 3, []), (0, 3, []), (0, 12, []), (0, 12, []), (1, 12, []), (0, 12, []), (7, 1, [some 53]), (2, 12, [some 54, some 55, some 56, some 57, some 58, some 59, some 60, some 61, some 62, some 63, some 64, some 65]), (0, 6, []), (0, 6, []), (0, 6, []), (0, 6, []), (0, 6, []), (0, 6, []), (0, 6, []), (0, 6, []), (0, 6, []), (0, 6, []), (0, 6, []), (0, 6, []), (8, 4, [some 1, some 13, none, some 67]), (0, 6, []), (8, 4, [some 1, some 13, none, some 69]), (0, 6, []), (9, 2, [some 71, none]), (2, 12, [some 72, some 73, some 74, some 75, some 76, some 77, some 78, some 79, some 80, some 81, some 82, some 83]), (0, 6, []), (0, 6, []), (0, 6, []), (0, 6, []), (0, 6, []), (0, 6, []), (0, 6, []), (0, 6, []), (0, 6, []), (0, 6, []), (0, 6, []), (0, 6, []), (10, 8, [some 1, some 13, some 85, some 86, some 87, some 88, none, none]), (1, 30, []), (0, 6, []), (0, 6, []), (0, 6, []), (11, 31, [none, none, some 90, some 91, some 92, some 93, none, some 94, some 95, some 96, some 97, some 98, some 99, none, some 100, some 101, some 102, some 103, some 104, some 105, some 106, some 107, none, some 108, some 109, some 110, some 111, some 112, some 113, none, some 114]), (1, 6, []), (0, 6, []), (0, 30, []), (0, 6, []), (0, 16, []), (0, 16, []), (0, 16, []), (0, 16, []), (0, 16, []), (1, 16, []), (0, 12, []), (0, 12, []), (0, 36, []), (0, 36, []), (0, 84, []), (1, 12, []), (0, 12, []), (0, 72, []), (0, 432, []), (0, 6, []), (1, 6, []), (0, 6, []), (1, 30, []), (0, 6, []), (0, 6, [])]
theorem KS_len : KS.length = 115 := rfl
/-- a method's meaning -/
abbrev SP (xl : Nat) (xs : Nat → Int32) (d : Nat) : am_C := am_sp (ax_E xl xs) ax_cd ax_ml d
section TEST
variable {xl : Nat} {xs : Nat → Int32} {d : Nat} {i : Nat → Nat → Int32} {Q : am_Q}
set_option maxRecDepth 10000 in
theorem k_isBelow {n c : Int32} {u : am_St} (h : Q (some (.int (if 0 ≤ n ∧ n < c then 1 else 0))) u) : SP xl xs (d + 1) Y_AM_isBelow [.int n, .int c] u Q := by
  refine ⟨by decide, am_go (am_sp_mo d) (fun _ => false) 20 (fun X hX => ?_)⟩
  conv => whnf
  trace_state
  sorry
set_option maxRecDepth 10000 in
theorem k_Packs_has {n : Int32} (h : Q (some (.int (if 0 ≤ n ∧ n < i 1 5 then 1 else 0))) (KS, i)) : SP xl xs (d + 2) Y_Packs_has [.ref 1, .int n] (KS, i) Q := by
  refine ⟨by decide, am_go (am_sp_mo _) (fun _ => false) 20 (fun X hX => ?_)⟩
  conv => whnf
  trace_state
  sorry
end TEST
