/-! FACTS ON THE TABLES (by program) -/
set_option maxRecDepth 100000 in
set_option maxHeartbeats 4000000 in
theorem ax_codes : ∀ i, i < ax_nM → Cond.code (ax_nm i) (ax_by i) (ax_ml i) (ax_rt i) ∈ ax_U := by
  intro i hi
  refine List.mem_filter.mpr ⟨?_, rfl⟩
  match i, hi with
  | 0, _ => exact List.mem_of_getElem? (i := 61) rfl
  | 1, _ => exact List.mem_of_getElem? (i := 47) rfl
  | 2, _ => exact List.mem_of_getElem? (i := 251) rfl
  | 3, _ => exact List.mem_of_getElem? (i := 259) rfl
  | 4, _ => exact List.mem_of_getElem? (i := 279) rfl
  | 5, _ => exact List.mem_of_getElem? (i := 287) rfl
  | 6, _ => exact List.mem_of_getElem? (i := 296) rfl
  | 7, _ => exact List.mem_of_getElem? (i := 305) rfl
  | 8, _ => exact List.mem_of_getElem? (i := 313) rfl
  | 9, _ => exact List.mem_of_getElem? (i := 326) rfl
  | 10, _ => exact List.mem_of_getElem? (i := 364) rfl
  | 11, _ => exact List.mem_of_getElem? (i := 372) rfl
  | 12, _ => exact List.mem_of_getElem? (i := 399) rfl
  | 13, _ => exact List.mem_of_getElem? (i := 403) rfl
  | 14, _ => exact List.mem_of_getElem? (i := 411) rfl
  | 15, _ => exact List.mem_of_getElem? (i := 419) rfl
  | 16, _ => exact List.mem_of_getElem? (i := 425) rfl
  | 17, _ => exact List.mem_of_getElem? (i := 530) rfl
  | 18, _ => exact List.mem_of_getElem? (i := 539) rfl
  | 19, _ => exact List.mem_of_getElem? (i := 552) rfl
  | 20, _ => exact List.mem_of_getElem? (i := 611) rfl
  | 21, _ => exact List.mem_of_getElem? (i := 619) rfl
  | 22, _ => exact List.mem_of_getElem? (i := 494) rfl
  | 23, _ => exact List.mem_of_getElem? (i := 556) rfl
  | 24, _ => exact List.mem_of_getElem? (i := 564) rfl
  | 25, _ => exact List.mem_of_getElem? (i := 270) rfl
  | 26, _ => exact List.mem_of_getElem? (i := 55) rfl
  | 27, _ => exact List.mem_of_getElem? (i := 490) rfl
  | 28, _ => exact List.mem_of_getElem? (i := 267) rfl
  | 29, _ => exact List.mem_of_getElem? (i := 255) rfl
  | 30, _ => exact List.mem_of_getElem? (i := 560) rfl
  | 31, _ => exact List.mem_of_getElem? (i := 263) rfl
  | 32, _ => exact List.mem_of_getElem? (i := 275) rfl
  | 33, _ => exact List.mem_of_getElem? (i := 283) rfl
  | 34, _ => exact List.mem_of_getElem? (i := 437) rfl
  | 35, _ => exact List.mem_of_getElem? (i := 449) rfl
  | 36, _ => exact List.mem_of_getElem? (i := 433) rfl
  | 37, _ => exact List.mem_of_getElem? (i := 87) rfl
  | 38, _ => exact List.mem_of_getElem? (i := 445) rfl
  | 39, _ => exact List.mem_of_getElem? (i := 292) rfl
  | 40, _ => exact List.mem_of_getElem? (i := 300) rfl
  | 41, _ => exact List.mem_of_getElem? (i := 465) rfl
  | 42, _ => exact List.mem_of_getElem? (i := 469) rfl
  | 43, _ => exact List.mem_of_getElem? (i := 473) rfl
  | 44, _ => exact List.mem_of_getElem? (i := 453) rfl
  | 45, _ => exact List.mem_of_getElem? (i := 544) rfl
  | 46, _ => exact List.mem_of_getElem? (i := 595) rfl
  | 47, _ => exact List.mem_of_getElem? (i := 548) rfl
  | 48, _ => exact List.mem_of_getElem? (i := 457) rfl
  | 49, _ => exact List.mem_of_getElem? (i := 461) rfl
  | 50, _ => exact List.mem_of_getElem? (i := 115) rfl
  | 51, _ => exact List.mem_of_getElem? (i := 500) rfl
  | 52, _ => exact List.mem_of_getElem? (i := 321) rfl
  | 53, _ => exact List.mem_of_getElem? (i := 309) rfl
  | 54, _ => exact List.mem_of_getElem? (i := 317) rfl
  | 55, _ => exact List.mem_of_getElem? (i := 360) rfl
  | 56, _ => exact List.mem_of_getElem? (i := 407) rfl
  | 57, _ => exact List.mem_of_getElem? (i := 368) rfl
  | 58, _ => exact List.mem_of_getElem? (i := 376) rfl
  | 59, _ => exact List.mem_of_getElem? (i := 386) rfl
  | 60, _ => exact List.mem_of_getElem? (i := 508) rfl
  | 61, _ => exact List.mem_of_getElem? (i := 504) rfl
  | 62, _ => exact List.mem_of_getElem? (i := 512) rfl
  | 63, _ => exact List.mem_of_getElem? (i := 147) rfl
  | 64, _ => exact List.mem_of_getElem? (i := 415) rfl
  | 65, _ => exact List.mem_of_getElem? (i := 518) rfl
  | 66, _ => exact List.mem_of_getElem? (i := 390) rfl
  | 67, _ => exact List.mem_of_getElem? (i := 393) rfl
  | 68, _ => exact List.mem_of_getElem? (i := 158) rfl
  | 69, _ => exact List.mem_of_getElem? (i := 481) rfl
  | 70, _ => exact List.mem_of_getElem? (i := 429) rfl
  | 71, _ => exact List.mem_of_getElem? (i := 441) rfl
  | 72, _ => exact List.mem_of_getElem? (i := 477) rfl
  | 73, _ => exact List.mem_of_getElem? (i := 178) rfl
  | 74, _ => exact List.mem_of_getElem? (i := 526) rfl
  | 75, _ => exact List.mem_of_getElem? (i := 486) rfl
  | 76, _ => exact List.mem_of_getElem? (i := 522) rfl
  | 77, _ => exact List.mem_of_getElem? (i := 534) rfl
  | 78, _ => exact List.mem_of_getElem? (i := 192) rfl
  | 79, _ => exact List.mem_of_getElem? (i := 569) rfl
  | 80, _ => exact List.mem_of_getElem? (i := 574) rfl
  | 81, _ => exact List.mem_of_getElem? (i := 615) rfl
  | 82, _ => exact List.mem_of_getElem? (i := 623) rfl
  | 83, _ => exact List.mem_of_getElem? (i := 578) rfl
  | 84, _ => exact List.mem_of_getElem? (i := 590) rfl
  | 85, _ => exact List.mem_of_getElem? (i := 582) rfl
  | 86, _ => exact List.mem_of_getElem? (i := 601) rfl
  | 87, _ => exact List.mem_of_getElem? (i := 604) rfl
  | 88, _ => exact List.mem_of_getElem? (i := 629) rfl
  | 89, _ => exact List.mem_of_getElem? (i := 736) rfl
  | 90, _ => exact List.mem_of_getElem? (i := 784) rfl
  | 91, _ => exact List.mem_of_getElem? (i := 740) rfl
  | 92, _ => exact List.mem_of_getElem? (i := 728) rfl
  | 93, _ => exact List.mem_of_getElem? (i := 732) rfl
  | 94, _ => exact List.mem_of_getElem? (i := 744) rfl
  | 95, _ => exact List.mem_of_getElem? (i := 748) rfl
  | 96, _ => exact List.mem_of_getElem? (i := 752) rfl
  | 97, _ => exact List.mem_of_getElem? (i := 760) rfl
  | 98, _ => exact List.mem_of_getElem? (i := 768) rfl
  | 99, _ => exact List.mem_of_getElem? (i := 772) rfl
  | 100, _ => exact List.mem_of_getElem? (i := 764) rfl
  | 101, _ => exact List.mem_of_getElem? (i := 756) rfl
  | 102, _ => exact List.mem_of_getElem? (i := 776) rfl
  | 103, _ => exact List.mem_of_getElem? (i := 780) rfl
  | 104, _ => exact List.mem_of_getElem? (i := 788) rfl
  | 105, _ => exact List.mem_of_getElem? (i := 792) rfl
  | 106, _ => exact List.mem_of_getElem? (i := 796) rfl
  | 107, _ => exact List.mem_of_getElem? (i := 800) rfl
  | 108, _ => exact List.mem_of_getElem? (i := 812) rfl
  | 109, _ => exact List.mem_of_getElem? (i := 808) rfl
  | 110, _ => exact List.mem_of_getElem? (i := 804) rfl
  | 111, _ => exact List.mem_of_getElem? (i := 821) rfl
  | 112, _ => exact List.mem_of_getElem? (i := 825) rfl
  | 113, _ => exact List.mem_of_getElem? (i := 842) rfl
  | 114, _ => exact List.mem_of_getElem? (i := 838) rfl
  | 115, _ => exact List.mem_of_getElem? (i := 850) rfl
  | 116, _ => exact List.mem_of_getElem? (i := 834) rfl
  | 117, _ => exact List.mem_of_getElem? (i := 846) rfl
  | 118, _ => exact List.mem_of_getElem? (i := 830) rfl
  | 119, _ => exact List.mem_of_getElem? (i := 854) rfl
  | 120, _ => exact List.mem_of_getElem? (i := 862) rfl
  | 121, _ => exact List.mem_of_getElem? (i := 874) rfl
  | 122, _ => exact List.mem_of_getElem? (i := 866) rfl
  | 123, _ => exact List.mem_of_getElem? (i := 870) rfl
  | 124, _ => exact List.mem_of_getElem? (i := 858) rfl
  | 125, _ => exact List.mem_of_getElem? (i := 878) rfl
  | 126, _ => exact List.mem_of_getElem? (i := 882) rfl
  | 127, _ => exact List.mem_of_getElem? (i := 330) rfl
  | 128, _ => exact List.mem_of_getElem? (i := 342) rfl
  | 129, _ => exact List.mem_of_getElem? (i := 346) rfl
  | n + 130, hi => exact absurd hi (by unfold ax_nM; omega)
set_option maxRecDepth 100000 in
theorem ax_wmax : Cond.code Lib.Math.max.name Lib.Math.max.code 2 (some .int) ∈ ax_U := List.mem_filter.mpr ⟨List.mem_of_getElem? (i := 382) rfl, rfl⟩
set_option maxRecDepth 100000 in
theorem ax_wmin : Cond.code Lib.Math.min.name Lib.Math.min.code 2 (some .int) ∈ ax_U := List.mem_filter.mpr ⟨List.mem_of_getElem? (i := 379) rfl, rfl⟩
set_option maxRecDepth 100000 in
theorem ax_wabs : Cond.code Lib.Math.abs.name Lib.Math.abs.code 1 (some .int) ∈ ax_U := List.mem_filter.mpr ⟨List.mem_of_getElem? (i := 607) rfl, rfl⟩
set_option maxRecDepth 100000 in
theorem ax_wminl : Cond.code Lib.MathLoose.min_long.x Lib.MathLoose.min_long.code 4 (some .long) ∈ ax_U := List.mem_filter.mpr ⟨List.mem_of_getElem? (i := 356) rfl, rfl⟩
set_option maxRecDepth 100000 in
theorem ax_woini : Cond.code Lib.objectInit ⟨#[0xb1]⟩ 1 none ∈ ax_U := List.mem_filter.mpr ⟨List.mem_of_getElem? (i := 50) rfl, rfl⟩
theorem ax_mlb : ∀ i, i < ax_nM → ax_ml i ≤ 21 := by decide +kernel
theorem ax_plain : ∀ i, i < ax_nM → plainName (ax_nm i).cls = true := by decide +kernel
set_option maxRecDepth 100000 in
theorem ax_ws_AM : ∀ w ∈ u_ws R_AM F_AM 9, ax_in w = true := by decide +kernel
theorem ax_ty_AM : ∀ k, k < 9 → (ax_ft 0 k = true → (∃ C, t_AM k = .object C) ∨ ∃ f, t_AM k = .array f) ∧ (ax_ft 0 k = false → t_AM k = .int ∨ t_AM k = .boolean) := by
  intro k hk
  match k, hk with
  | 0, _ => exact ⟨fun _ => Or.inl ⟨_, rfl⟩, fun h => (by cases h)⟩
  | 1, _ => exact ⟨fun _ => Or.inl ⟨_, rfl⟩, fun h => (by cases h)⟩
  | 2, _ => exact ⟨fun _ => Or.inl ⟨_, rfl⟩, fun h => (by cases h)⟩
  | 3, _ => exact ⟨fun _ => Or.inl ⟨_, rfl⟩, fun h => (by cases h)⟩
  | 4, _ => exact ⟨fun _ => Or.inl ⟨_, rfl⟩, fun h => (by cases h)⟩
  | 5, _ => exact ⟨fun _ => Or.inl ⟨_, rfl⟩, fun h => (by cases h)⟩
  | 6, _ => exact ⟨fun _ => Or.inl ⟨_, rfl⟩, fun h => (by cases h)⟩
  | 7, _ => exact ⟨fun _ => Or.inl ⟨_, rfl⟩, fun h => (by cases h)⟩
  | 8, _ => exact ⟨fun h => (by cases h), fun _ => Or.inl rfl⟩
  | n + 9, hk => exact absurd hk (by omega)
set_option maxRecDepth 100000 in
theorem ax_ws_Packs : ∀ w ∈ u_ws R_Packs F_Packs 6, ax_in w = true := by decide +kernel
theorem ax_ty_Packs : ∀ k, k < 6 → (ax_ft 1 k = true → (∃ C, t_Packs k = .object C) ∨ ∃ f, t_Packs k = .array f) ∧ (ax_ft 1 k = false → t_Packs k = .int ∨ t_Packs k = .boolean) := by
  intro k hk
  match k, hk with
  | 0, _ => exact ⟨fun _ => Or.inr ⟨_, rfl⟩, fun h => (by cases h)⟩
  | 1, _ => exact ⟨fun _ => Or.inr ⟨_, rfl⟩, fun h => (by cases h)⟩
  | 2, _ => exact ⟨fun _ => Or.inr ⟨_, rfl⟩, fun h => (by cases h)⟩
  | 3, _ => exact ⟨fun _ => Or.inr ⟨_, rfl⟩, fun h => (by cases h)⟩
  | 4, _ => exact ⟨fun _ => Or.inr ⟨_, rfl⟩, fun h => (by cases h)⟩
  | 5, _ => exact ⟨fun h => (by cases h), fun _ => Or.inl rfl⟩
  | n + 6, hk => exact absurd hk (by omega)
set_option maxRecDepth 100000 in
theorem ax_ws_Needs : ∀ w ∈ u_ws R_Needs F_Needs 7, ax_in w = true := by decide +kernel
theorem ax_ty_Needs : ∀ k, k < 7 → (ax_ft 2 k = true → (∃ C, t_Needs k = .object C) ∨ ∃ f, t_Needs k = .array f) ∧ (ax_ft 2 k = false → t_Needs k = .int ∨ t_Needs k = .boolean) := by
  intro k hk
  match k, hk with
  | 0, _ => exact ⟨fun _ => Or.inr ⟨_, rfl⟩, fun h => (by cases h)⟩
  | 1, _ => exact ⟨fun _ => Or.inr ⟨_, rfl⟩, fun h => (by cases h)⟩
  | 2, _ => exact ⟨fun _ => Or.inr ⟨_, rfl⟩, fun h => (by cases h)⟩
  | 3, _ => exact ⟨fun _ => Or.inr ⟨_, rfl⟩, fun h => (by cases h)⟩
  | 4, _ => exact ⟨fun _ => Or.inr ⟨_, rfl⟩, fun h => (by cases h)⟩
  | 5, _ => exact ⟨fun _ => Or.inr ⟨_, rfl⟩, fun h => (by cases h)⟩
  | 6, _ => exact ⟨fun h => (by cases h), fun _ => Or.inl rfl⟩
  | n + 7, hk => exact absurd hk (by omega)
set_option maxRecDepth 100000 in
theorem ax_ws_Advisories : ∀ w ∈ u_ws R_Advisories F_Advisories 8, ax_in w = true := by decide +kernel
theorem ax_ty_Advisories : ∀ k, k < 8 → (ax_ft 3 k = true → (∃ C, t_Advisories k = .object C) ∨ ∃ f, t_Advisories k = .array f) ∧ (ax_ft 3 k = false → t_Advisories k = .int ∨ t_Advisories k = .boolean) := by
  intro k hk
  match k, hk with
  | 0, _ => exact ⟨fun _ => Or.inr ⟨_, rfl⟩, fun h => (by cases h)⟩
  | 1, _ => exact ⟨fun _ => Or.inr ⟨_, rfl⟩, fun h => (by cases h)⟩
  | 2, _ => exact ⟨fun _ => Or.inr ⟨_, rfl⟩, fun h => (by cases h)⟩
  | 3, _ => exact ⟨fun _ => Or.inr ⟨_, rfl⟩, fun h => (by cases h)⟩
  | 4, _ => exact ⟨fun _ => Or.inr ⟨_, rfl⟩, fun h => (by cases h)⟩
  | 5, _ => exact ⟨fun _ => Or.inr ⟨_, rfl⟩, fun h => (by cases h)⟩
  | 6, _ => exact ⟨fun _ => Or.inr ⟨_, rfl⟩, fun h => (by cases h)⟩
  | 7, _ => exact ⟨fun h => (by cases h), fun _ => Or.inl rfl⟩
  | n + 8, hk => exact absurd hk (by omega)
set_option maxRecDepth 100000 in
theorem ax_ws_Exceptions : ∀ w ∈ u_ws R_Exceptions F_Exceptions 1, ax_in w = true := by decide +kernel
theorem ax_ty_Exceptions : ∀ k, k < 1 → (ax_ft 4 k = true → (∃ C, t_Exceptions k = .object C) ∨ ∃ f, t_Exceptions k = .array f) ∧ (ax_ft 4 k = false → t_Exceptions k = .int ∨ t_Exceptions k = .boolean) := by
  intro k hk
  match k, hk with
  | 0, _ => exact ⟨fun _ => Or.inr ⟨_, rfl⟩, fun h => (by cases h)⟩
  | n + 1, hk => exact absurd hk (by omega)
set_option maxRecDepth 100000 in
theorem ax_ws_Ways : ∀ w ∈ u_ws R_Ways F_Ways 4, ax_in w = true := by decide +kernel
theorem ax_ty_Ways : ∀ k, k < 4 → (ax_ft 5 k = true → (∃ C, t_Ways k = .object C) ∨ ∃ f, t_Ways k = .array f) ∧ (ax_ft 5 k = false → t_Ways k = .int ∨ t_Ways k = .boolean) := by
  intro k hk
  match k, hk with
  | 0, _ => exact ⟨fun _ => Or.inl ⟨_, rfl⟩, fun h => (by cases h)⟩
  | 1, _ => exact ⟨fun _ => Or.inl ⟨_, rfl⟩, fun h => (by cases h)⟩
  | 2, _ => exact ⟨fun h => (by cases h), fun _ => Or.inr rfl⟩
  | 3, _ => exact ⟨fun _ => Or.inr ⟨_, rfl⟩, fun h => (by cases h)⟩
  | n + 4, hk => exact absurd hk (by omega)
set_option maxRecDepth 100000 in
theorem ax_ws_HitList : ∀ w ∈ u_ws R_HitList F_HitList 2, ax_in w = true := by decide +kernel
theorem ax_ty_HitList : ∀ k, k < 2 → (ax_ft 6 k = true → (∃ C, t_HitList k = .object C) ∨ ∃ f, t_HitList k = .array f) ∧ (ax_ft 6 k = false → t_HitList k = .int ∨ t_HitList k = .boolean) := by
  intro k hk
  match k, hk with
  | 0, _ => exact ⟨fun _ => Or.inr ⟨_, rfl⟩, fun h => (by cases h)⟩
  | 1, _ => exact ⟨fun h => (by cases h), fun _ => Or.inl rfl⟩
  | n + 2, hk => exact absurd hk (by omega)
set_option maxRecDepth 100000 in
theorem ax_ws_Planner : ∀ w ∈ u_ws R_Planner F_Planner 8, ax_in w = true := by decide +kernel
theorem ax_ty_Planner : ∀ k, k < 8 → (ax_ft 7 k = true → (∃ C, t_Planner k = .object C) ∨ ∃ f, t_Planner k = .array f) ∧ (ax_ft 7 k = false → t_Planner k = .int ∨ t_Planner k = .boolean) := by
  intro k hk
  match k, hk with
  | 0, _ => exact ⟨fun _ => Or.inl ⟨_, rfl⟩, fun h => (by cases h)⟩
  | 1, _ => exact ⟨fun _ => Or.inl ⟨_, rfl⟩, fun h => (by cases h)⟩
  | 2, _ => exact ⟨fun _ => Or.inr ⟨_, rfl⟩, fun h => (by cases h)⟩
  | 3, _ => exact ⟨fun _ => Or.inr ⟨_, rfl⟩, fun h => (by cases h)⟩
  | 4, _ => exact ⟨fun _ => Or.inr ⟨_, rfl⟩, fun h => (by cases h)⟩
  | 5, _ => exact ⟨fun _ => Or.inr ⟨_, rfl⟩, fun h => (by cases h)⟩
  | 6, _ => exact ⟨fun h => (by cases h), fun _ => Or.inl rfl⟩
  | 7, _ => exact ⟨fun h => (by cases h), fun _ => Or.inr rfl⟩
  | n + 8, hk => exact absurd hk (by omega)
set_option maxRecDepth 100000 in
theorem ax_ws_Model : ∀ w ∈ u_ws R_Model F_Model 31, ax_in w = true := by decide +kernel
theorem ax_ty_Model : ∀ k, k < 31 → (ax_ft 8 k = true → (∃ C, t_Model k = .object C) ∨ ∃ f, t_Model k = .array f) ∧ (ax_ft 8 k = false → t_Model k = .int ∨ t_Model k = .boolean) := by
  intro k hk
  match k, hk with
  | 0, _ => exact ⟨fun h => (by cases h), fun _ => Or.inl rfl⟩
  | 1, _ => exact ⟨fun h => (by cases h), fun _ => Or.inl rfl⟩
  | 2, _ => exact ⟨fun _ => Or.inr ⟨_, rfl⟩, fun h => (by cases h)⟩
  | 3, _ => exact ⟨fun _ => Or.inr ⟨_, rfl⟩, fun h => (by cases h)⟩
  | 4, _ => exact ⟨fun _ => Or.inr ⟨_, rfl⟩, fun h => (by cases h)⟩
  | 5, _ => exact ⟨fun _ => Or.inr ⟨_, rfl⟩, fun h => (by cases h)⟩
  | 6, _ => exact ⟨fun h => (by cases h), fun _ => Or.inl rfl⟩
  | 7, _ => exact ⟨fun _ => Or.inr ⟨_, rfl⟩, fun h => (by cases h)⟩
  | 8, _ => exact ⟨fun _ => Or.inr ⟨_, rfl⟩, fun h => (by cases h)⟩
  | 9, _ => exact ⟨fun _ => Or.inr ⟨_, rfl⟩, fun h => (by cases h)⟩
  | 10, _ => exact ⟨fun _ => Or.inr ⟨_, rfl⟩, fun h => (by cases h)⟩
  | 11, _ => exact ⟨fun _ => Or.inr ⟨_, rfl⟩, fun h => (by cases h)⟩
  | 12, _ => exact ⟨fun _ => Or.inr ⟨_, rfl⟩, fun h => (by cases h)⟩
  | 13, _ => exact ⟨fun h => (by cases h), fun _ => Or.inl rfl⟩
  | 14, _ => exact ⟨fun _ => Or.inr ⟨_, rfl⟩, fun h => (by cases h)⟩
  | 15, _ => exact ⟨fun _ => Or.inr ⟨_, rfl⟩, fun h => (by cases h)⟩
  | 16, _ => exact ⟨fun _ => Or.inr ⟨_, rfl⟩, fun h => (by cases h)⟩
  | 17, _ => exact ⟨fun _ => Or.inr ⟨_, rfl⟩, fun h => (by cases h)⟩
  | 18, _ => exact ⟨fun _ => Or.inr ⟨_, rfl⟩, fun h => (by cases h)⟩
  | 19, _ => exact ⟨fun _ => Or.inr ⟨_, rfl⟩, fun h => (by cases h)⟩
  | 20, _ => exact ⟨fun _ => Or.inr ⟨_, rfl⟩, fun h => (by cases h)⟩
  | 21, _ => exact ⟨fun _ => Or.inr ⟨_, rfl⟩, fun h => (by cases h)⟩
  | 22, _ => exact ⟨fun h => (by cases h), fun _ => Or.inl rfl⟩
  | 23, _ => exact ⟨fun _ => Or.inr ⟨_, rfl⟩, fun h => (by cases h)⟩
  | 24, _ => exact ⟨fun _ => Or.inr ⟨_, rfl⟩, fun h => (by cases h)⟩
  | 25, _ => exact ⟨fun _ => Or.inr ⟨_, rfl⟩, fun h => (by cases h)⟩
  | 26, _ => exact ⟨fun _ => Or.inr ⟨_, rfl⟩, fun h => (by cases h)⟩
  | 27, _ => exact ⟨fun _ => Or.inr ⟨_, rfl⟩, fun h => (by cases h)⟩
  | 28, _ => exact ⟨fun _ => Or.inr ⟨_, rfl⟩, fun h => (by cases h)⟩
  | 29, _ => exact ⟨fun h => (by cases h), fun _ => Or.inr rfl⟩
  | 30, _ => exact ⟨fun _ => Or.inr ⟨_, rfl⟩, fun h => (by cases h)⟩
  | n + 31, hk => exact absurd hk (by omega)
theorem ax_clok0 (Ts : List Cond) (hT : ∀ w ∈ ax_U, w ∈ Ts) : am_clok ax_cl Ts ax_ft := by
  intro t q hq
  match t, hq with
  | 0, hq => cases hq; exact ⟨fun w hw => hT w (ax_inU (ax_ws_AM w hw)), t_AM, t_AM_ok, n_AM, ax_ty_AM⟩
  | 1, hq => cases hq; exact ⟨fun w hw => hT w (ax_inU (ax_ws_Packs w hw)), t_Packs, t_Packs_ok, n_Packs, ax_ty_Packs⟩
  | 2, hq => cases hq; exact ⟨fun w hw => hT w (ax_inU (ax_ws_Needs w hw)), t_Needs, t_Needs_ok, n_Needs, ax_ty_Needs⟩
  | 3, hq => cases hq; exact ⟨fun w hw => hT w (ax_inU (ax_ws_Advisories w hw)), t_Advisories, t_Advisories_ok, n_Advisories, ax_ty_Advisories⟩
  | 4, hq => cases hq; exact ⟨fun w hw => hT w (ax_inU (ax_ws_Exceptions w hw)), t_Exceptions, t_Exceptions_ok, n_Exceptions, ax_ty_Exceptions⟩
  | 5, hq => cases hq; exact ⟨fun w hw => hT w (ax_inU (ax_ws_Ways w hw)), t_Ways, t_Ways_ok, n_Ways, ax_ty_Ways⟩
  | 6, hq => cases hq; exact ⟨fun w hw => hT w (ax_inU (ax_ws_HitList w hw)), t_HitList, t_HitList_ok, n_HitList, ax_ty_HitList⟩
  | 7, hq => cases hq; exact ⟨fun w hw => hT w (ax_inU (ax_ws_Planner w hw)), t_Planner, t_Planner_ok, n_Planner, ax_ty_Planner⟩
  | 8, hq => cases hq; exact ⟨fun w hw => hT w (ax_inU (ax_ws_Model w hw)), t_Model, t_Model_ok, n_Model, ax_ty_Model⟩
  | n + 9, hq => simp [ax_cl] at hq
set_option maxRecDepth 100000 in
theorem ax_swd : decode (ax_by ax_law) 33 = .ok (.tableswitch 755 0 19 #[95, 134, 167, 200, 263, 312, 335, 378, 453, 502, 535, 558, 581, 624, 647, 660, 693, 706, 719, 742], 95) := by decide +kernel
theorem ax_sw1 : ∀ x : Int32, (x.toInt < 0 ∨ 19 < x.toInt) → ((33 : Nat) : Int) + 755 = (ax_sw 33 x : Int) := by
  intro x h
  unfold ax_sw
  split
  · rfl
  · rw [List.getElem?_eq_none (by show 20 ≤ _; omega)]
    rfl
theorem ax_sw2 : ∀ x : Int32, ¬ x.toInt < 0 → ¬ 19 < x.toInt → ∃ off, (#[95, 134, 167, 200, 263, 312, 335, 378, 453, 502, 535, 558, 581, 624, 647, 660, 693, 706, 719, 742] : Array Int)[(x.toInt - 0).toNat]? = some off ∧ ((33 : Nat) : Int) + off = (ax_sw 33 x : Int) := by
  intro x h1 h2
  unfold ax_sw
  rw [if_neg h1, Int.sub_zero]
  have h3 : x.toInt.toNat < 20 := by omega
  generalize x.toInt.toNat = k at h3 ⊢
  match k, h3 with
  | 0, _ => exact ⟨_, rfl, rfl⟩
  | 1, _ => exact ⟨_, rfl, rfl⟩
  | 2, _ => exact ⟨_, rfl, rfl⟩
  | 3, _ => exact ⟨_, rfl, rfl⟩
  | 4, _ => exact ⟨_, rfl, rfl⟩
  | 5, _ => exact ⟨_, rfl, rfl⟩
  | 6, _ => exact ⟨_, rfl, rfl⟩
  | 7, _ => exact ⟨_, rfl, rfl⟩
  | 8, _ => exact ⟨_, rfl, rfl⟩
  | 9, _ => exact ⟨_, rfl, rfl⟩
  | 10, _ => exact ⟨_, rfl, rfl⟩
  | 11, _ => exact ⟨_, rfl, rfl⟩
  | 12, _ => exact ⟨_, rfl, rfl⟩
  | 13, _ => exact ⟨_, rfl, rfl⟩
  | 14, _ => exact ⟨_, rfl, rfl⟩
  | 15, _ => exact ⟨_, rfl, rfl⟩
  | 16, _ => exact ⟨_, rfl, rfl⟩
  | 17, _ => exact ⟨_, rfl, rfl⟩
  | 18, _ => exact ⟨_, rfl, rfl⟩
  | 19, _ => exact ⟨_, rfl, rfl⟩
  | n + 20, h => exact absurd h (by omega)
