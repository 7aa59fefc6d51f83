/-! EVERY MICRO-OP IS WHAT STANDS IN THE BYTES -/
theorem ax_lk {l : List (Nat × am_In)} {pc : Nat} {I : am_In} (h : l.lookup pc = some I) : (pc, I) ∈ l := by
  induction l with
  | nil => cases h
  | cons a r ih =>
    obtain ⟨q, J⟩ := a
    rw [List.lookup_cons] at h
    split at h
    · rename_i hq
      have : pc = q := by simpa using hq
      subst this
      cases h
      exact List.mem_cons_self
    · exact List.mem_cons_of_mem _ (ih h)
set_option maxRecDepth 100000 in
theorem ck_Arrays_fill : ∀ e ∈ tb_Arrays_fill, ax_ok Y_Arrays_fill e.1 e.2 = true := by decide +kernel
set_option maxRecDepth 100000 in
theorem ck_AM_init : ∀ e ∈ tb_AM_init, ax_ok Y_AM_init e.1 e.2 = true := by decide +kernel
set_option maxRecDepth 100000 in
theorem ck_AM_pack : ∀ e ∈ tb_AM_pack, ax_ok Y_AM_pack e.1 e.2 = true := by decide +kernel
set_option maxRecDepth 100000 in
theorem ck_AM_version : ∀ e ∈ tb_AM_version, ax_ok Y_AM_version e.1 e.2 = true := by decide +kernel
set_option maxRecDepth 100000 in
theorem ck_AM_install : ∀ e ∈ tb_AM_install, ax_ok Y_AM_install e.1 e.2 = true := by decide +kernel
set_option maxRecDepth 100000 in
theorem ck_AM_need : ∀ e ∈ tb_AM_need, ax_ok Y_AM_need e.1 e.2 = true := by decide +kernel
set_option maxRecDepth 100000 in
theorem ck_AM_call : ∀ e ∈ tb_AM_call, ax_ok Y_AM_call e.1 e.2 = true := by decide +kernel
set_option maxRecDepth 100000 in
theorem ck_AM_advisory : ∀ e ∈ tb_AM_advisory, ax_ok Y_AM_advisory e.1 e.2 = true := by decide +kernel
set_option maxRecDepth 100000 in
theorem ck_AM_span : ∀ e ∈ tb_AM_span, ax_ok Y_AM_span e.1 e.2 = true := by decide +kernel
set_option maxRecDepth 100000 in
theorem ck_AM_severity : ∀ e ∈ tb_AM_severity, ax_ok Y_AM_severity e.1 e.2 = true := by decide +kernel
set_option maxRecDepth 100000 in
theorem ck_AM_withdraw : ∀ e ∈ tb_AM_withdraw, ax_ok Y_AM_withdraw e.1 e.2 = true := by decide +kernel
set_option maxRecDepth 100000 in
theorem ck_AM_same : ∀ e ∈ tb_AM_same, ax_ok Y_AM_same e.1 e.2 = true := by decide +kernel
set_option maxRecDepth 100000 in
theorem ck_AM_group : ∀ e ∈ tb_AM_group, ax_ok Y_AM_group e.1 e.2 = true := by decide +kernel
set_option maxRecDepth 100000 in
theorem ck_AM_score : ∀ e ∈ tb_AM_score, ax_ok Y_AM_score e.1 e.2 = true := by decide +kernel
set_option maxRecDepth 100000 in
theorem ck_AM_except : ∀ e ∈ tb_AM_except, ax_ok Y_AM_except e.1 e.2 = true := by decide +kernel
set_option maxRecDepth 100000 in
theorem ck_AM_tick : ∀ e ∈ tb_AM_tick, ax_ok Y_AM_tick e.1 e.2 = true := by decide +kernel
set_option maxRecDepth 100000 in
theorem ck_AM_hits : ∀ e ∈ tb_AM_hits, ax_ok Y_AM_hits e.1 e.2 = true := by decide +kernel
set_option maxRecDepth 100000 in
theorem ck_AM_hit : ∀ e ∈ tb_AM_hit, ax_ok Y_AM_hit e.1 e.2 = true := by decide +kernel
set_option maxRecDepth 100000 in
theorem ck_AM_broken : ∀ e ∈ tb_AM_broken, ax_ok Y_AM_broken e.1 e.2 = true := by decide +kernel
set_option maxRecDepth 100000 in
theorem ck_AM_plan : ∀ e ∈ tb_AM_plan, ax_ok Y_AM_plan e.1 e.2 = true := by decide +kernel
set_option maxRecDepth 100000 in
theorem ck_AM_planned : ∀ e ∈ tb_AM_planned, ax_ok Y_AM_planned e.1 e.2 = true := by decide +kernel
set_option maxRecDepth 100000 in
theorem ck_AM_update : ∀ e ∈ tb_AM_update, ax_ok Y_AM_update e.1 e.2 = true := by decide +kernel
set_option maxRecDepth 100000 in
theorem ck_AM_noteHitsOf : ∀ e ∈ tb_AM_noteHitsOf, ax_ok Y_AM_noteHitsOf e.1 e.2 = true := by decide +kernel
set_option maxRecDepth 100000 in
theorem ck_AM_markPlacesOf : ∀ e ∈ tb_AM_markPlacesOf, ax_ok Y_AM_markPlacesOf e.1 e.2 = true := by decide +kernel
set_option maxRecDepth 100000 in
theorem ck_AM_isClear : ∀ e ∈ tb_AM_isClear, ax_ok Y_AM_isClear e.1 e.2 = true := by decide +kernel
set_option maxRecDepth 100000 in
theorem ck_AM_isBelow : ∀ e ∈ tb_AM_isBelow, ax_ok Y_AM_isBelow e.1 e.2 = true := by decide +kernel
set_option maxRecDepth 100000 in
theorem ck_Packs_init : ∀ e ∈ tb_Packs_init, ax_ok Y_Packs_init e.1 e.2 = true := by decide +kernel
set_option maxRecDepth 100000 in
theorem ck_Packs_count : ∀ e ∈ tb_Packs_count, ax_ok Y_Packs_count e.1 e.2 = true := by decide +kernel
set_option maxRecDepth 100000 in
theorem ck_Packs_has : ∀ e ∈ tb_Packs_has, ax_ok Y_Packs_has e.1 e.2 = true := by decide +kernel
set_option maxRecDepth 100000 in
theorem ck_Packs_add : ∀ e ∈ tb_Packs_add, ax_ok Y_Packs_add e.1 e.2 = true := by decide +kernel
set_option maxRecDepth 100000 in
theorem ck_Packs_countVersions : ∀ e ∈ tb_Packs_countVersions, ax_ok Y_Packs_countVersions e.1 e.2 = true := by decide +kernel
set_option maxRecDepth 100000 in
theorem ck_Packs_addVersion : ∀ e ∈ tb_Packs_addVersion, ax_ok Y_Packs_addVersion e.1 e.2 = true := by decide +kernel
set_option maxRecDepth 100000 in
theorem ck_Packs_versionAt : ∀ e ∈ tb_Packs_versionAt, ax_ok Y_Packs_versionAt e.1 e.2 = true := by decide +kernel
set_option maxRecDepth 100000 in
theorem ck_Packs_putPlace : ∀ e ∈ tb_Packs_putPlace, ax_ok Y_Packs_putPlace e.1 e.2 = true := by decide +kernel
set_option maxRecDepth 100000 in
theorem ck_Packs_placeOf : ∀ e ∈ tb_Packs_placeOf, ax_ok Y_Packs_placeOf e.1 e.2 = true := by decide +kernel
set_option maxRecDepth 100000 in
theorem ck_Packs_installedVersions : ∀ e ∈ tb_Packs_installedVersions, ax_ok Y_Packs_installedVersions e.1 e.2 = true := by decide +kernel
set_option maxRecDepth 100000 in
theorem ck_Packs_isInstalledRoot : ∀ e ∈ tb_Packs_isInstalledRoot, ax_ok Y_Packs_isInstalledRoot e.1 e.2 = true := by decide +kernel
set_option maxRecDepth 100000 in
theorem ck_Needs_init : ∀ e ∈ tb_Needs_init, ax_ok Y_Needs_init e.1 e.2 = true := by decide +kernel
set_option maxRecDepth 100000 in
theorem ck_Needs_count : ∀ e ∈ tb_Needs_count, ax_ok Y_Needs_count e.1 e.2 = true := by decide +kernel
set_option maxRecDepth 100000 in
theorem ck_Needs_add : ∀ e ∈ tb_Needs_add, ax_ok Y_Needs_add e.1 e.2 = true := by decide +kernel
set_option maxRecDepth 100000 in
theorem ck_Needs_setCalled : ∀ e ∈ tb_Needs_setCalled, ax_ok Y_Needs_setCalled e.1 e.2 = true := by decide +kernel
set_option maxRecDepth 100000 in
theorem ck_Needs_isCalled : ∀ e ∈ tb_Needs_isCalled, ax_ok Y_Needs_isCalled e.1 e.2 = true := by decide +kernel
set_option maxRecDepth 100000 in
theorem ck_Needs_ownerOf : ∀ e ∈ tb_Needs_ownerOf, ax_ok Y_Needs_ownerOf e.1 e.2 = true := by decide +kernel
set_option maxRecDepth 100000 in
theorem ck_Needs_otherOf : ∀ e ∈ tb_Needs_otherOf, ax_ok Y_Needs_otherOf e.1 e.2 = true := by decide +kernel
set_option maxRecDepth 100000 in
theorem ck_Needs_leads : ∀ e ∈ tb_Needs_leads, ax_ok Y_Needs_leads e.1 e.2 = true := by decide +kernel
set_option maxRecDepth 100000 in
theorem ck_Needs_countBroken : ∀ e ∈ tb_Needs_countBroken, ax_ok Y_Needs_countBroken e.1 e.2 = true := by decide +kernel
set_option maxRecDepth 100000 in
theorem ck_Needs_areKept : ∀ e ∈ tb_Needs_areKept, ax_ok Y_Needs_areKept e.1 e.2 = true := by decide +kernel
set_option maxRecDepth 100000 in
theorem ck_Needs_isBroken : ∀ e ∈ tb_Needs_isBroken, ax_ok Y_Needs_isBroken e.1 e.2 = true := by decide +kernel
set_option maxRecDepth 100000 in
theorem ck_Needs_isActive : ∀ e ∈ tb_Needs_isActive, ax_ok Y_Needs_isActive e.1 e.2 = true := by decide +kernel
set_option maxRecDepth 100000 in
theorem ck_Needs_holds : ∀ e ∈ tb_Needs_holds, ax_ok Y_Needs_holds e.1 e.2 = true := by decide +kernel
set_option maxRecDepth 100000 in
theorem ck_Advisories_init : ∀ e ∈ tb_Advisories_init, ax_ok Y_Advisories_init e.1 e.2 = true := by decide +kernel
set_option maxRecDepth 100000 in
theorem ck_Advisories_count : ∀ e ∈ tb_Advisories_count, ax_ok Y_Advisories_count e.1 e.2 = true := by decide +kernel
set_option maxRecDepth 100000 in
theorem ck_Advisories_has : ∀ e ∈ tb_Advisories_has, ax_ok Y_Advisories_has e.1 e.2 = true := by decide +kernel
set_option maxRecDepth 100000 in
theorem ck_Advisories_add : ∀ e ∈ tb_Advisories_add, ax_ok Y_Advisories_add e.1 e.2 = true := by decide +kernel
set_option maxRecDepth 100000 in
theorem ck_Advisories_addSpan : ∀ e ∈ tb_Advisories_addSpan, ax_ok Y_Advisories_addSpan e.1 e.2 = true := by decide +kernel
set_option maxRecDepth 100000 in
theorem ck_Advisories_setScore : ∀ e ∈ tb_Advisories_setScore, ax_ok Y_Advisories_setScore e.1 e.2 = true := by decide +kernel
set_option maxRecDepth 100000 in
theorem ck_Advisories_scoreOf : ∀ e ∈ tb_Advisories_scoreOf, ax_ok Y_Advisories_scoreOf e.1 e.2 = true := by decide +kernel
set_option maxRecDepth 100000 in
theorem ck_Advisories_setWithdrawn : ∀ e ∈ tb_Advisories_setWithdrawn, ax_ok Y_Advisories_setWithdrawn e.1 e.2 = true := by decide +kernel
set_option maxRecDepth 100000 in
theorem ck_Advisories_groupOf : ∀ e ∈ tb_Advisories_groupOf, ax_ok Y_Advisories_groupOf e.1 e.2 = true := by decide +kernel
set_option maxRecDepth 100000 in
theorem ck_Advisories_renameGroup : ∀ e ∈ tb_Advisories_renameGroup, ax_ok Y_Advisories_renameGroup e.1 e.2 = true := by decide +kernel
set_option maxRecDepth 100000 in
theorem ck_Advisories_strikes : ∀ e ∈ tb_Advisories_strikes, ax_ok Y_Advisories_strikes e.1 e.2 = true := by decide +kernel
set_option maxRecDepth 100000 in
theorem ck_Advisories_scoreThere : ∀ e ∈ tb_Advisories_scoreThere, ax_ok Y_Advisories_scoreThere e.1 e.2 = true := by decide +kernel
set_option maxRecDepth 100000 in
theorem ck_Advisories_hasSpanWith : ∀ e ∈ tb_Advisories_hasSpanWith, ax_ok Y_Advisories_hasSpanWith e.1 e.2 = true := by decide +kernel
set_option maxRecDepth 100000 in
theorem ck_Exceptions_init : ∀ e ∈ tb_Exceptions_init, ax_ok Y_Exceptions_init e.1 e.2 = true := by decide +kernel
set_option maxRecDepth 100000 in
theorem ck_Exceptions_put : ∀ e ∈ tb_Exceptions_put, ax_ok Y_Exceptions_put e.1 e.2 = true := by decide +kernel
set_option maxRecDepth 100000 in
theorem ck_Exceptions_holds : ∀ e ∈ tb_Exceptions_holds, ax_ok Y_Exceptions_holds e.1 e.2 = true := by decide +kernel
set_option maxRecDepth 100000 in
theorem ck_Exceptions_join : ∀ e ∈ tb_Exceptions_join, ax_ok Y_Exceptions_join e.1 e.2 = true := by decide +kernel
set_option maxRecDepth 100000 in
theorem ck_Exceptions_areNumbers : ∀ e ∈ tb_Exceptions_areNumbers, ax_ok Y_Exceptions_areNumbers e.1 e.2 = true := by decide +kernel
set_option maxRecDepth 100000 in
theorem ck_Ways_init : ∀ e ∈ tb_Ways_init, ax_ok Y_Ways_init e.1 e.2 = true := by decide +kernel
set_option maxRecDepth 100000 in
theorem ck_Ways_lengthTo : ∀ e ∈ tb_Ways_lengthTo, ax_ok Y_Ways_lengthTo e.1 e.2 = true := by decide +kernel
set_option maxRecDepth 100000 in
theorem ck_Ways_measure : ∀ e ∈ tb_Ways_measure, ax_ok Y_Ways_measure e.1 e.2 = true := by decide +kernel
set_option maxRecDepth 100000 in
theorem ck_Ways_goOnByEachNeed : ∀ e ∈ tb_Ways_goOnByEachNeed, ax_ok Y_Ways_goOnByEachNeed e.1 e.2 = true := by decide +kernel
set_option maxRecDepth 100000 in
theorem ck_Ways_goOn : ∀ e ∈ tb_Ways_goOn, ax_ok Y_Ways_goOn e.1 e.2 = true := by decide +kernel
set_option maxRecDepth 100000 in
theorem ck_HitList_init : ∀ e ∈ tb_HitList_init, ax_ok Y_HitList_init e.1 e.2 = true := by decide +kernel
set_option maxRecDepth 100000 in
theorem ck_HitList_count : ∀ e ∈ tb_HitList_count, ax_ok Y_HitList_count e.1 e.2 = true := by decide +kernel
set_option maxRecDepth 100000 in
theorem ck_HitList_clear : ∀ e ∈ tb_HitList_clear, ax_ok Y_HitList_clear e.1 e.2 = true := by decide +kernel
set_option maxRecDepth 100000 in
theorem ck_HitList_add : ∀ e ∈ tb_HitList_add, ax_ok Y_HitList_add e.1 e.2 = true := by decide +kernel
set_option maxRecDepth 100000 in
theorem ck_HitList_part : ∀ e ∈ tb_HitList_part, ax_ok Y_HitList_part e.1 e.2 = true := by decide +kernel
set_option maxRecDepth 100000 in
theorem ck_Planner_init : ∀ e ∈ tb_Planner_init, ax_ok Y_Planner_init e.1 e.2 = true := by decide +kernel
set_option maxRecDepth 100000 in
theorem ck_Planner_markPlace : ∀ e ∈ tb_Planner_markPlace, ax_ok Y_Planner_markPlace e.1 e.2 = true := by decide +kernel
set_option maxRecDepth 100000 in
theorem ck_Planner_search : ∀ e ∈ tb_Planner_search, ax_ok Y_Planner_search e.1 e.2 = true := by decide +kernel
set_option maxRecDepth 100000 in
theorem ck_Planner_placeFor : ∀ e ∈ tb_Planner_placeFor, ax_ok Y_Planner_placeFor e.1 e.2 = true := by decide +kernel
set_option maxRecDepth 100000 in
theorem ck_Planner_carryOut : ∀ e ∈ tb_Planner_carryOut, ax_ok Y_Planner_carryOut e.1 e.2 = true := by decide +kernel
set_option maxRecDepth 100000 in
theorem ck_Planner_choose : ∀ e ∈ tb_Planner_choose, ax_ok Y_Planner_choose e.1 e.2 = true := by decide +kernel
set_option maxRecDepth 100000 in
theorem ck_Planner_settle : ∀ e ∈ tb_Planner_settle, ax_ok Y_Planner_settle e.1 e.2 = true := by decide +kernel
set_option maxRecDepth 100000 in
theorem ck_Planner_keepTried : ∀ e ∈ tb_Planner_keepTried, ax_ok Y_Planner_keepTried e.1 e.2 = true := by decide +kernel
set_option maxRecDepth 100000 in
theorem ck_Planner_isClearPlace : ∀ e ∈ tb_Planner_isClearPlace, ax_ok Y_Planner_isClearPlace e.1 e.2 = true := by decide +kernel
set_option maxRecDepth 100000 in
theorem ck_Planner_costOf : ∀ e ∈ tb_Planner_costOf, ax_ok Y_Planner_costOf e.1 e.2 = true := by decide +kernel
set_option maxRecDepth 100000 in
theorem ck_Model_init : ∀ e ∈ tb_Model_init, ax_ok Y_Model_init e.1 e.2 = true := by decide +kernel
set_option maxRecDepth 100000 in
theorem ck_Model_isPack : ∀ e ∈ tb_Model_isPack, ax_ok Y_Model_isPack e.1 e.2 = true := by decide +kernel
set_option maxRecDepth 100000 in
theorem ck_Model_isAdvisory : ∀ e ∈ tb_Model_isAdvisory, ax_ok Y_Model_isAdvisory e.1 e.2 = true := by decide +kernel
set_option maxRecDepth 100000 in
theorem ck_Model_in : ∀ e ∈ tb_Model_in, ax_ok Y_Model_in e.1 e.2 = true := by decide +kernel
set_option maxRecDepth 100000 in
theorem ck_Model_pack : ∀ e ∈ tb_Model_pack, ax_ok Y_Model_pack e.1 e.2 = true := by decide +kernel
set_option maxRecDepth 100000 in
theorem ck_Model_version : ∀ e ∈ tb_Model_version, ax_ok Y_Model_version e.1 e.2 = true := by decide +kernel
set_option maxRecDepth 100000 in
theorem ck_Model_install : ∀ e ∈ tb_Model_install, ax_ok Y_Model_install e.1 e.2 = true := by decide +kernel
set_option maxRecDepth 100000 in
theorem ck_Model_need : ∀ e ∈ tb_Model_need, ax_ok Y_Model_need e.1 e.2 = true := by decide +kernel
set_option maxRecDepth 100000 in
theorem ck_Model_call : ∀ e ∈ tb_Model_call, ax_ok Y_Model_call e.1 e.2 = true := by decide +kernel
set_option maxRecDepth 100000 in
theorem ck_Model_lookAtInstalled : ∀ e ∈ tb_Model_lookAtInstalled, ax_ok Y_Model_lookAtInstalled e.1 e.2 = true := by decide +kernel
set_option maxRecDepth 100000 in
theorem ck_Model_isActive : ∀ e ∈ tb_Model_isActive, ax_ok Y_Model_isActive e.1 e.2 = true := by decide +kernel
set_option maxRecDepth 100000 in
theorem ck_Model_doesHold : ∀ e ∈ tb_Model_doesHold, ax_ok Y_Model_doesHold e.1 e.2 = true := by decide +kernel
set_option maxRecDepth 100000 in
theorem ck_Model_lacking : ∀ e ∈ tb_Model_lacking, ax_ok Y_Model_lacking e.1 e.2 = true := by decide +kernel
set_option maxRecDepth 100000 in
theorem ck_Model_broken : ∀ e ∈ tb_Model_broken, ax_ok Y_Model_broken e.1 e.2 = true := by decide +kernel
set_option maxRecDepth 100000 in
theorem ck_Model_advisory : ∀ e ∈ tb_Model_advisory, ax_ok Y_Model_advisory e.1 e.2 = true := by decide +kernel
set_option maxRecDepth 100000 in
theorem ck_Model_span : ∀ e ∈ tb_Model_span, ax_ok Y_Model_span e.1 e.2 = true := by decide +kernel
set_option maxRecDepth 100000 in
theorem ck_Model_severity : ∀ e ∈ tb_Model_severity, ax_ok Y_Model_severity e.1 e.2 = true := by decide +kernel
set_option maxRecDepth 100000 in
theorem ck_Model_withdraw : ∀ e ∈ tb_Model_withdraw, ax_ok Y_Model_withdraw e.1 e.2 = true := by decide +kernel
set_option maxRecDepth 100000 in
theorem ck_Model_same : ∀ e ∈ tb_Model_same, ax_ok Y_Model_same e.1 e.2 = true := by decide +kernel
set_option maxRecDepth 100000 in
theorem ck_Model_group : ∀ e ∈ tb_Model_group, ax_ok Y_Model_group e.1 e.2 = true := by decide +kernel
set_option maxRecDepth 100000 in
theorem ck_Model_hundredths : ∀ e ∈ tb_Model_hundredths, ax_ok Y_Model_hundredths e.1 e.2 = true := by decide +kernel
set_option maxRecDepth 100000 in
theorem ck_Model_scoreOf : ∀ e ∈ tb_Model_scoreOf, ax_ok Y_Model_scoreOf e.1 e.2 = true := by decide +kernel
set_option maxRecDepth 100000 in
theorem ck_Model_score : ∀ e ∈ tb_Model_score, ax_ok Y_Model_score e.1 e.2 = true := by decide +kernel
set_option maxRecDepth 100000 in
theorem ck_Model_except : ∀ e ∈ tb_Model_except, ax_ok Y_Model_except e.1 e.2 = true := by decide +kernel
set_option maxRecDepth 100000 in
theorem ck_Model_tick : ∀ e ∈ tb_Model_tick, ax_ok Y_Model_tick e.1 e.2 = true := by decide +kernel
set_option maxRecDepth 100000 in
theorem ck_Model_hasSpan : ∀ e ∈ tb_Model_hasSpan, ax_ok Y_Model_hasSpan e.1 e.2 = true := by decide +kernel
set_option maxRecDepth 100000 in
theorem ck_Model_scoreThere : ∀ e ∈ tb_Model_scoreThere, ax_ok Y_Model_scoreThere e.1 e.2 = true := by decide +kernel
set_option maxRecDepth 100000 in
theorem ck_Model_isExcepted : ∀ e ∈ tb_Model_isExcepted, ax_ok Y_Model_isExcepted e.1 e.2 = true := by decide +kernel
set_option maxRecDepth 100000 in
theorem ck_Model_findWays : ∀ e ∈ tb_Model_findWays, ax_ok Y_Model_findWays e.1 e.2 = true := by decide +kernel
set_option maxRecDepth 100000 in
theorem ck_Model_tell : ∀ e ∈ tb_Model_tell, ax_ok Y_Model_tell e.1 e.2 = true := by decide +kernel
set_option maxRecDepth 100000 in
theorem ck_Model_hits : ∀ e ∈ tb_Model_hits, ax_ok Y_Model_hits e.1 e.2 = true := by decide +kernel
set_option maxRecDepth 100000 in
theorem ck_Model_hit : ∀ e ∈ tb_Model_hit, ax_ok Y_Model_hit e.1 e.2 = true := by decide +kernel
set_option maxRecDepth 100000 in
theorem ck_Model_findBad : ∀ e ∈ tb_Model_findBad, ax_ok Y_Model_findBad e.1 e.2 = true := by decide +kernel
set_option maxRecDepth 100000 in
theorem ck_Model_goesOn : ∀ e ∈ tb_Model_goesOn, ax_ok Y_Model_goesOn e.1 e.2 = true := by decide +kernel
set_option maxRecDepth 100000 in
theorem ck_Model_mayBe : ∀ e ∈ tb_Model_mayBe, ax_ok Y_Model_mayBe e.1 e.2 = true := by decide +kernel
set_option maxRecDepth 100000 in
theorem ck_Model_cost : ∀ e ∈ tb_Model_cost, ax_ok Y_Model_cost e.1 e.2 = true := by decide +kernel
set_option maxRecDepth 100000 in
theorem ck_Model_plan : ∀ e ∈ tb_Model_plan, ax_ok Y_Model_plan e.1 e.2 = true := by decide +kernel
set_option maxRecDepth 100000 in
theorem ck_Model_planned : ∀ e ∈ tb_Model_planned, ax_ok Y_Model_planned e.1 e.2 = true := by decide +kernel
set_option maxRecDepth 100000 in
theorem ck_Model_update : ∀ e ∈ tb_Model_update, ax_ok Y_Model_update e.1 e.2 = true := by decide +kernel
set_option maxRecDepth 100000 in
theorem ck_Severity_areChoices : ∀ e ∈ tb_Severity_areChoices, ax_ok Y_Severity_areChoices e.1 e.2 = true := by decide +kernel
set_option maxRecDepth 100000 in
theorem ck_Severity_tenths : ∀ e ∈ tb_Severity_tenths, ax_ok Y_Severity_tenths e.1 e.2 = true := by decide +kernel
set_option maxRecDepth 100000 in
theorem ck_Severity_impactOf : ∀ e ∈ tb_Severity_impactOf, ax_ok Y_Severity_impactOf e.1 e.2 = true := by decide +kernel
