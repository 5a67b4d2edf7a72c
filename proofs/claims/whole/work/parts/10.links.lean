theorem rt_ln_of {c n : Nat} (h : rt_shL.all (fun q => decide (q.1 = c → q.2 = n)) = true) {k : Nat} (hk : rt_kd k = c) (hc : c ≠ 0) : rt_ln k = n := by
  unfold rt_kd rt_sh at hk
  unfold rt_ln rt_sh
  split
  · rename_i q; rw [if_pos q] at hk; exact absurd hk.symm hc
  · rename_i q
    rw [if_neg q] at hk
    rw [List.getD_eq_getElem?_getD] at hk ⊢
    cases e : rt_shL[k - 41]? with
    | none => rw [e] at hk; exact absurd hk.symm hc
    | some v =>
      rw [e] at hk
      exact of_decide_eq_true (List.all_eq_true.mp h v (List.mem_of_getElem? e)) hk
abbrev M_X0_clear : rt_Mt := (yX0_clear, cX0_clear, 1, none, (0, 0), 0)
abbrev M_X0_forgetTilts : rt_Mt := (yX0_forgetTilts, cX0_forgetTilts, 2, none, (0, 0), 0)
abbrev M_X0_tiltsTold : rt_Mt := (yX0_tiltsTold, cX0_tiltsTold, 3, some .int, (0, 0), 0)
abbrev M_X0_copy : rt_Mt := (yX0_copy, cX0_copy, 3, none, (0, 0), 0)
abbrev M_X1_measure : rt_Mt := (yX1_measure, cX1_measure, 7, none, (0, 0), 0)
abbrev M_X1_tiltOf : rt_Mt := (yX1_tiltOf, cX1_tiltOf, 3, some .int, (0, 0), 0)
abbrev M_X1_layWays : rt_Mt := (yX1_layWays, cX1_layWays, 4, none, (0, 0), 0)
abbrev M_X1_layUnder : rt_Mt := (yX1_layUnder, cX1_layUnder, 6, none, (0, 0), 0)
abbrev M_X1_waysWithout : rt_Mt := (yX1_waysWithout, cX1_waysWithout, 4, some .int, (0, 0), 0)
abbrev M_X1_allWays : rt_Mt := (yX1_allWays, cX1_allWays, 4, some .int, (0, 0), 0)
abbrev M_X1_greatestLikeWays : rt_Mt := (yX1_greatestLikeWays, cX1_greatestLikeWays, 5, some .int, (0, 0), 0)
abbrev M_X1_matched : rt_Mt := (yX1_matched, cX1_matched, 6, some .int, (0, 0), 0)
abbrev M_X1_wigKeeping : rt_Mt := (yX1_wigKeeping, cX1_wigKeeping, 3, some .int, (0, 0), 0)
abbrev M_X1_askNext : rt_Mt := (yX1_askNext, cX1_askNext, 5, none, (0, 0), 0)
abbrev M_X2_clear : rt_Mt := (yX2_clear, cX2_clear, 1, none, (0, 0), 0)
abbrev M_X2_add : rt_Mt := (yX2_add, cX2_add, 2, none, (0, 0), 0)
abbrev M_X2_factOf : rt_Mt := (yX2_factOf, cX2_factOf, 2, some .int, (0, 0), 0)
abbrev M_X2_worth : rt_Mt := (yX2_worth, cX2_worth, 7, some .int, (0, 0), 0)
abbrev M_X2_joined : rt_Mt := (yX2_joined, cX2_joined, 3, some .int, (0, 0), 0)
abbrev M_X3_readRealm : rt_Mt := (yX3_readRealm, cX3_readRealm, 3, some .int, (0, 0), 0)
abbrev M_X3_readYears : rt_Mt := (yX3_readYears, cX3_readYears, 4, some .int, (0, 0), 0)
abbrev M_X3_start : rt_Mt := (yX3_start, cX3_start, 1, none, (0, 0), 0)
abbrev M_X3_kind : rt_Mt := (yX3_kind, cX3_kind, 1, some (.object "WigOffice$Word"), (0, 0), 0)
abbrev M_X3_value : rt_Mt := (yX3_value, cX3_value, 1, some .long, (0, 0), 0)
abbrev M_X3_fail : rt_Mt := (yX3_fail, cX3_fail, 3, some .boolean, (0, 0), 0)
abbrev M_X3_take : rt_Mt := (yX3_take, cX3_take, 2, some .boolean, (0, 0), 0)
abbrev M_X3_realmLine : rt_Mt := (yX3_realmLine, cX3_realmLine, 3, some .boolean, (0, 0), 0)
abbrev M_X3_wigLine : rt_Mt := (yX3_wigLine, cX3_wigLine, 7, some .boolean, (0, 0), 0)
abbrev M_X3_headLine : rt_Mt := (yX3_headLine, cX3_headLine, 7, some .boolean, (0, 0), 0)
abbrev M_X3_newName : rt_Mt := (yX3_newName, cX3_newName, 2, some .boolean, (0, 0), 0)
abbrev M_X3_headKind : rt_Mt := (yX3_headKind, cX3_headKind, 3, some .boolean, (0, 0), 0)
abbrev M_X3_fact : rt_Mt := (yX3_fact, cX3_fact, 6, some .boolean, (0, 0), 0)
abbrev M_X3_isNumber : rt_Mt := (yX3_isNumber, cX3_isNumber, 3, some .boolean, (0, 0), 0)
abbrev M_X3_heatsLine : rt_Mt := (yX3_heatsLine, cX3_heatsLine, 3, some .boolean, (0, 0), 0)
abbrev M_X3_slackLine : rt_Mt := (yX3_slackLine, cX3_slackLine, 2, some .boolean, (0, 0), 0)
abbrev M_X3_lawLine : rt_Mt := (yX3_lawLine, cX3_lawLine, 2, some .boolean, (0, 0), 0)
abbrev M_X3_chain : rt_Mt := (yX3_chain, cX3_chain, 6, some .boolean, (0, 0), 0)
abbrev M_X3_link : rt_Mt := (yX3_link, cX3_link, 4, some .boolean, (0, 0), 0)
abbrev M_X3_jointOf : rt_Mt := (yX3_jointOf, cX3_jointOf, 3, some .int, (0, 0), 0)
abbrev M_X3_test : rt_Mt := (yX3_test, cX3_test, 4, some .boolean, (0, 0), 0)
abbrev M_X3_part : rt_Mt := (yX3_part, cX3_part, 6, some .boolean, (0, 0), 0)
abbrev M_X3_yearsLine : rt_Mt := (yX3_yearsLine, cX3_yearsLine, 6, some .boolean, (0, 0), 0)
abbrev M_X3_oldName : rt_Mt := (yX3_oldName, cX3_oldName, 2, some .boolean, (0, 0), 0)
abbrev M_X4_clear : rt_Mt := (yX4_clear, cX4_clear, 1, none, (0, 0), 0)
abbrev M_X4_isWig : rt_Mt := (yX4_isWig, cX4_isWig, 2, some .boolean, (0, 0), 0)
abbrev M_X4_isHead : rt_Mt := (yX4_isHead, cX4_isHead, 2, some .boolean, (0, 0), 0)
abbrev M_X4_wigNamed : rt_Mt := (yX4_wigNamed, cX4_wigNamed, 3, some .int, (0, 0), 0)
abbrev M_X4_headNamed : rt_Mt := (yX4_headNamed, cX4_headNamed, 3, some .int, (0, 0), 0)
abbrev M_X4_placeOf : rt_Mt := (yX4_placeOf, cX4_placeOf, 5, some .int, (0, 0), 0)
abbrev M_X4_ofWig : rt_Mt := (yX4_ofWig, cX4_ofWig, 3, some .int, (0, 0), 0)
abbrev M_X4_ofHead : rt_Mt := (yX4_ofHead, cX4_ofHead, 3, some .int, (0, 0), 0)
abbrev M_X4_sizeOfWig : rt_Mt := (yX4_sizeOfWig, cX4_sizeOfWig, 2, some .int, (0, 0), 0)
abbrev M_X4_officeOf : rt_Mt := (yX4_officeOf, cX4_officeOf, 2, some .int, (0, 0), 0)
abbrev M_X4_leanOfWig : rt_Mt := (yX4_leanOfWig, cX4_leanOfWig, 2, some .int, (0, 0), 0)
abbrev M_X4_officeOfAll : rt_Mt := (yX4_officeOfAll, cX4_officeOfAll, 4, some .int, (0, 0), 0)
abbrev M_X4_heatOf : rt_Mt := (yX4_heatOf, cX4_heatOf, 2, some .int, (0, 0), 0)
abbrev M_X4_girth : rt_Mt := (yX4_girth, cX4_girth, 8, some .int, (0, 0), 0)
abbrev M_X4_isFit : rt_Mt := (yX4_isFit, cX4_isFit, 4, some .boolean, (0, 0), 0)
abbrev M_X4_isTilt : rt_Mt := (yX4_isTilt, cX4_isTilt, 2, some .boolean, (0, 0), 0)
abbrev M_X4_isFor : rt_Mt := (yX4_isFor, cX4_isFor, 5, some .boolean, (0, 0), 0)
abbrev M_X5_begin : rt_Mt := (yX5_begin, cX5_begin, 4, none, (0, 0), 0)
abbrev M_X5_open : rt_Mt := (yX5_open, cX5_open, 3, none, (0, 0), 0)
abbrev M_X5_gains : rt_Mt := (yX5_gains, cX5_gains, 4, none, (0, 0), 0)
abbrev M_X5_chosen : rt_Mt := (yX5_chosen, cX5_chosen, 2, some .int, (0, 0), 0)
abbrev M_X5_solve : rt_Mt := (yX5_solve, cX5_solve, 5, some .int, (0, 0), 0)
abbrev M_X5_keepFirstRow : rt_Mt := (yX5_keepFirstRow, cX5_keepFirstRow, 5, none, (0, 0), 0)
abbrev M_X5_through : rt_Mt := (yX5_through, cX5_through, 5, some .int, (0, 0), 0)
abbrev M_X6_add : rt_Mt := (yX6_add, cX6_add, 4, some .boolean, (0, 0), 0)
abbrev M_X6_copy : rt_Mt := (yX6_copy, cX6_copy, 3, none, (0, 0), 0)
abbrev M_X6_possible : rt_Mt := (yX6_possible, cX6_possible, 6, some .int, (0, 0), 0)
abbrev M_X7_clear : rt_Mt := (yX7_clear, cX7_clear, 2, none, (0, 0), 0)
abbrev M_X7_copy : rt_Mt := (yX7_copy, cX7_copy, 3, none, (0, 0), 0)
abbrev M_X7_headUnder : rt_Mt := (yX7_headUnder, cX7_headUnder, 2, some .int, (0, 0), 0)
abbrev M_X7_wearOf : rt_Mt := (yX7_wearOf, cX7_wearOf, 2, some .int, (0, 0), 0)
abbrev M_X7_wigUpon : rt_Mt := (yX7_wigUpon, cX7_wigUpon, 3, some .int, (0, 0), 0)
abbrev M_X7_canPut : rt_Mt := (yX7_canPut, cX7_canPut, 4, some .boolean, (0, 0), 0)
abbrev M_X7_canTakeOff : rt_Mt := (yX7_canTakeOff, cX7_canTakeOff, 3, some .boolean, (0, 0), 0)
abbrev M_X7_canMend : rt_Mt := (yX7_canMend, cX7_canMend, 3, some .boolean, (0, 0), 0)
abbrev M_X7_place : rt_Mt := (yX7_place, cX7_place, 3, none, (0, 0), 0)
abbrev M_X7_makeNew : rt_Mt := (yX7_makeNew, cX7_makeNew, 2, none, (0, 0), 0)
abbrev M_X7_pass : rt_Mt := (yX7_pass, cX7_pass, 4, some .int, (0, 0), 0)
abbrev M_X7_worn : rt_Mt := (yX7_worn, cX7_worn, 4, some .int, (0, 0), 0)
abbrev M_X7_wornOut : rt_Mt := (yX7_wornOut, cX7_wornOut, 4, some .int, (0, 0), 0)
abbrev M_X7_wearOfAll : rt_Mt := (yX7_wearOfAll, cX7_wearOfAll, 4, some .int, (0, 0), 0)
abbrev M_X8_clear : rt_Mt := (yX8_clear, cX8_clear, 1, none, (0, 0), 0)
abbrev M_X8_add : rt_Mt := (yX8_add, cX8_add, 5, none, (0, 0), 0)
abbrev M_X8_split : rt_Mt := (yX8_split, cX8_split, 4, none, (0, 0), 0)
abbrev M_X8_endOf : rt_Mt := (yX8_endOf, cX8_endOf, 3, some .int, (0, 0), 0)
abbrev M_X8_addToken : rt_Mt := (yX8_addToken, cX8_addToken, 7, none, (0, 0), 0)
abbrev M_X8_addToken_ : rt_Mt := (yX8_addToken_, cX8_addToken_, 5, none, (0, 0), 0)
abbrev M_X8_isLetter : rt_Mt := (yX8_isLetter, cX8_isLetter, 1, some .boolean, (0, 0), 0)
abbrev M_X8_isDigit : rt_Mt := (yX8_isDigit, cX8_isDigit, 1, some .boolean, (0, 0), 0)
abbrev M_X9_spelled : rt_Mt := (yX9_spelled, cX9_spelled, 4, some (.object "WigOffice$Word"), (0, 0), 0)
abbrev M_X10_add : rt_Mt := (yX10_add, cX10_add, 4, none, (0, 0), 0)
abbrev M_X10_copy : rt_Mt := (yX10_copy, cX10_copy, 3, none, (0, 0), 0)
abbrev M_X10_play : rt_Mt := (yX10_play, cX10_play, 6, some .int, (0, 0), 0)
abbrev M_X11_feed : rt_Mt := (yX11_feed, cX11_feed, 7, some .int, (0, 0), 0)
abbrev M_X11_realm : rt_Mt := (yX11_realm, cX11_realm, 4, some .int, (0, 0), 0)
abbrev M_X11_years : rt_Mt := (yX11_years, cX11_years, 2, some .int, (0, 0), 0)
abbrev M_X11_wig : rt_Mt := (yX11_wig, cX11_wig, 3, some .int, (0, 0), 0)
abbrev M_X11_head : rt_Mt := (yX11_head, cX11_head, 3, some .int, (0, 0), 0)
abbrev M_X11_fits : rt_Mt := (yX11_fits, cX11_fits, 4, some .boolean, (0, 0), 0)
abbrev M_X11_put : rt_Mt := (yX11_put, cX11_put, 3, some .boolean, (0, 0), 0)
abbrev M_X11_off : rt_Mt := (yX11_off, cX11_off, 3, some .int, (0, 0), 0)
abbrev M_X11_mend : rt_Mt := (yX11_mend, cX11_mend, 3, some .int, (0, 0), 0)
abbrev M_X11_season : rt_Mt := (yX11_season, cX11_season, 1, some .int, (0, 0), 0)
abbrev M_X11_undo : rt_Mt := (yX11_undo, cX11_undo, 1, some .boolean, (0, 0), 0)
abbrev M_X11_remember : rt_Mt := (yX11_remember, cX11_remember, 1, none, (0, 0), 0)
abbrev M_X11_judged : rt_Mt := (yX11_judged, cX11_judged, 6, some .int, (0, 0), 0)
abbrev M_X11_verdict : rt_Mt := (yX11_verdict, cX11_verdict, 2, some .int, (0, 0), 0)
abbrev M_X11_votes : rt_Mt := (yX11_votes, cX11_votes, 2, some .int, (0, 0), 0)
abbrev M_X11_isHardness : rt_Mt := (yX11_isHardness, cX11_isHardness, 1, some .boolean, (0, 0), 0)
abbrev M_X11_wigsFor : rt_Mt := (yX11_wigsFor, cX11_wigsFor, 5, some .int, (0, 0), 0)
abbrev M_X11_fill : rt_Mt := (yX11_fill, cX11_fill, 5, some .int, (0, 0), 0)
abbrev M_X11_openHeads : rt_Mt := (yX11_openHeads, cX11_openHeads, 4, none, (0, 0), 0)
abbrev M_X11_isFitThrough : rt_Mt := (yX11_isFitThrough, cX11_isFitThrough, 5, some .boolean, (0, 0), 0)
abbrev M_X11_say : rt_Mt := (yX11_say, cX11_say, 4, some .boolean, (0, 0), 0)
abbrev M_X11_leans : rt_Mt := (yX11_leans, cX11_leans, 5, some .int, (0, 0), 0)
abbrev M_X11_next : rt_Mt := (yX11_next, cX11_next, 9, some .int, (0, 0), 0)
abbrev M_X11_baths : rt_Mt := (yX11_baths, cX11_baths, 7, some .int, (0, 0), 0)
abbrev M_X11_keeps : rt_Mt := (yX11_keeps, cX11_keeps, 4, some .int, (0, 0), 0)
abbrev M_X11_moths : rt_Mt := (yX11_moths, cX11_moths, 6, some .int, (0, 0), 0)
abbrev M_X11_openStands : rt_Mt := (yX11_openStands, cX11_openStands, 3, none, (0, 0), 0)
abbrev M_X11_tell : rt_Mt := (yX11_tell, cX11_tell, 3, some .boolean, (0, 0), 0)
abbrev M_X11_under : rt_Mt := (yX11_under, cX11_under, 4, some .int, (0, 0), 0)
abbrev M_X11_ask : rt_Mt := (yX11_ask, cX11_ask, 5, some .int, (0, 0), 0)
abbrev M_X11_power : rt_Mt := (yX11_power, cX11_power, 7, some .int, (0, 0), 0)
abbrev M_X11_match : rt_Mt := (yX11_match, cX11_match, 2, some .int, (0, 0), 0)
abbrev M_X11_isBest : rt_Mt := (yX11_isBest, cX11_isBest, 6, some .boolean, (0, 0), 0)
abbrev M_X11_gainOf : rt_Mt := (yX11_gainOf, cX11_gainOf, 4, some .int, (0, 0), 0)
abbrev M_X11_isOfHundred : rt_Mt := (yX11_isOfHundred, cX11_isOfHundred, 1, some .boolean, (0, 0), 0)
abbrev M_X11_centuries : rt_Mt := (yX11_centuries, cX11_centuries, 7, some .int, (0, 0), 0)
abbrev M_X11_drawPut : rt_Mt := (yX11_drawPut, cX11_drawPut, 3, none, (0, 0), 0)
abbrev M_X11_drawFever : rt_Mt := (yX11_drawFever, cX11_drawFever, 3, none, (0, 0), 0)
abbrev M_X11_draw : rt_Mt := (yX11_draw, cX11_draw, 2, some .int, (0, 0), 0)
abbrev M_X11_mark : rt_Mt := (yX11_mark, cX11_mark, 3, some .boolean, (0, 0), 0)
abbrev M_X11_count : rt_Mt := (yX11_count, cX11_count, 2, some .int, (0, 0), 0)
abbrev M_X12_thrown : rt_Mt := (yX12_thrown, cX12_thrown, 1, some .int, (0, 0), 0)
abbrev M_X12_within : rt_Mt := (yX12_within, cX12_within, 3, some .boolean, (0, 0), 0)
abbrev M_X12_between : rt_Mt := (yX12_between, cX12_between, 3, some .int, (0, 0), 0)
abbrev M_X12_feed : rt_Mt := (yX12_feed, cX12_feed, 11, some .int, (0, 0), 0)
abbrev M_X12_signAt : rt_Mt := (yX12_signAt, cX12_signAt, 2, some .int, (0, 0), 0)
abbrev M_X12_nextToken : rt_Mt := (yX12_nextToken, cX12_nextToken, 2, none, (0, 0), 0)
abbrev M_X12_isWord : rt_Mt := (yX12_isWord, cX12_isWord, 3, some .boolean, (0, 0), 0)
abbrev M_X12_isSign : rt_Mt := (yX12_isSign, cX12_isSign, 2, some .boolean, (0, 0), 0)
abbrev M_X12_fails : rt_Mt := (yX12_fails, cX12_fails, 2, some .boolean, (0, 0), 0)
abbrev M_X12_puts : rt_Mt := (yX12_puts, cX12_puts, 2, none, (0, 0), 0)
abbrev M_X12_fact : rt_Mt := (yX12_fact, cX12_fact, 1, some .int, (0, 0), 0)
abbrev M_X12_reads : rt_Mt := (yX12_reads, cX12_reads, 6, some .boolean, (0, 0), 0)
abbrev M_X12_opens : rt_Mt := (yX12_opens, cX12_opens, 2, none, (0, 0), 0)
abbrev M_X12_sums : rt_Mt := (yX12_sums, cX12_sums, 2, none, (0, 0), 0)
abbrev M_X12_tests : rt_Mt := (yX12_tests, cX12_tests, 3, none, (0, 0), 0)
abbrev M_X12_worked : rt_Mt := (yX12_worked, cX12_worked, 6, some .int, (0, 0), 0)
abbrev M_X12_isKept : rt_Mt := (yX12_isKept, cX12_isKept, 1, some .boolean, (0, 0), 0)
abbrev M_X12_wigNamed : rt_Mt := (yX12_wigNamed, cX12_wigNamed, 3, some .int, (0, 0), 0)
abbrev M_X12_headNamed : rt_Mt := (yX12_headNamed, cX12_headNamed, 3, some .int, (0, 0), 0)
abbrev M_X12_needsNumber : rt_Mt := (yX12_needsNumber, cX12_needsNumber, 3, some .boolean, (0, 0), 0)
abbrev M_X12_needsWord : rt_Mt := (yX12_needsWord, cX12_needsWord, 3, some .boolean, (0, 0), 0)
abbrev M_X12_needsBoth : rt_Mt := (yX12_needsBoth, cX12_needsBoth, 5, some .boolean, (0, 0), 0)
abbrev M_X12_closes : rt_Mt := (yX12_closes, cX12_closes, 1, some .boolean, (0, 0), 0)
abbrev M_X12_needsNew : rt_Mt := (yX12_needsNew, cX12_needsNew, 1, some .boolean, (0, 0), 0)
abbrev M_X12_readsWig : rt_Mt := (yX12_readsWig, cX12_readsWig, 2, some .boolean, (0, 0), 0)
abbrev M_X12_readsHead : rt_Mt := (yX12_readsHead, cX12_readsHead, 2, some .boolean, (0, 0), 0)
abbrev M_X12_readsHeats : rt_Mt := (yX12_readsHeats, cX12_readsHeats, 2, some .boolean, (0, 0), 0)
abbrev M_X12_readsSlack : rt_Mt := (yX12_readsSlack, cX12_readsSlack, 1, some .boolean, (0, 0), 0)
abbrev M_X12_readsLaw : rt_Mt := (yX12_readsLaw, cX12_readsLaw, 2, some .boolean, (0, 0), 0)
abbrev M_X12_begins : rt_Mt := (yX12_begins, cX12_begins, 1, none, (0, 0), 0)
abbrev M_X12_readsAll : rt_Mt := (yX12_readsAll, cX12_readsAll, 2, some .boolean, (0, 0), 0)
abbrev M_X12_shifts : rt_Mt := (yX12_shifts, cX12_shifts, 3, none, (0, 0), 0)
abbrev M_X12_shiftsNames : rt_Mt := (yX12_shiftsNames, cX12_shiftsNames, 3, none, (0, 0), 0)
abbrev M_X12_lays : rt_Mt := (yX12_lays, cX12_lays, 2, none, (0, 0), 0)
abbrev M_X12_copies : rt_Mt := (yX12_copies, cX12_copies, 5, none, (0, 0), 0)
abbrev M_X12_readsLine : rt_Mt := (yX12_readsLine, cX12_readsLine, 3, some .boolean, (0, 0), 0)
abbrev M_X12_laysLines : rt_Mt := (yX12_laysLines, cX12_laysLines, 4, none, (0, 0), 0)
abbrev M_X12_laysSaid : rt_Mt := (yX12_laysSaid, cX12_laysSaid, 4, none, (0, 0), 0)
abbrev M_X12_fresh : rt_Mt := (yX12_fresh, cX12_fresh, 2, none, (0, 0), 0)
abbrev M_X12_forgets : rt_Mt := (yX12_forgets, cX12_forgets, 2, none, (0, 0), 0)
abbrev M_X12_realm : rt_Mt := (yX12_realm, cX12_realm, 2, some .int, (0, 0), 0)
abbrev M_X12_years : rt_Mt := (yX12_years, cX12_years, 1, some .int, (0, 0), 0)
abbrev M_X12_isWig : rt_Mt := (yX12_isWig, cX12_isWig, 2, some .boolean, (0, 0), 0)
abbrev M_X12_isHead : rt_Mt := (yX12_isHead, cX12_isHead, 2, some .boolean, (0, 0), 0)
abbrev M_X12_heatIn : rt_Mt := (yX12_heatIn, cX12_heatIn, 2, some .int, (0, 0), 0)
abbrev M_X12_girthIn : rt_Mt := (yX12_girthIn, cX12_girthIn, 5, some .int, (0, 0), 0)
abbrev M_X12_tiltIn : rt_Mt := (yX12_tiltIn, cX12_tiltIn, 4, some .int, (0, 0), 0)
abbrev M_X12_fitsIn : rt_Mt := (yX12_fitsIn, cX12_fitsIn, 4, some .boolean, (0, 0), 0)
abbrev M_X12_wigOn : rt_Mt := (yX12_wigOn, cX12_wigOn, 3, some .int, (0, 0), 0)
abbrev M_X12_onHeads : rt_Mt := (yX12_onHeads, cX12_onHeads, 3, some .int, (0, 0), 0)
abbrev M_X12_wornOut : rt_Mt := (yX12_wornOut, cX12_wornOut, 3, some .int, (0, 0), 0)
abbrev M_X12_officeOf : rt_Mt := (yX12_officeOf, cX12_officeOf, 4, some .int, (0, 0), 0)
abbrev M_X12_canPut : rt_Mt := (yX12_canPut, cX12_canPut, 3, some .boolean, (0, 0), 0)
abbrev M_X12_passes : rt_Mt := (yX12_passes, cX12_passes, 3, some .int, (0, 0), 0)
abbrev M_X12_wig : rt_Mt := (yX12_wig, cX12_wig, 3, some .int, (0, 0), 0)
abbrev M_X12_head : rt_Mt := (yX12_head, cX12_head, 3, some .int, (0, 0), 0)
abbrev M_X12_fits : rt_Mt := (yX12_fits, cX12_fits, 4, some .boolean, (0, 0), 0)
abbrev M_X12_holds : rt_Mt := (yX12_holds, cX12_holds, 2, none, (0, 0), 0)
abbrev M_X12_put : rt_Mt := (yX12_put, cX12_put, 3, some .boolean, (0, 0), 0)
abbrev M_X12_off : rt_Mt := (yX12_off, cX12_off, 3, some .int, (0, 0), 0)
abbrev M_X12_mend : rt_Mt := (yX12_mend, cX12_mend, 3, some .int, (0, 0), 0)
abbrev M_X12_season : rt_Mt := (yX12_season, cX12_season, 1, some .int, (0, 0), 0)
abbrev M_X12_undo : rt_Mt := (yX12_undo, cX12_undo, 1, some .boolean, (0, 0), 0)
abbrev M_X12_goes : rt_Mt := (yX12_goes, cX12_goes, 3, some .boolean, (0, 0), 0)
abbrev M_X12_judged : rt_Mt := (yX12_judged, cX12_judged, 5, some .int, (0, 0), 0)
abbrev M_X12_isFor : rt_Mt := (yX12_isFor, cX12_isFor, 5, some .boolean, (0, 0), 0)
abbrev M_X12_judgedFor : rt_Mt := (yX12_judgedFor, cX12_judgedFor, 4, some .int, (0, 0), 0)
abbrev M_X12_verdict : rt_Mt := (yX12_verdict, cX12_verdict, 2, some .int, (0, 0), 0)
abbrev M_X12_votes : rt_Mt := (yX12_votes, cX12_votes, 2, some .int, (0, 0), 0)
abbrev M_X12_power : rt_Mt := (yX12_power, cX12_power, 7, some .int, (0, 0), 0)
abbrev M_X12_fitsAll : rt_Mt := (yX12_fitsAll, cX12_fitsAll, 4, some .boolean, (0, 0), 0)
abbrev M_X12_fillsFrom : rt_Mt := (yX12_fillsFrom, cX12_fillsFrom, 5, none, (0, 0), 0)
abbrev M_X12_fill : rt_Mt := (yX12_fill, cX12_fill, 5, some .int, (0, 0), 0)
abbrev M_X12_say : rt_Mt := (yX12_say, cX12_say, 4, some .boolean, (0, 0), 0)
abbrev M_X12_isAsSaid : rt_Mt := (yX12_isAsSaid, cX12_isAsSaid, 3, some .boolean, (0, 0), 0)
abbrev M_X12_leans : rt_Mt := (yX12_leans, cX12_leans, 6, some .int, (0, 0), 0)
abbrev M_X12_next : rt_Mt := (yX12_next, cX12_next, 8, some .int, (0, 0), 0)
abbrev M_X12_baths : rt_Mt := (yX12_baths, cX12_baths, 7, some .int, (0, 0), 0)
abbrev M_X12_keeps : rt_Mt := (yX12_keeps, cX12_keeps, 3, some .int, (0, 0), 0)
abbrev M_X12_mendsFrom : rt_Mt := (yX12_mendsFrom, cX12_mendsFrom, 5, none, (0, 0), 0)
abbrev M_X12_moths : rt_Mt := (yX12_moths, cX12_moths, 3, some .int, (0, 0), 0)
abbrev M_X12_tell : rt_Mt := (yX12_tell, cX12_tell, 3, some .boolean, (0, 0), 0)
abbrev M_X12_tiltsFrom : rt_Mt := (yX12_tiltsFrom, cX12_tiltsFrom, 4, none, (0, 0), 0)
abbrev M_X12_laysUnder : rt_Mt := (yX12_laysUnder, cX12_laysUnder, 3, none, (0, 0), 0)
abbrev M_X12_under : rt_Mt := (yX12_under, cX12_under, 2, some .int, (0, 0), 0)
abbrev M_X12_ask : rt_Mt := (yX12_ask, cX12_ask, 7, some .int, (0, 0), 0)
abbrev M_X12_wishes : rt_Mt := (yX12_wishes, cX12_wishes, 4, some .int, (0, 0), 0)
abbrev M_X12_isAhead : rt_Mt := (yX12_isAhead, cX12_isAhead, 6, some .boolean, (0, 0), 0)
abbrev M_X12_laysMatch : rt_Mt := (yX12_laysMatch, cX12_laysMatch, 5, none, (0, 0), 0)
abbrev M_X12_match : rt_Mt := (yX12_match, cX12_match, 3, some .int, (0, 0), 0)
abbrev M_X12_getsBy : rt_Mt := (yX12_getsBy, cX12_getsBy, 4, some .int, (0, 0), 0)
abbrev M_X12_isRest : rt_Mt := (yX12_isRest, cX12_isRest, 5, some .boolean, (0, 0), 0)
abbrev M_X12_rests : rt_Mt := (yX12_rests, cX12_rests, 6, some .int, (0, 0), 0)
abbrev M_X12_power0 : rt_Mt := (yX12_power0, cX12_power0, 5, some .long, (0, 0), 0)
abbrev M_X12_horsehair : rt_Mt := (yX12_horsehair, cX12_horsehair, 9, some .int, (0, 0), 0)
abbrev M_X12_draws : rt_Mt := (yX12_draws, cX12_draws, 2, some .int, (0, 0), 0)
abbrev M_X12_fever : rt_Mt := (yX12_fever, cX12_fever, 3, none, (0, 0), 0)
abbrev M_X12_livesSeason : rt_Mt := (yX12_livesSeason, cX12_livesSeason, 3, some .int, (0, 0), 0)
abbrev M_X12_centuries : rt_Mt := (yX12_centuries, cX12_centuries, 8, some .int, (0, 0), 0)
abbrev M_X12_mark : rt_Mt := (yX12_mark, cX12_mark, 5, some .boolean, (0, 0), 0)
abbrev M_X12_toldMany : rt_Mt := (yX12_toldMany, cX12_toldMany, 3, some .int, (0, 0), 0)
abbrev M_X12_count : rt_Mt := (yX12_count, cX12_count, 2, some .int, (0, 0), 0)
abbrev M_J6_bitCount_0f7a4 : rt_Mt := (yJ6_bitCount_0f7a4, cJ6_bitCount_0f7a4, 1, some .int, (0, 0), 0)
abbrev M_J9_floorMod_7cf53 : rt_Mt := (yJ9_floorMod_7cf53, cJ9_floorMod_7cf53, 3, some .int, (0, 0), 0)
abbrev M_J9_max_7cf53 : rt_Mt := (yJ9_max_7cf53, cJ9_max_7cf53, 2, some .int, (0, 0), 0)
abbrev M_J9_min_7cf53 : rt_Mt := (yJ9_min_7cf53, cJ9_min_7cf53, 2, some .int, (0, 0), 0)
theorem lay_X0 : ∀ w ∈ u_ws RX0 TX0 5, w ∈ rt_mG := by
  intro w hw
  obtain ⟨k, hk, rfl⟩ := List.mem_map.mp hw
  have hk := List.mem_range.mp hk
  by_cases h0 : k = 0
  · subst h0; exact rt_inG 319 (by decide +kernel) rfl
  by_cases h1 : k = 1
  · subst h1; exact rt_inG 321 (by decide +kernel) rfl
  by_cases h2 : k = 2
  · subst h2; exact rt_inG 323 (by decide +kernel) rfl
  by_cases h3 : k = 3
  · subst h3; exact rt_inG 325 (by decide +kernel) rfl
  by_cases h4 : k = 4
  · subst h4; exact rt_inG 327 (by decide +kernel) rfl
  omega
theorem ln_X0 : ∀ k, rt_kd k = 20 + 0 → rt_ln k = 5 := fun k h => rt_ln_of (by decide +kernel) h (by decide)
theorem cl_X0 : rt_CL 0 := ⟨rfl, lay_X0, tyX0_ok, nmX0, ln_X0⟩
theorem lay_X1 : ∀ w ∈ u_ws RX1 TX1 7, w ∈ rt_mG := by
  intro w hw
  obtain ⟨k, hk, rfl⟩ := List.mem_map.mp hw
  have hk := List.mem_range.mp hk
  by_cases h0 : k = 0
  · subst h0; exact rt_inG 455 (by decide +kernel) rfl
  by_cases h1 : k = 1
  · subst h1; exact rt_inG 457 (by decide +kernel) rfl
  by_cases h2 : k = 2
  · subst h2; exact rt_inG 459 (by decide +kernel) rfl
  by_cases h3 : k = 3
  · subst h3; exact rt_inG 461 (by decide +kernel) rfl
  by_cases h4 : k = 4
  · subst h4; exact rt_inG 463 (by decide +kernel) rfl
  by_cases h5 : k = 5
  · subst h5; exact rt_inG 465 (by decide +kernel) rfl
  by_cases h6 : k = 6
  · subst h6; exact rt_inG 467 (by decide +kernel) rfl
  omega
theorem ln_X1 : ∀ k, rt_kd k = 20 + 1 → rt_ln k = 7 := fun k h => rt_ln_of (by decide +kernel) h (by decide)
theorem cl_X1 : rt_CL 1 := ⟨rfl, lay_X1, tyX1_ok, nmX1, ln_X1⟩
theorem lay_X2 : ∀ w ∈ u_ws RX2 TX2 7, w ∈ rt_mG := by
  intro w hw
  obtain ⟨k, hk, rfl⟩ := List.mem_map.mp hw
  have hk := List.mem_range.mp hk
  by_cases h0 : k = 0
  · subst h0; exact rt_inG 362 (by decide +kernel) rfl
  by_cases h1 : k = 1
  · subst h1; exact rt_inG 364 (by decide +kernel) rfl
  by_cases h2 : k = 2
  · subst h2; exact rt_inG 366 (by decide +kernel) rfl
  by_cases h3 : k = 3
  · subst h3; exact rt_inG 368 (by decide +kernel) rfl
  by_cases h4 : k = 4
  · subst h4; exact rt_inG 370 (by decide +kernel) rfl
  by_cases h5 : k = 5
  · subst h5; exact rt_inG 372 (by decide +kernel) rfl
  by_cases h6 : k = 6
  · subst h6; exact rt_inG 374 (by decide +kernel) rfl
  omega
theorem ln_X2 : ∀ k, rt_kd k = 20 + 2 → rt_ln k = 7 := fun k h => rt_ln_of (by decide +kernel) h (by decide)
theorem cl_X2 : rt_CL 2 := ⟨rfl, lay_X2, tyX2_ok, nmX2, ln_X2⟩
theorem lay_X3 : ∀ w ∈ u_ws RX3 TX3 3, w ∈ rt_mG := by
  intro w hw
  obtain ⟨k, hk, rfl⟩ := List.mem_map.mp hw
  have hk := List.mem_range.mp hk
  by_cases h0 : k = 0
  · subst h0; exact rt_inG 235 (by decide +kernel) rfl
  by_cases h1 : k = 1
  · subst h1; exact rt_inG 237 (by decide +kernel) rfl
  by_cases h2 : k = 2
  · subst h2; exact rt_inG 239 (by decide +kernel) rfl
  omega
theorem ln_X3 : ∀ k, rt_kd k = 20 + 3 → rt_ln k = 3 := fun k h => rt_ln_of (by decide +kernel) h (by decide)
theorem cl_X3 : rt_CL 3 := ⟨rfl, lay_X3, tyX3_ok, nmX3, ln_X3⟩
theorem lay_X4 : ∀ w ∈ u_ws RX4 TX4 12, w ∈ rt_mG := by
  intro w hw
  obtain ⟨k, hk, rfl⟩ := List.mem_map.mp hw
  have hk := List.mem_range.mp hk
  by_cases h0 : k = 0
  · subst h0; exact rt_inG 413 (by decide +kernel) rfl
  by_cases h1 : k = 1
  · subst h1; exact rt_inG 415 (by decide +kernel) rfl
  by_cases h2 : k = 2
  · subst h2; exact rt_inG 417 (by decide +kernel) rfl
  by_cases h3 : k = 3
  · subst h3; exact rt_inG 419 (by decide +kernel) rfl
  by_cases h4 : k = 4
  · subst h4; exact rt_inG 421 (by decide +kernel) rfl
  by_cases h5 : k = 5
  · subst h5; exact rt_inG 423 (by decide +kernel) rfl
  by_cases h6 : k = 6
  · subst h6; exact rt_inG 425 (by decide +kernel) rfl
  by_cases h7 : k = 7
  · subst h7; exact rt_inG 427 (by decide +kernel) rfl
  by_cases h8 : k = 8
  · subst h8; exact rt_inG 429 (by decide +kernel) rfl
  by_cases h9 : k = 9
  · subst h9; exact rt_inG 431 (by decide +kernel) rfl
  by_cases h10 : k = 10
  · subst h10; exact rt_inG 433 (by decide +kernel) rfl
  by_cases h11 : k = 11
  · subst h11; exact rt_inG 435 (by decide +kernel) rfl
  omega
theorem ln_X4 : ∀ k, rt_kd k = 20 + 4 → rt_ln k = 12 := fun k h => rt_ln_of (by decide +kernel) h (by decide)
theorem cl_X4 : rt_CL 4 := ⟨rfl, lay_X4, tyX4_ok, nmX4, ln_X4⟩
theorem lay_X5 : ∀ w ∈ u_ws RX5 TX5 6, w ∈ rt_mG := by
  intro w hw
  obtain ⟨k, hk, rfl⟩ := List.mem_map.mp hw
  have hk := List.mem_range.mp hk
  by_cases h0 : k = 0
  · subst h0; exact rt_inG 483 (by decide +kernel) rfl
  by_cases h1 : k = 1
  · subst h1; exact rt_inG 485 (by decide +kernel) rfl
  by_cases h2 : k = 2
  · subst h2; exact rt_inG 487 (by decide +kernel) rfl
  by_cases h3 : k = 3
  · subst h3; exact rt_inG 489 (by decide +kernel) rfl
  by_cases h4 : k = 4
  · subst h4; exact rt_inG 491 (by decide +kernel) rfl
  by_cases h5 : k = 5
  · subst h5; exact rt_inG 493 (by decide +kernel) rfl
  omega
theorem ln_X5 : ∀ k, rt_kd k = 20 + 5 → rt_ln k = 6 := fun k h => rt_ln_of (by decide +kernel) h (by decide)
theorem cl_X5 : rt_CL 5 := ⟨rfl, lay_X5, tyX5_ok, nmX5, ln_X5⟩
theorem lay_X6 : ∀ w ∈ u_ws RX6 TX6 4, w ∈ rt_mG := by
  intro w hw
  obtain ⟨k, hk, rfl⟩ := List.mem_map.mp hw
  have hk := List.mem_range.mp hk
  by_cases h0 : k = 0
  · subst h0; exact rt_inG 300 (by decide +kernel) rfl
  by_cases h1 : k = 1
  · subst h1; exact rt_inG 302 (by decide +kernel) rfl
  by_cases h2 : k = 2
  · subst h2; exact rt_inG 304 (by decide +kernel) rfl
  by_cases h3 : k = 3
  · subst h3; exact rt_inG 306 (by decide +kernel) rfl
  omega
theorem ln_X6 : ∀ k, rt_kd k = 20 + 6 → rt_ln k = 4 := fun k h => rt_ln_of (by decide +kernel) h (by decide)
theorem cl_X6 : rt_CL 6 := ⟨rfl, lay_X6, tyX6_ok, nmX6, ln_X6⟩
theorem lay_X7 : ∀ w ∈ u_ws RX7 TX7 3, w ∈ rt_mG := by
  intro w hw
  obtain ⟨k, hk, rfl⟩ := List.mem_map.mp hw
  have hk := List.mem_range.mp hk
  by_cases h0 : k = 0
  · subst h0; exact rt_inG 258 (by decide +kernel) rfl
  by_cases h1 : k = 1
  · subst h1; exact rt_inG 260 (by decide +kernel) rfl
  by_cases h2 : k = 2
  · subst h2; exact rt_inG 262 (by decide +kernel) rfl
  omega
theorem ln_X7 : ∀ k, rt_kd k = 20 + 7 → rt_ln k = 3 := fun k h => rt_ln_of (by decide +kernel) h (by decide)
theorem cl_X7 : rt_CL 7 := ⟨rfl, lay_X7, tyX7_ok, nmX7, ln_X7⟩
theorem lay_X8 : ∀ w ∈ u_ws RX8 TX8 6, w ∈ rt_mG := by
  intro w hw
  obtain ⟨k, hk, rfl⟩ := List.mem_map.mp hw
  have hk := List.mem_range.mp hk
  by_cases h0 : k = 0
  · subst h0; exact rt_inG 210 (by decide +kernel) rfl
  by_cases h1 : k = 1
  · subst h1; exact rt_inG 212 (by decide +kernel) rfl
  by_cases h2 : k = 2
  · subst h2; exact rt_inG 214 (by decide +kernel) rfl
  by_cases h3 : k = 3
  · subst h3; exact rt_inG 216 (by decide +kernel) rfl
  by_cases h4 : k = 4
  · subst h4; exact rt_inG 218 (by decide +kernel) rfl
  by_cases h5 : k = 5
  · subst h5; exact rt_inG 220 (by decide +kernel) rfl
  omega
theorem ln_X8 : ∀ k, rt_kd k = 20 + 8 → rt_ln k = 6 := fun k h => rt_ln_of (by decide +kernel) h (by decide)
theorem cl_X8 : rt_CL 8 := ⟨rfl, lay_X8, tyX8_ok, nmX8, ln_X8⟩
theorem lay_X10 : ∀ w ∈ u_ws RX10 TX10 4, w ∈ rt_mG := by
  intro w hw
  obtain ⟨k, hk, rfl⟩ := List.mem_map.mp hw
  have hk := List.mem_range.mp hk
  by_cases h0 : k = 0
  · subst h0; exact rt_inG 279 (by decide +kernel) rfl
  by_cases h1 : k = 1
  · subst h1; exact rt_inG 281 (by decide +kernel) rfl
  by_cases h2 : k = 2
  · subst h2; exact rt_inG 283 (by decide +kernel) rfl
  by_cases h3 : k = 3
  · subst h3; exact rt_inG 285 (by decide +kernel) rfl
  omega
theorem ln_X10 : ∀ k, rt_kd k = 20 + 10 → rt_ln k = 4 := fun k h => rt_ln_of (by decide +kernel) h (by decide)
theorem cl_X10 : rt_CL 10 := ⟨rfl, lay_X10, tyX10_ok, nmX10, ln_X10⟩
theorem lay_X11 : ∀ w ∈ u_ws RX11 TX11 14, w ∈ rt_mG := by
  intro w hw
  obtain ⟨k, hk, rfl⟩ := List.mem_map.mp hw
  have hk := List.mem_range.mp hk
  by_cases h0 : k = 0
  · subst h0; exact rt_inG 510 (by decide +kernel) rfl
  by_cases h1 : k = 1
  · subst h1; exact rt_inG 512 (by decide +kernel) rfl
  by_cases h2 : k = 2
  · subst h2; exact rt_inG 514 (by decide +kernel) rfl
  by_cases h3 : k = 3
  · subst h3; exact rt_inG 516 (by decide +kernel) rfl
  by_cases h4 : k = 4
  · subst h4; exact rt_inG 518 (by decide +kernel) rfl
  by_cases h5 : k = 5
  · subst h5; exact rt_inG 520 (by decide +kernel) rfl
  by_cases h6 : k = 6
  · subst h6; exact rt_inG 522 (by decide +kernel) rfl
  by_cases h7 : k = 7
  · subst h7; exact rt_inG 524 (by decide +kernel) rfl
  by_cases h8 : k = 8
  · subst h8; exact rt_inG 526 (by decide +kernel) rfl
  by_cases h9 : k = 9
  · subst h9; exact rt_inG 528 (by decide +kernel) rfl
  by_cases h10 : k = 10
  · subst h10; exact rt_inG 530 (by decide +kernel) rfl
  by_cases h11 : k = 11
  · subst h11; exact rt_inG 532 (by decide +kernel) rfl
  by_cases h12 : k = 12
  · subst h12; exact rt_inG 534 (by decide +kernel) rfl
  by_cases h13 : k = 13
  · subst h13; exact rt_inG 536 (by decide +kernel) rfl
  omega
theorem ln_X11 : ∀ k, rt_kd k = 20 + 11 → rt_ln k = 14 := fun k h => rt_ln_of (by decide +kernel) h (by decide)
theorem cl_X11 : rt_CL 11 := ⟨rfl, lay_X11, tyX11_ok, nmX11, ln_X11⟩
theorem lay_X12 : ∀ w ∈ u_ws RX12 TX12 72, w ∈ rt_mG := by
  intro w hw
  obtain ⟨k, hk, rfl⟩ := List.mem_map.mp hw
  have hk := List.mem_range.mp hk
  by_cases h0 : k = 0
  · subst h0; exact rt_inG 1379 (by decide +kernel) rfl
  by_cases h1 : k = 1
  · subst h1; exact rt_inG 1381 (by decide +kernel) rfl
  by_cases h2 : k = 2
  · subst h2; exact rt_inG 1383 (by decide +kernel) rfl
  by_cases h3 : k = 3
  · subst h3; exact rt_inG 1385 (by decide +kernel) rfl
  by_cases h4 : k = 4
  · subst h4; exact rt_inG 1387 (by decide +kernel) rfl
  by_cases h5 : k = 5
  · subst h5; exact rt_inG 1389 (by decide +kernel) rfl
  by_cases h6 : k = 6
  · subst h6; exact rt_inG 1391 (by decide +kernel) rfl
  by_cases h7 : k = 7
  · subst h7; exact rt_inG 1393 (by decide +kernel) rfl
  by_cases h8 : k = 8
  · subst h8; exact rt_inG 1395 (by decide +kernel) rfl
  by_cases h9 : k = 9
  · subst h9; exact rt_inG 1397 (by decide +kernel) rfl
  by_cases h10 : k = 10
  · subst h10; exact rt_inG 1399 (by decide +kernel) rfl
  by_cases h11 : k = 11
  · subst h11; exact rt_inG 1401 (by decide +kernel) rfl
  by_cases h12 : k = 12
  · subst h12; exact rt_inG 1403 (by decide +kernel) rfl
  by_cases h13 : k = 13
  · subst h13; exact rt_inG 1405 (by decide +kernel) rfl
  by_cases h14 : k = 14
  · subst h14; exact rt_inG 1407 (by decide +kernel) rfl
  by_cases h15 : k = 15
  · subst h15; exact rt_inG 1409 (by decide +kernel) rfl
  by_cases h16 : k = 16
  · subst h16; exact rt_inG 1411 (by decide +kernel) rfl
  by_cases h17 : k = 17
  · subst h17; exact rt_inG 1413 (by decide +kernel) rfl
  by_cases h18 : k = 18
  · subst h18; exact rt_inG 1415 (by decide +kernel) rfl
  by_cases h19 : k = 19
  · subst h19; exact rt_inG 1417 (by decide +kernel) rfl
  by_cases h20 : k = 20
  · subst h20; exact rt_inG 1419 (by decide +kernel) rfl
  by_cases h21 : k = 21
  · subst h21; exact rt_inG 1421 (by decide +kernel) rfl
  by_cases h22 : k = 22
  · subst h22; exact rt_inG 1423 (by decide +kernel) rfl
  by_cases h23 : k = 23
  · subst h23; exact rt_inG 1425 (by decide +kernel) rfl
  by_cases h24 : k = 24
  · subst h24; exact rt_inG 1427 (by decide +kernel) rfl
  by_cases h25 : k = 25
  · subst h25; exact rt_inG 1429 (by decide +kernel) rfl
  by_cases h26 : k = 26
  · subst h26; exact rt_inG 1431 (by decide +kernel) rfl
  by_cases h27 : k = 27
  · subst h27; exact rt_inG 1433 (by decide +kernel) rfl
  by_cases h28 : k = 28
  · subst h28; exact rt_inG 1435 (by decide +kernel) rfl
  by_cases h29 : k = 29
  · subst h29; exact rt_inG 1437 (by decide +kernel) rfl
  by_cases h30 : k = 30
  · subst h30; exact rt_inG 1439 (by decide +kernel) rfl
  by_cases h31 : k = 31
  · subst h31; exact rt_inG 1441 (by decide +kernel) rfl
  by_cases h32 : k = 32
  · subst h32; exact rt_inG 1443 (by decide +kernel) rfl
  by_cases h33 : k = 33
  · subst h33; exact rt_inG 1445 (by decide +kernel) rfl
  by_cases h34 : k = 34
  · subst h34; exact rt_inG 1447 (by decide +kernel) rfl
  by_cases h35 : k = 35
  · subst h35; exact rt_inG 1449 (by decide +kernel) rfl
  by_cases h36 : k = 36
  · subst h36; exact rt_inG 1451 (by decide +kernel) rfl
  by_cases h37 : k = 37
  · subst h37; exact rt_inG 1453 (by decide +kernel) rfl
  by_cases h38 : k = 38
  · subst h38; exact rt_inG 1455 (by decide +kernel) rfl
  by_cases h39 : k = 39
  · subst h39; exact rt_inG 1457 (by decide +kernel) rfl
  by_cases h40 : k = 40
  · subst h40; exact rt_inG 1459 (by decide +kernel) rfl
  by_cases h41 : k = 41
  · subst h41; exact rt_inG 1461 (by decide +kernel) rfl
  by_cases h42 : k = 42
  · subst h42; exact rt_inG 1463 (by decide +kernel) rfl
  by_cases h43 : k = 43
  · subst h43; exact rt_inG 1465 (by decide +kernel) rfl
  by_cases h44 : k = 44
  · subst h44; exact rt_inG 1467 (by decide +kernel) rfl
  by_cases h45 : k = 45
  · subst h45; exact rt_inG 1469 (by decide +kernel) rfl
  by_cases h46 : k = 46
  · subst h46; exact rt_inG 1471 (by decide +kernel) rfl
  by_cases h47 : k = 47
  · subst h47; exact rt_inG 1473 (by decide +kernel) rfl
  by_cases h48 : k = 48
  · subst h48; exact rt_inG 1475 (by decide +kernel) rfl
  by_cases h49 : k = 49
  · subst h49; exact rt_inG 1477 (by decide +kernel) rfl
  by_cases h50 : k = 50
  · subst h50; exact rt_inG 1479 (by decide +kernel) rfl
  by_cases h51 : k = 51
  · subst h51; exact rt_inG 1481 (by decide +kernel) rfl
  by_cases h52 : k = 52
  · subst h52; exact rt_inG 1483 (by decide +kernel) rfl
  by_cases h53 : k = 53
  · subst h53; exact rt_inG 1485 (by decide +kernel) rfl
  by_cases h54 : k = 54
  · subst h54; exact rt_inG 1487 (by decide +kernel) rfl
  by_cases h55 : k = 55
  · subst h55; exact rt_inG 1489 (by decide +kernel) rfl
  by_cases h56 : k = 56
  · subst h56; exact rt_inG 1491 (by decide +kernel) rfl
  by_cases h57 : k = 57
  · subst h57; exact rt_inG 1493 (by decide +kernel) rfl
  by_cases h58 : k = 58
  · subst h58; exact rt_inG 1495 (by decide +kernel) rfl
  by_cases h59 : k = 59
  · subst h59; exact rt_inG 1497 (by decide +kernel) rfl
  by_cases h60 : k = 60
  · subst h60; exact rt_inG 1499 (by decide +kernel) rfl
  by_cases h61 : k = 61
  · subst h61; exact rt_inG 1501 (by decide +kernel) rfl
  by_cases h62 : k = 62
  · subst h62; exact rt_inG 1503 (by decide +kernel) rfl
  by_cases h63 : k = 63
  · subst h63; exact rt_inG 1505 (by decide +kernel) rfl
  by_cases h64 : k = 64
  · subst h64; exact rt_inG 1507 (by decide +kernel) rfl
  by_cases h65 : k = 65
  · subst h65; exact rt_inG 1509 (by decide +kernel) rfl
  by_cases h66 : k = 66
  · subst h66; exact rt_inG 1511 (by decide +kernel) rfl
  by_cases h67 : k = 67
  · subst h67; exact rt_inG 1513 (by decide +kernel) rfl
  by_cases h68 : k = 68
  · subst h68; exact rt_inG 1515 (by decide +kernel) rfl
  by_cases h69 : k = 69
  · subst h69; exact rt_inG 1517 (by decide +kernel) rfl
  by_cases h70 : k = 70
  · subst h70; exact rt_inG 1519 (by decide +kernel) rfl
  by_cases h71 : k = 71
  · subst h71; exact rt_inG 1521 (by decide +kernel) rfl
  omega
theorem ln_X12 : ∀ k, rt_kd k = 20 + 12 → rt_ln k = 72 := fun k h => rt_ln_of (by decide +kernel) h (by decide)
theorem cl_X12 : rt_CL 12 := ⟨rfl, lay_X12, tyX12_ok, nmX12, ln_X12⟩
theorem fl_X0_12 : rt_FL RX0 12 0 0 := ⟨cl_X0, by decide, rfl, Or.inl (rt_inG 310 (by decide +kernel) rfl)⟩
theorem fl_X0_21 : rt_FL RX0 21 0 1 := ⟨cl_X0, by decide, rfl, Or.inl (rt_inG 312 (by decide +kernel) rfl)⟩
theorem fl_X0_28 : rt_FL RX0 28 0 2 := ⟨cl_X0, by decide, rfl, Or.inl (rt_inG 314 (by decide +kernel) rfl)⟩
theorem fl_X0_32 : rt_FL RX0 32 0 3 := ⟨cl_X0, by decide, rfl, Or.inl (rt_inG 316 (by decide +kernel) rfl)⟩
theorem fl_X0_39 : rt_FL RX0 39 10 0 := ⟨cl_X10, by decide, rfl, Or.inr ⟨"WigOffice", (rt_inN 273 (by decide +kernel) rfl)⟩⟩
theorem fl_X0_43 : rt_FL RX0 43 6 0 := ⟨cl_X6, by decide, rfl, Or.inr ⟨"WigOffice", (rt_inN 295 (by decide +kernel) rfl)⟩⟩
theorem fl_X1_11 : rt_FL RX1 11 1 2 := ⟨cl_X1, by decide, rfl, Or.inl (rt_inG 450 (by decide +kernel) rfl)⟩
theorem fl_X1_16 : rt_FL RX1 16 1 3 := ⟨cl_X1, by decide, rfl, Or.inl (rt_inG 451 (by decide +kernel) rfl)⟩
theorem fl_X1_20 : rt_FL RX1 20 1 4 := ⟨cl_X1, by decide, rfl, Or.inl (rt_inG 452 (by decide +kernel) rfl)⟩
theorem fl_X1_23 : rt_FL RX1 23 1 5 := ⟨cl_X1, by decide, rfl, Or.inl (rt_inG 453 (by decide +kernel) rfl)⟩
theorem fl_X1_26 : rt_FL RX1 26 1 6 := ⟨cl_X1, by decide, rfl, Or.inl (rt_inG 454 (by decide +kernel) rfl)⟩
theorem fl_X1_29 : rt_FL RX1 29 4 0 := ⟨cl_X4, by decide, rfl, Or.inr ⟨"WigOffice", (rt_inN 384 (by decide +kernel) rfl)⟩⟩
theorem fl_X1_35 : rt_FL RX1 35 1 0 := ⟨cl_X1, by decide, rfl, Or.inl (rt_inG 448 (by decide +kernel) rfl)⟩
theorem fl_X1_36 : rt_FL RX1 36 4 1 := ⟨cl_X4, by decide, rfl, Or.inr ⟨"WigOffice", (rt_inN 389 (by decide +kernel) rfl)⟩⟩
theorem fl_X1_39 : rt_FL RX1 39 1 1 := ⟨cl_X1, by decide, rfl, Or.inl (rt_inG 449 (by decide +kernel) rfl)⟩
theorem fl_X2_15 : rt_FL RX2 15 2 4 := ⟨cl_X2, by decide, rfl, Or.inl (rt_inG 357 (by decide +kernel) rfl)⟩
theorem fl_X2_18 : rt_FL RX2 18 2 0 := ⟨cl_X2, by decide, rfl, Or.inl (rt_inG 353 (by decide +kernel) rfl)⟩
theorem fl_X2_22 : rt_FL RX2 22 2 1 := ⟨cl_X2, by decide, rfl, Or.inl (rt_inG 354 (by decide +kernel) rfl)⟩
theorem fl_X2_25 : rt_FL RX2 25 2 2 := ⟨cl_X2, by decide, rfl, Or.inl (rt_inG 355 (by decide +kernel) rfl)⟩
theorem fl_X2_28 : rt_FL RX2 28 2 5 := ⟨cl_X2, by decide, rfl, Or.inl (rt_inG 358 (by decide +kernel) rfl)⟩
theorem fl_X2_32 : rt_FL RX2 32 2 6 := ⟨cl_X2, by decide, rfl, Or.inl (rt_inG 359 (by decide +kernel) rfl)⟩
theorem fl_X2_9 : rt_FL RX2 9 2 3 := ⟨cl_X2, by decide, rfl, Or.inl (rt_inG 356 (by decide +kernel) rfl)⟩
theorem fl_X3_104 : rt_FL RX3 104 4 10 := ⟨cl_X4, by decide, rfl, Or.inr ⟨"WigOffice", (rt_inN 410 (by decide +kernel) rfl)⟩⟩
theorem fl_X3_115 : rt_FL RX3 115 4 11 := ⟨cl_X4, by decide, rfl, Or.inr ⟨"WigOffice", (rt_inN 412 (by decide +kernel) rfl)⟩⟩
theorem fl_X3_118 : rt_FL RX3 118 4 0 := ⟨cl_X4, by decide, rfl, Or.inr ⟨"WigOffice", (rt_inN 385 (by decide +kernel) rfl)⟩⟩
theorem fl_X3_125 : rt_FL RX3 125 4 4 := ⟨cl_X4, by decide, rfl, Or.inr ⟨"WigOffice", (rt_inN 397 (by decide +kernel) rfl)⟩⟩
theorem fl_X3_152 : rt_FL RX3 152 4 2 := ⟨cl_X4, by decide, rfl, Or.inr ⟨"WigOffice", (rt_inN 393 (by decide +kernel) rfl)⟩⟩
theorem fl_X3_155 : rt_FL RX3 155 4 1 := ⟨cl_X4, by decide, rfl, Or.inr ⟨"WigOffice", (rt_inN 390 (by decide +kernel) rfl)⟩⟩
theorem fl_X3_158 : rt_FL RX3 158 4 5 := ⟨cl_X4, by decide, rfl, Or.inr ⟨"WigOffice", (rt_inN 399 (by decide +kernel) rfl)⟩⟩
theorem fl_X3_168 : rt_FL RX3 168 4 3 := ⟨cl_X4, by decide, rfl, Or.inr ⟨"WigOffice", (rt_inN 395 (by decide +kernel) rfl)⟩⟩
theorem fl_X3_201 : rt_FL RX3 201 4 7 := ⟨cl_X4, by decide, rfl, Or.inr ⟨"WigOffice", (rt_inN 403 (by decide +kernel) rfl)⟩⟩
theorem fl_X3_204 : rt_FL RX3 204 4 6 := ⟨cl_X4, by decide, rfl, Or.inr ⟨"WigOffice", (rt_inN 401 (by decide +kernel) rfl)⟩⟩
theorem fl_X3_207 : rt_FL RX3 207 4 9 := ⟨cl_X4, by decide, rfl, Or.inr ⟨"WigOffice", (rt_inN 408 (by decide +kernel) rfl)⟩⟩
theorem fl_X3_210 : rt_FL RX3 210 4 8 := ⟨cl_X4, by decide, rfl, Or.inr ⟨"WigOffice", (rt_inN 405 (by decide +kernel) rfl)⟩⟩
theorem fl_X3_213 : rt_FL RX3 213 2 6 := ⟨cl_X2, by decide, rfl, Or.inr ⟨"WigOffice", (rt_inN 361 (by decide +kernel) rfl)⟩⟩
theorem fl_X3_37 : rt_FL RX3 37 3 2 := ⟨cl_X3, by decide, rfl, Or.inl (rt_inG 234 (by decide +kernel) rfl)⟩
theorem fl_X3_41 : rt_FL RX3 41 10 0 := ⟨cl_X10, by decide, rfl, Or.inr ⟨"WigOffice", (rt_inN 274 (by decide +kernel) rfl)⟩⟩
theorem fl_X3_55 : rt_FL RX3 55 3 1 := ⟨cl_X3, by decide, rfl, Or.inl (rt_inG 233 (by decide +kernel) rfl)⟩
theorem fl_X3_58 : rt_FL RX3 58 8 5 := ⟨cl_X8, by decide, rfl, Or.inr ⟨"WigOffice", (rt_inN 209 (by decide +kernel) rfl)⟩⟩
theorem fl_X3_61 : rt_FL RX3 61 8 2 := ⟨cl_X8, by decide, rfl, Or.inr ⟨"WigOffice", (rt_inN 203 (by decide +kernel) rfl)⟩⟩
theorem fl_X3_65 : rt_FL RX3 65 8 4 := ⟨cl_X8, by decide, rfl, Or.inr ⟨"WigOffice", (rt_inN 207 (by decide +kernel) rfl)⟩⟩
theorem fl_X3_69 : rt_FL RX3 69 8 3 := ⟨cl_X8, by decide, rfl, Or.inr ⟨"WigOffice", (rt_inN 205 (by decide +kernel) rfl)⟩⟩
theorem fl_X3_9 : rt_FL RX3 9 3 0 := ⟨cl_X3, by decide, rfl, Or.inl (rt_inG 232 (by decide +kernel) rfl)⟩
theorem fl_X4_113 : rt_FL RX4 113 2 6 := ⟨cl_X2, by decide, rfl, Or.inr ⟨"WigOffice", (rt_inN 360 (by decide +kernel) rfl)⟩⟩
theorem fl_X4_15 : rt_FL RX4 15 4 3 := ⟨cl_X4, by decide, rfl, Or.inl (rt_inG 394 (by decide +kernel) rfl)⟩
theorem fl_X4_20 : rt_FL RX4 20 4 4 := ⟨cl_X4, by decide, rfl, Or.inl (rt_inG 396 (by decide +kernel) rfl)⟩
theorem fl_X4_23 : rt_FL RX4 23 4 5 := ⟨cl_X4, by decide, rfl, Or.inl (rt_inG 398 (by decide +kernel) rfl)⟩
theorem fl_X4_26 : rt_FL RX4 26 4 6 := ⟨cl_X4, by decide, rfl, Or.inl (rt_inG 400 (by decide +kernel) rfl)⟩
theorem fl_X4_30 : rt_FL RX4 30 4 8 := ⟨cl_X4, by decide, rfl, Or.inl (rt_inG 404 (by decide +kernel) rfl)⟩
theorem fl_X4_51 : rt_FL RX4 51 4 10 := ⟨cl_X4, by decide, rfl, Or.inl (rt_inG 409 (by decide +kernel) rfl)⟩
theorem fl_X4_64 : rt_FL RX4 64 4 11 := ⟨cl_X4, by decide, rfl, Or.inl (rt_inG 411 (by decide +kernel) rfl)⟩
theorem fl_X4_67 : rt_FL RX4 67 4 0 := ⟨cl_X4, by decide, rfl, Or.inl (rt_inG 383 (by decide +kernel) rfl)⟩
theorem fl_X4_70 : rt_FL RX4 70 4 1 := ⟨cl_X4, by decide, rfl, Or.inl (rt_inG 388 (by decide +kernel) rfl)⟩
theorem fl_X4_73 : rt_FL RX4 73 4 7 := ⟨cl_X4, by decide, rfl, Or.inl (rt_inG 402 (by decide +kernel) rfl)⟩
theorem fl_X4_76 : rt_FL RX4 76 4 9 := ⟨cl_X4, by decide, rfl, Or.inl (rt_inG 407 (by decide +kernel) rfl)⟩
theorem fl_X4_9 : rt_FL RX4 9 4 2 := ⟨cl_X4, by decide, rfl, Or.inl (rt_inG 392 (by decide +kernel) rfl)⟩
theorem fl_X5_17 : rt_FL RX5 17 5 3 := ⟨cl_X5, by decide, rfl, Or.inl (rt_inG 480 (by decide +kernel) rfl)⟩
theorem fl_X5_20 : rt_FL RX5 20 5 4 := ⟨cl_X5, by decide, rfl, Or.inl (rt_inG 481 (by decide +kernel) rfl)⟩
theorem fl_X5_23 : rt_FL RX5 23 5 5 := ⟨cl_X5, by decide, rfl, Or.inl (rt_inG 482 (by decide +kernel) rfl)⟩
theorem fl_X5_35 : rt_FL RX5 35 5 0 := ⟨cl_X5, by decide, rfl, Or.inl (rt_inG 477 (by decide +kernel) rfl)⟩
theorem fl_X5_39 : rt_FL RX5 39 5 1 := ⟨cl_X5, by decide, rfl, Or.inl (rt_inG 478 (by decide +kernel) rfl)⟩
theorem fl_X5_9 : rt_FL RX5 9 5 2 := ⟨cl_X5, by decide, rfl, Or.inl (rt_inG 479 (by decide +kernel) rfl)⟩
theorem fl_X6_15 : rt_FL RX6 15 6 2 := ⟨cl_X6, by decide, rfl, Or.inl (rt_inG 298 (by decide +kernel) rfl)⟩
theorem fl_X6_18 : rt_FL RX6 18 6 3 := ⟨cl_X6, by decide, rfl, Or.inl (rt_inG 299 (by decide +kernel) rfl)⟩
theorem fl_X6_22 : rt_FL RX6 22 6 0 := ⟨cl_X6, by decide, rfl, Or.inl (rt_inG 294 (by decide +kernel) rfl)⟩
theorem fl_X6_9 : rt_FL RX6 9 6 1 := ⟨cl_X6, by decide, rfl, Or.inl (rt_inG 297 (by decide +kernel) rfl)⟩
theorem fl_X7_15 : rt_FL RX7 15 7 2 := ⟨cl_X7, by decide, rfl, Or.inl (rt_inG 257 (by decide +kernel) rfl)⟩
theorem fl_X7_18 : rt_FL RX7 18 7 0 := ⟨cl_X7, by decide, rfl, Or.inl (rt_inG 254 (by decide +kernel) rfl)⟩
theorem fl_X7_39 : rt_FL RX7 39 4 0 := ⟨cl_X4, by decide, rfl, Or.inr ⟨"WigOffice", (rt_inN 386 (by decide +kernel) rfl)⟩⟩
theorem fl_X7_9 : rt_FL RX7 9 7 1 := ⟨cl_X7, by decide, rfl, Or.inl (rt_inG 256 (by decide +kernel) rfl)⟩
theorem fl_X8_17 : rt_FL RX8 17 8 2 := ⟨cl_X8, by decide, rfl, Or.inl (rt_inG 202 (by decide +kernel) rfl)⟩
theorem fl_X8_21 : rt_FL RX8 21 8 3 := ⟨cl_X8, by decide, rfl, Or.inl (rt_inG 204 (by decide +kernel) rfl)⟩
theorem fl_X8_25 : rt_FL RX8 25 8 4 := ⟨cl_X8, by decide, rfl, Or.inl (rt_inG 206 (by decide +kernel) rfl)⟩
theorem fl_X8_29 : rt_FL RX8 29 8 1 := ⟨cl_X8, by decide, rfl, Or.inl (rt_inG 200 (by decide +kernel) rfl)⟩
theorem fl_X8_35 : rt_FL RX8 35 8 5 := ⟨cl_X8, by decide, rfl, Or.inl (rt_inG 208 (by decide +kernel) rfl)⟩
theorem fl_X8_9 : rt_FL RX8 9 8 0 := ⟨cl_X8, by decide, rfl, Or.inl (rt_inG 199 (by decide +kernel) rfl)⟩
theorem fl_X10_11 : rt_FL RX10 11 10 1 := ⟨cl_X10, by decide, rfl, Or.inl (rt_inG 276 (by decide +kernel) rfl)⟩
theorem fl_X10_17 : rt_FL RX10 17 10 2 := ⟨cl_X10, by decide, rfl, Or.inl (rt_inG 277 (by decide +kernel) rfl)⟩
theorem fl_X10_21 : rt_FL RX10 21 10 3 := ⟨cl_X10, by decide, rfl, Or.inl (rt_inG 278 (by decide +kernel) rfl)⟩
theorem fl_X10_24 : rt_FL RX10 24 10 0 := ⟨cl_X10, by decide, rfl, Or.inl (rt_inG 272 (by decide +kernel) rfl)⟩
theorem fl_X11_10 : rt_FL RX11 10 11 0 := ⟨cl_X11, by decide, rfl, Or.inl (rt_inG 496 (by decide +kernel) rfl)⟩
theorem fl_X11_105 : rt_FL RX11 105 0 1 := ⟨cl_X0, by decide, rfl, Or.inr ⟨"WigOffice", (rt_inN 313 (by decide +kernel) rfl)⟩⟩
theorem fl_X11_126 : rt_FL RX11 126 0 0 := ⟨cl_X0, by decide, rfl, Or.inr ⟨"WigOffice", (rt_inN 311 (by decide +kernel) rfl)⟩⟩
theorem fl_X11_142 : rt_FL RX11 142 7 0 := ⟨cl_X7, by decide, rfl, Or.inr ⟨"WigOffice", (rt_inN 255 (by decide +kernel) rfl)⟩⟩
theorem fl_X11_183 : rt_FL RX11 183 11 6 := ⟨cl_X11, by decide, rfl, Or.inl (rt_inG 502 (by decide +kernel) rfl)⟩
theorem fl_X11_198 : rt_FL RX11 198 10 0 := ⟨cl_X10, by decide, rfl, Or.inr ⟨"WigOffice", (rt_inN 275 (by decide +kernel) rfl)⟩⟩
theorem fl_X11_21 : rt_FL RX11 21 11 1 := ⟨cl_X11, by decide, rfl, Or.inl (rt_inG 497 (by decide +kernel) rfl)⟩
theorem fl_X11_217 : rt_FL RX11 217 4 0 := ⟨cl_X4, by decide, rfl, Or.inr ⟨"WigOffice", (rt_inN 387 (by decide +kernel) rfl)⟩⟩
theorem fl_X11_240 : rt_FL RX11 240 4 1 := ⟨cl_X4, by decide, rfl, Or.inr ⟨"WigOffice", (rt_inN 391 (by decide +kernel) rfl)⟩⟩
theorem fl_X11_253 : rt_FL RX11 253 0 2 := ⟨cl_X0, by decide, rfl, Or.inr ⟨"WigOffice", (rt_inN 315 (by decide +kernel) rfl)⟩⟩
theorem fl_X11_273 : rt_FL RX11 273 4 8 := ⟨cl_X4, by decide, rfl, Or.inr ⟨"WigOffice", (rt_inN 406 (by decide +kernel) rfl)⟩⟩
theorem fl_X11_279 : rt_FL RX11 279 0 3 := ⟨cl_X0, by decide, rfl, Or.inr ⟨"WigOffice", (rt_inN 317 (by decide +kernel) rfl)⟩⟩
theorem fl_X11_28 : rt_FL RX11 28 11 2 := ⟨cl_X11, by decide, rfl, Or.inl (rt_inG 498 (by decide +kernel) rfl)⟩
theorem fl_X11_32 : rt_FL RX11 32 11 3 := ⟨cl_X11, by decide, rfl, Or.inl (rt_inG 499 (by decide +kernel) rfl)⟩
theorem fl_X11_333 : rt_FL RX11 333 11 13 := ⟨cl_X11, by decide, rfl, Or.inl (rt_inG 509 (by decide +kernel) rfl)⟩
theorem fl_X11_363 : rt_FL RX11 363 6 0 := ⟨cl_X6, by decide, rfl, Or.inr ⟨"WigOffice", (rt_inN 296 (by decide +kernel) rfl)⟩⟩
theorem fl_X11_38 : rt_FL RX11 38 11 4 := ⟨cl_X11, by decide, rfl, Or.inl (rt_inG 500 (by decide +kernel) rfl)⟩
theorem fl_X11_45 : rt_FL RX11 45 11 7 := ⟨cl_X11, by decide, rfl, Or.inl (rt_inG 503 (by decide +kernel) rfl)⟩
theorem fl_X11_49 : rt_FL RX11 49 11 8 := ⟨cl_X11, by decide, rfl, Or.inl (rt_inG 504 (by decide +kernel) rfl)⟩
theorem fl_X11_55 : rt_FL RX11 55 11 9 := ⟨cl_X11, by decide, rfl, Or.inl (rt_inG 505 (by decide +kernel) rfl)⟩
theorem fl_X11_60 : rt_FL RX11 60 11 10 := ⟨cl_X11, by decide, rfl, Or.inl (rt_inG 506 (by decide +kernel) rfl)⟩
theorem fl_X11_67 : rt_FL RX11 67 11 11 := ⟨cl_X11, by decide, rfl, Or.inl (rt_inG 507 (by decide +kernel) rfl)⟩
theorem fl_X11_74 : rt_FL RX11 74 11 12 := ⟨cl_X11, by decide, rfl, Or.inl (rt_inG 508 (by decide +kernel) rfl)⟩
theorem fl_X11_82 : rt_FL RX11 82 8 1 := ⟨cl_X8, by decide, rfl, Or.inr ⟨"WigOffice", (rt_inN 201 (by decide +kernel) rfl)⟩⟩
theorem fl_X11_94 : rt_FL RX11 94 11 5 := ⟨cl_X11, by decide, rfl, Or.inl (rt_inG 501 (by decide +kernel) rfl)⟩
theorem fl_X11_97 : rt_FL RX11 97 0 4 := ⟨cl_X0, by decide, rfl, Or.inr ⟨"WigOffice", (rt_inN 318 (by decide +kernel) rfl)⟩⟩
theorem fl_X12_102 : rt_FL RX12 102 12 44 := ⟨cl_X12, by decide, rfl, Or.inl (rt_inG 1351 (by decide +kernel) rfl)⟩
theorem fl_X12_105 : rt_FL RX12 105 12 45 := ⟨cl_X12, by decide, rfl, Or.inl (rt_inG 1352 (by decide +kernel) rfl)⟩
theorem fl_X12_108 : rt_FL RX12 108 12 46 := ⟨cl_X12, by decide, rfl, Or.inl (rt_inG 1353 (by decide +kernel) rfl)⟩
theorem fl_X12_111 : rt_FL RX12 111 12 47 := ⟨cl_X12, by decide, rfl, Or.inl (rt_inG 1354 (by decide +kernel) rfl)⟩
theorem fl_X12_114 : rt_FL RX12 114 12 48 := ⟨cl_X12, by decide, rfl, Or.inl (rt_inG 1355 (by decide +kernel) rfl)⟩
theorem fl_X12_117 : rt_FL RX12 117 12 49 := ⟨cl_X12, by decide, rfl, Or.inl (rt_inG 1356 (by decide +kernel) rfl)⟩
theorem fl_X12_120 : rt_FL RX12 120 12 50 := ⟨cl_X12, by decide, rfl, Or.inl (rt_inG 1357 (by decide +kernel) rfl)⟩
theorem fl_X12_123 : rt_FL RX12 123 12 51 := ⟨cl_X12, by decide, rfl, Or.inl (rt_inG 1358 (by decide +kernel) rfl)⟩
theorem fl_X12_126 : rt_FL RX12 126 12 52 := ⟨cl_X12, by decide, rfl, Or.inl (rt_inG 1359 (by decide +kernel) rfl)⟩
theorem fl_X12_129 : rt_FL RX12 129 12 53 := ⟨cl_X12, by decide, rfl, Or.inl (rt_inG 1360 (by decide +kernel) rfl)⟩
theorem fl_X12_13 : rt_FL RX12 13 12 10 := ⟨cl_X12, by decide, rfl, Or.inl (rt_inG 1317 (by decide +kernel) rfl)⟩
theorem fl_X12_132 : rt_FL RX12 132 12 54 := ⟨cl_X12, by decide, rfl, Or.inl (rt_inG 1361 (by decide +kernel) rfl)⟩
theorem fl_X12_135 : rt_FL RX12 135 12 56 := ⟨cl_X12, by decide, rfl, Or.inl (rt_inG 1363 (by decide +kernel) rfl)⟩
theorem fl_X12_138 : rt_FL RX12 138 12 57 := ⟨cl_X12, by decide, rfl, Or.inl (rt_inG 1364 (by decide +kernel) rfl)⟩
theorem fl_X12_141 : rt_FL RX12 141 12 60 := ⟨cl_X12, by decide, rfl, Or.inl (rt_inG 1367 (by decide +kernel) rfl)⟩
theorem fl_X12_144 : rt_FL RX12 144 12 61 := ⟨cl_X12, by decide, rfl, Or.inl (rt_inG 1368 (by decide +kernel) rfl)⟩
theorem fl_X12_147 : rt_FL RX12 147 12 62 := ⟨cl_X12, by decide, rfl, Or.inl (rt_inG 1369 (by decide +kernel) rfl)⟩
theorem fl_X12_150 : rt_FL RX12 150 12 63 := ⟨cl_X12, by decide, rfl, Or.inl (rt_inG 1370 (by decide +kernel) rfl)⟩
theorem fl_X12_153 : rt_FL RX12 153 12 66 := ⟨cl_X12, by decide, rfl, Or.inl (rt_inG 1373 (by decide +kernel) rfl)⟩
theorem fl_X12_156 : rt_FL RX12 156 12 68 := ⟨cl_X12, by decide, rfl, Or.inl (rt_inG 1375 (by decide +kernel) rfl)⟩
theorem fl_X12_159 : rt_FL RX12 159 12 69 := ⟨cl_X12, by decide, rfl, Or.inl (rt_inG 1376 (by decide +kernel) rfl)⟩
theorem fl_X12_16 : rt_FL RX12 16 12 11 := ⟨cl_X12, by decide, rfl, Or.inl (rt_inG 1318 (by decide +kernel) rfl)⟩
theorem fl_X12_162 : rt_FL RX12 162 12 70 := ⟨cl_X12, by decide, rfl, Or.inl (rt_inG 1377 (by decide +kernel) rfl)⟩
theorem fl_X12_171 : rt_FL RX12 171 12 0 := ⟨cl_X12, by decide, rfl, Or.inl (rt_inG 1307 (by decide +kernel) rfl)⟩
theorem fl_X12_177 : rt_FL RX12 177 12 1 := ⟨cl_X12, by decide, rfl, Or.inl (rt_inG 1308 (by decide +kernel) rfl)⟩
theorem fl_X12_180 : rt_FL RX12 180 12 3 := ⟨cl_X12, by decide, rfl, Or.inl (rt_inG 1310 (by decide +kernel) rfl)⟩
theorem fl_X12_183 : rt_FL RX12 183 12 4 := ⟨cl_X12, by decide, rfl, Or.inl (rt_inG 1311 (by decide +kernel) rfl)⟩
theorem fl_X12_186 : rt_FL RX12 186 12 5 := ⟨cl_X12, by decide, rfl, Or.inl (rt_inG 1312 (by decide +kernel) rfl)⟩
theorem fl_X12_189 : rt_FL RX12 189 12 7 := ⟨cl_X12, by decide, rfl, Or.inl (rt_inG 1314 (by decide +kernel) rfl)⟩
theorem fl_X12_193 : rt_FL RX12 193 12 8 := ⟨cl_X12, by decide, rfl, Or.inl (rt_inG 1315 (by decide +kernel) rfl)⟩
theorem fl_X12_196 : rt_FL RX12 196 12 6 := ⟨cl_X12, by decide, rfl, Or.inl (rt_inG 1313 (by decide +kernel) rfl)⟩
theorem fl_X12_20 : rt_FL RX12 20 12 12 := ⟨cl_X12, by decide, rfl, Or.inl (rt_inG 1319 (by decide +kernel) rfl)⟩
theorem fl_X12_207 : rt_FL RX12 207 12 9 := ⟨cl_X12, by decide, rfl, Or.inl (rt_inG 1316 (by decide +kernel) rfl)⟩
theorem fl_X12_210 : rt_FL RX12 210 12 24 := ⟨cl_X12, by decide, rfl, Or.inl (rt_inG 1331 (by decide +kernel) rfl)⟩
theorem fl_X12_213 : rt_FL RX12 213 12 25 := ⟨cl_X12, by decide, rfl, Or.inl (rt_inG 1332 (by decide +kernel) rfl)⟩
theorem fl_X12_23 : rt_FL RX12 23 12 13 := ⟨cl_X12, by decide, rfl, Or.inl (rt_inG 1320 (by decide +kernel) rfl)⟩
theorem fl_X12_26 : rt_FL RX12 26 12 14 := ⟨cl_X12, by decide, rfl, Or.inl (rt_inG 1321 (by decide +kernel) rfl)⟩
theorem fl_X12_29 : rt_FL RX12 29 12 15 := ⟨cl_X12, by decide, rfl, Or.inl (rt_inG 1322 (by decide +kernel) rfl)⟩
theorem fl_X12_305 : rt_FL RX12 305 12 39 := ⟨cl_X12, by decide, rfl, Or.inl (rt_inG 1346 (by decide +kernel) rfl)⟩
theorem fl_X12_32 : rt_FL RX12 32 12 16 := ⟨cl_X12, by decide, rfl, Or.inl (rt_inG 1323 (by decide +kernel) rfl)⟩
theorem fl_X12_325 : rt_FL RX12 325 12 40 := ⟨cl_X12, by decide, rfl, Or.inl (rt_inG 1347 (by decide +kernel) rfl)⟩
theorem fl_X12_337 : rt_FL RX12 337 12 26 := ⟨cl_X12, by decide, rfl, Or.inl (rt_inG 1333 (by decide +kernel) rfl)⟩
theorem fl_X12_35 : rt_FL RX12 35 12 17 := ⟨cl_X12, by decide, rfl, Or.inl (rt_inG 1324 (by decide +kernel) rfl)⟩
theorem fl_X12_376 : rt_FL RX12 376 12 55 := ⟨cl_X12, by decide, rfl, Or.inl (rt_inG 1362 (by decide +kernel) rfl)⟩
theorem fl_X12_38 : rt_FL RX12 38 12 18 := ⟨cl_X12, by decide, rfl, Or.inl (rt_inG 1325 (by decide +kernel) rfl)⟩
theorem fl_X12_41 : rt_FL RX12 41 12 19 := ⟨cl_X12, by decide, rfl, Or.inl (rt_inG 1326 (by decide +kernel) rfl)⟩
theorem fl_X12_44 : rt_FL RX12 44 12 20 := ⟨cl_X12, by decide, rfl, Or.inl (rt_inG 1327 (by decide +kernel) rfl)⟩
theorem fl_X12_448 : rt_FL RX12 448 12 59 := ⟨cl_X12, by decide, rfl, Or.inl (rt_inG 1366 (by decide +kernel) rfl)⟩
theorem fl_X12_451 : rt_FL RX12 451 12 58 := ⟨cl_X12, by decide, rfl, Or.inl (rt_inG 1365 (by decide +kernel) rfl)⟩
theorem fl_X12_47 : rt_FL RX12 47 12 21 := ⟨cl_X12, by decide, rfl, Or.inl (rt_inG 1328 (by decide +kernel) rfl)⟩
theorem fl_X12_473 : rt_FL RX12 473 12 64 := ⟨cl_X12, by decide, rfl, Or.inl (rt_inG 1371 (by decide +kernel) rfl)⟩
theorem fl_X12_479 : rt_FL RX12 479 12 65 := ⟨cl_X12, by decide, rfl, Or.inl (rt_inG 1372 (by decide +kernel) rfl)⟩
theorem fl_X12_482 : rt_FL RX12 482 12 67 := ⟨cl_X12, by decide, rfl, Or.inl (rt_inG 1374 (by decide +kernel) rfl)⟩
theorem fl_X12_50 : rt_FL RX12 50 12 22 := ⟨cl_X12, by decide, rfl, Or.inl (rt_inG 1329 (by decide +kernel) rfl)⟩
theorem fl_X12_514 : rt_FL RX12 514 12 71 := ⟨cl_X12, by decide, rfl, Or.inl (rt_inG 1378 (by decide +kernel) rfl)⟩
theorem fl_X12_53 : rt_FL RX12 53 12 23 := ⟨cl_X12, by decide, rfl, Or.inl (rt_inG 1330 (by decide +kernel) rfl)⟩
theorem fl_X12_56 : rt_FL RX12 56 12 27 := ⟨cl_X12, by decide, rfl, Or.inl (rt_inG 1334 (by decide +kernel) rfl)⟩
theorem fl_X12_59 : rt_FL RX12 59 12 28 := ⟨cl_X12, by decide, rfl, Or.inl (rt_inG 1335 (by decide +kernel) rfl)⟩
theorem fl_X12_63 : rt_FL RX12 63 12 29 := ⟨cl_X12, by decide, rfl, Or.inl (rt_inG 1336 (by decide +kernel) rfl)⟩
theorem fl_X12_66 : rt_FL RX12 66 12 30 := ⟨cl_X12, by decide, rfl, Or.inl (rt_inG 1337 (by decide +kernel) rfl)⟩
theorem fl_X12_69 : rt_FL RX12 69 12 31 := ⟨cl_X12, by decide, rfl, Or.inl (rt_inG 1338 (by decide +kernel) rfl)⟩
theorem fl_X12_7 : rt_FL RX12 7 12 2 := ⟨cl_X12, by decide, rfl, Or.inl (rt_inG 1309 (by decide +kernel) rfl)⟩
theorem fl_X12_72 : rt_FL RX12 72 12 32 := ⟨cl_X12, by decide, rfl, Or.inl (rt_inG 1339 (by decide +kernel) rfl)⟩
theorem fl_X12_75 : rt_FL RX12 75 12 33 := ⟨cl_X12, by decide, rfl, Or.inl (rt_inG 1340 (by decide +kernel) rfl)⟩
theorem fl_X12_78 : rt_FL RX12 78 12 34 := ⟨cl_X12, by decide, rfl, Or.inl (rt_inG 1341 (by decide +kernel) rfl)⟩
theorem fl_X12_81 : rt_FL RX12 81 12 35 := ⟨cl_X12, by decide, rfl, Or.inl (rt_inG 1342 (by decide +kernel) rfl)⟩
theorem fl_X12_84 : rt_FL RX12 84 12 36 := ⟨cl_X12, by decide, rfl, Or.inl (rt_inG 1343 (by decide +kernel) rfl)⟩
theorem fl_X12_87 : rt_FL RX12 87 12 37 := ⟨cl_X12, by decide, rfl, Or.inl (rt_inG 1344 (by decide +kernel) rfl)⟩
theorem fl_X12_90 : rt_FL RX12 90 12 38 := ⟨cl_X12, by decide, rfl, Or.inl (rt_inG 1345 (by decide +kernel) rfl)⟩
theorem fl_X12_93 : rt_FL RX12 93 12 41 := ⟨cl_X12, by decide, rfl, Or.inl (rt_inG 1348 (by decide +kernel) rfl)⟩
theorem fl_X12_96 : rt_FL RX12 96 12 42 := ⟨cl_X12, by decide, rfl, Or.inl (rt_inG 1349 (by decide +kernel) rfl)⟩
theorem fl_X12_99 : rt_FL RX12 99 12 43 := ⟨cl_X12, by decide, rfl, Or.inl (rt_inG 1350 (by decide +kernel) rfl)⟩
theorem ki_J6_265 : Cond.constant RJ6 265 (Int32.ofInt (1431655765)) ∈ rt_mG := (rt_inG 1061 (by decide +kernel) rfl)
theorem ki_J6_266 : Cond.constant RJ6 266 (Int32.ofInt (858993459)) ∈ rt_mG := (rt_inG 1062 (by decide +kernel) rfl)
theorem ki_J6_267 : Cond.constant RJ6 267 (Int32.ofInt (252645135)) ∈ rt_mG := (rt_inG 1063 (by decide +kernel) rfl)
theorem kl_X8_33 : Cond.constantLong RX8 33 (Int64.ofInt (255)) ∈ rt_mG := (rt_inG 547 (by decide +kernel) rfl)
theorem kl_X8_63 : Cond.constantLong RX8 63 (Int64.ofInt (10)) ∈ rt_mG := (rt_inG 584 (by decide +kernel) rfl)
theorem kl_X11_349 : Cond.constantLong RX11 349 (Int64.ofInt (1103515245)) ∈ rt_mG := (rt_inG 1164 (by decide +kernel) rfl)
theorem kl_X11_351 : Cond.constantLong RX11 351 (Int64.ofInt (12345)) ∈ rt_mG := (rt_inG 1165 (by decide +kernel) rfl)
theorem kl_X11_353 : Cond.constantLong RX11 353 (Int64.ofInt (2147483648)) ∈ rt_mG := (rt_inG 1166 (by decide +kernel) rfl)
theorem kl_X11_355 : Cond.constantLong RX11 355 (Int64.ofInt (65536)) ∈ rt_mG := (rt_inG 1167 (by decide +kernel) rfl)
theorem kl_X12_175 : Cond.constantLong RX12 175 (Int64.ofInt (255)) ∈ rt_mG := (rt_inG 1532 (by decide +kernel) rfl)
theorem kl_X12_203 : Cond.constantLong RX12 203 (Int64.ofInt (27)) ∈ rt_mG := (rt_inG 1553 (by decide +kernel) rfl)
theorem kl_X12_205 : Cond.constantLong RX12 205 (Int64.ofInt (96)) ∈ rt_mG := (rt_inG 1554 (by decide +kernel) rfl)
theorem kl_X12_216 : Cond.constantLong RX12 216 (Int64.ofInt (161156)) ∈ rt_mG := (rt_inG 1651 (by decide +kernel) rfl)
theorem kl_X12_218 : Cond.constantLong RX12 218 (Int64.ofInt (13385674)) ∈ rt_mG := (rt_inG 1652 (by decide +kernel) rfl)
theorem kl_X12_220 : Cond.constantLong RX12 220 (Int64.ofInt (385418)) ∈ rt_mG := (rt_inG 1653 (by decide +kernel) rfl)
theorem kl_X12_222 : Cond.constantLong RX12 222 (Int64.ofInt (334950853)) ∈ rt_mG := (rt_inG 1654 (by decide +kernel) rfl)
theorem kl_X12_224 : Cond.constantLong RX12 224 (Int64.ofInt (117471199)) ∈ rt_mG := (rt_inG 1655 (by decide +kernel) rfl)
theorem kl_X12_226 : Cond.constantLong RX12 226 (Int64.ofInt (158683)) ∈ rt_mG := (rt_inG 1656 (by decide +kernel) rfl)
theorem kl_X12_232 : Cond.constantLong RX12 232 (Int64.ofInt (10631)) ∈ rt_mG := (rt_inG 1593 (by decide +kernel) rfl)
theorem kl_X12_252 : Cond.constantLong RX12 252 (Int64.ofInt (1111)) ∈ rt_mG := (rt_inG 1594 (by decide +kernel) rfl)
theorem kl_X12_254 : Cond.constantLong RX12 254 (Int64.ofInt (423)) ∈ rt_mG := (rt_inG 1595 (by decide +kernel) rfl)
theorem kl_X12_265 : Cond.constantLong RX12 265 (Int64.ofInt (17017)) ∈ rt_mG := (rt_inG 1555 (by decide +kernel) rfl)
theorem kl_X12_267 : Cond.constantLong RX12 267 (Int64.ofInt (381245)) ∈ rt_mG := (rt_inG 1576 (by decide +kernel) rfl)
theorem kl_X12_269 : Cond.constantLong RX12 269 (Int64.ofInt (218546996)) ∈ rt_mG := (rt_inG 1577 (by decide +kernel) rfl)
theorem kl_X12_271 : Cond.constantLong RX12 271 (Int64.ofInt (239882)) ∈ rt_mG := (rt_inG 1578 (by decide +kernel) rfl)
theorem kl_X12_273 : Cond.constantLong RX12 273 (Int64.ofInt (161140)) ∈ rt_mG := (rt_inG 1579 (by decide +kernel) rfl)
theorem kl_X12_275 : Cond.constantLong RX12 275 (Int64.ofInt (24925)) ∈ rt_mG := (rt_inG 1580 (by decide +kernel) rfl)
theorem kl_X12_277 : Cond.constantLong RX12 277 (Int64.ofInt (4351231)) ∈ rt_mG := (rt_inG 1581 (by decide +kernel) rfl)
theorem kl_X12_279 : Cond.constantLong RX12 279 (Int64.ofInt (10334396)) ∈ rt_mG := (rt_inG 1582 (by decide +kernel) rfl)
theorem kl_X12_281 : Cond.constantLong RX12 281 (Int64.ofInt (284959882)) ∈ rt_mG := (rt_inG 1583 (by decide +kernel) rfl)
theorem kl_X12_283 : Cond.constantLong RX12 283 (Int64.ofInt (154733320)) ∈ rt_mG := (rt_inG 1584 (by decide +kernel) rfl)
theorem kl_X12_285 : Cond.constantLong RX12 285 (Int64.ofInt (12251)) ∈ rt_mG := (rt_inG 1585 (by decide +kernel) rfl)
theorem kl_X12_287 : Cond.constantLong RX12 287 (Int64.ofInt (11103)) ∈ rt_mG := (rt_inG 1586 (by decide +kernel) rfl)
theorem kl_X12_289 : Cond.constantLong RX12 289 (Int64.ofInt (259906)) ∈ rt_mG := (rt_inG 1587 (by decide +kernel) rfl)
theorem kl_X12_291 : Cond.constantLong RX12 291 (Int64.ofInt (275320391)) ∈ rt_mG := (rt_inG 1588 (by decide +kernel) rfl)
theorem kl_X12_293 : Cond.constantLong RX12 293 (Int64.ofInt (8740238)) ∈ rt_mG := (rt_inG 1589 (by decide +kernel) rfl)
theorem kl_X12_295 : Cond.constantLong RX12 295 (Int64.ofInt (6257)) ∈ rt_mG := (rt_inG 1590 (by decide +kernel) rfl)
theorem kl_X12_297 : Cond.constantLong RX12 297 (Int64.ofInt (40423)) ∈ rt_mG := (rt_inG 1591 (by decide +kernel) rfl)
theorem kl_X12_299 : Cond.constantLong RX12 299 (Int64.ofInt (1888)) ∈ rt_mG := (rt_inG 1592 (by decide +kernel) rfl)
theorem kl_X12_512 : Cond.constantLong RX12 512 (Int64.ofInt (1000000)) ∈ rt_mG := (rt_inG 1917 (by decide +kernel) rfl)
theorem kl_X12_517 : Cond.constantLong RX12 517 (Int64.ofInt (1103515245)) ∈ rt_mG := (rt_inG 1930 (by decide +kernel) rfl)
theorem kl_X12_519 : Cond.constantLong RX12 519 (Int64.ofInt (12345)) ∈ rt_mG := (rt_inG 1931 (by decide +kernel) rfl)
theorem kl_X12_521 : Cond.constantLong RX12 521 (Int64.ofInt (2147483648)) ∈ rt_mG := (rt_inG 1932 (by decide +kernel) rfl)
theorem kl_X12_523 : Cond.constantLong RX12 523 (Int64.ofInt (65536)) ∈ rt_mG := (rt_inG 1933 (by decide +kernel) rfl)
theorem ml_X0_36 : rt_Ml RX0 36 M_X7_clear := Or.inr ⟨"WigOffice", (rt_inN 759 (by decide +kernel) rfl)⟩
theorem ml_X0_44 : rt_Ml RX0 44 M_X0_forgetTilts := Or.inl (rt_inG 763 (by decide +kernel) rfl)
theorem ml_X0_47 : rt_Ml RX0 47 M_X7_copy := Or.inr ⟨"WigOffice", (rt_inN 1184 (by decide +kernel) rfl)⟩
theorem ml_X0_51 : rt_Ml RX0 51 M_X10_copy := Or.inr ⟨"WigOffice", (rt_inN 1185 (by decide +kernel) rfl)⟩
theorem ml_X0_54 : rt_Ml RX0 54 M_X6_copy := Or.inr ⟨"WigOffice", (rt_inN 1186 (by decide +kernel) rfl)⟩
theorem ml_X1_40 : rt_Ml RX1 40 M_X4_girth := Or.inr ⟨"WigOffice", (rt_inN 1097 (by decide +kernel) rfl)⟩
theorem ml_X1_44 : rt_Ml RX1 44 M_X4_sizeOfWig := Or.inr ⟨"WigOffice", (rt_inN 1098 (by decide +kernel) rfl)⟩
theorem ml_X1_48 : rt_Ml RX1 48 M_X4_isTilt := Or.inr ⟨"WigOffice", (rt_inN 1099 (by decide +kernel) rfl)⟩
theorem ml_X1_52 : rt_Ml RX1 52 M_X1_layUnder := Or.inl (rt_inG 1104 (by decide +kernel) rfl)
theorem ml_X1_56 : rt_Ml RX1 56 M_X1_tiltOf := Or.inl (rt_inG 1124 (by decide +kernel) rfl)
theorem ml_X1_59 : rt_Ml RX1 59 M_X1_waysWithout := Or.inl (rt_inG 1125 (by decide +kernel) rfl)
theorem ml_X1_62 : rt_Ml RX1 62 M_J9_max_7cf53 := Or.inl (rt_inG 1126 (by decide +kernel) rfl)
theorem ml_X1_67 : rt_Ml RX1 67 M_X1_wigKeeping := Or.inl (rt_inG 1143 (by decide +kernel) rfl)
theorem ml_X1_70 : rt_Ml RX1 70 M_X1_askNext := Or.inl (rt_inG 1147 (by decide +kernel) rfl)
theorem ml_X1_74 : rt_Ml RX1 74 M_X4_officeOf := Or.inr ⟨"WigOffice", (rt_inN 1151 (by decide +kernel) rfl)⟩
theorem ml_X2_36 : rt_Ml RX2 36 M_X2_joined := Or.inl (rt_inG 861 (by decide +kernel) rfl)
theorem ml_X3_108 : rt_Ml RX3 108 M_X3_lawLine := Or.inl (rt_inG 697 (by decide +kernel) rfl)
theorem ml_X3_121 : rt_Ml RX3 121 M_X3_value := Or.inl (rt_inG 623 (by decide +kernel) rfl)
theorem ml_X3_129 : rt_Ml RX3 129 M_X3_newName := Or.inl (rt_inG 627 (by decide +kernel) rfl)
theorem ml_X3_135 : rt_Ml RX3 135 M_X3_fact := Or.inl (rt_inG 644 (by decide +kernel) rfl)
theorem ml_X3_148 : rt_Ml RX3 148 M_X3_take := Or.inl (rt_inG 648 (by decide +kernel) rfl)
theorem ml_X3_15 : rt_Ml RX3 15 M_X3_start := Or.inl (rt_inG 556 (by decide +kernel) rfl)
theorem ml_X3_161 : rt_Ml RX3 161 M_X3_headKind := Or.inl (rt_inG 669 (by decide +kernel) rfl)
theorem ml_X3_175 : rt_Ml RX3 175 M_X4_wigNamed := Or.inr ⟨"WigOffice", (rt_inN 631 (by decide +kernel) rfl)⟩
theorem ml_X3_179 : rt_Ml RX3 179 M_X4_headNamed := Or.inr ⟨"WigOffice", (rt_inN 638 (by decide +kernel) rfl)⟩
theorem ml_X3_18 : rt_Ml RX3 18 M_X4_clear := Or.inr ⟨"WigOffice", (rt_inN 596 (by decide +kernel) rfl)⟩
theorem ml_X3_194 : rt_Ml RX3 194 M_X3_isNumber := Or.inl (rt_inG 652 (by decide +kernel) rfl)
theorem ml_X3_218 : rt_Ml RX3 218 M_X3_chain := Or.inl (rt_inG 701 (by decide +kernel) rfl)
theorem ml_X3_222 : rt_Ml RX3 222 M_X3_link := Or.inl (rt_inG 705 (by decide +kernel) rfl)
theorem ml_X3_225 : rt_Ml RX3 225 M_X3_jointOf := Or.inl (rt_inG 735 (by decide +kernel) rfl)
theorem ml_X3_229 : rt_Ml RX3 229 M_X2_add := Or.inr ⟨"WigOffice", (rt_inN 717 (by decide +kernel) rfl)⟩
theorem ml_X3_23 : rt_Ml RX3 23 M_X3_kind := Or.inl (rt_inG 604 (by decide +kernel) rfl)
theorem ml_X3_233 : rt_Ml RX3 233 M_X3_test := Or.inl (rt_inG 709 (by decide +kernel) rfl)
theorem ml_X3_237 : rt_Ml RX3 237 M_X3_part := Or.inl (rt_inG 721 (by decide +kernel) rfl)
theorem ml_X3_261 : rt_Ml RX3 261 M_X2_factOf := Or.inr ⟨"WigOffice", (rt_inN 725 (by decide +kernel) rfl)⟩
theorem ml_X3_286 : rt_Ml RX3 286 M_X3_oldName := Or.inl (rt_inG 787 (by decide +kernel) rfl)
theorem ml_X3_289 : rt_Ml RX3 289 M_X10_add := Or.inr ⟨"WigOffice", (rt_inN 791 (by decide +kernel) rfl)⟩
theorem ml_X3_33 : rt_Ml RX3 33 M_X3_realmLine := Or.inl (rt_inG 609 (by decide +kernel) rfl)
theorem ml_X3_46 : rt_Ml RX3 46 M_X3_yearsLine := Or.inl (rt_inG 775 (by decide +kernel) rfl)
theorem ml_X3_50 : rt_Ml RX3 50 M_X8_split := Or.inr ⟨"WigOffice", (rt_inN 560 (by decide +kernel) rfl)⟩
theorem ml_X3_73 : rt_Ml RX3 73 M_X3_fail := Or.inl (rt_inG 619 (by decide +kernel) rfl)
theorem ml_X3_80 : rt_Ml RX3 80 M_X3_wigLine := Or.inl (rt_inG 615 (by decide +kernel) rfl)
theorem ml_X3_86 : rt_Ml RX3 86 M_X3_headLine := Or.inl (rt_inG 665 (by decide +kernel) rfl)
theorem ml_X3_92 : rt_Ml RX3 92 M_X3_heatsLine := Or.inl (rt_inG 685 (by decide +kernel) rfl)
theorem ml_X3_98 : rt_Ml RX3 98 M_X3_slackLine := Or.inl (rt_inG 691 (by decide +kernel) rfl)
theorem ml_X4_102 : rt_Ml RX4 102 M_J9_floorMod_7cf53 := Or.inl (rt_inG 854 (by decide +kernel) rfl)
theorem ml_X4_107 : rt_Ml RX4 107 M_X4_ofHead := Or.inl (rt_inG 849 (by decide +kernel) rfl)
theorem ml_X4_110 : rt_Ml RX4 110 M_X4_heatOf := Or.inl (rt_inG 850 (by decide +kernel) rfl)
theorem ml_X4_116 : rt_Ml RX4 116 M_X2_worth := Or.inr ⟨"WigOffice", (rt_inN 857 (by decide +kernel) rfl)⟩
theorem ml_X4_120 : rt_Ml RX4 120 M_J9_min_7cf53 := Or.inl (rt_inG 864 (by decide +kernel) rfl)
theorem ml_X4_123 : rt_Ml RX4 123 M_J9_max_7cf53 := Or.inl (rt_inG 867 (by decide +kernel) rfl)
theorem ml_X4_126 : rt_Ml RX4 126 M_X4_sizeOfWig := Or.inl (rt_inG 882 (by decide +kernel) rfl)
theorem ml_X4_129 : rt_Ml RX4 129 M_X4_girth := Or.inl (rt_inG 883 (by decide +kernel) rfl)
theorem ml_X4_132 : rt_Ml RX4 132 M_X4_isTilt := Or.inl (rt_inG 884 (by decide +kernel) rfl)
theorem ml_X4_80 : rt_Ml RX4 80 M_X2_clear := Or.inr ⟨"WigOffice", (rt_inN 600 (by decide +kernel) rfl)⟩
theorem ml_X4_83 : rt_Ml RX4 83 M_X4_placeOf := Or.inl (rt_inG 635 (by decide +kernel) rfl)
theorem ml_X4_87 : rt_Ml RX4 87 M_X4_isWig := Or.inl (rt_inG 815 (by decide +kernel) rfl)
theorem ml_X4_91 : rt_Ml RX4 91 M_X4_isHead := Or.inl (rt_inG 844 (by decide +kernel) rfl)
theorem ml_X4_94 : rt_Ml RX4 94 M_X4_ofWig := Or.inl (rt_inG 811 (by decide +kernel) rfl)
theorem ml_X4_98 : rt_Ml RX4 98 M_X4_officeOf := Or.inl (rt_inG 975 (by decide +kernel) rfl)
theorem ml_X5_26 : rt_Ml RX5 26 M_J9_min_7cf53 := Or.inl (rt_inG 1003 (by decide +kernel) rfl)
theorem ml_X5_32 : rt_Ml RX5 32 M_J9_max_7cf53 := Or.inl (rt_inG 1004 (by decide +kernel) rfl)
theorem ml_X5_43 : rt_Ml RX5 43 M_X5_through := Or.inl (rt_inG 1029 (by decide +kernel) rfl)
theorem ml_X5_47 : rt_Ml RX5 47 M_X5_keepFirstRow := Or.inl (rt_inG 1033 (by decide +kernel) rfl)
theorem ml_X6_26 : rt_Ml RX6 26 M_X4_isFor := Or.inr ⟨"WigOffice", (rt_inN 1057 (by decide +kernel) rfl)⟩
theorem ml_X7_22 : rt_Ml RX7 22 M_X4_isWig := Or.inr ⟨"WigOffice", (rt_inN 896 (by decide +kernel) rfl)⟩
theorem ml_X7_28 : rt_Ml RX7 28 M_X4_isHead := Or.inr ⟨"WigOffice", (rt_inN 897 (by decide +kernel) rfl)⟩
theorem ml_X7_31 : rt_Ml RX7 31 M_X7_wigUpon := Or.inl (rt_inG 898 (by decide +kernel) rfl)
theorem ml_X7_35 : rt_Ml RX7 35 M_X4_isFit := Or.inr ⟨"WigOffice", (rt_inN 899 (by decide +kernel) rfl)⟩
theorem ml_X7_42 : rt_Ml RX7 42 M_J9_min_7cf53 := Or.inl (rt_inG 943 (by decide +kernel) rfl)
theorem ml_X8_38 : rt_Ml RX8 38 M_X8_endOf := Or.inl (rt_inG 564 (by decide +kernel) rfl)
theorem ml_X8_42 : rt_Ml RX8 42 M_X8_addToken := Or.inl (rt_inG 574 (by decide +kernel) rfl)
theorem ml_X8_50 : rt_Ml RX8 50 M_X8_addToken_ := Or.inl (rt_inG 580 (by decide +kernel) rfl)
theorem ml_X8_53 : rt_Ml RX8 53 M_X8_isLetter := Or.inl (rt_inG 568 (by decide +kernel) rfl)
theorem ml_X8_57 : rt_Ml RX8 57 M_X8_isDigit := Or.inl (rt_inG 571 (by decide +kernel) rfl)
theorem ml_X8_71 : rt_Ml RX8 71 M_X9_spelled := Or.inr ⟨"WigOffice", (rt_inN 589 (by decide +kernel) rfl)⟩
theorem ml_X10_32 : rt_Ml RX10 32 M_X7_pass := Or.inr ⟨"WigOffice", (rt_inN 958 (by decide +kernel) rfl)⟩
theorem ml_X10_41 : rt_Ml RX10 41 M_X7_canPut := Or.inr ⟨"WigOffice", (rt_inN 960 (by decide +kernel) rfl)⟩
theorem ml_X10_45 : rt_Ml RX10 45 M_X7_place := Or.inr ⟨"WigOffice", (rt_inN 961 (by decide +kernel) rfl)⟩
theorem ml_X10_52 : rt_Ml RX10 52 M_X7_canTakeOff := Or.inr ⟨"WigOffice", (rt_inN 963 (by decide +kernel) rfl)⟩
theorem ml_X10_59 : rt_Ml RX10 59 M_X7_canMend := Or.inr ⟨"WigOffice", (rt_inN 965 (by decide +kernel) rfl)⟩
theorem ml_X10_62 : rt_Ml RX10 62 M_X7_makeNew := Or.inr ⟨"WigOffice", (rt_inN 966 (by decide +kernel) rfl)⟩
theorem ml_X11_101 : rt_Ml RX11 101 M_X3_readYears := Or.inr ⟨"WigOffice", (rt_inN 771 (by decide +kernel) rfl)⟩
theorem ml_X11_108 : rt_Ml RX11 108 M_X10_copy := Or.inr ⟨"WigOffice", (rt_inN 795 (by decide +kernel) rfl)⟩
theorem ml_X11_112 : rt_Ml RX11 112 M_X4_isWig := Or.inr ⟨"WigOffice", (rt_inN 803 (by decide +kernel) rfl)⟩
theorem ml_X11_116 : rt_Ml RX11 116 M_X4_sizeOfWig := Or.inr ⟨"WigOffice", (rt_inN 807 (by decide +kernel) rfl)⟩
theorem ml_X11_120 : rt_Ml RX11 120 M_X4_officeOf := Or.inr ⟨"WigOffice", (rt_inN 816 (by decide +kernel) rfl)⟩
theorem ml_X11_123 : rt_Ml RX11 123 M_X4_leanOfWig := Or.inr ⟨"WigOffice", (rt_inN 820 (by decide +kernel) rfl)⟩
theorem ml_X11_129 : rt_Ml RX11 129 M_X7_headUnder := Or.inr ⟨"WigOffice", (rt_inN 824 (by decide +kernel) rfl)⟩
theorem ml_X11_132 : rt_Ml RX11 132 M_X7_wearOf := Or.inr ⟨"WigOffice", (rt_inN 828 (by decide +kernel) rfl)⟩
theorem ml_X11_135 : rt_Ml RX11 135 M_X4_isHead := Or.inr ⟨"WigOffice", (rt_inN 836 (by decide +kernel) rfl)⟩
theorem ml_X11_138 : rt_Ml RX11 138 M_X4_ofHead := Or.inr ⟨"WigOffice", (rt_inN 840 (by decide +kernel) rfl)⟩
theorem ml_X11_145 : rt_Ml RX11 145 M_X4_girth := Or.inr ⟨"WigOffice", (rt_inN 845 (by decide +kernel) rfl)⟩
theorem ml_X11_148 : rt_Ml RX11 148 M_X7_wigUpon := Or.inr ⟨"WigOffice", (rt_inN 870 (by decide +kernel) rfl)⟩
theorem ml_X11_151 : rt_Ml RX11 151 M_X4_isFit := Or.inr ⟨"WigOffice", (rt_inN 878 (by decide +kernel) rfl)⟩
theorem ml_X11_155 : rt_Ml RX11 155 M_X7_canPut := Or.inr ⟨"WigOffice", (rt_inN 892 (by decide +kernel) rfl)⟩
theorem ml_X11_159 : rt_Ml RX11 159 M_X11_remember := Or.inl (rt_inG 900 (by decide +kernel) rfl)
theorem ml_X11_162 : rt_Ml RX11 162 M_X7_place := Or.inr ⟨"WigOffice", (rt_inN 910 (by decide +kernel) rfl)⟩
theorem ml_X11_166 : rt_Ml RX11 166 M_X7_canTakeOff := Or.inr ⟨"WigOffice", (rt_inN 918 (by decide +kernel) rfl)⟩
theorem ml_X11_170 : rt_Ml RX11 170 M_X7_canMend := Or.inr ⟨"WigOffice", (rt_inN 926 (by decide +kernel) rfl)⟩
theorem ml_X11_173 : rt_Ml RX11 173 M_X7_makeNew := Or.inr ⟨"WigOffice", (rt_inN 930 (by decide +kernel) rfl)⟩
theorem ml_X11_177 : rt_Ml RX11 177 M_X0_forgetTilts := Or.inr ⟨"WigOffice", (rt_inN 938 (by decide +kernel) rfl)⟩
theorem ml_X11_180 : rt_Ml RX11 180 M_X7_pass := Or.inr ⟨"WigOffice", (rt_inN 939 (by decide +kernel) rfl)⟩
theorem ml_X11_186 : rt_Ml RX11 186 M_J9_floorMod_7cf53 := Or.inl (rt_inG 908 (by decide +kernel) rfl)
theorem ml_X11_191 : rt_Ml RX11 191 M_X7_copy := Or.inr ⟨"WigOffice", (rt_inN 904 (by decide +kernel) rfl)⟩
theorem ml_X11_194 : rt_Ml RX11 194 M_J9_min_7cf53 := Or.inl (rt_inG 909 (by decide +kernel) rfl)
theorem ml_X11_197 : rt_Ml RX11 197 M_X7_clear := Or.inr ⟨"WigOffice", (rt_inN 952 (by decide +kernel) rfl)⟩
theorem ml_X11_201 : rt_Ml RX11 201 M_X10_play := Or.inr ⟨"WigOffice", (rt_inN 953 (by decide +kernel) rfl)⟩
theorem ml_X11_205 : rt_Ml RX11 205 M_X7_worn := Or.inr ⟨"WigOffice", (rt_inN 967 (by decide +kernel) rfl)⟩
theorem ml_X11_208 : rt_Ml RX11 208 M_X4_officeOfAll := Or.inr ⟨"WigOffice", (rt_inN 971 (by decide +kernel) rfl)⟩
theorem ml_X11_211 : rt_Ml RX11 211 M_X11_isHardness := Or.inl (rt_inG 980 (by decide +kernel) rfl)
theorem ml_X11_214 : rt_Ml RX11 214 M_X11_wigsFor := Or.inl (rt_inG 983 (by decide +kernel) rfl)
theorem ml_X11_220 : rt_Ml RX11 220 M_X4_isFor := Or.inr ⟨"WigOffice", (rt_inN 987 (by decide +kernel) rfl)⟩
theorem ml_X11_223 : rt_Ml RX11 223 M_X5_begin := Or.inr ⟨"WigOffice", (rt_inN 999 (by decide +kernel) rfl)⟩
theorem ml_X11_227 : rt_Ml RX11 227 M_X7_wornOut := Or.inr ⟨"WigOffice", (rt_inN 1005 (by decide +kernel) rfl)⟩
theorem ml_X11_230 : rt_Ml RX11 230 M_X11_openHeads := Or.inl (rt_inG 1009 (by decide +kernel) rfl)
theorem ml_X11_233 : rt_Ml RX11 233 M_X5_solve := Or.inr ⟨"WigOffice", (rt_inN 1025 (by decide +kernel) rfl)⟩
theorem ml_X11_237 : rt_Ml RX11 237 M_X5_chosen := Or.inr ⟨"WigOffice", (rt_inN 1037 (by decide +kernel) rfl)⟩
theorem ml_X11_243 : rt_Ml RX11 243 M_X11_isFitThrough := Or.inl (rt_inG 1013 (by decide +kernel) rfl)
theorem ml_X11_246 : rt_Ml RX11 246 M_X5_open := Or.inr ⟨"WigOffice", (rt_inN 1017 (by decide +kernel) rfl)⟩
theorem ml_X11_249 : rt_Ml RX11 249 M_X5_gains := Or.inr ⟨"WigOffice", (rt_inN 1021 (by decide +kernel) rfl)⟩
theorem ml_X11_257 : rt_Ml RX11 257 M_X6_add := Or.inr ⟨"WigOffice", (rt_inN 1045 (by decide +kernel) rfl)⟩
theorem ml_X11_262 : rt_Ml RX11 262 M_X6_possible := Or.inr ⟨"WigOffice", (rt_inN 1053 (by decide +kernel) rfl)⟩
theorem ml_X11_265 : rt_Ml RX11 265 M_J6_bitCount_0f7a4 := Or.inl (rt_inG 1058 (by decide +kernel) rfl)
theorem ml_X11_270 : rt_Ml RX11 270 M_J9_max_7cf53 := Or.inl (rt_inG 1068 (by decide +kernel) rfl)
theorem ml_X11_276 : rt_Ml RX11 276 M_X11_openStands := Or.inl (rt_inG 1081 (by decide +kernel) rfl)
theorem ml_X11_283 : rt_Ml RX11 283 M_X1_measure := Or.inr ⟨"WigOffice", (rt_inN 1093 (by decide +kernel) rfl)⟩
theorem ml_X11_287 : rt_Ml RX11 287 M_X1_layWays := Or.inr ⟨"WigOffice", (rt_inN 1100 (by decide +kernel) rfl)⟩
theorem ml_X11_291 : rt_Ml RX11 291 M_X1_waysWithout := Or.inr ⟨"WigOffice", (rt_inN 1108 (by decide +kernel) rfl)⟩
theorem ml_X11_294 : rt_Ml RX11 294 M_X1_tiltOf := Or.inr ⟨"WigOffice", (rt_inN 1112 (by decide +kernel) rfl)⟩
theorem ml_X11_297 : rt_Ml RX11 297 M_X1_greatestLikeWays := Or.inr ⟨"WigOffice", (rt_inN 1120 (by decide +kernel) rfl)⟩
theorem ml_X11_300 : rt_Ml RX11 300 M_X1_allWays := Or.inr ⟨"WigOffice", (rt_inN 1127 (by decide +kernel) rfl)⟩
theorem ml_X11_303 : rt_Ml RX11 303 M_X1_matched := Or.inr ⟨"WigOffice", (rt_inN 1139 (by decide +kernel) rfl)⟩
theorem ml_X11_320 : rt_Ml RX11 320 M_X11_gainOf := Or.inl (rt_inG 1276 (by decide +kernel) rfl)
theorem ml_X11_337 : rt_Ml RX11 337 M_X11_drawPut := Or.inl (rt_inG 1156 (by decide +kernel) rfl)
theorem ml_X11_340 : rt_Ml RX11 340 M_X11_drawFever := Or.inl (rt_inG 1168 (by decide +kernel) rfl)
theorem ml_X11_343 : rt_Ml RX11 343 M_X7_wearOfAll := Or.inr ⟨"WigOffice", (rt_inN 1172 (by decide +kernel) rfl)⟩
theorem ml_X11_346 : rt_Ml RX11 346 M_X11_draw := Or.inl (rt_inG 1160 (by decide +kernel) rfl)
theorem ml_X11_357 : rt_Ml RX11 357 M_X0_copy := Or.inr ⟨"WigOffice", (rt_inN 1180 (by decide +kernel) rfl)⟩
theorem ml_X11_360 : rt_Ml RX11 360 M_X4_heatOf := Or.inr ⟨"WigOffice", (rt_inN 1194 (by decide +kernel) rfl)⟩
theorem ml_X11_364 : rt_Ml RX11 364 M_X0_tiltsTold := Or.inr ⟨"WigOffice", (rt_inN 1195 (by decide +kernel) rfl)⟩
theorem ml_X11_78 : rt_Ml RX11 78 M_X8_add := Or.inr ⟨"WigOffice", (rt_inN 543 (by decide +kernel) rfl)⟩
theorem ml_X11_86 : rt_Ml RX11 86 M_X3_readRealm := Or.inr ⟨"WigOffice", (rt_inN 552 (by decide +kernel) rfl)⟩
theorem ml_X11_90 : rt_Ml RX11 90 M_X8_clear := Or.inr ⟨"WigOffice", (rt_inN 751 (by decide +kernel) rfl)⟩
theorem ml_X11_93 : rt_Ml RX11 93 M_X0_clear := Or.inr ⟨"WigOffice", (rt_inN 755 (by decide +kernel) rfl)⟩
theorem ml_X12_165 : rt_Ml RX12 165 M_X12_fresh := Or.inl (rt_inG 1299 (by decide +kernel) rfl)
theorem ml_X12_168 : rt_Ml RX12 168 M_X12_forgets := Or.inl (rt_inG 1303 (by decide +kernel) rfl)
theorem ml_X12_199 : rt_Ml RX12 199 M_X12_signAt := Or.inl (rt_inG 1549 (by decide +kernel) rfl)
theorem ml_X12_228 : rt_Ml RX12 228 M_X12_fact := Or.inl (rt_inG 1647 (by decide +kernel) rfl)
theorem ml_X12_234 : rt_Ml RX12 234 M_X12_isWord := Or.inl (rt_inG 1556 (by decide +kernel) rfl)
theorem ml_X12_238 : rt_Ml RX12 238 M_X12_isSign := Or.inl (rt_inG 1623 (by decide +kernel) rfl)
theorem ml_X12_242 : rt_Ml RX12 242 M_X12_fails := Or.inl (rt_inG 1564 (by decide +kernel) rfl)
theorem ml_X12_245 : rt_Ml RX12 245 M_X12_puts := Or.inl (rt_inG 1657 (by decide +kernel) rfl)
theorem ml_X12_249 : rt_Ml RX12 249 M_X12_nextToken := Or.inl (rt_inG 1545 (by decide +kernel) rfl)
theorem ml_X12_256 : rt_Ml RX12 256 M_X12_sums := Or.inl (rt_inG 1715 (by decide +kernel) rfl)
theorem ml_X12_259 : rt_Ml RX12 259 M_X12_opens := Or.inl (rt_inG 1711 (by decide +kernel) rfl)
theorem ml_X12_262 : rt_Ml RX12 262 M_X12_tests := Or.inl (rt_inG 1719 (by decide +kernel) rfl)
theorem ml_X12_301 : rt_Ml RX12 301 M_X12_within := Or.inl (rt_inG 1616 (by decide +kernel) rfl)
theorem ml_X12_308 : rt_Ml RX12 308 M_X12_needsWord := Or.inl (rt_inG 1608 (by decide +kernel) rfl)
theorem ml_X12_311 : rt_Ml RX12 311 M_X12_needsNumber := Or.inl (rt_inG 1612 (by decide +kernel) rfl)
theorem ml_X12_315 : rt_Ml RX12 315 M_X12_isKept := Or.inl (rt_inG 1572 (by decide +kernel) rfl)
theorem ml_X12_319 : rt_Ml RX12 319 M_X12_wigNamed := Or.inl (rt_inG 1596 (by decide +kernel) rfl)
theorem ml_X12_322 : rt_Ml RX12 322 M_X12_headNamed := Or.inl (rt_inG 1600 (by decide +kernel) rfl)
theorem ml_X12_327 : rt_Ml RX12 327 M_X12_needsNew := Or.inl (rt_inG 1568 (by decide +kernel) rfl)
theorem ml_X12_330 : rt_Ml RX12 330 M_X12_needsBoth := Or.inl (rt_inG 1604 (by decide +kernel) rfl)
theorem ml_X12_334 : rt_Ml RX12 334 M_X12_closes := Or.inl (rt_inG 1619 (by decide +kernel) rfl)
theorem ml_X12_341 : rt_Ml RX12 341 M_X12_reads := Or.inl (rt_inG 1643 (by decide +kernel) rfl)
theorem ml_X12_344 : rt_Ml RX12 344 M_X12_begins := Or.inl (rt_inG 1541 (by decide +kernel) rfl)
theorem ml_X12_347 : rt_Ml RX12 347 M_X12_readsWig := Or.inl (rt_inG 1560 (by decide +kernel) rfl)
theorem ml_X12_350 : rt_Ml RX12 350 M_X12_readsHead := Or.inl (rt_inG 1627 (by decide +kernel) rfl)
theorem ml_X12_353 : rt_Ml RX12 353 M_X12_readsHeats := Or.inl (rt_inG 1631 (by decide +kernel) rfl)
theorem ml_X12_356 : rt_Ml RX12 356 M_X12_readsSlack := Or.inl (rt_inG 1635 (by decide +kernel) rfl)
theorem ml_X12_359 : rt_Ml RX12 359 M_X12_readsLaw := Or.inl (rt_inG 1639 (by decide +kernel) rfl)
theorem ml_X12_362 : rt_Ml RX12 362 M_X12_shifts := Or.inl (rt_inG 1665 (by decide +kernel) rfl)
theorem ml_X12_366 : rt_Ml RX12 366 M_X12_shiftsNames := Or.inl (rt_inG 1668 (by decide +kernel) rfl)
theorem ml_X12_370 : rt_Ml RX12 370 M_X12_readsAll := Or.inl (rt_inG 1537 (by decide +kernel) rfl)
theorem ml_X12_373 : rt_Ml RX12 373 M_X12_lays := Or.inl (rt_inG 1661 (by decide +kernel) rfl)
theorem ml_X12_379 : rt_Ml RX12 379 M_X12_readsLine := Or.inl (rt_inG 1675 (by decide +kernel) rfl)
theorem ml_X12_382 : rt_Ml RX12 382 M_X12_laysLines := Or.inl (rt_inG 1679 (by decide +kernel) rfl)
theorem ml_X12_386 : rt_Ml RX12 386 M_X12_heatIn := Or.inl (rt_inG 1703 (by decide +kernel) rfl)
theorem ml_X12_389 : rt_Ml RX12 389 M_X12_worked := Or.inl (rt_inG 1707 (by decide +kernel) rfl)
theorem ml_X12_392 : rt_Ml RX12 392 M_X12_between := Or.inl (rt_inG 1723 (by decide +kernel) rfl)
theorem ml_X12_396 : rt_Ml RX12 396 M_X12_girthIn := Or.inl (rt_inG 1699 (by decide +kernel) rfl)
theorem ml_X12_400 : rt_Ml RX12 400 M_X12_tiltIn := Or.inl (rt_inG 1738 (by decide +kernel) rfl)
theorem ml_X12_403 : rt_Ml RX12 403 M_X12_wigOn := Or.inl (rt_inG 1726 (by decide +kernel) rfl)
theorem ml_X12_406 : rt_Ml RX12 406 M_X12_fitsIn := Or.inl (rt_inG 1734 (by decide +kernel) rfl)
theorem ml_X12_409 : rt_Ml RX12 409 M_J9_min_7cf53 := Or.inl (rt_inG 1773 (by decide +kernel) rfl)
theorem ml_X12_414 : rt_Ml RX12 414 M_X12_isWig := Or.inl (rt_inG 1687 (by decide +kernel) rfl)
theorem ml_X12_417 : rt_Ml RX12 417 M_X12_isHead := Or.inl (rt_inG 1695 (by decide +kernel) rfl)
theorem ml_X12_420 : rt_Ml RX12 420 M_X12_copies := Or.inl (rt_inG 1754 (by decide +kernel) rfl)
theorem ml_X12_424 : rt_Ml RX12 424 M_X12_canPut := Or.inl (rt_inG 1746 (by decide +kernel) rfl)
theorem ml_X12_427 : rt_Ml RX12 427 M_X12_holds := Or.inl (rt_inG 1750 (by decide +kernel) rfl)
theorem ml_X12_430 : rt_Ml RX12 430 M_X12_passes := Or.inl (rt_inG 1769 (by decide +kernel) rfl)
theorem ml_X12_433 : rt_Ml RX12 433 M_X12_goes := Or.inl (rt_inG 1782 (by decide +kernel) rfl)
theorem ml_X12_436 : rt_Ml RX12 436 M_X12_onHeads := Or.inl (rt_inG 1786 (by decide +kernel) rfl)
theorem ml_X12_439 : rt_Ml RX12 439 M_X12_officeOf := Or.inl (rt_inG 1790 (by decide +kernel) rfl)
theorem ml_X12_442 : rt_Ml RX12 442 M_X12_isFor := Or.inl (rt_inG 1802 (by decide +kernel) rfl)
theorem ml_X12_445 : rt_Ml RX12 445 M_X12_judgedFor := Or.inl (rt_inG 1798 (by decide +kernel) rfl)
theorem ml_X12_454 : rt_Ml RX12 454 M_X12_fillsFrom := Or.inl (rt_inG 1822 (by decide +kernel) rfl)
theorem ml_X12_458 : rt_Ml RX12 458 M_X12_fitsAll := Or.inl (rt_inG 1818 (by decide +kernel) rfl)
theorem ml_X12_461 : rt_Ml RX12 461 M_X12_isAsSaid := Or.inl (rt_inG 1834 (by decide +kernel) rfl)
theorem ml_X12_464 : rt_Ml RX12 464 M_X12_leans := Or.inl (rt_inG 1842 (by decide +kernel) rfl)
theorem ml_X12_467 : rt_Ml RX12 467 M_J9_max_7cf53 := Or.inl (rt_inG 1843 (by decide +kernel) rfl)
theorem ml_X12_470 : rt_Ml RX12 470 M_X12_wornOut := Or.inl (rt_inG 1860 (by decide +kernel) rfl)
theorem ml_X12_476 : rt_Ml RX12 476 M_X12_mendsFrom := Or.inl (rt_inG 1856 (by decide +kernel) rfl)
theorem ml_X12_485 : rt_Ml RX12 485 M_X12_tiltsFrom := Or.inl (rt_inG 1876 (by decide +kernel) rfl)
theorem ml_X12_488 : rt_Ml RX12 488 M_X12_laysUnder := Or.inl (rt_inG 1872 (by decide +kernel) rfl)
theorem ml_X12_491 : rt_Ml RX12 491 M_X12_wishes := Or.inl (rt_inG 1892 (by decide +kernel) rfl)
theorem ml_X12_494 : rt_Ml RX12 494 M_X12_isAhead := Or.inl (rt_inG 1896 (by decide +kernel) rfl)
theorem ml_X12_497 : rt_Ml RX12 497 M_X12_laysMatch := Or.inl (rt_inG 1888 (by decide +kernel) rfl)
theorem ml_X12_500 : rt_Ml RX12 500 M_X12_getsBy := Or.inl (rt_inG 1907 (by decide +kernel) rfl)
theorem ml_X12_504 : rt_Ml RX12 504 M_X12_isRest := Or.inl (rt_inG 1904 (by decide +kernel) rfl)
theorem ml_X12_508 : rt_Ml RX12 508 M_X12_power0 := Or.inl (rt_inG 1914 (by decide +kernel) rfl)
theorem ml_X12_525 : rt_Ml RX12 525 M_X12_draws := Or.inl (rt_inG 1926 (by decide +kernel) rfl)
theorem ml_X12_528 : rt_Ml RX12 528 M_X12_fever := Or.inl (rt_inG 1934 (by decide +kernel) rfl)
theorem ml_X12_531 : rt_Ml RX12 531 M_X12_livesSeason := Or.inl (rt_inG 1922 (by decide +kernel) rfl)
theorem ml_X12_534 : rt_Ml RX12 534 M_X12_laysSaid := Or.inl (rt_inG 1942 (by decide +kernel) rfl)
theorem ml_X12_537 : rt_Ml RX12 537 M_X12_toldMany := Or.inl (rt_inG 1950 (by decide +kernel) rfl)
theorem mw_J6_bitCount_0f7a4 : rt_Mw M_J6_bitCount_0f7a4 1 := ⟨(rt_inG 1060 (by decide +kernel) rfl), (rt_inG 178 (by decide +kernel) rfl), by decide +kernel, ⟨by decide +kernel, by decide +kernel, by decide +kernel⟩, by decide⟩
theorem mi_J6_bitCount_0f7a4 : Cond.static (rt_y M_J6_bitCount_0f7a4) ∈ rt_mG ∧ rt_mc M_J6_bitCount_0f7a4 = 0 ∧ rt_ms M_J6_bitCount_0f7a4 = 0 := ⟨(rt_inG 1059 (by decide +kernel) rfl), rfl, rfl⟩
theorem mw_J9_floorMod_7cf53 : rt_Mw M_J9_floorMod_7cf53 2 := ⟨(rt_inG 856 (by decide +kernel) rfl), (rt_inG 177 (by decide +kernel) rfl), by decide +kernel, ⟨by decide +kernel, by decide +kernel, by decide +kernel⟩, by decide⟩
theorem mi_J9_floorMod_7cf53 : Cond.static (rt_y M_J9_floorMod_7cf53) ∈ rt_mG ∧ rt_mc M_J9_floorMod_7cf53 = 0 ∧ rt_ms M_J9_floorMod_7cf53 = 0 := ⟨(rt_inG 855 (by decide +kernel) rfl), rfl, rfl⟩
theorem mw_J9_max_7cf53 : rt_Mw M_J9_max_7cf53 2 := ⟨(rt_inG 869 (by decide +kernel) rfl), (rt_inG 177 (by decide +kernel) rfl), by decide +kernel, ⟨by decide +kernel, by decide +kernel, by decide +kernel⟩, by decide⟩
theorem mi_J9_max_7cf53 : Cond.static (rt_y M_J9_max_7cf53) ∈ rt_mG ∧ rt_mc M_J9_max_7cf53 = 0 ∧ rt_ms M_J9_max_7cf53 = 0 := ⟨(rt_inG 868 (by decide +kernel) rfl), rfl, rfl⟩
theorem mw_J9_min_7cf53 : rt_Mw M_J9_min_7cf53 2 := ⟨(rt_inG 866 (by decide +kernel) rfl), (rt_inG 177 (by decide +kernel) rfl), by decide +kernel, ⟨by decide +kernel, by decide +kernel, by decide +kernel⟩, by decide⟩
theorem mi_J9_min_7cf53 : Cond.static (rt_y M_J9_min_7cf53) ∈ rt_mG ∧ rt_mc M_J9_min_7cf53 = 0 ∧ rt_ms M_J9_min_7cf53 = 0 := ⟨(rt_inG 865 (by decide +kernel) rfl), rfl, rfl⟩
theorem mw_X0_clear : rt_Mw M_X0_clear 0 := ⟨(rt_inG 758 (by decide +kernel) rfl), (rt_inG 166 (by decide +kernel) rfl), by decide +kernel, ⟨by decide +kernel, by decide +kernel, by decide +kernel⟩, by decide⟩
theorem mi_X0_clear : Cond.instanceMethod (rt_y M_X0_clear) ∈ rt_mG ∧ Cond.selects (rt_R 0) (rt_y M_X0_clear) (rt_y M_X0_clear) ∈ rt_mG ∧ rt_CL 0 ∧ (rt_y M_X0_clear).cls = rt_R 0 ∧ rt_mc M_X0_clear = 0 ∧ rt_ms M_X0_clear = 0 := ⟨(rt_inG 757 (by decide +kernel) rfl), (rt_inG 33 (by decide +kernel) rfl), cl_X0, rfl, rfl, rfl⟩
theorem mw_X0_copy : rt_Mw M_X0_copy 1 := ⟨(rt_inG 1183 (by decide +kernel) rfl), (rt_inG 166 (by decide +kernel) rfl), by decide +kernel, ⟨by decide +kernel, by decide +kernel, by decide +kernel⟩, by decide⟩
theorem mi_X0_copy : Cond.instanceMethod (rt_y M_X0_copy) ∈ rt_mG ∧ Cond.selects (rt_R 0) (rt_y M_X0_copy) (rt_y M_X0_copy) ∈ rt_mG ∧ rt_CL 0 ∧ (rt_y M_X0_copy).cls = rt_R 0 ∧ rt_mc M_X0_copy = 0 ∧ rt_ms M_X0_copy = 0 := ⟨(rt_inG 1182 (by decide +kernel) rfl), (rt_inG 96 (by decide +kernel) rfl), cl_X0, rfl, rfl, rfl⟩
theorem mw_X0_forgetTilts : rt_Mw M_X0_forgetTilts 0 := ⟨(rt_inG 766 (by decide +kernel) rfl), (rt_inG 166 (by decide +kernel) rfl), by decide +kernel, ⟨by decide +kernel, by decide +kernel, by decide +kernel⟩, by decide⟩
theorem mi_X0_forgetTilts : Cond.instanceMethod (rt_y M_X0_forgetTilts) ∈ rt_mG ∧ Cond.selects (rt_R 0) (rt_y M_X0_forgetTilts) (rt_y M_X0_forgetTilts) ∈ rt_mG ∧ rt_CL 0 ∧ (rt_y M_X0_forgetTilts).cls = rt_R 0 ∧ rt_mc M_X0_forgetTilts = 0 ∧ rt_ms M_X0_forgetTilts = 0 := ⟨(rt_inG 765 (by decide +kernel) rfl), (rt_inG 35 (by decide +kernel) rfl), cl_X0, rfl, rfl, rfl⟩
theorem mw_X0_tiltsTold : rt_Mw M_X0_tiltsTold 0 := ⟨(rt_inG 1198 (by decide +kernel) rfl), (rt_inG 166 (by decide +kernel) rfl), by decide +kernel, ⟨by decide +kernel, by decide +kernel, by decide +kernel⟩, by decide⟩
theorem mi_X0_tiltsTold : Cond.instanceMethod (rt_y M_X0_tiltsTold) ∈ rt_mG ∧ Cond.selects (rt_R 0) (rt_y M_X0_tiltsTold) (rt_y M_X0_tiltsTold) ∈ rt_mG ∧ rt_CL 0 ∧ (rt_y M_X0_tiltsTold).cls = rt_R 0 ∧ rt_mc M_X0_tiltsTold = 0 ∧ rt_ms M_X0_tiltsTold = 0 := ⟨(rt_inG 1197 (by decide +kernel) rfl), (rt_inG 98 (by decide +kernel) rfl), cl_X0, rfl, rfl, rfl⟩
theorem mw_X10_add : rt_Mw M_X10_add 3 := ⟨(rt_inG 794 (by decide +kernel) rfl), (rt_inG 168 (by decide +kernel) rfl), by decide +kernel, ⟨by decide +kernel, by decide +kernel, by decide +kernel⟩, by decide⟩
theorem mi_X10_add : Cond.instanceMethod (rt_y M_X10_add) ∈ rt_mG ∧ Cond.selects (rt_R 10) (rt_y M_X10_add) (rt_y M_X10_add) ∈ rt_mG ∧ rt_CL 10 ∧ (rt_y M_X10_add).cls = rt_R 10 ∧ rt_mc M_X10_add = 0 ∧ rt_ms M_X10_add = 0 := ⟨(rt_inG 793 (by decide +kernel) rfl), (rt_inG 39 (by decide +kernel) rfl), cl_X10, rfl, rfl, rfl⟩
theorem mw_X10_copy : rt_Mw M_X10_copy 1 := ⟨(rt_inG 798 (by decide +kernel) rfl), (rt_inG 168 (by decide +kernel) rfl), by decide +kernel, ⟨by decide +kernel, by decide +kernel, by decide +kernel⟩, by decide⟩
theorem mi_X10_copy : Cond.instanceMethod (rt_y M_X10_copy) ∈ rt_mG ∧ Cond.selects (rt_R 10) (rt_y M_X10_copy) (rt_y M_X10_copy) ∈ rt_mG ∧ rt_CL 10 ∧ (rt_y M_X10_copy).cls = rt_R 10 ∧ rt_mc M_X10_copy = 0 ∧ rt_ms M_X10_copy = 0 := ⟨(rt_inG 797 (by decide +kernel) rfl), (rt_inG 40 (by decide +kernel) rfl), cl_X10, rfl, rfl, rfl⟩
theorem mw_X10_play : rt_Mw M_X10_play 3 := ⟨(rt_inG 956 (by decide +kernel) rfl), (rt_inG 168 (by decide +kernel) rfl), by decide +kernel, ⟨by decide +kernel, by decide +kernel, by decide +kernel⟩, by decide⟩
theorem mi_X10_play : Cond.instanceMethod (rt_y M_X10_play) ∈ rt_mG ∧ Cond.selects (rt_R 10) (rt_y M_X10_play) (rt_y M_X10_play) ∈ rt_mG ∧ rt_CL 10 ∧ (rt_y M_X10_play).cls = rt_R 10 ∧ rt_mc M_X10_play = 0 ∧ rt_ms M_X10_play = 0 := ⟨(rt_inG 955 (by decide +kernel) rfl), (rt_inG 64 (by decide +kernel) rfl), cl_X10, rfl, rfl, rfl⟩
theorem mw_X11_ask : rt_Mw M_X11_ask 0 := ⟨(rt_inG 1119 (by decide +kernel) rfl), (rt_inG 163 (by decide +kernel) rfl), by decide +kernel, ⟨by decide +kernel, by decide +kernel, by decide +kernel⟩, by decide⟩
theorem mi_X11_ask : Cond.instanceMethod (rt_y M_X11_ask) ∈ rt_mG ∧ Cond.selects (rt_R 11) (rt_y M_X11_ask) (rt_y M_X11_ask) ∈ rt_mG ∧ rt_CL 11 ∧ (rt_y M_X11_ask).cls = rt_R 11 ∧ rt_mc M_X11_ask = 0 ∧ rt_ms M_X11_ask = 0 := ⟨(rt_inG 1117 (by decide +kernel) rfl), (rt_inG 1118 (by decide +kernel) rfl), cl_X11, rfl, rfl, rfl⟩
theorem mw_X11_baths : rt_Mw M_X11_baths 3 := ⟨(rt_inG 1072 (by decide +kernel) rfl), (rt_inG 163 (by decide +kernel) rfl), by decide +kernel, ⟨by decide +kernel, by decide +kernel, by decide +kernel⟩, by decide⟩
theorem mi_X11_baths : Cond.instanceMethod (rt_y M_X11_baths) ∈ rt_mG ∧ Cond.selects (rt_R 11) (rt_y M_X11_baths) (rt_y M_X11_baths) ∈ rt_mG ∧ rt_CL 11 ∧ (rt_y M_X11_baths).cls = rt_R 11 ∧ rt_mc M_X11_baths = 0 ∧ rt_ms M_X11_baths = 0 := ⟨(rt_inG 1070 (by decide +kernel) rfl), (rt_inG 1071 (by decide +kernel) rfl), cl_X11, rfl, rfl, rfl⟩
theorem mw_X11_centuries : rt_Mw M_X11_centuries 3 := ⟨(rt_inG 1155 (by decide +kernel) rfl), (rt_inG 163 (by decide +kernel) rfl), by decide +kernel, ⟨by decide +kernel, by decide +kernel, by decide +kernel⟩, by decide⟩
theorem mi_X11_centuries : Cond.instanceMethod (rt_y M_X11_centuries) ∈ rt_mG ∧ Cond.selects (rt_R 11) (rt_y M_X11_centuries) (rt_y M_X11_centuries) ∈ rt_mG ∧ rt_CL 11 ∧ (rt_y M_X11_centuries).cls = rt_R 11 ∧ rt_mc M_X11_centuries = 0 ∧ rt_ms M_X11_centuries = 0 := ⟨(rt_inG 1153 (by decide +kernel) rfl), (rt_inG 1154 (by decide +kernel) rfl), cl_X11, rfl, rfl, rfl⟩
theorem mw_X11_count : rt_Mw M_X11_count 1 := ⟨(rt_inG 1193 (by decide +kernel) rfl), (rt_inG 163 (by decide +kernel) rfl), by decide +kernel, ⟨by decide +kernel, by decide +kernel, by decide +kernel⟩, by decide⟩
theorem mi_X11_count : Cond.instanceMethod (rt_y M_X11_count) ∈ rt_mG ∧ Cond.selects (rt_R 11) (rt_y M_X11_count) (rt_y M_X11_count) ∈ rt_mG ∧ rt_CL 11 ∧ (rt_y M_X11_count).cls = rt_R 11 ∧ rt_mc M_X11_count = 0 ∧ rt_ms M_X11_count = 0 := ⟨(rt_inG 1191 (by decide +kernel) rfl), (rt_inG 1192 (by decide +kernel) rfl), cl_X11, rfl, rfl, rfl⟩
theorem mw_X11_draw : rt_Mw M_X11_draw 1 := ⟨(rt_inG 1163 (by decide +kernel) rfl), (rt_inG 163 (by decide +kernel) rfl), by decide +kernel, ⟨by decide +kernel, by decide +kernel, by decide +kernel⟩, by decide⟩
theorem mi_X11_draw : Cond.instanceMethod (rt_y M_X11_draw) ∈ rt_mG ∧ Cond.selects (rt_R 11) (rt_y M_X11_draw) (rt_y M_X11_draw) ∈ rt_mG ∧ rt_CL 11 ∧ (rt_y M_X11_draw).cls = rt_R 11 ∧ rt_mc M_X11_draw = 0 ∧ rt_ms M_X11_draw = 0 := ⟨(rt_inG 1162 (by decide +kernel) rfl), (rt_inG 93 (by decide +kernel) rfl), cl_X11, rfl, rfl, rfl⟩
theorem mw_X11_drawFever : rt_Mw M_X11_drawFever 0 := ⟨(rt_inG 1171 (by decide +kernel) rfl), (rt_inG 163 (by decide +kernel) rfl), by decide +kernel, ⟨by decide +kernel, by decide +kernel, by decide +kernel⟩, by decide⟩
theorem mi_X11_drawFever : Cond.instanceMethod (rt_y M_X11_drawFever) ∈ rt_mG ∧ Cond.selects (rt_R 11) (rt_y M_X11_drawFever) (rt_y M_X11_drawFever) ∈ rt_mG ∧ rt_CL 11 ∧ (rt_y M_X11_drawFever).cls = rt_R 11 ∧ rt_mc M_X11_drawFever = 0 ∧ rt_ms M_X11_drawFever = 0 := ⟨(rt_inG 1170 (by decide +kernel) rfl), (rt_inG 94 (by decide +kernel) rfl), cl_X11, rfl, rfl, rfl⟩
theorem mw_X11_drawPut : rt_Mw M_X11_drawPut 0 := ⟨(rt_inG 1159 (by decide +kernel) rfl), (rt_inG 163 (by decide +kernel) rfl), by decide +kernel, ⟨by decide +kernel, by decide +kernel, by decide +kernel⟩, by decide⟩
theorem mi_X11_drawPut : Cond.instanceMethod (rt_y M_X11_drawPut) ∈ rt_mG ∧ Cond.selects (rt_R 11) (rt_y M_X11_drawPut) (rt_y M_X11_drawPut) ∈ rt_mG ∧ rt_CL 11 ∧ (rt_y M_X11_drawPut).cls = rt_R 11 ∧ rt_mc M_X11_drawPut = 0 ∧ rt_ms M_X11_drawPut = 0 := ⟨(rt_inG 1158 (by decide +kernel) rfl), (rt_inG 92 (by decide +kernel) rfl), cl_X11, rfl, rfl, rfl⟩
theorem mw_X11_feed : rt_Mw M_X11_feed 3 := ⟨(rt_inG 542 (by decide +kernel) rfl), (rt_inG 163 (by decide +kernel) rfl), by decide +kernel, ⟨by decide +kernel, by decide +kernel, by decide +kernel⟩, by decide⟩
theorem mi_X11_feed : Cond.instanceMethod (rt_y M_X11_feed) ∈ rt_mG ∧ Cond.selects (rt_R 11) (rt_y M_X11_feed) (rt_y M_X11_feed) ∈ rt_mG ∧ rt_CL 11 ∧ (rt_y M_X11_feed).cls = rt_R 11 ∧ rt_mc M_X11_feed = 0 ∧ rt_ms M_X11_feed = 0 := ⟨(rt_inG 540 (by decide +kernel) rfl), (rt_inG 541 (by decide +kernel) rfl), cl_X11, rfl, rfl, rfl⟩
theorem mw_X11_fill : rt_Mw M_X11_fill 2 := ⟨(rt_inG 998 (by decide +kernel) rfl), (rt_inG 163 (by decide +kernel) rfl), by decide +kernel, ⟨by decide +kernel, by decide +kernel, by decide +kernel⟩, by decide⟩
theorem mi_X11_fill : Cond.instanceMethod (rt_y M_X11_fill) ∈ rt_mG ∧ Cond.selects (rt_R 11) (rt_y M_X11_fill) (rt_y M_X11_fill) ∈ rt_mG ∧ rt_CL 11 ∧ (rt_y M_X11_fill).cls = rt_R 11 ∧ rt_mc M_X11_fill = 0 ∧ rt_ms M_X11_fill = 0 := ⟨(rt_inG 996 (by decide +kernel) rfl), (rt_inG 997 (by decide +kernel) rfl), cl_X11, rfl, rfl, rfl⟩
theorem mw_X11_fits : rt_Mw M_X11_fits 3 := ⟨(rt_inG 877 (by decide +kernel) rfl), (rt_inG 163 (by decide +kernel) rfl), by decide +kernel, ⟨by decide +kernel, by decide +kernel, by decide +kernel⟩, by decide⟩
theorem mi_X11_fits : Cond.instanceMethod (rt_y M_X11_fits) ∈ rt_mG ∧ Cond.selects (rt_R 11) (rt_y M_X11_fits) (rt_y M_X11_fits) ∈ rt_mG ∧ rt_CL 11 ∧ (rt_y M_X11_fits).cls = rt_R 11 ∧ rt_mc M_X11_fits = 0 ∧ rt_ms M_X11_fits = 0 := ⟨(rt_inG 875 (by decide +kernel) rfl), (rt_inG 876 (by decide +kernel) rfl), cl_X11, rfl, rfl, rfl⟩
theorem mw_X11_gainOf : rt_Mw M_X11_gainOf 4 := ⟨(rt_inG 1278 (by decide +kernel) rfl), (rt_inG 163 (by decide +kernel) rfl), by decide +kernel, ⟨by decide +kernel, by decide +kernel, by decide +kernel⟩, by decide⟩
theorem mi_X11_gainOf : Cond.static (rt_y M_X11_gainOf) ∈ rt_mG ∧ rt_mc M_X11_gainOf = 0 ∧ rt_ms M_X11_gainOf = 0 := ⟨(rt_inG 1277 (by decide +kernel) rfl), rfl, rfl⟩
theorem mw_X11_head : rt_Mw M_X11_head 2 := ⟨(rt_inG 835 (by decide +kernel) rfl), (rt_inG 163 (by decide +kernel) rfl), by decide +kernel, ⟨by decide +kernel, by decide +kernel, by decide +kernel⟩, by decide⟩
theorem mi_X11_head : Cond.instanceMethod (rt_y M_X11_head) ∈ rt_mG ∧ Cond.selects (rt_R 11) (rt_y M_X11_head) (rt_y M_X11_head) ∈ rt_mG ∧ rt_CL 11 ∧ (rt_y M_X11_head).cls = rt_R 11 ∧ rt_mc M_X11_head = 0 ∧ rt_ms M_X11_head = 0 := ⟨(rt_inG 833 (by decide +kernel) rfl), (rt_inG 834 (by decide +kernel) rfl), cl_X11, rfl, rfl, rfl⟩
theorem mw_X11_isBest : rt_Mw M_X11_isBest 4 := ⟨(rt_inG 1275 (by decide +kernel) rfl), (rt_inG 163 (by decide +kernel) rfl), by decide +kernel, ⟨by decide +kernel, by decide +kernel, by decide +kernel⟩, by decide⟩
theorem mi_X11_isBest : Cond.static (rt_y M_X11_isBest) ∈ rt_mG ∧ rt_mc M_X11_isBest = 0 ∧ rt_ms M_X11_isBest = 0 := ⟨(rt_inG 1274 (by decide +kernel) rfl), rfl, rfl⟩
theorem mw_X11_isFitThrough : rt_Mw M_X11_isFitThrough 3 := ⟨(rt_inG 1016 (by decide +kernel) rfl), (rt_inG 163 (by decide +kernel) rfl), by decide +kernel, ⟨by decide +kernel, by decide +kernel, by decide +kernel⟩, by decide⟩
theorem mi_X11_isFitThrough : Cond.instanceMethod (rt_y M_X11_isFitThrough) ∈ rt_mG ∧ Cond.selects (rt_R 11) (rt_y M_X11_isFitThrough) (rt_y M_X11_isFitThrough) ∈ rt_mG ∧ rt_CL 11 ∧ (rt_y M_X11_isFitThrough).cls = rt_R 11 ∧ rt_mc M_X11_isFitThrough = 0 ∧ rt_ms M_X11_isFitThrough = 0 := ⟨(rt_inG 1015 (by decide +kernel) rfl), (rt_inG 72 (by decide +kernel) rfl), cl_X11, rfl, rfl, rfl⟩
theorem mw_X11_isHardness : rt_Mw M_X11_isHardness 1 := ⟨(rt_inG 982 (by decide +kernel) rfl), (rt_inG 163 (by decide +kernel) rfl), by decide +kernel, ⟨by decide +kernel, by decide +kernel, by decide +kernel⟩, by decide⟩
theorem mi_X11_isHardness : Cond.static (rt_y M_X11_isHardness) ∈ rt_mG ∧ rt_mc M_X11_isHardness = 0 ∧ rt_ms M_X11_isHardness = 0 := ⟨(rt_inG 981 (by decide +kernel) rfl), rfl, rfl⟩
theorem mw_X11_isOfHundred : rt_Mw M_X11_isOfHundred 1 := ⟨(rt_inG 1289 (by decide +kernel) rfl), (rt_inG 163 (by decide +kernel) rfl), by decide +kernel, ⟨by decide +kernel, by decide +kernel, by decide +kernel⟩, by decide⟩
theorem mi_X11_isOfHundred : Cond.static (rt_y M_X11_isOfHundred) ∈ rt_mG ∧ rt_mc M_X11_isOfHundred = 0 ∧ rt_ms M_X11_isOfHundred = 0 := ⟨(rt_inG 1288 (by decide +kernel) rfl), rfl, rfl⟩
theorem mw_X11_judged : rt_Mw M_X11_judged 1 := ⟨(rt_inG 951 (by decide +kernel) rfl), (rt_inG 163 (by decide +kernel) rfl), by decide +kernel, ⟨by decide +kernel, by decide +kernel, by decide +kernel⟩, by decide⟩
theorem mi_X11_judged : Cond.instanceMethod (rt_y M_X11_judged) ∈ rt_mG ∧ Cond.selects (rt_R 11) (rt_y M_X11_judged) (rt_y M_X11_judged) ∈ rt_mG ∧ rt_CL 11 ∧ (rt_y M_X11_judged).cls = rt_R 11 ∧ rt_mc M_X11_judged = 0 ∧ rt_ms M_X11_judged = 0 := ⟨(rt_inG 949 (by decide +kernel) rfl), (rt_inG 950 (by decide +kernel) rfl), cl_X11, rfl, rfl, rfl⟩
theorem mw_X11_keeps : rt_Mw M_X11_keeps 1 := ⟨(rt_inG 1076 (by decide +kernel) rfl), (rt_inG 163 (by decide +kernel) rfl), by decide +kernel, ⟨by decide +kernel, by decide +kernel, by decide +kernel⟩, by decide⟩
theorem mi_X11_keeps : Cond.instanceMethod (rt_y M_X11_keeps) ∈ rt_mG ∧ Cond.selects (rt_R 11) (rt_y M_X11_keeps) (rt_y M_X11_keeps) ∈ rt_mG ∧ rt_CL 11 ∧ (rt_y M_X11_keeps).cls = rt_R 11 ∧ rt_mc M_X11_keeps = 0 ∧ rt_ms M_X11_keeps = 0 := ⟨(rt_inG 1074 (by decide +kernel) rfl), (rt_inG 1075 (by decide +kernel) rfl), cl_X11, rfl, rfl, rfl⟩
theorem mw_X11_leans : rt_Mw M_X11_leans 1 := ⟨(rt_inG 1052 (by decide +kernel) rfl), (rt_inG 163 (by decide +kernel) rfl), by decide +kernel, ⟨by decide +kernel, by decide +kernel, by decide +kernel⟩, by decide⟩
theorem mi_X11_leans : Cond.instanceMethod (rt_y M_X11_leans) ∈ rt_mG ∧ Cond.selects (rt_R 11) (rt_y M_X11_leans) (rt_y M_X11_leans) ∈ rt_mG ∧ rt_CL 11 ∧ (rt_y M_X11_leans).cls = rt_R 11 ∧ rt_mc M_X11_leans = 0 ∧ rt_ms M_X11_leans = 0 := ⟨(rt_inG 1050 (by decide +kernel) rfl), (rt_inG 1051 (by decide +kernel) rfl), cl_X11, rfl, rfl, rfl⟩
theorem mw_X11_mark : rt_Mw M_X11_mark 2 := ⟨(rt_inG 1179 (by decide +kernel) rfl), (rt_inG 163 (by decide +kernel) rfl), by decide +kernel, ⟨by decide +kernel, by decide +kernel, by decide +kernel⟩, by decide⟩
theorem mi_X11_mark : Cond.instanceMethod (rt_y M_X11_mark) ∈ rt_mG ∧ Cond.selects (rt_R 11) (rt_y M_X11_mark) (rt_y M_X11_mark) ∈ rt_mG ∧ rt_CL 11 ∧ (rt_y M_X11_mark).cls = rt_R 11 ∧ rt_mc M_X11_mark = 0 ∧ rt_ms M_X11_mark = 0 := ⟨(rt_inG 1177 (by decide +kernel) rfl), (rt_inG 1178 (by decide +kernel) rfl), cl_X11, rfl, rfl, rfl⟩
theorem mw_X11_match : rt_Mw M_X11_match 1 := ⟨(rt_inG 1138 (by decide +kernel) rfl), (rt_inG 163 (by decide +kernel) rfl), by decide +kernel, ⟨by decide +kernel, by decide +kernel, by decide +kernel⟩, by decide⟩
theorem mi_X11_match : Cond.instanceMethod (rt_y M_X11_match) ∈ rt_mG ∧ Cond.selects (rt_R 11) (rt_y M_X11_match) (rt_y M_X11_match) ∈ rt_mG ∧ rt_CL 11 ∧ (rt_y M_X11_match).cls = rt_R 11 ∧ rt_mc M_X11_match = 0 ∧ rt_ms M_X11_match = 0 := ⟨(rt_inG 1136 (by decide +kernel) rfl), (rt_inG 1137 (by decide +kernel) rfl), cl_X11, rfl, rfl, rfl⟩
theorem mw_X11_mend : rt_Mw M_X11_mend 1 := ⟨(rt_inG 925 (by decide +kernel) rfl), (rt_inG 163 (by decide +kernel) rfl), by decide +kernel, ⟨by decide +kernel, by decide +kernel, by decide +kernel⟩, by decide⟩
theorem mi_X11_mend : Cond.instanceMethod (rt_y M_X11_mend) ∈ rt_mG ∧ Cond.selects (rt_R 11) (rt_y M_X11_mend) (rt_y M_X11_mend) ∈ rt_mG ∧ rt_CL 11 ∧ (rt_y M_X11_mend).cls = rt_R 11 ∧ rt_mc M_X11_mend = 0 ∧ rt_ms M_X11_mend = 0 := ⟨(rt_inG 923 (by decide +kernel) rfl), (rt_inG 924 (by decide +kernel) rfl), cl_X11, rfl, rfl, rfl⟩
theorem mw_X11_moths : rt_Mw M_X11_moths 2 := ⟨(rt_inG 1080 (by decide +kernel) rfl), (rt_inG 163 (by decide +kernel) rfl), by decide +kernel, ⟨by decide +kernel, by decide +kernel, by decide +kernel⟩, by decide⟩
theorem mi_X11_moths : Cond.instanceMethod (rt_y M_X11_moths) ∈ rt_mG ∧ Cond.selects (rt_R 11) (rt_y M_X11_moths) (rt_y M_X11_moths) ∈ rt_mG ∧ rt_CL 11 ∧ (rt_y M_X11_moths).cls = rt_R 11 ∧ rt_mc M_X11_moths = 0 ∧ rt_ms M_X11_moths = 0 := ⟨(rt_inG 1078 (by decide +kernel) rfl), (rt_inG 1079 (by decide +kernel) rfl), cl_X11, rfl, rfl, rfl⟩
theorem mw_X11_next : rt_Mw M_X11_next 1 := ⟨(rt_inG 1067 (by decide +kernel) rfl), (rt_inG 163 (by decide +kernel) rfl), by decide +kernel, ⟨by decide +kernel, by decide +kernel, by decide +kernel⟩, by decide⟩
theorem mi_X11_next : Cond.instanceMethod (rt_y M_X11_next) ∈ rt_mG ∧ Cond.selects (rt_R 11) (rt_y M_X11_next) (rt_y M_X11_next) ∈ rt_mG ∧ rt_CL 11 ∧ (rt_y M_X11_next).cls = rt_R 11 ∧ rt_mc M_X11_next = 0 ∧ rt_ms M_X11_next = 0 := ⟨(rt_inG 1065 (by decide +kernel) rfl), (rt_inG 1066 (by decide +kernel) rfl), cl_X11, rfl, rfl, rfl⟩
theorem mw_X11_off : rt_Mw M_X11_off 1 := ⟨(rt_inG 917 (by decide +kernel) rfl), (rt_inG 163 (by decide +kernel) rfl), by decide +kernel, ⟨by decide +kernel, by decide +kernel, by decide +kernel⟩, by decide⟩
theorem mi_X11_off : Cond.instanceMethod (rt_y M_X11_off) ∈ rt_mG ∧ Cond.selects (rt_R 11) (rt_y M_X11_off) (rt_y M_X11_off) ∈ rt_mG ∧ rt_CL 11 ∧ (rt_y M_X11_off).cls = rt_R 11 ∧ rt_mc M_X11_off = 0 ∧ rt_ms M_X11_off = 0 := ⟨(rt_inG 915 (by decide +kernel) rfl), (rt_inG 916 (by decide +kernel) rfl), cl_X11, rfl, rfl, rfl⟩
theorem mw_X11_openHeads : rt_Mw M_X11_openHeads 2 := ⟨(rt_inG 1012 (by decide +kernel) rfl), (rt_inG 163 (by decide +kernel) rfl), by decide +kernel, ⟨by decide +kernel, by decide +kernel, by decide +kernel⟩, by decide⟩
theorem mi_X11_openHeads : Cond.instanceMethod (rt_y M_X11_openHeads) ∈ rt_mG ∧ Cond.selects (rt_R 11) (rt_y M_X11_openHeads) (rt_y M_X11_openHeads) ∈ rt_mG ∧ rt_CL 11 ∧ (rt_y M_X11_openHeads).cls = rt_R 11 ∧ rt_mc M_X11_openHeads = 0 ∧ rt_ms M_X11_openHeads = 0 := ⟨(rt_inG 1011 (by decide +kernel) rfl), (rt_inG 71 (by decide +kernel) rfl), cl_X11, rfl, rfl, rfl⟩
theorem mw_X11_openStands : rt_Mw M_X11_openStands 1 := ⟨(rt_inG 1084 (by decide +kernel) rfl), (rt_inG 163 (by decide +kernel) rfl), by decide +kernel, ⟨by decide +kernel, by decide +kernel, by decide +kernel⟩, by decide⟩
theorem mi_X11_openStands : Cond.instanceMethod (rt_y M_X11_openStands) ∈ rt_mG ∧ Cond.selects (rt_R 11) (rt_y M_X11_openStands) (rt_y M_X11_openStands) ∈ rt_mG ∧ rt_CL 11 ∧ (rt_y M_X11_openStands).cls = rt_R 11 ∧ rt_mc M_X11_openStands = 0 ∧ rt_ms M_X11_openStands = 0 := ⟨(rt_inG 1083 (by decide +kernel) rfl), (rt_inG 81 (by decide +kernel) rfl), cl_X11, rfl, rfl, rfl⟩
theorem mw_X11_power : rt_Mw M_X11_power 2 := ⟨(rt_inG 1134 (by decide +kernel) rfl), (rt_inG 163 (by decide +kernel) rfl), by decide +kernel, ⟨by decide +kernel, by decide +kernel, by decide +kernel⟩, by decide⟩
theorem mi_X11_power : Cond.instanceMethod (rt_y M_X11_power) ∈ rt_mG ∧ Cond.selects (rt_R 11) (rt_y M_X11_power) (rt_y M_X11_power) ∈ rt_mG ∧ rt_CL 11 ∧ (rt_y M_X11_power).cls = rt_R 11 ∧ rt_mc M_X11_power = 0 ∧ rt_ms M_X11_power = 0 := ⟨(rt_inG 1132 (by decide +kernel) rfl), (rt_inG 1133 (by decide +kernel) rfl), cl_X11, rfl, rfl, rfl⟩
theorem mw_X11_put : rt_Mw M_X11_put 2 := ⟨(rt_inG 891 (by decide +kernel) rfl), (rt_inG 163 (by decide +kernel) rfl), by decide +kernel, ⟨by decide +kernel, by decide +kernel, by decide +kernel⟩, by decide⟩
theorem mi_X11_put : Cond.instanceMethod (rt_y M_X11_put) ∈ rt_mG ∧ Cond.selects (rt_R 11) (rt_y M_X11_put) (rt_y M_X11_put) ∈ rt_mG ∧ rt_CL 11 ∧ (rt_y M_X11_put).cls = rt_R 11 ∧ rt_mc M_X11_put = 0 ∧ rt_ms M_X11_put = 0 := ⟨(rt_inG 889 (by decide +kernel) rfl), (rt_inG 890 (by decide +kernel) rfl), cl_X11, rfl, rfl, rfl⟩
theorem mw_X11_realm : rt_Mw M_X11_realm 0 := ⟨(rt_inG 551 (by decide +kernel) rfl), (rt_inG 163 (by decide +kernel) rfl), by decide +kernel, ⟨by decide +kernel, by decide +kernel, by decide +kernel⟩, by decide⟩
theorem mi_X11_realm : Cond.instanceMethod (rt_y M_X11_realm) ∈ rt_mG ∧ Cond.selects (rt_R 11) (rt_y M_X11_realm) (rt_y M_X11_realm) ∈ rt_mG ∧ rt_CL 11 ∧ (rt_y M_X11_realm).cls = rt_R 11 ∧ rt_mc M_X11_realm = 0 ∧ rt_ms M_X11_realm = 0 := ⟨(rt_inG 549 (by decide +kernel) rfl), (rt_inG 550 (by decide +kernel) rfl), cl_X11, rfl, rfl, rfl⟩
theorem mw_X11_remember : rt_Mw M_X11_remember 0 := ⟨(rt_inG 903 (by decide +kernel) rfl), (rt_inG 163 (by decide +kernel) rfl), by decide +kernel, ⟨by decide +kernel, by decide +kernel, by decide +kernel⟩, by decide⟩
theorem mi_X11_remember : Cond.instanceMethod (rt_y M_X11_remember) ∈ rt_mG ∧ Cond.selects (rt_R 11) (rt_y M_X11_remember) (rt_y M_X11_remember) ∈ rt_mG ∧ rt_CL 11 ∧ (rt_y M_X11_remember).cls = rt_R 11 ∧ rt_mc M_X11_remember = 0 ∧ rt_ms M_X11_remember = 0 := ⟨(rt_inG 902 (by decide +kernel) rfl), (rt_inG 57 (by decide +kernel) rfl), cl_X11, rfl, rfl, rfl⟩
theorem mw_X11_say : rt_Mw M_X11_say 3 := ⟨(rt_inG 1044 (by decide +kernel) rfl), (rt_inG 163 (by decide +kernel) rfl), by decide +kernel, ⟨by decide +kernel, by decide +kernel, by decide +kernel⟩, by decide⟩
theorem mi_X11_say : Cond.instanceMethod (rt_y M_X11_say) ∈ rt_mG ∧ Cond.selects (rt_R 11) (rt_y M_X11_say) (rt_y M_X11_say) ∈ rt_mG ∧ rt_CL 11 ∧ (rt_y M_X11_say).cls = rt_R 11 ∧ rt_mc M_X11_say = 0 ∧ rt_ms M_X11_say = 0 := ⟨(rt_inG 1042 (by decide +kernel) rfl), (rt_inG 1043 (by decide +kernel) rfl), cl_X11, rfl, rfl, rfl⟩
theorem mw_X11_season : rt_Mw M_X11_season 0 := ⟨(rt_inG 937 (by decide +kernel) rfl), (rt_inG 163 (by decide +kernel) rfl), by decide +kernel, ⟨by decide +kernel, by decide +kernel, by decide +kernel⟩, by decide⟩
theorem mi_X11_season : Cond.instanceMethod (rt_y M_X11_season) ∈ rt_mG ∧ Cond.selects (rt_R 11) (rt_y M_X11_season) (rt_y M_X11_season) ∈ rt_mG ∧ rt_CL 11 ∧ (rt_y M_X11_season).cls = rt_R 11 ∧ rt_mc M_X11_season = 0 ∧ rt_ms M_X11_season = 0 := ⟨(rt_inG 935 (by decide +kernel) rfl), (rt_inG 936 (by decide +kernel) rfl), cl_X11, rfl, rfl, rfl⟩
theorem mw_X11_tell : rt_Mw M_X11_tell 2 := ⟨(rt_inG 1088 (by decide +kernel) rfl), (rt_inG 163 (by decide +kernel) rfl), by decide +kernel, ⟨by decide +kernel, by decide +kernel, by decide +kernel⟩, by decide⟩
theorem mi_X11_tell : Cond.instanceMethod (rt_y M_X11_tell) ∈ rt_mG ∧ Cond.selects (rt_R 11) (rt_y M_X11_tell) (rt_y M_X11_tell) ∈ rt_mG ∧ rt_CL 11 ∧ (rt_y M_X11_tell).cls = rt_R 11 ∧ rt_mc M_X11_tell = 0 ∧ rt_ms M_X11_tell = 0 := ⟨(rt_inG 1086 (by decide +kernel) rfl), (rt_inG 1087 (by decide +kernel) rfl), cl_X11, rfl, rfl, rfl⟩
theorem mw_X11_under : rt_Mw M_X11_under 1 := ⟨(rt_inG 1092 (by decide +kernel) rfl), (rt_inG 163 (by decide +kernel) rfl), by decide +kernel, ⟨by decide +kernel, by decide +kernel, by decide +kernel⟩, by decide⟩
theorem mi_X11_under : Cond.instanceMethod (rt_y M_X11_under) ∈ rt_mG ∧ Cond.selects (rt_R 11) (rt_y M_X11_under) (rt_y M_X11_under) ∈ rt_mG ∧ rt_CL 11 ∧ (rt_y M_X11_under).cls = rt_R 11 ∧ rt_mc M_X11_under = 0 ∧ rt_ms M_X11_under = 0 := ⟨(rt_inG 1090 (by decide +kernel) rfl), (rt_inG 1091 (by decide +kernel) rfl), cl_X11, rfl, rfl, rfl⟩
theorem mw_X11_undo : rt_Mw M_X11_undo 0 := ⟨(rt_inG 947 (by decide +kernel) rfl), (rt_inG 163 (by decide +kernel) rfl), by decide +kernel, ⟨by decide +kernel, by decide +kernel, by decide +kernel⟩, by decide⟩
theorem mi_X11_undo : Cond.instanceMethod (rt_y M_X11_undo) ∈ rt_mG ∧ Cond.selects (rt_R 11) (rt_y M_X11_undo) (rt_y M_X11_undo) ∈ rt_mG ∧ rt_CL 11 ∧ (rt_y M_X11_undo).cls = rt_R 11 ∧ rt_mc M_X11_undo = 0 ∧ rt_ms M_X11_undo = 0 := ⟨(rt_inG 945 (by decide +kernel) rfl), (rt_inG 946 (by decide +kernel) rfl), cl_X11, rfl, rfl, rfl⟩
theorem mw_X11_verdict : rt_Mw M_X11_verdict 1 := ⟨(rt_inG 979 (by decide +kernel) rfl), (rt_inG 163 (by decide +kernel) rfl), by decide +kernel, ⟨by decide +kernel, by decide +kernel, by decide +kernel⟩, by decide⟩
theorem mi_X11_verdict : Cond.instanceMethod (rt_y M_X11_verdict) ∈ rt_mG ∧ Cond.selects (rt_R 11) (rt_y M_X11_verdict) (rt_y M_X11_verdict) ∈ rt_mG ∧ rt_CL 11 ∧ (rt_y M_X11_verdict).cls = rt_R 11 ∧ rt_mc M_X11_verdict = 0 ∧ rt_ms M_X11_verdict = 0 := ⟨(rt_inG 977 (by decide +kernel) rfl), (rt_inG 978 (by decide +kernel) rfl), cl_X11, rfl, rfl, rfl⟩
theorem mw_X11_votes : rt_Mw M_X11_votes 1 := ⟨(rt_inG 994 (by decide +kernel) rfl), (rt_inG 163 (by decide +kernel) rfl), by decide +kernel, ⟨by decide +kernel, by decide +kernel, by decide +kernel⟩, by decide⟩
theorem mi_X11_votes : Cond.instanceMethod (rt_y M_X11_votes) ∈ rt_mG ∧ Cond.selects (rt_R 11) (rt_y M_X11_votes) (rt_y M_X11_votes) ∈ rt_mG ∧ rt_CL 11 ∧ (rt_y M_X11_votes).cls = rt_R 11 ∧ rt_mc M_X11_votes = 0 ∧ rt_ms M_X11_votes = 0 := ⟨(rt_inG 992 (by decide +kernel) rfl), (rt_inG 993 (by decide +kernel) rfl), cl_X11, rfl, rfl, rfl⟩
theorem mw_X11_wig : rt_Mw M_X11_wig 2 := ⟨(rt_inG 802 (by decide +kernel) rfl), (rt_inG 163 (by decide +kernel) rfl), by decide +kernel, ⟨by decide +kernel, by decide +kernel, by decide +kernel⟩, by decide⟩
theorem mi_X11_wig : Cond.instanceMethod (rt_y M_X11_wig) ∈ rt_mG ∧ Cond.selects (rt_R 11) (rt_y M_X11_wig) (rt_y M_X11_wig) ∈ rt_mG ∧ rt_CL 11 ∧ (rt_y M_X11_wig).cls = rt_R 11 ∧ rt_mc M_X11_wig = 0 ∧ rt_ms M_X11_wig = 0 := ⟨(rt_inG 800 (by decide +kernel) rfl), (rt_inG 801 (by decide +kernel) rfl), cl_X11, rfl, rfl, rfl⟩
theorem mw_X11_wigsFor : rt_Mw M_X11_wigsFor 1 := ⟨(rt_inG 986 (by decide +kernel) rfl), (rt_inG 163 (by decide +kernel) rfl), by decide +kernel, ⟨by decide +kernel, by decide +kernel, by decide +kernel⟩, by decide⟩
theorem mi_X11_wigsFor : Cond.instanceMethod (rt_y M_X11_wigsFor) ∈ rt_mG ∧ Cond.selects (rt_R 11) (rt_y M_X11_wigsFor) (rt_y M_X11_wigsFor) ∈ rt_mG ∧ rt_CL 11 ∧ (rt_y M_X11_wigsFor).cls = rt_R 11 ∧ rt_mc M_X11_wigsFor = 0 ∧ rt_ms M_X11_wigsFor = 0 := ⟨(rt_inG 985 (by decide +kernel) rfl), (rt_inG 67 (by decide +kernel) rfl), cl_X11, rfl, rfl, rfl⟩
theorem mw_X11_years : rt_Mw M_X11_years 0 := ⟨(rt_inG 770 (by decide +kernel) rfl), (rt_inG 163 (by decide +kernel) rfl), by decide +kernel, ⟨by decide +kernel, by decide +kernel, by decide +kernel⟩, by decide⟩
theorem mi_X11_years : Cond.instanceMethod (rt_y M_X11_years) ∈ rt_mG ∧ Cond.selects (rt_R 11) (rt_y M_X11_years) (rt_y M_X11_years) ∈ rt_mG ∧ rt_CL 11 ∧ (rt_y M_X11_years).cls = rt_R 11 ∧ rt_mc M_X11_years = 0 ∧ rt_ms M_X11_years = 0 := ⟨(rt_inG 768 (by decide +kernel) rfl), (rt_inG 769 (by decide +kernel) rfl), cl_X11, rfl, rfl, rfl⟩
theorem mw_X12_ask : rt_Mw M_X12_ask 0 := ⟨(rt_inG 1883 (by decide +kernel) rfl), (rt_inG 176 (by decide +kernel) rfl), by decide +kernel, ⟨by decide +kernel, by decide +kernel, by decide +kernel⟩, by decide⟩
theorem mi_X12_ask : Cond.instanceMethod (rt_y M_X12_ask) ∈ rt_mG ∧ Cond.selects (rt_R 12) (rt_y M_X12_ask) (rt_y M_X12_ask) ∈ rt_mG ∧ rt_CL 12 ∧ (rt_y M_X12_ask).cls = rt_R 12 ∧ rt_mc M_X12_ask = 0 ∧ rt_ms M_X12_ask = 0 := ⟨(rt_inG 1881 (by decide +kernel) rfl), (rt_inG 1882 (by decide +kernel) rfl), cl_X12, rfl, rfl, rfl⟩
theorem mw_X12_baths : rt_Mw M_X12_baths 3 := ⟨(rt_inG 1847 (by decide +kernel) rfl), (rt_inG 176 (by decide +kernel) rfl), by decide +kernel, ⟨by decide +kernel, by decide +kernel, by decide +kernel⟩, by decide⟩
theorem mi_X12_baths : Cond.instanceMethod (rt_y M_X12_baths) ∈ rt_mG ∧ Cond.selects (rt_R 12) (rt_y M_X12_baths) (rt_y M_X12_baths) ∈ rt_mG ∧ rt_CL 12 ∧ (rt_y M_X12_baths).cls = rt_R 12 ∧ rt_mc M_X12_baths = 0 ∧ rt_ms M_X12_baths = 0 := ⟨(rt_inG 1845 (by decide +kernel) rfl), (rt_inG 1846 (by decide +kernel) rfl), cl_X12, rfl, rfl, rfl⟩
theorem mw_X12_begins : rt_Mw M_X12_begins 0 := ⟨(rt_inG 1544 (by decide +kernel) rfl), (rt_inG 176 (by decide +kernel) rfl), by decide +kernel, ⟨by decide +kernel, by decide +kernel, by decide +kernel⟩, by decide⟩
theorem mi_X12_begins : Cond.instanceMethod (rt_y M_X12_begins) ∈ rt_mG ∧ Cond.selects (rt_R 12) (rt_y M_X12_begins) (rt_y M_X12_begins) ∈ rt_mG ∧ rt_CL 12 ∧ (rt_y M_X12_begins).cls = rt_R 12 ∧ rt_mc M_X12_begins = 0 ∧ rt_ms M_X12_begins = 0 := ⟨(rt_inG 1543 (by decide +kernel) rfl), (rt_inG 103 (by decide +kernel) rfl), cl_X12, rfl, rfl, rfl⟩
theorem mw_X12_between : rt_Mw M_X12_between 3 := ⟨(rt_inG 1725 (by decide +kernel) rfl), (rt_inG 176 (by decide +kernel) rfl), by decide +kernel, ⟨by decide +kernel, by decide +kernel, by decide +kernel⟩, by decide⟩
theorem mi_X12_between : Cond.static (rt_y M_X12_between) ∈ rt_mG ∧ rt_mc M_X12_between = 0 ∧ rt_ms M_X12_between = 0 := ⟨(rt_inG 1724 (by decide +kernel) rfl), rfl, rfl⟩
theorem mw_X12_canPut : rt_Mw M_X12_canPut 2 := ⟨(rt_inG 1749 (by decide +kernel) rfl), (rt_inG 176 (by decide +kernel) rfl), by decide +kernel, ⟨by decide +kernel, by decide +kernel, by decide +kernel⟩, by decide⟩
theorem mi_X12_canPut : Cond.instanceMethod (rt_y M_X12_canPut) ∈ rt_mG ∧ Cond.selects (rt_R 12) (rt_y M_X12_canPut) (rt_y M_X12_canPut) ∈ rt_mG ∧ rt_CL 12 ∧ (rt_y M_X12_canPut).cls = rt_R 12 ∧ rt_mc M_X12_canPut = 0 ∧ rt_ms M_X12_canPut = 0 := ⟨(rt_inG 1748 (by decide +kernel) rfl), (rt_inG 139 (by decide +kernel) rfl), cl_X12, rfl, rfl, rfl⟩
theorem mw_X12_centuries : rt_Mw M_X12_centuries 3 := ⟨(rt_inG 1921 (by decide +kernel) rfl), (rt_inG 176 (by decide +kernel) rfl), by decide +kernel, ⟨by decide +kernel, by decide +kernel, by decide +kernel⟩, by decide⟩
theorem mi_X12_centuries : Cond.instanceMethod (rt_y M_X12_centuries) ∈ rt_mG ∧ Cond.selects (rt_R 12) (rt_y M_X12_centuries) (rt_y M_X12_centuries) ∈ rt_mG ∧ rt_CL 12 ∧ (rt_y M_X12_centuries).cls = rt_R 12 ∧ rt_mc M_X12_centuries = 0 ∧ rt_ms M_X12_centuries = 0 := ⟨(rt_inG 1919 (by decide +kernel) rfl), (rt_inG 1920 (by decide +kernel) rfl), cl_X12, rfl, rfl, rfl⟩
theorem mw_X12_closes : rt_Mw M_X12_closes 0 := ⟨(rt_inG 1622 (by decide +kernel) rfl), (rt_inG 176 (by decide +kernel) rfl), by decide +kernel, ⟨by decide +kernel, by decide +kernel, by decide +kernel⟩, by decide⟩
theorem mi_X12_closes : Cond.instanceMethod (rt_y M_X12_closes) ∈ rt_mG ∧ Cond.selects (rt_R 12) (rt_y M_X12_closes) (rt_y M_X12_closes) ∈ rt_mG ∧ rt_CL 12 ∧ (rt_y M_X12_closes).cls = rt_R 12 ∧ rt_mc M_X12_closes = 0 ∧ rt_ms M_X12_closes = 0 := ⟨(rt_inG 1621 (by decide +kernel) rfl), (rt_inG 116 (by decide +kernel) rfl), cl_X12, rfl, rfl, rfl⟩
theorem mw_X12_copies : rt_Mw M_X12_copies 4 := ⟨(rt_inG 1756 (by decide +kernel) rfl), (rt_inG 176 (by decide +kernel) rfl), by decide +kernel, ⟨by decide +kernel, by decide +kernel, by decide +kernel⟩, by decide⟩
theorem mi_X12_copies : Cond.static (rt_y M_X12_copies) ∈ rt_mG ∧ rt_mc M_X12_copies = 0 ∧ rt_ms M_X12_copies = 0 := ⟨(rt_inG 1755 (by decide +kernel) rfl), rfl, rfl⟩
theorem mw_X12_count : rt_Mw M_X12_count 1 := ⟨(rt_inG 1949 (by decide +kernel) rfl), (rt_inG 176 (by decide +kernel) rfl), by decide +kernel, ⟨by decide +kernel, by decide +kernel, by decide +kernel⟩, by decide⟩
theorem mi_X12_count : Cond.instanceMethod (rt_y M_X12_count) ∈ rt_mG ∧ Cond.selects (rt_R 12) (rt_y M_X12_count) (rt_y M_X12_count) ∈ rt_mG ∧ rt_CL 12 ∧ (rt_y M_X12_count).cls = rt_R 12 ∧ rt_mc M_X12_count = 0 ∧ rt_ms M_X12_count = 0 := ⟨(rt_inG 1947 (by decide +kernel) rfl), (rt_inG 1948 (by decide +kernel) rfl), cl_X12, rfl, rfl, rfl⟩
theorem mw_X12_draws : rt_Mw M_X12_draws 1 := ⟨(rt_inG 1929 (by decide +kernel) rfl), (rt_inG 176 (by decide +kernel) rfl), by decide +kernel, ⟨by decide +kernel, by decide +kernel, by decide +kernel⟩, by decide⟩
theorem mi_X12_draws : Cond.instanceMethod (rt_y M_X12_draws) ∈ rt_mG ∧ Cond.selects (rt_R 12) (rt_y M_X12_draws) (rt_y M_X12_draws) ∈ rt_mG ∧ rt_CL 12 ∧ (rt_y M_X12_draws).cls = rt_R 12 ∧ rt_mc M_X12_draws = 0 ∧ rt_ms M_X12_draws = 0 := ⟨(rt_inG 1928 (by decide +kernel) rfl), (rt_inG 158 (by decide +kernel) rfl), cl_X12, rfl, rfl, rfl⟩
theorem mw_X12_fact : rt_Mw M_X12_fact 0 := ⟨(rt_inG 1650 (by decide +kernel) rfl), (rt_inG 176 (by decide +kernel) rfl), by decide +kernel, ⟨by decide +kernel, by decide +kernel, by decide +kernel⟩, by decide⟩
theorem mi_X12_fact : Cond.instanceMethod (rt_y M_X12_fact) ∈ rt_mG ∧ Cond.selects (rt_R 12) (rt_y M_X12_fact) (rt_y M_X12_fact) ∈ rt_mG ∧ rt_CL 12 ∧ (rt_y M_X12_fact).cls = rt_R 12 ∧ rt_mc M_X12_fact = 0 ∧ rt_ms M_X12_fact = 0 := ⟨(rt_inG 1649 (by decide +kernel) rfl), (rt_inG 123 (by decide +kernel) rfl), cl_X12, rfl, rfl, rfl⟩
theorem mw_X12_fails : rt_Mw M_X12_fails 1 := ⟨(rt_inG 1567 (by decide +kernel) rfl), (rt_inG 176 (by decide +kernel) rfl), by decide +kernel, ⟨by decide +kernel, by decide +kernel, by decide +kernel⟩, by decide⟩
theorem mi_X12_fails : Cond.instanceMethod (rt_y M_X12_fails) ∈ rt_mG ∧ Cond.selects (rt_R 12) (rt_y M_X12_fails) (rt_y M_X12_fails) ∈ rt_mG ∧ rt_CL 12 ∧ (rt_y M_X12_fails).cls = rt_R 12 ∧ rt_mc M_X12_fails = 0 ∧ rt_ms M_X12_fails = 0 := ⟨(rt_inG 1566 (by decide +kernel) rfl), (rt_inG 108 (by decide +kernel) rfl), cl_X12, rfl, rfl, rfl⟩
theorem mw_X12_feed : rt_Mw M_X12_feed 3 := ⟨(rt_inG 1531 (by decide +kernel) rfl), (rt_inG 176 (by decide +kernel) rfl), by decide +kernel, ⟨by decide +kernel, by decide +kernel, by decide +kernel⟩, by decide⟩
theorem mi_X12_feed : Cond.instanceMethod (rt_y M_X12_feed) ∈ rt_mG ∧ Cond.selects (rt_R 12) (rt_y M_X12_feed) (rt_y M_X12_feed) ∈ rt_mG ∧ rt_CL 12 ∧ (rt_y M_X12_feed).cls = rt_R 12 ∧ rt_mc M_X12_feed = 0 ∧ rt_ms M_X12_feed = 0 := ⟨(rt_inG 1529 (by decide +kernel) rfl), (rt_inG 1530 (by decide +kernel) rfl), cl_X12, rfl, rfl, rfl⟩
theorem mw_X12_fever : rt_Mw M_X12_fever 0 := ⟨(rt_inG 1937 (by decide +kernel) rfl), (rt_inG 176 (by decide +kernel) rfl), by decide +kernel, ⟨by decide +kernel, by decide +kernel, by decide +kernel⟩, by decide⟩
theorem mi_X12_fever : Cond.instanceMethod (rt_y M_X12_fever) ∈ rt_mG ∧ Cond.selects (rt_R 12) (rt_y M_X12_fever) (rt_y M_X12_fever) ∈ rt_mG ∧ rt_CL 12 ∧ (rt_y M_X12_fever).cls = rt_R 12 ∧ rt_mc M_X12_fever = 0 ∧ rt_ms M_X12_fever = 0 := ⟨(rt_inG 1936 (by decide +kernel) rfl), (rt_inG 159 (by decide +kernel) rfl), cl_X12, rfl, rfl, rfl⟩
theorem mw_X12_fill : rt_Mw M_X12_fill 2 := ⟨(rt_inG 1817 (by decide +kernel) rfl), (rt_inG 176 (by decide +kernel) rfl), by decide +kernel, ⟨by decide +kernel, by decide +kernel, by decide +kernel⟩, by decide⟩
theorem mi_X12_fill : Cond.instanceMethod (rt_y M_X12_fill) ∈ rt_mG ∧ Cond.selects (rt_R 12) (rt_y M_X12_fill) (rt_y M_X12_fill) ∈ rt_mG ∧ rt_CL 12 ∧ (rt_y M_X12_fill).cls = rt_R 12 ∧ rt_mc M_X12_fill = 0 ∧ rt_ms M_X12_fill = 0 := ⟨(rt_inG 1815 (by decide +kernel) rfl), (rt_inG 1816 (by decide +kernel) rfl), cl_X12, rfl, rfl, rfl⟩
theorem mw_X12_fillsFrom : rt_Mw M_X12_fillsFrom 3 := ⟨(rt_inG 1825 (by decide +kernel) rfl), (rt_inG 176 (by decide +kernel) rfl), by decide +kernel, ⟨by decide +kernel, by decide +kernel, by decide +kernel⟩, by decide⟩
theorem mi_X12_fillsFrom : Cond.instanceMethod (rt_y M_X12_fillsFrom) ∈ rt_mG ∧ Cond.selects (rt_R 12) (rt_y M_X12_fillsFrom) (rt_y M_X12_fillsFrom) ∈ rt_mG ∧ rt_CL 12 ∧ (rt_y M_X12_fillsFrom).cls = rt_R 12 ∧ rt_mc M_X12_fillsFrom = 0 ∧ rt_ms M_X12_fillsFrom = 0 := ⟨(rt_inG 1824 (by decide +kernel) rfl), (rt_inG 148 (by decide +kernel) rfl), cl_X12, rfl, rfl, rfl⟩
theorem mw_X12_fits : rt_Mw M_X12_fits 3 := ⟨(rt_inG 1733 (by decide +kernel) rfl), (rt_inG 176 (by decide +kernel) rfl), by decide +kernel, ⟨by decide +kernel, by decide +kernel, by decide +kernel⟩, by decide⟩
theorem mi_X12_fits : Cond.instanceMethod (rt_y M_X12_fits) ∈ rt_mG ∧ Cond.selects (rt_R 12) (rt_y M_X12_fits) (rt_y M_X12_fits) ∈ rt_mG ∧ rt_CL 12 ∧ (rt_y M_X12_fits).cls = rt_R 12 ∧ rt_mc M_X12_fits = 0 ∧ rt_ms M_X12_fits = 0 := ⟨(rt_inG 1731 (by decide +kernel) rfl), (rt_inG 1732 (by decide +kernel) rfl), cl_X12, rfl, rfl, rfl⟩
theorem mw_X12_fitsAll : rt_Mw M_X12_fitsAll 2 := ⟨(rt_inG 1821 (by decide +kernel) rfl), (rt_inG 176 (by decide +kernel) rfl), by decide +kernel, ⟨by decide +kernel, by decide +kernel, by decide +kernel⟩, by decide⟩
theorem mi_X12_fitsAll : Cond.instanceMethod (rt_y M_X12_fitsAll) ∈ rt_mG ∧ Cond.selects (rt_R 12) (rt_y M_X12_fitsAll) (rt_y M_X12_fitsAll) ∈ rt_mG ∧ rt_CL 12 ∧ (rt_y M_X12_fitsAll).cls = rt_R 12 ∧ rt_mc M_X12_fitsAll = 0 ∧ rt_ms M_X12_fitsAll = 0 := ⟨(rt_inG 1820 (by decide +kernel) rfl), (rt_inG 147 (by decide +kernel) rfl), cl_X12, rfl, rfl, rfl⟩
theorem mw_X12_fitsIn : rt_Mw M_X12_fitsIn 3 := ⟨(rt_inG 1737 (by decide +kernel) rfl), (rt_inG 176 (by decide +kernel) rfl), by decide +kernel, ⟨by decide +kernel, by decide +kernel, by decide +kernel⟩, by decide⟩
theorem mi_X12_fitsIn : Cond.instanceMethod (rt_y M_X12_fitsIn) ∈ rt_mG ∧ Cond.selects (rt_R 12) (rt_y M_X12_fitsIn) (rt_y M_X12_fitsIn) ∈ rt_mG ∧ rt_CL 12 ∧ (rt_y M_X12_fitsIn).cls = rt_R 12 ∧ rt_mc M_X12_fitsIn = 0 ∧ rt_ms M_X12_fitsIn = 0 := ⟨(rt_inG 1736 (by decide +kernel) rfl), (rt_inG 137 (by decide +kernel) rfl), cl_X12, rfl, rfl, rfl⟩
theorem mw_X12_forgets : rt_Mw M_X12_forgets 0 := ⟨(rt_inG 1306 (by decide +kernel) rfl), (rt_inG 176 (by decide +kernel) rfl), by decide +kernel, ⟨by decide +kernel, by decide +kernel, by decide +kernel⟩, by decide⟩
theorem mi_X12_forgets : Cond.instanceMethod (rt_y M_X12_forgets) ∈ rt_mG ∧ Cond.selects (rt_R 12) (rt_y M_X12_forgets) (rt_y M_X12_forgets) ∈ rt_mG ∧ rt_CL 12 ∧ (rt_y M_X12_forgets).cls = rt_R 12 ∧ rt_mc M_X12_forgets = 0 ∧ rt_ms M_X12_forgets = 0 := ⟨(rt_inG 1305 (by decide +kernel) rfl), (rt_inG 101 (by decide +kernel) rfl), cl_X12, rfl, rfl, rfl⟩
theorem mw_X12_fresh : rt_Mw M_X12_fresh 0 := ⟨(rt_inG 1302 (by decide +kernel) rfl), (rt_inG 176 (by decide +kernel) rfl), by decide +kernel, ⟨by decide +kernel, by decide +kernel, by decide +kernel⟩, by decide⟩
theorem mi_X12_fresh : Cond.instanceMethod (rt_y M_X12_fresh) ∈ rt_mG ∧ Cond.selects (rt_R 12) (rt_y M_X12_fresh) (rt_y M_X12_fresh) ∈ rt_mG ∧ rt_CL 12 ∧ (rt_y M_X12_fresh).cls = rt_R 12 ∧ rt_mc M_X12_fresh = 0 ∧ rt_ms M_X12_fresh = 0 := ⟨(rt_inG 1301 (by decide +kernel) rfl), (rt_inG 100 (by decide +kernel) rfl), cl_X12, rfl, rfl, rfl⟩
theorem mw_X12_getsBy : rt_Mw M_X12_getsBy 4 := ⟨(rt_inG 1909 (by decide +kernel) rfl), (rt_inG 176 (by decide +kernel) rfl), by decide +kernel, ⟨by decide +kernel, by decide +kernel, by decide +kernel⟩, by decide⟩
theorem mi_X12_getsBy : Cond.static (rt_y M_X12_getsBy) ∈ rt_mG ∧ rt_mc M_X12_getsBy = 0 ∧ rt_ms M_X12_getsBy = 0 := ⟨(rt_inG 1908 (by decide +kernel) rfl), rfl, rfl⟩
theorem mw_X12_girthIn : rt_Mw M_X12_girthIn 2 := ⟨(rt_inG 1702 (by decide +kernel) rfl), (rt_inG 176 (by decide +kernel) rfl), by decide +kernel, ⟨by decide +kernel, by decide +kernel, by decide +kernel⟩, by decide⟩
theorem mi_X12_girthIn : Cond.instanceMethod (rt_y M_X12_girthIn) ∈ rt_mG ∧ Cond.selects (rt_R 12) (rt_y M_X12_girthIn) (rt_y M_X12_girthIn) ∈ rt_mG ∧ rt_CL 12 ∧ (rt_y M_X12_girthIn).cls = rt_R 12 ∧ rt_mc M_X12_girthIn = 0 ∧ rt_ms M_X12_girthIn = 0 := ⟨(rt_inG 1701 (by decide +kernel) rfl), (rt_inG 130 (by decide +kernel) rfl), cl_X12, rfl, rfl, rfl⟩
theorem mw_X12_goes : rt_Mw M_X12_goes 1 := ⟨(rt_inG 1785 (by decide +kernel) rfl), (rt_inG 176 (by decide +kernel) rfl), by decide +kernel, ⟨by decide +kernel, by decide +kernel, by decide +kernel⟩, by decide⟩
theorem mi_X12_goes : Cond.instanceMethod (rt_y M_X12_goes) ∈ rt_mG ∧ Cond.selects (rt_R 12) (rt_y M_X12_goes) (rt_y M_X12_goes) ∈ rt_mG ∧ rt_CL 12 ∧ (rt_y M_X12_goes).cls = rt_R 12 ∧ rt_mc M_X12_goes = 0 ∧ rt_ms M_X12_goes = 0 := ⟨(rt_inG 1784 (by decide +kernel) rfl), (rt_inG 142 (by decide +kernel) rfl), cl_X12, rfl, rfl, rfl⟩
theorem mw_X12_head : rt_Mw M_X12_head 2 := ⟨(rt_inG 1694 (by decide +kernel) rfl), (rt_inG 176 (by decide +kernel) rfl), by decide +kernel, ⟨by decide +kernel, by decide +kernel, by decide +kernel⟩, by decide⟩
theorem mi_X12_head : Cond.instanceMethod (rt_y M_X12_head) ∈ rt_mG ∧ Cond.selects (rt_R 12) (rt_y M_X12_head) (rt_y M_X12_head) ∈ rt_mG ∧ rt_CL 12 ∧ (rt_y M_X12_head).cls = rt_R 12 ∧ rt_mc M_X12_head = 0 ∧ rt_ms M_X12_head = 0 := ⟨(rt_inG 1692 (by decide +kernel) rfl), (rt_inG 1693 (by decide +kernel) rfl), cl_X12, rfl, rfl, rfl⟩
theorem mw_X12_headNamed : rt_Mw M_X12_headNamed 1 := ⟨(rt_inG 1603 (by decide +kernel) rfl), (rt_inG 176 (by decide +kernel) rfl), by decide +kernel, ⟨by decide +kernel, by decide +kernel, by decide +kernel⟩, by decide⟩
theorem mi_X12_headNamed : Cond.instanceMethod (rt_y M_X12_headNamed) ∈ rt_mG ∧ Cond.selects (rt_R 12) (rt_y M_X12_headNamed) (rt_y M_X12_headNamed) ∈ rt_mG ∧ rt_CL 12 ∧ (rt_y M_X12_headNamed).cls = rt_R 12 ∧ rt_mc M_X12_headNamed = 0 ∧ rt_ms M_X12_headNamed = 0 := ⟨(rt_inG 1602 (by decide +kernel) rfl), (rt_inG 112 (by decide +kernel) rfl), cl_X12, rfl, rfl, rfl⟩
theorem mw_X12_heatIn : rt_Mw M_X12_heatIn 1 := ⟨(rt_inG 1706 (by decide +kernel) rfl), (rt_inG 176 (by decide +kernel) rfl), by decide +kernel, ⟨by decide +kernel, by decide +kernel, by decide +kernel⟩, by decide⟩
theorem mi_X12_heatIn : Cond.instanceMethod (rt_y M_X12_heatIn) ∈ rt_mG ∧ Cond.selects (rt_R 12) (rt_y M_X12_heatIn) (rt_y M_X12_heatIn) ∈ rt_mG ∧ rt_CL 12 ∧ (rt_y M_X12_heatIn).cls = rt_R 12 ∧ rt_mc M_X12_heatIn = 0 ∧ rt_ms M_X12_heatIn = 0 := ⟨(rt_inG 1705 (by decide +kernel) rfl), (rt_inG 131 (by decide +kernel) rfl), cl_X12, rfl, rfl, rfl⟩
theorem mw_X12_holds : rt_Mw M_X12_holds 0 := ⟨(rt_inG 1753 (by decide +kernel) rfl), (rt_inG 176 (by decide +kernel) rfl), by decide +kernel, ⟨by decide +kernel, by decide +kernel, by decide +kernel⟩, by decide⟩
theorem mi_X12_holds : Cond.instanceMethod (rt_y M_X12_holds) ∈ rt_mG ∧ Cond.selects (rt_R 12) (rt_y M_X12_holds) (rt_y M_X12_holds) ∈ rt_mG ∧ rt_CL 12 ∧ (rt_y M_X12_holds).cls = rt_R 12 ∧ rt_mc M_X12_holds = 0 ∧ rt_ms M_X12_holds = 0 := ⟨(rt_inG 1752 (by decide +kernel) rfl), (rt_inG 140 (by decide +kernel) rfl), cl_X12, rfl, rfl, rfl⟩
theorem mw_X12_horsehair : rt_Mw M_X12_horsehair 4 := ⟨(rt_inG 1913 (by decide +kernel) rfl), (rt_inG 176 (by decide +kernel) rfl), by decide +kernel, ⟨by decide +kernel, by decide +kernel, by decide +kernel⟩, by decide⟩
theorem mi_X12_horsehair : Cond.instanceMethod (rt_y M_X12_horsehair) ∈ rt_mG ∧ Cond.selects (rt_R 12) (rt_y M_X12_horsehair) (rt_y M_X12_horsehair) ∈ rt_mG ∧ rt_CL 12 ∧ (rt_y M_X12_horsehair).cls = rt_R 12 ∧ rt_mc M_X12_horsehair = 0 ∧ rt_ms M_X12_horsehair = 0 := ⟨(rt_inG 1911 (by decide +kernel) rfl), (rt_inG 1912 (by decide +kernel) rfl), cl_X12, rfl, rfl, rfl⟩
theorem mw_X12_isAhead : rt_Mw M_X12_isAhead 3 := ⟨(rt_inG 1899 (by decide +kernel) rfl), (rt_inG 176 (by decide +kernel) rfl), by decide +kernel, ⟨by decide +kernel, by decide +kernel, by decide +kernel⟩, by decide⟩
theorem mi_X12_isAhead : Cond.instanceMethod (rt_y M_X12_isAhead) ∈ rt_mG ∧ Cond.selects (rt_R 12) (rt_y M_X12_isAhead) (rt_y M_X12_isAhead) ∈ rt_mG ∧ rt_CL 12 ∧ (rt_y M_X12_isAhead).cls = rt_R 12 ∧ rt_mc M_X12_isAhead = 0 ∧ rt_ms M_X12_isAhead = 0 := ⟨(rt_inG 1898 (by decide +kernel) rfl), (rt_inG 156 (by decide +kernel) rfl), cl_X12, rfl, rfl, rfl⟩
theorem mw_X12_isAsSaid : rt_Mw M_X12_isAsSaid 1 := ⟨(rt_inG 1837 (by decide +kernel) rfl), (rt_inG 176 (by decide +kernel) rfl), by decide +kernel, ⟨by decide +kernel, by decide +kernel, by decide +kernel⟩, by decide⟩
theorem mi_X12_isAsSaid : Cond.instanceMethod (rt_y M_X12_isAsSaid) ∈ rt_mG ∧ Cond.selects (rt_R 12) (rt_y M_X12_isAsSaid) (rt_y M_X12_isAsSaid) ∈ rt_mG ∧ rt_CL 12 ∧ (rt_y M_X12_isAsSaid).cls = rt_R 12 ∧ rt_mc M_X12_isAsSaid = 0 ∧ rt_ms M_X12_isAsSaid = 0 := ⟨(rt_inG 1836 (by decide +kernel) rfl), (rt_inG 149 (by decide +kernel) rfl), cl_X12, rfl, rfl, rfl⟩
theorem mw_X12_isFor : rt_Mw M_X12_isFor 3 := ⟨(rt_inG 1805 (by decide +kernel) rfl), (rt_inG 176 (by decide +kernel) rfl), by decide +kernel, ⟨by decide +kernel, by decide +kernel, by decide +kernel⟩, by decide⟩
theorem mi_X12_isFor : Cond.instanceMethod (rt_y M_X12_isFor) ∈ rt_mG ∧ Cond.selects (rt_R 12) (rt_y M_X12_isFor) (rt_y M_X12_isFor) ∈ rt_mG ∧ rt_CL 12 ∧ (rt_y M_X12_isFor).cls = rt_R 12 ∧ rt_mc M_X12_isFor = 0 ∧ rt_ms M_X12_isFor = 0 := ⟨(rt_inG 1804 (by decide +kernel) rfl), (rt_inG 146 (by decide +kernel) rfl), cl_X12, rfl, rfl, rfl⟩
theorem mw_X12_isHead : rt_Mw M_X12_isHead 1 := ⟨(rt_inG 1698 (by decide +kernel) rfl), (rt_inG 176 (by decide +kernel) rfl), by decide +kernel, ⟨by decide +kernel, by decide +kernel, by decide +kernel⟩, by decide⟩
theorem mi_X12_isHead : Cond.instanceMethod (rt_y M_X12_isHead) ∈ rt_mG ∧ Cond.selects (rt_R 12) (rt_y M_X12_isHead) (rt_y M_X12_isHead) ∈ rt_mG ∧ rt_CL 12 ∧ (rt_y M_X12_isHead).cls = rt_R 12 ∧ rt_mc M_X12_isHead = 0 ∧ rt_ms M_X12_isHead = 0 := ⟨(rt_inG 1697 (by decide +kernel) rfl), (rt_inG 129 (by decide +kernel) rfl), cl_X12, rfl, rfl, rfl⟩
theorem mw_X12_isKept : rt_Mw M_X12_isKept 0 := ⟨(rt_inG 1575 (by decide +kernel) rfl), (rt_inG 176 (by decide +kernel) rfl), by decide +kernel, ⟨by decide +kernel, by decide +kernel, by decide +kernel⟩, by decide⟩
theorem mi_X12_isKept : Cond.instanceMethod (rt_y M_X12_isKept) ∈ rt_mG ∧ Cond.selects (rt_R 12) (rt_y M_X12_isKept) (rt_y M_X12_isKept) ∈ rt_mG ∧ rt_CL 12 ∧ (rt_y M_X12_isKept).cls = rt_R 12 ∧ rt_mc M_X12_isKept = 0 ∧ rt_ms M_X12_isKept = 0 := ⟨(rt_inG 1574 (by decide +kernel) rfl), (rt_inG 110 (by decide +kernel) rfl), cl_X12, rfl, rfl, rfl⟩
theorem mw_X12_isRest : rt_Mw M_X12_isRest 4 := ⟨(rt_inG 1906 (by decide +kernel) rfl), (rt_inG 176 (by decide +kernel) rfl), by decide +kernel, ⟨by decide +kernel, by decide +kernel, by decide +kernel⟩, by decide⟩
theorem mi_X12_isRest : Cond.static (rt_y M_X12_isRest) ∈ rt_mG ∧ rt_mc M_X12_isRest = 0 ∧ rt_ms M_X12_isRest = 0 := ⟨(rt_inG 1905 (by decide +kernel) rfl), rfl, rfl⟩
theorem mw_X12_isSign : rt_Mw M_X12_isSign 1 := ⟨(rt_inG 1626 (by decide +kernel) rfl), (rt_inG 176 (by decide +kernel) rfl), by decide +kernel, ⟨by decide +kernel, by decide +kernel, by decide +kernel⟩, by decide⟩
theorem mi_X12_isSign : Cond.instanceMethod (rt_y M_X12_isSign) ∈ rt_mG ∧ Cond.selects (rt_R 12) (rt_y M_X12_isSign) (rt_y M_X12_isSign) ∈ rt_mG ∧ rt_CL 12 ∧ (rt_y M_X12_isSign).cls = rt_R 12 ∧ rt_mc M_X12_isSign = 0 ∧ rt_ms M_X12_isSign = 0 := ⟨(rt_inG 1625 (by decide +kernel) rfl), (rt_inG 117 (by decide +kernel) rfl), cl_X12, rfl, rfl, rfl⟩
theorem mw_X12_isWig : rt_Mw M_X12_isWig 1 := ⟨(rt_inG 1690 (by decide +kernel) rfl), (rt_inG 176 (by decide +kernel) rfl), by decide +kernel, ⟨by decide +kernel, by decide +kernel, by decide +kernel⟩, by decide⟩
theorem mi_X12_isWig : Cond.instanceMethod (rt_y M_X12_isWig) ∈ rt_mG ∧ Cond.selects (rt_R 12) (rt_y M_X12_isWig) (rt_y M_X12_isWig) ∈ rt_mG ∧ rt_CL 12 ∧ (rt_y M_X12_isWig).cls = rt_R 12 ∧ rt_mc M_X12_isWig = 0 ∧ rt_ms M_X12_isWig = 0 := ⟨(rt_inG 1689 (by decide +kernel) rfl), (rt_inG 128 (by decide +kernel) rfl), cl_X12, rfl, rfl, rfl⟩
theorem mw_X12_isWord : rt_Mw M_X12_isWord 1 := ⟨(rt_inG 1559 (by decide +kernel) rfl), (rt_inG 176 (by decide +kernel) rfl), by decide +kernel, ⟨by decide +kernel, by decide +kernel, by decide +kernel⟩, by decide⟩
theorem mi_X12_isWord : Cond.instanceMethod (rt_y M_X12_isWord) ∈ rt_mG ∧ Cond.selects (rt_R 12) (rt_y M_X12_isWord) (rt_y M_X12_isWord) ∈ rt_mG ∧ rt_CL 12 ∧ (rt_y M_X12_isWord).cls = rt_R 12 ∧ rt_mc M_X12_isWord = 0 ∧ rt_ms M_X12_isWord = 0 := ⟨(rt_inG 1558 (by decide +kernel) rfl), (rt_inG 106 (by decide +kernel) rfl), cl_X12, rfl, rfl, rfl⟩
theorem mw_X12_judged : rt_Mw M_X12_judged 1 := ⟨(rt_inG 1781 (by decide +kernel) rfl), (rt_inG 176 (by decide +kernel) rfl), by decide +kernel, ⟨by decide +kernel, by decide +kernel, by decide +kernel⟩, by decide⟩
theorem mi_X12_judged : Cond.instanceMethod (rt_y M_X12_judged) ∈ rt_mG ∧ Cond.selects (rt_R 12) (rt_y M_X12_judged) (rt_y M_X12_judged) ∈ rt_mG ∧ rt_CL 12 ∧ (rt_y M_X12_judged).cls = rt_R 12 ∧ rt_mc M_X12_judged = 0 ∧ rt_ms M_X12_judged = 0 := ⟨(rt_inG 1779 (by decide +kernel) rfl), (rt_inG 1780 (by decide +kernel) rfl), cl_X12, rfl, rfl, rfl⟩
theorem mw_X12_judgedFor : rt_Mw M_X12_judgedFor 1 := ⟨(rt_inG 1801 (by decide +kernel) rfl), (rt_inG 176 (by decide +kernel) rfl), by decide +kernel, ⟨by decide +kernel, by decide +kernel, by decide +kernel⟩, by decide⟩
theorem mi_X12_judgedFor : Cond.instanceMethod (rt_y M_X12_judgedFor) ∈ rt_mG ∧ Cond.selects (rt_R 12) (rt_y M_X12_judgedFor) (rt_y M_X12_judgedFor) ∈ rt_mG ∧ rt_CL 12 ∧ (rt_y M_X12_judgedFor).cls = rt_R 12 ∧ rt_mc M_X12_judgedFor = 0 ∧ rt_ms M_X12_judgedFor = 0 := ⟨(rt_inG 1800 (by decide +kernel) rfl), (rt_inG 145 (by decide +kernel) rfl), cl_X12, rfl, rfl, rfl⟩
theorem mw_X12_keeps : rt_Mw M_X12_keeps 1 := ⟨(rt_inG 1851 (by decide +kernel) rfl), (rt_inG 176 (by decide +kernel) rfl), by decide +kernel, ⟨by decide +kernel, by decide +kernel, by decide +kernel⟩, by decide⟩
theorem mi_X12_keeps : Cond.instanceMethod (rt_y M_X12_keeps) ∈ rt_mG ∧ Cond.selects (rt_R 12) (rt_y M_X12_keeps) (rt_y M_X12_keeps) ∈ rt_mG ∧ rt_CL 12 ∧ (rt_y M_X12_keeps).cls = rt_R 12 ∧ rt_mc M_X12_keeps = 0 ∧ rt_ms M_X12_keeps = 0 := ⟨(rt_inG 1849 (by decide +kernel) rfl), (rt_inG 1850 (by decide +kernel) rfl), cl_X12, rfl, rfl, rfl⟩
theorem mw_X12_lays : rt_Mw M_X12_lays 0 := ⟨(rt_inG 1664 (by decide +kernel) rfl), (rt_inG 176 (by decide +kernel) rfl), by decide +kernel, ⟨by decide +kernel, by decide +kernel, by decide +kernel⟩, by decide⟩
theorem mi_X12_lays : Cond.instanceMethod (rt_y M_X12_lays) ∈ rt_mG ∧ Cond.selects (rt_R 12) (rt_y M_X12_lays) (rt_y M_X12_lays) ∈ rt_mG ∧ rt_CL 12 ∧ (rt_y M_X12_lays).cls = rt_R 12 ∧ rt_mc M_X12_lays = 0 ∧ rt_ms M_X12_lays = 0 := ⟨(rt_inG 1663 (by decide +kernel) rfl), (rt_inG 125 (by decide +kernel) rfl), cl_X12, rfl, rfl, rfl⟩
theorem mw_X12_laysLines : rt_Mw M_X12_laysLines 2 := ⟨(rt_inG 1682 (by decide +kernel) rfl), (rt_inG 176 (by decide +kernel) rfl), by decide +kernel, ⟨by decide +kernel, by decide +kernel, by decide +kernel⟩, by decide⟩
theorem mi_X12_laysLines : Cond.instanceMethod (rt_y M_X12_laysLines) ∈ rt_mG ∧ Cond.selects (rt_R 12) (rt_y M_X12_laysLines) (rt_y M_X12_laysLines) ∈ rt_mG ∧ rt_CL 12 ∧ (rt_y M_X12_laysLines).cls = rt_R 12 ∧ rt_mc M_X12_laysLines = 0 ∧ rt_ms M_X12_laysLines = 0 := ⟨(rt_inG 1681 (by decide +kernel) rfl), (rt_inG 127 (by decide +kernel) rfl), cl_X12, rfl, rfl, rfl⟩
theorem mw_X12_laysMatch : rt_Mw M_X12_laysMatch 0 := ⟨(rt_inG 1891 (by decide +kernel) rfl), (rt_inG 176 (by decide +kernel) rfl), by decide +kernel, ⟨by decide +kernel, by decide +kernel, by decide +kernel⟩, by decide⟩
theorem mi_X12_laysMatch : Cond.instanceMethod (rt_y M_X12_laysMatch) ∈ rt_mG ∧ Cond.selects (rt_R 12) (rt_y M_X12_laysMatch) (rt_y M_X12_laysMatch) ∈ rt_mG ∧ rt_CL 12 ∧ (rt_y M_X12_laysMatch).cls = rt_R 12 ∧ rt_mc M_X12_laysMatch = 0 ∧ rt_ms M_X12_laysMatch = 0 := ⟨(rt_inG 1890 (by decide +kernel) rfl), (rt_inG 154 (by decide +kernel) rfl), cl_X12, rfl, rfl, rfl⟩
theorem mw_X12_laysSaid : rt_Mw M_X12_laysSaid 2 := ⟨(rt_inG 1945 (by decide +kernel) rfl), (rt_inG 176 (by decide +kernel) rfl), by decide +kernel, ⟨by decide +kernel, by decide +kernel, by decide +kernel⟩, by decide⟩
theorem mi_X12_laysSaid : Cond.instanceMethod (rt_y M_X12_laysSaid) ∈ rt_mG ∧ Cond.selects (rt_R 12) (rt_y M_X12_laysSaid) (rt_y M_X12_laysSaid) ∈ rt_mG ∧ rt_CL 12 ∧ (rt_y M_X12_laysSaid).cls = rt_R 12 ∧ rt_mc M_X12_laysSaid = 0 ∧ rt_ms M_X12_laysSaid = 0 := ⟨(rt_inG 1944 (by decide +kernel) rfl), (rt_inG 160 (by decide +kernel) rfl), cl_X12, rfl, rfl, rfl⟩
theorem mw_X12_laysUnder : rt_Mw M_X12_laysUnder 1 := ⟨(rt_inG 1875 (by decide +kernel) rfl), (rt_inG 176 (by decide +kernel) rfl), by decide +kernel, ⟨by decide +kernel, by decide +kernel, by decide +kernel⟩, by decide⟩
theorem mi_X12_laysUnder : Cond.instanceMethod (rt_y M_X12_laysUnder) ∈ rt_mG ∧ Cond.selects (rt_R 12) (rt_y M_X12_laysUnder) (rt_y M_X12_laysUnder) ∈ rt_mG ∧ rt_CL 12 ∧ (rt_y M_X12_laysUnder).cls = rt_R 12 ∧ rt_mc M_X12_laysUnder = 0 ∧ rt_ms M_X12_laysUnder = 0 := ⟨(rt_inG 1874 (by decide +kernel) rfl), (rt_inG 152 (by decide +kernel) rfl), cl_X12, rfl, rfl, rfl⟩
theorem mw_X12_leans : rt_Mw M_X12_leans 1 := ⟨(rt_inG 1833 (by decide +kernel) rfl), (rt_inG 176 (by decide +kernel) rfl), by decide +kernel, ⟨by decide +kernel, by decide +kernel, by decide +kernel⟩, by decide⟩
theorem mi_X12_leans : Cond.instanceMethod (rt_y M_X12_leans) ∈ rt_mG ∧ Cond.selects (rt_R 12) (rt_y M_X12_leans) (rt_y M_X12_leans) ∈ rt_mG ∧ rt_CL 12 ∧ (rt_y M_X12_leans).cls = rt_R 12 ∧ rt_mc M_X12_leans = 0 ∧ rt_ms M_X12_leans = 0 := ⟨(rt_inG 1831 (by decide +kernel) rfl), (rt_inG 1832 (by decide +kernel) rfl), cl_X12, rfl, rfl, rfl⟩
theorem mw_X12_livesSeason : rt_Mw M_X12_livesSeason 0 := ⟨(rt_inG 1925 (by decide +kernel) rfl), (rt_inG 176 (by decide +kernel) rfl), by decide +kernel, ⟨by decide +kernel, by decide +kernel, by decide +kernel⟩, by decide⟩
theorem mi_X12_livesSeason : Cond.instanceMethod (rt_y M_X12_livesSeason) ∈ rt_mG ∧ Cond.selects (rt_R 12) (rt_y M_X12_livesSeason) (rt_y M_X12_livesSeason) ∈ rt_mG ∧ rt_CL 12 ∧ (rt_y M_X12_livesSeason).cls = rt_R 12 ∧ rt_mc M_X12_livesSeason = 0 ∧ rt_ms M_X12_livesSeason = 0 := ⟨(rt_inG 1924 (by decide +kernel) rfl), (rt_inG 157 (by decide +kernel) rfl), cl_X12, rfl, rfl, rfl⟩
theorem mw_X12_mark : rt_Mw M_X12_mark 2 := ⟨(rt_inG 1941 (by decide +kernel) rfl), (rt_inG 176 (by decide +kernel) rfl), by decide +kernel, ⟨by decide +kernel, by decide +kernel, by decide +kernel⟩, by decide⟩
theorem mi_X12_mark : Cond.instanceMethod (rt_y M_X12_mark) ∈ rt_mG ∧ Cond.selects (rt_R 12) (rt_y M_X12_mark) (rt_y M_X12_mark) ∈ rt_mG ∧ rt_CL 12 ∧ (rt_y M_X12_mark).cls = rt_R 12 ∧ rt_mc M_X12_mark = 0 ∧ rt_ms M_X12_mark = 0 := ⟨(rt_inG 1939 (by decide +kernel) rfl), (rt_inG 1940 (by decide +kernel) rfl), cl_X12, rfl, rfl, rfl⟩
theorem mw_X12_match : rt_Mw M_X12_match 1 := ⟨(rt_inG 1887 (by decide +kernel) rfl), (rt_inG 176 (by decide +kernel) rfl), by decide +kernel, ⟨by decide +kernel, by decide +kernel, by decide +kernel⟩, by decide⟩
theorem mi_X12_match : Cond.instanceMethod (rt_y M_X12_match) ∈ rt_mG ∧ Cond.selects (rt_R 12) (rt_y M_X12_match) (rt_y M_X12_match) ∈ rt_mG ∧ rt_CL 12 ∧ (rt_y M_X12_match).cls = rt_R 12 ∧ rt_mc M_X12_match = 0 ∧ rt_ms M_X12_match = 0 := ⟨(rt_inG 1885 (by decide +kernel) rfl), (rt_inG 1886 (by decide +kernel) rfl), cl_X12, rfl, rfl, rfl⟩
theorem mw_X12_mend : rt_Mw M_X12_mend 1 := ⟨(rt_inG 1764 (by decide +kernel) rfl), (rt_inG 176 (by decide +kernel) rfl), by decide +kernel, ⟨by decide +kernel, by decide +kernel, by decide +kernel⟩, by decide⟩
theorem mi_X12_mend : Cond.instanceMethod (rt_y M_X12_mend) ∈ rt_mG ∧ Cond.selects (rt_R 12) (rt_y M_X12_mend) (rt_y M_X12_mend) ∈ rt_mG ∧ rt_CL 12 ∧ (rt_y M_X12_mend).cls = rt_R 12 ∧ rt_mc M_X12_mend = 0 ∧ rt_ms M_X12_mend = 0 := ⟨(rt_inG 1762 (by decide +kernel) rfl), (rt_inG 1763 (by decide +kernel) rfl), cl_X12, rfl, rfl, rfl⟩
theorem mw_X12_mendsFrom : rt_Mw M_X12_mendsFrom 2 := ⟨(rt_inG 1859 (by decide +kernel) rfl), (rt_inG 176 (by decide +kernel) rfl), by decide +kernel, ⟨by decide +kernel, by decide +kernel, by decide +kernel⟩, by decide⟩
theorem mi_X12_mendsFrom : Cond.instanceMethod (rt_y M_X12_mendsFrom) ∈ rt_mG ∧ Cond.selects (rt_R 12) (rt_y M_X12_mendsFrom) (rt_y M_X12_mendsFrom) ∈ rt_mG ∧ rt_CL 12 ∧ (rt_y M_X12_mendsFrom).cls = rt_R 12 ∧ rt_mc M_X12_mendsFrom = 0 ∧ rt_ms M_X12_mendsFrom = 0 := ⟨(rt_inG 1858 (by decide +kernel) rfl), (rt_inG 150 (by decide +kernel) rfl), cl_X12, rfl, rfl, rfl⟩
theorem mw_X12_moths : rt_Mw M_X12_moths 2 := ⟨(rt_inG 1855 (by decide +kernel) rfl), (rt_inG 176 (by decide +kernel) rfl), by decide +kernel, ⟨by decide +kernel, by decide +kernel, by decide +kernel⟩, by decide⟩
theorem mi_X12_moths : Cond.instanceMethod (rt_y M_X12_moths) ∈ rt_mG ∧ Cond.selects (rt_R 12) (rt_y M_X12_moths) (rt_y M_X12_moths) ∈ rt_mG ∧ rt_CL 12 ∧ (rt_y M_X12_moths).cls = rt_R 12 ∧ rt_mc M_X12_moths = 0 ∧ rt_ms M_X12_moths = 0 := ⟨(rt_inG 1853 (by decide +kernel) rfl), (rt_inG 1854 (by decide +kernel) rfl), cl_X12, rfl, rfl, rfl⟩
theorem mw_X12_needsBoth : rt_Mw M_X12_needsBoth 3 := ⟨(rt_inG 1607 (by decide +kernel) rfl), (rt_inG 176 (by decide +kernel) rfl), by decide +kernel, ⟨by decide +kernel, by decide +kernel, by decide +kernel⟩, by decide⟩
theorem mi_X12_needsBoth : Cond.instanceMethod (rt_y M_X12_needsBoth) ∈ rt_mG ∧ Cond.selects (rt_R 12) (rt_y M_X12_needsBoth) (rt_y M_X12_needsBoth) ∈ rt_mG ∧ rt_CL 12 ∧ (rt_y M_X12_needsBoth).cls = rt_R 12 ∧ rt_mc M_X12_needsBoth = 0 ∧ rt_ms M_X12_needsBoth = 0 := ⟨(rt_inG 1606 (by decide +kernel) rfl), (rt_inG 113 (by decide +kernel) rfl), cl_X12, rfl, rfl, rfl⟩
theorem mw_X12_needsNew : rt_Mw M_X12_needsNew 0 := ⟨(rt_inG 1571 (by decide +kernel) rfl), (rt_inG 176 (by decide +kernel) rfl), by decide +kernel, ⟨by decide +kernel, by decide +kernel, by decide +kernel⟩, by decide⟩
theorem mi_X12_needsNew : Cond.instanceMethod (rt_y M_X12_needsNew) ∈ rt_mG ∧ Cond.selects (rt_R 12) (rt_y M_X12_needsNew) (rt_y M_X12_needsNew) ∈ rt_mG ∧ rt_CL 12 ∧ (rt_y M_X12_needsNew).cls = rt_R 12 ∧ rt_mc M_X12_needsNew = 0 ∧ rt_ms M_X12_needsNew = 0 := ⟨(rt_inG 1570 (by decide +kernel) rfl), (rt_inG 109 (by decide +kernel) rfl), cl_X12, rfl, rfl, rfl⟩
theorem mw_X12_needsNumber : rt_Mw M_X12_needsNumber 2 := ⟨(rt_inG 1615 (by decide +kernel) rfl), (rt_inG 176 (by decide +kernel) rfl), by decide +kernel, ⟨by decide +kernel, by decide +kernel, by decide +kernel⟩, by decide⟩
theorem mi_X12_needsNumber : Cond.instanceMethod (rt_y M_X12_needsNumber) ∈ rt_mG ∧ Cond.selects (rt_R 12) (rt_y M_X12_needsNumber) (rt_y M_X12_needsNumber) ∈ rt_mG ∧ rt_CL 12 ∧ (rt_y M_X12_needsNumber).cls = rt_R 12 ∧ rt_mc M_X12_needsNumber = 0 ∧ rt_ms M_X12_needsNumber = 0 := ⟨(rt_inG 1614 (by decide +kernel) rfl), (rt_inG 115 (by decide +kernel) rfl), cl_X12, rfl, rfl, rfl⟩
theorem mw_X12_needsWord : rt_Mw M_X12_needsWord 1 := ⟨(rt_inG 1611 (by decide +kernel) rfl), (rt_inG 176 (by decide +kernel) rfl), by decide +kernel, ⟨by decide +kernel, by decide +kernel, by decide +kernel⟩, by decide⟩
theorem mi_X12_needsWord : Cond.instanceMethod (rt_y M_X12_needsWord) ∈ rt_mG ∧ Cond.selects (rt_R 12) (rt_y M_X12_needsWord) (rt_y M_X12_needsWord) ∈ rt_mG ∧ rt_CL 12 ∧ (rt_y M_X12_needsWord).cls = rt_R 12 ∧ rt_mc M_X12_needsWord = 0 ∧ rt_ms M_X12_needsWord = 0 := ⟨(rt_inG 1610 (by decide +kernel) rfl), (rt_inG 114 (by decide +kernel) rfl), cl_X12, rfl, rfl, rfl⟩
theorem mw_X12_next : rt_Mw M_X12_next 1 := ⟨(rt_inG 1841 (by decide +kernel) rfl), (rt_inG 176 (by decide +kernel) rfl), by decide +kernel, ⟨by decide +kernel, by decide +kernel, by decide +kernel⟩, by decide⟩
theorem mi_X12_next : Cond.instanceMethod (rt_y M_X12_next) ∈ rt_mG ∧ Cond.selects (rt_R 12) (rt_y M_X12_next) (rt_y M_X12_next) ∈ rt_mG ∧ rt_CL 12 ∧ (rt_y M_X12_next).cls = rt_R 12 ∧ rt_mc M_X12_next = 0 ∧ rt_ms M_X12_next = 0 := ⟨(rt_inG 1839 (by decide +kernel) rfl), (rt_inG 1840 (by decide +kernel) rfl), cl_X12, rfl, rfl, rfl⟩
theorem mw_X12_nextToken : rt_Mw M_X12_nextToken 0 := ⟨(rt_inG 1548 (by decide +kernel) rfl), (rt_inG 176 (by decide +kernel) rfl), by decide +kernel, ⟨by decide +kernel, by decide +kernel, by decide +kernel⟩, by decide⟩
theorem mi_X12_nextToken : Cond.instanceMethod (rt_y M_X12_nextToken) ∈ rt_mG ∧ Cond.selects (rt_R 12) (rt_y M_X12_nextToken) (rt_y M_X12_nextToken) ∈ rt_mG ∧ rt_CL 12 ∧ (rt_y M_X12_nextToken).cls = rt_R 12 ∧ rt_mc M_X12_nextToken = 0 ∧ rt_ms M_X12_nextToken = 0 := ⟨(rt_inG 1547 (by decide +kernel) rfl), (rt_inG 104 (by decide +kernel) rfl), cl_X12, rfl, rfl, rfl⟩
theorem mw_X12_off : rt_Mw M_X12_off 1 := ⟨(rt_inG 1760 (by decide +kernel) rfl), (rt_inG 176 (by decide +kernel) rfl), by decide +kernel, ⟨by decide +kernel, by decide +kernel, by decide +kernel⟩, by decide⟩
theorem mi_X12_off : Cond.instanceMethod (rt_y M_X12_off) ∈ rt_mG ∧ Cond.selects (rt_R 12) (rt_y M_X12_off) (rt_y M_X12_off) ∈ rt_mG ∧ rt_CL 12 ∧ (rt_y M_X12_off).cls = rt_R 12 ∧ rt_mc M_X12_off = 0 ∧ rt_ms M_X12_off = 0 := ⟨(rt_inG 1758 (by decide +kernel) rfl), (rt_inG 1759 (by decide +kernel) rfl), cl_X12, rfl, rfl, rfl⟩
theorem mw_X12_officeOf : rt_Mw M_X12_officeOf 1 := ⟨(rt_inG 1793 (by decide +kernel) rfl), (rt_inG 176 (by decide +kernel) rfl), by decide +kernel, ⟨by decide +kernel, by decide +kernel, by decide +kernel⟩, by decide⟩
theorem mi_X12_officeOf : Cond.instanceMethod (rt_y M_X12_officeOf) ∈ rt_mG ∧ Cond.selects (rt_R 12) (rt_y M_X12_officeOf) (rt_y M_X12_officeOf) ∈ rt_mG ∧ rt_CL 12 ∧ (rt_y M_X12_officeOf).cls = rt_R 12 ∧ rt_mc M_X12_officeOf = 0 ∧ rt_ms M_X12_officeOf = 0 := ⟨(rt_inG 1792 (by decide +kernel) rfl), (rt_inG 144 (by decide +kernel) rfl), cl_X12, rfl, rfl, rfl⟩
theorem mw_X12_onHeads : rt_Mw M_X12_onHeads 0 := ⟨(rt_inG 1789 (by decide +kernel) rfl), (rt_inG 176 (by decide +kernel) rfl), by decide +kernel, ⟨by decide +kernel, by decide +kernel, by decide +kernel⟩, by decide⟩
theorem mi_X12_onHeads : Cond.instanceMethod (rt_y M_X12_onHeads) ∈ rt_mG ∧ Cond.selects (rt_R 12) (rt_y M_X12_onHeads) (rt_y M_X12_onHeads) ∈ rt_mG ∧ rt_CL 12 ∧ (rt_y M_X12_onHeads).cls = rt_R 12 ∧ rt_mc M_X12_onHeads = 0 ∧ rt_ms M_X12_onHeads = 0 := ⟨(rt_inG 1788 (by decide +kernel) rfl), (rt_inG 143 (by decide +kernel) rfl), cl_X12, rfl, rfl, rfl⟩
theorem mw_X12_opens : rt_Mw M_X12_opens 1 := ⟨(rt_inG 1714 (by decide +kernel) rfl), (rt_inG 176 (by decide +kernel) rfl), by decide +kernel, ⟨by decide +kernel, by decide +kernel, by decide +kernel⟩, by decide⟩
theorem mi_X12_opens : Cond.instanceMethod (rt_y M_X12_opens) ∈ rt_mG ∧ Cond.selects (rt_R 12) (rt_y M_X12_opens) (rt_y M_X12_opens) ∈ rt_mG ∧ rt_CL 12 ∧ (rt_y M_X12_opens).cls = rt_R 12 ∧ rt_mc M_X12_opens = 0 ∧ rt_ms M_X12_opens = 0 := ⟨(rt_inG 1713 (by decide +kernel) rfl), (rt_inG 133 (by decide +kernel) rfl), cl_X12, rfl, rfl, rfl⟩
theorem mw_X12_passes : rt_Mw M_X12_passes 0 := ⟨(rt_inG 1772 (by decide +kernel) rfl), (rt_inG 176 (by decide +kernel) rfl), by decide +kernel, ⟨by decide +kernel, by decide +kernel, by decide +kernel⟩, by decide⟩
theorem mi_X12_passes : Cond.instanceMethod (rt_y M_X12_passes) ∈ rt_mG ∧ Cond.selects (rt_R 12) (rt_y M_X12_passes) (rt_y M_X12_passes) ∈ rt_mG ∧ rt_CL 12 ∧ (rt_y M_X12_passes).cls = rt_R 12 ∧ rt_mc M_X12_passes = 0 ∧ rt_ms M_X12_passes = 0 := ⟨(rt_inG 1771 (by decide +kernel) rfl), (rt_inG 141 (by decide +kernel) rfl), cl_X12, rfl, rfl, rfl⟩
theorem mw_X12_power : rt_Mw M_X12_power 2 := ⟨(rt_inG 1813 (by decide +kernel) rfl), (rt_inG 176 (by decide +kernel) rfl), by decide +kernel, ⟨by decide +kernel, by decide +kernel, by decide +kernel⟩, by decide⟩
theorem mi_X12_power : Cond.instanceMethod (rt_y M_X12_power) ∈ rt_mG ∧ Cond.selects (rt_R 12) (rt_y M_X12_power) (rt_y M_X12_power) ∈ rt_mG ∧ rt_CL 12 ∧ (rt_y M_X12_power).cls = rt_R 12 ∧ rt_mc M_X12_power = 0 ∧ rt_ms M_X12_power = 0 := ⟨(rt_inG 1811 (by decide +kernel) rfl), (rt_inG 1812 (by decide +kernel) rfl), cl_X12, rfl, rfl, rfl⟩
theorem mw_X12_power0 : rt_Mw M_X12_power0 2 := ⟨(rt_inG 1916 (by decide +kernel) rfl), (rt_inG 176 (by decide +kernel) rfl), by decide +kernel, ⟨by decide +kernel, by decide +kernel, by decide +kernel⟩, by decide⟩
theorem mi_X12_power0 : Cond.static (rt_y M_X12_power0) ∈ rt_mG ∧ rt_mc M_X12_power0 = 0 ∧ rt_ms M_X12_power0 = 0 := ⟨(rt_inG 1915 (by decide +kernel) rfl), rfl, rfl⟩
theorem mw_X12_put : rt_Mw M_X12_put 2 := ⟨(rt_inG 1745 (by decide +kernel) rfl), (rt_inG 176 (by decide +kernel) rfl), by decide +kernel, ⟨by decide +kernel, by decide +kernel, by decide +kernel⟩, by decide⟩
theorem mi_X12_put : Cond.instanceMethod (rt_y M_X12_put) ∈ rt_mG ∧ Cond.selects (rt_R 12) (rt_y M_X12_put) (rt_y M_X12_put) ∈ rt_mG ∧ rt_CL 12 ∧ (rt_y M_X12_put).cls = rt_R 12 ∧ rt_mc M_X12_put = 0 ∧ rt_ms M_X12_put = 0 := ⟨(rt_inG 1743 (by decide +kernel) rfl), (rt_inG 1744 (by decide +kernel) rfl), cl_X12, rfl, rfl, rfl⟩
theorem mw_X12_puts : rt_Mw M_X12_puts 1 := ⟨(rt_inG 1660 (by decide +kernel) rfl), (rt_inG 176 (by decide +kernel) rfl), by decide +kernel, ⟨by decide +kernel, by decide +kernel, by decide +kernel⟩, by decide⟩
theorem mi_X12_puts : Cond.instanceMethod (rt_y M_X12_puts) ∈ rt_mG ∧ Cond.selects (rt_R 12) (rt_y M_X12_puts) (rt_y M_X12_puts) ∈ rt_mG ∧ rt_CL 12 ∧ (rt_y M_X12_puts).cls = rt_R 12 ∧ rt_mc M_X12_puts = 0 ∧ rt_ms M_X12_puts = 0 := ⟨(rt_inG 1659 (by decide +kernel) rfl), (rt_inG 124 (by decide +kernel) rfl), cl_X12, rfl, rfl, rfl⟩
theorem mw_X12_reads : rt_Mw M_X12_reads 0 := ⟨(rt_inG 1646 (by decide +kernel) rfl), (rt_inG 176 (by decide +kernel) rfl), by decide +kernel, ⟨by decide +kernel, by decide +kernel, by decide +kernel⟩, by decide⟩
theorem mi_X12_reads : Cond.instanceMethod (rt_y M_X12_reads) ∈ rt_mG ∧ Cond.selects (rt_R 12) (rt_y M_X12_reads) (rt_y M_X12_reads) ∈ rt_mG ∧ rt_CL 12 ∧ (rt_y M_X12_reads).cls = rt_R 12 ∧ rt_mc M_X12_reads = 0 ∧ rt_ms M_X12_reads = 0 := ⟨(rt_inG 1645 (by decide +kernel) rfl), (rt_inG 122 (by decide +kernel) rfl), cl_X12, rfl, rfl, rfl⟩
theorem mw_X12_readsAll : rt_Mw M_X12_readsAll 0 := ⟨(rt_inG 1540 (by decide +kernel) rfl), (rt_inG 176 (by decide +kernel) rfl), by decide +kernel, ⟨by decide +kernel, by decide +kernel, by decide +kernel⟩, by decide⟩
theorem mi_X12_readsAll : Cond.instanceMethod (rt_y M_X12_readsAll) ∈ rt_mG ∧ Cond.selects (rt_R 12) (rt_y M_X12_readsAll) (rt_y M_X12_readsAll) ∈ rt_mG ∧ rt_CL 12 ∧ (rt_y M_X12_readsAll).cls = rt_R 12 ∧ rt_mc M_X12_readsAll = 0 ∧ rt_ms M_X12_readsAll = 0 := ⟨(rt_inG 1539 (by decide +kernel) rfl), (rt_inG 102 (by decide +kernel) rfl), cl_X12, rfl, rfl, rfl⟩
theorem mw_X12_readsHead : rt_Mw M_X12_readsHead 0 := ⟨(rt_inG 1630 (by decide +kernel) rfl), (rt_inG 176 (by decide +kernel) rfl), by decide +kernel, ⟨by decide +kernel, by decide +kernel, by decide +kernel⟩, by decide⟩
theorem mi_X12_readsHead : Cond.instanceMethod (rt_y M_X12_readsHead) ∈ rt_mG ∧ Cond.selects (rt_R 12) (rt_y M_X12_readsHead) (rt_y M_X12_readsHead) ∈ rt_mG ∧ rt_CL 12 ∧ (rt_y M_X12_readsHead).cls = rt_R 12 ∧ rt_mc M_X12_readsHead = 0 ∧ rt_ms M_X12_readsHead = 0 := ⟨(rt_inG 1629 (by decide +kernel) rfl), (rt_inG 118 (by decide +kernel) rfl), cl_X12, rfl, rfl, rfl⟩
theorem mw_X12_readsHeats : rt_Mw M_X12_readsHeats 0 := ⟨(rt_inG 1634 (by decide +kernel) rfl), (rt_inG 176 (by decide +kernel) rfl), by decide +kernel, ⟨by decide +kernel, by decide +kernel, by decide +kernel⟩, by decide⟩
theorem mi_X12_readsHeats : Cond.instanceMethod (rt_y M_X12_readsHeats) ∈ rt_mG ∧ Cond.selects (rt_R 12) (rt_y M_X12_readsHeats) (rt_y M_X12_readsHeats) ∈ rt_mG ∧ rt_CL 12 ∧ (rt_y M_X12_readsHeats).cls = rt_R 12 ∧ rt_mc M_X12_readsHeats = 0 ∧ rt_ms M_X12_readsHeats = 0 := ⟨(rt_inG 1633 (by decide +kernel) rfl), (rt_inG 119 (by decide +kernel) rfl), cl_X12, rfl, rfl, rfl⟩
theorem mw_X12_readsLaw : rt_Mw M_X12_readsLaw 1 := ⟨(rt_inG 1642 (by decide +kernel) rfl), (rt_inG 176 (by decide +kernel) rfl), by decide +kernel, ⟨by decide +kernel, by decide +kernel, by decide +kernel⟩, by decide⟩
theorem mi_X12_readsLaw : Cond.instanceMethod (rt_y M_X12_readsLaw) ∈ rt_mG ∧ Cond.selects (rt_R 12) (rt_y M_X12_readsLaw) (rt_y M_X12_readsLaw) ∈ rt_mG ∧ rt_CL 12 ∧ (rt_y M_X12_readsLaw).cls = rt_R 12 ∧ rt_mc M_X12_readsLaw = 0 ∧ rt_ms M_X12_readsLaw = 0 := ⟨(rt_inG 1641 (by decide +kernel) rfl), (rt_inG 121 (by decide +kernel) rfl), cl_X12, rfl, rfl, rfl⟩
theorem mw_X12_readsLine : rt_Mw M_X12_readsLine 0 := ⟨(rt_inG 1678 (by decide +kernel) rfl), (rt_inG 176 (by decide +kernel) rfl), by decide +kernel, ⟨by decide +kernel, by decide +kernel, by decide +kernel⟩, by decide⟩
theorem mi_X12_readsLine : Cond.instanceMethod (rt_y M_X12_readsLine) ∈ rt_mG ∧ Cond.selects (rt_R 12) (rt_y M_X12_readsLine) (rt_y M_X12_readsLine) ∈ rt_mG ∧ rt_CL 12 ∧ (rt_y M_X12_readsLine).cls = rt_R 12 ∧ rt_mc M_X12_readsLine = 0 ∧ rt_ms M_X12_readsLine = 0 := ⟨(rt_inG 1677 (by decide +kernel) rfl), (rt_inG 126 (by decide +kernel) rfl), cl_X12, rfl, rfl, rfl⟩
theorem mw_X12_readsSlack : rt_Mw M_X12_readsSlack 0 := ⟨(rt_inG 1638 (by decide +kernel) rfl), (rt_inG 176 (by decide +kernel) rfl), by decide +kernel, ⟨by decide +kernel, by decide +kernel, by decide +kernel⟩, by decide⟩
theorem mi_X12_readsSlack : Cond.instanceMethod (rt_y M_X12_readsSlack) ∈ rt_mG ∧ Cond.selects (rt_R 12) (rt_y M_X12_readsSlack) (rt_y M_X12_readsSlack) ∈ rt_mG ∧ rt_CL 12 ∧ (rt_y M_X12_readsSlack).cls = rt_R 12 ∧ rt_mc M_X12_readsSlack = 0 ∧ rt_ms M_X12_readsSlack = 0 := ⟨(rt_inG 1637 (by decide +kernel) rfl), (rt_inG 120 (by decide +kernel) rfl), cl_X12, rfl, rfl, rfl⟩
theorem mw_X12_readsWig : rt_Mw M_X12_readsWig 0 := ⟨(rt_inG 1563 (by decide +kernel) rfl), (rt_inG 176 (by decide +kernel) rfl), by decide +kernel, ⟨by decide +kernel, by decide +kernel, by decide +kernel⟩, by decide⟩
theorem mi_X12_readsWig : Cond.instanceMethod (rt_y M_X12_readsWig) ∈ rt_mG ∧ Cond.selects (rt_R 12) (rt_y M_X12_readsWig) (rt_y M_X12_readsWig) ∈ rt_mG ∧ rt_CL 12 ∧ (rt_y M_X12_readsWig).cls = rt_R 12 ∧ rt_mc M_X12_readsWig = 0 ∧ rt_ms M_X12_readsWig = 0 := ⟨(rt_inG 1562 (by decide +kernel) rfl), (rt_inG 107 (by decide +kernel) rfl), cl_X12, rfl, rfl, rfl⟩
theorem mw_X12_realm : rt_Mw M_X12_realm 0 := ⟨(rt_inG 1536 (by decide +kernel) rfl), (rt_inG 176 (by decide +kernel) rfl), by decide +kernel, ⟨by decide +kernel, by decide +kernel, by decide +kernel⟩, by decide⟩
theorem mi_X12_realm : Cond.instanceMethod (rt_y M_X12_realm) ∈ rt_mG ∧ Cond.selects (rt_R 12) (rt_y M_X12_realm) (rt_y M_X12_realm) ∈ rt_mG ∧ rt_CL 12 ∧ (rt_y M_X12_realm).cls = rt_R 12 ∧ rt_mc M_X12_realm = 0 ∧ rt_ms M_X12_realm = 0 := ⟨(rt_inG 1534 (by decide +kernel) rfl), (rt_inG 1535 (by decide +kernel) rfl), cl_X12, rfl, rfl, rfl⟩
theorem mw_X12_rests : rt_Mw M_X12_rests 3 := ⟨(rt_inG 1903 (by decide +kernel) rfl), (rt_inG 176 (by decide +kernel) rfl), by decide +kernel, ⟨by decide +kernel, by decide +kernel, by decide +kernel⟩, by decide⟩
theorem mi_X12_rests : Cond.instanceMethod (rt_y M_X12_rests) ∈ rt_mG ∧ Cond.selects (rt_R 12) (rt_y M_X12_rests) (rt_y M_X12_rests) ∈ rt_mG ∧ rt_CL 12 ∧ (rt_y M_X12_rests).cls = rt_R 12 ∧ rt_mc M_X12_rests = 0 ∧ rt_ms M_X12_rests = 0 := ⟨(rt_inG 1901 (by decide +kernel) rfl), (rt_inG 1902 (by decide +kernel) rfl), cl_X12, rfl, rfl, rfl⟩
theorem mw_X12_say : rt_Mw M_X12_say 3 := ⟨(rt_inG 1829 (by decide +kernel) rfl), (rt_inG 176 (by decide +kernel) rfl), by decide +kernel, ⟨by decide +kernel, by decide +kernel, by decide +kernel⟩, by decide⟩
theorem mi_X12_say : Cond.instanceMethod (rt_y M_X12_say) ∈ rt_mG ∧ Cond.selects (rt_R 12) (rt_y M_X12_say) (rt_y M_X12_say) ∈ rt_mG ∧ rt_CL 12 ∧ (rt_y M_X12_say).cls = rt_R 12 ∧ rt_mc M_X12_say = 0 ∧ rt_ms M_X12_say = 0 := ⟨(rt_inG 1827 (by decide +kernel) rfl), (rt_inG 1828 (by decide +kernel) rfl), cl_X12, rfl, rfl, rfl⟩
theorem mw_X12_season : rt_Mw M_X12_season 0 := ⟨(rt_inG 1768 (by decide +kernel) rfl), (rt_inG 176 (by decide +kernel) rfl), by decide +kernel, ⟨by decide +kernel, by decide +kernel, by decide +kernel⟩, by decide⟩
theorem mi_X12_season : Cond.instanceMethod (rt_y M_X12_season) ∈ rt_mG ∧ Cond.selects (rt_R 12) (rt_y M_X12_season) (rt_y M_X12_season) ∈ rt_mG ∧ rt_CL 12 ∧ (rt_y M_X12_season).cls = rt_R 12 ∧ rt_mc M_X12_season = 0 ∧ rt_ms M_X12_season = 0 := ⟨(rt_inG 1766 (by decide +kernel) rfl), (rt_inG 1767 (by decide +kernel) rfl), cl_X12, rfl, rfl, rfl⟩
theorem mw_X12_shifts : rt_Mw M_X12_shifts 2 := ⟨(rt_inG 1667 (by decide +kernel) rfl), (rt_inG 176 (by decide +kernel) rfl), by decide +kernel, ⟨by decide +kernel, by decide +kernel, by decide +kernel⟩, by decide⟩
theorem mi_X12_shifts : Cond.static (rt_y M_X12_shifts) ∈ rt_mG ∧ rt_mc M_X12_shifts = 0 ∧ rt_ms M_X12_shifts = 0 := ⟨(rt_inG 1666 (by decide +kernel) rfl), rfl, rfl⟩
theorem mw_X12_shiftsNames : rt_Mw M_X12_shiftsNames 2 := ⟨(rt_inG 1670 (by decide +kernel) rfl), (rt_inG 176 (by decide +kernel) rfl), by decide +kernel, ⟨by decide +kernel, by decide +kernel, by decide +kernel⟩, by decide⟩
theorem mi_X12_shiftsNames : Cond.static (rt_y M_X12_shiftsNames) ∈ rt_mG ∧ rt_mc M_X12_shiftsNames = 0 ∧ rt_ms M_X12_shiftsNames = 0 := ⟨(rt_inG 1669 (by decide +kernel) rfl), rfl, rfl⟩
theorem mw_X12_signAt : rt_Mw M_X12_signAt 1 := ⟨(rt_inG 1552 (by decide +kernel) rfl), (rt_inG 176 (by decide +kernel) rfl), by decide +kernel, ⟨by decide +kernel, by decide +kernel, by decide +kernel⟩, by decide⟩
theorem mi_X12_signAt : Cond.instanceMethod (rt_y M_X12_signAt) ∈ rt_mG ∧ Cond.selects (rt_R 12) (rt_y M_X12_signAt) (rt_y M_X12_signAt) ∈ rt_mG ∧ rt_CL 12 ∧ (rt_y M_X12_signAt).cls = rt_R 12 ∧ rt_mc M_X12_signAt = 0 ∧ rt_ms M_X12_signAt = 0 := ⟨(rt_inG 1551 (by decide +kernel) rfl), (rt_inG 105 (by decide +kernel) rfl), cl_X12, rfl, rfl, rfl⟩
theorem mw_X12_sums : rt_Mw M_X12_sums 1 := ⟨(rt_inG 1718 (by decide +kernel) rfl), (rt_inG 176 (by decide +kernel) rfl), by decide +kernel, ⟨by decide +kernel, by decide +kernel, by decide +kernel⟩, by decide⟩
theorem mi_X12_sums : Cond.instanceMethod (rt_y M_X12_sums) ∈ rt_mG ∧ Cond.selects (rt_R 12) (rt_y M_X12_sums) (rt_y M_X12_sums) ∈ rt_mG ∧ rt_CL 12 ∧ (rt_y M_X12_sums).cls = rt_R 12 ∧ rt_mc M_X12_sums = 0 ∧ rt_ms M_X12_sums = 0 := ⟨(rt_inG 1717 (by decide +kernel) rfl), (rt_inG 134 (by decide +kernel) rfl), cl_X12, rfl, rfl, rfl⟩
theorem mw_X12_tell : rt_Mw M_X12_tell 2 := ⟨(rt_inG 1867 (by decide +kernel) rfl), (rt_inG 176 (by decide +kernel) rfl), by decide +kernel, ⟨by decide +kernel, by decide +kernel, by decide +kernel⟩, by decide⟩
theorem mi_X12_tell : Cond.instanceMethod (rt_y M_X12_tell) ∈ rt_mG ∧ Cond.selects (rt_R 12) (rt_y M_X12_tell) (rt_y M_X12_tell) ∈ rt_mG ∧ rt_CL 12 ∧ (rt_y M_X12_tell).cls = rt_R 12 ∧ rt_mc M_X12_tell = 0 ∧ rt_ms M_X12_tell = 0 := ⟨(rt_inG 1865 (by decide +kernel) rfl), (rt_inG 1866 (by decide +kernel) rfl), cl_X12, rfl, rfl, rfl⟩
theorem mw_X12_tests : rt_Mw M_X12_tests 1 := ⟨(rt_inG 1722 (by decide +kernel) rfl), (rt_inG 176 (by decide +kernel) rfl), by decide +kernel, ⟨by decide +kernel, by decide +kernel, by decide +kernel⟩, by decide⟩
theorem mi_X12_tests : Cond.instanceMethod (rt_y M_X12_tests) ∈ rt_mG ∧ Cond.selects (rt_R 12) (rt_y M_X12_tests) (rt_y M_X12_tests) ∈ rt_mG ∧ rt_CL 12 ∧ (rt_y M_X12_tests).cls = rt_R 12 ∧ rt_mc M_X12_tests = 0 ∧ rt_ms M_X12_tests = 0 := ⟨(rt_inG 1721 (by decide +kernel) rfl), (rt_inG 135 (by decide +kernel) rfl), cl_X12, rfl, rfl, rfl⟩
theorem mw_X12_thrown : rt_Mw M_X12_thrown 0 := ⟨(rt_inG 1527 (by decide +kernel) rfl), (rt_inG 176 (by decide +kernel) rfl), by decide +kernel, ⟨by decide +kernel, by decide +kernel, by decide +kernel⟩, by decide⟩
theorem mi_X12_thrown : Cond.instanceMethod (rt_y M_X12_thrown) ∈ rt_mG ∧ Cond.selects (rt_R 12) (rt_y M_X12_thrown) (rt_y M_X12_thrown) ∈ rt_mG ∧ rt_CL 12 ∧ (rt_y M_X12_thrown).cls = rt_R 12 ∧ rt_mc M_X12_thrown = 0 ∧ rt_ms M_X12_thrown = 0 := ⟨(rt_inG 1525 (by decide +kernel) rfl), (rt_inG 1526 (by decide +kernel) rfl), cl_X12, rfl, rfl, rfl⟩
theorem mw_X12_tiltIn : rt_Mw M_X12_tiltIn 3 := ⟨(rt_inG 1741 (by decide +kernel) rfl), (rt_inG 176 (by decide +kernel) rfl), by decide +kernel, ⟨by decide +kernel, by decide +kernel, by decide +kernel⟩, by decide⟩
theorem mi_X12_tiltIn : Cond.instanceMethod (rt_y M_X12_tiltIn) ∈ rt_mG ∧ Cond.selects (rt_R 12) (rt_y M_X12_tiltIn) (rt_y M_X12_tiltIn) ∈ rt_mG ∧ rt_CL 12 ∧ (rt_y M_X12_tiltIn).cls = rt_R 12 ∧ rt_mc M_X12_tiltIn = 0 ∧ rt_ms M_X12_tiltIn = 0 := ⟨(rt_inG 1740 (by decide +kernel) rfl), (rt_inG 138 (by decide +kernel) rfl), cl_X12, rfl, rfl, rfl⟩
theorem mw_X12_tiltsFrom : rt_Mw M_X12_tiltsFrom 2 := ⟨(rt_inG 1879 (by decide +kernel) rfl), (rt_inG 176 (by decide +kernel) rfl), by decide +kernel, ⟨by decide +kernel, by decide +kernel, by decide +kernel⟩, by decide⟩
theorem mi_X12_tiltsFrom : Cond.instanceMethod (rt_y M_X12_tiltsFrom) ∈ rt_mG ∧ Cond.selects (rt_R 12) (rt_y M_X12_tiltsFrom) (rt_y M_X12_tiltsFrom) ∈ rt_mG ∧ rt_CL 12 ∧ (rt_y M_X12_tiltsFrom).cls = rt_R 12 ∧ rt_mc M_X12_tiltsFrom = 0 ∧ rt_ms M_X12_tiltsFrom = 0 := ⟨(rt_inG 1878 (by decide +kernel) rfl), (rt_inG 153 (by decide +kernel) rfl), cl_X12, rfl, rfl, rfl⟩
theorem mw_X12_toldMany : rt_Mw M_X12_toldMany 0 := ⟨(rt_inG 1953 (by decide +kernel) rfl), (rt_inG 176 (by decide +kernel) rfl), by decide +kernel, ⟨by decide +kernel, by decide +kernel, by decide +kernel⟩, by decide⟩
theorem mi_X12_toldMany : Cond.instanceMethod (rt_y M_X12_toldMany) ∈ rt_mG ∧ Cond.selects (rt_R 12) (rt_y M_X12_toldMany) (rt_y M_X12_toldMany) ∈ rt_mG ∧ rt_CL 12 ∧ (rt_y M_X12_toldMany).cls = rt_R 12 ∧ rt_mc M_X12_toldMany = 0 ∧ rt_ms M_X12_toldMany = 0 := ⟨(rt_inG 1952 (by decide +kernel) rfl), (rt_inG 161 (by decide +kernel) rfl), cl_X12, rfl, rfl, rfl⟩
theorem mw_X12_under : rt_Mw M_X12_under 1 := ⟨(rt_inG 1871 (by decide +kernel) rfl), (rt_inG 176 (by decide +kernel) rfl), by decide +kernel, ⟨by decide +kernel, by decide +kernel, by decide +kernel⟩, by decide⟩
theorem mi_X12_under : Cond.instanceMethod (rt_y M_X12_under) ∈ rt_mG ∧ Cond.selects (rt_R 12) (rt_y M_X12_under) (rt_y M_X12_under) ∈ rt_mG ∧ rt_CL 12 ∧ (rt_y M_X12_under).cls = rt_R 12 ∧ rt_mc M_X12_under = 0 ∧ rt_ms M_X12_under = 0 := ⟨(rt_inG 1869 (by decide +kernel) rfl), (rt_inG 1870 (by decide +kernel) rfl), cl_X12, rfl, rfl, rfl⟩
theorem mw_X12_undo : rt_Mw M_X12_undo 0 := ⟨(rt_inG 1777 (by decide +kernel) rfl), (rt_inG 176 (by decide +kernel) rfl), by decide +kernel, ⟨by decide +kernel, by decide +kernel, by decide +kernel⟩, by decide⟩
theorem mi_X12_undo : Cond.instanceMethod (rt_y M_X12_undo) ∈ rt_mG ∧ Cond.selects (rt_R 12) (rt_y M_X12_undo) (rt_y M_X12_undo) ∈ rt_mG ∧ rt_CL 12 ∧ (rt_y M_X12_undo).cls = rt_R 12 ∧ rt_mc M_X12_undo = 0 ∧ rt_ms M_X12_undo = 0 := ⟨(rt_inG 1775 (by decide +kernel) rfl), (rt_inG 1776 (by decide +kernel) rfl), cl_X12, rfl, rfl, rfl⟩
theorem mw_X12_verdict : rt_Mw M_X12_verdict 1 := ⟨(rt_inG 1797 (by decide +kernel) rfl), (rt_inG 176 (by decide +kernel) rfl), by decide +kernel, ⟨by decide +kernel, by decide +kernel, by decide +kernel⟩, by decide⟩
theorem mi_X12_verdict : Cond.instanceMethod (rt_y M_X12_verdict) ∈ rt_mG ∧ Cond.selects (rt_R 12) (rt_y M_X12_verdict) (rt_y M_X12_verdict) ∈ rt_mG ∧ rt_CL 12 ∧ (rt_y M_X12_verdict).cls = rt_R 12 ∧ rt_mc M_X12_verdict = 0 ∧ rt_ms M_X12_verdict = 0 := ⟨(rt_inG 1795 (by decide +kernel) rfl), (rt_inG 1796 (by decide +kernel) rfl), cl_X12, rfl, rfl, rfl⟩
theorem mw_X12_votes : rt_Mw M_X12_votes 1 := ⟨(rt_inG 1809 (by decide +kernel) rfl), (rt_inG 176 (by decide +kernel) rfl), by decide +kernel, ⟨by decide +kernel, by decide +kernel, by decide +kernel⟩, by decide⟩
theorem mi_X12_votes : Cond.instanceMethod (rt_y M_X12_votes) ∈ rt_mG ∧ Cond.selects (rt_R 12) (rt_y M_X12_votes) (rt_y M_X12_votes) ∈ rt_mG ∧ rt_CL 12 ∧ (rt_y M_X12_votes).cls = rt_R 12 ∧ rt_mc M_X12_votes = 0 ∧ rt_ms M_X12_votes = 0 := ⟨(rt_inG 1807 (by decide +kernel) rfl), (rt_inG 1808 (by decide +kernel) rfl), cl_X12, rfl, rfl, rfl⟩
theorem mw_X12_wig : rt_Mw M_X12_wig 2 := ⟨(rt_inG 1686 (by decide +kernel) rfl), (rt_inG 176 (by decide +kernel) rfl), by decide +kernel, ⟨by decide +kernel, by decide +kernel, by decide +kernel⟩, by decide⟩
theorem mi_X12_wig : Cond.instanceMethod (rt_y M_X12_wig) ∈ rt_mG ∧ Cond.selects (rt_R 12) (rt_y M_X12_wig) (rt_y M_X12_wig) ∈ rt_mG ∧ rt_CL 12 ∧ (rt_y M_X12_wig).cls = rt_R 12 ∧ rt_mc M_X12_wig = 0 ∧ rt_ms M_X12_wig = 0 := ⟨(rt_inG 1684 (by decide +kernel) rfl), (rt_inG 1685 (by decide +kernel) rfl), cl_X12, rfl, rfl, rfl⟩
theorem mw_X12_wigNamed : rt_Mw M_X12_wigNamed 1 := ⟨(rt_inG 1599 (by decide +kernel) rfl), (rt_inG 176 (by decide +kernel) rfl), by decide +kernel, ⟨by decide +kernel, by decide +kernel, by decide +kernel⟩, by decide⟩
theorem mi_X12_wigNamed : Cond.instanceMethod (rt_y M_X12_wigNamed) ∈ rt_mG ∧ Cond.selects (rt_R 12) (rt_y M_X12_wigNamed) (rt_y M_X12_wigNamed) ∈ rt_mG ∧ rt_CL 12 ∧ (rt_y M_X12_wigNamed).cls = rt_R 12 ∧ rt_mc M_X12_wigNamed = 0 ∧ rt_ms M_X12_wigNamed = 0 := ⟨(rt_inG 1598 (by decide +kernel) rfl), (rt_inG 111 (by decide +kernel) rfl), cl_X12, rfl, rfl, rfl⟩
theorem mw_X12_wigOn : rt_Mw M_X12_wigOn 1 := ⟨(rt_inG 1729 (by decide +kernel) rfl), (rt_inG 176 (by decide +kernel) rfl), by decide +kernel, ⟨by decide +kernel, by decide +kernel, by decide +kernel⟩, by decide⟩
theorem mi_X12_wigOn : Cond.instanceMethod (rt_y M_X12_wigOn) ∈ rt_mG ∧ Cond.selects (rt_R 12) (rt_y M_X12_wigOn) (rt_y M_X12_wigOn) ∈ rt_mG ∧ rt_CL 12 ∧ (rt_y M_X12_wigOn).cls = rt_R 12 ∧ rt_mc M_X12_wigOn = 0 ∧ rt_ms M_X12_wigOn = 0 := ⟨(rt_inG 1728 (by decide +kernel) rfl), (rt_inG 136 (by decide +kernel) rfl), cl_X12, rfl, rfl, rfl⟩
theorem mw_X12_wishes : rt_Mw M_X12_wishes 1 := ⟨(rt_inG 1895 (by decide +kernel) rfl), (rt_inG 176 (by decide +kernel) rfl), by decide +kernel, ⟨by decide +kernel, by decide +kernel, by decide +kernel⟩, by decide⟩
theorem mi_X12_wishes : Cond.instanceMethod (rt_y M_X12_wishes) ∈ rt_mG ∧ Cond.selects (rt_R 12) (rt_y M_X12_wishes) (rt_y M_X12_wishes) ∈ rt_mG ∧ rt_CL 12 ∧ (rt_y M_X12_wishes).cls = rt_R 12 ∧ rt_mc M_X12_wishes = 0 ∧ rt_ms M_X12_wishes = 0 := ⟨(rt_inG 1894 (by decide +kernel) rfl), (rt_inG 155 (by decide +kernel) rfl), cl_X12, rfl, rfl, rfl⟩
theorem mw_X12_within : rt_Mw M_X12_within 3 := ⟨(rt_inG 1618 (by decide +kernel) rfl), (rt_inG 176 (by decide +kernel) rfl), by decide +kernel, ⟨by decide +kernel, by decide +kernel, by decide +kernel⟩, by decide⟩
theorem mi_X12_within : Cond.static (rt_y M_X12_within) ∈ rt_mG ∧ rt_mc M_X12_within = 0 ∧ rt_ms M_X12_within = 0 := ⟨(rt_inG 1617 (by decide +kernel) rfl), rfl, rfl⟩
theorem mw_X12_worked : rt_Mw M_X12_worked 1 := ⟨(rt_inG 1710 (by decide +kernel) rfl), (rt_inG 176 (by decide +kernel) rfl), by decide +kernel, ⟨by decide +kernel, by decide +kernel, by decide +kernel⟩, by decide⟩
theorem mi_X12_worked : Cond.instanceMethod (rt_y M_X12_worked) ∈ rt_mG ∧ Cond.selects (rt_R 12) (rt_y M_X12_worked) (rt_y M_X12_worked) ∈ rt_mG ∧ rt_CL 12 ∧ (rt_y M_X12_worked).cls = rt_R 12 ∧ rt_mc M_X12_worked = 0 ∧ rt_ms M_X12_worked = 0 := ⟨(rt_inG 1709 (by decide +kernel) rfl), (rt_inG 132 (by decide +kernel) rfl), cl_X12, rfl, rfl, rfl⟩
theorem mw_X12_wornOut : rt_Mw M_X12_wornOut 0 := ⟨(rt_inG 1863 (by decide +kernel) rfl), (rt_inG 176 (by decide +kernel) rfl), by decide +kernel, ⟨by decide +kernel, by decide +kernel, by decide +kernel⟩, by decide⟩
theorem mi_X12_wornOut : Cond.instanceMethod (rt_y M_X12_wornOut) ∈ rt_mG ∧ Cond.selects (rt_R 12) (rt_y M_X12_wornOut) (rt_y M_X12_wornOut) ∈ rt_mG ∧ rt_CL 12 ∧ (rt_y M_X12_wornOut).cls = rt_R 12 ∧ rt_mc M_X12_wornOut = 0 ∧ rt_ms M_X12_wornOut = 0 := ⟨(rt_inG 1862 (by decide +kernel) rfl), (rt_inG 151 (by decide +kernel) rfl), cl_X12, rfl, rfl, rfl⟩
theorem mw_X12_years : rt_Mw M_X12_years 0 := ⟨(rt_inG 1674 (by decide +kernel) rfl), (rt_inG 176 (by decide +kernel) rfl), by decide +kernel, ⟨by decide +kernel, by decide +kernel, by decide +kernel⟩, by decide⟩
theorem mi_X12_years : Cond.instanceMethod (rt_y M_X12_years) ∈ rt_mG ∧ Cond.selects (rt_R 12) (rt_y M_X12_years) (rt_y M_X12_years) ∈ rt_mG ∧ rt_CL 12 ∧ (rt_y M_X12_years).cls = rt_R 12 ∧ rt_mc M_X12_years = 0 ∧ rt_ms M_X12_years = 0 := ⟨(rt_inG 1672 (by decide +kernel) rfl), (rt_inG 1673 (by decide +kernel) rfl), cl_X12, rfl, rfl, rfl⟩
theorem mw_X1_allWays : rt_Mw M_X1_allWays 1 := ⟨(rt_inG 1130 (by decide +kernel) rfl), (rt_inG 174 (by decide +kernel) rfl), by decide +kernel, ⟨by decide +kernel, by decide +kernel, by decide +kernel⟩, by decide⟩
theorem mi_X1_allWays : Cond.instanceMethod (rt_y M_X1_allWays) ∈ rt_mG ∧ Cond.selects (rt_R 1) (rt_y M_X1_allWays) (rt_y M_X1_allWays) ∈ rt_mG ∧ rt_CL 1 ∧ (rt_y M_X1_allWays).cls = rt_R 1 ∧ rt_mc M_X1_allWays = 0 ∧ rt_ms M_X1_allWays = 0 := ⟨(rt_inG 1129 (by decide +kernel) rfl), (rt_inG 88 (by decide +kernel) rfl), cl_X1, rfl, rfl, rfl⟩
theorem mw_X1_askNext : rt_Mw M_X1_askNext 2 := ⟨(rt_inG 1150 (by decide +kernel) rfl), (rt_inG 174 (by decide +kernel) rfl), by decide +kernel, ⟨by decide +kernel, by decide +kernel, by decide +kernel⟩, by decide⟩
theorem mi_X1_askNext : Cond.instanceMethod (rt_y M_X1_askNext) ∈ rt_mG ∧ Cond.selects (rt_R 1) (rt_y M_X1_askNext) (rt_y M_X1_askNext) ∈ rt_mG ∧ rt_CL 1 ∧ (rt_y M_X1_askNext).cls = rt_R 1 ∧ rt_mc M_X1_askNext = 0 ∧ rt_ms M_X1_askNext = 0 := ⟨(rt_inG 1149 (by decide +kernel) rfl), (rt_inG 91 (by decide +kernel) rfl), cl_X1, rfl, rfl, rfl⟩
theorem mw_X1_greatestLikeWays : rt_Mw M_X1_greatestLikeWays 1 := ⟨(rt_inG 1123 (by decide +kernel) rfl), (rt_inG 174 (by decide +kernel) rfl), by decide +kernel, ⟨by decide +kernel, by decide +kernel, by decide +kernel⟩, by decide⟩
theorem mi_X1_greatestLikeWays : Cond.instanceMethod (rt_y M_X1_greatestLikeWays) ∈ rt_mG ∧ Cond.selects (rt_R 1) (rt_y M_X1_greatestLikeWays) (rt_y M_X1_greatestLikeWays) ∈ rt_mG ∧ rt_CL 1 ∧ (rt_y M_X1_greatestLikeWays).cls = rt_R 1 ∧ rt_mc M_X1_greatestLikeWays = 0 ∧ rt_ms M_X1_greatestLikeWays = 0 := ⟨(rt_inG 1122 (by decide +kernel) rfl), (rt_inG 87 (by decide +kernel) rfl), cl_X1, rfl, rfl, rfl⟩
theorem mw_X1_layUnder : rt_Mw M_X1_layUnder 2 := ⟨(rt_inG 1107 (by decide +kernel) rfl), (rt_inG 174 (by decide +kernel) rfl), by decide +kernel, ⟨by decide +kernel, by decide +kernel, by decide +kernel⟩, by decide⟩
theorem mi_X1_layUnder : Cond.instanceMethod (rt_y M_X1_layUnder) ∈ rt_mG ∧ Cond.selects (rt_R 1) (rt_y M_X1_layUnder) (rt_y M_X1_layUnder) ∈ rt_mG ∧ rt_CL 1 ∧ (rt_y M_X1_layUnder).cls = rt_R 1 ∧ rt_mc M_X1_layUnder = 0 ∧ rt_ms M_X1_layUnder = 0 := ⟨(rt_inG 1106 (by decide +kernel) rfl), (rt_inG 84 (by decide +kernel) rfl), cl_X1, rfl, rfl, rfl⟩
theorem mw_X1_layWays : rt_Mw M_X1_layWays 2 := ⟨(rt_inG 1103 (by decide +kernel) rfl), (rt_inG 174 (by decide +kernel) rfl), by decide +kernel, ⟨by decide +kernel, by decide +kernel, by decide +kernel⟩, by decide⟩
theorem mi_X1_layWays : Cond.instanceMethod (rt_y M_X1_layWays) ∈ rt_mG ∧ Cond.selects (rt_R 1) (rt_y M_X1_layWays) (rt_y M_X1_layWays) ∈ rt_mG ∧ rt_CL 1 ∧ (rt_y M_X1_layWays).cls = rt_R 1 ∧ rt_mc M_X1_layWays = 0 ∧ rt_ms M_X1_layWays = 0 := ⟨(rt_inG 1102 (by decide +kernel) rfl), (rt_inG 83 (by decide +kernel) rfl), cl_X1, rfl, rfl, rfl⟩
theorem mw_X1_matched : rt_Mw M_X1_matched 3 := ⟨(rt_inG 1142 (by decide +kernel) rfl), (rt_inG 174 (by decide +kernel) rfl), by decide +kernel, ⟨by decide +kernel, by decide +kernel, by decide +kernel⟩, by decide⟩
theorem mi_X1_matched : Cond.instanceMethod (rt_y M_X1_matched) ∈ rt_mG ∧ Cond.selects (rt_R 1) (rt_y M_X1_matched) (rt_y M_X1_matched) ∈ rt_mG ∧ rt_CL 1 ∧ (rt_y M_X1_matched).cls = rt_R 1 ∧ rt_mc M_X1_matched = 0 ∧ rt_ms M_X1_matched = 0 := ⟨(rt_inG 1141 (by decide +kernel) rfl), (rt_inG 89 (by decide +kernel) rfl), cl_X1, rfl, rfl, rfl⟩
theorem mw_X1_measure : rt_Mw M_X1_measure 2 := ⟨(rt_inG 1096 (by decide +kernel) rfl), (rt_inG 174 (by decide +kernel) rfl), by decide +kernel, ⟨by decide +kernel, by decide +kernel, by decide +kernel⟩, by decide⟩
theorem mi_X1_measure : Cond.instanceMethod (rt_y M_X1_measure) ∈ rt_mG ∧ Cond.selects (rt_R 1) (rt_y M_X1_measure) (rt_y M_X1_measure) ∈ rt_mG ∧ rt_CL 1 ∧ (rt_y M_X1_measure).cls = rt_R 1 ∧ rt_mc M_X1_measure = 0 ∧ rt_ms M_X1_measure = 0 := ⟨(rt_inG 1095 (by decide +kernel) rfl), (rt_inG 82 (by decide +kernel) rfl), cl_X1, rfl, rfl, rfl⟩
theorem mw_X1_tiltOf : rt_Mw M_X1_tiltOf 2 := ⟨(rt_inG 1115 (by decide +kernel) rfl), (rt_inG 174 (by decide +kernel) rfl), by decide +kernel, ⟨by decide +kernel, by decide +kernel, by decide +kernel⟩, by decide⟩
theorem mi_X1_tiltOf : Cond.instanceMethod (rt_y M_X1_tiltOf) ∈ rt_mG ∧ Cond.selects (rt_R 1) (rt_y M_X1_tiltOf) (rt_y M_X1_tiltOf) ∈ rt_mG ∧ rt_CL 1 ∧ (rt_y M_X1_tiltOf).cls = rt_R 1 ∧ rt_mc M_X1_tiltOf = 0 ∧ rt_ms M_X1_tiltOf = 0 := ⟨(rt_inG 1114 (by decide +kernel) rfl), (rt_inG 86 (by decide +kernel) rfl), cl_X1, rfl, rfl, rfl⟩
theorem mw_X1_waysWithout : rt_Mw M_X1_waysWithout 1 := ⟨(rt_inG 1111 (by decide +kernel) rfl), (rt_inG 174 (by decide +kernel) rfl), by decide +kernel, ⟨by decide +kernel, by decide +kernel, by decide +kernel⟩, by decide⟩
theorem mi_X1_waysWithout : Cond.instanceMethod (rt_y M_X1_waysWithout) ∈ rt_mG ∧ Cond.selects (rt_R 1) (rt_y M_X1_waysWithout) (rt_y M_X1_waysWithout) ∈ rt_mG ∧ rt_CL 1 ∧ (rt_y M_X1_waysWithout).cls = rt_R 1 ∧ rt_mc M_X1_waysWithout = 0 ∧ rt_ms M_X1_waysWithout = 0 := ⟨(rt_inG 1110 (by decide +kernel) rfl), (rt_inG 85 (by decide +kernel) rfl), cl_X1, rfl, rfl, rfl⟩
theorem mw_X1_wigKeeping : rt_Mw M_X1_wigKeeping 1 := ⟨(rt_inG 1146 (by decide +kernel) rfl), (rt_inG 174 (by decide +kernel) rfl), by decide +kernel, ⟨by decide +kernel, by decide +kernel, by decide +kernel⟩, by decide⟩
theorem mi_X1_wigKeeping : Cond.instanceMethod (rt_y M_X1_wigKeeping) ∈ rt_mG ∧ Cond.selects (rt_R 1) (rt_y M_X1_wigKeeping) (rt_y M_X1_wigKeeping) ∈ rt_mG ∧ rt_CL 1 ∧ (rt_y M_X1_wigKeeping).cls = rt_R 1 ∧ rt_mc M_X1_wigKeeping = 0 ∧ rt_ms M_X1_wigKeeping = 0 := ⟨(rt_inG 1145 (by decide +kernel) rfl), (rt_inG 90 (by decide +kernel) rfl), cl_X1, rfl, rfl, rfl⟩
theorem mw_X2_add : rt_Mw M_X2_add 1 := ⟨(rt_inG 720 (by decide +kernel) rfl), (rt_inG 171 (by decide +kernel) rfl), by decide +kernel, ⟨by decide +kernel, by decide +kernel, by decide +kernel⟩, by decide⟩
theorem mi_X2_add : Cond.instanceMethod (rt_y M_X2_add) ∈ rt_mG ∧ Cond.selects (rt_R 2) (rt_y M_X2_add) (rt_y M_X2_add) ∈ rt_mG ∧ rt_CL 2 ∧ (rt_y M_X2_add).cls = rt_R 2 ∧ rt_mc M_X2_add = 0 ∧ rt_ms M_X2_add = 0 := ⟨(rt_inG 719 (by decide +kernel) rfl), (rt_inG 28 (by decide +kernel) rfl), cl_X2, rfl, rfl, rfl⟩
theorem mw_X2_clear : rt_Mw M_X2_clear 0 := ⟨(rt_inG 603 (by decide +kernel) rfl), (rt_inG 171 (by decide +kernel) rfl), by decide +kernel, ⟨by decide +kernel, by decide +kernel, by decide +kernel⟩, by decide⟩
theorem mi_X2_clear : Cond.instanceMethod (rt_y M_X2_clear) ∈ rt_mG ∧ Cond.selects (rt_R 2) (rt_y M_X2_clear) (rt_y M_X2_clear) ∈ rt_mG ∧ rt_CL 2 ∧ (rt_y M_X2_clear).cls = rt_R 2 ∧ rt_mc M_X2_clear = 0 ∧ rt_ms M_X2_clear = 0 := ⟨(rt_inG 602 (by decide +kernel) rfl), (rt_inG 8 (by decide +kernel) rfl), cl_X2, rfl, rfl, rfl⟩
theorem mw_X2_factOf : rt_Mw M_X2_factOf 1 := ⟨(rt_inG 728 (by decide +kernel) rfl), (rt_inG 171 (by decide +kernel) rfl), by decide +kernel, ⟨by decide +kernel, by decide +kernel, by decide +kernel⟩, by decide⟩
theorem mi_X2_factOf : Cond.instanceMethod (rt_y M_X2_factOf) ∈ rt_mG ∧ Cond.selects (rt_R 2) (rt_y M_X2_factOf) (rt_y M_X2_factOf) ∈ rt_mG ∧ rt_CL 2 ∧ (rt_y M_X2_factOf).cls = rt_R 2 ∧ rt_mc M_X2_factOf = 0 ∧ rt_ms M_X2_factOf = 0 := ⟨(rt_inG 727 (by decide +kernel) rfl), (rt_inG 30 (by decide +kernel) rfl), cl_X2, rfl, rfl, rfl⟩
theorem mw_X2_joined : rt_Mw M_X2_joined 3 := ⟨(rt_inG 863 (by decide +kernel) rfl), (rt_inG 171 (by decide +kernel) rfl), by decide +kernel, ⟨by decide +kernel, by decide +kernel, by decide +kernel⟩, by decide⟩
theorem mi_X2_joined : Cond.static (rt_y M_X2_joined) ∈ rt_mG ∧ rt_mc M_X2_joined = 0 ∧ rt_ms M_X2_joined = 0 := ⟨(rt_inG 862 (by decide +kernel) rfl), rfl, rfl⟩
theorem mw_X2_worth : rt_Mw M_X2_worth 3 := ⟨(rt_inG 860 (by decide +kernel) rfl), (rt_inG 171 (by decide +kernel) rfl), by decide +kernel, ⟨by decide +kernel, by decide +kernel, by decide +kernel⟩, by decide⟩
theorem mi_X2_worth : Cond.instanceMethod (rt_y M_X2_worth) ∈ rt_mG ∧ Cond.selects (rt_R 2) (rt_y M_X2_worth) (rt_y M_X2_worth) ∈ rt_mG ∧ rt_CL 2 ∧ (rt_y M_X2_worth).cls = rt_R 2 ∧ rt_mc M_X2_worth = 0 ∧ rt_ms M_X2_worth = 0 := ⟨(rt_inG 859 (by decide +kernel) rfl), (rt_inG 52 (by decide +kernel) rfl), cl_X2, rfl, rfl, rfl⟩
theorem mw_X3_chain : rt_Mw M_X3_chain 3 := ⟨(rt_inG 704 (by decide +kernel) rfl), (rt_inG 165 (by decide +kernel) rfl), by decide +kernel, ⟨by decide +kernel, by decide +kernel, by decide +kernel⟩, by decide⟩
theorem mi_X3_chain : Cond.instanceMethod (rt_y M_X3_chain) ∈ rt_mG ∧ Cond.selects (rt_R 3) (rt_y M_X3_chain) (rt_y M_X3_chain) ∈ rt_mG ∧ rt_CL 3 ∧ (rt_y M_X3_chain).cls = rt_R 3 ∧ rt_mc M_X3_chain = 0 ∧ rt_ms M_X3_chain = 0 := ⟨(rt_inG 703 (by decide +kernel) rfl), (rt_inG 25 (by decide +kernel) rfl), cl_X3, rfl, rfl, rfl⟩
theorem mw_X3_fact : rt_Mw M_X3_fact 5 := ⟨(rt_inG 647 (by decide +kernel) rfl), (rt_inG 165 (by decide +kernel) rfl), by decide +kernel, ⟨by decide +kernel, by decide +kernel, by decide +kernel⟩, by decide⟩
theorem mi_X3_fact : Cond.instanceMethod (rt_y M_X3_fact) ∈ rt_mG ∧ Cond.selects (rt_R 3) (rt_y M_X3_fact) (rt_y M_X3_fact) ∈ rt_mG ∧ rt_CL 3 ∧ (rt_y M_X3_fact).cls = rt_R 3 ∧ rt_mc M_X3_fact = 0 ∧ rt_ms M_X3_fact = 0 := ⟨(rt_inG 646 (by decide +kernel) rfl), (rt_inG 17 (by decide +kernel) rfl), cl_X3, rfl, rfl, rfl⟩
theorem mw_X3_fail : rt_Mw M_X3_fail 1 := ⟨(rt_inG 622 (by decide +kernel) rfl), (rt_inG 165 (by decide +kernel) rfl), by decide +kernel, ⟨by decide +kernel, by decide +kernel, by decide +kernel⟩, by decide⟩
theorem mi_X3_fail : Cond.instanceMethod (rt_y M_X3_fail) ∈ rt_mG ∧ Cond.selects (rt_R 3) (rt_y M_X3_fail) (rt_y M_X3_fail) ∈ rt_mG ∧ rt_CL 3 ∧ (rt_y M_X3_fail).cls = rt_R 3 ∧ rt_mc M_X3_fail = 0 ∧ rt_ms M_X3_fail = 0 := ⟨(rt_inG 621 (by decide +kernel) rfl), (rt_inG 12 (by decide +kernel) rfl), cl_X3, rfl, rfl, rfl⟩
theorem mw_X3_headKind : rt_Mw M_X3_headKind 1 := ⟨(rt_inG 672 (by decide +kernel) rfl), (rt_inG 165 (by decide +kernel) rfl), by decide +kernel, ⟨by decide +kernel, by decide +kernel, by decide +kernel⟩, by decide⟩
theorem mi_X3_headKind : Cond.instanceMethod (rt_y M_X3_headKind) ∈ rt_mG ∧ Cond.selects (rt_R 3) (rt_y M_X3_headKind) (rt_y M_X3_headKind) ∈ rt_mG ∧ rt_CL 3 ∧ (rt_y M_X3_headKind).cls = rt_R 3 ∧ rt_mc M_X3_headKind = 0 ∧ rt_ms M_X3_headKind = 0 := ⟨(rt_inG 671 (by decide +kernel) rfl), (rt_inG 21 (by decide +kernel) rfl), cl_X3, rfl, rfl, rfl⟩
theorem mw_X3_headLine : rt_Mw M_X3_headLine 1 := ⟨(rt_inG 668 (by decide +kernel) rfl), (rt_inG 165 (by decide +kernel) rfl), by decide +kernel, ⟨by decide +kernel, by decide +kernel, by decide +kernel⟩, by decide⟩
theorem mi_X3_headLine : Cond.instanceMethod (rt_y M_X3_headLine) ∈ rt_mG ∧ Cond.selects (rt_R 3) (rt_y M_X3_headLine) (rt_y M_X3_headLine) ∈ rt_mG ∧ rt_CL 3 ∧ (rt_y M_X3_headLine).cls = rt_R 3 ∧ rt_mc M_X3_headLine = 0 ∧ rt_ms M_X3_headLine = 0 := ⟨(rt_inG 667 (by decide +kernel) rfl), (rt_inG 20 (by decide +kernel) rfl), cl_X3, rfl, rfl, rfl⟩
theorem mw_X3_heatsLine : rt_Mw M_X3_heatsLine 1 := ⟨(rt_inG 688 (by decide +kernel) rfl), (rt_inG 165 (by decide +kernel) rfl), by decide +kernel, ⟨by decide +kernel, by decide +kernel, by decide +kernel⟩, by decide⟩
theorem mi_X3_heatsLine : Cond.instanceMethod (rt_y M_X3_heatsLine) ∈ rt_mG ∧ Cond.selects (rt_R 3) (rt_y M_X3_heatsLine) (rt_y M_X3_heatsLine) ∈ rt_mG ∧ rt_CL 3 ∧ (rt_y M_X3_heatsLine).cls = rt_R 3 ∧ rt_mc M_X3_heatsLine = 0 ∧ rt_ms M_X3_heatsLine = 0 := ⟨(rt_inG 687 (by decide +kernel) rfl), (rt_inG 22 (by decide +kernel) rfl), cl_X3, rfl, rfl, rfl⟩
theorem mw_X3_isNumber : rt_Mw M_X3_isNumber 2 := ⟨(rt_inG 655 (by decide +kernel) rfl), (rt_inG 165 (by decide +kernel) rfl), by decide +kernel, ⟨by decide +kernel, by decide +kernel, by decide +kernel⟩, by decide⟩
theorem mi_X3_isNumber : Cond.instanceMethod (rt_y M_X3_isNumber) ∈ rt_mG ∧ Cond.selects (rt_R 3) (rt_y M_X3_isNumber) (rt_y M_X3_isNumber) ∈ rt_mG ∧ rt_CL 3 ∧ (rt_y M_X3_isNumber).cls = rt_R 3 ∧ rt_mc M_X3_isNumber = 0 ∧ rt_ms M_X3_isNumber = 0 := ⟨(rt_inG 654 (by decide +kernel) rfl), (rt_inG 19 (by decide +kernel) rfl), cl_X3, rfl, rfl, rfl⟩
theorem mw_X3_jointOf : rt_Mw M_X3_jointOf 1 := ⟨(rt_inG 738 (by decide +kernel) rfl), (rt_inG 165 (by decide +kernel) rfl), by decide +kernel, ⟨by decide +kernel, by decide +kernel, by decide +kernel⟩, by decide⟩
theorem mi_X3_jointOf : Cond.instanceMethod (rt_y M_X3_jointOf) ∈ rt_mG ∧ Cond.selects (rt_R 3) (rt_y M_X3_jointOf) (rt_y M_X3_jointOf) ∈ rt_mG ∧ rt_CL 3 ∧ (rt_y M_X3_jointOf).cls = rt_R 3 ∧ rt_mc M_X3_jointOf = 0 ∧ rt_ms M_X3_jointOf = 0 := ⟨(rt_inG 737 (by decide +kernel) rfl), (rt_inG 31 (by decide +kernel) rfl), cl_X3, rfl, rfl, rfl⟩
theorem mw_X3_kind : rt_Mw M_X3_kind 0 := ⟨(rt_inG 607 (by decide +kernel) rfl), (rt_inG 165 (by decide +kernel) rfl), by decide +kernel, ⟨by decide +kernel, by decide +kernel, by decide +kernel⟩, by decide⟩
theorem mi_X3_kind : Cond.instanceMethod (rt_y M_X3_kind) ∈ rt_mG ∧ Cond.selects (rt_R 3) (rt_y M_X3_kind) (rt_y M_X3_kind) ∈ rt_mG ∧ rt_CL 3 ∧ (rt_y M_X3_kind).cls = rt_R 3 ∧ rt_mc M_X3_kind = 0 ∧ rt_ms M_X3_kind = 0 := ⟨(rt_inG 606 (by decide +kernel) rfl), (rt_inG 9 (by decide +kernel) rfl), cl_X3, rfl, rfl, rfl⟩
theorem mw_X3_lawLine : rt_Mw M_X3_lawLine 1 := ⟨(rt_inG 700 (by decide +kernel) rfl), (rt_inG 165 (by decide +kernel) rfl), by decide +kernel, ⟨by decide +kernel, by decide +kernel, by decide +kernel⟩, by decide⟩
theorem mi_X3_lawLine : Cond.instanceMethod (rt_y M_X3_lawLine) ∈ rt_mG ∧ Cond.selects (rt_R 3) (rt_y M_X3_lawLine) (rt_y M_X3_lawLine) ∈ rt_mG ∧ rt_CL 3 ∧ (rt_y M_X3_lawLine).cls = rt_R 3 ∧ rt_mc M_X3_lawLine = 0 ∧ rt_ms M_X3_lawLine = 0 := ⟨(rt_inG 699 (by decide +kernel) rfl), (rt_inG 24 (by decide +kernel) rfl), cl_X3, rfl, rfl, rfl⟩
theorem mw_X3_link : rt_Mw M_X3_link 3 := ⟨(rt_inG 708 (by decide +kernel) rfl), (rt_inG 165 (by decide +kernel) rfl), by decide +kernel, ⟨by decide +kernel, by decide +kernel, by decide +kernel⟩, by decide⟩
theorem mi_X3_link : Cond.instanceMethod (rt_y M_X3_link) ∈ rt_mG ∧ Cond.selects (rt_R 3) (rt_y M_X3_link) (rt_y M_X3_link) ∈ rt_mG ∧ rt_CL 3 ∧ (rt_y M_X3_link).cls = rt_R 3 ∧ rt_mc M_X3_link = 0 ∧ rt_ms M_X3_link = 0 := ⟨(rt_inG 707 (by decide +kernel) rfl), (rt_inG 26 (by decide +kernel) rfl), cl_X3, rfl, rfl, rfl⟩
theorem mw_X3_newName : rt_Mw M_X3_newName 1 := ⟨(rt_inG 630 (by decide +kernel) rfl), (rt_inG 165 (by decide +kernel) rfl), by decide +kernel, ⟨by decide +kernel, by decide +kernel, by decide +kernel⟩, by decide⟩
theorem mi_X3_newName : Cond.instanceMethod (rt_y M_X3_newName) ∈ rt_mG ∧ Cond.selects (rt_R 3) (rt_y M_X3_newName) (rt_y M_X3_newName) ∈ rt_mG ∧ rt_CL 3 ∧ (rt_y M_X3_newName).cls = rt_R 3 ∧ rt_mc M_X3_newName = 0 ∧ rt_ms M_X3_newName = 0 := ⟨(rt_inG 629 (by decide +kernel) rfl), (rt_inG 14 (by decide +kernel) rfl), cl_X3, rfl, rfl, rfl⟩
theorem mw_X3_oldName : rt_Mw M_X3_oldName 1 := ⟨(rt_inG 790 (by decide +kernel) rfl), (rt_inG 165 (by decide +kernel) rfl), by decide +kernel, ⟨by decide +kernel, by decide +kernel, by decide +kernel⟩, by decide⟩
theorem mi_X3_oldName : Cond.instanceMethod (rt_y M_X3_oldName) ∈ rt_mG ∧ Cond.selects (rt_R 3) (rt_y M_X3_oldName) (rt_y M_X3_oldName) ∈ rt_mG ∧ rt_CL 3 ∧ (rt_y M_X3_oldName).cls = rt_R 3 ∧ rt_mc M_X3_oldName = 0 ∧ rt_ms M_X3_oldName = 0 := ⟨(rt_inG 789 (by decide +kernel) rfl), (rt_inG 38 (by decide +kernel) rfl), cl_X3, rfl, rfl, rfl⟩
theorem mw_X3_part : rt_Mw M_X3_part 2 := ⟨(rt_inG 724 (by decide +kernel) rfl), (rt_inG 165 (by decide +kernel) rfl), by decide +kernel, ⟨by decide +kernel, by decide +kernel, by decide +kernel⟩, by decide⟩
theorem mi_X3_part : Cond.instanceMethod (rt_y M_X3_part) ∈ rt_mG ∧ Cond.selects (rt_R 3) (rt_y M_X3_part) (rt_y M_X3_part) ∈ rt_mG ∧ rt_CL 3 ∧ (rt_y M_X3_part).cls = rt_R 3 ∧ rt_mc M_X3_part = 0 ∧ rt_ms M_X3_part = 0 := ⟨(rt_inG 723 (by decide +kernel) rfl), (rt_inG 29 (by decide +kernel) rfl), cl_X3, rfl, rfl, rfl⟩
theorem mw_X3_readRealm : rt_Mw M_X3_readRealm 1 := ⟨(rt_inG 555 (by decide +kernel) rfl), (rt_inG 165 (by decide +kernel) rfl), by decide +kernel, ⟨by decide +kernel, by decide +kernel, by decide +kernel⟩, by decide⟩
theorem mi_X3_readRealm : Cond.instanceMethod (rt_y M_X3_readRealm) ∈ rt_mG ∧ Cond.selects (rt_R 3) (rt_y M_X3_readRealm) (rt_y M_X3_readRealm) ∈ rt_mG ∧ rt_CL 3 ∧ (rt_y M_X3_readRealm).cls = rt_R 3 ∧ rt_mc M_X3_readRealm = 0 ∧ rt_ms M_X3_readRealm = 0 := ⟨(rt_inG 554 (by decide +kernel) rfl), (rt_inG 1 (by decide +kernel) rfl), cl_X3, rfl, rfl, rfl⟩
theorem mw_X3_readYears : rt_Mw M_X3_readYears 2 := ⟨(rt_inG 774 (by decide +kernel) rfl), (rt_inG 165 (by decide +kernel) rfl), by decide +kernel, ⟨by decide +kernel, by decide +kernel, by decide +kernel⟩, by decide⟩
theorem mi_X3_readYears : Cond.instanceMethod (rt_y M_X3_readYears) ∈ rt_mG ∧ Cond.selects (rt_R 3) (rt_y M_X3_readYears) (rt_y M_X3_readYears) ∈ rt_mG ∧ rt_CL 3 ∧ (rt_y M_X3_readYears).cls = rt_R 3 ∧ rt_mc M_X3_readYears = 0 ∧ rt_ms M_X3_readYears = 0 := ⟨(rt_inG 773 (by decide +kernel) rfl), (rt_inG 36 (by decide +kernel) rfl), cl_X3, rfl, rfl, rfl⟩
theorem mw_X3_realmLine : rt_Mw M_X3_realmLine 1 := ⟨(rt_inG 612 (by decide +kernel) rfl), (rt_inG 165 (by decide +kernel) rfl), by decide +kernel, ⟨by decide +kernel, by decide +kernel, by decide +kernel⟩, by decide⟩
theorem mi_X3_realmLine : Cond.instanceMethod (rt_y M_X3_realmLine) ∈ rt_mG ∧ Cond.selects (rt_R 3) (rt_y M_X3_realmLine) (rt_y M_X3_realmLine) ∈ rt_mG ∧ rt_CL 3 ∧ (rt_y M_X3_realmLine).cls = rt_R 3 ∧ rt_mc M_X3_realmLine = 0 ∧ rt_ms M_X3_realmLine = 0 := ⟨(rt_inG 611 (by decide +kernel) rfl), (rt_inG 10 (by decide +kernel) rfl), cl_X3, rfl, rfl, rfl⟩
theorem mw_X3_slackLine : rt_Mw M_X3_slackLine 1 := ⟨(rt_inG 694 (by decide +kernel) rfl), (rt_inG 165 (by decide +kernel) rfl), by decide +kernel, ⟨by decide +kernel, by decide +kernel, by decide +kernel⟩, by decide⟩
theorem mi_X3_slackLine : Cond.instanceMethod (rt_y M_X3_slackLine) ∈ rt_mG ∧ Cond.selects (rt_R 3) (rt_y M_X3_slackLine) (rt_y M_X3_slackLine) ∈ rt_mG ∧ rt_CL 3 ∧ (rt_y M_X3_slackLine).cls = rt_R 3 ∧ rt_mc M_X3_slackLine = 0 ∧ rt_ms M_X3_slackLine = 0 := ⟨(rt_inG 693 (by decide +kernel) rfl), (rt_inG 23 (by decide +kernel) rfl), cl_X3, rfl, rfl, rfl⟩
theorem mw_X3_start : rt_Mw M_X3_start 0 := ⟨(rt_inG 559 (by decide +kernel) rfl), (rt_inG 165 (by decide +kernel) rfl), by decide +kernel, ⟨by decide +kernel, by decide +kernel, by decide +kernel⟩, by decide⟩
theorem mi_X3_start : Cond.instanceMethod (rt_y M_X3_start) ∈ rt_mG ∧ Cond.selects (rt_R 3) (rt_y M_X3_start) (rt_y M_X3_start) ∈ rt_mG ∧ rt_CL 3 ∧ (rt_y M_X3_start).cls = rt_R 3 ∧ rt_mc M_X3_start = 0 ∧ rt_ms M_X3_start = 0 := ⟨(rt_inG 558 (by decide +kernel) rfl), (rt_inG 2 (by decide +kernel) rfl), cl_X3, rfl, rfl, rfl⟩
theorem mw_X3_take : rt_Mw M_X3_take 1 := ⟨(rt_inG 651 (by decide +kernel) rfl), (rt_inG 165 (by decide +kernel) rfl), by decide +kernel, ⟨by decide +kernel, by decide +kernel, by decide +kernel⟩, by decide⟩
theorem mi_X3_take : Cond.instanceMethod (rt_y M_X3_take) ∈ rt_mG ∧ Cond.selects (rt_R 3) (rt_y M_X3_take) (rt_y M_X3_take) ∈ rt_mG ∧ rt_CL 3 ∧ (rt_y M_X3_take).cls = rt_R 3 ∧ rt_mc M_X3_take = 0 ∧ rt_ms M_X3_take = 0 := ⟨(rt_inG 650 (by decide +kernel) rfl), (rt_inG 18 (by decide +kernel) rfl), cl_X3, rfl, rfl, rfl⟩
theorem mw_X3_test : rt_Mw M_X3_test 2 := ⟨(rt_inG 712 (by decide +kernel) rfl), (rt_inG 165 (by decide +kernel) rfl), by decide +kernel, ⟨by decide +kernel, by decide +kernel, by decide +kernel⟩, by decide⟩
theorem mi_X3_test : Cond.instanceMethod (rt_y M_X3_test) ∈ rt_mG ∧ Cond.selects (rt_R 3) (rt_y M_X3_test) (rt_y M_X3_test) ∈ rt_mG ∧ rt_CL 3 ∧ (rt_y M_X3_test).cls = rt_R 3 ∧ rt_mc M_X3_test = 0 ∧ rt_ms M_X3_test = 0 := ⟨(rt_inG 711 (by decide +kernel) rfl), (rt_inG 27 (by decide +kernel) rfl), cl_X3, rfl, rfl, rfl⟩
theorem mw_X3_value : rt_Mw M_X3_value 0 := ⟨(rt_inG 626 (by decide +kernel) rfl), (rt_inG 165 (by decide +kernel) rfl), by decide +kernel, ⟨by decide +kernel, by decide +kernel, by decide +kernel⟩, by decide⟩
theorem mi_X3_value : Cond.instanceMethod (rt_y M_X3_value) ∈ rt_mG ∧ Cond.selects (rt_R 3) (rt_y M_X3_value) (rt_y M_X3_value) ∈ rt_mG ∧ rt_CL 3 ∧ (rt_y M_X3_value).cls = rt_R 3 ∧ rt_mc M_X3_value = 0 ∧ rt_ms M_X3_value = 0 := ⟨(rt_inG 625 (by decide +kernel) rfl), (rt_inG 13 (by decide +kernel) rfl), cl_X3, rfl, rfl, rfl⟩
theorem mw_X3_wigLine : rt_Mw M_X3_wigLine 1 := ⟨(rt_inG 618 (by decide +kernel) rfl), (rt_inG 165 (by decide +kernel) rfl), by decide +kernel, ⟨by decide +kernel, by decide +kernel, by decide +kernel⟩, by decide⟩
theorem mi_X3_wigLine : Cond.instanceMethod (rt_y M_X3_wigLine) ∈ rt_mG ∧ Cond.selects (rt_R 3) (rt_y M_X3_wigLine) (rt_y M_X3_wigLine) ∈ rt_mG ∧ rt_CL 3 ∧ (rt_y M_X3_wigLine).cls = rt_R 3 ∧ rt_mc M_X3_wigLine = 0 ∧ rt_ms M_X3_wigLine = 0 := ⟨(rt_inG 617 (by decide +kernel) rfl), (rt_inG 11 (by decide +kernel) rfl), cl_X3, rfl, rfl, rfl⟩
theorem mw_X3_yearsLine : rt_Mw M_X3_yearsLine 2 := ⟨(rt_inG 778 (by decide +kernel) rfl), (rt_inG 165 (by decide +kernel) rfl), by decide +kernel, ⟨by decide +kernel, by decide +kernel, by decide +kernel⟩, by decide⟩
theorem mi_X3_yearsLine : Cond.instanceMethod (rt_y M_X3_yearsLine) ∈ rt_mG ∧ Cond.selects (rt_R 3) (rt_y M_X3_yearsLine) (rt_y M_X3_yearsLine) ∈ rt_mG ∧ rt_CL 3 ∧ (rt_y M_X3_yearsLine).cls = rt_R 3 ∧ rt_mc M_X3_yearsLine = 0 ∧ rt_ms M_X3_yearsLine = 0 := ⟨(rt_inG 777 (by decide +kernel) rfl), (rt_inG 37 (by decide +kernel) rfl), cl_X3, rfl, rfl, rfl⟩
theorem mw_X4_clear : rt_Mw M_X4_clear 0 := ⟨(rt_inG 599 (by decide +kernel) rfl), (rt_inG 170 (by decide +kernel) rfl), by decide +kernel, ⟨by decide +kernel, by decide +kernel, by decide +kernel⟩, by decide⟩
theorem mi_X4_clear : Cond.instanceMethod (rt_y M_X4_clear) ∈ rt_mG ∧ Cond.selects (rt_R 4) (rt_y M_X4_clear) (rt_y M_X4_clear) ∈ rt_mG ∧ rt_CL 4 ∧ (rt_y M_X4_clear).cls = rt_R 4 ∧ rt_mc M_X4_clear = 0 ∧ rt_ms M_X4_clear = 0 := ⟨(rt_inG 598 (by decide +kernel) rfl), (rt_inG 7 (by decide +kernel) rfl), cl_X4, rfl, rfl, rfl⟩
theorem mw_X4_girth : rt_Mw M_X4_girth 2 := ⟨(rt_inG 848 (by decide +kernel) rfl), (rt_inG 170 (by decide +kernel) rfl), by decide +kernel, ⟨by decide +kernel, by decide +kernel, by decide +kernel⟩, by decide⟩
theorem mi_X4_girth : Cond.instanceMethod (rt_y M_X4_girth) ∈ rt_mG ∧ Cond.selects (rt_R 4) (rt_y M_X4_girth) (rt_y M_X4_girth) ∈ rt_mG ∧ rt_CL 4 ∧ (rt_y M_X4_girth).cls = rt_R 4 ∧ rt_mc M_X4_girth = 0 ∧ rt_ms M_X4_girth = 0 := ⟨(rt_inG 847 (by decide +kernel) rfl), (rt_inG 50 (by decide +kernel) rfl), cl_X4, rfl, rfl, rfl⟩
theorem mw_X4_headNamed : rt_Mw M_X4_headNamed 1 := ⟨(rt_inG 641 (by decide +kernel) rfl), (rt_inG 170 (by decide +kernel) rfl), by decide +kernel, ⟨by decide +kernel, by decide +kernel, by decide +kernel⟩, by decide⟩
theorem mi_X4_headNamed : Cond.instanceMethod (rt_y M_X4_headNamed) ∈ rt_mG ∧ Cond.selects (rt_R 4) (rt_y M_X4_headNamed) (rt_y M_X4_headNamed) ∈ rt_mG ∧ rt_CL 4 ∧ (rt_y M_X4_headNamed).cls = rt_R 4 ∧ rt_mc M_X4_headNamed = 0 ∧ rt_ms M_X4_headNamed = 0 := ⟨(rt_inG 640 (by decide +kernel) rfl), (rt_inG 16 (by decide +kernel) rfl), cl_X4, rfl, rfl, rfl⟩
theorem mw_X4_heatOf : rt_Mw M_X4_heatOf 1 := ⟨(rt_inG 853 (by decide +kernel) rfl), (rt_inG 170 (by decide +kernel) rfl), by decide +kernel, ⟨by decide +kernel, by decide +kernel, by decide +kernel⟩, by decide⟩
theorem mi_X4_heatOf : Cond.instanceMethod (rt_y M_X4_heatOf) ∈ rt_mG ∧ Cond.selects (rt_R 4) (rt_y M_X4_heatOf) (rt_y M_X4_heatOf) ∈ rt_mG ∧ rt_CL 4 ∧ (rt_y M_X4_heatOf).cls = rt_R 4 ∧ rt_mc M_X4_heatOf = 0 ∧ rt_ms M_X4_heatOf = 0 := ⟨(rt_inG 852 (by decide +kernel) rfl), (rt_inG 51 (by decide +kernel) rfl), cl_X4, rfl, rfl, rfl⟩
theorem mw_X4_isFit : rt_Mw M_X4_isFit 3 := ⟨(rt_inG 881 (by decide +kernel) rfl), (rt_inG 170 (by decide +kernel) rfl), by decide +kernel, ⟨by decide +kernel, by decide +kernel, by decide +kernel⟩, by decide⟩
theorem mi_X4_isFit : Cond.instanceMethod (rt_y M_X4_isFit) ∈ rt_mG ∧ Cond.selects (rt_R 4) (rt_y M_X4_isFit) (rt_y M_X4_isFit) ∈ rt_mG ∧ rt_CL 4 ∧ (rt_y M_X4_isFit).cls = rt_R 4 ∧ rt_mc M_X4_isFit = 0 ∧ rt_ms M_X4_isFit = 0 := ⟨(rt_inG 880 (by decide +kernel) rfl), (rt_inG 54 (by decide +kernel) rfl), cl_X4, rfl, rfl, rfl⟩
theorem mw_X4_isFor : rt_Mw M_X4_isFor 3 := ⟨(rt_inG 990 (by decide +kernel) rfl), (rt_inG 170 (by decide +kernel) rfl), by decide +kernel, ⟨by decide +kernel, by decide +kernel, by decide +kernel⟩, by decide⟩
theorem mi_X4_isFor : Cond.instanceMethod (rt_y M_X4_isFor) ∈ rt_mG ∧ Cond.selects (rt_R 4) (rt_y M_X4_isFor) (rt_y M_X4_isFor) ∈ rt_mG ∧ rt_CL 4 ∧ (rt_y M_X4_isFor).cls = rt_R 4 ∧ rt_mc M_X4_isFor = 0 ∧ rt_ms M_X4_isFor = 0 := ⟨(rt_inG 989 (by decide +kernel) rfl), (rt_inG 68 (by decide +kernel) rfl), cl_X4, rfl, rfl, rfl⟩
theorem mw_X4_isHead : rt_Mw M_X4_isHead 1 := ⟨(rt_inG 839 (by decide +kernel) rfl), (rt_inG 170 (by decide +kernel) rfl), by decide +kernel, ⟨by decide +kernel, by decide +kernel, by decide +kernel⟩, by decide⟩
theorem mi_X4_isHead : Cond.instanceMethod (rt_y M_X4_isHead) ∈ rt_mG ∧ Cond.selects (rt_R 4) (rt_y M_X4_isHead) (rt_y M_X4_isHead) ∈ rt_mG ∧ rt_CL 4 ∧ (rt_y M_X4_isHead).cls = rt_R 4 ∧ rt_mc M_X4_isHead = 0 ∧ rt_ms M_X4_isHead = 0 := ⟨(rt_inG 838 (by decide +kernel) rfl), (rt_inG 48 (by decide +kernel) rfl), cl_X4, rfl, rfl, rfl⟩
theorem mw_X4_isTilt : rt_Mw M_X4_isTilt 1 := ⟨(rt_inG 887 (by decide +kernel) rfl), (rt_inG 170 (by decide +kernel) rfl), by decide +kernel, ⟨by decide +kernel, by decide +kernel, by decide +kernel⟩, by decide⟩
theorem mi_X4_isTilt : Cond.instanceMethod (rt_y M_X4_isTilt) ∈ rt_mG ∧ Cond.selects (rt_R 4) (rt_y M_X4_isTilt) (rt_y M_X4_isTilt) ∈ rt_mG ∧ rt_CL 4 ∧ (rt_y M_X4_isTilt).cls = rt_R 4 ∧ rt_mc M_X4_isTilt = 0 ∧ rt_ms M_X4_isTilt = 0 := ⟨(rt_inG 886 (by decide +kernel) rfl), (rt_inG 55 (by decide +kernel) rfl), cl_X4, rfl, rfl, rfl⟩
theorem mw_X4_isWig : rt_Mw M_X4_isWig 1 := ⟨(rt_inG 806 (by decide +kernel) rfl), (rt_inG 170 (by decide +kernel) rfl), by decide +kernel, ⟨by decide +kernel, by decide +kernel, by decide +kernel⟩, by decide⟩
theorem mi_X4_isWig : Cond.instanceMethod (rt_y M_X4_isWig) ∈ rt_mG ∧ Cond.selects (rt_R 4) (rt_y M_X4_isWig) (rt_y M_X4_isWig) ∈ rt_mG ∧ rt_CL 4 ∧ (rt_y M_X4_isWig).cls = rt_R 4 ∧ rt_mc M_X4_isWig = 0 ∧ rt_ms M_X4_isWig = 0 := ⟨(rt_inG 805 (by decide +kernel) rfl), (rt_inG 41 (by decide +kernel) rfl), cl_X4, rfl, rfl, rfl⟩
theorem mw_X4_leanOfWig : rt_Mw M_X4_leanOfWig 1 := ⟨(rt_inG 823 (by decide +kernel) rfl), (rt_inG 170 (by decide +kernel) rfl), by decide +kernel, ⟨by decide +kernel, by decide +kernel, by decide +kernel⟩, by decide⟩
theorem mi_X4_leanOfWig : Cond.instanceMethod (rt_y M_X4_leanOfWig) ∈ rt_mG ∧ Cond.selects (rt_R 4) (rt_y M_X4_leanOfWig) (rt_y M_X4_leanOfWig) ∈ rt_mG ∧ rt_CL 4 ∧ (rt_y M_X4_leanOfWig).cls = rt_R 4 ∧ rt_mc M_X4_leanOfWig = 0 ∧ rt_ms M_X4_leanOfWig = 0 := ⟨(rt_inG 822 (by decide +kernel) rfl), (rt_inG 45 (by decide +kernel) rfl), cl_X4, rfl, rfl, rfl⟩
theorem mw_X4_ofHead : rt_Mw M_X4_ofHead 2 := ⟨(rt_inG 843 (by decide +kernel) rfl), (rt_inG 170 (by decide +kernel) rfl), by decide +kernel, ⟨by decide +kernel, by decide +kernel, by decide +kernel⟩, by decide⟩
theorem mi_X4_ofHead : Cond.instanceMethod (rt_y M_X4_ofHead) ∈ rt_mG ∧ Cond.selects (rt_R 4) (rt_y M_X4_ofHead) (rt_y M_X4_ofHead) ∈ rt_mG ∧ rt_CL 4 ∧ (rt_y M_X4_ofHead).cls = rt_R 4 ∧ rt_mc M_X4_ofHead = 0 ∧ rt_ms M_X4_ofHead = 0 := ⟨(rt_inG 842 (by decide +kernel) rfl), (rt_inG 49 (by decide +kernel) rfl), cl_X4, rfl, rfl, rfl⟩
theorem mw_X4_ofWig : rt_Mw M_X4_ofWig 2 := ⟨(rt_inG 814 (by decide +kernel) rfl), (rt_inG 170 (by decide +kernel) rfl), by decide +kernel, ⟨by decide +kernel, by decide +kernel, by decide +kernel⟩, by decide⟩
theorem mi_X4_ofWig : Cond.instanceMethod (rt_y M_X4_ofWig) ∈ rt_mG ∧ Cond.selects (rt_R 4) (rt_y M_X4_ofWig) (rt_y M_X4_ofWig) ∈ rt_mG ∧ rt_CL 4 ∧ (rt_y M_X4_ofWig).cls = rt_R 4 ∧ rt_mc M_X4_ofWig = 0 ∧ rt_ms M_X4_ofWig = 0 := ⟨(rt_inG 813 (by decide +kernel) rfl), (rt_inG 43 (by decide +kernel) rfl), cl_X4, rfl, rfl, rfl⟩
theorem mw_X4_officeOf : rt_Mw M_X4_officeOf 1 := ⟨(rt_inG 819 (by decide +kernel) rfl), (rt_inG 170 (by decide +kernel) rfl), by decide +kernel, ⟨by decide +kernel, by decide +kernel, by decide +kernel⟩, by decide⟩
theorem mi_X4_officeOf : Cond.instanceMethod (rt_y M_X4_officeOf) ∈ rt_mG ∧ Cond.selects (rt_R 4) (rt_y M_X4_officeOf) (rt_y M_X4_officeOf) ∈ rt_mG ∧ rt_CL 4 ∧ (rt_y M_X4_officeOf).cls = rt_R 4 ∧ rt_mc M_X4_officeOf = 0 ∧ rt_ms M_X4_officeOf = 0 := ⟨(rt_inG 818 (by decide +kernel) rfl), (rt_inG 44 (by decide +kernel) rfl), cl_X4, rfl, rfl, rfl⟩
theorem mw_X4_officeOfAll : rt_Mw M_X4_officeOfAll 1 := ⟨(rt_inG 974 (by decide +kernel) rfl), (rt_inG 170 (by decide +kernel) rfl), by decide +kernel, ⟨by decide +kernel, by decide +kernel, by decide +kernel⟩, by decide⟩
theorem mi_X4_officeOfAll : Cond.instanceMethod (rt_y M_X4_officeOfAll) ∈ rt_mG ∧ Cond.selects (rt_R 4) (rt_y M_X4_officeOfAll) (rt_y M_X4_officeOfAll) ∈ rt_mG ∧ rt_CL 4 ∧ (rt_y M_X4_officeOfAll).cls = rt_R 4 ∧ rt_mc M_X4_officeOfAll = 0 ∧ rt_ms M_X4_officeOfAll = 0 := ⟨(rt_inG 973 (by decide +kernel) rfl), (rt_inG 66 (by decide +kernel) rfl), cl_X4, rfl, rfl, rfl⟩
theorem mw_X4_placeOf : rt_Mw M_X4_placeOf 3 := ⟨(rt_inG 637 (by decide +kernel) rfl), (rt_inG 170 (by decide +kernel) rfl), by decide +kernel, ⟨by decide +kernel, by decide +kernel, by decide +kernel⟩, by decide⟩
theorem mi_X4_placeOf : Cond.static (rt_y M_X4_placeOf) ∈ rt_mG ∧ rt_mc M_X4_placeOf = 0 ∧ rt_ms M_X4_placeOf = 0 := ⟨(rt_inG 636 (by decide +kernel) rfl), rfl, rfl⟩
theorem mw_X4_sizeOfWig : rt_Mw M_X4_sizeOfWig 1 := ⟨(rt_inG 810 (by decide +kernel) rfl), (rt_inG 170 (by decide +kernel) rfl), by decide +kernel, ⟨by decide +kernel, by decide +kernel, by decide +kernel⟩, by decide⟩
theorem mi_X4_sizeOfWig : Cond.instanceMethod (rt_y M_X4_sizeOfWig) ∈ rt_mG ∧ Cond.selects (rt_R 4) (rt_y M_X4_sizeOfWig) (rt_y M_X4_sizeOfWig) ∈ rt_mG ∧ rt_CL 4 ∧ (rt_y M_X4_sizeOfWig).cls = rt_R 4 ∧ rt_mc M_X4_sizeOfWig = 0 ∧ rt_ms M_X4_sizeOfWig = 0 := ⟨(rt_inG 809 (by decide +kernel) rfl), (rt_inG 42 (by decide +kernel) rfl), cl_X4, rfl, rfl, rfl⟩
theorem mw_X4_wigNamed : rt_Mw M_X4_wigNamed 1 := ⟨(rt_inG 634 (by decide +kernel) rfl), (rt_inG 170 (by decide +kernel) rfl), by decide +kernel, ⟨by decide +kernel, by decide +kernel, by decide +kernel⟩, by decide⟩
theorem mi_X4_wigNamed : Cond.instanceMethod (rt_y M_X4_wigNamed) ∈ rt_mG ∧ Cond.selects (rt_R 4) (rt_y M_X4_wigNamed) (rt_y M_X4_wigNamed) ∈ rt_mG ∧ rt_CL 4 ∧ (rt_y M_X4_wigNamed).cls = rt_R 4 ∧ rt_mc M_X4_wigNamed = 0 ∧ rt_ms M_X4_wigNamed = 0 := ⟨(rt_inG 633 (by decide +kernel) rfl), (rt_inG 15 (by decide +kernel) rfl), cl_X4, rfl, rfl, rfl⟩
theorem mw_X5_begin : rt_Mw M_X5_begin 2 := ⟨(rt_inG 1002 (by decide +kernel) rfl), (rt_inG 175 (by decide +kernel) rfl), by decide +kernel, ⟨by decide +kernel, by decide +kernel, by decide +kernel⟩, by decide⟩
theorem mi_X5_begin : Cond.instanceMethod (rt_y M_X5_begin) ∈ rt_mG ∧ Cond.selects (rt_R 5) (rt_y M_X5_begin) (rt_y M_X5_begin) ∈ rt_mG ∧ rt_CL 5 ∧ (rt_y M_X5_begin).cls = rt_R 5 ∧ rt_mc M_X5_begin = 0 ∧ rt_ms M_X5_begin = 0 := ⟨(rt_inG 1001 (by decide +kernel) rfl), (rt_inG 69 (by decide +kernel) rfl), cl_X5, rfl, rfl, rfl⟩
theorem mw_X5_chosen : rt_Mw M_X5_chosen 1 := ⟨(rt_inG 1040 (by decide +kernel) rfl), (rt_inG 175 (by decide +kernel) rfl), by decide +kernel, ⟨by decide +kernel, by decide +kernel, by decide +kernel⟩, by decide⟩
theorem mi_X5_chosen : Cond.instanceMethod (rt_y M_X5_chosen) ∈ rt_mG ∧ Cond.selects (rt_R 5) (rt_y M_X5_chosen) (rt_y M_X5_chosen) ∈ rt_mG ∧ rt_CL 5 ∧ (rt_y M_X5_chosen).cls = rt_R 5 ∧ rt_mc M_X5_chosen = 0 ∧ rt_ms M_X5_chosen = 0 := ⟨(rt_inG 1039 (by decide +kernel) rfl), (rt_inG 78 (by decide +kernel) rfl), cl_X5, rfl, rfl, rfl⟩
theorem mw_X5_gains : rt_Mw M_X5_gains 3 := ⟨(rt_inG 1024 (by decide +kernel) rfl), (rt_inG 175 (by decide +kernel) rfl), by decide +kernel, ⟨by decide +kernel, by decide +kernel, by decide +kernel⟩, by decide⟩
theorem mi_X5_gains : Cond.instanceMethod (rt_y M_X5_gains) ∈ rt_mG ∧ Cond.selects (rt_R 5) (rt_y M_X5_gains) (rt_y M_X5_gains) ∈ rt_mG ∧ rt_CL 5 ∧ (rt_y M_X5_gains).cls = rt_R 5 ∧ rt_mc M_X5_gains = 0 ∧ rt_ms M_X5_gains = 0 := ⟨(rt_inG 1023 (by decide +kernel) rfl), (rt_inG 74 (by decide +kernel) rfl), cl_X5, rfl, rfl, rfl⟩
theorem mw_X5_keepFirstRow : rt_Mw M_X5_keepFirstRow 0 := ⟨(rt_inG 1036 (by decide +kernel) rfl), (rt_inG 175 (by decide +kernel) rfl), by decide +kernel, ⟨by decide +kernel, by decide +kernel, by decide +kernel⟩, by decide⟩
theorem mi_X5_keepFirstRow : Cond.instanceMethod (rt_y M_X5_keepFirstRow) ∈ rt_mG ∧ Cond.selects (rt_R 5) (rt_y M_X5_keepFirstRow) (rt_y M_X5_keepFirstRow) ∈ rt_mG ∧ rt_CL 5 ∧ (rt_y M_X5_keepFirstRow).cls = rt_R 5 ∧ rt_mc M_X5_keepFirstRow = 0 ∧ rt_ms M_X5_keepFirstRow = 0 := ⟨(rt_inG 1035 (by decide +kernel) rfl), (rt_inG 77 (by decide +kernel) rfl), cl_X5, rfl, rfl, rfl⟩
theorem mw_X5_open : rt_Mw M_X5_open 2 := ⟨(rt_inG 1020 (by decide +kernel) rfl), (rt_inG 175 (by decide +kernel) rfl), by decide +kernel, ⟨by decide +kernel, by decide +kernel, by decide +kernel⟩, by decide⟩
theorem mi_X5_open : Cond.instanceMethod (rt_y M_X5_open) ∈ rt_mG ∧ Cond.selects (rt_R 5) (rt_y M_X5_open) (rt_y M_X5_open) ∈ rt_mG ∧ rt_CL 5 ∧ (rt_y M_X5_open).cls = rt_R 5 ∧ rt_mc M_X5_open = 0 ∧ rt_ms M_X5_open = 0 := ⟨(rt_inG 1019 (by decide +kernel) rfl), (rt_inG 73 (by decide +kernel) rfl), cl_X5, rfl, rfl, rfl⟩
theorem mw_X5_solve : rt_Mw M_X5_solve 0 := ⟨(rt_inG 1028 (by decide +kernel) rfl), (rt_inG 175 (by decide +kernel) rfl), by decide +kernel, ⟨by decide +kernel, by decide +kernel, by decide +kernel⟩, by decide⟩
theorem mi_X5_solve : Cond.instanceMethod (rt_y M_X5_solve) ∈ rt_mG ∧ Cond.selects (rt_R 5) (rt_y M_X5_solve) (rt_y M_X5_solve) ∈ rt_mG ∧ rt_CL 5 ∧ (rt_y M_X5_solve).cls = rt_R 5 ∧ rt_mc M_X5_solve = 0 ∧ rt_ms M_X5_solve = 0 := ⟨(rt_inG 1027 (by decide +kernel) rfl), (rt_inG 75 (by decide +kernel) rfl), cl_X5, rfl, rfl, rfl⟩
theorem mw_X5_through : rt_Mw M_X5_through 3 := ⟨(rt_inG 1032 (by decide +kernel) rfl), (rt_inG 175 (by decide +kernel) rfl), by decide +kernel, ⟨by decide +kernel, by decide +kernel, by decide +kernel⟩, by decide⟩
theorem mi_X5_through : Cond.instanceMethod (rt_y M_X5_through) ∈ rt_mG ∧ Cond.selects (rt_R 5) (rt_y M_X5_through) (rt_y M_X5_through) ∈ rt_mG ∧ rt_CL 5 ∧ (rt_y M_X5_through).cls = rt_R 5 ∧ rt_mc M_X5_through = 0 ∧ rt_ms M_X5_through = 0 := ⟨(rt_inG 1031 (by decide +kernel) rfl), (rt_inG 76 (by decide +kernel) rfl), cl_X5, rfl, rfl, rfl⟩
theorem mw_X6_add : rt_Mw M_X6_add 3 := ⟨(rt_inG 1048 (by decide +kernel) rfl), (rt_inG 169 (by decide +kernel) rfl), by decide +kernel, ⟨by decide +kernel, by decide +kernel, by decide +kernel⟩, by decide⟩
theorem mi_X6_add : Cond.instanceMethod (rt_y M_X6_add) ∈ rt_mG ∧ Cond.selects (rt_R 6) (rt_y M_X6_add) (rt_y M_X6_add) ∈ rt_mG ∧ rt_CL 6 ∧ (rt_y M_X6_add).cls = rt_R 6 ∧ rt_mc M_X6_add = 0 ∧ rt_ms M_X6_add = 0 := ⟨(rt_inG 1047 (by decide +kernel) rfl), (rt_inG 79 (by decide +kernel) rfl), cl_X6, rfl, rfl, rfl⟩
theorem mw_X6_copy : rt_Mw M_X6_copy 1 := ⟨(rt_inG 1189 (by decide +kernel) rfl), (rt_inG 169 (by decide +kernel) rfl), by decide +kernel, ⟨by decide +kernel, by decide +kernel, by decide +kernel⟩, by decide⟩
theorem mi_X6_copy : Cond.instanceMethod (rt_y M_X6_copy) ∈ rt_mG ∧ Cond.selects (rt_R 6) (rt_y M_X6_copy) (rt_y M_X6_copy) ∈ rt_mG ∧ rt_CL 6 ∧ (rt_y M_X6_copy).cls = rt_R 6 ∧ rt_mc M_X6_copy = 0 ∧ rt_ms M_X6_copy = 0 := ⟨(rt_inG 1188 (by decide +kernel) rfl), (rt_inG 97 (by decide +kernel) rfl), cl_X6, rfl, rfl, rfl⟩
theorem mw_X6_possible : rt_Mw M_X6_possible 1 := ⟨(rt_inG 1056 (by decide +kernel) rfl), (rt_inG 169 (by decide +kernel) rfl), by decide +kernel, ⟨by decide +kernel, by decide +kernel, by decide +kernel⟩, by decide⟩
theorem mi_X6_possible : Cond.instanceMethod (rt_y M_X6_possible) ∈ rt_mG ∧ Cond.selects (rt_R 6) (rt_y M_X6_possible) (rt_y M_X6_possible) ∈ rt_mG ∧ rt_CL 6 ∧ (rt_y M_X6_possible).cls = rt_R 6 ∧ rt_mc M_X6_possible = 0 ∧ rt_ms M_X6_possible = 0 := ⟨(rt_inG 1055 (by decide +kernel) rfl), (rt_inG 80 (by decide +kernel) rfl), cl_X6, rfl, rfl, rfl⟩
theorem mw_X7_canMend : rt_Mw M_X7_canMend 2 := ⟨(rt_inG 929 (by decide +kernel) rfl), (rt_inG 167 (by decide +kernel) rfl), by decide +kernel, ⟨by decide +kernel, by decide +kernel, by decide +kernel⟩, by decide⟩
theorem mi_X7_canMend : Cond.instanceMethod (rt_y M_X7_canMend) ∈ rt_mG ∧ Cond.selects (rt_R 7) (rt_y M_X7_canMend) (rt_y M_X7_canMend) ∈ rt_mG ∧ rt_CL 7 ∧ (rt_y M_X7_canMend).cls = rt_R 7 ∧ rt_mc M_X7_canMend = 0 ∧ rt_ms M_X7_canMend = 0 := ⟨(rt_inG 928 (by decide +kernel) rfl), (rt_inG 61 (by decide +kernel) rfl), cl_X7, rfl, rfl, rfl⟩
theorem mw_X7_canPut : rt_Mw M_X7_canPut 3 := ⟨(rt_inG 895 (by decide +kernel) rfl), (rt_inG 167 (by decide +kernel) rfl), by decide +kernel, ⟨by decide +kernel, by decide +kernel, by decide +kernel⟩, by decide⟩
theorem mi_X7_canPut : Cond.instanceMethod (rt_y M_X7_canPut) ∈ rt_mG ∧ Cond.selects (rt_R 7) (rt_y M_X7_canPut) (rt_y M_X7_canPut) ∈ rt_mG ∧ rt_CL 7 ∧ (rt_y M_X7_canPut).cls = rt_R 7 ∧ rt_mc M_X7_canPut = 0 ∧ rt_ms M_X7_canPut = 0 := ⟨(rt_inG 894 (by decide +kernel) rfl), (rt_inG 56 (by decide +kernel) rfl), cl_X7, rfl, rfl, rfl⟩
theorem mw_X7_canTakeOff : rt_Mw M_X7_canTakeOff 2 := ⟨(rt_inG 921 (by decide +kernel) rfl), (rt_inG 167 (by decide +kernel) rfl), by decide +kernel, ⟨by decide +kernel, by decide +kernel, by decide +kernel⟩, by decide⟩
theorem mi_X7_canTakeOff : Cond.instanceMethod (rt_y M_X7_canTakeOff) ∈ rt_mG ∧ Cond.selects (rt_R 7) (rt_y M_X7_canTakeOff) (rt_y M_X7_canTakeOff) ∈ rt_mG ∧ rt_CL 7 ∧ (rt_y M_X7_canTakeOff).cls = rt_R 7 ∧ rt_mc M_X7_canTakeOff = 0 ∧ rt_ms M_X7_canTakeOff = 0 := ⟨(rt_inG 920 (by decide +kernel) rfl), (rt_inG 60 (by decide +kernel) rfl), cl_X7, rfl, rfl, rfl⟩
theorem mw_X7_clear : rt_Mw M_X7_clear 0 := ⟨(rt_inG 762 (by decide +kernel) rfl), (rt_inG 167 (by decide +kernel) rfl), by decide +kernel, ⟨by decide +kernel, by decide +kernel, by decide +kernel⟩, by decide⟩
theorem mi_X7_clear : Cond.instanceMethod (rt_y M_X7_clear) ∈ rt_mG ∧ Cond.selects (rt_R 7) (rt_y M_X7_clear) (rt_y M_X7_clear) ∈ rt_mG ∧ rt_CL 7 ∧ (rt_y M_X7_clear).cls = rt_R 7 ∧ rt_mc M_X7_clear = 0 ∧ rt_ms M_X7_clear = 0 := ⟨(rt_inG 761 (by decide +kernel) rfl), (rt_inG 34 (by decide +kernel) rfl), cl_X7, rfl, rfl, rfl⟩
theorem mw_X7_copy : rt_Mw M_X7_copy 1 := ⟨(rt_inG 907 (by decide +kernel) rfl), (rt_inG 167 (by decide +kernel) rfl), by decide +kernel, ⟨by decide +kernel, by decide +kernel, by decide +kernel⟩, by decide⟩
theorem mi_X7_copy : Cond.instanceMethod (rt_y M_X7_copy) ∈ rt_mG ∧ Cond.selects (rt_R 7) (rt_y M_X7_copy) (rt_y M_X7_copy) ∈ rt_mG ∧ rt_CL 7 ∧ (rt_y M_X7_copy).cls = rt_R 7 ∧ rt_mc M_X7_copy = 0 ∧ rt_ms M_X7_copy = 0 := ⟨(rt_inG 906 (by decide +kernel) rfl), (rt_inG 58 (by decide +kernel) rfl), cl_X7, rfl, rfl, rfl⟩
theorem mw_X7_headUnder : rt_Mw M_X7_headUnder 1 := ⟨(rt_inG 827 (by decide +kernel) rfl), (rt_inG 167 (by decide +kernel) rfl), by decide +kernel, ⟨by decide +kernel, by decide +kernel, by decide +kernel⟩, by decide⟩
theorem mi_X7_headUnder : Cond.instanceMethod (rt_y M_X7_headUnder) ∈ rt_mG ∧ Cond.selects (rt_R 7) (rt_y M_X7_headUnder) (rt_y M_X7_headUnder) ∈ rt_mG ∧ rt_CL 7 ∧ (rt_y M_X7_headUnder).cls = rt_R 7 ∧ rt_mc M_X7_headUnder = 0 ∧ rt_ms M_X7_headUnder = 0 := ⟨(rt_inG 826 (by decide +kernel) rfl), (rt_inG 46 (by decide +kernel) rfl), cl_X7, rfl, rfl, rfl⟩
theorem mw_X7_makeNew : rt_Mw M_X7_makeNew 1 := ⟨(rt_inG 933 (by decide +kernel) rfl), (rt_inG 167 (by decide +kernel) rfl), by decide +kernel, ⟨by decide +kernel, by decide +kernel, by decide +kernel⟩, by decide⟩
theorem mi_X7_makeNew : Cond.instanceMethod (rt_y M_X7_makeNew) ∈ rt_mG ∧ Cond.selects (rt_R 7) (rt_y M_X7_makeNew) (rt_y M_X7_makeNew) ∈ rt_mG ∧ rt_CL 7 ∧ (rt_y M_X7_makeNew).cls = rt_R 7 ∧ rt_mc M_X7_makeNew = 0 ∧ rt_ms M_X7_makeNew = 0 := ⟨(rt_inG 932 (by decide +kernel) rfl), (rt_inG 62 (by decide +kernel) rfl), cl_X7, rfl, rfl, rfl⟩
theorem mw_X7_pass : rt_Mw M_X7_pass 1 := ⟨(rt_inG 942 (by decide +kernel) rfl), (rt_inG 167 (by decide +kernel) rfl), by decide +kernel, ⟨by decide +kernel, by decide +kernel, by decide +kernel⟩, by decide⟩
theorem mi_X7_pass : Cond.instanceMethod (rt_y M_X7_pass) ∈ rt_mG ∧ Cond.selects (rt_R 7) (rt_y M_X7_pass) (rt_y M_X7_pass) ∈ rt_mG ∧ rt_CL 7 ∧ (rt_y M_X7_pass).cls = rt_R 7 ∧ rt_mc M_X7_pass = 0 ∧ rt_ms M_X7_pass = 0 := ⟨(rt_inG 941 (by decide +kernel) rfl), (rt_inG 63 (by decide +kernel) rfl), cl_X7, rfl, rfl, rfl⟩
theorem mw_X7_place : rt_Mw M_X7_place 2 := ⟨(rt_inG 913 (by decide +kernel) rfl), (rt_inG 167 (by decide +kernel) rfl), by decide +kernel, ⟨by decide +kernel, by decide +kernel, by decide +kernel⟩, by decide⟩
theorem mi_X7_place : Cond.instanceMethod (rt_y M_X7_place) ∈ rt_mG ∧ Cond.selects (rt_R 7) (rt_y M_X7_place) (rt_y M_X7_place) ∈ rt_mG ∧ rt_CL 7 ∧ (rt_y M_X7_place).cls = rt_R 7 ∧ rt_mc M_X7_place = 0 ∧ rt_ms M_X7_place = 0 := ⟨(rt_inG 912 (by decide +kernel) rfl), (rt_inG 59 (by decide +kernel) rfl), cl_X7, rfl, rfl, rfl⟩
theorem mw_X7_wearOf : rt_Mw M_X7_wearOf 1 := ⟨(rt_inG 831 (by decide +kernel) rfl), (rt_inG 167 (by decide +kernel) rfl), by decide +kernel, ⟨by decide +kernel, by decide +kernel, by decide +kernel⟩, by decide⟩
theorem mi_X7_wearOf : Cond.instanceMethod (rt_y M_X7_wearOf) ∈ rt_mG ∧ Cond.selects (rt_R 7) (rt_y M_X7_wearOf) (rt_y M_X7_wearOf) ∈ rt_mG ∧ rt_CL 7 ∧ (rt_y M_X7_wearOf).cls = rt_R 7 ∧ rt_mc M_X7_wearOf = 0 ∧ rt_ms M_X7_wearOf = 0 := ⟨(rt_inG 830 (by decide +kernel) rfl), (rt_inG 47 (by decide +kernel) rfl), cl_X7, rfl, rfl, rfl⟩
theorem mw_X7_wearOfAll : rt_Mw M_X7_wearOfAll 1 := ⟨(rt_inG 1175 (by decide +kernel) rfl), (rt_inG 167 (by decide +kernel) rfl), by decide +kernel, ⟨by decide +kernel, by decide +kernel, by decide +kernel⟩, by decide⟩
theorem mi_X7_wearOfAll : Cond.instanceMethod (rt_y M_X7_wearOfAll) ∈ rt_mG ∧ Cond.selects (rt_R 7) (rt_y M_X7_wearOfAll) (rt_y M_X7_wearOfAll) ∈ rt_mG ∧ rt_CL 7 ∧ (rt_y M_X7_wearOfAll).cls = rt_R 7 ∧ rt_mc M_X7_wearOfAll = 0 ∧ rt_ms M_X7_wearOfAll = 0 := ⟨(rt_inG 1174 (by decide +kernel) rfl), (rt_inG 95 (by decide +kernel) rfl), cl_X7, rfl, rfl, rfl⟩
theorem mw_X7_wigUpon : rt_Mw M_X7_wigUpon 1 := ⟨(rt_inG 873 (by decide +kernel) rfl), (rt_inG 167 (by decide +kernel) rfl), by decide +kernel, ⟨by decide +kernel, by decide +kernel, by decide +kernel⟩, by decide⟩
theorem mi_X7_wigUpon : Cond.instanceMethod (rt_y M_X7_wigUpon) ∈ rt_mG ∧ Cond.selects (rt_R 7) (rt_y M_X7_wigUpon) (rt_y M_X7_wigUpon) ∈ rt_mG ∧ rt_CL 7 ∧ (rt_y M_X7_wigUpon).cls = rt_R 7 ∧ rt_mc M_X7_wigUpon = 0 ∧ rt_ms M_X7_wigUpon = 0 := ⟨(rt_inG 872 (by decide +kernel) rfl), (rt_inG 53 (by decide +kernel) rfl), cl_X7, rfl, rfl, rfl⟩
theorem mw_X7_worn : rt_Mw M_X7_worn 1 := ⟨(rt_inG 970 (by decide +kernel) rfl), (rt_inG 167 (by decide +kernel) rfl), by decide +kernel, ⟨by decide +kernel, by decide +kernel, by decide +kernel⟩, by decide⟩
theorem mi_X7_worn : Cond.instanceMethod (rt_y M_X7_worn) ∈ rt_mG ∧ Cond.selects (rt_R 7) (rt_y M_X7_worn) (rt_y M_X7_worn) ∈ rt_mG ∧ rt_CL 7 ∧ (rt_y M_X7_worn).cls = rt_R 7 ∧ rt_mc M_X7_worn = 0 ∧ rt_ms M_X7_worn = 0 := ⟨(rt_inG 969 (by decide +kernel) rfl), (rt_inG 65 (by decide +kernel) rfl), cl_X7, rfl, rfl, rfl⟩
theorem mw_X7_wornOut : rt_Mw M_X7_wornOut 1 := ⟨(rt_inG 1008 (by decide +kernel) rfl), (rt_inG 167 (by decide +kernel) rfl), by decide +kernel, ⟨by decide +kernel, by decide +kernel, by decide +kernel⟩, by decide⟩
theorem mi_X7_wornOut : Cond.instanceMethod (rt_y M_X7_wornOut) ∈ rt_mG ∧ Cond.selects (rt_R 7) (rt_y M_X7_wornOut) (rt_y M_X7_wornOut) ∈ rt_mG ∧ rt_CL 7 ∧ (rt_y M_X7_wornOut).cls = rt_R 7 ∧ rt_mc M_X7_wornOut = 0 ∧ rt_ms M_X7_wornOut = 0 := ⟨(rt_inG 1007 (by decide +kernel) rfl), (rt_inG 70 (by decide +kernel) rfl), cl_X7, rfl, rfl, rfl⟩
theorem mw_X8_add : rt_Mw M_X8_add 1 := ⟨(rt_inG 546 (by decide +kernel) rfl), (rt_inG 164 (by decide +kernel) rfl), by decide +kernel, ⟨by decide +kernel, by decide +kernel, by decide +kernel⟩, by decide⟩
theorem mi_X8_add : Cond.instanceMethod (rt_y M_X8_add) ∈ rt_mG ∧ Cond.selects (rt_R 8) (rt_y M_X8_add) (rt_y M_X8_add) ∈ rt_mG ∧ rt_CL 8 ∧ (rt_y M_X8_add).cls = rt_R 8 ∧ rt_mc M_X8_add = 0 ∧ rt_ms M_X8_add = 0 := ⟨(rt_inG 545 (by decide +kernel) rfl), (rt_inG 0 (by decide +kernel) rfl), cl_X8, rfl, rfl, rfl⟩
theorem mw_X8_addToken : rt_Mw M_X8_addToken 2 := ⟨(rt_inG 577 (by decide +kernel) rfl), (rt_inG 164 (by decide +kernel) rfl), by decide +kernel, ⟨by decide +kernel, by decide +kernel, by decide +kernel⟩, by decide⟩
theorem mi_X8_addToken : Cond.instanceMethod (rt_y M_X8_addToken) ∈ rt_mG ∧ Cond.selects (rt_R 8) (rt_y M_X8_addToken) (rt_y M_X8_addToken) ∈ rt_mG ∧ rt_CL 8 ∧ (rt_y M_X8_addToken).cls = rt_R 8 ∧ rt_mc M_X8_addToken = 0 ∧ rt_ms M_X8_addToken = 0 := ⟨(rt_inG 576 (by decide +kernel) rfl), (rt_inG 5 (by decide +kernel) rfl), cl_X8, rfl, rfl, rfl⟩
theorem mw_X8_addToken_ : rt_Mw M_X8_addToken_ 3 := ⟨(rt_inG 583 (by decide +kernel) rfl), (rt_inG 164 (by decide +kernel) rfl), by decide +kernel, ⟨by decide +kernel, by decide +kernel, by decide +kernel⟩, by decide⟩
theorem mi_X8_addToken_ : Cond.instanceMethod (rt_y M_X8_addToken_) ∈ rt_mG ∧ Cond.selects (rt_R 8) (rt_y M_X8_addToken_) (rt_y M_X8_addToken_) ∈ rt_mG ∧ rt_CL 8 ∧ (rt_y M_X8_addToken_).cls = rt_R 8 ∧ rt_mc M_X8_addToken_ = 0 ∧ rt_ms M_X8_addToken_ = 0 := ⟨(rt_inG 582 (by decide +kernel) rfl), (rt_inG 6 (by decide +kernel) rfl), cl_X8, rfl, rfl, rfl⟩
theorem mw_X8_clear : rt_Mw M_X8_clear 0 := ⟨(rt_inG 754 (by decide +kernel) rfl), (rt_inG 164 (by decide +kernel) rfl), by decide +kernel, ⟨by decide +kernel, by decide +kernel, by decide +kernel⟩, by decide⟩
theorem mi_X8_clear : Cond.instanceMethod (rt_y M_X8_clear) ∈ rt_mG ∧ Cond.selects (rt_R 8) (rt_y M_X8_clear) (rt_y M_X8_clear) ∈ rt_mG ∧ rt_CL 8 ∧ (rt_y M_X8_clear).cls = rt_R 8 ∧ rt_mc M_X8_clear = 0 ∧ rt_ms M_X8_clear = 0 := ⟨(rt_inG 753 (by decide +kernel) rfl), (rt_inG 32 (by decide +kernel) rfl), cl_X8, rfl, rfl, rfl⟩
theorem mw_X8_endOf : rt_Mw M_X8_endOf 1 := ⟨(rt_inG 567 (by decide +kernel) rfl), (rt_inG 164 (by decide +kernel) rfl), by decide +kernel, ⟨by decide +kernel, by decide +kernel, by decide +kernel⟩, by decide⟩
theorem mi_X8_endOf : Cond.instanceMethod (rt_y M_X8_endOf) ∈ rt_mG ∧ Cond.selects (rt_R 8) (rt_y M_X8_endOf) (rt_y M_X8_endOf) ∈ rt_mG ∧ rt_CL 8 ∧ (rt_y M_X8_endOf).cls = rt_R 8 ∧ rt_mc M_X8_endOf = 0 ∧ rt_ms M_X8_endOf = 0 := ⟨(rt_inG 566 (by decide +kernel) rfl), (rt_inG 4 (by decide +kernel) rfl), cl_X8, rfl, rfl, rfl⟩
theorem mw_X8_isDigit : rt_Mw M_X8_isDigit 1 := ⟨(rt_inG 573 (by decide +kernel) rfl), (rt_inG 164 (by decide +kernel) rfl), by decide +kernel, ⟨by decide +kernel, by decide +kernel, by decide +kernel⟩, by decide⟩
theorem mi_X8_isDigit : Cond.static (rt_y M_X8_isDigit) ∈ rt_mG ∧ rt_mc M_X8_isDigit = 0 ∧ rt_ms M_X8_isDigit = 0 := ⟨(rt_inG 572 (by decide +kernel) rfl), rfl, rfl⟩
theorem mw_X8_isLetter : rt_Mw M_X8_isLetter 1 := ⟨(rt_inG 570 (by decide +kernel) rfl), (rt_inG 164 (by decide +kernel) rfl), by decide +kernel, ⟨by decide +kernel, by decide +kernel, by decide +kernel⟩, by decide⟩
theorem mi_X8_isLetter : Cond.static (rt_y M_X8_isLetter) ∈ rt_mG ∧ rt_mc M_X8_isLetter = 0 ∧ rt_ms M_X8_isLetter = 0 := ⟨(rt_inG 569 (by decide +kernel) rfl), rfl, rfl⟩
theorem mw_X8_split : rt_Mw M_X8_split 0 := ⟨(rt_inG 563 (by decide +kernel) rfl), (rt_inG 164 (by decide +kernel) rfl), by decide +kernel, ⟨by decide +kernel, by decide +kernel, by decide +kernel⟩, by decide⟩
theorem mi_X8_split : Cond.instanceMethod (rt_y M_X8_split) ∈ rt_mG ∧ Cond.selects (rt_R 8) (rt_y M_X8_split) (rt_y M_X8_split) ∈ rt_mG ∧ rt_CL 8 ∧ (rt_y M_X8_split).cls = rt_R 8 ∧ rt_mc M_X8_split = 0 ∧ rt_ms M_X8_split = 0 := ⟨(rt_inG 562 (by decide +kernel) rfl), (rt_inG 3 (by decide +kernel) rfl), cl_X8, rfl, rfl, rfl⟩
theorem mw_X9_spelled : rt_Mw M_X9_spelled 2 := ⟨(rt_inG 591 (by decide +kernel) rfl), (rt_inG 173 (by decide +kernel) rfl), by decide +kernel, ⟨by decide +kernel, by decide +kernel, by decide +kernel⟩, by decide⟩
theorem mi_X9_spelled : Cond.static (rt_y M_X9_spelled) ∈ rt_mG ∧ rt_mc M_X9_spelled = 0 ∧ rt_ms M_X9_spelled = 0 := ⟨(rt_inG 590 (by decide +kernel) rfl), rfl, rfl⟩
theorem sa_X9_158 : Cond.fieldLink RX9 158 RX9 "ALL" "[LWigOffice$Word;" ∈ rt_mG := (rt_inG 592 (by decide +kernel) rfl)
theorem sl_X3_101 : rt_SL RX3 101 8 := ⟨by decide, Or.inl (rt_inG 695 (by decide +kernel) rfl)⟩
theorem sl_X3_112 : rt_SL RX3 112 9 := ⟨by decide, Or.inl (rt_inG 749 (by decide +kernel) rfl)⟩
theorem sl_X3_132 : rt_SL RX3 132 1 := ⟨by decide, Or.inl (rt_inG 642 (by decide +kernel) rfl)⟩
theorem sl_X3_139 : rt_SL RX3 139 2 := ⟨by decide, Or.inl (rt_inG 657 (by decide +kernel) rfl)⟩
theorem sl_X3_142 : rt_SL RX3 142 3 := ⟨by decide, Or.inl (rt_inG 659 (by decide +kernel) rfl)⟩
theorem sl_X3_145 : rt_SL RX3 145 34 := ⟨by decide, Or.inl (rt_inG 661 (by decide +kernel) rfl)⟩
theorem sl_X3_165 : rt_SL RX3 165 5 := ⟨by decide, Or.inl (rt_inG 681 (by decide +kernel) rfl)⟩
theorem sl_X3_182 : rt_SL RX3 182 14 := ⟨by decide, Or.inl (rt_inG 673 (by decide +kernel) rfl)⟩
theorem sl_X3_185 : rt_SL RX3 185 15 := ⟨by decide, Or.inl (rt_inG 675 (by decide +kernel) rfl)⟩
theorem sl_X3_188 : rt_SL RX3 188 16 := ⟨by decide, Or.inl (rt_inG 677 (by decide +kernel) rfl)⟩
theorem sl_X3_191 : rt_SL RX3 191 17 := ⟨by decide, Or.inl (rt_inG 679 (by decide +kernel) rfl)⟩
theorem sl_X3_198 : rt_SL RX3 198 36 := ⟨by decide, Or.inl (rt_inG 656 (by decide +kernel) rfl)⟩
theorem sl_X3_240 : rt_SL RX3 240 19 := ⟨by decide, Or.inl (rt_inG 739 (by decide +kernel) rfl)⟩
theorem sl_X3_243 : rt_SL RX3 243 20 := ⟨by decide, Or.inl (rt_inG 741 (by decide +kernel) rfl)⟩
theorem sl_X3_246 : rt_SL RX3 246 31 := ⟨by decide, Or.inl (rt_inG 743 (by decide +kernel) rfl)⟩
theorem sl_X3_249 : rt_SL RX3 249 32 := ⟨by decide, Or.inl (rt_inG 745 (by decide +kernel) rfl)⟩
theorem sl_X3_252 : rt_SL RX3 252 33 := ⟨by decide, Or.inl (rt_inG 747 (by decide +kernel) rfl)⟩
theorem sl_X3_255 : rt_SL RX3 255 29 := ⟨by decide, Or.inl (rt_inG 713 (by decide +kernel) rfl)⟩
theorem sl_X3_258 : rt_SL RX3 258 30 := ⟨by decide, Or.inl (rt_inG 715 (by decide +kernel) rfl)⟩
theorem sl_X3_265 : rt_SL RX3 265 18 := ⟨by decide, Or.inl (rt_inG 729 (by decide +kernel) rfl)⟩
theorem sl_X3_268 : rt_SL RX3 268 27 := ⟨by decide, Or.inl (rt_inG 731 (by decide +kernel) rfl)⟩
theorem sl_X3_27 : rt_SL RX3 27 37 := ⟨by decide, Or.inl (rt_inG 608 (by decide +kernel) rfl)⟩
theorem sl_X3_271 : rt_SL RX3 271 28 := ⟨by decide, Or.inl (rt_inG 733 (by decide +kernel) rfl)⟩
theorem sl_X3_274 : rt_SL RX3 274 10 := ⟨by decide, Or.inl (rt_inG 779 (by decide +kernel) rfl)⟩
theorem sl_X3_277 : rt_SL RX3 277 11 := ⟨by decide, Or.inl (rt_inG 781 (by decide +kernel) rfl)⟩
theorem sl_X3_280 : rt_SL RX3 280 12 := ⟨by decide, Or.inl (rt_inG 783 (by decide +kernel) rfl)⟩
theorem sl_X3_283 : rt_SL RX3 283 13 := ⟨by decide, Or.inl (rt_inG 785 (by decide +kernel) rfl)⟩
theorem sl_X3_77 : rt_SL RX3 77 0 := ⟨by decide, Or.inl (rt_inG 613 (by decide +kernel) rfl)⟩
theorem sl_X3_83 : rt_SL RX3 83 4 := ⟨by decide, Or.inl (rt_inG 663 (by decide +kernel) rfl)⟩
theorem sl_X3_89 : rt_SL RX3 89 6 := ⟨by decide, Or.inl (rt_inG 683 (by decide +kernel) rfl)⟩
theorem sl_X3_95 : rt_SL RX3 95 7 := ⟨by decide, Or.inl (rt_inG 689 (by decide +kernel) rfl)⟩
theorem sl_X8_46 : rt_SL RX8 46 37 := ⟨by decide, Or.inl (rt_inG 594 (by decide +kernel) rfl)⟩
theorem sl_X8_60 : rt_SL RX8 60 38 := ⟨by decide, Or.inl (rt_inG 578 (by decide +kernel) rfl)⟩
theorem sl_X8_65 : rt_SL RX8 65 35 := ⟨by decide, Or.inl (rt_inG 585 (by decide +kernel) rfl)⟩
theorem sl_X8_68 : rt_SL RX8 68 36 := ⟨by decide, Or.inl (rt_inG 587 (by decide +kernel) rfl)⟩
theorem sl_X10_28 : rt_SL RX10 28 13 := ⟨by decide, Or.inl (rt_inG 957 (by decide +kernel) rfl)⟩
theorem sl_X10_38 : rt_SL RX10 38 10 := ⟨by decide, Or.inl (rt_inG 959 (by decide +kernel) rfl)⟩
theorem sl_X10_49 : rt_SL RX10 49 11 := ⟨by decide, Or.inl (rt_inG 962 (by decide +kernel) rfl)⟩
theorem sl_X10_56 : rt_SL RX10 56 12 := ⟨by decide, Or.inl (rt_inG 964 (by decide +kernel) rfl)⟩
theorem wc_X3_171 : Cond.fieldLinkNest RX3 171 RX9 "canName" "Z" "WigOffice" ∈ rt_mN := (rt_inN 1973 (by decide +kernel) rfl)
theorem wp_X9_150 : Cond.fieldLink RX9 150 RX9 "packed" "J" ∈ rt_mG := (rt_inG 1972 (by decide +kernel) rfl)
