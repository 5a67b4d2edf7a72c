theorem rt_ln_of {c n : Nat} (h : rt_shL.all (fun q => decide (q.1 = c → q.2 = n)) = true) {k : Nat} (hk : rt_kd k = c) (hc : c ≠ 0) : rt_ln k = n := by
  unfold rt_kd rt_sh at hk
  unfold rt_ln rt_sh
  split
  · rename_i q; rw [if_pos q] at hk; exact absurd hk.symm hc
  · rename_i q
    rw [if_neg q] at hk
    rw [List.getD_eq_getElem?_getD] at hk ⊢
    cases e : rt_shL[k - 41]? with
    | none => rw [e] at hk; exact absurd hk.symm hc
    | some v =>
      rw [e] at hk
      exact of_decide_eq_true (List.all_eq_true.mp h v (List.mem_of_getElem? e)) hk
abbrev M_X0_clear : rt_Mt := (yX0_clear, cX0_clear, 1, none, (0, 0), 0)
abbrev M_X0_forgetTilts : rt_Mt := (yX0_forgetTilts, cX0_forgetTilts, 2, none, (0, 0), 0)
abbrev M_X0_tiltsTold : rt_Mt := (yX0_tiltsTold, cX0_tiltsTold, 3, some .int, (0, 0), 0)
abbrev M_X0_copy : rt_Mt := (yX0_copy, cX0_copy, 3, none, (0, 0), 0)
abbrev M_X1_measure : rt_Mt := (yX1_measure, cX1_measure, 7, none, (0, 0), 0)
abbrev M_X1_tiltOf : rt_Mt := (yX1_tiltOf, cX1_tiltOf, 3, some .int, (0, 0), 0)
abbrev M_X1_layWays : rt_Mt := (yX1_layWays, cX1_layWays, 4, none, (0, 0), 0)
abbrev M_X1_layUnder : rt_Mt := (yX1_layUnder, cX1_layUnder, 6, none, (0, 0), 0)
abbrev M_X1_waysWithout : rt_Mt := (yX1_waysWithout, cX1_waysWithout, 4, some .int, (0, 0), 0)
abbrev M_X1_allWays : rt_Mt := (yX1_allWays, cX1_allWays, 4, some .int, (0, 0), 0)
abbrev M_X1_greatestLikeWays : rt_Mt := (yX1_greatestLikeWays, cX1_greatestLikeWays, 5, some .int, (0, 0), 0)
abbrev M_X1_matched : rt_Mt := (yX1_matched, cX1_matched, 6, some .int, (0, 0), 0)
abbrev M_X1_wigKeeping : rt_Mt := (yX1_wigKeeping, cX1_wigKeeping, 3, some .int, (0, 0), 0)
abbrev M_X1_askNext : rt_Mt := (yX1_askNext, cX1_askNext, 5, none, (0, 0), 0)
abbrev M_X2_clear : rt_Mt := (yX2_clear, cX2_clear, 1, none, (0, 0), 0)
abbrev M_X2_add : rt_Mt := (yX2_add, cX2_add, 2, none, (0, 0), 0)
abbrev M_X2_factOf : rt_Mt := (yX2_factOf, cX2_factOf, 2, some .int, (0, 0), 0)
abbrev M_X2_worth : rt_Mt := (yX2_worth, cX2_worth, 7, some .int, (0, 0), 0)
abbrev M_X2_joined : rt_Mt := (yX2_joined, cX2_joined, 3, some .int, (0, 0), 0)
abbrev M_X3_readRealm : rt_Mt := (yX3_readRealm, cX3_readRealm, 3, some .int, (0, 0), 0)
abbrev M_X3_readYears : rt_Mt := (yX3_readYears, cX3_readYears, 4, some .int, (0, 0), 0)
abbrev M_X3_start : rt_Mt := (yX3_start, cX3_start, 1, none, (0, 0), 0)
abbrev M_X3_kind : rt_Mt := (yX3_kind, cX3_kind, 1, some (.object "WigOffice$Word"), (0, 0), 0)
abbrev M_X3_value : rt_Mt := (yX3_value, cX3_value, 1, some .long, (0, 0), 0)
abbrev M_X3_fail : rt_Mt := (yX3_fail, cX3_fail, 3, some .boolean, (0, 0), 0)
abbrev M_X3_take : rt_Mt := (yX3_take, cX3_take, 2, some .boolean, (0, 0), 0)
abbrev M_X3_realmLine : rt_Mt := (yX3_realmLine, cX3_realmLine, 3, some .boolean, (0, 0), 0)
abbrev M_X3_wigLine : rt_Mt := (yX3_wigLine, cX3_wigLine, 7, some .boolean, (0, 0), 0)
abbrev M_X3_headLine : rt_Mt := (yX3_headLine, cX3_headLine, 7, some .boolean, (0, 0), 0)
abbrev M_X3_newName : rt_Mt := (yX3_newName, cX3_newName, 2, some .boolean, (0, 0), 0)
abbrev M_X3_headKind : rt_Mt := (yX3_headKind, cX3_headKind, 3, some .boolean, (0, 0), 0)
abbrev M_X3_fact : rt_Mt := (yX3_fact, cX3_fact, 6, some .boolean, (0, 0), 0)
abbrev M_X3_isNumber : rt_Mt := (yX3_isNumber, cX3_isNumber, 3, some .boolean, (0, 0), 0)
abbrev M_X3_heatsLine : rt_Mt := (yX3_heatsLine, cX3_heatsLine, 3, some .boolean, (0, 0), 0)
abbrev M_X3_slackLine : rt_Mt := (yX3_slackLine, cX3_slackLine, 2, some .boolean, (0, 0), 0)
abbrev M_X3_lawLine : rt_Mt := (yX3_lawLine, cX3_lawLine, 2, some .boolean, (0, 0), 0)
abbrev M_X3_chain : rt_Mt := (yX3_chain, cX3_chain, 6, some .boolean, (0, 0), 0)
abbrev M_X3_link : rt_Mt := (yX3_link, cX3_link, 4, some .boolean, (0, 0), 0)
abbrev M_X3_jointOf : rt_Mt := (yX3_jointOf, cX3_jointOf, 3, some .int, (0, 0), 0)
abbrev M_X3_test : rt_Mt := (yX3_test, cX3_test, 4, some .boolean, (0, 0), 0)
abbrev M_X3_part : rt_Mt := (yX3_part, cX3_part, 6, some .boolean, (0, 0), 0)
abbrev M_X3_yearsLine : rt_Mt := (yX3_yearsLine, cX3_yearsLine, 6, some .boolean, (0, 0), 0)
abbrev M_X3_oldName : rt_Mt := (yX3_oldName, cX3_oldName, 2, some .boolean, (0, 0), 0)
abbrev M_X4_clear : rt_Mt := (yX4_clear, cX4_clear, 1, none, (0, 0), 0)
abbrev M_X4_isWig : rt_Mt := (yX4_isWig, cX4_isWig, 2, some .boolean, (0, 0), 0)
abbrev M_X4_isHead : rt_Mt := (yX4_isHead, cX4_isHead, 2, some .boolean, (0, 0), 0)
abbrev M_X4_wigNamed : rt_Mt := (yX4_wigNamed, cX4_wigNamed, 3, some .int, (0, 0), 0)
abbrev M_X4_headNamed : rt_Mt := (yX4_headNamed, cX4_headNamed, 3, some .int, (0, 0), 0)
abbrev M_X4_placeOf : rt_Mt := (yX4_placeOf, cX4_placeOf, 5, some .int, (0, 0), 0)
abbrev M_X4_ofWig : rt_Mt := (yX4_ofWig, cX4_ofWig, 3, some .int, (0, 0), 0)
abbrev M_X4_ofHead : rt_Mt := (yX4_ofHead, cX4_ofHead, 3, some .int, (0, 0), 0)
abbrev M_X4_sizeOfWig : rt_Mt := (yX4_sizeOfWig, cX4_sizeOfWig, 2, some .int, (0, 0), 0)
abbrev M_X4_officeOf : rt_Mt := (yX4_officeOf, cX4_officeOf, 2, some .int, (0, 0), 0)
abbrev M_X4_leanOfWig : rt_Mt := (yX4_leanOfWig, cX4_leanOfWig, 2, some .int, (0, 0), 0)
abbrev M_X4_officeOfAll : rt_Mt := (yX4_officeOfAll, cX4_officeOfAll, 4, some .int, (0, 0), 0)
abbrev M_X4_heatOf : rt_Mt := (yX4_heatOf, cX4_heatOf, 2, some .int, (0, 0), 0)
abbrev M_X4_girth : rt_Mt := (yX4_girth, cX4_girth, 8, some .int, (0, 0), 0)
abbrev M_X4_isFit : rt_Mt := (yX4_isFit, cX4_isFit, 4, some .boolean, (0, 0), 0)
abbrev M_X4_isTilt : rt_Mt := (yX4_isTilt, cX4_isTilt, 2, some .boolean, (0, 0), 0)
abbrev M_X4_isFor : rt_Mt := (yX4_isFor, cX4_isFor, 5, some .boolean, (0, 0), 0)
abbrev M_X5_begin : rt_Mt := (yX5_begin, cX5_begin, 4, none, (0, 0), 0)
abbrev M_X5_open : rt_Mt := (yX5_open, cX5_open, 3, none, (0, 0), 0)
abbrev M_X5_gains : rt_Mt := (yX5_gains, cX5_gains, 4, none, (0, 0), 0)
abbrev M_X5_chosen : rt_Mt := (yX5_chosen, cX5_chosen, 2, some .int, (0, 0), 0)
abbrev M_X5_solve : rt_Mt := (yX5_solve, cX5_solve, 5, some .int, (0, 0), 0)
abbrev M_X5_keepFirstRow : rt_Mt := (yX5_keepFirstRow, cX5_keepFirstRow, 5, none, (0, 0), 0)
abbrev M_X5_through : rt_Mt := (yX5_through, cX5_through, 5, some .int, (0, 0), 0)
abbrev M_X6_add : rt_Mt := (yX6_add, cX6_add, 4, some .boolean, (0, 0), 0)
abbrev M_X6_copy : rt_Mt := (yX6_copy, cX6_copy, 3, none, (0, 0), 0)
abbrev M_X6_possible : rt_Mt := (yX6_possible, cX6_possible, 6, some .int, (0, 0), 0)
abbrev M_X7_clear : rt_Mt := (yX7_clear, cX7_clear, 2, none, (0, 0), 0)
abbrev M_X7_copy : rt_Mt := (yX7_copy, cX7_copy, 3, none, (0, 0), 0)
abbrev M_X7_headUnder : rt_Mt := (yX7_headUnder, cX7_headUnder, 2, some .int, (0, 0), 0)
abbrev M_X7_wearOf : rt_Mt := (yX7_wearOf, cX7_wearOf, 2, some .int, (0, 0), 0)
abbrev M_X7_wigUpon : rt_Mt := (yX7_wigUpon, cX7_wigUpon, 3, some .int, (0, 0), 0)
abbrev M_X7_canPut : rt_Mt := (yX7_canPut, cX7_canPut, 4, some .boolean, (0, 0), 0)
abbrev M_X7_canTakeOff : rt_Mt := (yX7_canTakeOff, cX7_canTakeOff, 3, some .boolean, (0, 0), 0)
abbrev M_X7_canMend : rt_Mt := (yX7_canMend, cX7_canMend, 3, some .boolean, (0, 0), 0)
abbrev M_X7_place : rt_Mt := (yX7_place, cX7_place, 3, none, (0, 0), 0)
abbrev M_X7_makeNew : rt_Mt := (yX7_makeNew, cX7_makeNew, 2, none, (0, 0), 0)
abbrev M_X7_pass : rt_Mt := (yX7_pass, cX7_pass, 4, some .int, (0, 0), 0)
abbrev M_X7_worn : rt_Mt := (yX7_worn, cX7_worn, 4, some .int, (0, 0), 0)
abbrev M_X7_wornOut : rt_Mt := (yX7_wornOut, cX7_wornOut, 4, some .int, (0, 0), 0)
abbrev M_X7_wearOfAll : rt_Mt := (yX7_wearOfAll, cX7_wearOfAll, 4, some .int, (0, 0), 0)
abbrev M_X8_clear : rt_Mt := (yX8_clear, cX8_clear, 1, none, (0, 0), 0)
abbrev M_X8_add : rt_Mt := (yX8_add, cX8_add, 5, none, (0, 0), 0)
abbrev M_X8_split : rt_Mt := (yX8_split, cX8_split, 4, none, (0, 0), 0)
abbrev M_X8_endOf : rt_Mt := (yX8_endOf, cX8_endOf, 3, some .int, (0, 0), 0)
abbrev M_X8_addToken : rt_Mt := (yX8_addToken, cX8_addToken, 7, none, (0, 0), 0)
abbrev M_X8_addToken_ : rt_Mt := (yX8_addToken_, cX8_addToken_, 5, none, (0, 0), 0)
abbrev M_X8_isLetter : rt_Mt := (yX8_isLetter, cX8_isLetter, 1, some .boolean, (0, 0), 0)
abbrev M_X8_isDigit : rt_Mt := (yX8_isDigit, cX8_isDigit, 1, some .boolean, (0, 0), 0)
abbrev M_X9_spelled : rt_Mt := (yX9_spelled, cX9_spelled, 4, some (.object "WigOffice$Word"), (0, 0), 0)
abbrev M_X10_add : rt_Mt := (yX10_add, cX10_add, 4, none, (0, 0), 0)
abbrev M_X10_copy : rt_Mt := (yX10_copy, cX10_copy, 3, none, (0, 0), 0)
abbrev M_X10_play : rt_Mt := (yX10_play, cX10_play, 6, some .int, (0, 0), 0)
abbrev M_X11_feed : rt_Mt := (yX11_feed, cX11_feed, 7, some .int, (0, 0), 0)
abbrev M_X11_realm : rt_Mt := (yX11_realm, cX11_realm, 4, some .int, (0, 0), 0)
abbrev M_X11_years : rt_Mt := (yX11_years, cX11_years, 2, some .int, (0, 0), 0)
abbrev M_X11_wig : rt_Mt := (yX11_wig, cX11_wig, 3, some .int, (0, 0), 0)
abbrev M_X11_head : rt_Mt := (yX11_head, cX11_head, 3, some .int, (0, 0), 0)
abbrev M_X11_fits : rt_Mt := (yX11_fits, cX11_fits, 4, some .boolean, (0, 0), 0)
abbrev M_X11_put : rt_Mt := (yX11_put, cX11_put, 3, some .boolean, (0, 0), 0)
abbrev M_X11_off : rt_Mt := (yX11_off, cX11_off, 3, some .int, (0, 0), 0)
abbrev M_X11_mend : rt_Mt := (yX11_mend, cX11_mend, 3, some .int, (0, 0), 0)
abbrev M_X11_season : rt_Mt := (yX11_season, cX11_season, 1, some .int, (0, 0), 0)
abbrev M_X11_undo : rt_Mt := (yX11_undo, cX11_undo, 1, some .boolean, (0, 0), 0)
abbrev M_X11_remember : rt_Mt := (yX11_remember, cX11_remember, 1, none, (0, 0), 0)
abbrev M_X11_judged : rt_Mt := (yX11_judged, cX11_judged, 6, some .int, (0, 0), 0)
abbrev M_X11_verdict : rt_Mt := (yX11_verdict, cX11_verdict, 2, some .int, (0, 0), 0)
abbrev M_X11_votes : rt_Mt := (yX11_votes, cX11_votes, 2, some .int, (0, 0), 0)
abbrev M_X11_isHardness : rt_Mt := (yX11_isHardness, cX11_isHardness, 1, some .boolean, (0, 0), 0)
abbrev M_X11_wigsFor : rt_Mt := (yX11_wigsFor, cX11_wigsFor, 5, some .int, (0, 0), 0)
abbrev M_X11_fill : rt_Mt := (yX11_fill, cX11_fill, 5, some .int, (0, 0), 0)
abbrev M_X11_openHeads : rt_Mt := (yX11_openHeads, cX11_openHeads, 4, none, (0, 0), 0)
abbrev M_X11_isFitThrough : rt_Mt := (yX11_isFitThrough, cX11_isFitThrough, 5, some .boolean, (0, 0), 0)
abbrev M_X11_say : rt_Mt := (yX11_say, cX11_say, 4, some .boolean, (0, 0), 0)
abbrev M_X11_leans : rt_Mt := (yX11_leans, cX11_leans, 5, some .int, (0, 0), 0)
abbrev M_X11_next : rt_Mt := (yX11_next, cX11_next, 9, some .int, (0, 0), 0)
abbrev M_X11_baths : rt_Mt := (yX11_baths, cX11_baths, 7, some .int, (0, 0), 0)
abbrev M_X11_keeps : rt_Mt := (yX11_keeps, cX11_keeps, 4, some .int, (0, 0), 0)
abbrev M_X11_moths : rt_Mt := (yX11_moths, cX11_moths, 6, some .int, (0, 0), 0)
abbrev M_X11_openStands : rt_Mt := (yX11_openStands, cX11_openStands, 3, none, (0, 0), 0)
abbrev M_X11_tell : rt_Mt := (yX11_tell, cX11_tell, 3, some .boolean, (0, 0), 0)
abbrev M_X11_under : rt_Mt := (yX11_under, cX11_under, 4, some .int, (0, 0), 0)
abbrev M_X11_ask : rt_Mt := (yX11_ask, cX11_ask, 5, some .int, (0, 0), 0)
abbrev M_X11_power : rt_Mt := (yX11_power, cX11_power, 7, some .int, (0, 0), 0)
abbrev M_X11_match : rt_Mt := (yX11_match, cX11_match, 2, some .int, (0, 0), 0)
abbrev M_X11_isBest : rt_Mt := (yX11_isBest, cX11_isBest, 6, some .boolean, (0, 0), 0)
abbrev M_X11_gainOf : rt_Mt := (yX11_gainOf, cX11_gainOf, 4, some .int, (0, 0), 0)
abbrev M_X11_isOfHundred : rt_Mt := (yX11_isOfHundred, cX11_isOfHundred, 1, some .boolean, (0, 0), 0)
abbrev M_X11_centuries : rt_Mt := (yX11_centuries, cX11_centuries, 7, some .int, (0, 0), 0)
abbrev M_X11_drawPut : rt_Mt := (yX11_drawPut, cX11_drawPut, 3, none, (0, 0), 0)
abbrev M_X11_drawFever : rt_Mt := (yX11_drawFever, cX11_drawFever, 3, none, (0, 0), 0)
abbrev M_X11_draw : rt_Mt := (yX11_draw, cX11_draw, 2, some .int, (0, 0), 0)
abbrev M_X11_mark : rt_Mt := (yX11_mark, cX11_mark, 3, some .boolean, (0, 0), 0)
abbrev M_X11_count : rt_Mt := (yX11_count, cX11_count, 2, some .int, (0, 0), 0)
abbrev M_X12_thrown : rt_Mt := (yX12_thrown, cX12_thrown, 1, some .int, (0, 0), 0)
abbrev M_X12_within : rt_Mt := (yX12_within, cX12_within, 3, some .boolean, (0, 0), 0)
abbrev M_X12_between : rt_Mt := (yX12_between, cX12_between, 3, some .int, (0, 0), 0)
abbrev M_X12_feed : rt_Mt := (yX12_feed, cX12_feed, 11, some .int, (0, 0), 0)
abbrev M_X12_signAt : rt_Mt := (yX12_signAt, cX12_signAt, 2, some .int, (0, 0), 0)
abbrev M_X12_nextToken : rt_Mt := (yX12_nextToken, cX12_nextToken, 2, none, (0, 0), 0)
abbrev M_X12_isWord : rt_Mt := (yX12_isWord, cX12_isWord, 3, some .boolean, (0, 0), 0)
abbrev M_X12_isSign : rt_Mt := (yX12_isSign, cX12_isSign, 2, some .boolean, (0, 0), 0)
abbrev M_X12_fails : rt_Mt := (yX12_fails, cX12_fails, 2, some .boolean, (0, 0), 0)
abbrev M_X12_puts : rt_Mt := (yX12_puts, cX12_puts, 2, none, (0, 0), 0)
abbrev M_X12_fact : rt_Mt := (yX12_fact, cX12_fact, 1, some .int, (0, 0), 0)
abbrev M_X12_reads : rt_Mt := (yX12_reads, cX12_reads, 6, some .boolean, (0, 0), 0)
abbrev M_X12_opens : rt_Mt := (yX12_opens, cX12_opens, 2, none, (0, 0), 0)
abbrev M_X12_sums : rt_Mt := (yX12_sums, cX12_sums, 2, none, (0, 0), 0)
abbrev M_X12_tests : rt_Mt := (yX12_tests, cX12_tests, 3, none, (0, 0), 0)
abbrev M_X12_worked : rt_Mt := (yX12_worked, cX12_worked, 6, some .int, (0, 0), 0)
abbrev M_X12_isKept : rt_Mt := (yX12_isKept, cX12_isKept, 1, some .boolean, (0, 0), 0)
abbrev M_X12_wigNamed : rt_Mt := (yX12_wigNamed, cX12_wigNamed, 3, some .int, (0, 0), 0)
abbrev M_X12_headNamed : rt_Mt := (yX12_headNamed, cX12_headNamed, 3, some .int, (0, 0), 0)
abbrev M_X12_needsNumber : rt_Mt := (yX12_needsNumber, cX12_needsNumber, 3, some .boolean, (0, 0), 0)
abbrev M_X12_needsWord : rt_Mt := (yX12_needsWord, cX12_needsWord, 3, some .boolean, (0, 0), 0)
abbrev M_X12_needsBoth : rt_Mt := (yX12_needsBoth, cX12_needsBoth, 5, some .boolean, (0, 0), 0)
abbrev M_X12_closes : rt_Mt := (yX12_closes, cX12_closes, 1, some .boolean, (0, 0), 0)
abbrev M_X12_needsNew : rt_Mt := (yX12_needsNew, cX12_needsNew, 1, some .boolean, (0, 0), 0)
abbrev M_X12_readsWig : rt_Mt := (yX12_readsWig, cX12_readsWig, 2, some .boolean, (0, 0), 0)
abbrev M_X12_readsHead : rt_Mt := (yX12_readsHead, cX12_readsHead, 2, some .boolean, (0, 0), 0)
abbrev M_X12_readsHeats : rt_Mt := (yX12_readsHeats, cX12_readsHeats, 2, some .boolean, (0, 0), 0)
abbrev M_X12_readsSlack : rt_Mt := (yX12_readsSlack, cX12_readsSlack, 1, some .boolean, (0, 0), 0)
abbrev M_X12_readsLaw : rt_Mt := (yX12_readsLaw, cX12_readsLaw, 2, some .boolean, (0, 0), 0)
abbrev M_X12_begins : rt_Mt := (yX12_begins, cX12_begins, 1, none, (0, 0), 0)
abbrev M_X12_readsAll : rt_Mt := (yX12_readsAll, cX12_readsAll, 2, some .boolean, (0, 0), 0)
abbrev M_X12_shifts : rt_Mt := (yX12_shifts, cX12_shifts, 3, none, (0, 0), 0)
abbrev M_X12_shiftsNames : rt_Mt := (yX12_shiftsNames, cX12_shiftsNames, 3, none, (0, 0), 0)
abbrev M_X12_lays : rt_Mt := (yX12_lays, cX12_lays, 2, none, (0, 0), 0)
abbrev M_X12_copies : rt_Mt := (yX12_copies, cX12_copies, 5, none, (0, 0), 0)
abbrev M_X12_readsLine : rt_Mt := (yX12_readsLine, cX12_readsLine, 3, some .boolean, (0, 0), 0)
abbrev M_X12_laysLines : rt_Mt := (yX12_laysLines, cX12_laysLines, 4, none, (0, 0), 0)
abbrev M_X12_laysSaid : rt_Mt := (yX12_laysSaid, cX12_laysSaid, 4, none, (0, 0), 0)
abbrev M_X12_fresh : rt_Mt := (yX12_fresh, cX12_fresh, 2, none, (0, 0), 0)
abbrev M_X12_forgets : rt_Mt := (yX12_forgets, cX12_forgets, 2, none, (0, 0), 0)
abbrev M_X12_realm : rt_Mt := (yX12_realm, cX12_realm, 2, some .int, (0, 0), 0)
abbrev M_X12_years : rt_Mt := (yX12_years, cX12_years, 1, some .int, (0, 0), 0)
abbrev M_X12_isWig : rt_Mt := (yX12_isWig, cX12_isWig, 2, some .boolean, (0, 0), 0)
abbrev M_X12_isHead : rt_Mt := (yX12_isHead, cX12_isHead, 2, some .boolean, (0, 0), 0)
abbrev M_X12_heatIn : rt_Mt := (yX12_heatIn, cX12_heatIn, 2, some .int, (0, 0), 0)
abbrev M_X12_girthIn : rt_Mt := (yX12_girthIn, cX12_girthIn, 5, some .int, (0, 0), 0)
abbrev M_X12_tiltIn : rt_Mt := (yX12_tiltIn, cX12_tiltIn, 4, some .int, (0, 0), 0)
abbrev M_X12_fitsIn : rt_Mt := (yX12_fitsIn, cX12_fitsIn, 4, some .boolean, (0, 0), 0)
abbrev M_X12_wigOn : rt_Mt := (yX12_wigOn, cX12_wigOn, 3, some .int, (0, 0), 0)
abbrev M_X12_onHeads : rt_Mt := (yX12_onHeads, cX12_onHeads, 3, some .int, (0, 0), 0)
abbrev M_X12_wornOut : rt_Mt := (yX12_wornOut, cX12_wornOut, 3, some .int, (0, 0), 0)
abbrev M_X12_officeOf : rt_Mt := (yX12_officeOf, cX12_officeOf, 4, some .int, (0, 0), 0)
abbrev M_X12_canPut : rt_Mt := (yX12_canPut, cX12_canPut, 3, some .boolean, (0, 0), 0)
abbrev M_X12_passes : rt_Mt := (yX12_passes, cX12_passes, 3, some .int, (0, 0), 0)
abbrev M_X12_wig : rt_Mt := (yX12_wig, cX12_wig, 3, some .int, (0, 0), 0)
abbrev M_X12_head : rt_Mt := (yX12_head, cX12_head, 3, some .int, (0, 0), 0)
abbrev M_X12_fits : rt_Mt := (yX12_fits, cX12_fits, 4, some .boolean, (0, 0), 0)
abbrev M_X12_holds : rt_Mt := (yX12_holds, cX12_holds, 2, none, (0, 0), 0)
abbrev M_X12_put : rt_Mt := (yX12_put, cX12_put, 3, some .boolean, (0, 0), 0)
abbrev M_X12_off : rt_Mt := (yX12_off, cX12_off, 3, some .int, (0, 0), 0)
abbrev M_X12_mend : rt_Mt := (yX12_mend, cX12_mend, 3, some .int, (0, 0), 0)
abbrev M_X12_season : rt_Mt := (yX12_season, cX12_season, 1, some .int, (0, 0), 0)
abbrev M_X12_undo : rt_Mt := (yX12_undo, cX12_undo, 1, some .boolean, (0, 0), 0)
abbrev M_X12_goes : rt_Mt := (yX12_goes, cX12_goes, 3, some .boolean, (0, 0), 0)
abbrev M_X12_judged : rt_Mt := (yX12_judged, cX12_judged, 5, some .int, (0, 0), 0)
abbrev M_X12_isFor : rt_Mt := (yX12_isFor, cX12_isFor, 5, some .boolean, (0, 0), 0)
abbrev M_X12_judgedFor : rt_Mt := (yX12_judgedFor, cX12_judgedFor, 4, some .int, (0, 0), 0)
abbrev M_X12_verdict : rt_Mt := (yX12_verdict, cX12_verdict, 2, some .int, (0, 0), 0)
abbrev M_X12_votes : rt_Mt := (yX12_votes, cX12_votes, 2, some .int, (0, 0), 0)
abbrev M_X12_power : rt_Mt := (yX12_power, cX12_power, 7, some .int, (0, 0), 0)
abbrev M_X12_fitsAll : rt_Mt := (yX12_fitsAll, cX12_fitsAll, 4, some .boolean, (0, 0), 0)
abbrev M_X12_fillsFrom : rt_Mt := (yX12_fillsFrom, cX12_fillsFrom, 5, none, (0, 0), 0)
abbrev M_X12_fill : rt_Mt := (yX12_fill, cX12_fill, 5, some .int, (0, 0), 0)
abbrev M_X12_say : rt_Mt := (yX12_say, cX12_say, 4, some .boolean, (0, 0), 0)
abbrev M_X12_isAsSaid : rt_Mt := (yX12_isAsSaid, cX12_isAsSaid, 3, some .boolean, (0, 0), 0)
abbrev M_X12_leans : rt_Mt := (yX12_leans, cX12_leans, 6, some .int, (0, 0), 0)
abbrev M_X12_next : rt_Mt := (yX12_next, cX12_next, 8, some .int, (0, 0), 0)
abbrev M_X12_baths : rt_Mt := (yX12_baths, cX12_baths, 7, some .int, (0, 0), 0)
abbrev M_X12_keeps : rt_Mt := (yX12_keeps, cX12_keeps, 3, some .int, (0, 0), 0)
abbrev M_X12_mendsFrom : rt_Mt := (yX12_mendsFrom, cX12_mendsFrom, 5, none, (0, 0), 0)
abbrev M_X12_moths : rt_Mt := (yX12_moths, cX12_moths, 3, some .int, (0, 0), 0)
abbrev M_X12_tell : rt_Mt := (yX12_tell, cX12_tell, 3, some .boolean, (0, 0), 0)
abbrev M_X12_tiltsFrom : rt_Mt := (yX12_tiltsFrom, cX12_tiltsFrom, 4, none, (0, 0), 0)
abbrev M_X12_laysUnder : rt_Mt := (yX12_laysUnder, cX12_laysUnder, 3, none, (0, 0), 0)
abbrev M_X12_under : rt_Mt := (yX12_under, cX12_under, 2, some .int, (0, 0), 0)
abbrev M_X12_ask : rt_Mt := (yX12_ask, cX12_ask, 7, some .int, (0, 0), 0)
abbrev M_X12_wishes : rt_Mt := (yX12_wishes, cX12_wishes, 4, some .int, (0, 0), 0)
abbrev M_X12_isAhead : rt_Mt := (yX12_isAhead, cX12_isAhead, 6, some .boolean, (0, 0), 0)
abbrev M_X12_laysMatch : rt_Mt := (yX12_laysMatch, cX12_laysMatch, 5, none, (0, 0), 0)
abbrev M_X12_match : rt_Mt := (yX12_match, cX12_match, 3, some .int, (0, 0), 0)
abbrev M_X12_getsBy : rt_Mt := (yX12_getsBy, cX12_getsBy, 4, some .int, (0, 0), 0)
abbrev M_X12_isRest : rt_Mt := (yX12_isRest, cX12_isRest, 5, some .boolean, (0, 0), 0)
abbrev M_X12_rests : rt_Mt := (yX12_rests, cX12_rests, 6, some .int, (0, 0), 0)
abbrev M_X12_power0 : rt_Mt := (yX12_power0, cX12_power0, 5, some .long, (0, 0), 0)
abbrev M_X12_horsehair : rt_Mt := (yX12_horsehair, cX12_horsehair, 9, some .int, (0, 0), 0)
abbrev M_X12_draws : rt_Mt := (yX12_draws, cX12_draws, 2, some .int, (0, 0), 0)
abbrev M_X12_fever : rt_Mt := (yX12_fever, cX12_fever, 3, none, (0, 0), 0)
abbrev M_X12_livesSeason : rt_Mt := (yX12_livesSeason, cX12_livesSeason, 3, some .int, (0, 0), 0)
abbrev M_X12_centuries : rt_Mt := (yX12_centuries, cX12_centuries, 8, some .int, (0, 0), 0)
abbrev M_X12_mark : rt_Mt := (yX12_mark, cX12_mark, 5, some .boolean, (0, 0), 0)
abbrev M_X12_toldMany : rt_Mt := (yX12_toldMany, cX12_toldMany, 3, some .int, (0, 0), 0)
abbrev M_X12_count : rt_Mt := (yX12_count, cX12_count, 2, some .int, (0, 0), 0)
abbrev M_J6_bitCount_0f7a4 : rt_Mt := (yJ6_bitCount_0f7a4, cJ6_bitCount_0f7a4, 1, some .int, (0, 0), 0)
abbrev M_J9_floorMod_7cf53 : rt_Mt := (yJ9_floorMod_7cf53, cJ9_floorMod_7cf53, 3, some .int, (0, 0), 0)
abbrev M_J9_max_7cf53 : rt_Mt := (yJ9_max_7cf53, cJ9_max_7cf53, 2, some .int, (0, 0), 0)
abbrev M_J9_min_7cf53 : rt_Mt := (yJ9_min_7cf53, cJ9_min_7cf53, 2, some .int, (0, 0), 0)
theorem lay_X0 : ∀ w ∈ u_ws RX0 TX0 5, w ∈ rt_mG := by
  intro w hw
  obtain ⟨k, hk, rfl⟩ := List.mem_map.mp hw
  have hk := List.mem_range.mp hk
  by_cases h0 : k = 0
  · subst h0; exact (rt_inG (rt_t1 157 (by decide +kernel)) rfl)
  by_cases h1 : k = 1
  · subst h1; exact (rt_inG (rt_t1 159 (by decide +kernel)) rfl)
  by_cases h2 : k = 2
  · subst h2; exact (rt_inG (rt_t1 161 (by decide +kernel)) rfl)
  by_cases h3 : k = 3
  · subst h3; exact (rt_inG (rt_t1 163 (by decide +kernel)) rfl)
  by_cases h4 : k = 4
  · subst h4; exact (rt_inG (rt_t1 165 (by decide +kernel)) rfl)
  omega
theorem ln_X0 : ∀ k, rt_kd k = 20 + 0 → rt_ln k = 5 := fun k h => rt_ln_of (by decide +kernel) h (by decide)
theorem cl_X0 : rt_CL 0 := ⟨rfl, lay_X0, tyX0_ok, nmX0, ln_X0⟩
theorem lay_X1 : ∀ w ∈ u_ws RX1 TX1 7, w ∈ rt_mG := by
  intro w hw
  obtain ⟨k, hk, rfl⟩ := List.mem_map.mp hw
  have hk := List.mem_range.mp hk
  by_cases h0 : k = 0
  · subst h0; exact (rt_inG (rt_t2 53 (by decide +kernel)) rfl)
  by_cases h1 : k = 1
  · subst h1; exact (rt_inG (rt_t2 55 (by decide +kernel)) rfl)
  by_cases h2 : k = 2
  · subst h2; exact (rt_inG (rt_t2 57 (by decide +kernel)) rfl)
  by_cases h3 : k = 3
  · subst h3; exact (rt_inG (rt_t2 59 (by decide +kernel)) rfl)
  by_cases h4 : k = 4
  · subst h4; exact (rt_inG (rt_t2 61 (by decide +kernel)) rfl)
  by_cases h5 : k = 5
  · subst h5; exact (rt_inG (rt_t2 63 (by decide +kernel)) rfl)
  by_cases h6 : k = 6
  · subst h6; exact (rt_inG (rt_t2 65 (by decide +kernel)) rfl)
  omega
theorem ln_X1 : ∀ k, rt_kd k = 20 + 1 → rt_ln k = 7 := fun k h => rt_ln_of (by decide +kernel) h (by decide)
theorem cl_X1 : rt_CL 1 := ⟨rfl, lay_X1, tyX1_ok, nmX1, ln_X1⟩
theorem lay_X2 : ∀ w ∈ u_ws RX2 TX2 7, w ∈ rt_mG := by
  intro w hw
  obtain ⟨k, hk, rfl⟩ := List.mem_map.mp hw
  have hk := List.mem_range.mp hk
  by_cases h0 : k = 0
  · subst h0; exact (rt_inG (rt_t1 200 (by decide +kernel)) rfl)
  by_cases h1 : k = 1
  · subst h1; exact (rt_inG (rt_t1 202 (by decide +kernel)) rfl)
  by_cases h2 : k = 2
  · subst h2; exact (rt_inG (rt_t1 204 (by decide +kernel)) rfl)
  by_cases h3 : k = 3
  · subst h3; exact (rt_inG (rt_t1 206 (by decide +kernel)) rfl)
  by_cases h4 : k = 4
  · subst h4; exact (rt_inG (rt_t1 208 (by decide +kernel)) rfl)
  by_cases h5 : k = 5
  · subst h5; exact (rt_inG (rt_t1 210 (by decide +kernel)) rfl)
  by_cases h6 : k = 6
  · subst h6; exact (rt_inG (rt_t1 212 (by decide +kernel)) rfl)
  omega
theorem ln_X2 : ∀ k, rt_kd k = 20 + 2 → rt_ln k = 7 := fun k h => rt_ln_of (by decide +kernel) h (by decide)
theorem cl_X2 : rt_CL 2 := ⟨rfl, lay_X2, tyX2_ok, nmX2, ln_X2⟩
theorem lay_X3 : ∀ w ∈ u_ws RX3 TX3 3, w ∈ rt_mG := by
  intro w hw
  obtain ⟨k, hk, rfl⟩ := List.mem_map.mp hw
  have hk := List.mem_range.mp hk
  by_cases h0 : k = 0
  · subst h0; exact (rt_inG (rt_t1 73 (by decide +kernel)) rfl)
  by_cases h1 : k = 1
  · subst h1; exact (rt_inG (rt_t1 75 (by decide +kernel)) rfl)
  by_cases h2 : k = 2
  · subst h2; exact (rt_inG (rt_t1 77 (by decide +kernel)) rfl)
  omega
theorem ln_X3 : ∀ k, rt_kd k = 20 + 3 → rt_ln k = 3 := fun k h => rt_ln_of (by decide +kernel) h (by decide)
theorem cl_X3 : rt_CL 3 := ⟨rfl, lay_X3, tyX3_ok, nmX3, ln_X3⟩
theorem lay_X4 : ∀ w ∈ u_ws RX4 TX4 12, w ∈ rt_mG := by
  intro w hw
  obtain ⟨k, hk, rfl⟩ := List.mem_map.mp hw
  have hk := List.mem_range.mp hk
  by_cases h0 : k = 0
  · subst h0; exact (rt_inG (rt_t2 11 (by decide +kernel)) rfl)
  by_cases h1 : k = 1
  · subst h1; exact (rt_inG (rt_t2 13 (by decide +kernel)) rfl)
  by_cases h2 : k = 2
  · subst h2; exact (rt_inG (rt_t2 15 (by decide +kernel)) rfl)
  by_cases h3 : k = 3
  · subst h3; exact (rt_inG (rt_t2 17 (by decide +kernel)) rfl)
  by_cases h4 : k = 4
  · subst h4; exact (rt_inG (rt_t2 19 (by decide +kernel)) rfl)
  by_cases h5 : k = 5
  · subst h5; exact (rt_inG (rt_t2 21 (by decide +kernel)) rfl)
  by_cases h6 : k = 6
  · subst h6; exact (rt_inG (rt_t2 23 (by decide +kernel)) rfl)
  by_cases h7 : k = 7
  · subst h7; exact (rt_inG (rt_t2 25 (by decide +kernel)) rfl)
  by_cases h8 : k = 8
  · subst h8; exact (rt_inG (rt_t2 27 (by decide +kernel)) rfl)
  by_cases h9 : k = 9
  · subst h9; exact (rt_inG (rt_t2 29 (by decide +kernel)) rfl)
  by_cases h10 : k = 10
  · subst h10; exact (rt_inG (rt_t2 31 (by decide +kernel)) rfl)
  by_cases h11 : k = 11
  · subst h11; exact (rt_inG (rt_t2 33 (by decide +kernel)) rfl)
  omega
theorem ln_X4 : ∀ k, rt_kd k = 20 + 4 → rt_ln k = 12 := fun k h => rt_ln_of (by decide +kernel) h (by decide)
theorem cl_X4 : rt_CL 4 := ⟨rfl, lay_X4, tyX4_ok, nmX4, ln_X4⟩
theorem lay_X5 : ∀ w ∈ u_ws RX5 TX5 6, w ∈ rt_mG := by
  intro w hw
  obtain ⟨k, hk, rfl⟩ := List.mem_map.mp hw
  have hk := List.mem_range.mp hk
  by_cases h0 : k = 0
  · subst h0; exact (rt_inG (rt_t2 81 (by decide +kernel)) rfl)
  by_cases h1 : k = 1
  · subst h1; exact (rt_inG (rt_t2 83 (by decide +kernel)) rfl)
  by_cases h2 : k = 2
  · subst h2; exact (rt_inG (rt_t2 85 (by decide +kernel)) rfl)
  by_cases h3 : k = 3
  · subst h3; exact (rt_inG (rt_t2 87 (by decide +kernel)) rfl)
  by_cases h4 : k = 4
  · subst h4; exact (rt_inG (rt_t2 89 (by decide +kernel)) rfl)
  by_cases h5 : k = 5
  · subst h5; exact (rt_inG (rt_t2 91 (by decide +kernel)) rfl)
  omega
theorem ln_X5 : ∀ k, rt_kd k = 20 + 5 → rt_ln k = 6 := fun k h => rt_ln_of (by decide +kernel) h (by decide)
theorem cl_X5 : rt_CL 5 := ⟨rfl, lay_X5, tyX5_ok, nmX5, ln_X5⟩
theorem lay_X6 : ∀ w ∈ u_ws RX6 TX6 4, w ∈ rt_mG := by
  intro w hw
  obtain ⟨k, hk, rfl⟩ := List.mem_map.mp hw
  have hk := List.mem_range.mp hk
  by_cases h0 : k = 0
  · subst h0; exact (rt_inG (rt_t1 138 (by decide +kernel)) rfl)
  by_cases h1 : k = 1
  · subst h1; exact (rt_inG (rt_t1 140 (by decide +kernel)) rfl)
  by_cases h2 : k = 2
  · subst h2; exact (rt_inG (rt_t1 142 (by decide +kernel)) rfl)
  by_cases h3 : k = 3
  · subst h3; exact (rt_inG (rt_t1 144 (by decide +kernel)) rfl)
  omega
theorem ln_X6 : ∀ k, rt_kd k = 20 + 6 → rt_ln k = 4 := fun k h => rt_ln_of (by decide +kernel) h (by decide)
theorem cl_X6 : rt_CL 6 := ⟨rfl, lay_X6, tyX6_ok, nmX6, ln_X6⟩
theorem lay_X7 : ∀ w ∈ u_ws RX7 TX7 3, w ∈ rt_mG := by
  intro w hw
  obtain ⟨k, hk, rfl⟩ := List.mem_map.mp hw
  have hk := List.mem_range.mp hk
  by_cases h0 : k = 0
  · subst h0; exact (rt_inG (rt_t1 96 (by decide +kernel)) rfl)
  by_cases h1 : k = 1
  · subst h1; exact (rt_inG (rt_t1 98 (by decide +kernel)) rfl)
  by_cases h2 : k = 2
  · subst h2; exact (rt_inG (rt_t1 100 (by decide +kernel)) rfl)
  omega
theorem ln_X7 : ∀ k, rt_kd k = 20 + 7 → rt_ln k = 3 := fun k h => rt_ln_of (by decide +kernel) h (by decide)
theorem cl_X7 : rt_CL 7 := ⟨rfl, lay_X7, tyX7_ok, nmX7, ln_X7⟩
theorem lay_X8 : ∀ w ∈ u_ws RX8 TX8 6, w ∈ rt_mG := by
  intro w hw
  obtain ⟨k, hk, rfl⟩ := List.mem_map.mp hw
  have hk := List.mem_range.mp hk
  by_cases h0 : k = 0
  · subst h0; exact (rt_inG (rt_t1 48 (by decide +kernel)) rfl)
  by_cases h1 : k = 1
  · subst h1; exact (rt_inG (rt_t1 50 (by decide +kernel)) rfl)
  by_cases h2 : k = 2
  · subst h2; exact (rt_inG (rt_t1 52 (by decide +kernel)) rfl)
  by_cases h3 : k = 3
  · subst h3; exact (rt_inG (rt_t1 54 (by decide +kernel)) rfl)
  by_cases h4 : k = 4
  · subst h4; exact (rt_inG (rt_t1 56 (by decide +kernel)) rfl)
  by_cases h5 : k = 5
  · subst h5; exact (rt_inG (rt_t1 58 (by decide +kernel)) rfl)
  omega
theorem ln_X8 : ∀ k, rt_kd k = 20 + 8 → rt_ln k = 6 := fun k h => rt_ln_of (by decide +kernel) h (by decide)
theorem cl_X8 : rt_CL 8 := ⟨rfl, lay_X8, tyX8_ok, nmX8, ln_X8⟩
theorem lay_X10 : ∀ w ∈ u_ws RX10 TX10 4, w ∈ rt_mG := by
  intro w hw
  obtain ⟨k, hk, rfl⟩ := List.mem_map.mp hw
  have hk := List.mem_range.mp hk
  by_cases h0 : k = 0
  · subst h0; exact (rt_inG (rt_t1 117 (by decide +kernel)) rfl)
  by_cases h1 : k = 1
  · subst h1; exact (rt_inG (rt_t1 119 (by decide +kernel)) rfl)
  by_cases h2 : k = 2
  · subst h2; exact (rt_inG (rt_t1 121 (by decide +kernel)) rfl)
  by_cases h3 : k = 3
  · subst h3; exact (rt_inG (rt_t1 123 (by decide +kernel)) rfl)
  omega
theorem ln_X10 : ∀ k, rt_kd k = 20 + 10 → rt_ln k = 4 := fun k h => rt_ln_of (by decide +kernel) h (by decide)
theorem cl_X10 : rt_CL 10 := ⟨rfl, lay_X10, tyX10_ok, nmX10, ln_X10⟩
theorem lay_X11 : ∀ w ∈ u_ws RX11 TX11 14, w ∈ rt_mG := by
  intro w hw
  obtain ⟨k, hk, rfl⟩ := List.mem_map.mp hw
  have hk := List.mem_range.mp hk
  by_cases h0 : k = 0
  · subst h0; exact (rt_inG (rt_t2 108 (by decide +kernel)) rfl)
  by_cases h1 : k = 1
  · subst h1; exact (rt_inG (rt_t2 110 (by decide +kernel)) rfl)
  by_cases h2 : k = 2
  · subst h2; exact (rt_inG (rt_t2 112 (by decide +kernel)) rfl)
  by_cases h3 : k = 3
  · subst h3; exact (rt_inG (rt_t2 114 (by decide +kernel)) rfl)
  by_cases h4 : k = 4
  · subst h4; exact (rt_inG (rt_t2 116 (by decide +kernel)) rfl)
  by_cases h5 : k = 5
  · subst h5; exact (rt_inG (rt_t2 118 (by decide +kernel)) rfl)
  by_cases h6 : k = 6
  · subst h6; exact (rt_inG (rt_t2 120 (by decide +kernel)) rfl)
  by_cases h7 : k = 7
  · subst h7; exact (rt_inG (rt_t2 122 (by decide +kernel)) rfl)
  by_cases h8 : k = 8
  · subst h8; exact (rt_inG (rt_t2 124 (by decide +kernel)) rfl)
  by_cases h9 : k = 9
  · subst h9; exact (rt_inG (rt_t2 126 (by decide +kernel)) rfl)
  by_cases h10 : k = 10
  · subst h10; exact (rt_inG (rt_t2 128 (by decide +kernel)) rfl)
  by_cases h11 : k = 11
  · subst h11; exact (rt_inG (rt_t2 130 (by decide +kernel)) rfl)
  by_cases h12 : k = 12
  · subst h12; exact (rt_inG (rt_t2 132 (by decide +kernel)) rfl)
  by_cases h13 : k = 13
  · subst h13; exact (rt_inG (rt_t2 134 (by decide +kernel)) rfl)
  omega
theorem ln_X11 : ∀ k, rt_kd k = 20 + 11 → rt_ln k = 14 := fun k h => rt_ln_of (by decide +kernel) h (by decide)
theorem cl_X11 : rt_CL 11 := ⟨rfl, lay_X11, tyX11_ok, nmX11, ln_X11⟩
theorem lay_X12 : ∀ w ∈ u_ws RX12 TX12 72, w ∈ rt_mG := by
  intro w hw
  obtain ⟨k, hk, rfl⟩ := List.mem_map.mp hw
  have hk := List.mem_range.mp hk
  by_cases h0 : k = 0
  · subst h0; exact (rt_inG (rt_t6 17 (by decide +kernel)) rfl)
  by_cases h1 : k = 1
  · subst h1; exact (rt_inG (rt_t6 19 (by decide +kernel)) rfl)
  by_cases h2 : k = 2
  · subst h2; exact (rt_inG (rt_t6 21 (by decide +kernel)) rfl)
  by_cases h3 : k = 3
  · subst h3; exact (rt_inG (rt_t6 23 (by decide +kernel)) rfl)
  by_cases h4 : k = 4
  · subst h4; exact (rt_inG (rt_t6 25 (by decide +kernel)) rfl)
  by_cases h5 : k = 5
  · subst h5; exact (rt_inG (rt_t6 27 (by decide +kernel)) rfl)
  by_cases h6 : k = 6
  · subst h6; exact (rt_inG (rt_t6 29 (by decide +kernel)) rfl)
  by_cases h7 : k = 7
  · subst h7; exact (rt_inG (rt_t6 31 (by decide +kernel)) rfl)
  by_cases h8 : k = 8
  · subst h8; exact (rt_inG (rt_t6 33 (by decide +kernel)) rfl)
  by_cases h9 : k = 9
  · subst h9; exact (rt_inG (rt_t6 35 (by decide +kernel)) rfl)
  by_cases h10 : k = 10
  · subst h10; exact (rt_inG (rt_t6 37 (by decide +kernel)) rfl)
  by_cases h11 : k = 11
  · subst h11; exact (rt_inG (rt_t6 39 (by decide +kernel)) rfl)
  by_cases h12 : k = 12
  · subst h12; exact (rt_inG (rt_t6 41 (by decide +kernel)) rfl)
  by_cases h13 : k = 13
  · subst h13; exact (rt_inG (rt_t6 43 (by decide +kernel)) rfl)
  by_cases h14 : k = 14
  · subst h14; exact (rt_inG (rt_t6 45 (by decide +kernel)) rfl)
  by_cases h15 : k = 15
  · subst h15; exact (rt_inG (rt_t6 47 (by decide +kernel)) rfl)
  by_cases h16 : k = 16
  · subst h16; exact (rt_inG (rt_t6 49 (by decide +kernel)) rfl)
  by_cases h17 : k = 17
  · subst h17; exact (rt_inG (rt_t6 51 (by decide +kernel)) rfl)
  by_cases h18 : k = 18
  · subst h18; exact (rt_inG (rt_t6 53 (by decide +kernel)) rfl)
  by_cases h19 : k = 19
  · subst h19; exact (rt_inG (rt_t6 55 (by decide +kernel)) rfl)
  by_cases h20 : k = 20
  · subst h20; exact (rt_inG (rt_t6 57 (by decide +kernel)) rfl)
  by_cases h21 : k = 21
  · subst h21; exact (rt_inG (rt_t6 59 (by decide +kernel)) rfl)
  by_cases h22 : k = 22
  · subst h22; exact (rt_inG (rt_t6 61 (by decide +kernel)) rfl)
  by_cases h23 : k = 23
  · subst h23; exact (rt_inG (rt_t6 63 (by decide +kernel)) rfl)
  by_cases h24 : k = 24
  · subst h24; exact (rt_inG (rt_t6 65 (by decide +kernel)) rfl)
  by_cases h25 : k = 25
  · subst h25; exact (rt_inG (rt_t6 67 (by decide +kernel)) rfl)
  by_cases h26 : k = 26
  · subst h26; exact (rt_inG (rt_t6 69 (by decide +kernel)) rfl)
  by_cases h27 : k = 27
  · subst h27; exact (rt_inG (rt_t6 71 (by decide +kernel)) rfl)
  by_cases h28 : k = 28
  · subst h28; exact (rt_inG (rt_t6 73 (by decide +kernel)) rfl)
  by_cases h29 : k = 29
  · subst h29; exact (rt_inG (rt_t6 75 (by decide +kernel)) rfl)
  by_cases h30 : k = 30
  · subst h30; exact (rt_inG (rt_t6 77 (by decide +kernel)) rfl)
  by_cases h31 : k = 31
  · subst h31; exact (rt_inG (rt_t6 79 (by decide +kernel)) rfl)
  by_cases h32 : k = 32
  · subst h32; exact (rt_inG (rt_t6 81 (by decide +kernel)) rfl)
  by_cases h33 : k = 33
  · subst h33; exact (rt_inG (rt_t6 83 (by decide +kernel)) rfl)
  by_cases h34 : k = 34
  · subst h34; exact (rt_inG (rt_t6 85 (by decide +kernel)) rfl)
  by_cases h35 : k = 35
  · subst h35; exact (rt_inG (rt_t6 87 (by decide +kernel)) rfl)
  by_cases h36 : k = 36
  · subst h36; exact (rt_inG (rt_t6 89 (by decide +kernel)) rfl)
  by_cases h37 : k = 37
  · subst h37; exact (rt_inG (rt_t6 91 (by decide +kernel)) rfl)
  by_cases h38 : k = 38
  · subst h38; exact (rt_inG (rt_t6 93 (by decide +kernel)) rfl)
  by_cases h39 : k = 39
  · subst h39; exact (rt_inG (rt_t6 95 (by decide +kernel)) rfl)
  by_cases h40 : k = 40
  · subst h40; exact (rt_inG (rt_t6 97 (by decide +kernel)) rfl)
  by_cases h41 : k = 41
  · subst h41; exact (rt_inG (rt_t6 99 (by decide +kernel)) rfl)
  by_cases h42 : k = 42
  · subst h42; exact (rt_inG (rt_t6 101 (by decide +kernel)) rfl)
  by_cases h43 : k = 43
  · subst h43; exact (rt_inG (rt_t6 103 (by decide +kernel)) rfl)
  by_cases h44 : k = 44
  · subst h44; exact (rt_inG (rt_t6 105 (by decide +kernel)) rfl)
  by_cases h45 : k = 45
  · subst h45; exact (rt_inG (rt_t6 107 (by decide +kernel)) rfl)
  by_cases h46 : k = 46
  · subst h46; exact (rt_inG (rt_t6 109 (by decide +kernel)) rfl)
  by_cases h47 : k = 47
  · subst h47; exact (rt_inG (rt_t6 111 (by decide +kernel)) rfl)
  by_cases h48 : k = 48
  · subst h48; exact (rt_inG (rt_t6 113 (by decide +kernel)) rfl)
  by_cases h49 : k = 49
  · subst h49; exact (rt_inG (rt_t6 115 (by decide +kernel)) rfl)
  by_cases h50 : k = 50
  · subst h50; exact (rt_inG (rt_t6 117 (by decide +kernel)) rfl)
  by_cases h51 : k = 51
  · subst h51; exact (rt_inG (rt_t6 119 (by decide +kernel)) rfl)
  by_cases h52 : k = 52
  · subst h52; exact (rt_inG (rt_t6 121 (by decide +kernel)) rfl)
  by_cases h53 : k = 53
  · subst h53; exact (rt_inG (rt_t6 123 (by decide +kernel)) rfl)
  by_cases h54 : k = 54
  · subst h54; exact (rt_inG (rt_t6 125 (by decide +kernel)) rfl)
  by_cases h55 : k = 55
  · subst h55; exact (rt_inG (rt_t6 127 (by decide +kernel)) rfl)
  by_cases h56 : k = 56
  · subst h56; exact (rt_inG (rt_t6 129 (by decide +kernel)) rfl)
  by_cases h57 : k = 57
  · subst h57; exact (rt_inG (rt_t6 131 (by decide +kernel)) rfl)
  by_cases h58 : k = 58
  · subst h58; exact (rt_inG (rt_t6 133 (by decide +kernel)) rfl)
  by_cases h59 : k = 59
  · subst h59; exact (rt_inG (rt_t6 135 (by decide +kernel)) rfl)
  by_cases h60 : k = 60
  · subst h60; exact (rt_inG (rt_t6 137 (by decide +kernel)) rfl)
  by_cases h61 : k = 61
  · subst h61; exact (rt_inG (rt_t6 139 (by decide +kernel)) rfl)
  by_cases h62 : k = 62
  · subst h62; exact (rt_inG (rt_t6 141 (by decide +kernel)) rfl)
  by_cases h63 : k = 63
  · subst h63; exact (rt_inG (rt_t6 143 (by decide +kernel)) rfl)
  by_cases h64 : k = 64
  · subst h64; exact (rt_inG (rt_t6 145 (by decide +kernel)) rfl)
  by_cases h65 : k = 65
  · subst h65; exact (rt_inG (rt_t6 147 (by decide +kernel)) rfl)
  by_cases h66 : k = 66
  · subst h66; exact (rt_inG (rt_t6 149 (by decide +kernel)) rfl)
  by_cases h67 : k = 67
  · subst h67; exact (rt_inG (rt_t6 151 (by decide +kernel)) rfl)
  by_cases h68 : k = 68
  · subst h68; exact (rt_inG (rt_t6 153 (by decide +kernel)) rfl)
  by_cases h69 : k = 69
  · subst h69; exact (rt_inG (rt_t6 155 (by decide +kernel)) rfl)
  by_cases h70 : k = 70
  · subst h70; exact (rt_inG (rt_t6 157 (by decide +kernel)) rfl)
  by_cases h71 : k = 71
  · subst h71; exact (rt_inG (rt_t6 159 (by decide +kernel)) rfl)
  omega
theorem ln_X12 : ∀ k, rt_kd k = 20 + 12 → rt_ln k = 72 := fun k h => rt_ln_of (by decide +kernel) h (by decide)
theorem cl_X12 : rt_CL 12 := ⟨rfl, lay_X12, tyX12_ok, nmX12, ln_X12⟩
