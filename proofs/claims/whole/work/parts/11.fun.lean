def b_X7_clear_7 (a0 : Int) (s : Int × rt_M) : Option ((Int × rt_M) ⊕ (rt_M)) :=
  if 6 ≤ s.1 then
  some (.inr s.2)
  else
  (rt_gf 7 1 a0 s.2).bind fun v14 =>
  (rt_sa 1 v14 s.1 ((-1)) s.2).bind fun m19 =>
  (rt_gf 7 2 a0 m19).bind fun v21 =>
  (rt_sa 1 v21 s.1 0 m19).bind fun m26 =>
  some (.inl ((rt_iadd s.1 1), m26))
def f_X7_clear (a0 : Int) (mem0 : rt_M) : Option (rt_M) :=
  (rt_pf 7 0 a0 0 mem0).bind fun m2 =>
  (rt_it (b_X7_clear_7 a0) 4000 ((0, m2))).bind fun X7 =>
  some X7
def b_X0_forgetTilts_2 (a0 : Int) (s : Int × rt_M) : Option ((Int × rt_M) ⊕ (rt_M)) :=
  if 6 ≤ s.1 then
  some (.inr s.2)
  else
  (rt_gf 0 3 a0 s.2).bind fun v9 =>
  (rt_sa 1 v9 s.1 ((-1)) s.2).bind fun m14 =>
  some (.inl ((rt_iadd s.1 1), m14))
def f_X0_forgetTilts (a0 : Int) (mem0 : rt_M) : Option (rt_M) :=
  (rt_it (b_X0_forgetTilts_2 a0) 4000 ((0, mem0))).bind fun X2 =>
  some X2
def f_X0_clear (a0 : Int) (mem0 : rt_M) : Option (rt_M) :=
  (rt_gf 0 0 a0 mem0).bind fun v1 =>
  (rt_gd 7 v1 (f_X7_clear v1 mem0)).bind fun p4 =>
  (rt_gf 0 1 a0 p4).bind fun v8 =>
  (rt_pf 10 0 v8 0 p4).bind fun m12 =>
  (rt_gf 0 2 a0 m12).bind fun v16 =>
  (rt_pf 6 0 v16 0 m12).bind fun m20 =>
  (f_X0_forgetTilts a0 m20).bind fun p24 =>
  some p24
def j_X0_tiltsTold_23_4 (a0 : Int) (a1 : Int) (a2 : Int) (mem0 : rt_M) : Option ((Int × Int) ⊕ (Int)) :=
  some (.inl (a1, (rt_iadd a2 1)))
def b_X0_tiltsTold_4 (a0 : Int) (mem0 : rt_M) (s : Int × Int) : Option ((Int × Int) ⊕ (Int)) :=
  if 6 ≤ s.2 then
  some (.inr s.1)
  else
  (rt_gf 0 3 a0 mem0).bind fun v11 =>
  (rt_al 1 v11 s.2 mem0).bind fun v15 =>
  if v15 = (-1) then
  j_X0_tiltsTold_23_4 a0 s.1 s.2 mem0
  else
  j_X0_tiltsTold_23_4 a0 ((rt_iadd s.1 1)) s.2 mem0
def f_X0_tiltsTold (a0 : Int) (mem0 : rt_M) : Option (Int) :=
  (rt_it (b_X0_tiltsTold_4 a0 mem0) 4000 ((0, 0))).bind fun X4 =>
  some X4
def b_X7_copy_10 (a0 : Int) (a1 : Int) (s : Int × rt_M) : Option ((Int × rt_M) ⊕ (rt_M)) :=
  if 6 ≤ s.1 then
  some (.inr s.2)
  else
  (rt_gf 7 1 a0 s.2).bind fun v17 =>
  (rt_gf 7 1 a1 s.2).bind fun v22 =>
  (rt_al 1 v22 s.1 s.2).bind fun v26 =>
  (rt_sa 1 v17 s.1 v26 s.2).bind fun m27 =>
  (rt_gf 7 2 a0 m27).bind fun v29 =>
  (rt_gf 7 2 a1 m27).bind fun v34 =>
  (rt_al 1 v34 s.1 m27).bind fun v38 =>
  (rt_sa 1 v29 s.1 v38 m27).bind fun m39 =>
  some (.inl ((rt_iadd s.1 1), m39))
def f_X7_copy (a0 : Int) (a1 : Int) (mem0 : rt_M) : Option (rt_M) :=
  (rt_gf 7 0 a1 mem0).bind fun v2 =>
  (rt_pf 7 0 a0 v2 mem0).bind fun m5 =>
  (rt_it (b_X7_copy_10 a0 a1) 4000 ((0, m5))).bind fun X10 =>
  some X10
def b_X10_copy_10 (a0 : Int) (a1 : Int) (s : Int × rt_M) : Option ((Int × rt_M) ⊕ (rt_M)) :=
  (rt_gf 10 0 a0 s.2).bind fun v12 =>
  if v12 ≤ s.1 then
  some (.inr s.2)
  else
  (rt_gf 10 1 a0 s.2).bind fun v19 =>
  (rt_gf 10 1 a1 s.2).bind fun v24 =>
  (rt_al 5 v24 s.1 s.2).bind fun v28 =>
  (rt_saw v19 s.1 v28 s.2).bind fun m29 =>
  (rt_gf 10 2 a0 m29).bind fun v31 =>
  (rt_gf 10 2 a1 m29).bind fun v36 =>
  (rt_al 1 v36 s.1 m29).bind fun v40 =>
  (rt_sa 1 v31 s.1 v40 m29).bind fun m41 =>
  (rt_gf 10 3 a0 m41).bind fun v43 =>
  (rt_gf 10 3 a1 m41).bind fun v48 =>
  (rt_al 1 v48 s.1 m41).bind fun v52 =>
  (rt_sa 1 v43 s.1 v52 m41).bind fun m53 =>
  some (.inl ((rt_iadd s.1 1), m53))
def f_X10_copy (a0 : Int) (a1 : Int) (mem0 : rt_M) : Option (rt_M) :=
  (rt_gf 10 0 a1 mem0).bind fun v2 =>
  (rt_pf 10 0 a0 v2 mem0).bind fun m5 =>
  (rt_it (b_X10_copy_10 a0 a1) 4000 ((0, m5))).bind fun X10 =>
  some X10
def b_X6_copy_10 (a0 : Int) (a1 : Int) (s : Int × rt_M) : Option ((Int × rt_M) ⊕ (rt_M)) :=
  (rt_gf 6 0 a0 s.2).bind fun v12 =>
  if v12 ≤ s.1 then
  some (.inr s.2)
  else
  (rt_gf 6 1 a0 s.2).bind fun v19 =>
  (rt_gf 6 1 a1 s.2).bind fun v24 =>
  (rt_al 1 v24 s.1 s.2).bind fun v28 =>
  (rt_sa 1 v19 s.1 v28 s.2).bind fun m29 =>
  (rt_gf 6 2 a0 m29).bind fun v31 =>
  (rt_gf 6 2 a1 m29).bind fun v36 =>
  (rt_al 1 v36 s.1 m29).bind fun v40 =>
  (rt_sa 1 v31 s.1 v40 m29).bind fun m41 =>
  (rt_gf 6 3 a0 m41).bind fun v43 =>
  (rt_gf 6 3 a1 m41).bind fun v48 =>
  (rt_al 3 v48 s.1 m41).bind fun v52 =>
  (rt_bz v52).bind fun w53 =>
  (rt_sa 3 v43 s.1 v52 m41).bind fun m53 =>
  some (.inl ((rt_iadd s.1 1), m53))
def f_X6_copy (a0 : Int) (a1 : Int) (mem0 : rt_M) : Option (rt_M) :=
  (rt_gf 6 0 a1 mem0).bind fun v2 =>
  (rt_pf 6 0 a0 v2 mem0).bind fun m5 =>
  (rt_it (b_X6_copy_10 a0 a1) 4000 ((0, m5))).bind fun X10 =>
  some X10
def b_X0_copy_35 (a0 : Int) (a1 : Int) (s : Int × rt_M) : Option ((Int × rt_M) ⊕ (rt_M)) :=
  if 6 ≤ s.1 then
  some (.inr s.2)
  else
  (rt_gf 0 3 a0 s.2).bind fun v42 =>
  (rt_gf 0 3 a1 s.2).bind fun v47 =>
  (rt_al 1 v47 s.1 s.2).bind fun v51 =>
  (rt_sa 1 v42 s.1 v51 s.2).bind fun m52 =>
  some (.inl ((rt_iadd s.1 1), m52))
def f_X0_copy (a0 : Int) (a1 : Int) (mem0 : rt_M) : Option (rt_M) :=
  (rt_gf 0 0 a0 mem0).bind fun v1 =>
  (rt_gf 0 0 a1 mem0).bind fun v5 =>
  (rt_gd 7 v1 (f_X7_copy v1 v5 mem0)).bind fun p8 =>
  (rt_gf 0 1 a0 p8).bind fun v12 =>
  (rt_gf 0 1 a1 p8).bind fun v16 =>
  (rt_gd 10 v12 (f_X10_copy v12 v16 p8)).bind fun p19 =>
  (rt_gf 0 2 a0 p19).bind fun v23 =>
  (rt_gf 0 2 a1 p19).bind fun v27 =>
  (rt_gd 6 v23 (f_X6_copy v23 v27 p19)).bind fun p30 =>
  (rt_it (b_X0_copy_35 a0 a1) 4000 ((0, p30))).bind fun X35 =>
  some X35
def j_X4_isHead_17 (s0 : Int) (mem0 : rt_M) : Option (Int) :=
  (rt_bz s0).bind fun _ => some s0
def j_X4_isHead_16 (mem0 : rt_M) : Option (Int) :=
  j_X4_isHead_17 0 mem0
def f_X4_isHead (a0 : Int) (a1 : Int) (mem0 : rt_M) : Option (Int) :=
  if a1 < 0 then
  j_X4_isHead_16 mem0
  else
  (rt_gf 4 1 a0 mem0).bind fun v6 =>
  if v6 ≤ a1 then
  j_X4_isHead_16 mem0
  else
  j_X4_isHead_17 1 mem0
def j_X4_ofHead_20 (s0 : Int) (mem0 : rt_M) : Option (Int) :=
  some s0
def f_X4_ofHead (a0 : Int) (a1 : Int) (a2 : Int) (mem0 : rt_M) : Option (Int) :=
  (f_X4_isHead a0 a1 mem0).bind fun p2 =>
  if p2 = 0 then
  j_X4_ofHead_20 0 mem0
  else
  (rt_gf 4 5 a0 mem0).bind fun v9 =>
  (rt_al 6 v9 a1 mem0).bind fun v13 =>
  (rt_al 1 v13 a2 mem0).bind fun v15 =>
  j_X4_ofHead_20 v15 mem0
def j_J9_floorMod_7cf53_18 (a2 : Int) (mem0 : rt_M) : Option (Int) :=
  some a2
def f_J9_floorMod_7cf53 (a0 : Int) (a1 : Int) (mem0 : rt_M) : Option (Int) :=
  if a1 = 0 then none else
  if 0 ≤ (rt_ixor a0 a1) then
  j_J9_floorMod_7cf53_18 ((rt_irem a0 a1)) mem0
  else
  if (rt_irem a0 a1) = 0 then
  j_J9_floorMod_7cf53_18 ((rt_irem a0 a1)) mem0
  else
  some ((rt_iadd (rt_irem a0 a1) a1))
def j_X4_heatOf_24 (s0 : Int) (mem0 : rt_M) : Option (Int) :=
  some s0
def f_X4_heatOf (a0 : Int) (a1 : Int) (mem0 : rt_M) : Option (Int) :=
  (rt_gf 4 7 a0 mem0).bind fun v1 =>
  if v1 ≤ 0 then
  j_X4_heatOf_24 0 mem0
  else
  (rt_gf 4 6 a0 mem0).bind fun v8 =>
  (rt_gf 4 7 a0 mem0).bind fun v13 =>
  (f_J9_floorMod_7cf53 a1 v13 mem0).bind fun p16 =>
  (rt_al 1 v8 p16 mem0).bind fun v19 =>
  j_X4_heatOf_24 v19 mem0
def j_X2_joined_53 (s0 : Int) (mem0 : rt_M) : Option (Int) :=
  some s0
def j_X2_joined_52 (mem0 : rt_M) : Option (Int) :=
  j_X2_joined_53 0 mem0
def j_X2_joined_67 (s0 : Int) (mem0 : rt_M) : Option (Int) :=
  some s0
def j_X2_joined_62 (mem0 : rt_M) : Option (Int) :=
  j_X2_joined_67 1 mem0
def j_X2_joined_78 (s0 : Int) (mem0 : rt_M) : Option (Int) :=
  some s0
def j_X2_joined_89 (s0 : Int) (mem0 : rt_M) : Option (Int) :=
  some s0
def f_X2_joined (a0 : Int) (a1 : Int) (a2 : Int) (mem0 : rt_M) : Option (Int) :=
  if a0 = -10 then
  some ((rt_isub a1 a2))
  else
  if a0 = -9 then
  some ((rt_iadd a1 a2))
  else
  if a0 = -8 then
  if a1 = a2 then
  j_X2_joined_89 1 mem0
  else
  j_X2_joined_89 0 mem0
  else
  if a0 = -7 then
  if a2 ≤ a1 then
  j_X2_joined_78 0 mem0
  else
  j_X2_joined_78 1 mem0
  else
  if a0 = -6 then
  if a1 = 0 then
  if a2 = 0 then
  j_X2_joined_67 0 mem0
  else
  j_X2_joined_62 mem0
  else
  j_X2_joined_62 mem0
  else
  if a0 = -5 then
  if a1 = 0 then
  j_X2_joined_52 mem0
  else
  if a2 = 0 then
  j_X2_joined_52 mem0
  else
  j_X2_joined_53 1 mem0
  else
  some ((rt_imul a1 a2))
def j_X2_worth_174_6 (a0 : Int) (a1 : Int) (a2 : Int) (a3 : Int) (a4 : Int) (a5 : Int) (mem0 : rt_M) : Option ((Int × Int × rt_M) ⊕ (rt_M)) :=
  some (.inl (a4, (rt_iadd a5 1), mem0))
def j_X2_worth_128_6 (a0 : Int) (a1 : Int) (a2 : Int) (a3 : Int) (a4 : Int) (a5 : Int) (a6 : Int) (mem0 : rt_M) : Option ((Int × Int × rt_M) ⊕ (rt_M)) :=
  if (-4) ≤ a6 then
  j_X2_worth_174_6 a0 a1 a2 a3 a4 a5 mem0
  else
  if a4 < 2 then
  j_X2_worth_174_6 a0 a1 a2 a3 a4 a5 mem0
  else
  (rt_gf 2 4 a0 mem0).bind fun v145 =>
  (rt_gf 2 4 a0 mem0).bind fun v155 =>
  (rt_al 1 v155 ((rt_isub (rt_iadd a4 (-1)) 1)) mem0).bind fun v162 =>
  (rt_gf 2 4 a0 mem0).bind fun v164 =>
  (rt_al 1 v164 ((rt_iadd a4 (-1))) mem0).bind fun v169 =>
  (f_X2_joined a6 v162 v169 mem0).bind fun p170 =>
  (rt_sa 1 v145 ((rt_isub (rt_iadd a4 (-1)) 1)) p170 mem0).bind fun m173 =>
  j_X2_worth_174_6 a0 a1 a2 a3 ((rt_iadd a4 (-1))) a5 m173
def j_X2_worth_124_6 (a0 : Int) (a1 : Int) (a2 : Int) (a3 : Int) (a4 : Int) (a5 : Int) (s0 : Int) (s1 : Int) (s2 : Int) (mem0 : rt_M) : Option ((Int × Int × rt_M) ⊕ (rt_M)) :=
  (rt_sa 1 s0 s1 s2 mem0).bind fun m124 =>
  j_X2_worth_174_6 a0 a1 a2 a3 a4 a5 m124
def j_X2_worth_86_6 (a0 : Int) (a1 : Int) (a2 : Int) (a3 : Int) (a4 : Int) (a5 : Int) (a6 : Int) (mem0 : rt_M) : Option ((Int × Int × rt_M) ⊕ (rt_M)) :=
  if a6 = (-4) then
  if a4 < 1 then
  j_X2_worth_128_6 a0 a1 a2 a3 a4 a5 a6 mem0
  else
  (rt_gf 2 4 a0 mem0).bind fun v100 =>
  (rt_gf 2 4 a0 mem0).bind fun v108 =>
  (rt_al 1 v108 ((rt_isub a4 1)) mem0).bind fun v115 =>
  if v115 = 0 then
  j_X2_worth_124_6 a0 a1 a2 a3 a4 a5 v100 ((rt_isub a4 1)) 1 mem0
  else
  j_X2_worth_124_6 a0 a1 a2 a3 a4 a5 v100 ((rt_isub a4 1)) 0 mem0
  else
  j_X2_worth_128_6 a0 a1 a2 a3 a4 a5 a6 mem0
def j_X2_worth_79_6 (a0 : Int) (a1 : Int) (a2 : Int) (a3 : Int) (a4 : Int) (a5 : Int) (s0 : Int) (s1 : Int) (s2 : Int) (mem0 : rt_M) : Option ((Int × Int × rt_M) ⊕ (rt_M)) :=
  (rt_sa 1 s0 s1 s2 mem0).bind fun m79 =>
  j_X2_worth_174_6 a0 a1 a2 a3 ((rt_iadd a4 1)) a5 m79
def b_X2_worth_6 (a0 : Int) (a1 : Int) (a2 : Int) (a3 : Int) (s : Int × Int × rt_M) : Option ((Int × Int × rt_M) ⊕ (rt_M)) :=
  (rt_gf 2 5 a0 s.2.2).bind fun v9 =>
  if v9 ≤ s.2.1 then
  some (.inr s.2.2)
  else
  (rt_gf 2 3 a0 s.2.2).bind fun v16 =>
  (rt_al 1 v16 s.2.1 s.2.2).bind fun v21 =>
  if v21 < (-3) then
  j_X2_worth_86_6 a0 a1 a2 a3 s.1 s.2.1 v21 s.2.2
  else
  (rt_gf 2 4 a0 s.2.2).bind fun v34 =>
  (rt_len 1 v34).bind fun v37 =>
  if v37 ≤ s.1 then
  j_X2_worth_86_6 a0 a1 a2 a3 s.1 s.2.1 v21 s.2.2
  else
  (rt_gf 2 4 a0 s.2.2).bind fun v42 =>
  if v21 < 0 then
  if v21 = (-1) then
  j_X2_worth_79_6 a0 a1 a2 a3 s.1 s.2.1 v42 s.1 a1 s.2.2
  else
  if v21 = (-2) then
  j_X2_worth_79_6 a0 a1 a2 a3 s.1 s.2.1 v42 s.1 a2 s.2.2
  else
  j_X2_worth_79_6 a0 a1 a2 a3 s.1 s.2.1 v42 s.1 a3 s.2.2
  else
  j_X2_worth_79_6 a0 a1 a2 a3 s.1 s.2.1 v42 s.1 v21 s.2.2
def f_X2_worth (a0 : Int) (a1 : Int) (a2 : Int) (a3 : Int) (mem0 : rt_M) : Option (Int × rt_M) :=
  (rt_it (b_X2_worth_6 a0 a1 a2 a3) 4000 ((0, 0, mem0))).bind fun X6 =>
  (rt_gf 2 4 a0 X6).bind fun v181 =>
  (rt_al 1 v181 0 X6).bind fun v185 =>
  some (v185, X6)
def j_J9_min_7cf53_10 (s0 : Int) (mem0 : rt_M) : Option (Int) :=
  some s0
def f_J9_min_7cf53 (a0 : Int) (a1 : Int) (mem0 : rt_M) : Option (Int) :=
  if a1 < a0 then
  j_J9_min_7cf53_10 a1 mem0
  else
  j_J9_min_7cf53_10 a0 mem0
def j_J9_max_7cf53_10 (s0 : Int) (mem0 : rt_M) : Option (Int) :=
  some s0
def f_J9_max_7cf53 (a0 : Int) (a1 : Int) (mem0 : rt_M) : Option (Int) :=
  if a0 < a1 then
  j_J9_max_7cf53_10 a1 mem0
  else
  j_J9_max_7cf53_10 a0 mem0
def j_X4_girth_114 (s0 : Int) (mem0 : rt_M) : Option (Int × rt_M) :=
  some (s0, mem0)
def j_X4_girth_66 (a0 : Int) (a1 : Int) (a3 : Int) (a5 : Int) (a6 : Int) (mem0 : rt_M) : Option (Int × rt_M) :=
  (f_X4_ofHead a0 a1 1 mem0).bind fun p69 =>
  (f_J9_min_7cf53 9 a6 mem0).bind fun p78 =>
  (f_J9_max_7cf53 ((-9)) p78 mem0).bind fun p81 =>
  if a3 = 3 then
  j_X4_girth_114 ((rt_iadd (rt_iadd p69 p81) a5)) mem0
  else
  if a3 = 2 then
  j_X4_girth_114 ((rt_isub (rt_iadd p69 p81) 1)) mem0
  else
  j_X4_girth_114 ((rt_iadd p69 p81)) mem0
def j_X4_girth_33 (a0 : Int) (a1 : Int) (a3 : Int) (a4 : Int) (a5 : Int) (s0 : Int) (mem0 : rt_M) : Option (Int × rt_M) :=
  (rt_gf 4 10 a0 mem0).bind fun v36 =>
  (rt_gf 2 6 v36 mem0).bind fun v39 =>
  if v39 = 0 then
  j_X4_girth_66 a0 a1 a3 a5 s0 mem0
  else
  (rt_gf 4 10 a0 mem0).bind fun v46 =>
  (f_X4_ofHead a0 a1 2 mem0).bind fun p54 =>
  (rt_gd 2 v46 (f_X2_worth v46 a4 ((rt_iadd p54 a5)) a3 mem0)).bind fun p61 =>
  j_X4_girth_66 a0 a1 a3 a5 p61.1 p61.2
def f_X4_girth (a0 : Int) (a1 : Int) (a2 : Int) (mem0 : rt_M) : Option (Int × rt_M) :=
  (f_X4_ofHead a0 a1 0 mem0).bind fun p3 =>
  (f_X4_heatOf a0 a2 mem0).bind fun p9 =>
  if p3 = 1 then
  j_X4_girth_33 a0 a1 p3 p9 ((rt_idiv a2 4)) ((rt_imul 2 p9)) mem0
  else
  j_X4_girth_33 a0 a1 p3 p9 ((rt_idiv a2 4)) p9 mem0
def j_X4_isWig_17 (s0 : Int) (mem0 : rt_M) : Option (Int) :=
  (rt_bz s0).bind fun _ => some s0
def j_X4_isWig_16 (mem0 : rt_M) : Option (Int) :=
  j_X4_isWig_17 0 mem0
def f_X4_isWig (a0 : Int) (a1 : Int) (mem0 : rt_M) : Option (Int) :=
  if a1 < 0 then
  j_X4_isWig_16 mem0
  else
  (rt_gf 4 0 a0 mem0).bind fun v6 =>
  if v6 ≤ a1 then
  j_X4_isWig_16 mem0
  else
  j_X4_isWig_17 1 mem0
def j_X4_ofWig_20 (s0 : Int) (mem0 : rt_M) : Option (Int) :=
  some s0
def f_X4_ofWig (a0 : Int) (a1 : Int) (a2 : Int) (mem0 : rt_M) : Option (Int) :=
  (f_X4_isWig a0 a1 mem0).bind fun p2 =>
  if p2 = 0 then
  j_X4_ofWig_20 0 mem0
  else
  (rt_gf 4 4 a0 mem0).bind fun v9 =>
  (rt_al 6 v9 a1 mem0).bind fun v13 =>
  (rt_al 1 v13 a2 mem0).bind fun v15 =>
  j_X4_ofWig_20 v15 mem0
def f_X4_sizeOfWig (a0 : Int) (a1 : Int) (mem0 : rt_M) : Option (Int) :=
  (f_X4_ofWig a0 a1 0 mem0).bind fun p3 =>
  some p3
def j_X4_isTilt_17 (s0 : Int) (mem0 : rt_M) : Option (Int) :=
  (rt_bz s0).bind fun _ => some s0
def j_X4_isTilt_16 (mem0 : rt_M) : Option (Int) :=
  j_X4_isTilt_17 0 mem0
def f_X4_isTilt (a0 : Int) (a1 : Int) (mem0 : rt_M) : Option (Int) :=
  if a1 < 0 then
  j_X4_isTilt_16 mem0
  else
  (rt_gf 4 8 a0 mem0).bind fun v6 =>
  if v6 < a1 then
  j_X4_isTilt_16 mem0
  else
  j_X4_isTilt_17 1 mem0
def j_X1_measure_80_37 (a0 : Int) (a1 : Int) (a2 : Int) (a3 : Int) (a4 : Int) (a5 : Int) (s0 : Int) (s1 : Int) (s2 : Int) (mem0 : rt_M) : Option ((Int × rt_M) ⊕ (rt_M)) :=
  (rt_sa 1 s0 s1 s2 mem0).bind fun m80 =>
  some (.inl ((rt_iadd a5 1), m80))
def b_X1_measure_37 (a0 : Int) (a1 : Int) (a2 : Int) (a3 : Int) (a4 : Int) (s : Int × rt_M) : Option ((Int × rt_M) ⊕ (rt_M)) :=
  (rt_gf 1 0 a0 s.2).bind fun v40 =>
  if v40 ≤ s.1 then
  some (.inr s.2)
  else
  (rt_gd 4 a1 (f_X4_sizeOfWig a1 s.1 s.2)).bind fun p49 =>
  (rt_gf 1 2 a0 s.2).bind fun v58 =>
  (rt_al 6 v58 s.1 s.2).bind fun v63 =>
  (rt_gd 4 a1 (f_X4_isTilt a1 ((rt_isub p49 a4)) s.2)).bind fun p68 =>
  if p68 = 0 then
  j_X1_measure_80_37 a0 a1 a2 a3 a4 s.1 v63 a3 ((-1)) s.2
  else
  j_X1_measure_80_37 a0 a1 a2 a3 a4 s.1 v63 a3 ((rt_isub p49 a4)) s.2
def b_X1_measure_18 (a0 : Int) (a1 : Int) (a2 : Int) (s : Int × rt_M) : Option ((Int × rt_M) ⊕ (rt_M)) :=
  (rt_gf 1 1 a0 s.2).bind fun v20 =>
  if v20 ≤ s.1 then
  some (.inr s.2)
  else
  (rt_gd 4 a1 (f_X4_girth a1 s.1 a2 s.2)).bind fun p29 =>
  (rt_it (b_X1_measure_37 a0 a1 a2 s.1 p29.1) 4000 ((0, p29.2))).bind fun X37 =>
  some (.inl ((rt_iadd s.1 1), X37))
def f_X1_measure (a0 : Int) (a1 : Int) (a2 : Int) (mem0 : rt_M) : Option (rt_M) :=
  (rt_gf 4 0 a1 mem0).bind fun v2 =>
  (rt_pf 1 0 a0 v2 mem0).bind fun m5 =>
  (rt_gf 4 1 a1 m5).bind fun v10 =>
  (rt_pf 1 1 a0 v10 m5).bind fun m13 =>
  (rt_it (b_X1_measure_18 a0 a1 a2) 4000 ((0, m13))).bind fun X18 =>
  some X18
def j_X1_tiltOf_36 (s0 : Int) (mem0 : rt_M) : Option (Int) :=
  some s0
def j_X1_tiltOf_35 (mem0 : rt_M) : Option (Int) :=
  j_X1_tiltOf_36 ((-1)) mem0
def f_X1_tiltOf (a0 : Int) (a1 : Int) (a2 : Int) (mem0 : rt_M) : Option (Int) :=
  if a1 < 0 then
  j_X1_tiltOf_35 mem0
  else
  (rt_gf 1 0 a0 mem0).bind fun v6 =>
  if v6 ≤ a1 then
  j_X1_tiltOf_35 mem0
  else
  if a2 < 0 then
  j_X1_tiltOf_35 mem0
  else
  (rt_gf 1 1 a0 mem0).bind fun v18 =>
  if v18 ≤ a2 then
  j_X1_tiltOf_35 mem0
  else
  (rt_gf 1 2 a0 mem0).bind fun v25 =>
  (rt_al 6 v25 a1 mem0).bind fun v29 =>
  (rt_al 1 v29 a2 mem0).bind fun v31 =>
  j_X1_tiltOf_36 v31 mem0
def j_X1_layUnder_61_13 (a0 : Int) (a1 : Int) (a2 : Int) (a3 : Int) (a4 : Int) (a5 : Int) (mem0 : rt_M) : Option ((Int × Int × rt_M) ⊕ (Int × rt_M)) :=
  some (.inl (a4, (rt_iadd a5 1), mem0))
def b_X1_layUnder_13 (a0 : Int) (a1 : Int) (a2 : Int) (a3 : Int) (s : Int × Int × rt_M) : Option ((Int × Int × rt_M) ⊕ (Int × rt_M)) :=
  (rt_gf 1 1 a0 s.2.2).bind fun v16 =>
  if v16 ≤ s.2.1 then
  some (.inr (s.1, s.2.2))
  else
  if (rt_iand (rt_ishr a3 s.2.1) 1) = 1 then
  (rt_gf 1 2 a0 s.2.2).bind fun v33 =>
  (rt_al 6 v33 a1 s.2.2).bind fun v37 =>
  (rt_al 1 v37 s.2.1 s.2.2).bind fun v40 =>
  if v40 = a2 then
  (rt_gf 1 3 a0 s.2.2).bind fun v48 =>
  (rt_al 1 v48 ((rt_ixor a3 (rt_ishl 1 s.2.1))) s.2.2).bind fun v57 =>
  j_X1_layUnder_61_13 a0 a1 a2 a3 ((rt_iadd s.1 v57)) s.2.1 s.2.2
  else
  j_X1_layUnder_61_13 a0 a1 a2 a3 s.1 s.2.1 s.2.2
  else
  j_X1_layUnder_61_13 a0 a1 a2 a3 s.1 s.2.1 s.2.2
def b_X1_layUnder_3 (a0 : Int) (a1 : Int) (a2 : Int) (s : Int × rt_M) : Option ((Int × rt_M) ⊕ (rt_M)) :=
  if s.1 < 0 then
  some (.inr s.2)
  else
  (rt_it (b_X1_layUnder_13 a0 a1 a2 s.1) 4000 ((0, 0, s.2))).bind fun X13 =>
  (rt_gf 1 3 a0 X13.2).bind fun v68 =>
  (rt_sa 1 v68 s.1 X13.1 X13.2).bind fun m74 =>
  some (.inl ((rt_iadd s.1 (-1)), m74))
def f_X1_layUnder (a0 : Int) (a1 : Int) (a2 : Int) (mem0 : rt_M) : Option (rt_M) :=
  (rt_it (b_X1_layUnder_3 a0 a1 a2) 4000 ((63, mem0))).bind fun X3 =>
  some X3
def j_X1_layWays_22_2 (a0 : Int) (a1 : Int) (a2 : Int) (a3 : Int) (s0 : Int) (s1 : Int) (s2 : Int) (mem0 : rt_M) : Option ((Int × rt_M) ⊕ (rt_M)) :=
  (rt_sa 1 s0 s1 s2 mem0).bind fun m22 =>
  some (.inl ((rt_iadd a3 1), m22))
def b_X1_layWays_2 (a0 : Int) (a1 : Int) (a2 : Int) (s : Int × rt_M) : Option ((Int × rt_M) ⊕ (rt_M)) :=
  if 64 ≤ s.1 then
  some (.inr s.2)
  else
  (rt_gf 1 3 a0 s.2).bind fun v9 =>
  if s.1 = 0 then
  j_X1_layWays_22_2 a0 a1 a2 s.1 v9 s.1 1 s.2
  else
  j_X1_layWays_22_2 a0 a1 a2 s.1 v9 s.1 0 s.2
def j_X1_layWays_59_31 (a0 : Int) (a1 : Int) (a2 : Int) (a3 : Int) (mem0 : rt_M) : Option ((Int × rt_M) ⊕ (rt_M)) :=
  some (.inl ((rt_iadd a3 1), mem0))
def b_X1_layWays_31 (a0 : Int) (a1 : Int) (a2 : Int) (s : Int × rt_M) : Option ((Int × rt_M) ⊕ (rt_M)) :=
  (rt_gf 1 0 a0 s.2).bind fun v33 =>
  if v33 ≤ s.1 then
  some (.inr s.2)
  else
  (rt_al 1 a1 s.1 s.2).bind fun v41 =>
  if v41 = (-1) then
  j_X1_layWays_59_31 a0 a1 a2 s.1 s.2
  else
  if s.1 = a2 then
  j_X1_layWays_59_31 a0 a1 a2 s.1 s.2
  else
  (rt_al 1 a1 s.1 s.2).bind fun v55 =>
  (f_X1_layUnder a0 s.1 v55 s.2).bind fun p56 =>
  j_X1_layWays_59_31 a0 a1 a2 s.1 p56
def f_X1_layWays (a0 : Int) (a1 : Int) (a2 : Int) (mem0 : rt_M) : Option (rt_M) :=
  (rt_it (b_X1_layWays_2 a0 a1 a2) 4000 ((0, mem0))).bind fun X2 =>
  (rt_it (b_X1_layWays_31 a0 a1 a2) 4000 ((0, X2))).bind fun X31 =>
  some X31
def j_X1_waysWithout_25_4 (a0 : Int) (a1 : Int) (a2 : Int) (a3 : Int) (mem0 : rt_M) : Option ((Int × Int) ⊕ (Int)) :=
  some (.inl (a2, (rt_iadd a3 1)))
def b_X1_waysWithout_4 (a0 : Int) (a1 : Int) (mem0 : rt_M) (s : Int × Int) : Option ((Int × Int) ⊕ (Int)) :=
  if 64 ≤ s.2 then
  some (.inr s.1)
  else
  if (rt_iand s.2 a1) = 0 then
  (rt_gf 1 3 a0 mem0).bind fun v18 =>
  (rt_al 1 v18 s.2 mem0).bind fun v22 =>
  j_X1_waysWithout_25_4 a0 a1 ((rt_iadd s.1 v22)) s.2 mem0
  else
  j_X1_waysWithout_25_4 a0 a1 s.1 s.2 mem0
def f_X1_waysWithout (a0 : Int) (a1 : Int) (mem0 : rt_M) : Option (Int) :=
  (rt_it (b_X1_waysWithout_4 a0 a1 mem0) 4000 ((0, 0))).bind fun X4 =>
  some X4
def j_X1_allWays_32_4 (a0 : Int) (a1 : Int) (a2 : Int) (a3 : Int) (mem0 : rt_M) : Option ((Int × Int) ⊕ (Int)) :=
  some (.inl (a2, (rt_iadd a3 1)))
def b_X1_allWays_4 (a0 : Int) (a1 : Int) (mem0 : rt_M) (s : Int × Int) : Option ((Int × Int) ⊕ (Int)) :=
  (rt_gf 1 1 a0 mem0).bind fun v6 =>
  if v6 ≤ s.2 then
  some (.inr s.1)
  else
  (f_X1_tiltOf a0 a1 s.2 mem0).bind fun p15 =>
  if p15 = (-1) then
  j_X1_allWays_32_4 a0 a1 s.1 s.2 mem0
  else
  (f_X1_waysWithout a0 ((rt_ishl 1 s.2)) mem0).bind fun p27 =>
  j_X1_allWays_32_4 a0 a1 ((rt_iadd s.1 p27)) s.2 mem0
def f_X1_allWays (a0 : Int) (a1 : Int) (mem0 : rt_M) : Option (Int) :=
  (rt_it (b_X1_allWays_4 a0 a1 mem0) 4000 ((0, 0))).bind fun X4 =>
  some X4
def b_X1_greatestLikeWays_2 (a0 : Int) (a1 : Int) (s : Int × rt_M) : Option ((Int × rt_M) ⊕ (rt_M)) :=
  (rt_gf 1 4 a0 s.2).bind fun v4 =>
  (rt_len 1 v4).bind fun v7 =>
  if v7 ≤ s.1 then
  some (.inr s.2)
  else
  (rt_gf 1 4 a0 s.2).bind fun v12 =>
  (rt_sa 1 v12 s.1 0 s.2).bind fun m17 =>
  some (.inl ((rt_iadd s.1 1), m17))
def j_X1_greatestLikeWays_88_28 (a0 : Int) (a1 : Int) (a2 : Int) (a3 : Int) (mem0 : rt_M) : Option ((Int × Int × rt_M) ⊕ (Int × rt_M)) :=
  some (.inl (a2, (rt_iadd a3 1), mem0))
def b_X1_greatestLikeWays_28 (a0 : Int) (a1 : Int) (s : Int × Int × rt_M) : Option ((Int × Int × rt_M) ⊕ (Int × rt_M)) :=
  (rt_gf 1 1 a0 s.2.2).bind fun v30 =>
  if v30 ≤ s.2.1 then
  some (.inr (s.1, s.2.2))
  else
  (f_X1_tiltOf a0 a1 s.2.1 s.2.2).bind fun p39 =>
  if p39 < 0 then
  j_X1_greatestLikeWays_88_28 a0 a1 s.1 s.2.1 s.2.2
  else
  (rt_gf 1 4 a0 s.2.2).bind fun v52 =>
  (rt_len 1 v52).bind fun v55 =>
  if v55 ≤ p39 then
  j_X1_greatestLikeWays_88_28 a0 a1 s.1 s.2.1 s.2.2
  else
  (rt_gf 1 4 a0 s.2.2).bind fun v60 =>
  (rt_al 1 v60 p39 s.2.2).bind fun v66 =>
  (f_X1_waysWithout a0 ((rt_ishl 1 s.2.1)) s.2.2).bind fun p71 =>
  (rt_sa 1 v60 p39 ((rt_iadd v66 p71)) s.2.2).bind fun m75 =>
  (rt_gf 1 4 a0 m75).bind fun v78 =>
  (rt_al 1 v78 p39 m75).bind fun v83 =>
  (f_J9_max_7cf53 s.1 v83 m75).bind fun p84 =>
  j_X1_greatestLikeWays_88_28 a0 a1 p84 s.2.1 m75
def f_X1_greatestLikeWays (a0 : Int) (a1 : Int) (mem0 : rt_M) : Option (Int × rt_M) :=
  (rt_it (b_X1_greatestLikeWays_2 a0 a1) 4000 ((0, mem0))).bind fun X2 =>
  (rt_it (b_X1_greatestLikeWays_28 a0 a1) 4000 ((0, 0, X2))).bind fun X28 =>
  some (X28.1, X28.2)
def b_X1_wigKeeping_2 (a0 : Int) (a1 : Int) (mem0 : rt_M) (s : Int) : Option ((Int) ⊕ ((Unit) ⊕ (Int))) :=
  (rt_gf 1 0 a0 mem0).bind fun v4 =>
  if v4 ≤ s then
  some (.inr (.inl ()))
  else
  (rt_gf 1 5 a0 mem0).bind fun v11 =>
  (rt_al 1 v11 s mem0).bind fun v15 =>
  if v15 = a1 then
  Option.map (fun t => .inr (.inr t)) (some s)
  else
  some (.inl (rt_iadd s 1))
def f_X1_wigKeeping (a0 : Int) (a1 : Int) (mem0 : rt_M) : Option (Int) :=
  (rt_it (b_X1_wigKeeping_2 a0 a1 mem0) 4000 0).bind fun E2 => match E2 with
  | .inr t => some t
  | .inl X2 =>
  some ((-1))
def f_X4_officeOf (a0 : Int) (a1 : Int) (mem0 : rt_M) : Option (Int) :=
  (f_X4_ofWig a0 a1 1 mem0).bind fun p3 =>
  some p3
def j_X1_askNext_63_5 (a0 : Int) (a1 : Int) (a2 : Int) (a3 : Int) (a4 : Int) (mem0 : rt_M) : Option ((Int × Int × rt_M) ⊕ (Int × rt_M)) :=
  some (.inl (a3, (rt_iadd a4 1), mem0))
def j_X1_askNext_60_5 (a0 : Int) (a1 : Int) (a2 : Int) (a4 : Int) (mem0 : rt_M) : Option ((Int × Int × rt_M) ⊕ (Int × rt_M)) :=
  j_X1_askNext_63_5 a0 a1 a2 a4 a4 mem0
def b_X1_askNext_5 (a0 : Int) (a1 : Int) (a2 : Int) (s : Int × Int × rt_M) : Option ((Int × Int × rt_M) ⊕ (Int × rt_M)) :=
  (rt_gf 1 0 a0 s.2.2).bind fun v8 =>
  if v8 ≤ s.2.1 then
  some (.inr (s.1, s.2.2))
  else
  (rt_gf 1 6 a0 s.2.2).bind fun v15 =>
  (rt_al 1 v15 a2 s.2.2).bind fun v19 =>
  if (rt_iand (rt_ishr v19 s.2.1) 1) = 0 then
  (rt_gf 1 2 a0 s.2.2).bind fun v29 =>
  (rt_al 6 v29 s.2.1 s.2.2).bind fun v34 =>
  (rt_al 1 v34 a2 s.2.2).bind fun v36 =>
  if v36 = (-1) then
  j_X1_askNext_63_5 a0 a1 a2 s.1 s.2.1 s.2.2
  else
  if s.1 = (-1) then
  j_X1_askNext_60_5 a0 a1 a2 s.2.1 s.2.2
  else
  (rt_gd 4 a1 (f_X4_officeOf a1 s.2.1 s.2.2)).bind fun p49 =>
  (rt_gd 4 a1 (f_X4_officeOf a1 s.1 s.2.2)).bind fun p54 =>
  if p49 ≤ p54 then
  j_X1_askNext_63_5 a0 a1 a2 s.1 s.2.1 s.2.2
  else
  j_X1_askNext_60_5 a0 a1 a2 s.2.1 s.2.2
  else
  j_X1_askNext_63_5 a0 a1 a2 s.1 s.2.1 s.2.2
def j_X1_askNext_154 (mem0 : rt_M) : Option (rt_M) :=
  some mem0
def j_X1_askNext_147 (a0 : Int) (a2 : Int) (a3 : Int) (mem0 : rt_M) : Option (rt_M) :=
  (rt_gf 1 5 a0 mem0).bind fun v148 =>
  (rt_sa 1 v148 a3 a2 mem0).bind fun m153 =>
  j_X1_askNext_154 m153
def f_X1_askNext (a0 : Int) (a1 : Int) (a2 : Int) (mem0 : rt_M) : Option (rt_M) :=
  (rt_it (b_X1_askNext_5 a0 a1 a2) 4000 (((-1), 0, mem0))).bind fun X5 =>
  if X5.1 = (-1) then
  some X5.2
  else
  (rt_gf 1 6 a0 X5.2).bind fun v76 =>
  (rt_al 1 v76 a2 X5.2).bind fun v81 =>
  (rt_sa 1 v76 a2 ((rt_ior v81 (rt_ishl 1 X5.1))) X5.2).bind fun m86 =>
  (rt_gf 1 5 a0 m86).bind fun v88 =>
  (rt_al 1 v88 X5.1 m86).bind fun v92 =>
  if v92 = (-1) then
  j_X1_askNext_147 a0 a2 X5.1 m86
  else
  (rt_gf 1 2 a0 m86).bind fun v102 =>
  (rt_al 6 v102 X5.1 m86).bind fun v106 =>
  (rt_al 1 v106 a2 m86).bind fun v108 =>
  (rt_gf 1 2 a0 m86).bind fun v110 =>
  (rt_al 6 v110 X5.1 m86).bind fun v114 =>
  (rt_al 1 v114 v92 m86).bind fun v117 =>
  if v108 < v117 then
  j_X1_askNext_147 a0 a2 X5.1 m86
  else
  (rt_gf 1 2 a0 m86).bind fun v122 =>
  (rt_al 6 v122 X5.1 m86).bind fun v126 =>
  (rt_al 1 v126 a2 m86).bind fun v128 =>
  (rt_gf 1 2 a0 m86).bind fun v130 =>
  (rt_al 6 v130 X5.1 m86).bind fun v134 =>
  (rt_al 1 v134 v92 m86).bind fun v137 =>
  if v128 = v137 then
  if v92 ≤ a2 then
  j_X1_askNext_154 m86
  else
  j_X1_askNext_147 a0 a2 X5.1 m86
  else
  j_X1_askNext_154 m86
def b_X1_matched_3 (a0 : Int) (a1 : Int) (a2 : Int) (a3 : Int) (s : Int × rt_M) : Option ((Int × rt_M) ⊕ (rt_M)) :=
  if 6 ≤ s.1 then
  some (.inr s.2)
  else
  (rt_gf 1 5 a0 s.2).bind fun v11 =>
  (rt_sa 1 v11 s.1 ((-1)) s.2).bind fun m17 =>
  (rt_gf 1 6 a0 m17).bind fun v19 =>
  (rt_sa 1 v19 s.1 a2 m17).bind fun m25 =>
  some (.inl ((rt_iadd s.1 1), m25))
def j_X1_matched_71_45 (a0 : Int) (a1 : Int) (a3 : Int) (a4 : Int) (a5 : Int) (mem0 : rt_M) : Option ((Int × rt_M) ⊕ (rt_M)) :=
  some (.inl ((rt_iadd a5 1), mem0))
def b_X1_matched_45 (a0 : Int) (a1 : Int) (a3 : Int) (a4 : Int) (s : Int × rt_M) : Option ((Int × rt_M) ⊕ (rt_M)) :=
  (rt_gf 1 1 a0 s.2).bind fun v48 =>
  if v48 ≤ s.1 then
  some (.inr s.2)
  else
  (f_X1_wigKeeping a0 s.1 s.2).bind fun p57 =>
  if p57 = (-1) then
  (f_X1_askNext a0 a1 s.1 s.2).bind fun p68 =>
  j_X1_matched_71_45 a0 a1 a3 a4 s.1 p68
  else
  j_X1_matched_71_45 a0 a1 a3 a4 s.1 s.2
def b_X1_matched_35 (a0 : Int) (a1 : Int) (a3 : Int) (s : Int × rt_M) : Option ((Int × rt_M) ⊕ (rt_M)) :=
  if 36 ≤ s.1 then
  some (.inr s.2)
  else
  (rt_it (b_X1_matched_45 a0 a1 a3 s.1) 4000 ((0, s.2))).bind fun X45 =>
  some (.inl ((rt_iadd s.1 1), X45))
def f_X1_matched (a0 : Int) (a1 : Int) (a2 : Int) (a3 : Int) (mem0 : rt_M) : Option (Int × rt_M) :=
  (rt_it (b_X1_matched_3 a0 a1 a2 a3) 4000 ((0, mem0))).bind fun X3 =>
  (rt_it (b_X1_matched_35 a0 a1 a3) 4000 ((0, X3))).bind fun X35 =>
  (f_X1_wigKeeping a0 a3 X35).bind fun p85 =>
  some (p85, X35)
def f_X2_clear (a0 : Int) (mem0 : rt_M) : Option (rt_M) :=
  (rt_pf 2 5 a0 0 mem0).bind fun m2 =>
  (rt_pf 2 6 a0 0 m2).bind fun m7 =>
  some m7
def j_X2_add_32 (mem0 : rt_M) : Option (rt_M) :=
  some mem0
def f_X2_add (a0 : Int) (a1 : Int) (mem0 : rt_M) : Option (rt_M) :=
  (rt_gf 2 5 a0 mem0).bind fun v1 =>
  (rt_gf 2 3 a0 mem0).bind fun v5 =>
  (rt_len 1 v5).bind fun v8 =>
  if v8 ≤ v1 then
  j_X2_add_32 mem0
  else
  (rt_gf 2 3 a0 mem0).bind fun v13 =>
  (rt_gf 2 5 a0 mem0).bind fun v17 =>
  (rt_sa 1 v13 v17 a1 mem0).bind fun m21 =>
  (rt_gf 2 5 a0 m21).bind fun v24 =>
  (rt_pf 2 5 a0 ((rt_iadd v24 1)) m21).bind fun m29 =>
  j_X2_add_32 m29
def j_X2_factOf_39 (s0 : Int) (mem0 : rt_M) : Option (Int) :=
  some s0
def f_X2_factOf (a0 : Int) (a1 : Int) (mem0 : rt_M) : Option (Int) :=
  (rt_gf 2 0 a0 mem0).bind fun v2 =>
  if a1 = v2 then
  j_X2_factOf_39 ((-1)) mem0
  else
  (rt_gf 2 1 a0 mem0).bind fun v14 =>
  if a1 = v14 then
  j_X2_factOf_39 ((-2)) mem0
  else
  (rt_gf 2 2 a0 mem0).bind fun v27 =>
  if a1 = v27 then
  j_X2_factOf_39 ((-3)) mem0
  else
  j_X2_factOf_39 0 mem0
def j_X8_isLetter_17 (s0 : Int) (mem0 : rt_M) : Option (Int) :=
  (rt_bz s0).bind fun _ => some s0
def j_X8_isLetter_16 (mem0 : rt_M) : Option (Int) :=
  j_X8_isLetter_17 0 mem0
def f_X8_isLetter (a0 : Int) (mem0 : rt_M) : Option (Int) :=
  if a0 < 97 then
  j_X8_isLetter_16 mem0
  else
  if 122 < a0 then
  j_X8_isLetter_16 mem0
  else
  j_X8_isLetter_17 1 mem0
def j_X8_isDigit_17 (s0 : Int) (mem0 : rt_M) : Option (Int) :=
  (rt_bz s0).bind fun _ => some s0
def j_X8_isDigit_16 (mem0 : rt_M) : Option (Int) :=
  j_X8_isDigit_17 0 mem0
def f_X8_isDigit (a0 : Int) (mem0 : rt_M) : Option (Int) :=
  if a0 < 48 then
  j_X8_isDigit_16 mem0
  else
  if 57 < a0 then
  j_X8_isDigit_16 mem0
  else
  j_X8_isDigit_17 1 mem0
def j_X8_endOf_80 (a2 : Int) (mem0 : rt_M) : Option (Int) :=
  some a2
def b_X8_endOf_54 (a0 : Int) (mem0 : rt_M) (s : Int) : Option ((Int) ⊕ (Int)) :=
  (rt_gf 8 1 a0 mem0).bind fun v56 =>
  if v56 ≤ s then
  some (.inr s)
  else
  (rt_gf 8 0 a0 mem0).bind fun v63 =>
  (rt_al 4 v63 s mem0).bind fun v67 =>
  (f_X8_isDigit v67 mem0).bind fun p68 =>
  if p68 = 0 then
  some (.inr s)
  else
  some (.inl (rt_iadd s 1))
def b_X8_endOf_16 (a0 : Int) (mem0 : rt_M) (s : Int) : Option ((Int) ⊕ (Int)) :=
  (rt_gf 8 1 a0 mem0).bind fun v18 =>
  if v18 ≤ s then
  some (.inr s)
  else
  (rt_gf 8 0 a0 mem0).bind fun v25 =>
  (rt_al 4 v25 s mem0).bind fun v29 =>
  (f_X8_isLetter v29 mem0).bind fun p30 =>
  if p30 = 0 then
  some (.inr s)
  else
  some (.inl (rt_iadd s 1))
def f_X8_endOf (a0 : Int) (a1 : Int) (mem0 : rt_M) : Option (Int) :=
  (rt_gf 8 0 a0 mem0).bind fun v5 =>
  (rt_al 4 v5 a1 mem0).bind fun v9 =>
  (f_X8_isLetter v9 mem0).bind fun p10 =>
  if p10 = 0 then
  (rt_gf 8 0 a0 mem0).bind fun v43 =>
  (rt_al 4 v43 a1 mem0).bind fun v47 =>
  (f_X8_isDigit v47 mem0).bind fun p48 =>
  if p48 = 0 then
  j_X8_endOf_80 ((rt_iadd a1 1)) mem0
  else
  (rt_it (b_X8_endOf_54 a0 mem0) 4000 ((rt_iadd a1 1))).bind fun X54 =>
  j_X8_endOf_80 X54 mem0
  else
  (rt_it (b_X8_endOf_16 a0 mem0) 4000 ((rt_iadd a1 1))).bind fun X16 =>
  j_X8_endOf_80 X16 mem0
def j_X8_addToken__52 (mem0 : rt_M) : Option (rt_M) :=
  some mem0
def f_X8_addToken_ (a0 : Int) (a1 : Int) (a2 : Int) (a3 : Int) (mem0 : rt_M) : Option (rt_M) :=
  (rt_gf 8 5 a0 mem0).bind fun v1 =>
  (rt_gf 8 2 a0 mem0).bind fun v5 =>
  (rt_len 5 v5).bind fun v8 =>
  if v8 ≤ v1 then
  j_X8_addToken__52 mem0
  else
  (rt_gf 8 2 a0 mem0).bind fun v13 =>
  (rt_gf 8 5 a0 mem0).bind fun v17 =>
  (rt_saw v13 v17 a1 mem0).bind fun m21 =>
  (rt_gf 8 3 a0 m21).bind fun v23 =>
  (rt_gf 8 5 a0 m21).bind fun v27 =>
  (rt_sa 1 v23 v27 a2 m21).bind fun m31 =>
  (rt_gf 8 4 a0 m31).bind fun v33 =>
  (rt_gf 8 5 a0 m31).bind fun v37 =>
  (rt_sa 2 v33 v37 a3 m31).bind fun m41 =>
  (rt_gf 8 5 a0 m41).bind fun v44 =>
  (rt_pf 8 5 a0 ((rt_iadd v44 1)) m41).bind fun m49 =>
  j_X8_addToken__52 m49
def j_X9_spelled_35_2 (a0 : Int) (a2 : Int) (a3 : Int) (mem0 : rt_M) : Option ((Int) ⊕ ((Unit) ⊕ (Int))) :=
  some (.inl (rt_iadd a3 1))
def b_X9_spelled_2 (a0 : Int) (a2 : Int) (mem0 : rt_M) (s : Int) : Option ((Int) ⊕ ((Unit) ⊕ (Int))) :=
  if 39 ≤ s then
  some (.inr (.inl ()))
  else
  (rt_alw 39 s).bind fun v14 =>
  (rt_gwp v14).bind fun v15 =>
  if (rt_lcmp v15 a0) = 0 then
  if (rt_lcmp a0 0) = 0 then
  j_X9_spelled_35_2 a0 a2 s mem0
  else
  Option.map (fun t => .inr (.inr t)) ((rt_alw 39 s).bind fun v33 =>
  some v33)
  else
  j_X9_spelled_35_2 a0 a2 s mem0
def f_X9_spelled (a0 : Int) (a2 : Int) (mem0 : rt_M) : Option (Int) :=
  (rt_it (b_X9_spelled_2 a0 a2 mem0) 4000 0).bind fun E2 => match E2 with
  | .inr t => some t
  | .inl X2 =>
  some a2
def j_X8_addToken_87_42 (a0 : Int) (a1 : Int) (a2 : Int) (a3 : Int) (a6 : Int) (s0 : Int) (mem0 : rt_M) : Option ((Int × Int × rt_M) ⊕ (Int × rt_M)) :=
  some (.inl (s0, (rt_iadd a6 1), mem0))
def b_X8_addToken_42 (a0 : Int) (a1 : Int) (a2 : Int) (a3 : Int) (s : Int × Int × rt_M) : Option ((Int × Int × rt_M) ⊕ (Int × rt_M)) :=
  if a2 ≤ s.2.1 then
  some (.inr (s.1, s.2.2))
  else
  if a3 = 0 then
  (rt_gf 8 0 a0 s.2.2).bind fun v79 =>
  (rt_al 4 v79 s.2.1 s.2.2).bind fun v84 =>
  j_X8_addToken_87_42 a0 a1 a2 a3 s.2.1 ((rt_lor (rt_lshl s.1 7) v84)) s.2.2
  else
  (rt_gf 8 0 a0 s.2.2).bind fun v59 =>
  (rt_al 4 v59 s.2.1 s.2.2).bind fun v64 =>
  j_X8_addToken_87_42 a0 a1 a2 a3 s.2.1 ((rt_ladd (rt_lmul s.1 10) (rt_isub v64 48))) s.2.2
def j_X8_addToken_136 (a1 : Int) (a4 : Int) (s0 : Int) (s1 : Int) (mem0 : rt_M) : Option (rt_M) :=
  (rt_gd 8 s0 (f_X8_addToken_ s0 s1 a1 a4 mem0)).bind fun p139 =>
  some p139
def j_X8_addToken_116 (a0 : Int) (a1 : Int) (a3 : Int) (a4 : Int) (s0 : Int) (mem0 : rt_M) : Option (rt_M) :=
  if a3 = 0 then
  (f_X9_spelled a4 s0 mem0).bind fun p133 =>
  j_X8_addToken_136 a1 a4 a0 p133 mem0
  else
  j_X8_addToken_136 a1 a4 a0 36 mem0
def j_X8_addToken_23 (a0 : Int) (a1 : Int) (a2 : Int) (a3 : Int) (s0 : Int) (s1 : Int) (mem0 : rt_M) : Option (rt_M) :=
  if s0 ≤ s1 then
  (rt_it (b_X8_addToken_42 a0 a1 a2 a3) 4000 ((0, a1, mem0))).bind fun X42 =>
  (rt_gf 8 0 a0 X42.2).bind fun v96 =>
  (rt_al 4 v96 a1 X42.2).bind fun v100 =>
  (f_X8_isLetter v100 X42.2).bind fun p101 =>
  if p101 = 0 then
  j_X8_addToken_116 a0 a1 a3 X42.1 38 X42.2
  else
  j_X8_addToken_116 a0 a1 a3 X42.1 35 X42.2
  else
  (f_X8_addToken_ a0 38 a1 0 mem0).bind fun p32 =>
  some p32
def f_X8_addToken (a0 : Int) (a1 : Int) (a2 : Int) (mem0 : rt_M) : Option (rt_M) :=
  (rt_gf 8 0 a0 mem0).bind fun v1 =>
  (rt_al 4 v1 a1 mem0).bind fun v5 =>
  (f_X8_isDigit v5 mem0).bind fun p6 =>
  if p6 = 0 then
  j_X8_addToken_23 a0 a1 a2 p6 ((rt_isub a2 a1)) 8 mem0
  else
  j_X8_addToken_23 a0 a1 a2 p6 ((rt_isub a2 a1)) 4 mem0
def j_X8_split_58_9 (a0 : Int) (a2 : Int) (a3 : Int) (mem0 : rt_M) : Option ((Int × Int × rt_M) ⊕ (rt_M)) :=
  some (.inl (a3, (rt_iadd a2 1), mem0))
def b_X8_split_9 (a0 : Int) (s : Int × Int × rt_M) : Option ((Int × Int × rt_M) ⊕ (rt_M)) :=
  if 1000 ≤ s.2.1 then
  some (.inr s.2.2)
  else
  (rt_gf 8 1 a0 s.2.2).bind fun v18 =>
  if v18 ≤ s.1 then
  some (.inr s.2.2)
  else
  (f_X8_endOf a0 s.1 s.2.2).bind fun p26 =>
  (rt_gf 8 0 a0 s.2.2).bind fun v31 =>
  (rt_al 4 v31 s.1 s.2.2).bind fun v35 =>
  if v35 = 10 then
  j_X8_split_58_9 a0 s.2.1 p26 s.2.2
  else
  (rt_gf 8 0 a0 s.2.2).bind fun v42 =>
  (rt_al 4 v42 s.1 s.2.2).bind fun v46 =>
  if v46 = 32 then
  j_X8_split_58_9 a0 s.2.1 p26 s.2.2
  else
  (f_X8_addToken a0 s.1 p26 s.2.2).bind fun p55 =>
  j_X8_split_58_9 a0 s.2.1 p26 p55
def f_X8_split (a0 : Int) (mem0 : rt_M) : Option (rt_M) :=
  (rt_pf 8 5 a0 0 mem0).bind fun m2 =>
  (rt_it (b_X8_split_9 a0) 4000 ((0, 0, m2))).bind fun X9 =>
  (rt_gf 8 1 a0 X9).bind fun v71 =>
  (f_X8_addToken_ a0 37 v71 0 X9).bind fun p75 =>
  some p75
def f_X3_start (a0 : Int) (mem0 : rt_M) : Option (rt_M) :=
  (rt_gf 3 0 a0 mem0).bind fun v1 =>
  (rt_gd 8 v1 (f_X8_split v1 mem0)).bind fun p4 =>
  (rt_pf 3 1 a0 0 p4).bind fun m9 =>
  (rt_pf 3 2 a0 0 m9).bind fun m14 =>
  some m14
def f_X4_clear (a0 : Int) (mem0 : rt_M) : Option (rt_M) :=
  (rt_pf 4 0 a0 0 mem0).bind fun m2 =>
  (rt_pf 4 1 a0 0 m2).bind fun m7 =>
  (rt_pf 4 7 a0 0 m7).bind fun m12 =>
  (rt_pf 4 8 a0 1 m12).bind fun m17 =>
  (rt_pf 4 9 a0 0 m17).bind fun m22 =>
  (rt_gf 4 10 a0 m22).bind fun v26 =>
  (rt_gd 2 v26 (f_X2_clear v26 m22)).bind fun p29 =>
  (rt_gf 4 11 a0 p29).bind fun v33 =>
  (rt_gd 2 v33 (f_X2_clear v33 p29)).bind fun p36 =>
  some p36
def j_X3_kind_32 (s0 : Int) (mem0 : rt_M) : Option (Int) :=
  some s0
def f_X3_kind (a0 : Int) (mem0 : rt_M) : Option (Int) :=
  (rt_gf 3 1 a0 mem0).bind fun v1 =>
  (rt_gf 3 0 a0 mem0).bind fun v5 =>
  (rt_gf 8 5 v5 mem0).bind fun v8 =>
  if v8 ≤ v1 then
  j_X3_kind_32 37 mem0
  else
  (rt_gf 3 0 a0 mem0).bind fun v15 =>
  (rt_gf 8 2 v15 mem0).bind fun v18 =>
  (rt_gf 3 1 a0 mem0).bind fun v22 =>
  (rt_al 5 v18 v22 mem0).bind fun v25 =>
  j_X3_kind_32 v25 mem0
def j_X3_fail_30 (a0 : Int) (a1 : Int) (s0 : Int) (mem0 : rt_M) : Option (Int × rt_M) :=
  (rt_pf 3 2 a0 ((rt_iadd a1 (rt_imul 16 s0))) mem0).bind fun m38 =>
  some (0, m38)
def f_X3_fail (a0 : Int) (a1 : Int) (mem0 : rt_M) : Option (Int × rt_M) :=
  (rt_gf 3 1 a0 mem0).bind fun v1 =>
  (rt_gf 3 0 a0 mem0).bind fun v5 =>
  (rt_gf 8 5 v5 mem0).bind fun v8 =>
  if v8 ≤ v1 then
  j_X3_fail_30 a0 a1 0 mem0
  else
  (rt_gf 3 0 a0 mem0).bind fun v15 =>
  (rt_gf 8 3 v15 mem0).bind fun v18 =>
  (rt_gf 3 1 a0 mem0).bind fun v22 =>
  (rt_al 1 v18 v22 mem0).bind fun v25 =>
  j_X3_fail_30 a0 a1 v25 mem0
def j_X3_value_30 (s0 : Int) (mem0 : rt_M) : Option (Int) :=
  some s0
def f_X3_value (a0 : Int) (mem0 : rt_M) : Option (Int) :=
  (rt_gf 3 1 a0 mem0).bind fun v1 =>
  (rt_gf 3 0 a0 mem0).bind fun v5 =>
  (rt_gf 8 5 v5 mem0).bind fun v8 =>
  if v8 ≤ v1 then
  j_X3_value_30 0 mem0
  else
  (rt_gf 3 0 a0 mem0).bind fun v15 =>
  (rt_gf 8 4 v15 mem0).bind fun v18 =>
  (rt_gf 3 1 a0 mem0).bind fun v22 =>
  (rt_al 2 v18 v22 mem0).bind fun v25 =>
  j_X3_value_30 v25 mem0
def b_X4_placeOf_3 (a0 : Int) (a2 : Int) (a3 : Int) (mem0 : rt_M) (s : Int) : Option ((Int) ⊕ ((Unit) ⊕ (Int))) :=
  if a3 ≤ s then
  some (.inr (.inl ()))
  else
  (rt_len 2 a2).bind fun v12 =>
  if v12 ≤ s then
  some (.inr (.inl ()))
  else
  (rt_al 2 a2 s mem0).bind fun v19 =>
  if (rt_lcmp v19 a0) = 0 then
  Option.map (fun t => .inr (.inr t)) (some s)
  else
  some (.inl (rt_iadd s 1))
def f_X4_placeOf (a0 : Int) (a2 : Int) (a3 : Int) (mem0 : rt_M) : Option (Int) :=
  (rt_it (b_X4_placeOf_3 a0 a2 a3 mem0) 4000 0).bind fun E3 => match E3 with
  | .inr t => some t
  | .inl X3 =>
  some ((-1))
def f_X4_wigNamed (a0 : Int) (a1 : Int) (mem0 : rt_M) : Option (Int) :=
  (rt_gf 4 2 a0 mem0).bind fun v2 =>
  (rt_gf 4 0 a0 mem0).bind fun v6 =>
  (f_X4_placeOf a1 v2 v6 mem0).bind fun p9 =>
  some p9
def f_X4_headNamed (a0 : Int) (a1 : Int) (mem0 : rt_M) : Option (Int) :=
  (rt_gf 4 3 a0 mem0).bind fun v2 =>
  (rt_gf 4 1 a0 mem0).bind fun v6 =>
  (f_X4_placeOf a1 v2 v6 mem0).bind fun p9 =>
  some p9
def j_X3_newName_40 (a0 : Int) (mem0 : rt_M) : Option (Int × rt_M) :=
  (f_X3_fail a0 3 mem0).bind fun p42 =>
  (rt_bz p42.1).bind fun _ => some (p42.1, p42.2)
def f_X3_newName (a0 : Int) (a1 : Int) (mem0 : rt_M) : Option (Int × rt_M) :=
  (f_X3_kind a0 mem0).bind fun p1 =>
  (rt_gwc p1).bind fun v4 =>
  if v4 = 0 then
  (f_X3_fail a0 1 mem0).bind fun p12 =>
  (rt_bz p12.1).bind fun _ => some (p12.1, p12.2)
  else
  (f_X3_value a0 mem0).bind fun p18 =>
  (rt_gd 4 a1 (f_X4_wigNamed a1 p18 mem0)).bind fun p21 =>
  if p21 = (-1) then
  (f_X3_value a0 mem0).bind fun p30 =>
  (rt_gd 4 a1 (f_X4_headNamed a1 p30 mem0)).bind fun p33 =>
  if p33 = (-1) then
  (rt_gf 3 1 a0 mem0).bind fun v48 =>
  (rt_pf 3 1 a0 ((rt_iadd v48 1)) mem0).bind fun m53 =>
  some (1, m53)
  else
  j_X3_newName_40 a0 mem0
  else
  j_X3_newName_40 a0 mem0
def f_X3_take (a0 : Int) (a1 : Int) (mem0 : rt_M) : Option (Int × rt_M) :=
  (f_X3_kind a0 mem0).bind fun p1 =>
  if p1 = a1 then
  (rt_gf 3 1 a0 mem0).bind fun v16 =>
  (rt_pf 3 1 a0 ((rt_iadd v16 1)) mem0).bind fun m21 =>
  some (1, m21)
  else
  (f_X3_fail a0 1 mem0).bind fun p10 =>
  (rt_bz p10.1).bind fun _ => some (p10.1, p10.2)
def j_X3_isNumber_49 (s0 : Int) (mem0 : rt_M) : Option (Int × rt_M) :=
  (rt_bz s0).bind fun _ => some (s0, mem0)
def j_X3_isNumber_44 (mem0 : rt_M) : Option (Int × rt_M) :=
  j_X3_isNumber_49 1 mem0
def j_X3_isNumber_36 (a0 : Int) (mem0 : rt_M) : Option (Int × rt_M) :=
  (f_X3_fail a0 4 mem0).bind fun p38 =>
  if p38.1 = 0 then
  j_X3_isNumber_49 0 p38.2
  else
  j_X3_isNumber_44 p38.2
def f_X3_isNumber (a0 : Int) (a1 : Int) (a2 : Int) (mem0 : rt_M) : Option (Int × rt_M) :=
  (f_X3_kind a0 mem0).bind fun p1 =>
  if p1 = 36 then
  (f_X3_value a0 mem0).bind fun p17 =>
  if (rt_lcmp p17 a1) < 0 then
  j_X3_isNumber_36 a0 mem0
  else
  (f_X3_value a0 mem0).bind fun p27 =>
  if (rt_lcmp p27 a2) ≤ 0 then
  j_X3_isNumber_44 mem0
  else
  j_X3_isNumber_36 a0 mem0
  else
  (f_X3_fail a0 1 mem0).bind fun p12 =>
  (rt_bz p12.1).bind fun _ => some (p12.1, p12.2)
def j_X3_fact_17 (mem0 : rt_M) : Option (Int × rt_M) :=
  some (0, mem0)
def f_X3_fact (a0 : Int) (a1 : Int) (a2 : Int) (a3 : Int) (a4 : Int) (a5 : Int) (mem0 : rt_M) : Option (Int × rt_M) :=
  (f_X3_take a0 a1 mem0).bind fun p2 =>
  if p2.1 = 0 then
  j_X3_fact_17 p2.2
  else
  (f_X3_isNumber a0 a2 a3 p2.2).bind fun p11 =>
  if p11.1 = 0 then
  j_X3_fact_17 p11.2
  else
  (f_X3_value a0 p11.2).bind fun p24 =>
  (rt_sa 1 a4 a5 ((rt_l2i p24)) p11.2).bind fun m28 =>
  (rt_gf 3 1 a0 m28).bind fun v31 =>
  (rt_pf 3 1 a0 ((rt_iadd v31 1)) m28).bind fun m36 =>
  some (1, m36)
def j_X3_wigLine_133 (a6 : Int) (mem0 : rt_M) : Option (Int × rt_M) :=
  (rt_bz a6).bind fun _ => some (a6, mem0)
def j_X3_wigLine_112 (a1 : Int) (a2 : Int) (a3 : Int) (s0 : Int) (mem0 : rt_M) : Option (Int × rt_M) :=
  if s0 = 0 then
  j_X3_wigLine_133 s0 mem0
  else
  (rt_gf 4 2 a1 mem0).bind fun v120 =>
  (rt_sa 2 v120 a2 a3 mem0).bind fun m125 =>
  (rt_pf 4 0 a1 ((rt_iadd a2 1)) m125).bind fun m130 =>
  j_X3_wigLine_133 s0 m130
def j_X3_wigLine_111 (a1 : Int) (a2 : Int) (a3 : Int) (mem0 : rt_M) : Option (Int × rt_M) :=
  j_X3_wigLine_112 a1 a2 a3 0 mem0
def f_X3_wigLine (a0 : Int) (a1 : Int) (mem0 : rt_M) : Option (Int × rt_M) :=
  (rt_gf 4 0 a1 mem0).bind fun v1 =>
  if v1 < 6 then
  (rt_gf 3 1 a0 mem0).bind fun v19 =>
  (rt_pf 3 1 a0 ((rt_iadd v19 1)) mem0).bind fun m24 =>
  (f_X3_value a0 m24).bind fun p28 =>
  (rt_gf 4 4 a1 m24).bind fun v33 =>
  (rt_al 6 v33 v1 m24).bind fun v37 =>
  (f_X3_newName a0 a1 m24).bind fun p42 =>
  if p42.1 = 0 then
  j_X3_wigLine_111 a1 v1 p28 p42.2
  else
  (f_X3_fact a0 1 40 79 v37 0 p42.2).bind fun p59 =>
  if p59.1 = 0 then
  j_X3_wigLine_111 a1 v1 p28 p59.2
  else
  (f_X3_fact a0 2 0 99 v37 1 p59.2).bind fun p75 =>
  if p75.1 = 0 then
  j_X3_wigLine_111 a1 v1 p28 p75.2
  else
  (f_X3_fact a0 3 0 9 v37 2 p75.2).bind fun p91 =>
  if p91.1 = 0 then
  j_X3_wigLine_111 a1 v1 p28 p91.2
  else
  (f_X3_take a0 34 p91.2).bind fun p101 =>
  if p101.1 = 0 then
  j_X3_wigLine_111 a1 v1 p28 p101.2
  else
  j_X3_wigLine_112 a1 v1 p28 1 p101.2
  else
  (f_X3_fail a0 5 mem0).bind fun p13 =>
  (rt_bz p13.1).bind fun _ => some (p13.1, p13.2)
def j_X3_headKind_75 (a0 : Int) (s0 : Int) (s1 : Int) (s2 : Int) (mem0 : rt_M) : Option (Int × rt_M) :=
  (rt_sa 1 s0 s1 s2 mem0).bind fun m75 =>
  (rt_gf 3 1 a0 m75).bind fun v78 =>
  (rt_pf 3 1 a0 ((rt_iadd v78 1)) m75).bind fun m83 =>
  some (1, m83)
def j_X3_headKind_39 (a0 : Int) (a1 : Int) (a2 : Int) (mem0 : rt_M) : Option (Int × rt_M) :=
  if a2 = 15 then
  j_X3_headKind_75 a0 a1 0 1 mem0
  else
  if a2 = 16 then
  j_X3_headKind_75 a0 a1 0 2 mem0
  else
  if a2 = 17 then
  j_X3_headKind_75 a0 a1 0 3 mem0
  else
  j_X3_headKind_75 a0 a1 0 0 mem0
def f_X3_headKind (a0 : Int) (a1 : Int) (mem0 : rt_M) : Option (Int × rt_M) :=
  (f_X3_kind a0 mem0).bind fun p1 =>
  if p1 = 14 then
  j_X3_headKind_39 a0 a1 p1 mem0
  else
  if p1 = 15 then
  j_X3_headKind_39 a0 a1 p1 mem0
  else
  if p1 = 16 then
  j_X3_headKind_39 a0 a1 p1 mem0
  else
  if p1 = 17 then
  j_X3_headKind_39 a0 a1 p1 mem0
  else
  (f_X3_fail a0 1 mem0).bind fun p35 =>
  (rt_bz p35.1).bind fun _ => some (p35.1, p35.2)
def j_X3_headLine_142 (a6 : Int) (mem0 : rt_M) : Option (Int × rt_M) :=
  (rt_bz a6).bind fun _ => some (a6, mem0)
def j_X3_headLine_121 (a1 : Int) (a2 : Int) (a3 : Int) (s0 : Int) (mem0 : rt_M) : Option (Int × rt_M) :=
  if s0 = 0 then
  j_X3_headLine_142 s0 mem0
  else
  (rt_gf 4 3 a1 mem0).bind fun v129 =>
  (rt_sa 2 v129 a2 a3 mem0).bind fun m134 =>
  (rt_pf 4 1 a1 ((rt_iadd a2 1)) m134).bind fun m139 =>
  j_X3_headLine_142 s0 m139
def j_X3_headLine_120 (a1 : Int) (a2 : Int) (a3 : Int) (mem0 : rt_M) : Option (Int × rt_M) :=
  j_X3_headLine_121 a1 a2 a3 0 mem0
def f_X3_headLine (a0 : Int) (a1 : Int) (mem0 : rt_M) : Option (Int × rt_M) :=
  (rt_gf 4 1 a1 mem0).bind fun v1 =>
  if v1 < 6 then
  (rt_gf 3 1 a0 mem0).bind fun v19 =>
  (rt_pf 3 1 a0 ((rt_iadd v19 1)) mem0).bind fun m24 =>
  (f_X3_value a0 m24).bind fun p28 =>
  (rt_gf 4 5 a1 m24).bind fun v33 =>
  (rt_al 6 v33 v1 m24).bind fun v37 =>
  (f_X3_newName a0 a1 m24).bind fun p42 =>
  if p42.1 = 0 then
  j_X3_headLine_120 a1 v1 p28 p42.2
  else
  (f_X3_headKind a0 v37 p42.2).bind fun p51 =>
  if p51.1 = 0 then
  j_X3_headLine_120 a1 v1 p28 p51.2
  else
  (f_X3_fact a0 1 40 79 v37 1 p51.2).bind fun p68 =>
  if p68.1 = 0 then
  j_X3_headLine_120 a1 v1 p28 p68.2
  else
  (f_X3_fact a0 5 0 99 v37 2 p68.2).bind fun p84 =>
  if p84.1 = 0 then
  j_X3_headLine_120 a1 v1 p28 p84.2
  else
  (f_X3_fact a0 3 0 9 v37 3 p84.2).bind fun p100 =>
  if p100.1 = 0 then
  j_X3_headLine_120 a1 v1 p28 p100.2
  else
  (f_X3_take a0 34 p100.2).bind fun p110 =>
  if p110.1 = 0 then
  j_X3_headLine_120 a1 v1 p28 p110.2
  else
  j_X3_headLine_121 a1 v1 p28 1 p110.2
  else
  (f_X3_fail a0 5 mem0).bind fun p13 =>
  (rt_bz p13.1).bind fun _ => some (p13.1, p13.2)
def j_X3_heatsLine_45_25 (a0 : Int) (a1 : Int) (a2 : Int) (mem0 : rt_M) : Option ((Int × rt_M) ⊕ ((rt_M) ⊕ (Int × rt_M))) :=
  (f_X3_isNumber a0 0 9 mem0).bind fun p49 =>
  if p49.1 = 0 then
  Option.map (fun t => .inr (.inr t)) (some (0, p49.2))
  else
  (rt_gf 4 6 a1 p49.2).bind fun v58 =>
  (f_X3_value a0 p49.2).bind fun p63 =>
  (rt_sa 1 v58 a2 ((rt_l2i p63)) p49.2).bind fun m67 =>
  (rt_pf 4 7 a1 ((rt_iadd a2 1)) m67).bind fun m72 =>
  (rt_gf 3 1 a0 m72).bind fun v77 =>
  (rt_pf 3 1 a0 ((rt_iadd v77 1)) m72).bind fun m82 =>
  some (.inl ((rt_iadd a2 1), m82))
def b_X3_heatsLine_25 (a0 : Int) (a1 : Int) (s : Int × rt_M) : Option ((Int × rt_M) ⊕ ((rt_M) ⊕ (Int × rt_M))) :=
  if 12 ≤ s.1 then
  some (.inr (.inl s.2))
  else
  if s.1 = 0 then
  j_X3_heatsLine_45_25 a0 a1 s.1 s.2
  else
  (f_X3_kind a0 s.2).bind fun p36 =>
  if p36 = 36 then
  j_X3_heatsLine_45_25 a0 a1 s.1 s.2
  else
  some (.inr (.inl s.2))
def j_X3_heatsLine_124 (s0 : Int) (mem0 : rt_M) : Option (Int × rt_M) :=
  (rt_bz s0).bind fun _ => some (s0, mem0)
def j_X3_heatsLine_123 (mem0 : rt_M) : Option (Int × rt_M) :=
  j_X3_heatsLine_124 0 mem0
def f_X3_heatsLine (a0 : Int) (a1 : Int) (mem0 : rt_M) : Option (Int × rt_M) :=
  (rt_gf 4 7 a1 mem0).bind fun v1 =>
  if v1 ≤ 0 then
  (rt_gf 3 1 a0 mem0).bind fun v15 =>
  (rt_pf 3 1 a0 ((rt_iadd v15 1)) mem0).bind fun m20 =>
  (rt_it (b_X3_heatsLine_25 a0 a1) 4000 ((0, m20))).bind fun E25 => match E25 with
  | .inr t => some t
  | .inl X25 =>
  (f_X3_kind a0 X25).bind fun p92 =>
  if p92 = 36 then
  (f_X3_isNumber a0 0 9 X25).bind fun p105 =>
  if p105.1 = 0 then
  j_X3_heatsLine_123 p105.2
  else
  (f_X3_fail a0 5 p105.2).bind fun p113 =>
  if p113.1 = 0 then
  j_X3_heatsLine_123 p113.2
  else
  j_X3_heatsLine_124 1 p113.2
  else
  (f_X3_take a0 34 X25).bind fun p129 =>
  (rt_bz p129.1).bind fun _ => some (p129.1, p129.2)
  else
  (f_X3_fail a0 3 mem0).bind fun p9 =>
  (rt_bz p9.1).bind fun _ => some (p9.1, p9.2)
def f_X3_slackLine (a0 : Int) (a1 : Int) (mem0 : rt_M) : Option (Int × rt_M) :=
  (rt_gf 4 9 a1 mem0).bind fun v1 =>
  if v1 = 0 then
  (rt_gf 3 1 a0 mem0).bind fun v15 =>
  (rt_pf 3 1 a0 ((rt_iadd v15 1)) mem0).bind fun m20 =>
  (f_X3_isNumber a0 0 9 m20).bind fun p27 =>
  if p27.1 = 0 then
  some (0, p27.2)
  else
  (f_X3_value a0 p27.2).bind fun p37 =>
  (rt_pf 4 8 a1 ((rt_l2i p37)) p27.2).bind fun m41 =>
  (rt_pf 4 9 a1 1 m41).bind fun m46 =>
  (rt_gf 3 1 a0 m46).bind fun v51 =>
  (rt_pf 3 1 a0 ((rt_iadd v51 1)) m46).bind fun m56 =>
  (f_X3_take a0 34 m56).bind fun p63 =>
  (rt_bz p63.1).bind fun _ => some (p63.1, p63.2)
  else
  (f_X3_fail a0 3 mem0).bind fun p9 =>
  (rt_bz p9.1).bind fun _ => some (p9.1, p9.2)
def j_X3_jointOf_79 (s0 : Int) (mem0 : rt_M) : Option (Int) :=
  some s0
def j_X3_jointOf_65 (s0 : Int) (mem0 : rt_M) : Option (Int) :=
  some s0
def j_X3_jointOf_34 (s0 : Int) (mem0 : rt_M) : Option (Int) :=
  some s0
def f_X3_jointOf (a0 : Int) (a1 : Int) (mem0 : rt_M) : Option (Int) :=
  (f_X3_kind a0 mem0).bind fun p1 =>
  if a1 = 0 then
  if p1 = 19 then
  j_X3_jointOf_34 ((-5)) mem0
  else
  if p1 = 20 then
  j_X3_jointOf_34 ((-6)) mem0
  else
  j_X3_jointOf_34 0 mem0
  else
  if a1 = 1 then
  if p1 = 31 then
  j_X3_jointOf_65 ((-9)) mem0
  else
  if p1 = 32 then
  j_X3_jointOf_65 ((-10)) mem0
  else
  j_X3_jointOf_65 0 mem0
  else
  if p1 = 33 then
  j_X3_jointOf_79 ((-11)) mem0
  else
  j_X3_jointOf_79 0 mem0
def j_X3_part_154 (rec_X3_chain : Int → Int → Int → Int → rt_M → Option (Int × rt_M)) (rec_X3_part : Int → Int → Int → rt_M → Option (Int × rt_M)) (s0 : Int) (s1 : Int) (mem0 : rt_M) : Option (Int × rt_M) :=
  (rt_gd 2 s0 (f_X2_add s0 s1 mem0)).bind fun p154 =>
  some (1, p154)
def j_X3_part_127 (rec_X3_chain : Int → Int → Int → Int → rt_M → Option (Int × rt_M)) (rec_X3_part : Int → Int → Int → rt_M → Option (Int × rt_M)) (a1 : Int) (a3 : Int) (a4 : Int) (a5 : Int) (mem0 : rt_M) : Option (Int × rt_M) :=
  if a3 = 18 then
  j_X3_part_154 rec_X3_chain rec_X3_part a1 ((-4)) mem0
  else
  if a3 = 36 then
  j_X3_part_154 rec_X3_chain rec_X3_part a1 a5 mem0
  else
  j_X3_part_154 rec_X3_chain rec_X3_part a1 a4 mem0
def j_X3_part_106 (rec_X3_chain : Int → Int → Int → Int → rt_M → Option (Int × rt_M)) (rec_X3_part : Int → Int → Int → rt_M → Option (Int × rt_M)) (s0 : Int) (mem0 : rt_M) : Option (Int × rt_M) :=
  (rt_bz s0).bind fun _ => some (s0, mem0)
def j_X3_part_105 (rec_X3_chain : Int → Int → Int → Int → rt_M → Option (Int × rt_M)) (rec_X3_part : Int → Int → Int → rt_M → Option (Int × rt_M)) (mem0 : rt_M) : Option (Int × rt_M) :=
  j_X3_part_106 rec_X3_chain rec_X3_part 0 mem0
def j_X3_part_44 (rec_X3_chain : Int → Int → Int → Int → rt_M → Option (Int × rt_M)) (rec_X3_part : Int → Int → Int → rt_M → Option (Int × rt_M)) (a0 : Int) (a1 : Int) (a2 : Int) (a3 : Int) (a4 : Int) (mem0 : rt_M) : Option (Int × rt_M) :=
  if a2 ≤ 4 then
  (f_X3_value a0 mem0).bind fun p56 =>
  (rt_gf 3 1 a0 mem0).bind fun v64 =>
  (rt_pf 3 1 a0 ((rt_iadd v64 1)) mem0).bind fun m69 =>
  if a3 = 27 then
  (rec_X3_chain a0 a1 0 ((rt_iadd a2 1)) m69).bind fun p85 =>
  if p85.1 = 0 then
  j_X3_part_105 rec_X3_chain rec_X3_part p85.2
  else
  (f_X3_take a0 28 p85.2).bind fun p95 =>
  if p95.1 = 0 then
  j_X3_part_105 rec_X3_chain rec_X3_part p95.2
  else
  j_X3_part_106 rec_X3_chain rec_X3_part 1 p95.2
  else
  if a3 = 18 then
  (rec_X3_part a0 a1 ((rt_iadd a2 1)) m69).bind fun p119 =>
  if p119.1 = 0 then
  some (0, p119.2)
  else
  j_X3_part_127 rec_X3_chain rec_X3_part a1 a3 a4 ((rt_l2i p56)) p119.2
  else
  j_X3_part_127 rec_X3_chain rec_X3_part a1 a3 a4 ((rt_l2i p56)) m69
  else
  (f_X3_fail a0 5 mem0).bind fun p51 =>
  (rt_bz p51.1).bind fun _ => some (p51.1, p51.2)
def f_X3_part (rec_X3_chain : Int → Int → Int → Int → rt_M → Option (Int × rt_M)) (rec_X3_part : Int → Int → Int → rt_M → Option (Int × rt_M)) (a0 : Int) (a1 : Int) (a2 : Int) (mem0 : rt_M) : Option (Int × rt_M) :=
  (f_X3_kind a0 mem0).bind fun p1 =>
  (rt_gd 2 a1 (f_X2_factOf a1 p1 mem0)).bind fun p7 =>
  if p7 = 0 then
  if p1 = 36 then
  j_X3_part_44 rec_X3_chain rec_X3_part a0 a1 a2 p1 p7 mem0
  else
  if p1 = 18 then
  j_X3_part_44 rec_X3_chain rec_X3_part a0 a1 a2 p1 p7 mem0
  else
  if p1 = 27 then
  j_X3_part_44 rec_X3_chain rec_X3_part a0 a1 a2 p1 p7 mem0
  else
  (f_X3_fail a0 1 mem0).bind fun p40 =>
  (rt_bz p40.1).bind fun _ => some (p40.1, p40.2)
  else
  j_X3_part_44 rec_X3_chain rec_X3_part a0 a1 a2 p1 p7 mem0
def j_X3_test_70 (rec_X3_chain : Int → Int → Int → Int → rt_M → Option (Int × rt_M)) (s0 : Int) (s1 : Int) (mem0 : rt_M) : Option (Int × rt_M) :=
  (rt_gd 2 s0 (f_X2_add s0 s1 mem0)).bind fun p70 =>
  some (1, p70)
def j_X3_test_33 (rec_X3_chain : Int → Int → Int → Int → rt_M → Option (Int × rt_M)) (a0 : Int) (a1 : Int) (a2 : Int) (a3 : Int) (mem0 : rt_M) : Option (Int × rt_M) :=
  (rt_gf 3 1 a0 mem0).bind fun v35 =>
  (rt_pf 3 1 a0 ((rt_iadd v35 1)) mem0).bind fun m40 =>
  (rec_X3_chain a0 a1 1 a2 m40).bind fun p47 =>
  if p47.1 = 0 then
  some (0, p47.2)
  else
  if a3 = 29 then
  j_X3_test_70 rec_X3_chain a1 ((-7)) p47.2
  else
  j_X3_test_70 rec_X3_chain a1 ((-8)) p47.2
def f_X3_test (rec_X3_chain : Int → Int → Int → Int → rt_M → Option (Int × rt_M)) (a0 : Int) (a1 : Int) (a2 : Int) (mem0 : rt_M) : Option (Int × rt_M) :=
  (rec_X3_chain a0 a1 1 a2 mem0).bind fun p4 =>
  if p4.1 = 0 then
  some (0, p4.2)
  else
  (f_X3_kind a0 p4.2).bind fun p13 =>
  if p13 = 29 then
  j_X3_test_33 rec_X3_chain a0 a1 a2 p13 p4.2
  else
  if p13 = 30 then
  j_X3_test_33 rec_X3_chain a0 a1 a2 p13 p4.2
  else
  some (1, p4.2)
def j_X3_link_32 (rec_X3_chain : Int → Int → Int → Int → rt_M → Option (Int × rt_M)) (rec_X3_test : Int → Int → Int → rt_M → Option (Int × rt_M)) (rec_X3_part : Int → Int → Int → rt_M → Option (Int × rt_M)) (s0 : Int) (mem0 : rt_M) : Option (Int × rt_M) :=
  (rt_bz s0).bind fun _ => some (s0, mem0)
def f_X3_link (rec_X3_chain : Int → Int → Int → Int → rt_M → Option (Int × rt_M)) (rec_X3_test : Int → Int → Int → rt_M → Option (Int × rt_M)) (rec_X3_part : Int → Int → Int → rt_M → Option (Int × rt_M)) (a0 : Int) (a1 : Int) (a2 : Int) (a3 : Int) (mem0 : rt_M) : Option (Int × rt_M) :=
  if a2 = 0 then
  (rec_X3_test a0 a1 a3 mem0).bind fun p7 =>
  (rt_bz p7.1).bind fun _ => some (p7.1, p7.2)
  else
  if a2 = 1 then
  (rec_X3_chain a0 a1 2 a3 mem0).bind fun p20 =>
  j_X3_link_32 rec_X3_chain rec_X3_test rec_X3_part p20.1 p20.2
  else
  (rec_X3_part a0 a1 a3 mem0).bind fun p29 =>
  j_X3_link_32 rec_X3_chain rec_X3_test rec_X3_part p29.1 p29.2
def b_X3_chain_15 (rec_X3_link : Int → Int → Int → Int → rt_M → Option (Int × rt_M)) (a0 : Int) (a1 : Int) (a2 : Int) (a3 : Int) (s : Int × rt_M) : Option ((Int × rt_M) ⊕ ((rt_M) ⊕ (Int × rt_M))) :=
  if 1000 ≤ s.1 then
  some (.inr (.inl s.2))
  else
  (f_X3_jointOf a0 a2 s.2).bind fun p25 =>
  if p25 = 0 then
  Option.map (fun t => .inr (.inr t)) (some (1, s.2))
  else
  (rt_gf 3 1 a0 s.2).bind fun v39 =>
  (rt_pf 3 1 a0 ((rt_iadd v39 1)) s.2).bind fun m44 =>
  (rec_X3_link a0 a1 a2 a3 m44).bind fun p51 =>
  if p51.1 = 0 then
  Option.map (fun t => .inr (.inr t)) (some (0, p51.2))
  else
  (rt_gd 2 a1 (f_X2_add a1 p25 p51.2)).bind fun p62 =>
  some (.inl ((rt_iadd s.1 1), p62))
def f_X3_chain (rec_X3_link : Int → Int → Int → Int → rt_M → Option (Int × rt_M)) (a0 : Int) (a1 : Int) (a2 : Int) (a3 : Int) (mem0 : rt_M) : Option (Int × rt_M) :=
  (rec_X3_link a0 a1 a2 a3 mem0).bind fun p4 =>
  if p4.1 = 0 then
  some (0, p4.2)
  else
  (rt_it (b_X3_chain_15 rec_X3_link a0 a1 a2 a3) 4000 ((0, p4.2))).bind fun E15 => match E15 with
  | .inr t => some t
  | .inl X15 =>
  some (1, X15)
def F_E : Nat → (Int → Int → Int → Int → rt_M → Option (Int × rt_M)) × (Int → Int → Int → Int → rt_M → Option (Int × rt_M)) × (Int → Int → Int → rt_M → Option (Int × rt_M)) × (Int → Int → Int → rt_M → Option (Int × rt_M))
  | 0 => (fun _ _ _ _ _ => none, fun _ _ _ _ _ => none, fun _ _ _ _ => none, fun _ _ _ _ => none)
  | n + 1 => (f_X3_chain (F_E n).2.1, f_X3_link (F_E n).1 (F_E n).2.2.1 (F_E n).2.2.2, f_X3_test (F_E n).1, f_X3_part (F_E n).1 (F_E n).2.2.2)
def F_X3_chain (n : Nat) : Int → Int → Int → Int → rt_M → Option (Int × rt_M) := (F_E n).1
def F_X3_link (n : Nat) : Int → Int → Int → Int → rt_M → Option (Int × rt_M) := (F_E n).2.1
def F_X3_test (n : Nat) : Int → Int → Int → rt_M → Option (Int × rt_M) := (F_E n).2.2.1
def F_X3_part (n : Nat) : Int → Int → Int → rt_M → Option (Int × rt_M) := (F_E n).2.2.2
def j_X3_lawLine_53 (s0 : Int) (mem0 : rt_M) : Option (Int × rt_M) :=
  (rt_bz s0).bind fun _ => some (s0, mem0)
def j_X3_lawLine_52 (mem0 : rt_M) : Option (Int × rt_M) :=
  j_X3_lawLine_53 0 mem0
def f_X3_lawLine (a0 : Int) (a1 : Int) (mem0 : rt_M) : Option (Int × rt_M) :=
  (rt_gf 2 6 a1 mem0).bind fun v1 =>
  if v1 = 0 then
  (rt_gf 3 1 a0 mem0).bind fun v15 =>
  (rt_pf 3 1 a0 ((rt_iadd v15 1)) mem0).bind fun m20 =>
  (rt_pf 2 6 a1 1 m20).bind fun m25 =>
  (F_X3_chain 60 a0 a1 0 0 m25).bind fun p32 =>
  if p32.1 = 0 then
  j_X3_lawLine_52 p32.2
  else
  (f_X3_take a0 34 p32.2).bind fun p42 =>
  if p42.1 = 0 then
  j_X3_lawLine_52 p42.2
  else
  j_X3_lawLine_53 1 p42.2
  else
  (f_X3_fail a0 3 mem0).bind fun p9 =>
  (rt_bz p9.1).bind fun _ => some (p9.1, p9.2)
def j_X3_realmLine_96 (s0 : Int) (mem0 : rt_M) : Option (Int × rt_M) :=
  (rt_bz s0).bind fun _ => some (s0, mem0)
def f_X3_realmLine (a0 : Int) (a1 : Int) (mem0 : rt_M) : Option (Int × rt_M) :=
  (f_X3_kind a0 mem0).bind fun p1 =>
  if p1 = 0 then
  (f_X3_wigLine a0 a1 mem0).bind fun p14 =>
  (rt_bz p14.1).bind fun _ => some (p14.1, p14.2)
  else
  if p1 = 4 then
  (f_X3_headLine a0 a1 mem0).bind fun p27 =>
  (rt_bz p27.1).bind fun _ => some (p27.1, p27.2)
  else
  if p1 = 6 then
  (f_X3_heatsLine a0 a1 mem0).bind fun p40 =>
  (rt_bz p40.1).bind fun _ => some (p40.1, p40.2)
  else
  if p1 = 7 then
  (f_X3_slackLine a0 a1 mem0).bind fun p53 =>
  (rt_bz p53.1).bind fun _ => some (p53.1, p53.2)
  else
  if p1 = 8 then
  (rt_gf 4 10 a1 mem0).bind fun v66 =>
  (f_X3_lawLine a0 v66 mem0).bind fun p69 =>
  (rt_bz p69.1).bind fun _ => some (p69.1, p69.2)
  else
  if p1 = 9 then
  (rt_gf 4 11 a1 mem0).bind fun v82 =>
  (f_X3_lawLine a0 v82 mem0).bind fun p85 =>
  j_X3_realmLine_96 p85.1 p85.2
  else
  (f_X3_fail a0 1 mem0).bind fun p93 =>
  j_X3_realmLine_96 p93.1 p93.2
def b_X3_readRealm_10 (a0 : Int) (a1 : Int) (s : Int × rt_M) : Option ((Int × rt_M) ⊕ ((rt_M) ⊕ (Int × rt_M))) :=
  if 1000 ≤ s.1 then
  some (.inr (.inl s.2))
  else
  (f_X3_kind a0 s.2).bind fun p18 =>
  if p18 = 37 then
  some (.inr (.inl s.2))
  else
  (f_X3_realmLine a0 a1 s.2).bind fun p29 =>
  if p29.1 = 0 then
  Option.map (fun t => .inr (.inr t)) ((rt_gf 3 2 a0 p29.2).bind fun v36 =>
  some (v36, p29.2))
  else
  some (.inl ((rt_iadd s.1 1), p29.2))
def f_X3_readRealm (a0 : Int) (a1 : Int) (mem0 : rt_M) : Option (Int × rt_M) :=
  (f_X3_start a0 mem0).bind fun p1 =>
  (rt_gd 4 a1 (f_X4_clear a1 p1)).bind fun p5 =>
  (rt_it (b_X3_readRealm_10 a0 a1) 4000 ((0, p5))).bind fun E10 => match E10 with
  | .inr t => some t
  | .inl X10 =>
  some (0, X10)
def f_X3_oldName (a0 : Int) (a1 : Int) (mem0 : rt_M) : Option (Int × rt_M) :=
  (f_X3_kind a0 mem0).bind fun p1 =>
  (rt_gwc p1).bind fun v4 =>
  if v4 = 0 then
  (f_X3_fail a0 1 mem0).bind fun p12 =>
  (rt_bz p12.1).bind fun _ => some (p12.1, p12.2)
  else
  if a1 = (-1) then
  (f_X3_fail a0 2 mem0).bind fun p23 =>
  (rt_bz p23.1).bind fun _ => some (p23.1, p23.2)
  else
  (rt_gf 3 1 a0 mem0).bind fun v29 =>
  (rt_pf 3 1 a0 ((rt_iadd v29 1)) mem0).bind fun m34 =>
  some (1, m34)
def j_X10_add_49 (mem0 : rt_M) : Option (rt_M) :=
  some mem0
def f_X10_add (a0 : Int) (a1 : Int) (a2 : Int) (a3 : Int) (mem0 : rt_M) : Option (rt_M) :=
  (rt_gf 10 0 a0 mem0).bind fun v1 =>
  if 40 ≤ v1 then
  j_X10_add_49 mem0
  else
  (rt_gf 10 1 a0 mem0).bind fun v10 =>
  (rt_gf 10 0 a0 mem0).bind fun v14 =>
  (rt_saw v10 v14 a1 mem0).bind fun m18 =>
  (rt_gf 10 2 a0 m18).bind fun v20 =>
  (rt_gf 10 0 a0 m18).bind fun v24 =>
  (rt_sa 1 v20 v24 a2 m18).bind fun m28 =>
  (rt_gf 10 3 a0 m28).bind fun v30 =>
  (rt_gf 10 0 a0 m28).bind fun v34 =>
  (rt_sa 1 v30 v34 a3 m28).bind fun m38 =>
  (rt_gf 10 0 a0 m38).bind fun v41 =>
  (rt_pf 10 0 a0 ((rt_iadd v41 1)) m38).bind fun m46 =>
  j_X10_add_49 m46
def j_X3_yearsLine_126 (a0 : Int) (a2 : Int) (a3 : Int) (a4 : Int) (a5 : Int) (mem0 : rt_M) : Option (Int × rt_M) :=
  (rt_gd 10 a2 (f_X10_add a2 a3 a4 a5 mem0)).bind fun p132 =>
  (f_X3_take a0 34 p132).bind fun p139 =>
  (rt_bz p139.1).bind fun _ => some (p139.1, p139.2)
def j_X3_yearsLine_98 (a0 : Int) (a1 : Int) (a2 : Int) (a3 : Int) (a4 : Int) (a5 : Int) (mem0 : rt_M) : Option (Int × rt_M) :=
  if a3 = 10 then
  (f_X3_value a0 mem0).bind fun p107 =>
  (rt_gd 4 a1 (f_X4_headNamed a1 p107 mem0)).bind fun p110 =>
  (f_X3_oldName a0 p110 mem0).bind fun p118 =>
  if p118.1 = 0 then
  some (0, p118.2)
  else
  j_X3_yearsLine_126 a0 a2 a3 a4 p110 p118.2
  else
  j_X3_yearsLine_126 a0 a2 a3 a4 a5 mem0
def j_X3_yearsLine_39 (a0 : Int) (a1 : Int) (a2 : Int) (a3 : Int) (mem0 : rt_M) : Option (Int × rt_M) :=
  (rt_gf 10 0 a2 mem0).bind fun v40 =>
  if v40 < 40 then
  (rt_gf 3 1 a0 mem0).bind fun v56 =>
  (rt_pf 3 1 a0 ((rt_iadd v56 1)) mem0).bind fun m61 =>
  if a3 = 13 then
  j_X3_yearsLine_98 a0 a1 a2 a3 ((-1)) ((-1)) m61
  else
  (f_X3_value a0 m61).bind fun p79 =>
  (rt_gd 4 a1 (f_X4_wigNamed a1 p79 m61)).bind fun p82 =>
  (f_X3_oldName a0 p82 m61).bind fun p90 =>
  if p90.1 = 0 then
  some (0, p90.2)
  else
  j_X3_yearsLine_98 a0 a1 a2 a3 p82 ((-1)) p90.2
  else
  (f_X3_fail a0 5 mem0).bind fun p50 =>
  (rt_bz p50.1).bind fun _ => some (p50.1, p50.2)
def f_X3_yearsLine (a0 : Int) (a1 : Int) (a2 : Int) (mem0 : rt_M) : Option (Int × rt_M) :=
  (f_X3_kind a0 mem0).bind fun p1 =>
  if p1 = 10 then
  j_X3_yearsLine_39 a0 a1 a2 p1 mem0
  else
  if p1 = 11 then
  j_X3_yearsLine_39 a0 a1 a2 p1 mem0
  else
  if p1 = 12 then
  j_X3_yearsLine_39 a0 a1 a2 p1 mem0
  else
  if p1 = 13 then
  j_X3_yearsLine_39 a0 a1 a2 p1 mem0
  else
  (f_X3_fail a0 1 mem0).bind fun p35 =>
  (rt_bz p35.1).bind fun _ => some (p35.1, p35.2)
def b_X3_readYears_11 (a0 : Int) (a1 : Int) (a2 : Int) (s : Int × rt_M) : Option ((Int × rt_M) ⊕ ((rt_M) ⊕ (Int × rt_M))) :=
  if 1000 ≤ s.1 then
  some (.inr (.inl s.2))
  else
  (f_X3_kind a0 s.2).bind fun p19 =>
  if p19 = 37 then
  some (.inr (.inl s.2))
  else
  (f_X3_yearsLine a0 a1 a2 s.2).bind fun p31 =>
  if p31.1 = 0 then
  Option.map (fun t => .inr (.inr t)) ((rt_gf 3 2 a0 p31.2).bind fun v38 =>
  some (v38, p31.2))
  else
  some (.inl ((rt_iadd s.1 1), p31.2))
def f_X3_readYears (a0 : Int) (a1 : Int) (a2 : Int) (mem0 : rt_M) : Option (Int × rt_M) :=
  (f_X3_start a0 mem0).bind fun p1 =>
  (rt_pf 10 0 a2 0 p1).bind fun m6 =>
  (rt_it (b_X3_readYears_11 a0 a1 a2) 4000 ((0, m6))).bind fun E11 => match E11 with
  | .inr t => some t
  | .inl X11 =>
  some (0, X11)
def f_X4_leanOfWig (a0 : Int) (a1 : Int) (mem0 : rt_M) : Option (Int) :=
  (f_X4_ofWig a0 a1 2 mem0).bind fun p3 =>
  some p3
def j_X4_officeOfAll_29_4 (a0 : Int) (a1 : Int) (a2 : Int) (a3 : Int) (mem0 : rt_M) : Option ((Int × Int) ⊕ (Int)) :=
  some (.inl (a2, (rt_iadd a3 1)))
def b_X4_officeOfAll_4 (a0 : Int) (a1 : Int) (mem0 : rt_M) (s : Int × Int) : Option ((Int × Int) ⊕ (Int)) :=
  (rt_gf 4 0 a0 mem0).bind fun v6 =>
  if v6 ≤ s.2 then
  some (.inr s.1)
  else
  if (rt_iand (rt_ishr a1 s.2) 1) = 1 then
  (f_X4_officeOf a0 s.2 mem0).bind fun p24 =>
  j_X4_officeOfAll_29_4 a0 a1 ((rt_iadd s.1 p24)) s.2 mem0
  else
  j_X4_officeOfAll_29_4 a0 a1 s.1 s.2 mem0
def f_X4_officeOfAll (a0 : Int) (a1 : Int) (mem0 : rt_M) : Option (Int) :=
  (rt_it (b_X4_officeOfAll_4 a0 a1 mem0) 4000 ((0, 0))).bind fun X4 =>
  some X4
def f_X4_isFit (a0 : Int) (a1 : Int) (a2 : Int) (a3 : Int) (mem0 : rt_M) : Option (Int × rt_M) :=
  (f_X4_sizeOfWig a0 a1 mem0).bind fun p3 =>
  (f_X4_girth a0 a2 a3 mem0).bind fun p9 =>
  (f_X4_isTilt a0 ((rt_isub p3 p9.1)) p9.2).bind fun p13 =>
  (rt_bz p13).bind fun _ => some (p13, p9.2)
def j_X4_isFor_56 (s0 : Int) (mem0 : rt_M) : Option (Int × rt_M) :=
  (rt_bz s0).bind fun _ => some (s0, mem0)
def f_X4_isFor (a0 : Int) (a1 : Int) (a2 : Int) (a3 : Int) (mem0 : rt_M) : Option (Int × rt_M) :=
  (f_X4_ofHead a0 a2 3 mem0).bind fun p3 =>
  (rt_gf 4 11 a0 mem0).bind fun v9 =>
  (rt_gf 2 6 v9 mem0).bind fun v12 =>
  if v12 = 0 then
  if (rt_imul p3 9) ≤ (rt_imul a1 a3) then
  j_X4_isFor_56 0 mem0
  else
  j_X4_isFor_56 1 mem0
  else
  (rt_gf 4 11 a0 mem0).bind fun v19 =>
  (rt_gd 2 v19 (f_X2_worth v19 a1 p3 a3 mem0)).bind fun p26 =>
  if p26.1 = 0 then
  j_X4_isFor_56 0 p26.2
  else
  j_X4_isFor_56 1 p26.2
def b_X5_begin_21 (a0 : Int) (s : Int × rt_M) : Option ((Int × rt_M) ⊕ (rt_M)) :=
  if 6 ≤ s.1 then
  some (.inr s.2)
  else
  (rt_gf 5 2 a0 s.2).bind fun v28 =>
  (rt_sa 1 v28 s.1 0 s.2).bind fun m33 =>
  (rt_gf 5 5 a0 m33).bind fun v35 =>
  (rt_sa 1 v35 s.1 ((-1)) m33).bind fun m40 =>
  some (.inl ((rt_iadd s.1 1), m40))
def f_X5_begin (a0 : Int) (a1 : Int) (a2 : Int) (mem0 : rt_M) : Option (rt_M) :=
  (f_J9_min_7cf53 6 a1 mem0).bind fun p5 =>
  (f_J9_max_7cf53 0 p5 mem0).bind fun p8 =>
  (rt_pf 5 0 a0 p8 mem0).bind fun m11 =>
  (rt_bz a2).bind fun w16 =>
  (rt_pf 5 1 a0 a2 m11).bind fun m16 =>
  (rt_it (b_X5_begin_21 a0) 4000 ((0, m16))).bind fun X21 =>
  some X21
def j_X5_open_22 (mem0 : rt_M) : Option (rt_M) :=
  some mem0
def f_X5_open (a0 : Int) (a1 : Int) (a2 : Int) (mem0 : rt_M) : Option (rt_M) :=
  if a1 < 0 then
  j_X5_open_22 mem0
  else
  if 6 ≤ a1 then
  j_X5_open_22 mem0
  else
  (rt_gf 5 2 a0 mem0).bind fun v11 =>
  (rt_al 1 v11 a1 mem0).bind fun v16 =>
  (rt_sa 1 v11 a1 ((rt_ior v16 (rt_ishl 1 a2))) mem0).bind fun m21 =>
  j_X5_open_22 m21
def j_X5_gains_29 (mem0 : rt_M) : Option (rt_M) :=
  some mem0
def f_X5_gains (a0 : Int) (a1 : Int) (a2 : Int) (a3 : Int) (mem0 : rt_M) : Option (rt_M) :=
  if a1 < 0 then
  j_X5_gains_29 mem0
  else
  if 6 ≤ a1 then
  j_X5_gains_29 mem0
  else
  if a2 < 0 then
  j_X5_gains_29 mem0
  else
  if 6 ≤ a2 then
  j_X5_gains_29 mem0
  else
  (rt_gf 5 3 a0 mem0).bind fun v21 =>
  (rt_al 6 v21 a1 mem0).bind fun v25 =>
  (rt_sa 1 v25 a2 a3 mem0).bind fun m28 =>
  j_X5_gains_29 m28
def j_X5_chosen_20 (s0 : Int) (mem0 : rt_M) : Option (Int) :=
  some s0
def j_X5_chosen_19 (mem0 : rt_M) : Option (Int) :=
  j_X5_chosen_20 ((-1)) mem0
def f_X5_chosen (a0 : Int) (a1 : Int) (mem0 : rt_M) : Option (Int) :=
  if a1 < 0 then
  j_X5_chosen_19 mem0
  else
  if 6 ≤ a1 then
  j_X5_chosen_19 mem0
  else
  (rt_gf 5 5 a0 mem0).bind fun v11 =>
  (rt_al 1 v11 a1 mem0).bind fun v15 =>
  j_X5_chosen_20 v15 mem0
def j_X5_through_41 (mem0 : rt_M) : Option (Int) :=
  some ((-1))
def j_X5_through_60 (a0 : Int) (a1 : Int) (a2 : Int) (a3 : Int) (s0 : Int) (mem0 : rt_M) : Option (Int) :=
  (rt_gf 5 4 a0 mem0).bind fun v61 =>
  (rt_al 6 v61 ((rt_iadd a1 1)) mem0).bind fun v67 =>
  (rt_al 1 v67 ((rt_ior a2 (rt_ishl 1 a3))) mem0).bind fun v73 =>
  some ((rt_iadd s0 v73))
def j_X5_through_43 (a0 : Int) (a1 : Int) (a2 : Int) (a3 : Int) (a4 : Int) (mem0 : rt_M) : Option (Int) :=
  if a4 = 0 then
  (rt_gf 5 3 a0 mem0).bind fun v53 =>
  (rt_al 6 v53 a1 mem0).bind fun v57 =>
  (rt_al 1 v57 a3 mem0).bind fun v59 =>
  j_X5_through_60 a0 a1 a2 a3 v59 mem0
  else
  j_X5_through_60 a0 a1 a2 a3 0 mem0
def j_X5_through_14 (a0 : Int) (a1 : Int) (a2 : Int) (a3 : Int) (s0 : Int) (mem0 : rt_M) : Option (Int) :=
  (rt_gf 5 2 a0 mem0).bind fun v17 =>
  (rt_al 1 v17 a1 mem0).bind fun v21 =>
  if (rt_iand (rt_ishr v21 a3) 1) = 0 then
  j_X5_through_41 mem0
  else
  if s0 = 0 then
  j_X5_through_43 a0 a1 a2 a3 s0 mem0
  else
  (rt_gf 5 1 a0 mem0).bind fun v35 =>
  if v35 = 0 then
  j_X5_through_41 mem0
  else
  j_X5_through_43 a0 a1 a2 a3 s0 mem0
def f_X5_through (a0 : Int) (a1 : Int) (a2 : Int) (a3 : Int) (mem0 : rt_M) : Option (Int) :=
  if (rt_iand (rt_ishr a2 a3) 1) = 1 then
  j_X5_through_14 a0 a1 a2 a3 1 mem0
  else
  j_X5_through_14 a0 a1 a2 a3 0 mem0
def j_X5_keepFirstRow_68_24 (a0 : Int) (a1 : Int) (a2 : Int) (a3 : Int) (a4 : Int) (mem0 : rt_M) : Option ((Int × Int × rt_M) ⊕ (Int × rt_M)) :=
  some (.inl (a1, (rt_iadd a4 1), mem0))
def b_X5_keepFirstRow_24 (a0 : Int) (a2 : Int) (a3 : Int) (s : Int × Int × rt_M) : Option ((Int × Int × rt_M) ⊕ (Int × rt_M)) :=
  if 6 ≤ s.2.1 then
  some (.inr (s.1, s.2.2))
  else
  (rt_gf 5 5 a0 s.2.2).bind fun v32 =>
  (rt_al 1 v32 a2 s.2.2).bind fun v36 =>
  if v36 = (-1) then
  (f_X5_through a0 a2 s.1 s.2.1 s.2.2).bind fun p46 =>
  if p46 = a3 then
  (rt_gf 5 5 a0 s.2.2).bind fun v54 =>
  (rt_sa 1 v54 a2 s.2.1 s.2.2).bind fun m60 =>
  j_X5_keepFirstRow_68_24 a0 ((rt_ior s.1 (rt_ishl 1 s.2.1))) a2 a3 s.2.1 m60
  else
  j_X5_keepFirstRow_68_24 a0 s.1 a2 a3 s.2.1 s.2.2
  else
  some (.inr (s.1, s.2.2))
def b_X5_keepFirstRow_4 (a0 : Int) (s : Int × Int × rt_M) : Option ((Int × Int × rt_M) ⊕ (rt_M)) :=
  (rt_gf 5 0 a0 s.2.2).bind fun v6 =>
  if v6 ≤ s.2.1 then
  some (.inr s.2.2)
  else
  (rt_gf 5 4 a0 s.2.2).bind fun v13 =>
  (rt_al 6 v13 s.2.1 s.2.2).bind fun v17 =>
  (rt_al 1 v17 s.1 s.2.2).bind fun v19 =>
  (rt_it (b_X5_keepFirstRow_24 a0 s.2.1 v19) 4000 ((s.1, 0, s.2.2))).bind fun X24 =>
  some (.inl (X24.1, (rt_iadd s.2.1 1), X24.2))
def f_X5_keepFirstRow (a0 : Int) (mem0 : rt_M) : Option (rt_M) :=
  (rt_it (b_X5_keepFirstRow_4 a0) 4000 ((0, 0, mem0))).bind fun X4 =>
  some X4
def b_X5_solve_2 (a0 : Int) (s : Int × rt_M) : Option ((Int × rt_M) ⊕ (rt_M)) :=
  if 64 ≤ s.1 then
  some (.inr s.2)
  else
  (rt_gf 5 4 a0 s.2).bind fun v9 =>
  (rt_gf 5 0 a0 s.2).bind fun v13 =>
  (rt_al 6 v9 v13 s.2).bind fun v16 =>
  (rt_sa 1 v16 s.1 0 s.2).bind fun m19 =>
  some (.inl ((rt_iadd s.1 1), m19))
def b_X5_solve_59 (a0 : Int) (a1 : Int) (a2 : Int) (s : Int × Int × rt_M) : Option ((Int × Int × rt_M) ⊕ (Int × rt_M)) :=
  if 6 ≤ s.2.1 then
  some (.inr (s.1, s.2.2))
  else
  (f_X5_through a0 a1 a2 s.2.1 s.2.2).bind fun p72 =>
  (f_J9_max_7cf53 s.1 p72 s.2.2).bind fun p75 =>
  some (.inl (p75, (rt_iadd s.2.1 1), s.2.2))
def b_X5_solve_39 (a0 : Int) (a1 : Int) (s : Int × rt_M) : Option ((Int × rt_M) ⊕ (rt_M)) :=
  if 64 ≤ s.1 then
  some (.inr s.2)
  else
  (rt_gf 5 4 a0 s.2).bind fun v46 =>
  (rt_al 6 v46 ((rt_iadd a1 1)) s.2).bind fun v52 =>
  (rt_al 1 v52 s.1 s.2).bind fun v54 =>
  (rt_it (b_X5_solve_59 a0 a1 s.1) 4000 ((v54, 0, s.2))).bind fun X59 =>
  (rt_gf 5 4 a0 X59.2).bind fun v86 =>
  (rt_al 6 v86 a1 X59.2).bind fun v90 =>
  (rt_sa 1 v90 s.1 X59.1 X59.2).bind fun m93 =>
  some (.inl ((rt_iadd s.1 1), m93))
def b_X5_solve_33 (a0 : Int) (s : Int × rt_M) : Option ((Int × rt_M) ⊕ (rt_M)) :=
  if s.1 < 0 then
  some (.inr s.2)
  else
  (rt_it (b_X5_solve_39 a0 s.1) 4000 ((0, s.2))).bind fun X39 =>
  some (.inl ((rt_iadd s.1 (-1)), X39))
def f_X5_solve (a0 : Int) (mem0 : rt_M) : Option (Int × rt_M) :=
  (rt_it (b_X5_solve_2 a0) 4000 ((0, mem0))).bind fun X2 =>
  (rt_gf 5 0 a0 X2).bind fun v27 =>
  (rt_it (b_X5_solve_33 a0) 4000 (((rt_isub v27 1), X2))).bind fun X33 =>
  (f_X5_keepFirstRow a0 X33).bind fun p107 =>
  (rt_gf 5 4 a0 p107).bind fun v111 =>
  (rt_al 6 v111 0 p107).bind fun v115 =>
  (rt_al 1 v115 0 p107).bind fun v117 =>
  some (v117, p107)
def f_X6_add (a0 : Int) (a1 : Int) (a2 : Int) (a3 : Int) (mem0 : rt_M) : Option (Int × rt_M) :=
  (rt_gf 6 0 a0 mem0).bind fun v1 =>
  if v1 < 8 then
  (rt_gf 6 1 a0 mem0).bind fun v12 =>
  (rt_gf 6 0 a0 mem0).bind fun v16 =>
  (rt_sa 1 v12 v16 a1 mem0).bind fun m20 =>
  (rt_gf 6 2 a0 m20).bind fun v22 =>
  (rt_gf 6 0 a0 m20).bind fun v26 =>
  (rt_sa 1 v22 v26 a2 m20).bind fun m30 =>
  (rt_gf 6 3 a0 m30).bind fun v32 =>
  (rt_gf 6 0 a0 m30).bind fun v36 =>
  (rt_bz a3).bind fun w40 =>
  (rt_sa 3 v32 v36 a3 m30).bind fun m40 =>
  (rt_gf 6 0 a0 m40).bind fun v43 =>
  (rt_pf 6 0 a0 ((rt_iadd v43 1)) m40).bind fun m48 =>
  some (1, m48)
  else
  some (0, mem0)
def j_X6_possible_64_16 (a0 : Int) (a1 : Int) (a2 : Int) (a3 : Int) (a5 : Int) (s0 : Int) (mem0 : rt_M) : Option ((Int × Int × rt_M) ⊕ (Int × rt_M)) :=
  some (.inl (s0, (rt_iadd a5 1), mem0))
def b_X6_possible_16 (a0 : Int) (a1 : Int) (a2 : Int) (a3 : Int) (s : Int × Int × rt_M) : Option ((Int × Int × rt_M) ⊕ (Int × rt_M)) :=
  (rt_gf 6 0 a0 s.2.2).bind fun v19 =>
  if v19 ≤ s.2.1 then
  some (.inr (s.1, s.2.2))
  else
  if s.1 = 0 then
  some (.inr (s.1, s.2.2))
  else
  (rt_gf 6 1 a0 s.2.2).bind fun v33 =>
  (rt_al 1 v33 s.2.1 s.2.2).bind fun v38 =>
  (rt_gf 6 2 a0 s.2.2).bind fun v40 =>
  (rt_al 1 v40 s.2.1 s.2.2).bind fun v45 =>
  (rt_gd 4 a1 (f_X4_isFor a1 a3 v38 v45 s.2.2)).bind fun p46 =>
  (rt_gf 6 3 a0 p46.2).bind fun v50 =>
  (rt_al 3 v50 s.2.1 p46.2).bind fun v55 =>
  if p46.1 = v55 then
  j_X6_possible_64_16 a0 a1 a2 a3 s.2.1 1 p46.2
  else
  j_X6_possible_64_16 a0 a1 a2 a3 s.2.1 0 p46.2
def j_X6_possible_83_4 (a0 : Int) (a1 : Int) (a2 : Int) (a3 : Int) (mem0 : rt_M) : Option ((Int × Int × rt_M) ⊕ (Int × rt_M)) :=
  some (.inl (a2, (rt_iadd a3 1), mem0))
def b_X6_possible_4 (a0 : Int) (a1 : Int) (s : Int × Int × rt_M) : Option ((Int × Int × rt_M) ⊕ (Int × rt_M)) :=
  if 9 < s.2.1 then
  some (.inr (s.1, s.2.2))
  else
  (rt_it (b_X6_possible_16 a0 a1 s.1 s.2.1) 4000 ((1, 0, s.2.2))).bind fun X16 =>
  if X16.1 = 0 then
  j_X6_possible_83_4 a0 a1 s.1 s.2.1 X16.2
  else
  j_X6_possible_83_4 a0 a1 ((rt_ior s.1 (rt_ishl 1 s.2.1))) s.2.1 X16.2
def f_X6_possible (a0 : Int) (a1 : Int) (mem0 : rt_M) : Option (Int × rt_M) :=
  (rt_it (b_X6_possible_4 a0 a1) 4000 ((0, 0, mem0))).bind fun X4 =>
  some (X4.1, X4.2)
def j_X7_headUnder_20 (s0 : Int) (mem0 : rt_M) : Option (Int) :=
  some s0
def j_X7_headUnder_19 (mem0 : rt_M) : Option (Int) :=
  j_X7_headUnder_20 ((-1)) mem0
def f_X7_headUnder (a0 : Int) (a1 : Int) (mem0 : rt_M) : Option (Int) :=
  if a1 < 0 then
  j_X7_headUnder_19 mem0
  else
  if 6 ≤ a1 then
  j_X7_headUnder_19 mem0
  else
  (rt_gf 7 1 a0 mem0).bind fun v11 =>
  (rt_al 1 v11 a1 mem0).bind fun v15 =>
  j_X7_headUnder_20 v15 mem0
def j_X7_wearOf_20 (s0 : Int) (mem0 : rt_M) : Option (Int) :=
  some s0
def j_X7_wearOf_19 (mem0 : rt_M) : Option (Int) :=
  j_X7_wearOf_20 0 mem0
def f_X7_wearOf (a0 : Int) (a1 : Int) (mem0 : rt_M) : Option (Int) :=
  if a1 < 0 then
  j_X7_wearOf_19 mem0
  else
  if 6 ≤ a1 then
  j_X7_wearOf_19 mem0
  else
  (rt_gf 7 2 a0 mem0).bind fun v11 =>
  (rt_al 1 v11 a1 mem0).bind fun v15 =>
  j_X7_wearOf_20 v15 mem0
def j_X7_wigUpon_25_2 (a0 : Int) (a1 : Int) (a2 : Int) (mem0 : rt_M) : Option ((Int) ⊕ ((Unit) ⊕ (Int))) :=
  some (.inl (rt_iadd a2 1))
def b_X7_wigUpon_2 (a0 : Int) (a1 : Int) (mem0 : rt_M) (s : Int) : Option ((Int) ⊕ ((Unit) ⊕ (Int))) :=
  if 6 ≤ s then
  some (.inr (.inl ()))
  else
  if a1 = (-1) then
  j_X7_wigUpon_25_2 a0 a1 s mem0
  else
  (rt_gf 7 1 a0 mem0).bind fun v14 =>
  (rt_al 1 v14 s mem0).bind fun v18 =>
  if v18 = a1 then
  Option.map (fun t => .inr (.inr t)) (some s)
  else
  j_X7_wigUpon_25_2 a0 a1 s mem0
def f_X7_wigUpon (a0 : Int) (a1 : Int) (mem0 : rt_M) : Option (Int) :=
  (rt_it (b_X7_wigUpon_2 a0 a1 mem0) 4000 0).bind fun E2 => match E2 with
  | .inr t => some t
  | .inl X2 =>
  some ((-1))
def j_X7_canPut_64 (s0 : Int) (mem0 : rt_M) : Option (Int × rt_M) :=
  (rt_bz s0).bind fun _ => some (s0, mem0)
def j_X7_canPut_63 (mem0 : rt_M) : Option (Int × rt_M) :=
  j_X7_canPut_64 0 mem0
def f_X7_canPut (a0 : Int) (a1 : Int) (a2 : Int) (a3 : Int) (mem0 : rt_M) : Option (Int × rt_M) :=
  (rt_gd 4 a1 (f_X4_isWig a1 a2 mem0)).bind fun p2 =>
  if p2 = 0 then
  j_X7_canPut_63 mem0
  else
  (rt_gd 4 a1 (f_X4_isHead a1 a3 mem0)).bind fun p10 =>
  if p10 = 0 then
  j_X7_canPut_63 mem0
  else
  (rt_gf 7 1 a0 mem0).bind fun v17 =>
  (rt_al 1 v17 a2 mem0).bind fun v21 =>
  if v21 = (-1) then
  (rt_gf 7 2 a0 mem0).bind fun v27 =>
  (rt_al 1 v27 a2 mem0).bind fun v31 =>
  if 9 ≤ v31 then
  j_X7_canPut_63 mem0
  else
  (f_X7_wigUpon a0 a3 mem0).bind fun p39 =>
  if p39 = (-1) then
  (rt_gf 7 0 a0 mem0).bind fun v50 =>
  (rt_gd 4 a1 (f_X4_isFit a1 a2 a3 v50 mem0)).bind fun p53 =>
  if p53.1 = 0 then
  j_X7_canPut_63 p53.2
  else
  j_X7_canPut_64 1 p53.2
  else
  j_X7_canPut_63 mem0
  else
  j_X7_canPut_63 mem0
def j_X7_canTakeOff_23 (s0 : Int) (mem0 : rt_M) : Option (Int) :=
  (rt_bz s0).bind fun _ => some s0
def j_X7_canTakeOff_22 (mem0 : rt_M) : Option (Int) :=
  j_X7_canTakeOff_23 0 mem0
def f_X7_canTakeOff (a0 : Int) (a1 : Int) (a2 : Int) (mem0 : rt_M) : Option (Int) :=
  (rt_gd 4 a1 (f_X4_isWig a1 a2 mem0)).bind fun p2 =>
  if p2 = 0 then
  j_X7_canTakeOff_22 mem0
  else
  (rt_gf 7 1 a0 mem0).bind fun v9 =>
  (rt_al 1 v9 a2 mem0).bind fun v13 =>
  if v13 = (-1) then
  j_X7_canTakeOff_22 mem0
  else
  j_X7_canTakeOff_23 1 mem0
def j_X7_canMend_23 (s0 : Int) (mem0 : rt_M) : Option (Int) :=
  (rt_bz s0).bind fun _ => some s0
def j_X7_canMend_22 (mem0 : rt_M) : Option (Int) :=
  j_X7_canMend_23 0 mem0
def f_X7_canMend (a0 : Int) (a1 : Int) (a2 : Int) (mem0 : rt_M) : Option (Int) :=
  (rt_gd 4 a1 (f_X4_isWig a1 a2 mem0)).bind fun p2 =>
  if p2 = 0 then
  j_X7_canMend_22 mem0
  else
  (rt_gf 7 1 a0 mem0).bind fun v9 =>
  (rt_al 1 v9 a2 mem0).bind fun v13 =>
  if v13 = (-1) then
  j_X7_canMend_23 1 mem0
  else
  j_X7_canMend_22 mem0
def j_X7_place_17 (mem0 : rt_M) : Option (rt_M) :=
  some mem0
def f_X7_place (a0 : Int) (a1 : Int) (a2 : Int) (mem0 : rt_M) : Option (rt_M) :=
  if a1 < 0 then
  j_X7_place_17 mem0
  else
  if 6 ≤ a1 then
  j_X7_place_17 mem0
  else
  (rt_gf 7 1 a0 mem0).bind fun v11 =>
  (rt_sa 1 v11 a1 a2 mem0).bind fun m16 =>
  j_X7_place_17 m16
def j_X7_makeNew_17 (mem0 : rt_M) : Option (rt_M) :=
  some mem0
def f_X7_makeNew (a0 : Int) (a1 : Int) (mem0 : rt_M) : Option (rt_M) :=
  if a1 < 0 then
  j_X7_makeNew_17 mem0
  else
  if 6 ≤ a1 then
  j_X7_makeNew_17 mem0
  else
  (rt_gf 7 2 a0 mem0).bind fun v11 =>
  (rt_sa 1 v11 a1 0 mem0).bind fun m16 =>
  j_X7_makeNew_17 m16
def j_X7_pass_39_2 (a0 : Int) (a1 : Int) (a2 : Int) (mem0 : rt_M) : Option ((Int × rt_M) ⊕ (rt_M)) :=
  some (.inl ((rt_iadd a2 1), mem0))
def b_X7_pass_2 (a0 : Int) (a1 : Int) (s : Int × rt_M) : Option ((Int × rt_M) ⊕ (rt_M)) :=
  (rt_gf 4 0 a1 s.2).bind fun v4 =>
  if v4 ≤ s.1 then
  some (.inr s.2)
  else
  (rt_gf 7 1 a0 s.2).bind fun v11 =>
  (rt_al 1 v11 s.1 s.2).bind fun v15 =>
  if v15 = (-1) then
  (rt_gf 7 2 a0 s.2).bind fun v21 =>
  (rt_gf 7 2 a0 s.2).bind fun v28 =>
  (rt_al 1 v28 s.1 s.2).bind fun v32 =>
  (f_J9_min_7cf53 9 ((rt_iadd v32 1)) s.2).bind fun p35 =>
  (rt_sa 1 v21 s.1 p35 s.2).bind fun m38 =>
  j_X7_pass_39_2 a0 a1 s.1 m38
  else
  j_X7_pass_39_2 a0 a1 s.1 s.2
def j_X7_pass_105_59 (a0 : Int) (a1 : Int) (a2 : Int) (a3 : Int) (mem0 : rt_M) : Option ((Int × Int × rt_M) ⊕ (Int × rt_M)) :=
  some (.inl (a2, (rt_iadd a3 1), mem0))
def b_X7_pass_59 (a0 : Int) (a1 : Int) (s : Int × Int × rt_M) : Option ((Int × Int × rt_M) ⊕ (Int × rt_M)) :=
  (rt_gf 4 0 a1 s.2.2).bind fun v61 =>
  if v61 ≤ s.2.1 then
  some (.inr (s.1, s.2.2))
  else
  (rt_gf 7 1 a0 s.2.2).bind fun v68 =>
  (rt_al 1 v68 s.2.1 s.2.2).bind fun v72 =>
  if v72 = (-1) then
  j_X7_pass_105_59 a0 a1 s.1 s.2.1 s.2.2
  else
  (rt_gf 7 1 a0 s.2.2).bind fun v80 =>
  (rt_al 1 v80 s.2.1 s.2.2).bind fun v84 =>
  (rt_gf 7 0 a0 s.2.2).bind fun v86 =>
  (rt_gd 4 a1 (f_X4_isFit a1 s.2.1 v84 v86 s.2.2)).bind fun p89 =>
  if p89.1 = 0 then
  (rt_gf 7 1 a0 p89.2).bind fun v96 =>
  (rt_sa 1 v96 s.2.1 ((-1)) p89.2).bind fun m101 =>
  j_X7_pass_105_59 a0 a1 ((rt_iadd s.1 1)) s.2.1 m101
  else
  j_X7_pass_105_59 a0 a1 s.1 s.2.1 p89.2
def f_X7_pass (a0 : Int) (a1 : Int) (mem0 : rt_M) : Option (Int × rt_M) :=
  (rt_it (b_X7_pass_2 a0 a1) 4000 ((0, mem0))).bind fun X2 =>
  (rt_gf 7 0 a0 X2).bind fun v47 =>
  (rt_pf 7 0 a0 ((rt_iadd v47 1)) X2).bind fun m52 =>
  (rt_it (b_X7_pass_59 a0 a1) 4000 ((0, 0, m52))).bind fun X59 =>
  some (X59.1, X59.2)
def j_X7_worn_28_4 (a0 : Int) (a1 : Int) (a2 : Int) (a3 : Int) (mem0 : rt_M) : Option ((Int × Int) ⊕ (Int)) :=
  some (.inl (a2, (rt_iadd a3 1)))
def b_X7_worn_4 (a0 : Int) (a1 : Int) (mem0 : rt_M) (s : Int × Int) : Option ((Int × Int) ⊕ (Int)) :=
  (rt_gf 4 0 a1 mem0).bind fun v6 =>
  if v6 ≤ s.2 then
  some (.inr s.1)
  else
  (rt_gf 7 1 a0 mem0).bind fun v13 =>
  (rt_al 1 v13 s.2 mem0).bind fun v17 =>
  if v17 = (-1) then
  j_X7_worn_28_4 a0 a1 s.1 s.2 mem0
  else
  j_X7_worn_28_4 a0 a1 ((rt_ior s.1 (rt_ishl 1 s.2))) s.2 mem0
def f_X7_worn (a0 : Int) (a1 : Int) (mem0 : rt_M) : Option (Int) :=
  (rt_it (b_X7_worn_4 a0 a1 mem0) 4000 ((0, 0))).bind fun X4 =>
  some X4
def j_X7_wornOut_29_4 (a0 : Int) (a1 : Int) (a2 : Int) (a3 : Int) (mem0 : rt_M) : Option ((Int × Int) ⊕ (Int)) :=
  some (.inl (a2, (rt_iadd a3 1)))
def b_X7_wornOut_4 (a0 : Int) (a1 : Int) (mem0 : rt_M) (s : Int × Int) : Option ((Int × Int) ⊕ (Int)) :=
  (rt_gf 4 0 a1 mem0).bind fun v6 =>
  if v6 ≤ s.2 then
  some (.inr s.1)
  else
  (rt_gf 7 2 a0 mem0).bind fun v13 =>
  (rt_al 1 v13 s.2 mem0).bind fun v17 =>
  if v17 < 9 then
  j_X7_wornOut_29_4 a0 a1 s.1 s.2 mem0
  else
  j_X7_wornOut_29_4 a0 a1 ((rt_ior s.1 (rt_ishl 1 s.2))) s.2 mem0
def f_X7_wornOut (a0 : Int) (a1 : Int) (mem0 : rt_M) : Option (Int) :=
  (rt_it (b_X7_wornOut_4 a0 a1 mem0) 4000 ((0, 0))).bind fun X4 =>
  some X4
def b_X7_wearOfAll_4 (a0 : Int) (a1 : Int) (mem0 : rt_M) (s : Int × Int) : Option ((Int × Int) ⊕ (Int)) :=
  (rt_gf 4 0 a1 mem0).bind fun v6 =>
  if v6 ≤ s.2 then
  some (.inr s.1)
  else
  (rt_gf 7 2 a0 mem0).bind fun v14 =>
  (rt_al 1 v14 s.2 mem0).bind fun v18 =>
  some (.inl ((rt_iadd s.1 v18), (rt_iadd s.2 1)))
def f_X7_wearOfAll (a0 : Int) (a1 : Int) (mem0 : rt_M) : Option (Int) :=
  (rt_it (b_X7_wearOfAll_4 a0 a1 mem0) 4000 ((0, 0))).bind fun X4 =>
  some X4
def f_X8_clear (a0 : Int) (mem0 : rt_M) : Option (rt_M) :=
  (rt_pf 8 1 a0 0 mem0).bind fun m2 =>
  some m2
def j_X8_add_70_3 (a0 : Int) (a1 : Int) (a3 : Int) (mem0 : rt_M) : Option ((Int × rt_M) ⊕ (rt_M)) :=
  some (.inl ((rt_iadd a3 (-8)), mem0))
def j_X8_add_39_3 (a0 : Int) (a1 : Int) (a3 : Int) (a4 : Int) (mem0 : rt_M) : Option ((Int × rt_M) ⊕ (rt_M)) :=
  (rt_gf 8 1 a0 mem0).bind fun v40 =>
  if 1000 ≤ v40 then
  j_X8_add_70_3 a0 a1 a3 mem0
  else
  (rt_gf 8 0 a0 mem0).bind fun v50 =>
  (rt_gf 8 1 a0 mem0).bind fun v54 =>
  (rt_cz a4).bind fun w59 =>
  (rt_sa 4 v50 v54 a4 mem0).bind fun m59 =>
  (rt_gf 8 1 a0 m59).bind fun v62 =>
  (rt_pf 8 1 a0 ((rt_iadd v62 1)) m59).bind fun m67 =>
  j_X8_add_70_3 a0 a1 a3 m67
def b_X8_add_3 (a0 : Int) (a1 : Int) (s : Int × rt_M) : Option ((Int × rt_M) ⊕ (rt_M)) :=
  if s.1 < 0 then
  some (.inr s.2)
  else
  if (rt_i2c (rt_l2i (rt_land (rt_lushr a1 s.1) 255))) = 10 then
  j_X8_add_39_3 a0 a1 s.1 ((rt_i2c (rt_l2i (rt_land (rt_lushr a1 s.1) 255)))) s.2
  else
  if (rt_i2c (rt_l2i (rt_land (rt_lushr a1 s.1) 255))) < 32 then
  j_X8_add_70_3 a0 a1 s.1 s.2
  else
  if 126 < (rt_i2c (rt_l2i (rt_land (rt_lushr a1 s.1) 255))) then
  j_X8_add_70_3 a0 a1 s.1 s.2
  else
  j_X8_add_39_3 a0 a1 s.1 ((rt_i2c (rt_l2i (rt_land (rt_lushr a1 s.1) 255)))) s.2
def f_X8_add (a0 : Int) (a1 : Int) (mem0 : rt_M) : Option (rt_M) :=
  (rt_it (b_X8_add_3 a0 a1) 4000 ((56, mem0))).bind fun X3 =>
  some X3
def j_X10_play_121 (mem0 : rt_M) : Option (Int × rt_M) :=
  some ((-1), mem0)
def j_X10_play_95 (a2 : Int) (a3 : Int) (a4 : Int) (a5 : Int) (mem0 : rt_M) : Option (Int × rt_M) :=
  if a4 = 12 then
  (rt_gd 7 a3 (f_X7_canMend a3 a2 a5 mem0)).bind fun p107 =>
  if p107 = 0 then
  j_X10_play_121 mem0
  else
  (rt_gd 7 a3 (f_X7_makeNew a3 a5 mem0)).bind fun p116 =>
  some (0, p116)
  else
  j_X10_play_121 mem0
def j_X10_play_68 (a2 : Int) (a3 : Int) (a4 : Int) (a5 : Int) (mem0 : rt_M) : Option (Int × rt_M) :=
  if a4 = 11 then
  (rt_gd 7 a3 (f_X7_canTakeOff a3 a2 a5 mem0)).bind fun p80 =>
  if p80 = 0 then
  j_X10_play_95 a2 a3 a4 a5 mem0
  else
  (rt_gd 7 a3 (f_X7_place a3 a5 ((-1)) mem0)).bind fun p90 =>
  some (0, p90)
  else
  j_X10_play_95 a2 a3 a4 a5 mem0
def f_X10_play (a0 : Int) (a1 : Int) (a2 : Int) (a3 : Int) (mem0 : rt_M) : Option (Int × rt_M) :=
  (rt_gf 10 1 a0 mem0).bind fun v1 =>
  (rt_al 5 v1 a1 mem0).bind fun v5 =>
  (rt_gf 10 2 a0 mem0).bind fun v9 =>
  (rt_al 1 v9 a1 mem0).bind fun v13 =>
  if v5 = 13 then
  (rt_gd 7 a3 (f_X7_pass a3 a2 mem0)).bind fun p26 =>
  some (p26.1, p26.2)
  else
  if v5 = 10 then
  (rt_gf 10 3 a0 mem0).bind fun v43 =>
  (rt_al 1 v43 a1 mem0).bind fun v47 =>
  (rt_gd 7 a3 (f_X7_canPut a3 a2 v13 v47 mem0)).bind fun p48 =>
  if p48.1 = 0 then
  j_X10_play_68 a2 a3 v5 v13 p48.2
  else
  (rt_gf 10 3 a0 p48.2).bind fun v58 =>
  (rt_al 1 v58 a1 p48.2).bind fun v62 =>
  (rt_gd 7 a3 (f_X7_place a3 v13 v62 p48.2)).bind fun p63 =>
  some (0, p63)
  else
  j_X10_play_68 a2 a3 v5 v13 mem0
def f_X11_feed (a0 : Int) (a1 : Int) (a3 : Int) (a5 : Int) (mem0 : rt_M) : Option (Int × rt_M) :=
  (rt_gf 11 0 a0 mem0).bind fun v1 =>
  (rt_gd 8 v1 (f_X8_add v1 a1 mem0)).bind fun p5 =>
  (rt_gf 11 0 a0 p5).bind fun v9 =>
  (rt_gd 8 v9 (f_X8_add v9 a3 p5)).bind fun p13 =>
  (rt_gf 11 0 a0 p13).bind fun v17 =>
  (rt_gd 8 v17 (f_X8_add v17 a5 p13)).bind fun p22 =>
  (rt_gf 11 0 a0 p22).bind fun v26 =>
  (rt_gf 8 1 v26 p22).bind fun v29 =>
  some (v29, p22)
def b_X11_realm_57 (a0 : Int) (s : Int × rt_M) : Option ((Int × rt_M) ⊕ (rt_M)) :=
  if 4 ≤ s.1 then
  some (.inr s.2)
  else
  (rt_gf 11 3 a0 s.2).bind fun v63 =>
  (rt_al 7 v63 s.1 s.2).bind fun v67 =>
  (rt_pf 0 4 v67 0 s.2).bind fun m69 =>
  some (.inl ((rt_iadd s.1 1), m69))
def f_X11_realm (a0 : Int) (mem0 : rt_M) : Option (Int × rt_M) :=
  (rt_gf 11 1 a0 mem0).bind fun v1 =>
  (rt_gf 11 8 a0 mem0).bind fun v5 =>
  (rt_gd 3 v1 (f_X3_readRealm v1 v5 mem0)).bind fun p8 =>
  (rt_gf 11 0 a0 p8.2).bind fun v13 =>
  (rt_gd 8 v13 (f_X8_clear v13 p8.2)).bind fun p16 =>
  if p8.1 = 0 then
  (rt_gf 11 7 a0 p16).bind fun v26 =>
  (rt_gf 11 8 a0 p16).bind fun v32 =>
  (rt_pf 11 7 a0 v32 p16).bind fun m35 =>
  (rt_pf 11 8 a0 v26 m35).bind fun m40 =>
  (rt_gf 11 2 a0 m40).bind fun v44 =>
  (rt_gd 0 v44 (f_X0_clear v44 m40)).bind fun p47 =>
  (rt_pf 11 5 a0 0 p47).bind fun m52 =>
  (rt_it (b_X11_realm_57 a0) 4000 ((0, m52))).bind fun X57 =>
  some (0, X57)
  else
  some (p8.1, p16)
def j_X11_years_41 (a1 : Int) (mem0 : rt_M) : Option (Int × rt_M) :=
  some (a1, mem0)
def f_X11_years (a0 : Int) (mem0 : rt_M) : Option (Int × rt_M) :=
  (rt_gf 11 1 a0 mem0).bind fun v1 =>
  (rt_gf 11 7 a0 mem0).bind fun v5 =>
  (rt_gf 11 9 a0 mem0).bind fun v9 =>
  (rt_gd 3 v1 (f_X3_readYears v1 v5 v9 mem0)).bind fun p12 =>
  (rt_gf 11 0 a0 p12.2).bind fun v17 =>
  (rt_gd 8 v17 (f_X8_clear v17 p12.2)).bind fun p20 =>
  if p12.1 = 0 then
  (rt_gf 11 2 a0 p20).bind fun v28 =>
  (rt_gf 0 1 v28 p20).bind fun v31 =>
  (rt_gf 11 9 a0 p20).bind fun v35 =>
  (rt_gd 10 v31 (f_X10_copy v31 v35 p20)).bind fun p38 =>
  j_X11_years_41 p12.1 p38
  else
  j_X11_years_41 p12.1 p20
def f_X11_wig (a0 : Int) (a1 : Int) (a2 : Int) (mem0 : rt_M) : Option (Int) :=
  (rt_gf 11 7 a0 mem0).bind fun v1 =>
  (rt_gd 4 v1 (f_X4_isWig v1 a1 mem0)).bind fun p5 =>
  if p5 = 0 then
  some ((-2))
  else
  if a2 = 0 then
  (rt_gf 11 7 a0 mem0).bind fun v49 =>
  (rt_gd 4 v49 (f_X4_sizeOfWig v49 a1 mem0)).bind fun p53 =>
  some p53
  else
  if a2 = 1 then
  (rt_gf 11 7 a0 mem0).bind fun v58 =>
  (rt_gd 4 v58 (f_X4_officeOf v58 a1 mem0)).bind fun p62 =>
  some p62
  else
  if a2 = 2 then
  (rt_gf 11 7 a0 mem0).bind fun v67 =>
  (rt_gd 4 v67 (f_X4_leanOfWig v67 a1 mem0)).bind fun p71 =>
  some p71
  else
  if a2 = 3 then
  (rt_gf 11 2 a0 mem0).bind fun v76 =>
  (rt_gf 0 0 v76 mem0).bind fun v79 =>
  (rt_gd 7 v79 (f_X7_headUnder v79 a1 mem0)).bind fun p83 =>
  some p83
  else
  if a2 = 4 then
  (rt_gf 11 2 a0 mem0).bind fun v88 =>
  (rt_gf 0 0 v88 mem0).bind fun v91 =>
  (rt_gd 7 v91 (f_X7_wearOf v91 a1 mem0)).bind fun p95 =>
  some p95
  else
  some ((-2))
def f_X11_head (a0 : Int) (a1 : Int) (a2 : Int) (mem0 : rt_M) : Option (Int × rt_M) :=
  (rt_gf 11 7 a0 mem0).bind fun v1 =>
  (rt_gd 4 v1 (f_X4_isHead v1 a1 mem0)).bind fun p5 =>
  if p5 = 0 then
  some ((-2), mem0)
  else
  if a2 = 0 then
  (rt_gf 11 7 a0 mem0).bind fun v53 =>
  (rt_gd 4 v53 (f_X4_ofHead v53 a1 0 mem0)).bind fun p58 =>
  some (p58, mem0)
  else
  if a2 = 1 then
  (rt_gf 11 7 a0 mem0).bind fun v63 =>
  (rt_gd 4 v63 (f_X4_ofHead v63 a1 1 mem0)).bind fun p68 =>
  some (p68, mem0)
  else
  if a2 = 2 then
  (rt_gf 11 7 a0 mem0).bind fun v73 =>
  (rt_gd 4 v73 (f_X4_ofHead v73 a1 2 mem0)).bind fun p78 =>
  some (p78, mem0)
  else
  if a2 = 3 then
  (rt_gf 11 7 a0 mem0).bind fun v83 =>
  (rt_gd 4 v83 (f_X4_ofHead v83 a1 3 mem0)).bind fun p88 =>
  some (p88, mem0)
  else
  if a2 = 4 then
  (rt_gf 11 7 a0 mem0).bind fun v93 =>
  (rt_gf 11 2 a0 mem0).bind fun v98 =>
  (rt_gf 0 0 v98 mem0).bind fun v101 =>
  (rt_gf 7 0 v101 mem0).bind fun v104 =>
  (rt_gd 4 v93 (f_X4_girth v93 a1 v104 mem0)).bind fun p107 =>
  some (p107.1, p107.2)
  else
  if a2 = 5 then
  (rt_gf 11 2 a0 mem0).bind fun v112 =>
  (rt_gf 0 0 v112 mem0).bind fun v115 =>
  (rt_gd 7 v115 (f_X7_wigUpon v115 a1 mem0)).bind fun p119 =>
  some (p119, mem0)
  else
  some ((-2), mem0)
def j_X11_fits_61 (s0 : Int) (mem0 : rt_M) : Option (Int × rt_M) :=
  (rt_bz s0).bind fun _ => some (s0, mem0)
def j_X11_fits_60 (mem0 : rt_M) : Option (Int × rt_M) :=
  j_X11_fits_61 0 mem0
def f_X11_fits (a0 : Int) (a1 : Int) (a2 : Int) (a3 : Int) (mem0 : rt_M) : Option (Int × rt_M) :=
  (rt_gf 11 7 a0 mem0).bind fun v1 =>
  (rt_gd 4 v1 (f_X4_isWig v1 a1 mem0)).bind fun p5 =>
  if p5 = 0 then
  j_X11_fits_60 mem0
  else
  (rt_gf 11 7 a0 mem0).bind fun v12 =>
  (rt_gd 4 v12 (f_X4_isHead v12 a2 mem0)).bind fun p16 =>
  if p16 = 0 then
  j_X11_fits_60 mem0
  else
  if a3 < 0 then
  j_X11_fits_60 mem0
  else
  if 99 < a3 then
  j_X11_fits_60 mem0
  else
  (rt_gf 11 7 a0 mem0).bind fun v33 =>
  (rt_gf 11 2 a0 mem0).bind fun v39 =>
  (rt_gf 0 0 v39 mem0).bind fun v42 =>
  (rt_gf 7 0 v42 mem0).bind fun v45 =>
  (rt_gd 4 v33 (f_X4_isFit v33 a1 a2 ((rt_iadd v45 a3)) mem0)).bind fun p50 =>
  if p50.1 = 0 then
  j_X11_fits_60 p50.2
  else
  j_X11_fits_61 1 p50.2
def f_X11_remember (a0 : Int) (mem0 : rt_M) : Option (rt_M) :=
  (rt_gf 11 4 a0 mem0).bind fun v1 =>
  (rt_gf 11 6 a0 mem0).bind fun v5 =>
  (rt_al 8 v1 v5 mem0).bind fun v8 =>
  (rt_gf 11 2 a0 mem0).bind fun v10 =>
  (rt_gf 0 0 v10 mem0).bind fun v13 =>
  (rt_gd 7 v8 (f_X7_copy v8 v13 mem0)).bind fun p16 =>
  (rt_gf 11 6 a0 p16).bind fun v21 =>
  (f_J9_floorMod_7cf53 ((rt_iadd v21 1)) 16 p16).bind fun p28 =>
  (rt_pf 11 6 a0 p28 p16).bind fun m31 =>
  (rt_gf 11 5 a0 m31).bind fun v36 =>
  (f_J9_min_7cf53 ((rt_iadd v36 1)) 16 m31).bind fun p43 =>
  (rt_pf 11 5 a0 p43 m31).bind fun m46 =>
  some m46
def f_X11_put (a0 : Int) (a1 : Int) (a2 : Int) (mem0 : rt_M) : Option (Int × rt_M) :=
  (rt_gf 11 2 a0 mem0).bind fun v1 =>
  (rt_gf 0 0 v1 mem0).bind fun v4 =>
  (rt_gf 11 7 a0 mem0).bind fun v8 =>
  (rt_gd 7 v4 (f_X7_canPut v4 v8 a1 a2 mem0)).bind fun p13 =>
  if p13.1 = 0 then
  some (0, p13.2)
  else
  (f_X11_remember a0 p13.2).bind fun p22 =>
  (rt_gf 11 2 a0 p22).bind fun v26 =>
  (rt_gf 0 0 v26 p22).bind fun v29 =>
  (rt_gd 7 v29 (f_X7_place v29 a1 a2 p22)).bind fun p34 =>
  some (1, p34)
def f_X11_off (a0 : Int) (a1 : Int) (mem0 : rt_M) : Option (Int × rt_M) :=
  (rt_gf 11 2 a0 mem0).bind fun v1 =>
  (rt_gf 0 0 v1 mem0).bind fun v4 =>
  (rt_gf 11 7 a0 mem0).bind fun v8 =>
  (rt_gd 7 v4 (f_X7_canTakeOff v4 v8 a1 mem0)).bind fun p12 =>
  if p12 = 0 then
  some ((-1), mem0)
  else
  (f_X11_remember a0 mem0).bind fun p21 =>
  (rt_gf 11 2 a0 p21).bind fun v25 =>
  (rt_gf 0 0 v25 p21).bind fun v28 =>
  (rt_gd 7 v28 (f_X7_headUnder v28 a1 p21)).bind fun p32 =>
  (rt_gf 11 2 a0 p21).bind fun v37 =>
  (rt_gf 0 0 v37 p21).bind fun v40 =>
  (rt_gd 7 v40 (f_X7_place v40 a1 ((-1)) p21)).bind fun p45 =>
  some (p32, p45)
def f_X11_mend (a0 : Int) (a1 : Int) (mem0 : rt_M) : Option (Int × rt_M) :=
  (rt_gf 11 2 a0 mem0).bind fun v1 =>
  (rt_gf 0 0 v1 mem0).bind fun v4 =>
  (rt_gf 11 7 a0 mem0).bind fun v8 =>
  (rt_gd 7 v4 (f_X7_canMend v4 v8 a1 mem0)).bind fun p12 =>
  if p12 = 0 then
  some ((-1), mem0)
  else
  (f_X11_remember a0 mem0).bind fun p21 =>
  (rt_gf 11 2 a0 p21).bind fun v25 =>
  (rt_gf 0 0 v25 p21).bind fun v28 =>
  (rt_gd 7 v28 (f_X7_wearOf v28 a1 p21)).bind fun p32 =>
  (rt_gf 11 2 a0 p21).bind fun v37 =>
  (rt_gf 0 0 v37 p21).bind fun v40 =>
  (rt_gd 7 v40 (f_X7_makeNew v40 a1 p21)).bind fun p44 =>
  some (p32, p44)
def f_X11_season (a0 : Int) (mem0 : rt_M) : Option (Int × rt_M) :=
  (f_X11_remember a0 mem0).bind fun p1 =>
  (rt_gf 11 2 a0 p1).bind fun v5 =>
  (rt_gd 0 v5 (f_X0_forgetTilts v5 p1)).bind fun p8 =>
  (rt_gf 11 2 a0 p8).bind fun v12 =>
  (rt_gf 0 0 v12 p8).bind fun v15 =>
  (rt_gf 11 7 a0 p8).bind fun v19 =>
  (rt_gd 7 v15 (f_X7_pass v15 v19 p8)).bind fun p22 =>
  some (p22.1, p22.2)
def f_X11_undo (a0 : Int) (mem0 : rt_M) : Option (Int × rt_M) :=
  (rt_gf 11 5 a0 mem0).bind fun v1 =>
  if 0 < v1 then
  (rt_gf 11 5 a0 mem0).bind fun v11 =>
  (rt_pf 11 5 a0 ((rt_isub v11 1)) mem0).bind fun m16 =>
  (rt_gf 11 6 a0 m16).bind fun v21 =>
  (f_J9_floorMod_7cf53 ((rt_isub v21 1)) 16 m16).bind fun p28 =>
  (rt_pf 11 6 a0 p28 m16).bind fun m31 =>
  (rt_gf 11 2 a0 m31).bind fun v35 =>
  (rt_gf 0 0 v35 m31).bind fun v38 =>
  (rt_gf 11 4 a0 m31).bind fun v42 =>
  (rt_gf 11 6 a0 m31).bind fun v46 =>
  (rt_al 8 v42 v46 m31).bind fun v49 =>
  (rt_gd 7 v38 (f_X7_copy v38 v49 m31)).bind fun p50 =>
  (rt_gf 11 2 a0 p50).bind fun v54 =>
  (rt_gd 0 v54 (f_X0_forgetTilts v54 p50)).bind fun p57 =>
  some (1, p57)
  else
  some (0, mem0)
def j_X11_judged_9 (mem0 : rt_M) : Option (Int × rt_M) :=
  some ((-2), mem0)
def j_X11_judged_90_26 (a0 : Int) (a1 : Int) (a2 : Int) (a3 : Int) (a4 : Int) (mem0 : rt_M) : Option ((Int × Int × Int × rt_M) ⊕ (Int × Int × rt_M)) :=
  some (.inl (a2, a3, (rt_iadd a4 1), mem0))
def j_X11_judged_77_26 (a0 : Int) (a1 : Int) (a2 : Int) (a3 : Int) (a4 : Int) (a5 : Int) (mem0 : rt_M) : Option ((Int × Int × Int × rt_M) ⊕ (Int × Int × rt_M)) :=
  if a5 ≤ 0 then
  j_X11_judged_90_26 a0 a1 a2 a3 a4 mem0
  else
  if a3 = (-1) then
  j_X11_judged_90_26 a0 a1 a2 a4 a4 mem0
  else
  j_X11_judged_90_26 a0 a1 a2 a3 a4 mem0
def b_X11_judged_26 (a0 : Int) (a1 : Int) (s : Int × Int × Int × rt_M) : Option ((Int × Int × Int × rt_M) ⊕ (Int × Int × rt_M)) :=
  (rt_gf 11 2 a0 s.2.2.2).bind fun v29 =>
  (rt_gf 0 1 v29 s.2.2.2).bind fun v32 =>
  (rt_gf 10 0 v32 s.2.2.2).bind fun v35 =>
  if v35 ≤ s.2.2.1 then
  some (.inr (s.1, s.2.1, s.2.2.2))
  else
  (rt_gf 11 2 a0 s.2.2.2).bind fun v42 =>
  (rt_gf 0 1 v42 s.2.2.2).bind fun v45 =>
  (rt_gf 11 7 a0 s.2.2.2).bind fun v51 =>
  (rt_gf 11 10 a0 s.2.2.2).bind fun v55 =>
  (rt_gd 10 v45 (f_X10_play v45 s.2.2.1 v51 v55 s.2.2.2)).bind fun p58 =>
  if p58.1 = (-1) then
  if s.1 = (-1) then
  j_X11_judged_77_26 a0 a1 s.2.2.1 s.2.1 s.2.2.1 p58.1 p58.2
  else
  j_X11_judged_77_26 a0 a1 s.1 s.2.1 s.2.2.1 p58.1 p58.2
  else
  j_X11_judged_77_26 a0 a1 s.1 s.2.1 s.2.2.1 p58.1 p58.2
def j_X11_judged_131 (s0 : Int) (mem0 : rt_M) : Option (Int × rt_M) :=
  some (s0, mem0)
def f_X11_judged (a0 : Int) (a1 : Int) (mem0 : rt_M) : Option (Int × rt_M) :=
  if a1 < 0 then
  j_X11_judged_9 mem0
  else
  if a1 ≤ 2 then
  (rt_gf 11 10 a0 mem0).bind fun v13 =>
  (rt_gd 7 v13 (f_X7_clear v13 mem0)).bind fun p16 =>
  (rt_it (b_X11_judged_26 a0 a1) 4000 (((-1), (-1), 0, p16))).bind fun X26 =>
  if a1 = 0 then
  j_X11_judged_131 X26.1 X26.2.2
  else
  if a1 = 1 then
  j_X11_judged_131 X26.2.1 X26.2.2
  else
  (rt_gf 11 7 a0 X26.2.2).bind fun v114 =>
  (rt_gf 11 10 a0 X26.2.2).bind fun v118 =>
  (rt_gf 11 7 a0 X26.2.2).bind fun v122 =>
  (rt_gd 7 v118 (f_X7_worn v118 v122 X26.2.2)).bind fun p125 =>
  (rt_gd 4 v114 (f_X4_officeOfAll v114 p125 X26.2.2)).bind fun p128 =>
  j_X11_judged_131 p128 X26.2.2
  else
  j_X11_judged_9 mem0
def j_X11_isHardness_15 (s0 : Int) (mem0 : rt_M) : Option (Int) :=
  (rt_bz s0).bind fun _ => some s0
def j_X11_isHardness_14 (mem0 : rt_M) : Option (Int) :=
  j_X11_isHardness_15 0 mem0
def f_X11_isHardness (a0 : Int) (mem0 : rt_M) : Option (Int) :=
  if a0 < 0 then
  j_X11_isHardness_14 mem0
  else
  if 9 < a0 then
  j_X11_isHardness_14 mem0
  else
  j_X11_isHardness_15 1 mem0
def j_X11_wigsFor_61_4 (a0 : Int) (a1 : Int) (a2 : Int) (a3 : Int) (mem0 : rt_M) : Option ((Int × Int × rt_M) ⊕ (Int × rt_M)) :=
  some (.inl (a2, (rt_iadd a3 1), mem0))
def b_X11_wigsFor_4 (a0 : Int) (a1 : Int) (s : Int × Int × rt_M) : Option ((Int × Int × rt_M) ⊕ (Int × rt_M)) :=
  (rt_gf 11 7 a0 s.2.2).bind fun v6 =>
  (rt_gf 4 0 v6 s.2.2).bind fun v9 =>
  if v9 ≤ s.2.1 then
  some (.inr (s.1, s.2.2))
  else
  (rt_gf 11 2 a0 s.2.2).bind fun v16 =>
  (rt_gf 0 0 v16 s.2.2).bind fun v19 =>
  (rt_gd 7 v19 (f_X7_headUnder v19 s.2.1 s.2.2)).bind fun p23 =>
  if p23 = (-1) then
  j_X11_wigsFor_61_4 a0 a1 s.1 s.2.1 s.2.2
  else
  (rt_gf 11 7 a0 s.2.2).bind fun v35 =>
  (rt_gf 11 7 a0 s.2.2).bind fun v39 =>
  (rt_gd 4 v39 (f_X4_leanOfWig v39 s.2.1 s.2.2)).bind fun p43 =>
  (rt_gd 4 v35 (f_X4_isFor v35 p43 p23 a1 s.2.2)).bind fun p49 =>
  if p49.1 = 0 then
  j_X11_wigsFor_61_4 a0 a1 s.1 s.2.1 p49.2
  else
  j_X11_wigsFor_61_4 a0 a1 ((rt_ior s.1 (rt_ishl 1 s.2.1))) s.2.1 p49.2
def f_X11_wigsFor (a0 : Int) (a1 : Int) (mem0 : rt_M) : Option (Int × rt_M) :=
  (rt_it (b_X11_wigsFor_4 a0 a1) 4000 ((0, 0, mem0))).bind fun X4 =>
  some (X4.1, X4.2)
def j_X11_verdict_16 (s0 : Int) (mem0 : rt_M) : Option (Int × rt_M) :=
  some (s0, mem0)
def f_X11_verdict (a0 : Int) (a1 : Int) (mem0 : rt_M) : Option (Int × rt_M) :=
  (f_X11_isHardness a1 mem0).bind fun p1 =>
  if p1 = 0 then
  j_X11_verdict_16 ((-1)) mem0
  else
  (f_X11_wigsFor a0 a1 mem0).bind fun p9 =>
  j_X11_verdict_16 p9.1 p9.2
def j_X11_votes_23 (s0 : Int) (mem0 : rt_M) : Option (Int × rt_M) :=
  some (s0, mem0)
def f_X11_votes (a0 : Int) (a1 : Int) (mem0 : rt_M) : Option (Int × rt_M) :=
  (f_X11_isHardness a1 mem0).bind fun p1 =>
  if p1 = 0 then
  j_X11_votes_23 ((-1)) mem0
  else
  (rt_gf 11 7 a0 mem0).bind fun v8 =>
  (f_X11_wigsFor a0 a1 mem0).bind fun p13 =>
  (rt_gd 4 v8 (f_X4_officeOfAll v8 p13.1 p13.2)).bind fun p16 =>
  j_X11_votes_23 p16 p13.2
def b_X11_isFitThrough_3 (a0 : Int) (a1 : Int) (a2 : Int) (a3 : Int) (s : Int × rt_M) : Option ((Int × rt_M) ⊕ ((rt_M) ⊕ (Int × rt_M))) :=
  if a3 ≤ s.1 then
  some (.inr (.inl s.2))
  else
  (rt_gf 11 7 a0 s.2).bind fun v10 =>
  (rt_gf 11 2 a0 s.2).bind fun v16 =>
  (rt_gf 0 0 v16 s.2).bind fun v19 =>
  (rt_gf 7 0 v19 s.2).bind fun v22 =>
  (rt_gd 4 v10 (f_X4_isFit v10 a1 a2 ((rt_iadd v22 s.1)) s.2)).bind fun p28 =>
  if p28.1 = 0 then
  Option.map (fun t => .inr (.inr t)) (some (0, p28.2))
  else
  some (.inl ((rt_iadd s.1 1), p28.2))
def f_X11_isFitThrough (a0 : Int) (a1 : Int) (a2 : Int) (a3 : Int) (mem0 : rt_M) : Option (Int × rt_M) :=
  (rt_it (b_X11_isFitThrough_3 a0 a1 a2 a3) 4000 ((0, mem0))).bind fun E3 => match E3 with
  | .inr t => some t
  | .inl X3 =>
  some (1, X3)
def j_X11_openHeads_49_2 (a0 : Int) (a1 : Int) (a2 : Int) (a3 : Int) (mem0 : rt_M) : Option ((Int × rt_M) ⊕ (rt_M)) :=
  some (.inl ((rt_iadd a3 1), mem0))
def b_X11_openHeads_2 (a0 : Int) (a1 : Int) (a2 : Int) (s : Int × rt_M) : Option ((Int × rt_M) ⊕ (rt_M)) :=
  (rt_gf 11 7 a0 s.2).bind fun v4 =>
  (rt_gf 4 1 v4 s.2).bind fun v7 =>
  if v7 ≤ s.1 then
  some (.inr s.2)
  else
  (f_X11_isFitThrough a0 a1 s.1 a2 s.2).bind fun p17 =>
  if p17.1 = 0 then
  j_X11_openHeads_49_2 a0 a1 a2 s.1 p17.2
  else
  (rt_gf 11 12 a0 p17.2).bind fun v24 =>
  (rt_gd 5 v24 (f_X5_open v24 a1 s.1 p17.2)).bind fun p29 =>
  (rt_gf 11 12 a0 p29).bind fun v33 =>
  (rt_gf 11 7 a0 p29).bind fun v39 =>
  (rt_gd 4 v39 (f_X4_officeOf v39 a1 p29)).bind fun p43 =>
  (rt_gd 5 v33 (f_X5_gains v33 a1 s.1 p43 p29)).bind fun p46 =>
  j_X11_openHeads_49_2 a0 a1 a2 s.1 p46
def f_X11_openHeads (a0 : Int) (a1 : Int) (a2 : Int) (mem0 : rt_M) : Option (rt_M) :=
  (rt_it (b_X11_openHeads_2 a0 a1 a2) 4000 ((0, mem0))).bind fun X2 =>
  some X2
def j_X11_fill_27 (mem0 : rt_M) : Option (Int × rt_M) :=
  some ((-2), mem0)
def j_X11_fill_91_63 (a0 : Int) (a1 : Int) (a2 : Int) (a3 : Int) (a4 : Int) (mem0 : rt_M) : Option ((Int × rt_M) ⊕ (rt_M)) :=
  some (.inl ((rt_iadd a4 1), mem0))
def b_X11_fill_63 (a0 : Int) (a1 : Int) (a2 : Int) (a3 : Int) (s : Int × rt_M) : Option ((Int × rt_M) ⊕ (rt_M)) :=
  (rt_gf 11 7 a0 s.2).bind fun v66 =>
  (rt_gf 4 0 v66 s.2).bind fun v69 =>
  if v69 ≤ s.1 then
  some (.inr s.2)
  else
  if (rt_iand (rt_ishr a3 s.1) 1) = 0 then
  (f_X11_openHeads a0 s.1 a1 s.2).bind fun p88 =>
  j_X11_fill_91_63 a0 a1 a2 a3 s.1 p88
  else
  j_X11_fill_91_63 a0 a1 a2 a3 s.1 s.2
def j_X11_fill_124 (s0 : Int) (mem0 : rt_M) : Option (Int × rt_M) :=
  some (s0, mem0)
def j_X11_fill_30 (a0 : Int) (a1 : Int) (a2 : Int) (mem0 : rt_M) : Option (Int × rt_M) :=
  (rt_gf 11 12 a0 mem0).bind fun v31 =>
  (rt_gf 11 7 a0 mem0).bind fun v35 =>
  (rt_gf 4 0 v35 mem0).bind fun v38 =>
  (rt_gd 5 v31 (f_X5_begin v31 v38 0 mem0)).bind fun p42 =>
  (rt_gf 11 2 a0 p42).bind fun v46 =>
  (rt_gf 0 0 v46 p42).bind fun v49 =>
  (rt_gf 11 7 a0 p42).bind fun v53 =>
  (rt_gd 7 v49 (f_X7_wornOut v49 v53 p42)).bind fun p56 =>
  (rt_it (b_X11_fill_63 a0 a1 a2 p56) 4000 ((0, p42))).bind fun X63 =>
  (rt_gf 11 12 a0 X63).bind fun v98 =>
  (rt_gd 5 v98 (f_X5_solve v98 X63)).bind fun p101 =>
  if a2 = (-1) then
  j_X11_fill_124 p101.1 p101.2
  else
  (rt_gf 11 12 a0 p101.2).bind fun v117 =>
  (rt_gd 5 v117 (f_X5_chosen v117 a2 p101.2)).bind fun p121 =>
  j_X11_fill_124 p121 p101.2
def f_X11_fill (a0 : Int) (a1 : Int) (a2 : Int) (mem0 : rt_M) : Option (Int × rt_M) :=
  if a1 < 1 then
  j_X11_fill_27 mem0
  else
  if 8 < a1 then
  j_X11_fill_27 mem0
  else
  if a2 = (-1) then
  j_X11_fill_30 a0 a1 a2 mem0
  else
  (rt_gf 11 7 a0 mem0).bind fun v17 =>
  (rt_gd 4 v17 (f_X4_isWig v17 a2 mem0)).bind fun p21 =>
  if p21 = 0 then
  j_X11_fill_27 mem0
  else
  j_X11_fill_30 a0 a1 a2 mem0
def j_X11_say_39 (s0 : Int) (mem0 : rt_M) : Option (Int × rt_M) :=
  (rt_bz s0).bind fun _ => some (s0, mem0)
def j_X11_say_38 (mem0 : rt_M) : Option (Int × rt_M) :=
  j_X11_say_39 0 mem0
def f_X11_say (a0 : Int) (a1 : Int) (a2 : Int) (a3 : Int) (mem0 : rt_M) : Option (Int × rt_M) :=
  (rt_gf 11 7 a0 mem0).bind fun v1 =>
  (rt_gd 4 v1 (f_X4_isHead v1 a1 mem0)).bind fun p5 =>
  if p5 = 0 then
  j_X11_say_38 mem0
  else
  (f_X11_isHardness a2 mem0).bind fun p12 =>
  if p12 = 0 then
  j_X11_say_38 mem0
  else
  (rt_gf 11 2 a0 mem0).bind fun v19 =>
  (rt_gf 0 2 v19 mem0).bind fun v22 =>
  (rt_gd 6 v22 (f_X6_add v22 a1 a2 a3 mem0)).bind fun p28 =>
  if p28.1 = 0 then
  j_X11_say_38 p28.2
  else
  j_X11_say_39 1 p28.2
def f_J6_bitCount_0f7a4 (a0 : Int) (mem0 : rt_M) : Option (Int) :=
  some ((rt_iand (rt_iadd (rt_iadd (rt_iand (rt_iadd (rt_iadd (rt_iand (rt_isub a0 (rt_iand (rt_iushr a0 1) 1431655765)) 858993459) (rt_iand (rt_iushr (rt_isub a0 (rt_iand (rt_iushr a0 1) 1431655765)) 2) 858993459)) (rt_iushr (rt_iadd (rt_iand (rt_isub a0 (rt_iand (rt_iushr a0 1) 1431655765)) 858993459) (rt_iand (rt_iushr (rt_isub a0 (rt_iand (rt_iushr a0 1) 1431655765)) 2) 858993459)) 4)) 252645135) (rt_iushr (rt_iand (rt_iadd (rt_iadd (rt_iand (rt_isub a0 (rt_iand (rt_iushr a0 1) 1431655765)) 858993459) (rt_iand (rt_iushr (rt_isub a0 (rt_iand (rt_iushr a0 1) 1431655765)) 2) 858993459)) (rt_iushr (rt_iadd (rt_iand (rt_isub a0 (rt_iand (rt_iushr a0 1) 1431655765)) 858993459) (rt_iand (rt_iushr (rt_isub a0 (rt_iand (rt_iushr a0 1) 1431655765)) 2) 858993459)) 4)) 252645135) 8)) (rt_iushr (rt_iadd (rt_iand (rt_iadd (rt_iadd (rt_iand (rt_isub a0 (rt_iand (rt_iushr a0 1) 1431655765)) 858993459) (rt_iand (rt_iushr (rt_isub a0 (rt_iand (rt_iushr a0 1) 1431655765)) 2) 858993459)) (rt_iushr (rt_iadd (rt_iand (rt_isub a0 (rt_iand (rt_iushr a0 1) 1431655765)) 858993459) (rt_iand (rt_iushr (rt_isub a0 (rt_iand (rt_iushr a0 1) 1431655765)) 2) 858993459)) 4)) 252645135) (rt_iushr (rt_iand (rt_iadd (rt_iadd (rt_iand (rt_isub a0 (rt_iand (rt_iushr a0 1) 1431655765)) 858993459) (rt_iand (rt_iushr (rt_isub a0 (rt_iand (rt_iushr a0 1) 1431655765)) 2) 858993459)) (rt_iushr (rt_iadd (rt_iand (rt_isub a0 (rt_iand (rt_iushr a0 1) 1431655765)) 858993459) (rt_iand (rt_iushr (rt_isub a0 (rt_iand (rt_iushr a0 1) 1431655765)) 2) 858993459)) 4)) 252645135) 8)) 16)) 63))
def j_X11_leans_71_41 (a1 : Int) (a2 : Int) (a3 : Int) (a4 : Int) (mem0 : rt_M) : Option ((Int × Int × rt_M) ⊕ (Int × rt_M)) :=
  some (.inl (a3, (rt_iadd a4 1), mem0))
def j_X11_leans_68_41 (a1 : Int) (a2 : Int) (a4 : Int) (mem0 : rt_M) : Option ((Int × Int × rt_M) ⊕ (Int × rt_M)) :=
  j_X11_leans_71_41 a1 a2 a4 a4 mem0
def b_X11_leans_41 (a1 : Int) (a2 : Int) (s : Int × Int × rt_M) : Option ((Int × Int × rt_M) ⊕ (Int × rt_M)) :=
  if 9 < s.2.1 then
  some (.inr (s.1, s.2.2))
  else
  if (rt_iand (rt_ishr a2 s.2.1) 1) = 1 then
  if s.1 = (-1) then
  j_X11_leans_68_41 a1 a2 s.2.1 s.2.2
  else
  if a1 = 2 then
  j_X11_leans_68_41 a1 a2 s.2.1 s.2.2
  else
  j_X11_leans_71_41 a1 a2 s.1 s.2.1 s.2.2
  else
  j_X11_leans_71_41 a1 a2 s.1 s.2.1 s.2.2
def j_X11_leans_36 (a1 : Int) (a2 : Int) (mem0 : rt_M) : Option (Int × rt_M) :=
  (rt_it (b_X11_leans_41 a1 a2) 4000 (((-1), 0, mem0))).bind fun X41 =>
  some (X41.1, X41.2)
def f_X11_leans (a0 : Int) (a1 : Int) (mem0 : rt_M) : Option (Int × rt_M) :=
  (rt_gf 11 2 a0 mem0).bind fun v1 =>
  (rt_gf 0 2 v1 mem0).bind fun v4 =>
  (rt_gf 11 7 a0 mem0).bind fun v8 =>
  (rt_gd 6 v4 (f_X6_possible v4 v8 mem0)).bind fun p11 =>
  if a1 = 0 then
  (f_J6_bitCount_0f7a4 p11.1 p11.2).bind fun p20 =>
  some (p20, p11.2)
  else
  if a1 = 1 then
  j_X11_leans_36 a1 p11.1 p11.2
  else
  if a1 = 2 then
  j_X11_leans_36 a1 p11.1 p11.2
  else
  some ((-1), p11.2)
def j_X11_next_90_55 (a0 : Int) (a1 : Int) (a2 : Int) (a3 : Int) (a4 : Int) (a5 : Int) (a6 : Int) (a7 : Int) (a8 : Int) (mem0 : rt_M) : Option ((Int × Int × rt_M) ⊕ (Int × rt_M)) :=
  some (.inl (a7, (rt_iadd a8 1), mem0))
def b_X11_next_55 (a0 : Int) (a1 : Int) (a2 : Int) (a3 : Int) (a4 : Int) (a5 : Int) (a6 : Int) (s : Int × Int × rt_M) : Option ((Int × Int × rt_M) ⊕ (Int × rt_M)) :=
  if 9 < s.2.1 then
  some (.inr (s.1, s.2.2))
  else
  if (rt_iand (rt_ishr a2 s.2.1) 1) = 1 then
  (rt_gf 11 7 a0 s.2.2).bind fun v73 =>
  (rt_gd 4 v73 (f_X4_isFor v73 s.2.1 a1 a6 s.2.2)).bind fun p81 =>
  if p81.1 = 0 then
  j_X11_next_90_55 a0 a1 a2 a3 a4 a5 a6 s.1 s.2.1 p81.2
  else
  j_X11_next_90_55 a0 a1 a2 a3 a4 a5 a6 ((rt_iadd s.1 1)) s.2.1 p81.2
  else
  j_X11_next_90_55 a0 a1 a2 a3 a4 a5 a6 s.1 s.2.1 s.2.2
def j_X11_next_122_42 (a0 : Int) (a1 : Int) (a2 : Int) (a3 : Int) (a4 : Int) (a5 : Int) (a6 : Int) (mem0 : rt_M) : Option ((Int × Int × Int × rt_M) ⊕ (Int × rt_M)) :=
  some (.inl (a4, a5, (rt_iadd a6 1), mem0))
def b_X11_next_42 (a0 : Int) (a1 : Int) (a2 : Int) (a3 : Int) (s : Int × Int × Int × rt_M) : Option ((Int × Int × Int × rt_M) ⊕ (Int × rt_M)) :=
  if 9 < s.2.2.1 then
  some (.inr (s.2.1, s.2.2.2))
  else
  (rt_it (b_X11_next_55 a0 a1 a2 a3 s.1 s.2.1 s.2.2.1) 4000 ((0, 0, s.2.2.2))).bind fun X55 =>
  (f_J9_max_7cf53 X55.1 ((rt_isub a3 X55.1)) X55.2).bind fun p102 =>
  if s.1 ≤ p102 then
  j_X11_next_122_42 a0 a1 a2 a3 s.1 s.2.1 s.2.2.1 X55.2
  else
  j_X11_next_122_42 a0 a1 a2 a3 p102 s.2.2.1 s.2.2.1 X55.2
def f_X11_next (a0 : Int) (a1 : Int) (mem0 : rt_M) : Option (Int × rt_M) :=
  (rt_gf 11 7 a0 mem0).bind fun v1 =>
  (rt_gd 4 v1 (f_X4_isHead v1 a1 mem0)).bind fun p5 =>
  if p5 = 0 then
  some ((-1), mem0)
  else
  (rt_gf 11 2 a0 mem0).bind fun v14 =>
  (rt_gf 0 2 v14 mem0).bind fun v17 =>
  (rt_gf 11 7 a0 mem0).bind fun v21 =>
  (rt_gd 6 v17 (f_X6_possible v17 v21 mem0)).bind fun p24 =>
  (f_J6_bitCount_0f7a4 p24.1 p24.2).bind fun p29 =>
  (rt_it (b_X11_next_42 a0 a1 p24.1 p29) 4000 ((p29, (-1), 0, p24.2))).bind fun X42 =>
  some (X42.1, X42.2)
def j_X11_baths_33 (mem0 : rt_M) : Option (Int × rt_M) :=
  some ((-1), mem0)
def b_X11_baths_41 (a0 : Int) (a1 : Int) (a2 : Int) (a3 : Int) (s : Int × Int × rt_M) : Option ((Int × Int × rt_M) ⊕ (Int × rt_M)) :=
  if a3 ≤ s.2.1 then
  some (.inr (s.1, s.2.2))
  else
  (rt_gf 11 7 a0 s.2.2).bind fun v48 =>
  (rt_gd 4 v48 (f_X4_sizeOfWig v48 a2 s.2.2)).bind fun p52 =>
  (rt_gf 11 7 a0 s.2.2).bind fun v56 =>
  (rt_gf 11 2 a0 s.2.2).bind fun v61 =>
  (rt_gf 0 0 v61 s.2.2).bind fun v64 =>
  (rt_gf 7 0 v64 s.2.2).bind fun v67 =>
  (rt_gd 4 v56 (f_X4_girth v56 a1 ((rt_iadd v67 s.2.1)) s.2.2)).bind fun p73 =>
  (f_J9_max_7cf53 0 ((rt_ineg (rt_isub p52 p73.1))) p73.2).bind fun p85 =>
  (rt_gf 11 7 a0 p73.2).bind fun v92 =>
  (rt_gf 4 8 v92 p73.2).bind fun v95 =>
  (f_J9_max_7cf53 0 ((rt_isub (rt_isub p52 p73.1) v95)) p73.2).bind fun p99 =>
  some (.inl ((rt_iadd s.1 (rt_iadd p85 p99)), (rt_iadd s.2.1 1), p73.2))
def f_X11_baths (a0 : Int) (a1 : Int) (a2 : Int) (a3 : Int) (mem0 : rt_M) : Option (Int × rt_M) :=
  (rt_gf 11 7 a0 mem0).bind fun v1 =>
  (rt_gd 4 v1 (f_X4_isHead v1 a1 mem0)).bind fun p5 =>
  if p5 = 0 then
  j_X11_baths_33 mem0
  else
  (rt_gf 11 7 a0 mem0).bind fun v12 =>
  (rt_gd 4 v12 (f_X4_isWig v12 a2 mem0)).bind fun p16 =>
  if p16 = 0 then
  j_X11_baths_33 mem0
  else
  if a3 < 1 then
  j_X11_baths_33 mem0
  else
  if a3 ≤ 40 then
  (rt_it (b_X11_baths_41 a0 a1 a2 a3) 4000 ((0, 0, mem0))).bind fun X41 =>
  some (X41.1, X41.2)
  else
  j_X11_baths_33 mem0
def b_X11_keeps_36 (a0 : Int) (a1 : Int) (a2 : Int) (s : Int × rt_M) : Option ((Int × rt_M) ⊕ ((rt_M) ⊕ (Int × rt_M))) :=
  if 40 < s.1 then
  some (.inr (.inl s.2))
  else
  (rt_gf 11 7 a0 s.2).bind fun v43 =>
  (rt_gf 11 2 a0 s.2).bind fun v49 =>
  (rt_gf 0 0 v49 s.2).bind fun v52 =>
  (rt_gf 7 0 v52 s.2).bind fun v55 =>
  (rt_gd 4 v43 (f_X4_isFit v43 a1 a2 ((rt_iadd v55 s.1)) s.2)).bind fun p60 =>
  if p60.1 = 0 then
  Option.map (fun t => .inr (.inr t)) (some (s.1, p60.2))
  else
  some (.inl ((rt_iadd s.1 1), p60.2))
def j_X11_keeps_26 (a0 : Int) (a1 : Int) (s0 : Int) (mem0 : rt_M) : Option (Int × rt_M) :=
  if s0 = (-1) then
  some ((-1), mem0)
  else
  (rt_it (b_X11_keeps_36 a0 a1 s0) 4000 ((1, mem0))).bind fun E36 => match E36 with
  | .inr t => some t
  | .inl X36 =>
  some ((-1), X36)
def f_X11_keeps (a0 : Int) (a1 : Int) (mem0 : rt_M) : Option (Int × rt_M) :=
  (rt_gf 11 7 a0 mem0).bind fun v1 =>
  (rt_gd 4 v1 (f_X4_isWig v1 a1 mem0)).bind fun p5 =>
  if p5 = 0 then
  j_X11_keeps_26 a0 a1 ((-1)) mem0
  else
  (rt_gf 11 2 a0 mem0).bind fun v12 =>
  (rt_gf 0 0 v12 mem0).bind fun v15 =>
  (rt_gd 7 v15 (f_X7_headUnder v15 a1 mem0)).bind fun p19 =>
  j_X11_keeps_26 a0 a1 p19 mem0
def j_X11_openStands_37_2 (a0 : Int) (a1 : Int) (a2 : Int) (mem0 : rt_M) : Option ((Int × rt_M) ⊕ (rt_M)) :=
  some (.inl ((rt_iadd a2 1), mem0))
def b_X11_openStands_2 (a0 : Int) (a1 : Int) (s : Int × rt_M) : Option ((Int × rt_M) ⊕ (rt_M)) :=
  (rt_gf 11 7 a0 s.2).bind fun v4 =>
  (rt_gf 4 0 v4 s.2).bind fun v7 =>
  if v7 ≤ s.1 then
  some (.inr s.2)
  else
  (rt_gf 11 10 a0 s.2).bind fun v14 =>
  (rt_gf 11 7 a0 s.2).bind fun v18 =>
  (rt_gd 7 v14 (f_X7_canMend v14 v18 s.1 s.2)).bind fun p22 =>
  if p22 = 0 then
  j_X11_openStands_37_2 a0 a1 s.1 s.2
  else
  (rt_gf 11 12 a0 s.2).bind fun v29 =>
  (rt_gd 5 v29 (f_X5_open v29 a1 s.1 s.2)).bind fun p34 =>
  j_X11_openStands_37_2 a0 a1 s.1 p34
def f_X11_openStands (a0 : Int) (a1 : Int) (mem0 : rt_M) : Option (rt_M) :=
  (rt_it (b_X11_openStands_2 a0 a1) 4000 ((0, mem0))).bind fun X2 =>
  some X2
def j_X11_moths_19 (mem0 : rt_M) : Option (Int × rt_M) :=
  some ((-2), mem0)
def b_X11_moths_47 (a0 : Int) (a1 : Int) (a2 : Int) (s : Int × rt_M) : Option ((Int × rt_M) ⊕ (rt_M)) :=
  if a1 ≤ s.1 then
  some (.inr s.2)
  else
  (f_X11_openStands a0 s.1 s.2).bind fun p54 =>
  (rt_gf 11 10 a0 p54).bind fun v58 =>
  (rt_gf 11 7 a0 p54).bind fun v62 =>
  (rt_gd 7 v58 (f_X7_pass v58 v62 p54)).bind fun p65 =>
  some (.inl ((rt_iadd s.1 1), p65.2))
def j_X11_moths_142_99 (a0 : Int) (a1 : Int) (a2 : Int) (a3 : Int) (a4 : Int) (a5 : Int) (s0 : Int) (s1 : Int) (s2 : Int) (s3 : Int) (mem0 : rt_M) : Option ((Int × rt_M) ⊕ (rt_M)) :=
  (rt_gd 5 s0 (f_X5_gains s0 s1 s2 s3 mem0)).bind fun p142 =>
  some (.inl ((rt_iadd a5 1), p142))
def b_X11_moths_99 (a0 : Int) (a1 : Int) (a2 : Int) (a3 : Int) (a4 : Int) (s : Int × rt_M) : Option ((Int × rt_M) ⊕ (rt_M)) :=
  (rt_gf 11 7 a0 s.2).bind fun v102 =>
  (rt_gf 4 0 v102 s.2).bind fun v105 =>
  if v105 ≤ s.1 then
  some (.inr s.2)
  else
  (rt_gf 11 12 a0 s.2).bind fun v112 =>
  if (rt_iand (rt_ishr a3 s.1) 1) = 1 then
  (rt_gf 11 7 a0 s.2).bind fun v130 =>
  (rt_gd 4 v130 (f_X4_officeOf v130 s.1 s.2)).bind fun p135 =>
  j_X11_moths_142_99 a0 a1 a2 a3 a4 s.1 v112 a4 s.1 p135 s.2
  else
  j_X11_moths_142_99 a0 a1 a2 a3 a4 s.1 v112 a4 s.1 0 s.2
def b_X11_moths_90 (a0 : Int) (a1 : Int) (a2 : Int) (a3 : Int) (s : Int × rt_M) : Option ((Int × rt_M) ⊕ (rt_M)) :=
  if a1 ≤ s.1 then
  some (.inr s.2)
  else
  (rt_it (b_X11_moths_99 a0 a1 a2 a3 s.1) 4000 ((0, s.2))).bind fun X99 =>
  some (.inl ((rt_iadd s.1 1), X99))
def j_X11_moths_196 (s0 : Int) (mem0 : rt_M) : Option (Int × rt_M) :=
  some (s0, mem0)
def f_X11_moths (a0 : Int) (a1 : Int) (a2 : Int) (mem0 : rt_M) : Option (Int × rt_M) :=
  if a1 < 1 then
  j_X11_moths_19 mem0
  else
  if 4 < a1 then
  j_X11_moths_19 mem0
  else
  if a2 < 0 then
  j_X11_moths_19 mem0
  else
  if a2 ≤ a1 then
  (rt_gf 11 12 a0 mem0).bind fun v23 =>
  (rt_gd 5 v23 (f_X5_begin v23 a1 1 mem0)).bind fun p28 =>
  (rt_gf 11 10 a0 p28).bind fun v32 =>
  (rt_gf 11 2 a0 p28).bind fun v36 =>
  (rt_gf 0 0 v36 p28).bind fun v39 =>
  (rt_gd 7 v32 (f_X7_copy v32 v39 p28)).bind fun p42 =>
  (rt_it (b_X11_moths_47 a0 a1 a2) 4000 ((0, p42))).bind fun X47 =>
  (rt_gf 11 10 a0 X47).bind fun v76 =>
  (rt_gf 11 7 a0 X47).bind fun v80 =>
  (rt_gd 7 v76 (f_X7_wornOut v76 v80 X47)).bind fun p83 =>
  (rt_it (b_X11_moths_90 a0 a1 a2 p83) 4000 ((0, X47))).bind fun X90 =>
  (rt_gf 11 12 a0 X90).bind fun v158 =>
  (rt_gd 5 v158 (f_X5_solve v158 X90)).bind fun p161 =>
  if a2 = 0 then
  (rt_gf 11 7 a0 p161.2).bind fun v171 =>
  (rt_gd 4 v171 (f_X4_officeOfAll v171 ((rt_ixor p83 (-1))) p161.2)).bind fun p177 =>
  j_X11_moths_196 ((rt_iadd p177 p161.1)) p161.2
  else
  (rt_gf 11 12 a0 p161.2).bind fun v187 =>
  (rt_gd 5 v187 (f_X5_chosen v187 ((rt_isub a2 1)) p161.2)).bind fun p193 =>
  j_X11_moths_196 p193 p161.2
  else
  j_X11_moths_19 mem0
def j_X11_tell_21 (mem0 : rt_M) : Option (Int × rt_M) :=
  some (0, mem0)
def f_X11_tell (a0 : Int) (a1 : Int) (a2 : Int) (mem0 : rt_M) : Option (Int × rt_M) :=
  (rt_gf 11 7 a0 mem0).bind fun v1 =>
  (rt_gd 4 v1 (f_X4_isWig v1 a1 mem0)).bind fun p5 =>
  if p5 = 0 then
  j_X11_tell_21 mem0
  else
  if a2 < 0 then
  j_X11_tell_21 mem0
  else
  if a2 ≤ 9 then
  (rt_gf 11 2 a0 mem0).bind fun v24 =>
  (rt_gf 0 3 v24 mem0).bind fun v27 =>
  (rt_sa 1 v27 a1 a2 mem0).bind fun m32 =>
  some (1, m32)
  else
  j_X11_tell_21 mem0
def j_X11_under_88 (mem0 : rt_M) : Option (Int × rt_M) :=
  some ((-1), mem0)
def j_X11_under_155_107 (a0 : Int) (a1 : Int) (a2 : Int) (a3 : Int) (mem0 : rt_M) : Option ((Int × rt_M) ⊕ ((rt_M) ⊕ (Int × rt_M))) :=
  some (.inl ((rt_iadd a3 1), mem0))
def b_X11_under_107 (a0 : Int) (a1 : Int) (a2 : Int) (s : Int × rt_M) : Option ((Int × rt_M) ⊕ ((rt_M) ⊕ (Int × rt_M))) :=
  (rt_gf 11 7 a0 s.2).bind fun v109 =>
  (rt_gf 4 1 v109 s.2).bind fun v112 =>
  if v112 ≤ s.1 then
  some (.inr (.inl s.2))
  else
  (rt_gf 11 11 a0 s.2).bind fun v119 =>
  (rt_gd 1 v119 (f_X1_tiltOf v119 a1 s.1 s.2)).bind fun p124 =>
  (rt_gf 11 2 a0 s.2).bind fun v128 =>
  (rt_gf 0 3 v128 s.2).bind fun v131 =>
  (rt_al 1 v131 a1 s.2).bind fun v135 =>
  if p124 = v135 then
  (rt_gf 11 11 a0 s.2).bind fun v140 =>
  (rt_gd 1 v140 (f_X1_waysWithout v140 ((rt_ishl 1 s.1)) s.2)).bind fun p146 =>
  if p146 = a2 then
  Option.map (fun t => .inr (.inr t)) (some (s.1, s.2))
  else
  j_X11_under_155_107 a0 a1 a2 s.1 s.2
  else
  j_X11_under_155_107 a0 a1 a2 s.1 s.2
def j_X11_under_19 (a0 : Int) (a1 : Int) (mem0 : rt_M) : Option (Int × rt_M) :=
  (rt_gf 11 11 a0 mem0).bind fun v20 =>
  (rt_gf 11 7 a0 mem0).bind fun v24 =>
  (rt_gf 11 2 a0 mem0).bind fun v28 =>
  (rt_gf 0 0 v28 mem0).bind fun v31 =>
  (rt_gf 7 0 v31 mem0).bind fun v34 =>
  (rt_gd 1 v20 (f_X1_measure v20 v24 v34 mem0)).bind fun p37 =>
  (rt_gf 11 11 a0 p37).bind fun v41 =>
  (rt_gf 11 2 a0 p37).bind fun v45 =>
  (rt_gf 0 3 v45 p37).bind fun v48 =>
  (rt_gd 1 v41 (f_X1_layWays v41 v48 ((-1)) p37)).bind fun p52 =>
  (rt_gf 11 11 a0 p52).bind fun v56 =>
  (rt_gd 1 v56 (f_X1_waysWithout v56 0 p52)).bind fun p60 =>
  if a1 = (-1) then
  some (p60, p52)
  else
  (rt_gf 11 2 a0 p52).bind fun v72 =>
  (rt_gf 0 3 v72 p52).bind fun v75 =>
  (rt_al 1 v75 a1 p52).bind fun v79 =>
  if v79 = (-1) then
  j_X11_under_88 p52
  else
  if p60 = 0 then
  j_X11_under_88 p52
  else
  (rt_gf 11 11 a0 p52).bind fun v91 =>
  (rt_gf 11 2 a0 p52).bind fun v95 =>
  (rt_gf 0 3 v95 p52).bind fun v98 =>
  (rt_gd 1 v91 (f_X1_layWays v91 v98 a1 p52)).bind fun p102 =>
  (rt_it (b_X11_under_107 a0 a1 p60) 4000 ((0, p102))).bind fun E107 => match E107 with
  | .inr t => some t
  | .inl X107 =>
  some ((-1), X107)
def f_X11_under (a0 : Int) (a1 : Int) (mem0 : rt_M) : Option (Int × rt_M) :=
  if a1 = (-1) then
  j_X11_under_19 a0 a1 mem0
  else
  (rt_gf 11 7 a0 mem0).bind fun v6 =>
  (rt_gd 4 v6 (f_X4_isWig v6 a1 mem0)).bind fun p10 =>
  if p10 = 0 then
  some ((-2), mem0)
  else
  j_X11_under_19 a0 a1 mem0
def j_X11_ask_105_42 (a0 : Int) (a1 : Int) (a2 : Int) (a3 : Int) (mem0 : rt_M) : Option ((Int × Int × Int × rt_M) ⊕ (Int × rt_M)) :=
  some (.inl (a1, a2, (rt_iadd a3 1), mem0))
def j_X11_ask_100_42 (a0 : Int) (a3 : Int) (a4 : Int) (mem0 : rt_M) : Option ((Int × Int × Int × rt_M) ⊕ (Int × rt_M)) :=
  j_X11_ask_105_42 a0 a4 a3 a3 mem0
def b_X11_ask_42 (a0 : Int) (s : Int × Int × Int × rt_M) : Option ((Int × Int × Int × rt_M) ⊕ (Int × rt_M)) :=
  (rt_gf 11 7 a0 s.2.2.2).bind fun v44 =>
  (rt_gf 4 0 v44 s.2.2.2).bind fun v47 =>
  if v47 ≤ s.2.2.1 then
  some (.inr (s.2.1, s.2.2.2))
  else
  (rt_gf 11 2 a0 s.2.2.2).bind fun v54 =>
  (rt_gf 0 3 v54 s.2.2.2).bind fun v57 =>
  (rt_al 1 v57 s.2.2.1 s.2.2.2).bind fun v61 =>
  if v61 = (-1) then
  (rt_gf 11 11 a0 s.2.2.2).bind fun v67 =>
  (rt_gd 1 v67 (f_X1_greatestLikeWays v67 s.2.2.1 s.2.2.2)).bind fun p71 =>
  (rt_gf 11 11 a0 p71.2).bind fun v79 =>
  (rt_gd 1 v79 (f_X1_allWays v79 s.2.2.1 p71.2)).bind fun p83 =>
  if p83 ≤ p71.1 then
  j_X11_ask_105_42 a0 s.1 s.2.1 s.2.2.1 p71.2
  else
  if s.2.1 = (-1) then
  j_X11_ask_100_42 a0 s.2.2.1 p71.1 p71.2
  else
  if s.1 ≤ p71.1 then
  j_X11_ask_105_42 a0 s.1 s.2.1 s.2.2.1 p71.2
  else
  j_X11_ask_100_42 a0 s.2.2.1 p71.1 p71.2
  else
  j_X11_ask_105_42 a0 s.1 s.2.1 s.2.2.1 s.2.2.2
def f_X11_ask (a0 : Int) (mem0 : rt_M) : Option (Int × rt_M) :=
  (rt_gf 11 11 a0 mem0).bind fun v1 =>
  (rt_gf 11 7 a0 mem0).bind fun v5 =>
  (rt_gf 11 2 a0 mem0).bind fun v9 =>
  (rt_gf 0 0 v9 mem0).bind fun v12 =>
  (rt_gf 7 0 v12 mem0).bind fun v15 =>
  (rt_gd 1 v1 (f_X1_measure v1 v5 v15 mem0)).bind fun p18 =>
  (rt_gf 11 11 a0 p18).bind fun v22 =>
  (rt_gf 11 2 a0 p18).bind fun v26 =>
  (rt_gf 0 3 v26 p18).bind fun v29 =>
  (rt_gd 1 v22 (f_X1_layWays v22 v29 ((-1)) p18)).bind fun p33 =>
  (rt_it (b_X11_ask_42 a0) 4000 (((-1), (-1), 0, p33))).bind fun X42 =>
  some (X42.1, X42.2)
def j_X11_power_37 (mem0 : rt_M) : Option (Int) :=
  some ((-1))
def j_X11_power_117_66 (a0 : Int) (a1 : Int) (a2 : Int) (a3 : Int) (a4 : Int) (a5 : Int) (mem0 : rt_M) : Option ((Int × Int) ⊕ (Int)) :=
  some (.inl (a4, (rt_iadd a5 1)))
def b_X11_power_66 (a0 : Int) (a1 : Int) (a2 : Int) (a3 : Int) (mem0 : rt_M) (s : Int × Int) : Option ((Int × Int) ⊕ (Int)) :=
  if 64 ≤ s.2 then
  some (.inr s.1)
  else
  if (rt_iand s.2 (rt_ixor a3 (-1))) = 0 then
  (rt_gf 11 7 a0 mem0).bind fun v83 =>
  (rt_gd 4 v83 (f_X4_officeOfAll v83 s.2 mem0)).bind fun p88 =>
  if a2 ≤ p88 then
  j_X11_power_117_66 a0 a1 a2 a3 s.1 s.2 mem0
  else
  (rt_gf 11 7 a0 mem0).bind fun v102 =>
  (rt_gd 4 v102 (f_X4_officeOf v102 a1 mem0)).bind fun p106 =>
  if (rt_iadd p88 p106) < a2 then
  j_X11_power_117_66 a0 a1 a2 a3 s.1 s.2 mem0
  else
  j_X11_power_117_66 a0 a1 a2 a3 ((rt_iadd s.1 1)) s.2 mem0
  else
  j_X11_power_117_66 a0 a1 a2 a3 s.1 s.2 mem0
def f_X11_power (a0 : Int) (a1 : Int) (a2 : Int) (mem0 : rt_M) : Option (Int) :=
  (rt_gf 11 7 a0 mem0).bind fun v1 =>
  (rt_gd 4 v1 (f_X4_isWig v1 a1 mem0)).bind fun p5 =>
  if p5 = 0 then
  j_X11_power_37 mem0
  else
  if a2 < 0 then
  j_X11_power_37 mem0
  else
  if 999 < a2 then
  j_X11_power_37 mem0
  else
  (rt_gf 11 2 a0 mem0).bind fun v23 =>
  (rt_gf 0 0 v23 mem0).bind fun v26 =>
  (rt_gd 7 v26 (f_X7_headUnder v26 a1 mem0)).bind fun p30 =>
  if p30 = (-1) then
  j_X11_power_37 mem0
  else
  (rt_gf 11 2 a0 mem0).bind fun v40 =>
  (rt_gf 0 0 v40 mem0).bind fun v43 =>
  (rt_gf 11 7 a0 mem0).bind fun v47 =>
  (rt_gd 7 v43 (f_X7_worn v43 v47 mem0)).bind fun p50 =>
  (rt_it (b_X11_power_66 a0 a1 a2 ((rt_iand p50 (rt_ixor (rt_ishl 1 a1) (-1)))) mem0) 4000 ((0, 0))).bind fun X66 =>
  some X66
def f_X11_match (a0 : Int) (a1 : Int) (mem0 : rt_M) : Option (Int × rt_M) :=
  (rt_gf 11 7 a0 mem0).bind fun v1 =>
  (rt_gd 4 v1 (f_X4_isHead v1 a1 mem0)).bind fun p5 =>
  if p5 = 0 then
  some ((-2), mem0)
  else
  (rt_gf 11 11 a0 mem0).bind fun v15 =>
  (rt_gf 11 7 a0 mem0).bind fun v19 =>
  (rt_gf 11 2 a0 mem0).bind fun v23 =>
  (rt_gf 0 0 v23 mem0).bind fun v26 =>
  (rt_gf 7 0 v26 mem0).bind fun v29 =>
  (rt_gd 1 v15 (f_X1_measure v15 v19 v29 mem0)).bind fun p32 =>
  (rt_gf 11 11 a0 p32).bind fun v36 =>
  (rt_gf 11 7 a0 p32).bind fun v40 =>
  (rt_gf 11 2 a0 p32).bind fun v44 =>
  (rt_gf 0 0 v44 p32).bind fun v47 =>
  (rt_gf 11 7 a0 p32).bind fun v51 =>
  (rt_gd 7 v47 (f_X7_wornOut v47 v51 p32)).bind fun p54 =>
  (rt_gd 1 v36 (f_X1_matched v36 v40 p54 a1 p32)).bind fun p58 =>
  some (p58.1, p58.2)
def j_X11_gainOf_10 (a1 : Int) (a2 : Int) (s0 : Int) (mem0 : rt_M) : Option (Int) :=
  some ((rt_isub s0 (rt_imul a1 a2)))
def f_X11_gainOf (a0 : Int) (a1 : Int) (a2 : Int) (a3 : Int) (mem0 : rt_M) : Option (Int) :=
  if a2 ≤ a3 then
  j_X11_gainOf_10 a1 a2 0 mem0
  else
  j_X11_gainOf_10 a1 a2 a0 mem0
def b_X11_isBest_12 (a0 : Int) (a1 : Int) (a3 : Int) (a4 : Int) (mem0 : rt_M) (s : Int) : Option ((Int) ⊕ ((Unit) ⊕ (Int))) :=
  if 5 < s then
  some (.inr (.inl ()))
  else
  (f_X11_gainOf a0 a1 s a3 mem0).bind fun p23 =>
  if p23 ≤ a4 then
  some (.inl (rt_iadd s 1))
  else
  Option.map (fun t => .inr (.inr t)) (some 0)
def f_X11_isBest (a0 : Int) (a1 : Int) (a2 : Int) (a3 : Int) (mem0 : rt_M) : Option (Int) :=
  (f_X11_gainOf a0 a1 a2 a3 mem0).bind fun p4 =>
  (rt_it (b_X11_isBest_12 a0 a1 a3 p4 mem0) 4000 0).bind fun E12 => match E12 with
  | .inr t => some t
  | .inl X12 =>
  some 1
def j_X11_isOfHundred_15 (s0 : Int) (mem0 : rt_M) : Option (Int) :=
  (rt_bz s0).bind fun _ => some s0
def j_X11_isOfHundred_14 (mem0 : rt_M) : Option (Int) :=
  j_X11_isOfHundred_15 0 mem0
def f_X11_isOfHundred (a0 : Int) (mem0 : rt_M) : Option (Int) :=
  if a0 < 0 then
  j_X11_isOfHundred_14 mem0
  else
  if 100 < a0 then
  j_X11_isOfHundred_14 mem0
  else
  j_X11_isOfHundred_15 1 mem0
def j_X11_draw_40 (s0 : Int) (mem0 : rt_M) : Option (Int × rt_M) :=
  some (s0, mem0)
def f_X11_draw (a0 : Int) (a1 : Int) (mem0 : rt_M) : Option (Int × rt_M) :=
  (rt_gf 11 13 a0 mem0).bind fun v2 =>
  (rt_pf 11 13 a0 ((rt_lrem (rt_ladd (rt_lmul v2 1103515245) 12345) 2147483648)) mem0).bind fun m17 =>
  if a1 ≤ 0 then
  j_X11_draw_40 0 m17
  else
  (rt_gf 11 13 a0 m17).bind fun v25 =>
  if a1 = 0 then none else
  j_X11_draw_40 ((rt_l2i (rt_lrem (rt_ldiv v25 65536) a1))) m17
def j_X11_drawPut_69 (mem0 : rt_M) : Option (rt_M) :=
  some mem0
def f_X11_drawPut (a0 : Int) (mem0 : rt_M) : Option (rt_M) :=
  (rt_gf 11 7 a0 mem0).bind fun v1 =>
  (rt_gf 4 0 v1 mem0).bind fun v4 =>
  if v4 ≤ 0 then
  j_X11_drawPut_69 mem0
  else
  (rt_gf 11 7 a0 mem0).bind fun v11 =>
  (rt_gf 4 1 v11 mem0).bind fun v14 =>
  if v14 ≤ 0 then
  j_X11_drawPut_69 mem0
  else
  (rt_gf 11 7 a0 mem0).bind fun v22 =>
  (rt_gf 4 0 v22 mem0).bind fun v25 =>
  (f_X11_draw a0 v25 mem0).bind fun p28 =>
  (rt_gf 11 7 a0 p28.2).bind fun v34 =>
  (rt_gf 4 1 v34 p28.2).bind fun v37 =>
  (f_X11_draw a0 v37 p28.2).bind fun p40 =>
  (rt_gf 11 10 a0 p40.2).bind fun v45 =>
  (rt_gf 11 7 a0 p40.2).bind fun v49 =>
  (rt_gd 7 v45 (f_X7_canPut v45 v49 p28.1 p40.1 p40.2)).bind fun p54 =>
  if p54.1 = 0 then
  j_X11_drawPut_69 p54.2
  else
  (rt_gf 11 10 a0 p54.2).bind fun v61 =>
  (rt_gd 7 v61 (f_X7_place v61 p28.1 p40.1 p54.2)).bind fun p66 =>
  j_X11_drawPut_69 p66
def b_X11_drawFever_11 (a0 : Int) (s : Int × rt_M) : Option ((Int × rt_M) ⊕ ((rt_M) ⊕ (rt_M))) :=
  (rt_gf 11 7 a0 s.2).bind fun v13 =>
  (rt_gf 4 1 v13 s.2).bind fun v16 =>
  if v16 ≤ s.1 then
  some (.inr (.inl s.2))
  else
  (rt_gf 11 10 a0 s.2).bind fun v23 =>
  (rt_gd 7 v23 (f_X7_wigUpon v23 s.1 s.2)).bind fun p27 =>
  if p27 = (-1) then
  some (.inl ((rt_iadd s.1 1), s.2))
  else
  Option.map (fun t => .inr (.inr t)) ((rt_gf 11 10 a0 s.2).bind fun v37 =>
  (rt_gd 7 v37 (f_X7_place v37 p27 ((-1)) s.2)).bind fun p42 =>
  some p42)
def f_X11_drawFever (a0 : Int) (mem0 : rt_M) : Option (rt_M) :=
  (f_X11_draw a0 5 mem0).bind fun p2 =>
  if p2.1 = 0 then
  (rt_it (b_X11_drawFever_11 a0) 4000 ((0, p2.2))).bind fun E11 => match E11 with
  | .inr t => some t
  | .inl X11 =>
  some X11
  else
  some p2.2
def j_X11_centuries_31 (mem0 : rt_M) : Option (Int × rt_M) :=
  some ((-1), mem0)
def b_X11_centuries_62 (a0 : Int) (a2 : Int) (a3 : Int) (s : Int × Int × Int × rt_M) : Option ((Int × Int × Int × rt_M) ⊕ (Int × Int × rt_M)) :=
  if a2 ≤ s.2.2.1 then
  some (.inr (s.1, s.2.1, s.2.2.2))
  else
  (f_X11_drawPut a0 s.2.2.2).bind fun p69 =>
  (f_X11_drawFever a0 p69).bind fun p73 =>
  (rt_gf 11 10 a0 p73).bind fun v79 =>
  (rt_gf 11 7 a0 p73).bind fun v83 =>
  (rt_gd 7 v79 (f_X7_pass v79 v83 p73)).bind fun p86 =>
  (rt_gf 11 7 a0 p86.2).bind fun v95 =>
  (rt_gf 11 10 a0 p86.2).bind fun v99 =>
  (rt_gf 11 7 a0 p86.2).bind fun v103 =>
  (rt_gd 7 v99 (f_X7_worn v99 v103 p86.2)).bind fun p106 =>
  (rt_gd 4 v95 (f_X4_officeOfAll v95 p106 p86.2)).bind fun p109 =>
  some (.inl ((rt_iadd s.1 p109), (rt_iadd s.2.1 p86.1), (rt_iadd s.2.2.1 1), p86.2))
def j_X11_centuries_151 (s0 : Int) (mem0 : rt_M) : Option (Int × rt_M) :=
  some (s0, mem0)
def f_X11_centuries (a0 : Int) (a1 : Int) (a2 : Int) (a3 : Int) (mem0 : rt_M) : Option (Int × rt_M) :=
  if a1 < 0 then
  j_X11_centuries_31 mem0
  else
  if 9999 < a1 then
  j_X11_centuries_31 mem0
  else
  if a2 < 1 then
  j_X11_centuries_31 mem0
  else
  if 99 < a2 then
  j_X11_centuries_31 mem0
  else
  if a3 < 0 then
  j_X11_centuries_31 mem0
  else
  if a3 ≤ 2 then
  (rt_gf 11 10 a0 mem0).bind fun v34 =>
  (rt_gf 11 2 a0 mem0).bind fun v38 =>
  (rt_gf 0 0 v38 mem0).bind fun v41 =>
  (rt_gd 7 v34 (f_X7_copy v34 v41 mem0)).bind fun p44 =>
  (rt_pf 11 13 a0 a1 p44).bind fun m50 =>
  (rt_it (b_X11_centuries_62 a0 a2 a3) 4000 ((0, 0, 0, m50))).bind fun X62 =>
  if a3 = 0 then
  j_X11_centuries_151 X62.1 X62.2.2
  else
  if a3 = 1 then
  j_X11_centuries_151 X62.2.1 X62.2.2
  else
  (rt_gf 11 10 a0 X62.2.2).bind fun v141 =>
  (rt_gf 11 7 a0 X62.2.2).bind fun v145 =>
  (rt_gd 7 v141 (f_X7_wearOfAll v141 v145 X62.2.2)).bind fun p148 =>
  j_X11_centuries_151 p148 X62.2.2
  else
  j_X11_centuries_31 mem0
def j_X11_mark_25 (mem0 : rt_M) : Option (Int × rt_M) :=
  some (0, mem0)
def j_X11_mark_75 (mem0 : rt_M) : Option (Int × rt_M) :=
  some (1, mem0)
def j_X11_mark_27 (a0 : Int) (a1 : Int) (a2 : Int) (mem0 : rt_M) : Option (Int × rt_M) :=
  if a2 = 0 then
  (rt_gf 11 3 a0 mem0).bind fun v53 =>
  (rt_al 7 v53 a1 mem0).bind fun v57 =>
  (rt_gf 11 2 a0 mem0).bind fun v59 =>
  (rt_gd 0 v57 (f_X0_copy v57 v59 mem0)).bind fun p62 =>
  (rt_gf 11 3 a0 p62).bind fun v66 =>
  (rt_al 7 v66 a1 p62).bind fun v70 =>
  (rt_pf 0 4 v70 1 p62).bind fun m72 =>
  j_X11_mark_75 m72
  else
  (rt_gf 11 2 a0 mem0).bind fun v32 =>
  (rt_gf 11 3 a0 mem0).bind fun v36 =>
  (rt_al 7 v36 a1 mem0).bind fun v40 =>
  (rt_gd 0 v32 (f_X0_copy v32 v40 mem0)).bind fun p41 =>
  (rt_pf 11 5 a0 0 p41).bind fun m46 =>
  j_X11_mark_75 m46
def f_X11_mark (a0 : Int) (a1 : Int) (a2 : Int) (mem0 : rt_M) : Option (Int × rt_M) :=
  if a1 < 0 then
  j_X11_mark_25 mem0
  else
  if 4 ≤ a1 then
  j_X11_mark_25 mem0
  else
  if a2 = 0 then
  j_X11_mark_27 a0 a1 a2 mem0
  else
  (rt_gf 11 3 a0 mem0).bind fun v14 =>
  (rt_al 7 v14 a1 mem0).bind fun v18 =>
  (rt_gf 0 4 v18 mem0).bind fun v19 =>
  if v19 = 0 then
  j_X11_mark_25 mem0
  else
  j_X11_mark_27 a0 a1 a2 mem0
def f_X11_count (a0 : Int) (a1 : Int) (mem0 : rt_M) : Option (Int) :=
  if a1 = 0 then
  (rt_gf 11 7 a0 mem0).bind fun v69 =>
  (rt_gf 4 0 v69 mem0).bind fun v72 =>
  some v72
  else
  if a1 = 1 then
  (rt_gf 11 7 a0 mem0).bind fun v77 =>
  (rt_gf 4 1 v77 mem0).bind fun v80 =>
  some v80
  else
  if a1 = 2 then
  (rt_gf 11 7 a0 mem0).bind fun v85 =>
  (rt_gf 4 8 v85 mem0).bind fun v88 =>
  some v88
  else
  if a1 = 3 then
  (rt_gf 11 2 a0 mem0).bind fun v93 =>
  (rt_gf 0 0 v93 mem0).bind fun v96 =>
  (rt_gf 7 0 v96 mem0).bind fun v99 =>
  some v99
  else
  if a1 = 4 then
  (rt_gf 11 7 a0 mem0).bind fun v104 =>
  (rt_gf 11 2 a0 mem0).bind fun v108 =>
  (rt_gf 0 0 v108 mem0).bind fun v111 =>
  (rt_gf 7 0 v111 mem0).bind fun v114 =>
  (rt_gd 4 v104 (f_X4_heatOf v104 v114 mem0)).bind fun p117 =>
  some p117
  else
  if a1 = 5 then
  (rt_gf 11 2 a0 mem0).bind fun v122 =>
  (rt_gf 0 0 v122 mem0).bind fun v125 =>
  (rt_gf 11 7 a0 mem0).bind fun v129 =>
  (rt_gd 7 v125 (f_X7_worn v125 v129 mem0)).bind fun p132 =>
  some p132
  else
  if a1 = 6 then
  (rt_gf 11 2 a0 mem0).bind fun v137 =>
  (rt_gf 0 0 v137 mem0).bind fun v140 =>
  (rt_gf 11 7 a0 mem0).bind fun v144 =>
  (rt_gd 7 v140 (f_X7_wornOut v140 v144 mem0)).bind fun p147 =>
  some p147
  else
  if a1 = 7 then
  (rt_gf 11 7 a0 mem0).bind fun v152 =>
  (rt_gf 11 2 a0 mem0).bind fun v156 =>
  (rt_gf 0 0 v156 mem0).bind fun v159 =>
  (rt_gf 11 7 a0 mem0).bind fun v163 =>
  (rt_gd 7 v159 (f_X7_worn v159 v163 mem0)).bind fun p166 =>
  (rt_gd 4 v152 (f_X4_officeOfAll v152 p166 mem0)).bind fun p169 =>
  some p169
  else
  if a1 = 8 then
  (rt_gf 11 2 a0 mem0).bind fun v174 =>
  (rt_gf 0 1 v174 mem0).bind fun v177 =>
  (rt_gf 10 0 v177 mem0).bind fun v180 =>
  some v180
  else
  if a1 = 9 then
  (rt_gf 11 2 a0 mem0).bind fun v185 =>
  (rt_gf 0 2 v185 mem0).bind fun v188 =>
  (rt_gf 6 0 v188 mem0).bind fun v191 =>
  some v191
  else
  if a1 = 10 then
  (rt_gf 11 2 a0 mem0).bind fun v196 =>
  (rt_gd 0 v196 (f_X0_tiltsTold v196 mem0)).bind fun p199 =>
  some p199
  else
  if a1 = 11 then
  (rt_gf 11 5 a0 mem0).bind fun v204 =>
  some v204
  else
  if a1 = 12 then
  (rt_gf 11 0 a0 mem0).bind fun v209 =>
  (rt_gf 8 1 v209 mem0).bind fun v212 =>
  some v212
  else
  some ((-1))
def f_X12_thrown (a0 : Int) (mem0 : rt_M) : Option (Int) :=
  (rt_gf 12 0 a0 mem0).bind fun v1 =>
  some v1
def j_X12_within_15 (s0 : Int) (mem0 : rt_M) : Option (Int) :=
  (rt_bz s0).bind fun _ => some s0
def j_X12_within_14 (mem0 : rt_M) : Option (Int) :=
  j_X12_within_15 0 mem0
def f_X12_within (a0 : Int) (a1 : Int) (a2 : Int) (mem0 : rt_M) : Option (Int) :=
  if a0 < a1 then
  j_X12_within_14 mem0
  else
  if a2 < a0 then
  j_X12_within_14 mem0
  else
  j_X12_within_15 1 mem0
def j_X12_between_19 (s0 : Int) (mem0 : rt_M) : Option (Int) :=
  some s0
def f_X12_between (a0 : Int) (a1 : Int) (a2 : Int) (mem0 : rt_M) : Option (Int) :=
  if a1 ≤ a0 then
  if a0 ≤ a2 then
  j_X12_between_19 a0 mem0
  else
  j_X12_between_19 a2 mem0
  else
  j_X12_between_19 a1 mem0
def j_X12_feed_114_8 (a0 : Int) (a1 : Int) (a3 : Int) (a5 : Int) (a7 : Int) (mem0 : rt_M) : Option ((Int × rt_M) ⊕ (rt_M)) :=
  some (.inl ((rt_iadd a7 1), mem0))
def j_X12_feed_93_8 (a0 : Int) (a1 : Int) (a3 : Int) (a5 : Int) (a7 : Int) (a10 : Int) (mem0 : rt_M) : Option ((Int × rt_M) ⊕ (rt_M)) :=
  (rt_gf 12 2 a0 mem0).bind fun v94 =>
  (rt_gf 12 1 a0 mem0).bind fun v98 =>
  (rt_sa 1 v94 v98 a10 mem0).bind fun m103 =>
  (rt_gf 12 1 a0 m103).bind fun v106 =>
  (rt_pf 12 1 a0 ((rt_iadd v106 1)) m103).bind fun m111 =>
  j_X12_feed_114_8 a0 a1 a3 a5 a7 m111
def j_X12_feed_39_8 (a0 : Int) (a1 : Int) (a3 : Int) (a5 : Int) (a7 : Int) (s0 : Int) (mem0 : rt_M) : Option ((Int × rt_M) ⊕ (rt_M)) :=
  (rt_gf 12 1 a0 mem0).bind fun v63 =>
  if 1000 ≤ v63 then
  j_X12_feed_114_8 a0 a1 a3 a5 a7 mem0
  else
  if (rt_l2i (rt_land (rt_lushr s0 (rt_isub 56 (rt_imul 8 (rt_iand a7 7)))) 255)) = 10 then
  j_X12_feed_93_8 a0 a1 a3 a5 a7 ((rt_l2i (rt_land (rt_lushr s0 (rt_isub 56 (rt_imul 8 (rt_iand a7 7)))) 255))) mem0
  else
  if (rt_l2i (rt_land (rt_lushr s0 (rt_isub 56 (rt_imul 8 (rt_iand a7 7)))) 255)) < 32 then
  j_X12_feed_114_8 a0 a1 a3 a5 a7 mem0
  else
  if 126 < (rt_l2i (rt_land (rt_lushr s0 (rt_isub 56 (rt_imul 8 (rt_iand a7 7)))) 255)) then
  j_X12_feed_114_8 a0 a1 a3 a5 a7 mem0
  else
  j_X12_feed_93_8 a0 a1 a3 a5 a7 ((rt_l2i (rt_land (rt_lushr s0 (rt_isub 56 (rt_imul 8 (rt_iand a7 7)))) 255))) mem0
def b_X12_feed_8 (a0 : Int) (a1 : Int) (a3 : Int) (a5 : Int) (s : Int × rt_M) : Option ((Int × rt_M) ⊕ (rt_M)) :=
  if 24 ≤ s.1 then
  some (.inr s.2)
  else
  if 8 ≤ s.1 then
  if 16 ≤ s.1 then
  j_X12_feed_39_8 a0 a1 a3 a5 s.1 a5 s.2
  else
  j_X12_feed_39_8 a0 a1 a3 a5 s.1 a3 s.2
  else
  j_X12_feed_39_8 a0 a1 a3 a5 s.1 a1 s.2
def f_X12_feed (a0 : Int) (a1 : Int) (a3 : Int) (a5 : Int) (mem0 : rt_M) : Option (Int × rt_M) :=
  (rt_pf 12 0 a0 0 mem0).bind fun m2 =>
  (rt_it (b_X12_feed_8 a0 a1 a3 a5) 4000 ((0, m2))).bind fun X8 =>
  (rt_gf 12 1 a0 X8).bind fun v121 =>
  some (v121, X8)
def j_X12_signAt_18 (s0 : Int) (mem0 : rt_M) : Option (Int) :=
  some s0
def f_X12_signAt (a0 : Int) (a1 : Int) (mem0 : rt_M) : Option (Int) :=
  (rt_gf 12 3 a0 mem0).bind fun v2 =>
  if v2 ≤ a1 then
  j_X12_signAt_18 0 mem0
  else
  (rt_gf 12 2 a0 mem0).bind fun v9 =>
  (rt_al 1 v9 a1 mem0).bind fun v13 =>
  j_X12_signAt_18 v13 mem0
def j_X12_nextToken_39_0 (a0 : Int) (mem0 : rt_M) : Option ((rt_M) ⊕ (rt_M)) :=
  (rt_gf 12 4 a0 mem0).bind fun v41 =>
  (rt_pf 12 4 a0 ((rt_iadd v41 1)) mem0).bind fun m46 =>
  some (.inl m46)
def b_X12_nextToken_0 (a0 : Int) (s : rt_M) : Option ((rt_M) ⊕ (rt_M)) :=
  (rt_gf 12 4 a0 s).bind fun v1 =>
  (rt_gf 12 3 a0 s).bind fun v5 =>
  if v5 ≤ v1 then
  some (.inr s)
  else
  (rt_gf 12 2 a0 s).bind fun v12 =>
  (rt_gf 12 4 a0 s).bind fun v16 =>
  (rt_al 1 v12 v16 s).bind fun v19 =>
  if v19 = 32 then
  j_X12_nextToken_39_0 a0 s
  else
  (rt_gf 12 2 a0 s).bind fun v26 =>
  (rt_gf 12 4 a0 s).bind fun v30 =>
  (rt_al 1 v26 v30 s).bind fun v33 =>
  if v33 = 10 then
  j_X12_nextToken_39_0 a0 s
  else
  some (.inr s)
def j_X12_nextToken_368 (s0 : Int) (s1 : Int) (mem0 : rt_M) : Option (rt_M) :=
  (rt_pf 12 6 s0 s1 mem0).bind fun m368 =>
  some m368
def j_X12_nextToken_363 (s0 : Int) (mem0 : rt_M) : Option (rt_M) :=
  j_X12_nextToken_368 s0 3 mem0
def j_X12_nextToken_367 (s0 : Int) (mem0 : rt_M) : Option (rt_M) :=
  j_X12_nextToken_368 s0 4 mem0
def j_X12_nextToken_345 (a1 : Int) (s0 : Int) (mem0 : rt_M) : Option (rt_M) :=
  if a1 = 45 then
  j_X12_nextToken_363 s0 mem0
  else
  if a1 < 59 then
  j_X12_nextToken_367 s0 mem0
  else
  if 61 < a1 then
  j_X12_nextToken_367 s0 mem0
  else
  j_X12_nextToken_363 s0 mem0
def j_X12_nextToken_322 (a0 : Int) (a1 : Int) (mem0 : rt_M) : Option (rt_M) :=
  (rt_gf 12 4 a0 mem0).bind fun v324 =>
  (rt_pf 12 4 a0 ((rt_iadd v324 1)) mem0).bind fun m329 =>
  if a1 < 40 then
  j_X12_nextToken_345 a1 a0 m329
  else
  if a1 ≤ 43 then
  j_X12_nextToken_363 a0 m329
  else
  j_X12_nextToken_345 a1 a0 m329
def j_X12_nextToken_286_224 (a0 : Int) (mem0 : rt_M) : Option ((rt_M) ⊕ (rt_M)) :=
  (rt_gf 12 4 a0 mem0).bind fun v288 =>
  (rt_pf 12 4 a0 ((rt_iadd v288 1)) mem0).bind fun m293 =>
  some (.inl m293)
def b_X12_nextToken_224 (a0 : Int) (s : rt_M) : Option ((rt_M) ⊕ (rt_M)) :=
  (rt_gf 12 4 a0 s).bind fun v226 =>
  (f_X12_signAt a0 v226 s).bind fun p229 =>
  if p229 < 48 then
  some (.inr s)
  else
  (rt_gf 12 4 a0 s).bind fun v239 =>
  (f_X12_signAt a0 v239 s).bind fun p242 =>
  if 57 < p242 then
  some (.inr s)
  else
  (rt_gf 12 4 a0 s).bind fun v251 =>
  (rt_gf 12 5 a0 s).bind fun v255 =>
  if 4 ≤ (rt_isub v251 v255) then
  j_X12_nextToken_286_224 a0 s
  else
  (rt_gf 12 8 a0 s).bind fun v265 =>
  (rt_gf 12 4 a0 s).bind fun v273 =>
  (f_X12_signAt a0 v273 s).bind fun p276 =>
  (rt_pf 12 8 a0 ((rt_isub (rt_iadd (rt_imul v265 10) p276) 48)) s).bind fun m283 =>
  j_X12_nextToken_286_224 a0 m283
def j_X12_nextToken_318 (s0 : Int) (s1 : Int) (mem0 : rt_M) : Option (rt_M) :=
  (rt_pf 12 6 s0 s1 mem0).bind fun m318 =>
  some m318
def j_X12_nextToken_212 (a0 : Int) (a1 : Int) (mem0 : rt_M) : Option (rt_M) :=
  if a1 < 48 then
  j_X12_nextToken_322 a0 a1 mem0
  else
  if 57 < a1 then
  j_X12_nextToken_322 a0 a1 mem0
  else
  (rt_it (b_X12_nextToken_224 a0) 4000 mem0).bind fun X224 =>
  (rt_gf 12 4 a0 X224).bind fun v301 =>
  (rt_gf 12 5 a0 X224).bind fun v305 =>
  if (rt_isub v301 v305) ≤ 4 then
  j_X12_nextToken_318 a0 2 X224
  else
  j_X12_nextToken_318 a0 4 X224
def j_X12_nextToken_175_109 (a0 : Int) (mem0 : rt_M) : Option ((rt_M) ⊕ (rt_M)) :=
  (rt_gf 12 4 a0 mem0).bind fun v177 =>
  (rt_pf 12 4 a0 ((rt_iadd v177 1)) mem0).bind fun m182 =>
  some (.inl m182)
def b_X12_nextToken_109 (a0 : Int) (s : rt_M) : Option ((rt_M) ⊕ (rt_M)) :=
  (rt_gf 12 4 a0 s).bind fun v111 =>
  (f_X12_signAt a0 v111 s).bind fun p114 =>
  if p114 < 97 then
  some (.inr s)
  else
  (rt_gf 12 4 a0 s).bind fun v124 =>
  (f_X12_signAt a0 v124 s).bind fun p127 =>
  if 122 < p127 then
  some (.inr s)
  else
  (rt_gf 12 4 a0 s).bind fun v136 =>
  (rt_gf 12 5 a0 s).bind fun v140 =>
  if 8 ≤ (rt_isub v136 v140) then
  j_X12_nextToken_175_109 a0 s
  else
  (rt_gf 12 7 a0 s).bind fun v151 =>
  (rt_gf 12 4 a0 s).bind fun v160 =>
  (f_X12_signAt a0 v160 s).bind fun p163 =>
  (rt_pf 12 7 a0 ((rt_lsub (rt_ladd (rt_lmul v151 27) p163) 96)) s).bind fun m172 =>
  j_X12_nextToken_175_109 a0 m172
def j_X12_nextToken_208 (s0 : Int) (s1 : Int) (mem0 : rt_M) : Option (rt_M) :=
  (rt_pf 12 6 s0 s1 mem0).bind fun m208 =>
  some m208
def f_X12_nextToken (a0 : Int) (mem0 : rt_M) : Option (rt_M) :=
  (rt_it (b_X12_nextToken_0 a0) 4000 mem0).bind fun X0 =>
  (rt_gf 12 4 a0 X0).bind fun v54 =>
  (rt_pf 12 5 a0 v54 X0).bind fun m57 =>
  (rt_pf 12 7 a0 0 m57).bind fun m62 =>
  (rt_pf 12 8 a0 0 m62).bind fun m67 =>
  (rt_gf 12 4 a0 m67).bind fun v71 =>
  (rt_gf 12 3 a0 m67).bind fun v75 =>
  if v71 = v75 then
  (rt_pf 12 6 a0 0 m67).bind fun m83 =>
  some m83
  else
  (rt_gf 12 2 a0 m67).bind fun v88 =>
  (rt_gf 12 4 a0 m67).bind fun v92 =>
  (rt_al 1 v88 v92 m67).bind fun v95 =>
  if v95 < 97 then
  j_X12_nextToken_212 a0 v95 m67
  else
  if 122 < v95 then
  j_X12_nextToken_212 a0 v95 m67
  else
  (rt_it (b_X12_nextToken_109 a0) 4000 m67).bind fun X109 =>
  (rt_gf 12 4 a0 X109).bind fun v190 =>
  (rt_gf 12 5 a0 X109).bind fun v194 =>
  if (rt_isub v190 v194) ≤ 8 then
  j_X12_nextToken_208 a0 1 X109
  else
  j_X12_nextToken_208 a0 4 X109
def j_X12_isWord_22 (s0 : Int) (mem0 : rt_M) : Option (Int) :=
  (rt_bz s0).bind fun _ => some s0
def j_X12_isWord_21 (mem0 : rt_M) : Option (Int) :=
  j_X12_isWord_22 0 mem0
def f_X12_isWord (a0 : Int) (a1 : Int) (mem0 : rt_M) : Option (Int) :=
  (rt_gf 12 6 a0 mem0).bind fun v1 =>
  if v1 = 1 then
  (rt_gf 12 7 a0 mem0).bind fun v9 =>
  if (rt_lcmp v9 a1) = 0 then
  j_X12_isWord_22 1 mem0
  else
  j_X12_isWord_21 mem0
  else
  j_X12_isWord_21 mem0
def j_X12_isSign_26 (s0 : Int) (mem0 : rt_M) : Option (Int) :=
  (rt_bz s0).bind fun _ => some s0
def j_X12_isSign_25 (mem0 : rt_M) : Option (Int) :=
  j_X12_isSign_26 0 mem0
def f_X12_isSign (a0 : Int) (a1 : Int) (mem0 : rt_M) : Option (Int) :=
  (rt_gf 12 6 a0 mem0).bind fun v1 =>
  if v1 = 3 then
  (rt_gf 12 2 a0 mem0).bind fun v9 =>
  (rt_gf 12 5 a0 mem0).bind fun v13 =>
  (rt_al 1 v9 v13 mem0).bind fun v16 =>
  if v16 = a1 then
  j_X12_isSign_26 1 mem0
  else
  j_X12_isSign_25 mem0
  else
  j_X12_isSign_25 mem0
def f_X12_fails (a0 : Int) (a1 : Int) (mem0 : rt_M) : Option (Int × rt_M) :=
  (rt_gf 12 5 a0 mem0).bind fun v5 =>
  (rt_pf 12 9 a0 ((rt_iadd a1 (rt_imul 16 v5))) mem0).bind fun m10 =>
  some (0, m10)
def f_X12_puts (a0 : Int) (a1 : Int) (mem0 : rt_M) : Option (rt_M) :=
  (rt_gf 12 23 a0 mem0).bind fun v1 =>
  (rt_gf 12 24 a0 mem0).bind fun v5 =>
  (rt_sa 1 v1 v5 a1 mem0).bind fun m9 =>
  (rt_gf 12 24 a0 m9).bind fun v12 =>
  (rt_pf 12 24 a0 ((rt_iadd v12 1)) m9).bind fun m17 =>
  some m17
def j_X12_fact_111 (s0 : Int) (mem0 : rt_M) : Option (Int) :=
  some s0
def j_X12_fact_63 (s0 : Int) (mem0 : rt_M) : Option (Int) :=
  some s0
def f_X12_fact (a0 : Int) (mem0 : rt_M) : Option (Int) :=
  (rt_gf 12 6 a0 mem0).bind fun v1 =>
  if v1 = 1 then
  (rt_gf 12 25 a0 mem0).bind fun v11 =>
  if v11 = 0 then
  (rt_gf 12 7 a0 mem0).bind fun v18 =>
  if (rt_lcmp v18 161156) = 0 then
  j_X12_fact_63 1 mem0
  else
  (rt_gf 12 7 a0 mem0).bind fun v33 =>
  if (rt_lcmp v33 13385674) = 0 then
  j_X12_fact_63 2 mem0
  else
  (rt_gf 12 7 a0 mem0).bind fun v48 =>
  if (rt_lcmp v48 385418) = 0 then
  j_X12_fact_63 3 mem0
  else
  j_X12_fact_63 0 mem0
  else
  (rt_gf 12 7 a0 mem0).bind fun v65 =>
  if (rt_lcmp v65 334950853) = 0 then
  j_X12_fact_111 4 mem0
  else
  (rt_gf 12 7 a0 mem0).bind fun v80 =>
  if (rt_lcmp v80 117471199) = 0 then
  j_X12_fact_111 5 mem0
  else
  (rt_gf 12 7 a0 mem0).bind fun v95 =>
  if (rt_lcmp v95 158683) = 0 then
  j_X12_fact_111 6 mem0
  else
  j_X12_fact_111 0 mem0
  else
  some 0
def j_X12_reads_424_11 (a0 : Int) (a1 : Int) (a2 : Int) (mem0 : rt_M) : Option ((Int × Int × rt_M) ⊕ (Int × rt_M)) :=
  (f_X12_nextToken a0 mem0).bind fun p425 =>
  some (.inl (a1, a2, p425))
def j_X12_reads_237_11 (a0 : Int) (a1 : Int) (s0 : Int) (s1 : Int) (mem0 : rt_M) : Option ((Int × Int × rt_M) ⊕ (Int × rt_M)) :=
  (rt_gd 12 s0 (f_X12_puts s0 s1 mem0)).bind fun p237 =>
  j_X12_reads_424_11 a0 a1 1 p237
def j_X12_reads_206_11 (a0 : Int) (a1 : Int) (mem0 : rt_M) : Option ((Int × Int × rt_M) ⊕ (Int × rt_M)) :=
  (f_X12_isSign a0 43 mem0).bind fun p210 =>
  if p210 = 0 then
  (f_X12_isSign a0 45 mem0).bind fun p224 =>
  if p224 = 0 then
  j_X12_reads_237_11 a0 a1 a0 22 mem0
  else
  j_X12_reads_237_11 a0 a1 a0 21 mem0
  else
  j_X12_reads_237_11 a0 a1 a0 20 mem0
def j_X12_reads_342_11 (a0 : Int) (a1 : Int) (s0 : Int) (s1 : Int) (mem0 : rt_M) : Option ((Int × Int × rt_M) ⊕ (Int × rt_M)) :=
  (rt_gd 12 s0 (f_X12_puts s0 s1 mem0)).bind fun p342 =>
  (rt_gf 12 28 a0 p342).bind fun v346 =>
  (rt_sa 3 v346 a1 0 p342).bind fun m351 =>
  j_X12_reads_424_11 a0 a1 1 m351
def j_X12_reads_324_11 (a0 : Int) (a1 : Int) (mem0 : rt_M) : Option ((Int × Int × rt_M) ⊕ (Int × rt_M)) :=
  (f_X12_isWord a0 1111 mem0).bind fun p329 =>
  if p329 = 0 then
  j_X12_reads_342_11 a0 a1 a0 27 mem0
  else
  j_X12_reads_342_11 a0 a1 a0 26 mem0
def j_X12_reads_418 (a0 : Int) (mem0 : rt_M) : Option (Int × rt_M) :=
  (f_X12_fails a0 1 mem0).bind fun p420 =>
  (rt_bz p420.1).bind fun _ => some (p420.1, p420.2)
def j_X12_reads_399 (a0 : Int) (a1 : Int) (mem0 : rt_M) : Option (Int × rt_M) :=
  if a1 = 0 then
  (f_X12_isSign a0 59 mem0).bind fun p406 =>
  if p406 = 0 then
  j_X12_reads_418 a0 mem0
  else
  (f_X12_nextToken a0 mem0).bind fun p413 =>
  some (1, p413)
  else
  j_X12_reads_418 a0 mem0
def b_X12_reads_379 (a0 : Int) (a2 : Int) (s : Int × rt_M) : Option ((Int × rt_M) ⊕ (Int × rt_M)) :=
  if s.1 ≤ 0 then
  some (.inr (s.1, s.2))
  else
  (rt_gf 12 27 a0 s.2).bind fun v384 =>
  (rt_al 1 v384 s.1 s.2).bind fun v388 =>
  if v388 = 1 then
  some (.inl ((rt_iadd s.1 (-1)), s.2))
  else
  some (.inr (s.1, s.2))
def j_X12_reads_304_11 (a0 : Int) (a1 : Int) (a2 : Int) (mem0 : rt_M) : Option ((Int × Int × rt_M) ⊕ (Int × rt_M)) :=
  (f_X12_isWord a0 1111 mem0).bind fun p308 =>
  if p308 = 0 then
  (f_X12_isWord a0 423 mem0).bind fun p318 =>
  if p318 = 0 then
  (f_X12_isSign a0 41 mem0).bind fun p360 =>
  if p360 = 0 then
  Option.map (fun t => .inr t) (j_X12_reads_399 a0 a1 mem0)
  else
  if a1 ≤ 0 then
  Option.map (fun t => .inr t) (j_X12_reads_399 a0 a1 mem0)
  else
  (f_X12_puts a0 29 mem0).bind fun p373 =>
  (rt_it (b_X12_reads_379 a0 a2) 4000 (((rt_iadd a1 (-1)), p373))).bind fun X379 =>
  j_X12_reads_424_11 a0 X379.1 a2 X379.2
  else
  j_X12_reads_324_11 a0 a1 mem0
  else
  j_X12_reads_324_11 a0 a1 mem0
def j_X12_reads_289_11 (a0 : Int) (a1 : Int) (s0 : Int) (s1 : Int) (mem0 : rt_M) : Option ((Int × Int × rt_M) ⊕ (Int × rt_M)) :=
  (rt_gd 12 s0 (f_X12_puts s0 s1 mem0)).bind fun p289 =>
  (rt_gf 12 28 a0 p289).bind fun v293 =>
  (rt_sa 3 v293 a1 1 p289).bind fun m298 =>
  j_X12_reads_424_11 a0 a1 1 m298
def j_X12_reads_263_11 (a0 : Int) (a1 : Int) (a2 : Int) (mem0 : rt_M) : Option ((Int × Int × rt_M) ⊕ (Int × rt_M)) :=
  (rt_gf 12 28 a0 mem0).bind fun v264 =>
  (rt_al 3 v264 a1 mem0).bind fun v268 =>
  if v268 = 0 then
  (f_X12_isSign a0 60 mem0).bind fun p276 =>
  if p276 = 0 then
  j_X12_reads_289_11 a0 a1 a0 25 mem0
  else
  j_X12_reads_289_11 a0 a1 a0 24 mem0
  else
  j_X12_reads_304_11 a0 a1 a2 mem0
def j_X12_reads_172_11 (a0 : Int) (a1 : Int) (a2 : Int) (mem0 : rt_M) : Option ((Int × Int × rt_M) ⊕ (Int × rt_M)) :=
  (f_X12_nextToken a0 mem0).bind fun p173 =>
  some (.inl (a1, a2, p173))
def j_X12_reads_120_11 (a0 : Int) (a1 : Int) (a2 : Int) (s0 : Int) (s1 : Int) (s2 : Int) (mem0 : rt_M) : Option ((Int × Int × rt_M) ⊕ (Int × rt_M)) :=
  (rt_sa 1 s0 s1 s2 mem0).bind fun m120 =>
  (rt_gf 12 28 a0 m120).bind fun v122 =>
  (rt_sa 3 v122 a1 0 m120).bind fun m127 =>
  j_X12_reads_172_11 a0 a1 a2 m127
def j_X12_reads_99_11 (a0 : Int) (a1 : Int) (a2 : Int) (a4 : Int) (s0 : Int) (s1 : Int) (mem0 : rt_M) : Option ((Int × Int × rt_M) ⊕ (Int × rt_M)) :=
  (rt_gd 12 s0 (f_X12_puts s0 s1 mem0)).bind fun p99 =>
  (rt_gf 12 27 a0 p99).bind fun v106 =>
  if a4 = 0 then
  j_X12_reads_120_11 a0 ((rt_iadd a1 1)) a2 v106 ((rt_iadd a1 1)) 2 p99
  else
  j_X12_reads_120_11 a0 ((rt_iadd a1 1)) a2 v106 ((rt_iadd a1 1)) 1 p99
def j_X12_reads_86_11 (a0 : Int) (a1 : Int) (a2 : Int) (a4 : Int) (mem0 : rt_M) : Option ((Int × Int × rt_M) ⊕ (Int × rt_M)) :=
  if a4 = 0 then
  j_X12_reads_99_11 a0 a1 a2 a4 a0 28 mem0
  else
  j_X12_reads_99_11 a0 a1 a2 a4 a0 30 mem0
def b_X12_reads_152 (a0 : Int) (a2 : Int) (s : Int × rt_M) : Option ((Int × rt_M) ⊕ (Int × rt_M)) :=
  if s.1 ≤ 0 then
  some (.inr (s.1, s.2))
  else
  (rt_gf 12 27 a0 s.2).bind fun v157 =>
  (rt_al 1 v157 s.1 s.2).bind fun v161 =>
  if v161 = 1 then
  some (.inl ((rt_iadd s.1 (-1)), s.2))
  else
  some (.inr (s.1, s.2))
def j_X12_reads_147_11 (a0 : Int) (a1 : Int) (s0 : Int) (s1 : Int) (mem0 : rt_M) : Option ((Int × Int × rt_M) ⊕ (Int × rt_M)) :=
  (rt_gd 12 s0 (f_X12_puts s0 s1 mem0)).bind fun p147 =>
  (rt_it (b_X12_reads_152 a0 0) 4000 ((a1, p147))).bind fun X152 =>
  j_X12_reads_172_11 a0 X152.1 0 X152.2
def j_X12_reads_65_11 (a0 : Int) (a1 : Int) (a2 : Int) (a3 : Int) (a4 : Int) (a5 : Int) (mem0 : rt_M) : Option ((Int × Int × rt_M) ⊕ (Int × rt_M)) :=
  if a1 = 5 then
  Option.map (fun t => .inr t) ((f_X12_fails a0 5 mem0).bind fun p72 =>
  (rt_bz p72.1).bind fun _ => some (p72.1, p72.2))
  else
  if a4 = 0 then
  if a5 = 0 then
  if a3 ≤ 0 then
  (rt_gf 12 8 a0 mem0).bind fun v143 =>
  j_X12_reads_147_11 a0 a1 a0 ((rt_iadd 100 v143)) mem0
  else
  j_X12_reads_147_11 a0 a1 a0 a3 mem0
  else
  j_X12_reads_86_11 a0 a1 a2 a4 mem0
  else
  j_X12_reads_86_11 a0 a1 a2 a4 mem0
def b_X12_reads_11 (a0 : Int) (s : Int × Int × rt_M) : Option ((Int × Int × rt_M) ⊕ (Int × rt_M)) :=
  if s.2.1 = 0 then
  (f_X12_isSign a0 43 s.2.2).bind fun p182 =>
  if p182 = 0 then
  (f_X12_isSign a0 45 s.2.2).bind fun p191 =>
  if p191 = 0 then
  (f_X12_isSign a0 42 s.2.2).bind fun p200 =>
  if p200 = 0 then
  (f_X12_isSign a0 60 s.2.2).bind fun p248 =>
  if p248 = 0 then
  (f_X12_isSign a0 61 s.2.2).bind fun p257 =>
  if p257 = 0 then
  j_X12_reads_304_11 a0 s.1 s.2.1 s.2.2
  else
  j_X12_reads_263_11 a0 s.1 s.2.1 s.2.2
  else
  j_X12_reads_263_11 a0 s.1 s.2.1 s.2.2
  else
  j_X12_reads_206_11 a0 s.1 s.2.2
  else
  j_X12_reads_206_11 a0 s.1 s.2.2
  else
  j_X12_reads_206_11 a0 s.1 s.2.2
  else
  (f_X12_fact a0 s.2.2).bind fun p16 =>
  (f_X12_isWord a0 10631 s.2.2).bind fun p24 =>
  (f_X12_isSign a0 40 s.2.2).bind fun p32 =>
  if p16 = 0 then
  if p24 = 0 then
  if p32 = 0 then
  (rt_gf 12 6 a0 s.2.2).bind fun v52 =>
  if v52 = 2 then
  j_X12_reads_65_11 a0 s.1 s.2.1 p16 p24 p32 s.2.2
  else
  Option.map (fun t => .inr t) ((f_X12_fails a0 1 s.2.2).bind fun p61 =>
  (rt_bz p61.1).bind fun _ => some (p61.1, p61.2))
  else
  j_X12_reads_65_11 a0 s.1 s.2.1 p16 p24 p32 s.2.2
  else
  j_X12_reads_65_11 a0 s.1 s.2.1 p16 p24 p32 s.2.2
  else
  j_X12_reads_65_11 a0 s.1 s.2.1 p16 p24 p32 s.2.2
def f_X12_reads (a0 : Int) (mem0 : rt_M) : Option (Int × rt_M) :=
  (rt_gf 12 28 a0 mem0).bind fun v5 =>
  (rt_sa 3 v5 0 0 mem0).bind fun m10 =>
  rt_it (b_X12_reads_11 a0) 4000 ((0, 1, m10))
def f_X12_opens (a0 : Int) (a1 : Int) (mem0 : rt_M) : Option (rt_M) :=
  (rt_gf 12 30 a0 mem0).bind fun v1 =>
  (rt_sa 1 v1 a1 0 mem0).bind fun m6 =>
  (rt_gf 12 32 a0 m6).bind fun v8 =>
  (rt_sa 1 v8 a1 0 m6).bind fun m13 =>
  (rt_gf 12 33 a0 m13).bind fun v15 =>
  (rt_sa 1 v15 a1 0 m13).bind fun m20 =>
  (rt_gf 12 34 a0 m20).bind fun v22 =>
  (rt_sa 1 v22 a1 20 m20).bind fun m28 =>
  (rt_gf 12 36 a0 m28).bind fun v30 =>
  (rt_sa 1 v30 a1 0 m28).bind fun m35 =>
  some m35
def j_X12_sums_45 (a0 : Int) (a1 : Int) (s0 : Int) (s1 : Int) (s2 : Int) (mem0 : rt_M) : Option (rt_M) :=
  (rt_sa 1 s0 s1 s2 mem0).bind fun m45 =>
  (rt_gf 12 36 a0 m45).bind fun v47 =>
  (rt_sa 1 v47 a1 0 m45).bind fun m52 =>
  some m52
def f_X12_sums (a0 : Int) (a1 : Int) (mem0 : rt_M) : Option (rt_M) :=
  (rt_gf 12 33 a0 mem0).bind fun v1 =>
  (rt_gf 12 34 a0 mem0).bind fun v6 =>
  (rt_al 1 v6 a1 mem0).bind fun v10 =>
  if v10 = 21 then
  (rt_gf 12 33 a0 mem0).bind fun v17 =>
  (rt_al 1 v17 a1 mem0).bind fun v21 =>
  (rt_gf 12 35 a0 mem0).bind fun v23 =>
  (rt_al 1 v23 a1 mem0).bind fun v27 =>
  j_X12_sums_45 a0 a1 v1 a1 ((rt_isub v21 v27)) mem0
  else
  (rt_gf 12 33 a0 mem0).bind fun v33 =>
  (rt_al 1 v33 a1 mem0).bind fun v37 =>
  (rt_gf 12 35 a0 mem0).bind fun v39 =>
  (rt_al 1 v39 a1 mem0).bind fun v43 =>
  j_X12_sums_45 a0 a1 v1 a1 ((rt_iadd v37 v43)) mem0
def j_X12_tests_136 (a0 : Int) (a1 : Int) (a2 : Int) (mem0 : rt_M) : Option (rt_M) :=
  (rt_gf 12 29 a0 mem0).bind fun v137 =>
  (rt_sa 1 v137 a1 a2 mem0).bind fun m142 =>
  (rt_gf 12 32 a0 m142).bind fun v144 =>
  (rt_sa 1 v144 a1 0 m142).bind fun m149 =>
  (rt_gf 12 33 a0 m149).bind fun v151 =>
  (rt_sa 1 v151 a1 0 m149).bind fun m156 =>
  (rt_gf 12 34 a0 m156).bind fun v158 =>
  (rt_sa 1 v158 a1 20 m156).bind fun m164 =>
  some m164
def j_X12_tests_135 (a0 : Int) (a1 : Int) (s0 : Int) (mem0 : rt_M) : Option (rt_M) :=
  j_X12_tests_136 a0 a1 s0 mem0
def j_X12_tests_130 (a0 : Int) (a1 : Int) (mem0 : rt_M) : Option (rt_M) :=
  j_X12_tests_135 a0 a1 1 mem0
def j_X12_tests_106 (a0 : Int) (a1 : Int) (a2 : Int) (mem0 : rt_M) : Option (rt_M) :=
  (rt_gf 12 30 a0 mem0).bind fun v107 =>
  (rt_al 1 v107 a1 mem0).bind fun v111 =>
  if v111 = 27 then
  (rt_gf 12 29 a0 mem0).bind fun v118 =>
  (rt_al 1 v118 a1 mem0).bind fun v122 =>
  if v122 = 0 then
  if a2 = 0 then
  j_X12_tests_135 a0 a1 0 mem0
  else
  j_X12_tests_130 a0 a1 mem0
  else
  j_X12_tests_130 a0 a1 mem0
  else
  j_X12_tests_136 a0 a1 a2 mem0
def j_X12_tests_105 (a0 : Int) (a1 : Int) (s0 : Int) (mem0 : rt_M) : Option (rt_M) :=
  j_X12_tests_106 a0 a1 s0 mem0
def j_X12_tests_104 (a0 : Int) (a1 : Int) (mem0 : rt_M) : Option (rt_M) :=
  j_X12_tests_105 a0 a1 0 mem0
def j_X12_tests_76 (a0 : Int) (a1 : Int) (a2 : Int) (mem0 : rt_M) : Option (rt_M) :=
  (rt_gf 12 30 a0 mem0).bind fun v77 =>
  (rt_al 1 v77 a1 mem0).bind fun v81 =>
  if v81 = 26 then
  (rt_gf 12 29 a0 mem0).bind fun v88 =>
  (rt_al 1 v88 a1 mem0).bind fun v92 =>
  if v92 = 0 then
  j_X12_tests_104 a0 a1 mem0
  else
  if a2 = 0 then
  j_X12_tests_104 a0 a1 mem0
  else
  j_X12_tests_105 a0 a1 1 mem0
  else
  j_X12_tests_106 a0 a1 a2 mem0
def j_X12_tests_75 (a0 : Int) (a1 : Int) (s0 : Int) (mem0 : rt_M) : Option (rt_M) :=
  j_X12_tests_76 a0 a1 s0 mem0
def j_X12_tests_44 (a0 : Int) (a1 : Int) (a2 : Int) (mem0 : rt_M) : Option (rt_M) :=
  (rt_gf 12 32 a0 mem0).bind fun v45 =>
  (rt_al 1 v45 a1 mem0).bind fun v49 =>
  if v49 = 25 then
  (rt_gf 12 31 a0 mem0).bind fun v56 =>
  (rt_al 1 v56 a1 mem0).bind fun v60 =>
  (rt_gf 12 33 a0 mem0).bind fun v62 =>
  (rt_al 1 v62 a1 mem0).bind fun v66 =>
  if v60 = v66 then
  j_X12_tests_75 a0 a1 1 mem0
  else
  j_X12_tests_75 a0 a1 0 mem0
  else
  j_X12_tests_76 a0 a1 a2 mem0
def j_X12_tests_43 (a0 : Int) (a1 : Int) (s0 : Int) (mem0 : rt_M) : Option (rt_M) :=
  j_X12_tests_44 a0 a1 s0 mem0
def f_X12_tests (a0 : Int) (a1 : Int) (mem0 : rt_M) : Option (rt_M) :=
  (f_X12_sums a0 a1 mem0).bind fun p2 =>
  (rt_gf 12 33 a0 p2).bind fun v6 =>
  (rt_al 1 v6 a1 p2).bind fun v10 =>
  (rt_gf 12 32 a0 p2).bind fun v13 =>
  (rt_al 1 v13 a1 p2).bind fun v17 =>
  if v17 = 24 then
  (rt_gf 12 31 a0 p2).bind fun v24 =>
  (rt_al 1 v24 a1 p2).bind fun v28 =>
  (rt_gf 12 33 a0 p2).bind fun v30 =>
  (rt_al 1 v30 a1 p2).bind fun v34 =>
  if v34 ≤ v28 then
  j_X12_tests_43 a0 a1 0 p2
  else
  j_X12_tests_43 a0 a1 1 p2
  else
  j_X12_tests_44 a0 a1 v10 p2
def j_X12_worked_329_14 (a0 : Int) (a1 : Int) (a2 : Int) (a3 : Int) (mem0 : rt_M) : Option ((Int × Int × rt_M) ⊕ (rt_M)) :=
  some (.inl (a2, (rt_iadd a3 1), mem0))
def j_X12_worked_66_14 (a0 : Int) (a1 : Int) (a2 : Int) (a3 : Int) (s0 : Int) (s1 : Int) (s2 : Int) (mem0 : rt_M) : Option ((Int × Int × rt_M) ⊕ (rt_M)) :=
  (rt_sa 1 s0 s1 s2 mem0).bind fun m66 =>
  (f_X12_opens a0 a2 m66).bind fun p69 =>
  j_X12_worked_329_14 a0 a1 a2 a3 p69
def j_X12_worked_46_14 (a0 : Int) (a1 : Int) (a2 : Int) (a3 : Int) (a4 : Int) (mem0 : rt_M) : Option ((Int × Int × rt_M) ⊕ (rt_M)) :=
  (rt_gf 12 37 a0 mem0).bind fun v50 =>
  if a4 = 30 then
  j_X12_worked_66_14 a0 a1 ((rt_iadd a2 1)) a3 v50 ((rt_iadd a2 1)) 1 mem0
  else
  j_X12_worked_66_14 a0 a1 ((rt_iadd a2 1)) a3 v50 ((rt_iadd a2 1)) 0 mem0
def j_X12_worked_89_14 (a0 : Int) (a1 : Int) (a2 : Int) (a3 : Int) (a4 : Int) (mem0 : rt_M) : Option ((Int × Int × rt_M) ⊕ (rt_M)) :=
  (f_X12_sums a0 a2 mem0).bind fun p91 =>
  (rt_gf 12 34 a0 p91).bind fun v95 =>
  (rt_sa 1 v95 a2 a4 p91).bind fun m101 =>
  j_X12_worked_329_14 a0 a1 a2 a3 m101
def j_X12_worked_137_14 (a0 : Int) (a1 : Int) (a2 : Int) (a3 : Int) (a4 : Int) (mem0 : rt_M) : Option ((Int × Int × rt_M) ⊕ (rt_M)) :=
  (f_X12_sums a0 a2 mem0).bind fun p139 =>
  (rt_gf 12 31 a0 p139).bind fun v143 =>
  (rt_gf 12 33 a0 p139).bind fun v148 =>
  (rt_al 1 v148 a2 p139).bind fun v152 =>
  (rt_sa 1 v143 a2 v152 p139).bind fun m153 =>
  (rt_gf 12 32 a0 m153).bind fun v155 =>
  (rt_sa 1 v155 a2 a4 m153).bind fun m161 =>
  (rt_gf 12 33 a0 m161).bind fun v163 =>
  (rt_sa 1 v163 a2 0 m161).bind fun m168 =>
  (rt_gf 12 34 a0 m168).bind fun v170 =>
  (rt_sa 1 v170 a2 20 m168).bind fun m176 =>
  j_X12_worked_329_14 a0 a1 a2 a3 m176
def j_X12_worked_194_14 (a0 : Int) (a1 : Int) (a2 : Int) (a3 : Int) (a4 : Int) (mem0 : rt_M) : Option ((Int × Int × rt_M) ⊕ (rt_M)) :=
  (f_X12_tests a0 a2 mem0).bind fun p196 =>
  (rt_gf 12 30 a0 p196).bind fun v200 =>
  (rt_sa 1 v200 a2 a4 p196).bind fun m206 =>
  j_X12_worked_329_14 a0 a1 a2 a3 m206
def j_X12_worked_292_268 (a0 : Int) (a1 : Int) (a2 : Int) (a3 : Int) (s0 : Int) (mem0 : rt_M) : Option ((Int × Int × rt_M) ⊕ (Int × Int × rt_M)) :=
  some (.inl ((rt_iadd a2 (-1)), s0, mem0))
def b_X12_worked_268 (a0 : Int) (a1 : Int) (a3 : Int) (s : Int × Int × rt_M) : Option ((Int × Int × rt_M) ⊕ (Int × Int × rt_M)) :=
  if s.1 ≤ 0 then
  some (.inr (s.1, s.2.1, s.2.2))
  else
  (rt_gf 12 37 a0 s.2.2).bind fun v273 =>
  (rt_al 1 v273 s.1 s.2.2).bind fun v277 =>
  if v277 = 1 then
  if s.2.1 = 0 then
  j_X12_worked_292_268 a0 a1 s.1 a3 1 s.2.2
  else
  j_X12_worked_292_268 a0 a1 s.1 a3 0 s.2.2
  else
  some (.inr (s.1, s.2.1, s.2.2))
def j_X12_worked_328_14 (a0 : Int) (a1 : Int) (a2 : Int) (a3 : Int) (s0 : Int) (s1 : Int) (s2 : Int) (mem0 : rt_M) : Option ((Int × Int × rt_M) ⊕ (rt_M)) :=
  (rt_sa 1 s0 s1 s2 mem0).bind fun m328 =>
  j_X12_worked_329_14 a0 a1 a2 a3 m328
def j_X12_worked_268_14 (a0 : Int) (a1 : Int) (a2 : Int) (a3 : Int) (a5 : Int) (mem0 : rt_M) : Option ((Int × Int × rt_M) ⊕ (rt_M)) :=
  (rt_it (b_X12_worked_268 a0 a1 a3) 4000 ((a2, a5, mem0))).bind fun X268 =>
  (rt_gf 12 35 a0 X268.2.2).bind fun v301 =>
  (rt_gf 12 36 a0 X268.2.2).bind fun v306 =>
  (rt_al 1 v306 X268.1 X268.2.2).bind fun v310 =>
  if v310 = 0 then
  j_X12_worked_328_14 a0 a1 X268.1 a3 v301 X268.1 X268.2.1 X268.2.2
  else
  (rt_gf 12 35 a0 X268.2.2).bind fun v320 =>
  (rt_al 1 v320 X268.1 X268.2.2).bind fun v324 =>
  j_X12_worked_328_14 a0 a1 X268.1 a3 v301 X268.1 ((rt_imul v324 X268.2.1)) X268.2.2
def j_X12_worked_243_14 (a0 : Int) (a1 : Int) (a2 : Int) (a3 : Int) (a4 : Int) (s0 : Int) (mem0 : rt_M) : Option ((Int × Int × rt_M) ⊕ (rt_M)) :=
  if a4 = 29 then
  (f_X12_tests a0 a2 mem0).bind fun p254 =>
  (rt_gf 12 29 a0 p254).bind fun v258 =>
  (rt_al 1 v258 a2 p254).bind fun v262 =>
  j_X12_worked_268_14 a0 a1 ((rt_iadd a2 (-1))) a3 v262 p254
  else
  j_X12_worked_268_14 a0 a1 a2 a3 s0 mem0
def b_X12_worked_14 (a0 : Int) (a1 : Int) (s : Int × Int × rt_M) : Option ((Int × Int × rt_M) ⊕ (rt_M)) :=
  (rt_gf 12 22 a0 s.2.2).bind fun v16 =>
  (rt_al 1 v16 a1 s.2.2).bind fun v20 =>
  if v20 ≤ s.2.1 then
  some (.inr s.2.2)
  else
  (rt_gf 12 23 a0 s.2.2).bind fun v25 =>
  (rt_al 1 v25 s.2.1 s.2.2).bind fun v29 =>
  if v29 = 28 then
  j_X12_worked_46_14 a0 a1 s.1 s.2.1 v29 s.2.2
  else
  if v29 = 30 then
  j_X12_worked_46_14 a0 a1 s.1 s.2.1 v29 s.2.2
  else
  if v29 = 20 then
  j_X12_worked_89_14 a0 a1 s.1 s.2.1 v29 s.2.2
  else
  if v29 = 21 then
  j_X12_worked_89_14 a0 a1 s.1 s.2.1 v29 s.2.2
  else
  if v29 = 22 then
  (rt_gf 12 36 a0 s.2.2).bind fun v113 =>
  (rt_sa 1 v113 s.1 v29 s.2.2).bind fun m119 =>
  j_X12_worked_329_14 a0 a1 s.1 s.2.1 m119
  else
  if v29 = 24 then
  j_X12_worked_137_14 a0 a1 s.1 s.2.1 v29 s.2.2
  else
  if v29 = 25 then
  j_X12_worked_137_14 a0 a1 s.1 s.2.1 v29 s.2.2
  else
  if v29 = 26 then
  j_X12_worked_194_14 a0 a1 s.1 s.2.1 v29 s.2.2
  else
  if v29 = 27 then
  j_X12_worked_194_14 a0 a1 s.1 s.2.1 v29 s.2.2
  else
  if v29 < 100 then
  if 20 ≤ v29 then
  j_X12_worked_243_14 a0 a1 s.1 s.2.1 v29 0 s.2.2
  else
  (rt_gf 12 38 a0 s.2.2).bind fun v233 =>
  (rt_al 1 v233 v29 s.2.2).bind fun v238 =>
  j_X12_worked_243_14 a0 a1 s.1 s.2.1 v29 v238 s.2.2
  else
  j_X12_worked_243_14 a0 a1 s.1 s.2.1 v29 ((rt_isub v29 100)) s.2.2
def f_X12_worked (a0 : Int) (a1 : Int) (mem0 : rt_M) : Option (Int × rt_M) :=
  (f_X12_opens a0 0 mem0).bind fun p4 =>
  (rt_gf 12 21 a0 p4).bind fun v8 =>
  (rt_al 1 v8 a1 p4).bind fun v12 =>
  (rt_it (b_X12_worked_14 a0 a1) 4000 ((0, v12, p4))).bind fun X14 =>
  (f_X12_tests a0 0 X14).bind fun p337 =>
  (rt_gf 12 29 a0 p337).bind fun v341 =>
  (rt_al 1 v341 0 p337).bind fun v345 =>
  some (v345, p337)
def j_X12_isKept_246 (s0 : Int) (mem0 : rt_M) : Option (Int) :=
  (rt_bz s0).bind fun _ => some s0
def j_X12_isKept_241 (mem0 : rt_M) : Option (Int) :=
  j_X12_isKept_246 1 mem0
def f_X12_isKept (a0 : Int) (mem0 : rt_M) : Option (Int) :=
  (rt_gf 12 6 a0 mem0).bind fun v1 =>
  if v1 = 1 then
  (rt_gf 12 7 a0 mem0).bind fun v11 =>
  if (rt_lcmp v11 17017) = 0 then
  j_X12_isKept_241 mem0
  else
  (rt_gf 12 7 a0 mem0).bind fun v22 =>
  if (rt_lcmp v22 381245) = 0 then
  j_X12_isKept_241 mem0
  else
  (rt_gf 12 7 a0 mem0).bind fun v33 =>
  if (rt_lcmp v33 218546996) = 0 then
  j_X12_isKept_241 mem0
  else
  (rt_gf 12 7 a0 mem0).bind fun v44 =>
  if (rt_lcmp v44 239882) = 0 then
  j_X12_isKept_241 mem0
  else
  (rt_gf 12 7 a0 mem0).bind fun v55 =>
  if (rt_lcmp v55 161140) = 0 then
  j_X12_isKept_241 mem0
  else
  (rt_gf 12 7 a0 mem0).bind fun v66 =>
  if (rt_lcmp v66 24925) = 0 then
  j_X12_isKept_241 mem0
  else
  (rt_gf 12 7 a0 mem0).bind fun v77 =>
  if (rt_lcmp v77 4351231) = 0 then
  j_X12_isKept_241 mem0
  else
  (rt_gf 12 7 a0 mem0).bind fun v88 =>
  if (rt_lcmp v88 10334396) = 0 then
  j_X12_isKept_241 mem0
  else
  (rt_gf 12 7 a0 mem0).bind fun v99 =>
  if (rt_lcmp v99 284959882) = 0 then
  j_X12_isKept_241 mem0
  else
  (rt_gf 12 7 a0 mem0).bind fun v110 =>
  if (rt_lcmp v110 154733320) = 0 then
  j_X12_isKept_241 mem0
  else
  (rt_gf 12 7 a0 mem0).bind fun v121 =>
  if (rt_lcmp v121 12251) = 0 then
  j_X12_isKept_241 mem0
  else
  (rt_gf 12 7 a0 mem0).bind fun v132 =>
  if (rt_lcmp v132 11103) = 0 then
  j_X12_isKept_241 mem0
  else
  (rt_gf 12 7 a0 mem0).bind fun v143 =>
  if (rt_lcmp v143 259906) = 0 then
  j_X12_isKept_241 mem0
  else
  (rt_gf 12 7 a0 mem0).bind fun v154 =>
  if (rt_lcmp v154 275320391) = 0 then
  j_X12_isKept_241 mem0
  else
  (rt_gf 12 7 a0 mem0).bind fun v165 =>
  if (rt_lcmp v165 8740238) = 0 then
  j_X12_isKept_241 mem0
  else
  (rt_gf 12 7 a0 mem0).bind fun v176 =>
  if (rt_lcmp v176 6257) = 0 then
  j_X12_isKept_241 mem0
  else
  (rt_gf 12 7 a0 mem0).bind fun v187 =>
  if (rt_lcmp v187 40423) = 0 then
  j_X12_isKept_241 mem0
  else
  (rt_gf 12 7 a0 mem0).bind fun v198 =>
  if (rt_lcmp v198 1888) = 0 then
  j_X12_isKept_241 mem0
  else
  (rt_gf 12 7 a0 mem0).bind fun v209 =>
  if (rt_lcmp v209 10631) = 0 then
  j_X12_isKept_241 mem0
  else
  (rt_gf 12 7 a0 mem0).bind fun v220 =>
  if (rt_lcmp v220 1111) = 0 then
  j_X12_isKept_241 mem0
  else
  (rt_gf 12 7 a0 mem0).bind fun v231 =>
  if (rt_lcmp v231 423) = 0 then
  j_X12_isKept_241 mem0
  else
  j_X12_isKept_246 0 mem0
  else
  some 1
def b_X12_wigNamed_2 (a0 : Int) (a1 : Int) (mem0 : rt_M) (s : Int) : Option ((Int) ⊕ ((Unit) ⊕ (Int))) :=
  (rt_gf 12 10 a0 mem0).bind fun v4 =>
  (rt_al 1 v4 ((rt_iadd (rt_imul 4 a1) 0)) mem0).bind fun v12 =>
  if v12 ≤ s then
  some (.inr (.inl ()))
  else
  (rt_gf 12 11 a0 mem0).bind fun v17 =>
  (rt_al 2 v17 ((rt_iadd (rt_imul 6 a1) s)) mem0).bind fun v26 =>
  (rt_gf 12 7 a0 mem0).bind fun v28 =>
  if (rt_lcmp v26 v28) = 0 then
  Option.map (fun t => .inr (.inr t)) (some s)
  else
  some (.inl (rt_iadd s 1))
def f_X12_wigNamed (a0 : Int) (a1 : Int) (mem0 : rt_M) : Option (Int) :=
  (rt_it (b_X12_wigNamed_2 a0 a1 mem0) 4000 0).bind fun E2 => match E2 with
  | .inr t => some t
  | .inl X2 =>
  some ((-1))
def b_X12_headNamed_2 (a0 : Int) (a1 : Int) (mem0 : rt_M) (s : Int) : Option ((Int) ⊕ ((Unit) ⊕ (Int))) :=
  (rt_gf 12 10 a0 mem0).bind fun v4 =>
  (rt_al 1 v4 ((rt_iadd (rt_imul 4 a1) 1)) mem0).bind fun v12 =>
  if v12 ≤ s then
  some (.inr (.inl ()))
  else
  (rt_gf 12 12 a0 mem0).bind fun v17 =>
  (rt_al 2 v17 ((rt_iadd (rt_imul 6 a1) s)) mem0).bind fun v26 =>
  (rt_gf 12 7 a0 mem0).bind fun v28 =>
  if (rt_lcmp v26 v28) = 0 then
  Option.map (fun t => .inr (.inr t)) (some s)
  else
  some (.inl (rt_iadd s 1))
def f_X12_headNamed (a0 : Int) (a1 : Int) (mem0 : rt_M) : Option (Int) :=
  (rt_it (b_X12_headNamed_2 a0 a1 mem0) 4000 0).bind fun E2 => match E2 with
  | .inr t => some t
  | .inl X2 =>
  some ((-1))
def f_X12_needsNumber (a0 : Int) (a1 : Int) (a2 : Int) (mem0 : rt_M) : Option (Int × rt_M) :=
  (rt_gf 12 6 a0 mem0).bind fun v1 =>
  if v1 = 2 then
  (rt_gf 12 8 a0 mem0).bind fun v15 =>
  (f_X12_within v15 a1 a2 mem0).bind fun p20 =>
  if p20 = 0 then
  (f_X12_fails a0 4 mem0).bind fun p28 =>
  (rt_bz p28.1).bind fun _ => some (p28.1, p28.2)
  else
  (rt_gf 12 8 a0 mem0).bind fun v34 =>
  (rt_pf 12 39 a0 v34 mem0).bind fun m37 =>
  (f_X12_nextToken a0 m37).bind fun p41 =>
  some (1, p41)
  else
  (f_X12_fails a0 1 mem0).bind fun p10 =>
  (rt_bz p10.1).bind fun _ => some (p10.1, p10.2)
def f_X12_needsWord (a0 : Int) (a1 : Int) (mem0 : rt_M) : Option (Int × rt_M) :=
  (f_X12_isWord a0 a1 mem0).bind fun p2 =>
  if p2 = 0 then
  (f_X12_fails a0 1 mem0).bind fun p10 =>
  (rt_bz p10.1).bind fun _ => some (p10.1, p10.2)
  else
  (f_X12_nextToken a0 mem0).bind fun p15 =>
  some (1, p15)
def j_X12_needsBoth_23 (s0 : Int) (mem0 : rt_M) : Option (Int × rt_M) :=
  (rt_bz s0).bind fun _ => some (s0, mem0)
def j_X12_needsBoth_22 (mem0 : rt_M) : Option (Int × rt_M) :=
  j_X12_needsBoth_23 0 mem0
def f_X12_needsBoth (a0 : Int) (a1 : Int) (a3 : Int) (a4 : Int) (mem0 : rt_M) : Option (Int × rt_M) :=
  (f_X12_needsWord a0 a1 mem0).bind fun p2 =>
  if p2.1 = 0 then
  j_X12_needsBoth_22 p2.2
  else
  (f_X12_needsNumber a0 a3 a4 p2.2).bind fun p12 =>
  if p12.1 = 0 then
  j_X12_needsBoth_22 p12.2
  else
  j_X12_needsBoth_23 1 p12.2
def f_X12_closes (a0 : Int) (mem0 : rt_M) : Option (Int × rt_M) :=
  (f_X12_isSign a0 59 mem0).bind fun p3 =>
  if p3 = 0 then
  (f_X12_fails a0 1 mem0).bind fun p11 =>
  (rt_bz p11.1).bind fun _ => some (p11.1, p11.2)
  else
  (f_X12_nextToken a0 mem0).bind fun p16 =>
  some (1, p16)
def j_X12_needsNew_29 (a0 : Int) (mem0 : rt_M) : Option (Int × rt_M) :=
  (f_X12_fails a0 3 mem0).bind fun p31 =>
  (rt_bz p31.1).bind fun _ => some (p31.1, p31.2)
def f_X12_needsNew (a0 : Int) (mem0 : rt_M) : Option (Int × rt_M) :=
  (f_X12_isKept a0 mem0).bind fun p1 =>
  if p1 = 0 then
  (f_X12_wigNamed a0 1 mem0).bind fun p15 =>
  if 0 ≤ p15 then
  j_X12_needsNew_29 a0 mem0
  else
  (f_X12_headNamed a0 1 mem0).bind fun p23 =>
  if p23 < 0 then
  (rt_gf 12 7 a0 mem0).bind fun v37 =>
  (rt_pf 12 40 a0 v37 mem0).bind fun m40 =>
  (f_X12_nextToken a0 m40).bind fun p44 =>
  some (1, p44)
  else
  j_X12_needsNew_29 a0 mem0
  else
  (f_X12_fails a0 1 mem0).bind fun p9 =>
  (rt_bz p9.1).bind fun _ => some (p9.1, p9.2)
def j_X12_readsWig_47 (mem0 : rt_M) : Option (Int × rt_M) :=
  some (0, mem0)
def f_X12_readsWig (a0 : Int) (mem0 : rt_M) : Option (Int × rt_M) :=
  (rt_gf 12 10 a0 mem0).bind fun v3 =>
  (rt_al 1 v3 4 mem0).bind fun v7 =>
  if (rt_iadd 6 v7) = 12 then
  (f_X12_fails a0 5 mem0).bind fun p18 =>
  (rt_bz p18.1).bind fun _ => some (p18.1, p18.2)
  else
  (f_X12_nextToken a0 mem0).bind fun p23 =>
  (f_X12_needsNew a0 p23).bind fun p27 =>
  if p27.1 = 0 then
  j_X12_readsWig_47 p27.2
  else
  (f_X12_needsBoth a0 381245 40 79 p27.2).bind fun p41 =>
  if p41.1 = 0 then
  j_X12_readsWig_47 p41.2
  else
  (rt_gf 12 13 a0 p41.2).bind fun v50 =>
  (rt_gf 12 39 a0 p41.2).bind fun v55 =>
  (rt_sa 1 v50 ((rt_iadd 6 v7)) v55 p41.2).bind fun m58 =>
  (f_X12_needsBoth a0 218546996 0 99 m58).bind fun p66 =>
  if p66.1 = 0 then
  some (0, p66.2)
  else
  (rt_gf 12 14 a0 p66.2).bind fun v75 =>
  (rt_gf 12 39 a0 p66.2).bind fun v80 =>
  (rt_sa 1 v75 ((rt_iadd 6 v7)) v80 p66.2).bind fun m83 =>
  (f_X12_needsBoth a0 239882 0 9 m83).bind fun p91 =>
  if p91.1 = 0 then
  some (0, p91.2)
  else
  (rt_gf 12 15 a0 p91.2).bind fun v100 =>
  (rt_gf 12 39 a0 p91.2).bind fun v105 =>
  (rt_sa 1 v100 ((rt_iadd 6 v7)) v105 p91.2).bind fun m108 =>
  (rt_gf 12 11 a0 m108).bind fun v110 =>
  (rt_gf 12 40 a0 m108).bind fun v115 =>
  (rt_sa 2 v110 ((rt_iadd 6 v7)) v115 m108).bind fun m118 =>
  (rt_gf 12 10 a0 m118).bind fun v120 =>
  (rt_al 1 v120 4 m118).bind fun v125 =>
  (rt_sa 1 v120 4 ((rt_iadd v125 1)) m118).bind fun m128 =>
  (f_X12_closes a0 m128).bind fun p130 =>
  (rt_bz p130.1).bind fun _ => some (p130.1, p130.2)
def j_X12_readsHead_97 (a0 : Int) (a1 : Int) (s0 : Int) (s1 : Int) (s2 : Int) (mem0 : rt_M) : Option (Int × rt_M) :=
  (rt_sa 1 s0 s1 s2 mem0).bind fun m97 =>
  (rt_gf 12 16 a0 m97).bind fun v99 =>
  (rt_al 1 v99 a1 m97).bind fun v103 =>
  if 0 ≤ v103 then
  (f_X12_nextToken a0 m97).bind fun p114 =>
  (f_X12_needsBoth a0 381245 40 79 p114).bind fun p125 =>
  if p125.1 = 0 then
  some (0, p125.2)
  else
  (rt_gf 12 17 a0 p125.2).bind fun v134 =>
  (rt_gf 12 39 a0 p125.2).bind fun v139 =>
  (rt_sa 1 v134 a1 v139 p125.2).bind fun m142 =>
  (f_X12_needsBoth a0 24925 0 99 m142).bind fun p150 =>
  if p150.1 = 0 then
  some (0, p150.2)
  else
  (rt_gf 12 18 a0 p150.2).bind fun v159 =>
  (rt_gf 12 39 a0 p150.2).bind fun v164 =>
  (rt_sa 1 v159 a1 v164 p150.2).bind fun m167 =>
  (f_X12_needsBoth a0 239882 0 9 m167).bind fun p175 =>
  if p175.1 = 0 then
  some (0, p175.2)
  else
  (rt_gf 12 19 a0 p175.2).bind fun v184 =>
  (rt_gf 12 39 a0 p175.2).bind fun v189 =>
  (rt_sa 1 v184 a1 v189 p175.2).bind fun m192 =>
  (rt_gf 12 12 a0 m192).bind fun v194 =>
  (rt_gf 12 40 a0 m192).bind fun v199 =>
  (rt_sa 2 v194 a1 v199 m192).bind fun m202 =>
  (rt_gf 12 10 a0 m202).bind fun v204 =>
  (rt_al 1 v204 5 m202).bind fun v209 =>
  (rt_sa 1 v204 5 ((rt_iadd v209 1)) m202).bind fun m212 =>
  (f_X12_closes a0 m212).bind fun p214 =>
  (rt_bz p214.1).bind fun _ => some (p214.1, p214.2)
  else
  (f_X12_fails a0 1 m97).bind fun p109 =>
  (rt_bz p109.1).bind fun _ => some (p109.1, p109.2)
def f_X12_readsHead (a0 : Int) (mem0 : rt_M) : Option (Int × rt_M) :=
  (rt_gf 12 10 a0 mem0).bind fun v3 =>
  (rt_al 1 v3 5 mem0).bind fun v7 =>
  if (rt_iadd 6 v7) = 12 then
  (f_X12_fails a0 5 mem0).bind fun p18 =>
  (rt_bz p18.1).bind fun _ => some (p18.1, p18.2)
  else
  (f_X12_nextToken a0 mem0).bind fun p23 =>
  (f_X12_needsNew a0 p23).bind fun p27 =>
  if p27.1 = 0 then
  some (0, p27.2)
  else
  (rt_gf 12 16 a0 p27.2).bind fun v36 =>
  (f_X12_isWord a0 8740238 p27.2).bind fun p44 =>
  if p44 = 0 then
  (f_X12_isWord a0 6257 p27.2).bind fun p58 =>
  if p58 = 0 then
  (f_X12_isWord a0 40423 p27.2).bind fun p72 =>
  if p72 = 0 then
  (f_X12_isWord a0 1888 p27.2).bind fun p86 =>
  if p86 = 0 then
  j_X12_readsHead_97 a0 ((rt_iadd 6 v7)) v36 ((rt_iadd 6 v7)) ((-1)) p27.2
  else
  j_X12_readsHead_97 a0 ((rt_iadd 6 v7)) v36 ((rt_iadd 6 v7)) 3 p27.2
  else
  j_X12_readsHead_97 a0 ((rt_iadd 6 v7)) v36 ((rt_iadd 6 v7)) 2 p27.2
  else
  j_X12_readsHead_97 a0 ((rt_iadd 6 v7)) v36 ((rt_iadd 6 v7)) 1 p27.2
  else
  j_X12_readsHead_97 a0 ((rt_iadd 6 v7)) v36 ((rt_iadd 6 v7)) 0 p27.2
def j_X12_readsHeats_35_22 (a0 : Int) (a1 : Int) (mem0 : rt_M) : Option ((Int × rt_M) ⊕ (Int × rt_M)) :=
  (rt_gf 12 6 a0 mem0).bind fun v36 =>
  if v36 = 2 then
  (rt_gf 12 8 a0 mem0).bind fun v50 =>
  if v50 ≤ 9 then
  if a1 = 12 then
  Option.map (fun t => .inr t) ((f_X12_fails a0 5 mem0).bind fun p72 =>
  (rt_bz p72.1).bind fun _ => some (p72.1, p72.2))
  else
  (rt_gf 12 20 a0 mem0).bind fun v77 =>
  (rt_gf 12 8 a0 mem0).bind fun v85 =>
  (rt_sa 1 v77 ((rt_iadd 12 a1)) v85 mem0).bind fun m88 =>
  (f_X12_nextToken a0 m88).bind fun p93 =>
  some (.inl ((rt_iadd a1 1), p93))
  else
  Option.map (fun t => .inr t) ((f_X12_fails a0 4 mem0).bind fun p60 =>
  (rt_bz p60.1).bind fun _ => some (p60.1, p60.2))
  else
  Option.map (fun t => .inr t) ((f_X12_fails a0 1 mem0).bind fun p45 =>
  (rt_bz p45.1).bind fun _ => some (p45.1, p45.2))
def b_X12_readsHeats_22 (a0 : Int) (s : Int × rt_M) : Option ((Int × rt_M) ⊕ (Int × rt_M)) :=
  if s.1 = 0 then
  j_X12_readsHeats_35_22 a0 s.1 s.2
  else
  (f_X12_isSign a0 59 s.2).bind fun p29 =>
  if p29 = 0 then
  j_X12_readsHeats_35_22 a0 s.1 s.2
  else
  Option.map (fun t => .inr t) ((rt_gf 12 10 a0 s.2).bind fun v100 =>
  (rt_sa 1 v100 7 s.1 s.2).bind fun m106 =>
  (f_X12_closes a0 m106).bind fun p108 =>
  (rt_bz p108.1).bind fun _ => some (p108.1, p108.2))
def f_X12_readsHeats (a0 : Int) (mem0 : rt_M) : Option (Int × rt_M) :=
  (rt_gf 12 10 a0 mem0).bind fun v1 =>
  (rt_al 1 v1 7 mem0).bind fun v6 =>
  if v6 ≤ 0 then
  (f_X12_nextToken a0 mem0).bind fun p17 =>
  rt_it (b_X12_readsHeats_22 a0) 4000 ((0, p17))
  else
  (f_X12_fails a0 3 mem0).bind fun p12 =>
  (rt_bz p12.1).bind fun _ => some (p12.1, p12.2)
def f_X12_readsSlack (a0 : Int) (mem0 : rt_M) : Option (Int × rt_M) :=
  (rt_gf 12 26 a0 mem0).bind fun v1 =>
  if v1 = 0 then
  (rt_pf 12 26 a0 1 mem0).bind fun m15 =>
  (f_X12_nextToken a0 m15).bind fun p19 =>
  (f_X12_needsNumber a0 0 9 p19).bind fun p26 =>
  if p26.1 = 0 then
  some (0, p26.2)
  else
  (rt_gf 12 10 a0 p26.2).bind fun v35 =>
  (rt_gf 12 39 a0 p26.2).bind fun v41 =>
  (rt_sa 1 v35 6 v41 p26.2).bind fun m44 =>
  (f_X12_closes a0 m44).bind fun p46 =>
  (rt_bz p46.1).bind fun _ => some (p46.1, p46.2)
  else
  (f_X12_fails a0 3 mem0).bind fun p9 =>
  (rt_bz p9.1).bind fun _ => some (p9.1, p9.2)
def f_X12_readsLaw (a0 : Int) (a1 : Int) (mem0 : rt_M) : Option (Int × rt_M) :=
  (rt_gf 12 22 a0 mem0).bind fun v1 =>
  (rt_al 1 v1 ((rt_iadd 2 a1)) mem0).bind fun v7 =>
  (rt_gf 12 21 a0 mem0).bind fun v9 =>
  (rt_al 1 v9 ((rt_iadd 2 a1)) mem0).bind fun v15 =>
  if v7 ≤ v15 then
  (rt_pf 12 25 a0 a1 mem0).bind fun m27 =>
  (f_X12_nextToken a0 m27).bind fun p31 =>
  (rt_gf 12 21 a0 p31).bind fun v35 =>
  (rt_gf 12 24 a0 p31).bind fun v42 =>
  (rt_sa 1 v35 ((rt_iadd 2 a1)) v42 p31).bind fun m45 =>
  (f_X12_reads a0 m45).bind fun p47 =>
  if p47.1 = 0 then
  some (0, p47.2)
  else
  (rt_gf 12 22 a0 p47.2).bind fun v56 =>
  (rt_gf 12 24 a0 p47.2).bind fun v63 =>
  (rt_sa 1 v56 ((rt_iadd 2 a1)) v63 p47.2).bind fun m66 =>
  some (1, m66)
  else
  (f_X12_fails a0 3 mem0).bind fun p21 =>
  (rt_bz p21.1).bind fun _ => some (p21.1, p21.2)
def f_X12_begins (a0 : Int) (mem0 : rt_M) : Option (rt_M) :=
  (rt_gf 12 1 a0 mem0).bind fun v2 =>
  (rt_pf 12 3 a0 v2 mem0).bind fun m5 =>
  (rt_pf 12 1 a0 0 m5).bind fun m10 =>
  (rt_pf 12 4 a0 0 m10).bind fun m15 =>
  (f_X12_nextToken a0 m15).bind fun p19 =>
  some p19
def b_X12_readsAll_32 (a0 : Int) (s : Int × rt_M) : Option ((Int × rt_M) ⊕ (rt_M)) :=
  if 4 ≤ s.1 then
  some (.inr s.2)
  else
  (rt_gf 12 21 a0 s.2).bind fun v38 =>
  (rt_sa 1 v38 s.1 1000 s.2).bind fun m45 =>
  (rt_gf 12 22 a0 m45).bind fun v47 =>
  (rt_sa 1 v47 s.1 1000 m45).bind fun m54 =>
  some (.inl ((rt_iadd s.1 1), m54))
def j_X12_readsAll_193_77 (a0 : Int) (s0 : Int) (mem0 : rt_M) : Option ((rt_M) ⊕ ((rt_M) ⊕ (Int × rt_M))) :=
  if s0 = 0 then
  Option.map (fun t => .inr (.inr t)) (some (0, mem0))
  else
  some (.inl mem0)
def b_X12_readsAll_77 (a0 : Int) (s : rt_M) : Option ((rt_M) ⊕ ((rt_M) ⊕ (Int × rt_M))) :=
  (rt_gf 12 6 a0 s).bind fun v78 =>
  if v78 = 0 then
  some (.inr (.inl s))
  else
  (f_X12_isWord a0 17017 s).bind fun p88 =>
  if p88 = 0 then
  (f_X12_isWord a0 161140 s).bind fun p105 =>
  if p105 = 0 then
  (f_X12_isWord a0 4351231 s).bind fun p122 =>
  if p122 = 0 then
  (f_X12_isWord a0 10334396 s).bind fun p139 =>
  if p139 = 0 then
  (f_X12_isWord a0 284959882 s).bind fun p156 =>
  if p156 = 0 then
  (f_X12_isWord a0 154733320 s).bind fun p174 =>
  if p174 = 0 then
  (f_X12_fails a0 1 s).bind fun p190 =>
  j_X12_readsAll_193_77 a0 p190.1 p190.2
  else
  (f_X12_readsLaw a0 1 s).bind fun p182 =>
  j_X12_readsAll_193_77 a0 p182.1 p182.2
  else
  (f_X12_readsLaw a0 0 s).bind fun p164 =>
  j_X12_readsAll_193_77 a0 p164.1 p164.2
  else
  (f_X12_readsSlack a0 s).bind fun p146 =>
  j_X12_readsAll_193_77 a0 p146.1 p146.2
  else
  (f_X12_readsHeats a0 s).bind fun p129 =>
  j_X12_readsAll_193_77 a0 p129.1 p129.2
  else
  (f_X12_readsHead a0 s).bind fun p112 =>
  j_X12_readsAll_193_77 a0 p112.1 p112.2
  else
  (f_X12_readsWig a0 s).bind fun p95 =>
  j_X12_readsAll_193_77 a0 p95.1 p95.2
def f_X12_readsAll (a0 : Int) (mem0 : rt_M) : Option (Int × rt_M) :=
  (rt_gf 12 10 a0 mem0).bind fun v1 =>
  (rt_sa 1 v1 4 0 mem0).bind fun m6 =>
  (rt_gf 12 10 a0 m6).bind fun v8 =>
  (rt_sa 1 v8 5 0 m6).bind fun m13 =>
  (rt_gf 12 10 a0 m13).bind fun v15 =>
  (rt_sa 1 v15 6 1 m13).bind fun m21 =>
  (rt_gf 12 10 a0 m21).bind fun v23 =>
  (rt_sa 1 v23 7 0 m21).bind fun m29 =>
  (rt_it (b_X12_readsAll_32 a0) 4000 ((2, m29))).bind fun X32 =>
  (rt_pf 12 26 a0 0 X32).bind fun m63 =>
  (rt_pf 12 24 a0 1000 m63).bind fun m70 =>
  (f_X12_begins a0 m70).bind fun p74 =>
  (rt_it (b_X12_readsAll_77 a0) 4000 p74).bind fun E77 => match E77 with
  | .inr t => some t
  | .inl X77 =>
  some (1, X77)
def b_X12_shifts_2 (a0 : Int) (a1 : Int) (s : Int × rt_M) : Option ((Int × rt_M) ⊕ (rt_M)) :=
  if a1 ≤ s.1 then
  some (.inr s.2)
  else
  (rt_al 1 a0 ((rt_iadd a1 s.1)) s.2).bind fun v13 =>
  (rt_sa 1 a0 s.1 v13 s.2).bind fun m14 =>
  some (.inl ((rt_iadd s.1 1), m14))
def f_X12_shifts (a0 : Int) (a1 : Int) (mem0 : rt_M) : Option (rt_M) :=
  (rt_it (b_X12_shifts_2 a0 a1) 4000 ((0, mem0))).bind fun X2 =>
  some X2
def b_X12_shiftsNames_2 (a0 : Int) (a1 : Int) (s : Int × rt_M) : Option ((Int × rt_M) ⊕ (rt_M)) :=
  if a1 ≤ s.1 then
  some (.inr s.2)
  else
  (rt_al 2 a0 ((rt_iadd a1 s.1)) s.2).bind fun v13 =>
  (rt_sa 2 a0 s.1 v13 s.2).bind fun m14 =>
  some (.inl ((rt_iadd s.1 1), m14))
def f_X12_shiftsNames (a0 : Int) (a1 : Int) (mem0 : rt_M) : Option (rt_M) :=
  (rt_it (b_X12_shiftsNames_2 a0 a1) 4000 ((0, mem0))).bind fun X2 =>
  some X2
def b_X12_lays_110 (a0 : Int) (s : Int × rt_M) : Option ((Int × rt_M) ⊕ (rt_M)) :=
  if 2 ≤ s.1 then
  some (.inr s.2)
  else
  (rt_gf 12 21 a0 s.2).bind fun v116 =>
  (rt_gf 12 21 a0 s.2).bind fun v121 =>
  (rt_al 1 v121 ((rt_iadd 2 s.1)) s.2).bind fun v127 =>
  (rt_sa 1 v116 s.1 ((rt_isub v127 1000)) s.2).bind fun m132 =>
  (rt_gf 12 22 a0 m132).bind fun v134 =>
  (rt_gf 12 22 a0 m132).bind fun v139 =>
  (rt_al 1 v139 ((rt_iadd 2 s.1)) m132).bind fun v145 =>
  (rt_sa 1 v134 s.1 ((rt_isub v145 1000)) m132).bind fun m150 =>
  some (.inl ((rt_iadd s.1 1), m150))
def f_X12_lays (a0 : Int) (mem0 : rt_M) : Option (rt_M) :=
  (rt_gf 12 10 a0 mem0).bind fun v1 =>
  (f_X12_shifts v1 4 mem0).bind fun p5 =>
  (rt_gf 12 11 a0 p5).bind fun v9 =>
  (f_X12_shiftsNames v9 6 p5).bind fun p14 =>
  (rt_gf 12 12 a0 p14).bind fun v18 =>
  (f_X12_shiftsNames v18 6 p14).bind fun p23 =>
  (rt_gf 12 13 a0 p23).bind fun v27 =>
  (f_X12_shifts v27 6 p23).bind fun p32 =>
  (rt_gf 12 14 a0 p32).bind fun v36 =>
  (f_X12_shifts v36 6 p32).bind fun p41 =>
  (rt_gf 12 15 a0 p41).bind fun v45 =>
  (f_X12_shifts v45 6 p41).bind fun p50 =>
  (rt_gf 12 16 a0 p50).bind fun v54 =>
  (f_X12_shifts v54 6 p50).bind fun p59 =>
  (rt_gf 12 17 a0 p59).bind fun v63 =>
  (f_X12_shifts v63 6 p59).bind fun p68 =>
  (rt_gf 12 18 a0 p68).bind fun v72 =>
  (f_X12_shifts v72 6 p68).bind fun p77 =>
  (rt_gf 12 19 a0 p77).bind fun v81 =>
  (f_X12_shifts v81 6 p77).bind fun p86 =>
  (rt_gf 12 20 a0 p86).bind fun v90 =>
  (f_X12_shifts v90 12 p86).bind fun p95 =>
  (rt_gf 12 23 a0 p95).bind fun v99 =>
  (f_X12_shifts v99 1000 p95).bind fun p105 =>
  (rt_it (b_X12_lays_110 a0) 4000 ((0, p105))).bind fun X110 =>
  some X110
def b_X12_copies_3 (a0 : Int) (a1 : Int) (a2 : Int) (a3 : Int) (s : Int × rt_M) : Option ((Int × rt_M) ⊕ (rt_M)) :=
  if 13 ≤ s.1 then
  some (.inr s.2)
  else
  (rt_al 1 a0 ((rt_iadd a1 s.1)) s.2).bind fun v20 =>
  (rt_sa 1 a2 ((rt_iadd a3 s.1)) v20 s.2).bind fun m21 =>
  some (.inl ((rt_iadd s.1 1), m21))
def f_X12_copies (a0 : Int) (a1 : Int) (a2 : Int) (a3 : Int) (mem0 : rt_M) : Option (rt_M) :=
  (rt_it (b_X12_copies_3 a0 a1 a2 a3) 4000 ((0, mem0))).bind fun X3 =>
  some X3
def j_X12_readsLine_202 (a0 : Int) (mem0 : rt_M) : Option (Int × rt_M) :=
  (rt_gf 12 41 a0 mem0).bind fun v203 =>
  (rt_al 1 v203 5 mem0).bind fun v208 =>
  (rt_sa 1 v203 5 ((rt_iadd v208 1)) mem0).bind fun m211 =>
  (f_X12_closes a0 m211).bind fun p213 =>
  (rt_bz p213.1).bind fun _ => some (p213.1, p213.2)
def j_X12_readsLine_155 (a0 : Int) (a1 : Int) (a2 : Int) (mem0 : rt_M) : Option (Int × rt_M) :=
  if a1 = 0 then
  (f_X12_isKept a0 mem0).bind fun p160 =>
  if p160 = 0 then
  (rt_gf 12 44 a0 mem0).bind fun v173 =>
  (f_X12_headNamed a0 0 mem0).bind fun p179 =>
  (rt_sa 1 v173 a2 p179 mem0).bind fun m182 =>
  (rt_gf 12 44 a0 m182).bind fun v184 =>
  (rt_al 1 v184 a2 m182).bind fun v188 =>
  if 0 ≤ v188 then
  (f_X12_nextToken a0 m182).bind fun p199 =>
  j_X12_readsLine_202 a0 p199
  else
  (f_X12_fails a0 2 m182).bind fun p194 =>
  (rt_bz p194.1).bind fun _ => some (p194.1, p194.2)
  else
  (f_X12_fails a0 1 mem0).bind fun p168 =>
  (rt_bz p168.1).bind fun _ => some (p168.1, p168.2)
  else
  j_X12_readsLine_202 a0 mem0
def j_X12_readsLine_57 (a0 : Int) (s0 : Int) (mem0 : rt_M) : Option (Int × rt_M) :=
  if 0 ≤ s0 then
  (rt_gf 12 41 a0 mem0).bind fun v69 =>
  (rt_al 1 v69 5 mem0).bind fun v73 =>
  if v73 = 40 then
  (f_X12_fails a0 5 mem0).bind fun p81 =>
  (rt_bz p81.1).bind fun _ => some (p81.1, p81.2)
  else
  (f_X12_nextToken a0 mem0).bind fun p86 =>
  (rt_gf 12 41 a0 p86).bind fun v93 =>
  (rt_al 1 v93 5 p86).bind fun v97 =>
  (rt_gf 12 42 a0 p86).bind fun v101 =>
  (rt_sa 1 v101 ((rt_iadd 200 v97)) s0 p86).bind fun m106 =>
  if s0 = 3 then
  j_X12_readsLine_155 a0 s0 ((rt_iadd 200 v97)) m106
  else
  (f_X12_isKept a0 m106).bind fun p113 =>
  if p113 = 0 then
  (rt_gf 12 43 a0 m106).bind fun v126 =>
  (f_X12_wigNamed a0 0 m106).bind fun p132 =>
  (rt_sa 1 v126 ((rt_iadd 200 v97)) p132 m106).bind fun m135 =>
  (rt_gf 12 43 a0 m135).bind fun v137 =>
  (rt_al 1 v137 ((rt_iadd 200 v97)) m135).bind fun v141 =>
  if 0 ≤ v141 then
  (f_X12_nextToken a0 m135).bind fun p152 =>
  j_X12_readsLine_155 a0 s0 ((rt_iadd 200 v97)) p152
  else
  (f_X12_fails a0 2 m135).bind fun p147 =>
  (rt_bz p147.1).bind fun _ => some (p147.1, p147.2)
  else
  (f_X12_fails a0 1 m106).bind fun p121 =>
  (rt_bz p121.1).bind fun _ => some (p121.1, p121.2)
  else
  (f_X12_fails a0 1 mem0).bind fun p64 =>
  (rt_bz p64.1).bind fun _ => some (p64.1, p64.2)
def f_X12_readsLine (a0 : Int) (mem0 : rt_M) : Option (Int × rt_M) :=
  (f_X12_isWord a0 12251 mem0).bind fun p4 =>
  if p4 = 0 then
  (f_X12_isWord a0 11103 mem0).bind fun p18 =>
  if p18 = 0 then
  (f_X12_isWord a0 259906 mem0).bind fun p32 =>
  if p32 = 0 then
  (f_X12_isWord a0 275320391 mem0).bind fun p46 =>
  if p46 = 0 then
  j_X12_readsLine_57 a0 ((-1)) mem0
  else
  j_X12_readsLine_57 a0 3 mem0
  else
  j_X12_readsLine_57 a0 2 mem0
  else
  j_X12_readsLine_57 a0 1 mem0
  else
  j_X12_readsLine_57 a0 0 mem0
def b_X12_laysLines_14 (a0 : Int) (a1 : Int) (a2 : Int) (s : Int × rt_M) : Option ((Int × rt_M) ⊕ (rt_M)) :=
  if 40 ≤ s.1 then
  some (.inr s.2)
  else
  (rt_gf 12 42 a0 s.2).bind fun v21 =>
  (rt_gf 12 42 a0 s.2).bind fun v31 =>
  (rt_al 1 v31 ((rt_iadd (rt_imul 40 a1) s.1)) s.2).bind fun v40 =>
  (rt_sa 1 v21 ((rt_iadd (rt_imul 40 a2) s.1)) v40 s.2).bind fun m41 =>
  (rt_gf 12 43 a0 m41).bind fun v43 =>
  (rt_gf 12 43 a0 m41).bind fun v53 =>
  (rt_al 1 v53 ((rt_iadd (rt_imul 40 a1) s.1)) m41).bind fun v62 =>
  (rt_sa 1 v43 ((rt_iadd (rt_imul 40 a2) s.1)) v62 m41).bind fun m63 =>
  (rt_gf 12 44 a0 m63).bind fun v65 =>
  (rt_gf 12 44 a0 m63).bind fun v75 =>
  (rt_al 1 v75 ((rt_iadd (rt_imul 40 a1) s.1)) m63).bind fun v84 =>
  (rt_sa 1 v65 ((rt_iadd (rt_imul 40 a2) s.1)) v84 m63).bind fun m85 =>
  some (.inl ((rt_iadd s.1 1), m85))
def f_X12_laysLines (a0 : Int) (a1 : Int) (a2 : Int) (mem0 : rt_M) : Option (rt_M) :=
  (rt_gf 12 41 a0 mem0).bind fun v1 =>
  (rt_gf 12 41 a0 mem0).bind fun v6 =>
  (rt_al 1 v6 a1 mem0).bind fun v10 =>
  (rt_sa 1 v1 a2 v10 mem0).bind fun m11 =>
  (rt_it (b_X12_laysLines_14 a0 a1 a2) 4000 ((0, m11))).bind fun X14 =>
  some X14
def b_X12_laysSaid_14 (a0 : Int) (a1 : Int) (a2 : Int) (s : Int × rt_M) : Option ((Int × rt_M) ⊕ (rt_M)) :=
  if 8 ≤ s.1 then
  some (.inr s.2)
  else
  (rt_gf 12 46 a0 s.2).bind fun v21 =>
  (rt_gf 12 46 a0 s.2).bind fun v31 =>
  (rt_al 1 v31 ((rt_iadd (rt_imul 8 a1) s.1)) s.2).bind fun v40 =>
  (rt_sa 1 v21 ((rt_iadd (rt_imul 8 a2) s.1)) v40 s.2).bind fun m41 =>
  (rt_gf 12 47 a0 m41).bind fun v43 =>
  (rt_gf 12 47 a0 m41).bind fun v53 =>
  (rt_al 1 v53 ((rt_iadd (rt_imul 8 a1) s.1)) m41).bind fun v62 =>
  (rt_sa 1 v43 ((rt_iadd (rt_imul 8 a2) s.1)) v62 m41).bind fun m63 =>
  (rt_gf 12 48 a0 m63).bind fun v65 =>
  (rt_gf 12 48 a0 m63).bind fun v75 =>
  (rt_al 3 v75 ((rt_iadd (rt_imul 8 a1) s.1)) m63).bind fun v84 =>
  (rt_bz v84).bind fun w85 =>
  (rt_sa 3 v65 ((rt_iadd (rt_imul 8 a2) s.1)) v84 m63).bind fun m85 =>
  some (.inl ((rt_iadd s.1 1), m85))
def b_X12_laysSaid_94 (a0 : Int) (a1 : Int) (a2 : Int) (s : Int × rt_M) : Option ((Int × rt_M) ⊕ (rt_M)) :=
  if 6 ≤ s.1 then
  some (.inr s.2)
  else
  (rt_gf 12 49 a0 s.2).bind fun v101 =>
  (rt_gf 12 49 a0 s.2).bind fun v111 =>
  (rt_al 1 v111 ((rt_iadd (rt_imul 6 a1) s.1)) s.2).bind fun v120 =>
  (rt_sa 1 v101 ((rt_iadd (rt_imul 6 a2) s.1)) v120 s.2).bind fun m121 =>
  some (.inl ((rt_iadd s.1 1), m121))
def f_X12_laysSaid (a0 : Int) (a1 : Int) (a2 : Int) (mem0 : rt_M) : Option (rt_M) :=
  (rt_gf 12 45 a0 mem0).bind fun v1 =>
  (rt_gf 12 45 a0 mem0).bind fun v6 =>
  (rt_al 1 v6 a1 mem0).bind fun v10 =>
  (rt_sa 1 v1 a2 v10 mem0).bind fun m11 =>
  (rt_it (b_X12_laysSaid_14 a0 a1 a2) 4000 ((0, m11))).bind fun X14 =>
  (rt_it (b_X12_laysSaid_94 a0 a1 a2) 4000 ((0, X14))).bind fun X94 =>
  some X94
def b_X12_fresh_9 (a0 : Int) (s : Int × rt_M) : Option ((Int × rt_M) ⊕ (rt_M)) :=
  if 6 ≤ s.1 then
  some (.inr s.2)
  else
  (rt_gf 12 50 a0 s.2).bind fun v16 =>
  (rt_sa 1 v16 ((rt_iadd 1 s.1)) ((-1)) s.2).bind fun m23 =>
  (rt_gf 12 50 a0 m23).bind fun v25 =>
  (rt_sa 1 v25 ((rt_iadd 7 s.1)) 0 m23).bind fun m33 =>
  some (.inl ((rt_iadd s.1 1), m33))
def f_X12_fresh (a0 : Int) (mem0 : rt_M) : Option (rt_M) :=
  (rt_gf 12 50 a0 mem0).bind fun v1 =>
  (rt_sa 1 v1 0 0 mem0).bind fun m6 =>
  (rt_it (b_X12_fresh_9 a0) 4000 ((0, m6))).bind fun X9 =>
  some X9
def b_X12_forgets_2 (a0 : Int) (s : Int × rt_M) : Option ((Int × rt_M) ⊕ (rt_M)) :=
  if 6 ≤ s.1 then
  some (.inr s.2)
  else
  (rt_gf 12 49 a0 s.2).bind fun v9 =>
  (rt_sa 1 v9 s.1 ((-1)) s.2).bind fun m14 =>
  some (.inl ((rt_iadd s.1 1), m14))
def f_X12_forgets (a0 : Int) (mem0 : rt_M) : Option (rt_M) :=
  (rt_it (b_X12_forgets_2 a0) 4000 ((0, mem0))).bind fun X2 =>
  some X2
def b_X12_realm_50 (a0 : Int) (s : Int × rt_M) : Option ((Int × rt_M) ⊕ (rt_M)) :=
  if 4 ≤ s.1 then
  some (.inr s.2)
  else
  (rt_gf 12 54 a0 s.2).bind fun v56 =>
  (rt_sa 3 v56 s.1 0 s.2).bind fun m61 =>
  some (.inl ((rt_iadd s.1 1), m61))
def f_X12_realm (a0 : Int) (mem0 : rt_M) : Option (Int × rt_M) :=
  (rt_pf 12 0 a0 0 mem0).bind fun m2 =>
  (f_X12_readsAll a0 m2).bind fun p6 =>
  if p6.1 = 0 then
  (rt_gf 12 9 a0 p6.2).bind fun v13 =>
  some (v13, p6.2)
  else
  (f_X12_lays a0 p6.2).bind fun p18 =>
  (f_X12_fresh a0 p18).bind fun p22 =>
  (f_X12_forgets a0 p22).bind fun p26 =>
  (rt_gf 12 41 a0 p26).bind fun v30 =>
  (rt_sa 1 v30 0 0 p26).bind fun m35 =>
  (rt_gf 12 45 a0 m35).bind fun v37 =>
  (rt_sa 1 v37 0 0 m35).bind fun m42 =>
  (rt_pf 12 55 a0 0 m42).bind fun m45 =>
  (rt_it (b_X12_realm_50 a0) 4000 ((0, m45))).bind fun X50 =>
  some (0, X50)
def b_X12_years_16 (a0 : Int) (s : rt_M) : Option ((rt_M) ⊕ ((rt_M) ⊕ (Int × rt_M))) :=
  (rt_gf 12 6 a0 s).bind fun v17 =>
  if v17 = 0 then
  some (.inr (.inl s))
  else
  (f_X12_readsLine a0 s).bind fun p24 =>
  if p24.1 = 0 then
  Option.map (fun t => .inr (.inr t)) ((rt_gf 12 9 a0 p24.2).bind fun v31 =>
  some (v31, p24.2))
  else
  some (.inl p24.2)
def f_X12_years (a0 : Int) (mem0 : rt_M) : Option (Int × rt_M) :=
  (rt_pf 12 0 a0 0 mem0).bind fun m2 =>
  (rt_gf 12 41 a0 m2).bind fun v6 =>
  (rt_sa 1 v6 5 0 m2).bind fun m11 =>
  (f_X12_begins a0 m11).bind fun p13 =>
  (rt_it (b_X12_years_16 a0) 4000 p13).bind fun E16 => match E16 with
  | .inr t => some t
  | .inl X16 =>
  (f_X12_laysLines a0 5 0 X16).bind fun p38 =>
  some (0, p38)
def j_X12_isWig_19 (s0 : Int) (mem0 : rt_M) : Option (Int) :=
  (rt_bz s0).bind fun _ => some s0
def j_X12_isWig_18 (mem0 : rt_M) : Option (Int) :=
  j_X12_isWig_19 0 mem0
def f_X12_isWig (a0 : Int) (a1 : Int) (mem0 : rt_M) : Option (Int) :=
  if a1 < 0 then
  j_X12_isWig_18 mem0
  else
  (rt_gf 12 10 a0 mem0).bind fun v6 =>
  (rt_al 1 v6 0 mem0).bind fun v10 =>
  if v10 ≤ a1 then
  j_X12_isWig_18 mem0
  else
  j_X12_isWig_19 1 mem0
def j_X12_isHead_19 (s0 : Int) (mem0 : rt_M) : Option (Int) :=
  (rt_bz s0).bind fun _ => some s0
def j_X12_isHead_18 (mem0 : rt_M) : Option (Int) :=
  j_X12_isHead_19 0 mem0
def f_X12_isHead (a0 : Int) (a1 : Int) (mem0 : rt_M) : Option (Int) :=
  if a1 < 0 then
  j_X12_isHead_18 mem0
  else
  (rt_gf 12 10 a0 mem0).bind fun v6 =>
  (rt_al 1 v6 1 mem0).bind fun v10 =>
  if v10 ≤ a1 then
  j_X12_isHead_18 mem0
  else
  j_X12_isHead_19 1 mem0
def j_X12_heatIn_26 (s0 : Int) (mem0 : rt_M) : Option (Int) :=
  some s0
def f_X12_heatIn (a0 : Int) (a1 : Int) (mem0 : rt_M) : Option (Int) :=
  (rt_gf 12 10 a0 mem0).bind fun v1 =>
  (rt_al 1 v1 3 mem0).bind fun v5 =>
  if v5 = 0 then
  j_X12_heatIn_26 0 mem0
  else
  (rt_gf 12 20 a0 mem0).bind fun v14 =>
  (rt_gf 12 10 a0 mem0).bind fun v19 =>
  (rt_al 1 v19 3 mem0).bind fun v23 =>
  if v23 = 0 then none else
  (rt_al 1 v14 ((rt_irem a1 v23)) mem0).bind fun v25 =>
  j_X12_heatIn_26 v25 mem0
def j_X12_girthIn_131 (s0 : Int) (s1 : Int) (mem0 : rt_M) : Option (Int × rt_M) :=
  some ((rt_isub s0 s1), mem0)
def j_X12_girthIn_115 (a0 : Int) (a1 : Int) (s0 : Int) (s1 : Int) (mem0 : rt_M) : Option (Int × rt_M) :=
  (rt_gf 12 16 a0 mem0).bind fun v117 =>
  (rt_al 1 v117 a1 mem0).bind fun v121 =>
  if v121 = 2 then
  j_X12_girthIn_131 ((rt_iadd s0 s1)) 1 mem0
  else
  j_X12_girthIn_131 ((rt_iadd s0 s1)) 0 mem0
def j_X12_girthIn_82 (a0 : Int) (a1 : Int) (a2 : Int) (a4 : Int) (mem0 : rt_M) : Option (Int × rt_M) :=
  (rt_gf 12 17 a0 mem0).bind fun v83 =>
  (rt_al 1 v83 a1 mem0).bind fun v87 =>
  (f_X12_between a4 ((-9)) 9 mem0).bind fun p94 =>
  (rt_gf 12 16 a0 mem0).bind fun v99 =>
  (rt_al 1 v99 a1 mem0).bind fun v103 =>
  if v103 = 3 then
  j_X12_girthIn_115 a0 a1 ((rt_iadd v87 p94)) ((rt_idiv a2 4)) mem0
  else
  j_X12_girthIn_115 a0 a1 ((rt_iadd v87 p94)) 0 mem0
def j_X12_girthIn_23 (a0 : Int) (a1 : Int) (a2 : Int) (a3 : Int) (s0 : Int) (mem0 : rt_M) : Option (Int × rt_M) :=
  (rt_gf 12 22 a0 mem0).bind fun v26 =>
  (rt_al 1 v26 0 mem0).bind fun v30 =>
  (rt_gf 12 21 a0 mem0).bind fun v32 =>
  (rt_al 1 v32 0 mem0).bind fun v36 =>
  if v30 ≤ v36 then
  j_X12_girthIn_82 a0 a1 a2 s0 mem0
  else
  (rt_gf 12 38 a0 mem0).bind fun v41 =>
  (rt_sa 1 v41 1 a3 mem0).bind fun m46 =>
  (rt_gf 12 38 a0 m46).bind fun v48 =>
  (rt_gf 12 18 a0 m46).bind fun v53 =>
  (rt_al 1 v53 a1 m46).bind fun v57 =>
  (rt_sa 1 v48 2 ((rt_iadd v57 (rt_idiv a2 4))) m46).bind fun m62 =>
  (rt_gf 12 38 a0 m62).bind fun v64 =>
  (rt_gf 12 16 a0 m62).bind fun v69 =>
  (rt_al 1 v69 a1 m62).bind fun v73 =>
  (rt_sa 1 v64 3 v73 m62).bind fun m74 =>
  (f_X12_worked a0 0 m74).bind fun p77 =>
  j_X12_girthIn_82 a0 a1 a2 p77.1 p77.2
def f_X12_girthIn (a0 : Int) (a1 : Int) (a2 : Int) (mem0 : rt_M) : Option (Int × rt_M) :=
  (f_X12_heatIn a0 a2 mem0).bind fun p2 =>
  (rt_gf 12 16 a0 mem0).bind fun v7 =>
  (rt_al 1 v7 a1 mem0).bind fun v11 =>
  if v11 = 1 then
  j_X12_girthIn_23 a0 a1 a2 p2 ((rt_imul 2 p2)) mem0
  else
  j_X12_girthIn_23 a0 a1 a2 p2 p2 mem0
def f_X12_tiltIn (a0 : Int) (a1 : Int) (a2 : Int) (a3 : Int) (mem0 : rt_M) : Option (Int × rt_M) :=
  (rt_gf 12 13 a0 mem0).bind fun v1 =>
  (rt_al 1 v1 a1 mem0).bind fun v5 =>
  (f_X12_girthIn a0 a2 a3 mem0).bind fun p9 =>
  some ((rt_isub v5 p9.1), p9.2)
def f_X12_fitsIn (a0 : Int) (a1 : Int) (a2 : Int) (a3 : Int) (mem0 : rt_M) : Option (Int × rt_M) :=
  (f_X12_tiltIn a0 a1 a2 a3 mem0).bind fun p4 =>
  (rt_gf 12 10 a0 p4.2).bind fun v9 =>
  (rt_al 1 v9 2 p4.2).bind fun v13 =>
  (f_X12_within p4.1 0 v13 p4.2).bind fun p14 =>
  (rt_bz p14).bind fun _ => some (p14, p4.2)
def b_X12_wigOn_2 (a0 : Int) (a1 : Int) (mem0 : rt_M) (s : Int) : Option ((Int) ⊕ ((Unit) ⊕ (Int))) :=
  (rt_gf 12 10 a0 mem0).bind fun v4 =>
  (rt_al 1 v4 0 mem0).bind fun v8 =>
  if v8 ≤ s then
  some (.inr (.inl ()))
  else
  (rt_gf 12 50 a0 mem0).bind fun v13 =>
  (rt_al 1 v13 ((rt_iadd 1 s)) mem0).bind fun v19 =>
  if v19 = a1 then
  Option.map (fun t => .inr (.inr t)) (some s)
  else
  some (.inl (rt_iadd s 1))
def f_X12_wigOn (a0 : Int) (a1 : Int) (mem0 : rt_M) : Option (Int) :=
  (rt_it (b_X12_wigOn_2 a0 a1 mem0) 4000 0).bind fun E2 => match E2 with
  | .inr t => some t
  | .inl X2 =>
  some ((-1))
def j_X12_onHeads_33_4 (a0 : Int) (a2 : Int) (s0 : Int) (s1 : Int) (mem0 : rt_M) : Option ((Int × Int) ⊕ (Int)) :=
  some (.inl ((rt_ior s0 s1), (rt_iadd a2 1)))
def b_X12_onHeads_4 (a0 : Int) (mem0 : rt_M) (s : Int × Int) : Option ((Int × Int) ⊕ (Int)) :=
  (rt_gf 12 10 a0 mem0).bind fun v6 =>
  (rt_al 1 v6 0 mem0).bind fun v10 =>
  if v10 ≤ s.2 then
  some (.inr s.1)
  else
  (rt_gf 12 50 a0 mem0).bind fun v16 =>
  (rt_al 1 v16 ((rt_iadd 1 s.2)) mem0).bind fun v22 =>
  if v22 < 0 then
  j_X12_onHeads_33_4 a0 s.2 s.1 0 mem0
  else
  j_X12_onHeads_33_4 a0 s.2 s.1 ((rt_ishl 1 s.2)) mem0
def f_X12_onHeads (a0 : Int) (mem0 : rt_M) : Option (Int) :=
  (rt_it (b_X12_onHeads_4 a0 mem0) 4000 ((0, 0))).bind fun X4 =>
  some X4
def j_X12_wornOut_36_4 (a0 : Int) (a2 : Int) (s0 : Int) (s1 : Int) (mem0 : rt_M) : Option ((Int × Int) ⊕ (Int)) :=
  some (.inl ((rt_ior s0 s1), (rt_iadd a2 1)))
def b_X12_wornOut_4 (a0 : Int) (mem0 : rt_M) (s : Int × Int) : Option ((Int × Int) ⊕ (Int)) :=
  (rt_gf 12 10 a0 mem0).bind fun v6 =>
  (rt_al 1 v6 0 mem0).bind fun v10 =>
  if v10 ≤ s.2 then
  some (.inr s.1)
  else
  (rt_gf 12 50 a0 mem0).bind fun v16 =>
  (rt_al 1 v16 ((rt_iadd 7 s.2)) mem0).bind fun v23 =>
  if v23 = 9 then
  j_X12_wornOut_36_4 a0 s.2 s.1 ((rt_ishl 1 s.2)) mem0
  else
  j_X12_wornOut_36_4 a0 s.2 s.1 0 mem0
def f_X12_wornOut (a0 : Int) (mem0 : rt_M) : Option (Int) :=
  (rt_it (b_X12_wornOut_4 a0 mem0) 4000 ((0, 0))).bind fun X4 =>
  some X4
def j_X12_officeOf_34_4 (a0 : Int) (a1 : Int) (a3 : Int) (s0 : Int) (s1 : Int) (mem0 : rt_M) : Option ((Int × Int) ⊕ (Int)) :=
  some (.inl ((rt_iadd s0 s1), (rt_iadd a3 1)))
def b_X12_officeOf_4 (a0 : Int) (a1 : Int) (mem0 : rt_M) (s : Int × Int) : Option ((Int × Int) ⊕ (Int)) :=
  (rt_gf 12 10 a0 mem0).bind fun v6 =>
  (rt_al 1 v6 0 mem0).bind fun v10 =>
  if v10 ≤ s.2 then
  some (.inr s.1)
  else
  if (rt_iand (rt_ishr a1 s.2) 1) = 1 then
  (rt_gf 12 14 a0 mem0).bind fun v25 =>
  (rt_al 1 v25 s.2 mem0).bind fun v29 =>
  j_X12_officeOf_34_4 a0 a1 s.2 s.1 v29 mem0
  else
  j_X12_officeOf_34_4 a0 a1 s.2 s.1 0 mem0
def f_X12_officeOf (a0 : Int) (a1 : Int) (mem0 : rt_M) : Option (Int) :=
  (rt_it (b_X12_officeOf_4 a0 a1 mem0) 4000 ((0, 0))).bind fun X4 =>
  some X4
def j_X12_canPut_53 (s0 : Int) (mem0 : rt_M) : Option (Int × rt_M) :=
  (rt_bz s0).bind fun _ => some (s0, mem0)
def j_X12_canPut_52 (mem0 : rt_M) : Option (Int × rt_M) :=
  j_X12_canPut_53 0 mem0
def f_X12_canPut (a0 : Int) (a1 : Int) (a2 : Int) (mem0 : rt_M) : Option (Int × rt_M) :=
  (rt_gf 12 50 a0 mem0).bind fun v1 =>
  (rt_al 1 v1 ((rt_iadd 1 a1)) mem0).bind fun v7 =>
  if 0 ≤ v7 then
  j_X12_canPut_52 mem0
  else
  (rt_gf 12 50 a0 mem0).bind fun v12 =>
  (rt_al 1 v12 ((rt_iadd 7 a1)) mem0).bind fun v19 =>
  if 9 ≤ v19 then
  j_X12_canPut_52 mem0
  else
  (f_X12_wigOn a0 a2 mem0).bind fun p27 =>
  if 0 ≤ p27 then
  j_X12_canPut_52 mem0
  else
  (rt_gf 12 50 a0 mem0).bind fun v37 =>
  (rt_al 1 v37 0 mem0).bind fun v41 =>
  (f_X12_fitsIn a0 a1 a2 v41 mem0).bind fun p42 =>
  if p42.1 = 0 then
  j_X12_canPut_52 p42.2
  else
  j_X12_canPut_53 1 p42.2
def j_X12_passes_48_2 (a0 : Int) (a1 : Int) (mem0 : rt_M) : Option ((Int × rt_M) ⊕ (rt_M)) :=
  some (.inl ((rt_iadd a1 1), mem0))
def b_X12_passes_2 (a0 : Int) (s : Int × rt_M) : Option ((Int × rt_M) ⊕ (rt_M)) :=
  (rt_gf 12 10 a0 s.2).bind fun v4 =>
  (rt_al 1 v4 0 s.2).bind fun v8 =>
  if v8 ≤ s.1 then
  some (.inr s.2)
  else
  (rt_gf 12 50 a0 s.2).bind fun v13 =>
  (rt_al 1 v13 ((rt_iadd 1 s.1)) s.2).bind fun v19 =>
  if 0 ≤ v19 then
  j_X12_passes_48_2 a0 s.1 s.2
  else
  (rt_gf 12 50 a0 s.2).bind fun v24 =>
  (rt_gf 12 50 a0 s.2).bind fun v34 =>
  (rt_al 1 v34 ((rt_iadd 7 s.1)) s.2).bind fun v41 =>
  (f_J9_min_7cf53 9 ((rt_iadd v41 1)) s.2).bind fun p44 =>
  (rt_sa 1 v24 ((rt_iadd 7 s.1)) p44 s.2).bind fun m47 =>
  j_X12_passes_48_2 a0 s.1 m47
def j_X12_passes_126_68 (a0 : Int) (a1 : Int) (a2 : Int) (mem0 : rt_M) : Option ((Int × Int × rt_M) ⊕ (Int × rt_M)) :=
  some (.inl (a1, (rt_iadd a2 1), mem0))
def b_X12_passes_68 (a0 : Int) (s : Int × Int × rt_M) : Option ((Int × Int × rt_M) ⊕ (Int × rt_M)) :=
  (rt_gf 12 10 a0 s.2.2).bind fun v70 =>
  (rt_al 1 v70 0 s.2.2).bind fun v74 =>
  if v74 ≤ s.2.1 then
  some (.inr (s.1, s.2.2))
  else
  (rt_gf 12 50 a0 s.2.2).bind fun v79 =>
  (rt_al 1 v79 ((rt_iadd 1 s.2.1)) s.2.2).bind fun v85 =>
  if v85 < 0 then
  j_X12_passes_126_68 a0 s.1 s.2.1 s.2.2
  else
  (rt_gf 12 50 a0 s.2.2).bind fun v92 =>
  (rt_al 1 v92 ((rt_iadd 1 s.2.1)) s.2.2).bind fun v98 =>
  (rt_gf 12 50 a0 s.2.2).bind fun v100 =>
  (rt_al 1 v100 0 s.2.2).bind fun v104 =>
  (f_X12_fitsIn a0 s.2.1 v98 v104 s.2.2).bind fun p105 =>
  if p105.1 = 0 then
  (rt_gf 12 50 a0 p105.2).bind fun v115 =>
  (rt_sa 1 v115 ((rt_iadd 1 s.2.1)) ((-1)) p105.2).bind fun m122 =>
  j_X12_passes_126_68 a0 ((rt_iadd s.1 1)) s.2.1 m122
  else
  j_X12_passes_126_68 a0 s.1 s.2.1 p105.2
def f_X12_passes (a0 : Int) (mem0 : rt_M) : Option (Int × rt_M) :=
  (rt_it (b_X12_passes_2 a0) 4000 ((0, mem0))).bind fun X2 =>
  (rt_gf 12 50 a0 X2).bind fun v55 =>
  (rt_al 1 v55 0 X2).bind fun v60 =>
  (rt_sa 1 v55 0 ((rt_iadd v60 1)) X2).bind fun m63 =>
  (rt_it (b_X12_passes_68 a0) 4000 ((0, 0, m63))).bind fun X68 =>
  some (X68.1, X68.2)
def j_X12_wig_22 (mem0 : rt_M) : Option (Int × rt_M) :=
  some ((-2), mem0)
def j_X12_wig_89 (s0 : Int) (mem0 : rt_M) : Option (Int × rt_M) :=
  some (s0, mem0)
def j_X12_wig_63 (s0 : Int) (mem0 : rt_M) : Option (Int × rt_M) :=
  some (s0, mem0)
def f_X12_wig (a0 : Int) (a1 : Int) (a2 : Int) (mem0 : rt_M) : Option (Int × rt_M) :=
  (rt_pf 12 0 a0 0 mem0).bind fun m2 =>
  (f_X12_isWig a0 a1 m2).bind fun p7 =>
  if p7 = 0 then
  j_X12_wig_22 m2
  else
  (f_X12_within a2 0 4 m2).bind fun p16 =>
  if p16 = 0 then
  j_X12_wig_22 m2
  else
  if 3 ≤ a2 then
  if a2 = 3 then
  (rt_gf 12 50 a0 m2).bind fun v70 =>
  (rt_al 1 v70 ((rt_iadd 1 a1)) m2).bind fun v76 =>
  j_X12_wig_89 v76 m2
  else
  (rt_gf 12 50 a0 m2).bind fun v81 =>
  (rt_al 1 v81 ((rt_iadd 7 a1)) m2).bind fun v88 =>
  j_X12_wig_89 v88 m2
  else
  if a2 = 0 then
  (rt_gf 12 13 a0 m2).bind fun v35 =>
  (rt_al 1 v35 a1 m2).bind fun v39 =>
  j_X12_wig_63 v39 m2
  else
  if a2 = 1 then
  (rt_gf 12 14 a0 m2).bind fun v49 =>
  (rt_al 1 v49 a1 m2).bind fun v53 =>
  j_X12_wig_63 v53 m2
  else
  (rt_gf 12 15 a0 m2).bind fun v58 =>
  (rt_al 1 v58 a1 m2).bind fun v62 =>
  j_X12_wig_63 v62 m2
def j_X12_head_22 (mem0 : rt_M) : Option (Int × rt_M) :=
  some ((-2), mem0)
def j_X12_head_100 (s0 : Int) (mem0 : rt_M) : Option (Int × rt_M) :=
  some (s0, mem0)
def j_X12_head_75 (s0 : Int) (mem0 : rt_M) : Option (Int × rt_M) :=
  some (s0, mem0)
def j_X12_head_49 (s0 : Int) (mem0 : rt_M) : Option (Int × rt_M) :=
  some (s0, mem0)
def f_X12_head (a0 : Int) (a1 : Int) (a2 : Int) (mem0 : rt_M) : Option (Int × rt_M) :=
  (rt_pf 12 0 a0 0 mem0).bind fun m2 =>
  (f_X12_isHead a0 a1 m2).bind fun p7 =>
  if p7 = 0 then
  j_X12_head_22 m2
  else
  (f_X12_within a2 0 5 m2).bind fun p16 =>
  if p16 = 0 then
  j_X12_head_22 m2
  else
  if 2 ≤ a2 then
  if 4 ≤ a2 then
  if a2 = 4 then
  (rt_gf 12 50 a0 m2).bind fun v84 =>
  (rt_al 1 v84 0 m2).bind fun v88 =>
  (f_X12_girthIn a0 a1 v88 m2).bind fun p89 =>
  j_X12_head_100 p89.1 p89.2
  else
  (f_X12_wigOn a0 a1 m2).bind fun p97 =>
  j_X12_head_100 p97 m2
  else
  if a2 = 2 then
  (rt_gf 12 18 a0 m2).bind fun v61 =>
  (rt_al 1 v61 a1 m2).bind fun v65 =>
  j_X12_head_75 v65 m2
  else
  (rt_gf 12 19 a0 m2).bind fun v70 =>
  (rt_al 1 v70 a1 m2).bind fun v74 =>
  j_X12_head_75 v74 m2
  else
  if a2 = 0 then
  (rt_gf 12 16 a0 m2).bind fun v35 =>
  (rt_al 1 v35 a1 m2).bind fun v39 =>
  j_X12_head_49 v39 m2
  else
  (rt_gf 12 17 a0 m2).bind fun v44 =>
  (rt_al 1 v44 a1 m2).bind fun v48 =>
  j_X12_head_49 v48 m2
def j_X12_fits_53 (s0 : Int) (mem0 : rt_M) : Option (Int × rt_M) :=
  (rt_bz s0).bind fun _ => some (s0, mem0)
def j_X12_fits_52 (mem0 : rt_M) : Option (Int × rt_M) :=
  j_X12_fits_53 0 mem0
def f_X12_fits (a0 : Int) (a1 : Int) (a2 : Int) (a3 : Int) (mem0 : rt_M) : Option (Int × rt_M) :=
  (rt_pf 12 0 a0 0 mem0).bind fun m2 =>
  (f_X12_isWig a0 a1 m2).bind fun p7 =>
  if p7 = 0 then
  j_X12_fits_52 m2
  else
  (f_X12_isHead a0 a2 m2).bind fun p15 =>
  if p15 = 0 then
  j_X12_fits_52 m2
  else
  (f_X12_within a3 0 99 m2).bind fun p25 =>
  if p25 = 0 then
  j_X12_fits_52 m2
  else
  (rt_gf 12 50 a0 m2).bind fun v35 =>
  (rt_al 1 v35 0 m2).bind fun v39 =>
  (f_X12_fitsIn a0 a1 a2 ((rt_iadd v39 a3)) m2).bind fun p42 =>
  if p42.1 = 0 then
  j_X12_fits_52 p42.2
  else
  j_X12_fits_53 1 p42.2
def j_X12_holds_49 (a0 : Int) (mem0 : rt_M) : Option (rt_M) :=
  (rt_gf 12 50 a0 mem0).bind fun v50 =>
  (rt_gf 12 53 a0 mem0).bind fun v55 =>
  (rt_gf 12 55 a0 mem0).bind fun v61 =>
  (f_X12_copies v50 0 v55 ((rt_imul 13 v61)) mem0).bind fun p65 =>
  (rt_gf 12 55 a0 p65).bind fun v70 =>
  (rt_pf 12 55 a0 ((rt_iadd v70 1)) p65).bind fun m75 =>
  some m75
def b_X12_holds_11 (a0 : Int) (s : Int × rt_M) : Option ((Int × rt_M) ⊕ (rt_M)) :=
  if 195 ≤ s.1 then
  some (.inr s.2)
  else
  (rt_gf 12 53 a0 s.2).bind fun v19 =>
  (rt_gf 12 53 a0 s.2).bind fun v24 =>
  (rt_al 1 v24 ((rt_iadd s.1 13)) s.2).bind fun v31 =>
  (rt_sa 1 v19 s.1 v31 s.2).bind fun m32 =>
  some (.inl ((rt_iadd s.1 1), m32))
def f_X12_holds (a0 : Int) (mem0 : rt_M) : Option (rt_M) :=
  (rt_gf 12 55 a0 mem0).bind fun v1 =>
  if v1 = 16 then
  (rt_it (b_X12_holds_11 a0) 4000 ((0, mem0))).bind fun X11 =>
  (rt_gf 12 55 a0 X11).bind fun v41 =>
  (rt_pf 12 55 a0 ((rt_isub v41 1)) X11).bind fun m46 =>
  j_X12_holds_49 a0 m46
  else
  j_X12_holds_49 a0 mem0
def j_X12_put_30 (mem0 : rt_M) : Option (Int × rt_M) :=
  some (0, mem0)
def f_X12_put (a0 : Int) (a1 : Int) (a2 : Int) (mem0 : rt_M) : Option (Int × rt_M) :=
  (rt_pf 12 0 a0 0 mem0).bind fun m2 =>
  (f_X12_isWig a0 a1 m2).bind fun p7 =>
  if p7 = 0 then
  j_X12_put_30 m2
  else
  (f_X12_isHead a0 a2 m2).bind fun p15 =>
  if p15 = 0 then
  j_X12_put_30 m2
  else
  (f_X12_canPut a0 a1 a2 m2).bind fun p24 =>
  if p24.1 = 0 then
  j_X12_put_30 p24.2
  else
  (f_X12_holds a0 p24.2).bind fun p33 =>
  (rt_gf 12 50 a0 p33).bind fun v37 =>
  (rt_sa 1 v37 ((rt_iadd 1 a1)) a2 p33).bind fun m44 =>
  some (1, m44)
def j_X12_off_24 (mem0 : rt_M) : Option (Int × rt_M) :=
  some ((-1), mem0)
def f_X12_off (a0 : Int) (a1 : Int) (mem0 : rt_M) : Option (Int × rt_M) :=
  (rt_pf 12 0 a0 0 mem0).bind fun m2 =>
  (f_X12_isWig a0 a1 m2).bind fun p7 =>
  if p7 = 0 then
  j_X12_off_24 m2
  else
  (rt_gf 12 50 a0 m2).bind fun v14 =>
  (rt_al 1 v14 ((rt_iadd 1 a1)) m2).bind fun v20 =>
  if 0 ≤ v20 then
  (f_X12_holds a0 m2).bind fun p27 =>
  (rt_gf 12 50 a0 p27).bind fun v31 =>
  (rt_al 1 v31 ((rt_iadd 1 a1)) p27).bind fun v37 =>
  (rt_gf 12 50 a0 p27).bind fun v40 =>
  (rt_sa 1 v40 ((rt_iadd 1 a1)) ((-1)) p27).bind fun m47 =>
  some (v37, m47)
  else
  j_X12_off_24 m2
def j_X12_mend_24 (mem0 : rt_M) : Option (Int × rt_M) :=
  some ((-1), mem0)
def f_X12_mend (a0 : Int) (a1 : Int) (mem0 : rt_M) : Option (Int × rt_M) :=
  (rt_pf 12 0 a0 0 mem0).bind fun m2 =>
  (f_X12_isWig a0 a1 m2).bind fun p7 =>
  if p7 = 0 then
  j_X12_mend_24 m2
  else
  (rt_gf 12 50 a0 m2).bind fun v14 =>
  (rt_al 1 v14 ((rt_iadd 1 a1)) m2).bind fun v20 =>
  if v20 < 0 then
  (f_X12_holds a0 m2).bind fun p27 =>
  (rt_gf 12 50 a0 p27).bind fun v31 =>
  (rt_al 1 v31 ((rt_iadd 7 a1)) p27).bind fun v38 =>
  (rt_gf 12 50 a0 p27).bind fun v41 =>
  (rt_sa 1 v41 ((rt_iadd 7 a1)) 0 p27).bind fun m49 =>
  some (v38, m49)
  else
  j_X12_mend_24 m2
def f_X12_season (a0 : Int) (mem0 : rt_M) : Option (Int × rt_M) :=
  (rt_pf 12 0 a0 0 mem0).bind fun m2 =>
  (f_X12_holds a0 m2).bind fun p6 =>
  (f_X12_forgets a0 p6).bind fun p10 =>
  (f_X12_passes a0 p10).bind fun p14 =>
  some (p14.1, p14.2)
def f_X12_undo (a0 : Int) (mem0 : rt_M) : Option (Int × rt_M) :=
  (rt_pf 12 0 a0 0 mem0).bind fun m2 =>
  (rt_gf 12 55 a0 m2).bind fun v6 =>
  if v6 = 0 then
  some (0, m2)
  else
  (rt_gf 12 55 a0 m2).bind fun v16 =>
  (rt_pf 12 55 a0 ((rt_isub v16 1)) m2).bind fun m21 =>
  (rt_gf 12 53 a0 m21).bind fun v25 =>
  (rt_gf 12 55 a0 m21).bind fun v31 =>
  (rt_gf 12 50 a0 m21).bind fun v36 =>
  (f_X12_copies v25 ((rt_imul 13 v31)) v36 0 m21).bind fun p40 =>
  (f_X12_forgets a0 p40).bind fun p44 =>
  some (1, p44)
def j_X12_goes_107 (mem0 : rt_M) : Option (Int × rt_M) :=
  some (1, mem0)
def f_X12_goes (a0 : Int) (a1 : Int) (mem0 : rt_M) : Option (Int × rt_M) :=
  (rt_gf 12 43 a0 mem0).bind fun v1 =>
  (rt_al 1 v1 a1 mem0).bind fun v5 =>
  (rt_gf 12 42 a0 mem0).bind fun v8 =>
  (rt_al 1 v8 a1 mem0).bind fun v12 =>
  if v12 = 0 then
  (rt_gf 12 44 a0 mem0).bind fun v19 =>
  (rt_al 1 v19 a1 mem0).bind fun v23 =>
  (f_X12_canPut a0 v5 v23 mem0).bind fun p24 =>
  if p24.1 = 0 then
  some (0, p24.2)
  else
  (rt_gf 12 50 a0 p24.2).bind fun v33 =>
  (rt_gf 12 44 a0 p24.2).bind fun v40 =>
  (rt_al 1 v40 a1 p24.2).bind fun v44 =>
  (rt_sa 1 v33 ((rt_iadd 1 v5)) v44 p24.2).bind fun m45 =>
  j_X12_goes_107 m45
  else
  (rt_gf 12 42 a0 mem0).bind fun v50 =>
  (rt_al 1 v50 a1 mem0).bind fun v54 =>
  if v54 = 1 then
  (rt_gf 12 50 a0 mem0).bind fun v60 =>
  (rt_al 1 v60 ((rt_iadd 1 v5)) mem0).bind fun v66 =>
  if 0 ≤ v66 then
  (rt_gf 12 50 a0 mem0).bind fun v73 =>
  (rt_sa 1 v73 ((rt_iadd 1 v5)) ((-1)) mem0).bind fun m80 =>
  j_X12_goes_107 m80
  else
  some (0, mem0)
  else
  (rt_gf 12 50 a0 mem0).bind fun v85 =>
  (rt_al 1 v85 ((rt_iadd 1 v5)) mem0).bind fun v91 =>
  if v91 < 0 then
  (rt_gf 12 50 a0 mem0).bind fun v98 =>
  (rt_sa 1 v98 ((rt_iadd 7 v5)) 0 mem0).bind fun m106 =>
  j_X12_goes_107 m106
  else
  some (0, mem0)
def j_X12_judged_96_41 (a0 : Int) (a1 : Int) (a2 : Int) (a3 : Int) (a4 : Int) (mem0 : rt_M) : Option ((Int × Int × Int × rt_M) ⊕ (Int × Int × rt_M)) :=
  some (.inl (a2, a3, (rt_iadd a4 1), mem0))
def b_X12_judged_41 (a0 : Int) (a1 : Int) (s : Int × Int × Int × rt_M) : Option ((Int × Int × Int × rt_M) ⊕ (Int × Int × rt_M)) :=
  (rt_gf 12 41 a0 s.2.2.2).bind fun v44 =>
  (rt_al 1 v44 0 s.2.2.2).bind fun v48 =>
  if v48 ≤ s.2.2.1 then
  some (.inr (s.1, s.2.1, s.2.2.2))
  else
  (rt_gf 12 42 a0 s.2.2.2).bind fun v53 =>
  (rt_al 1 v53 s.2.2.1 s.2.2.2).bind fun v58 =>
  if v58 = 3 then
  (f_X12_passes a0 s.2.2.2).bind fun p64 =>
  if p64.1 ≤ 0 then
  j_X12_judged_96_41 a0 a1 s.1 s.2.1 s.2.2.1 p64.2
  else
  if 0 ≤ s.2.1 then
  j_X12_judged_96_41 a0 a1 s.1 s.2.1 s.2.2.1 p64.2
  else
  j_X12_judged_96_41 a0 a1 s.1 s.2.2.1 s.2.2.1 p64.2
  else
  (f_X12_goes a0 s.2.2.1 s.2.2.2).bind fun p83 =>
  if p83.1 = 0 then
  if 0 ≤ s.1 then
  j_X12_judged_96_41 a0 a1 s.1 s.2.1 s.2.2.1 p83.2
  else
  j_X12_judged_96_41 a0 a1 s.2.2.1 s.2.1 s.2.2.1 p83.2
  else
  j_X12_judged_96_41 a0 a1 s.1 s.2.1 s.2.2.1 p83.2
def j_X12_judged_144 (s0 : Int) (mem0 : rt_M) : Option (Int × rt_M) :=
  some (s0, mem0)
def f_X12_judged (a0 : Int) (a1 : Int) (mem0 : rt_M) : Option (Int × rt_M) :=
  (rt_pf 12 0 a0 0 mem0).bind fun m2 =>
  (f_X12_within a1 0 2 m2).bind fun p8 =>
  if p8 = 0 then
  some ((-2), m2)
  else
  (rt_gf 12 50 a0 m2).bind fun v18 =>
  (rt_gf 12 51 a0 m2).bind fun v23 =>
  (f_X12_copies v18 0 v23 0 m2).bind fun p27 =>
  (f_X12_fresh a0 p27).bind fun p31 =>
  (rt_it (b_X12_judged_41 a0 a1) 4000 (((-1), (-1), 0, p31))).bind fun X41 =>
  (f_X12_onHeads a0 X41.2.2).bind fun p104 =>
  (f_X12_officeOf a0 p104 X41.2.2).bind fun p107 =>
  (rt_gf 12 51 a0 X41.2.2).bind fun v113 =>
  (rt_gf 12 50 a0 X41.2.2).bind fun v118 =>
  (f_X12_copies v113 0 v118 0 X41.2.2).bind fun p122 =>
  if a1 = 0 then
  j_X12_judged_144 X41.1 p122
  else
  if a1 = 1 then
  j_X12_judged_144 X41.2.1 p122
  else
  j_X12_judged_144 p107 p122
def j_X12_isFor_81 (s0 : Int) (mem0 : rt_M) : Option (Int × rt_M) :=
  (rt_bz s0).bind fun _ => some (s0, mem0)
def j_X12_isFor_71 (a4 : Int) (mem0 : rt_M) : Option (Int × rt_M) :=
  if a4 = 0 then
  j_X12_isFor_81 0 mem0
  else
  j_X12_isFor_81 1 mem0
def j_X12_isFor_20 (a0 : Int) (a1 : Int) (a2 : Int) (a3 : Int) (s0 : Int) (mem0 : rt_M) : Option (Int × rt_M) :=
  (rt_gf 12 22 a0 mem0).bind fun v23 =>
  (rt_al 1 v23 1 mem0).bind fun v27 =>
  (rt_gf 12 21 a0 mem0).bind fun v29 =>
  (rt_al 1 v29 1 mem0).bind fun v33 =>
  if v27 ≤ v33 then
  j_X12_isFor_71 s0 mem0
  else
  (rt_gf 12 38 a0 mem0).bind fun v38 =>
  (rt_sa 1 v38 4 a1 mem0).bind fun m43 =>
  (rt_gf 12 38 a0 m43).bind fun v45 =>
  (rt_gf 12 19 a0 m43).bind fun v50 =>
  (rt_al 1 v50 a2 m43).bind fun v54 =>
  (rt_sa 1 v45 5 v54 m43).bind fun m55 =>
  (rt_gf 12 38 a0 m55).bind fun v57 =>
  (rt_sa 1 v57 6 a3 m55).bind fun m63 =>
  (f_X12_worked a0 1 m63).bind fun p66 =>
  j_X12_isFor_71 p66.1 p66.2
def f_X12_isFor (a0 : Int) (a1 : Int) (a2 : Int) (a3 : Int) (mem0 : rt_M) : Option (Int × rt_M) :=
  (rt_gf 12 19 a0 mem0).bind fun v4 =>
  (rt_al 1 v4 a2 mem0).bind fun v8 =>
  if (rt_imul v8 9) ≤ (rt_imul a1 a3) then
  j_X12_isFor_20 a0 a1 a2 a3 0 mem0
  else
  j_X12_isFor_20 a0 a1 a2 a3 1 mem0
def j_X12_judgedFor_55_4 (a0 : Int) (a1 : Int) (a3 : Int) (s0 : Int) (s1 : Int) (mem0 : rt_M) : Option ((Int × Int × rt_M) ⊕ (Int × rt_M)) :=
  some (.inl ((rt_ior s0 s1), (rt_iadd a3 1), mem0))
def j_X12_judgedFor_54_4 (a0 : Int) (a1 : Int) (a3 : Int) (s0 : Int) (mem0 : rt_M) : Option ((Int × Int × rt_M) ⊕ (Int × rt_M)) :=
  j_X12_judgedFor_55_4 a0 a1 a3 s0 0 mem0
def b_X12_judgedFor_4 (a0 : Int) (a1 : Int) (s : Int × Int × rt_M) : Option ((Int × Int × rt_M) ⊕ (Int × rt_M)) :=
  (rt_gf 12 10 a0 s.2.2).bind fun v6 =>
  (rt_al 1 v6 0 s.2.2).bind fun v10 =>
  if v10 ≤ s.2.1 then
  some (.inr (s.1, s.2.2))
  else
  (rt_gf 12 50 a0 s.2.2).bind fun v16 =>
  (rt_al 1 v16 ((rt_iadd 1 s.2.1)) s.2.2).bind fun v22 =>
  if v22 < 0 then
  j_X12_judgedFor_54_4 a0 a1 s.2.1 s.1 s.2.2
  else
  (rt_gf 12 15 a0 s.2.2).bind fun v28 =>
  (rt_al 1 v28 s.2.1 s.2.2).bind fun v32 =>
  (rt_gf 12 50 a0 s.2.2).bind fun v34 =>
  (rt_al 1 v34 ((rt_iadd 1 s.2.1)) s.2.2).bind fun v40 =>
  (f_X12_isFor a0 v32 v40 a1 s.2.2).bind fun p42 =>
  if p42.1 = 0 then
  j_X12_judgedFor_54_4 a0 a1 s.2.1 s.1 p42.2
  else
  j_X12_judgedFor_55_4 a0 a1 s.2.1 s.1 ((rt_ishl 1 s.2.1)) p42.2
def f_X12_judgedFor (a0 : Int) (a1 : Int) (mem0 : rt_M) : Option (Int × rt_M) :=
  (rt_it (b_X12_judgedFor_4 a0 a1) 4000 ((0, 0, mem0))).bind fun X4 =>
  some (X4.1, X4.2)
def j_X12_verdict_24 (s0 : Int) (mem0 : rt_M) : Option (Int × rt_M) :=
  some (s0, mem0)
def f_X12_verdict (a0 : Int) (a1 : Int) (mem0 : rt_M) : Option (Int × rt_M) :=
  (rt_pf 12 0 a0 0 mem0).bind fun m2 =>
  (f_X12_within a1 0 9 m2).bind fun p9 =>
  if p9 = 0 then
  j_X12_verdict_24 ((-1)) m2
  else
  (f_X12_judgedFor a0 a1 m2).bind fun p17 =>
  j_X12_verdict_24 p17.1 p17.2
def j_X12_votes_28 (s0 : Int) (mem0 : rt_M) : Option (Int × rt_M) :=
  some (s0, mem0)
def f_X12_votes (a0 : Int) (a1 : Int) (mem0 : rt_M) : Option (Int × rt_M) :=
  (rt_pf 12 0 a0 0 mem0).bind fun m2 =>
  (f_X12_within a1 0 9 m2).bind fun p9 =>
  if p9 = 0 then
  j_X12_votes_28 ((-1)) m2
  else
  (f_X12_judgedFor a0 a1 m2).bind fun p18 =>
  (f_X12_officeOf a0 p18.1 p18.2).bind fun p21 =>
  j_X12_votes_28 p21 p18.2
def j_X12_power_35 (mem0 : rt_M) : Option (Int × rt_M) :=
  some ((-1), mem0)
def j_X12_power_110_54 (a0 : Int) (a1 : Int) (a2 : Int) (a3 : Int) (a4 : Int) (a5 : Int) (mem0 : rt_M) : Option ((Int × Int × rt_M) ⊕ (Int × rt_M)) :=
  some (.inl (a4, (rt_iadd a5 1), mem0))
def j_X12_power_107_54 (a0 : Int) (a1 : Int) (a2 : Int) (a3 : Int) (a5 : Int) (s0 : Int) (s1 : Int) (mem0 : rt_M) : Option ((Int × Int × rt_M) ⊕ (Int × rt_M)) :=
  j_X12_power_110_54 a0 a1 a2 a3 ((rt_iadd s0 s1)) a5 mem0
def j_X12_power_106_54 (a0 : Int) (a1 : Int) (a2 : Int) (a3 : Int) (a5 : Int) (s0 : Int) (mem0 : rt_M) : Option ((Int × Int × rt_M) ⊕ (Int × rt_M)) :=
  j_X12_power_107_54 a0 a1 a2 a3 a5 s0 0 mem0
def b_X12_power_54 (a0 : Int) (a1 : Int) (a2 : Int) (a3 : Int) (s : Int × Int × rt_M) : Option ((Int × Int × rt_M) ⊕ (Int × rt_M)) :=
  if 64 ≤ s.2.1 then
  some (.inr (s.1, s.2.2))
  else
  if (rt_iand s.2.1 (rt_ixor a3 (-1))) = 0 then
  (f_X12_officeOf a0 s.2.1 s.2.2).bind fun p76 =>
  if a2 ≤ p76 then
  j_X12_power_106_54 a0 a1 a2 a3 s.2.1 s.1 s.2.2
  else
  (rt_gf 12 14 a0 s.2.2).bind fun v92 =>
  (rt_al 1 v92 a1 s.2.2).bind fun v96 =>
  if (rt_iadd p76 v96) < a2 then
  j_X12_power_106_54 a0 a1 a2 a3 s.2.1 s.1 s.2.2
  else
  j_X12_power_107_54 a0 a1 a2 a3 s.2.1 s.1 1 s.2.2
  else
  j_X12_power_110_54 a0 a1 a2 a3 s.1 s.2.1 s.2.2
def f_X12_power (a0 : Int) (a1 : Int) (a2 : Int) (mem0 : rt_M) : Option (Int × rt_M) :=
  (rt_pf 12 0 a0 0 mem0).bind fun m2 =>
  (f_X12_isWig a0 a1 m2).bind fun p7 =>
  if p7 = 0 then
  j_X12_power_35 m2
  else
  (f_X12_within a2 0 999 m2).bind fun p18 =>
  if p18 = 0 then
  j_X12_power_35 m2
  else
  (rt_gf 12 50 a0 m2).bind fun v25 =>
  (rt_al 1 v25 ((rt_iadd 1 a1)) m2).bind fun v31 =>
  if 0 ≤ v31 then
  (f_X12_onHeads a0 m2).bind fun p38 =>
  (rt_it (b_X12_power_54 a0 a1 a2 ((rt_iand p38 (rt_ixor (rt_ishl 1 a1) (-1))))) 4000 ((0, 0, m2))).bind fun X54 =>
  some (X54.1, X54.2)
  else
  j_X12_power_35 m2
def b_X12_fitsAll_2 (a0 : Int) (a1 : Int) (a2 : Int) (s : Int × rt_M) : Option ((Int × rt_M) ⊕ ((rt_M) ⊕ (Int × rt_M))) :=
  (rt_gf 12 59 a0 s.2).bind fun v4 =>
  if v4 ≤ s.1 then
  some (.inr (.inl s.2))
  else
  (rt_gf 12 50 a0 s.2).bind fun v14 =>
  (rt_al 1 v14 0 s.2).bind fun v18 =>
  (f_X12_fitsIn a0 a1 a2 ((rt_iadd v18 s.1)) s.2).bind fun p21 =>
  if p21.1 = 0 then
  Option.map (fun t => .inr (.inr t)) (some (0, p21.2))
  else
  some (.inl ((rt_iadd s.1 1), p21.2))
def f_X12_fitsAll (a0 : Int) (a1 : Int) (a2 : Int) (mem0 : rt_M) : Option (Int × rt_M) :=
  (rt_it (b_X12_fitsAll_2 a0 a1 a2) 4000 ((0, mem0))).bind fun E2 => match E2 with
  | .inr t => some t
  | .inl X2 =>
  some (1, X2)
def j_X12_fillsFrom_126_58 (rec_X12_fillsFrom : Int → Int → Int → Int → rt_M → Option (rt_M)) (a0 : Int) (a1 : Int) (a2 : Int) (a3 : Int) (a4 : Int) (mem0 : rt_M) : Option ((Int × rt_M) ⊕ (rt_M)) :=
  some (.inl ((rt_iadd a4 1), mem0))
def b_X12_fillsFrom_58 (rec_X12_fillsFrom : Int → Int → Int → Int → rt_M → Option (rt_M)) (a0 : Int) (a1 : Int) (a2 : Int) (a3 : Int) (s : Int × rt_M) : Option ((Int × rt_M) ⊕ (rt_M)) :=
  (rt_gf 12 10 a0 s.2).bind fun v61 =>
  (rt_al 1 v61 1 s.2).bind fun v65 =>
  if v65 ≤ s.1 then
  some (.inr s.2)
  else
  if (rt_iand (rt_ishr a2 s.1) 1) = 1 then
  j_X12_fillsFrom_126_58 rec_X12_fillsFrom a0 a1 a2 a3 s.1 s.2
  else
  (rt_gf 12 60 a0 s.2).bind fun v80 =>
  (rt_al 3 v80 ((rt_iadd (rt_imul 6 a1) s.1)) s.2).bind fun v90 =>
  if v90 = 0 then
  j_X12_fillsFrom_126_58 rec_X12_fillsFrom a0 a1 a2 a3 s.1 s.2
  else
  (rt_gf 12 56 a0 s.2).bind fun v98 =>
  (rt_sa 1 v98 a1 s.1 s.2).bind fun m104 =>
  (rt_gf 12 14 a0 m104).bind fun v117 =>
  (rt_al 1 v117 a1 m104).bind fun v121 =>
  (rec_X12_fillsFrom a0 ((rt_iadd a1 1)) ((rt_ior a2 (rt_ishl 1 s.1))) ((rt_iadd a3 v121)) m104).bind fun p123 =>
  j_X12_fillsFrom_126_58 rec_X12_fillsFrom a0 a1 a2 a3 s.1 p123
def b_X12_fillsFrom_27 (rec_X12_fillsFrom : Int → Int → Int → Int → rt_M → Option (rt_M)) (a0 : Int) (s : Int × rt_M) : Option ((Int × rt_M) ⊕ (rt_M)) :=
  if 6 ≤ s.1 then
  some (.inr s.2)
  else
  (rt_gf 12 57 a0 s.2).bind fun v35 =>
  (rt_gf 12 56 a0 s.2).bind fun v41 =>
  (rt_al 1 v41 s.1 s.2).bind fun v46 =>
  (rt_sa 1 v35 s.1 v46 s.2).bind fun m47 =>
  some (.inl ((rt_iadd s.1 1), m47))
def f_X12_fillsFrom (rec_X12_fillsFrom : Int → Int → Int → Int → rt_M → Option (rt_M)) (a0 : Int) (a1 : Int) (a2 : Int) (a3 : Int) (mem0 : rt_M) : Option (rt_M) :=
  (rt_gf 12 10 a0 mem0).bind fun v2 =>
  (rt_al 1 v2 0 mem0).bind fun v6 =>
  if a1 = v6 then
  (rt_gf 12 58 a0 mem0).bind fun v12 =>
  if v12 < a3 then
  (rt_pf 12 58 a0 a3 mem0).bind fun m21 =>
  (rt_it (b_X12_fillsFrom_27 rec_X12_fillsFrom a0) 4000 ((0, m21))).bind fun X27 =>
  some X27
  else
  some mem0
  else
  (rt_it (b_X12_fillsFrom_58 rec_X12_fillsFrom a0 a1 a2 a3) 4000 ((0, mem0))).bind fun X58 =>
  (rt_gf 12 56 a0 X58).bind fun v133 =>
  (rt_sa 1 v133 a1 ((-1)) X58).bind fun m138 =>
  (rec_X12_fillsFrom a0 ((rt_iadd a1 1)) a2 a3 m138).bind fun p145 =>
  some p145
def F_X12_fillsFrom : Nat → Int → Int → Int → Int → rt_M → Option (rt_M)
  | 0 => fun _ _ _ _ _ => none
  | n + 1 => f_X12_fillsFrom (F_X12_fillsFrom n)
def j_X12_fill_28 (mem0 : rt_M) : Option (Int × rt_M) :=
  some ((-2), mem0)
def j_X12_fill_102_51 (a0 : Int) (a2 : Int) (a3 : Int) (a4 : Int) (s0 : Int) (s1 : Int) (s2 : Int) (mem0 : rt_M) : Option ((Int × rt_M) ⊕ (rt_M)) :=
  (rt_bz s2).bind fun w102 =>
  (rt_sa 3 s0 s1 s2 mem0).bind fun m102 =>
  some (.inl ((rt_iadd a4 1), m102))
def j_X12_fill_101_51 (a0 : Int) (a2 : Int) (a3 : Int) (a4 : Int) (s0 : Int) (s1 : Int) (mem0 : rt_M) : Option ((Int × rt_M) ⊕ (rt_M)) :=
  j_X12_fill_102_51 a0 a2 a3 a4 s0 s1 0 mem0
def b_X12_fill_51 (a0 : Int) (a2 : Int) (a3 : Int) (s : Int × rt_M) : Option ((Int × rt_M) ⊕ (rt_M)) :=
  (rt_gf 12 10 a0 s.2).bind fun v54 =>
  (rt_al 1 v54 1 s.2).bind fun v58 =>
  if v58 ≤ s.1 then
  some (.inr s.2)
  else
  (rt_gf 12 60 a0 s.2).bind fun v63 =>
  (rt_gf 12 50 a0 s.2).bind fun v74 =>
  (rt_al 1 v74 ((rt_iadd 7 a3)) s.2).bind fun v81 =>
  if 9 ≤ v81 then
  j_X12_fill_101_51 a0 a2 a3 s.1 v63 ((rt_iadd (rt_imul 6 a3) s.1)) s.2
  else
  (f_X12_fitsAll a0 a3 s.1 s.2).bind fun p91 =>
  if p91.1 = 0 then
  j_X12_fill_101_51 a0 a2 a3 s.1 v63 ((rt_iadd (rt_imul 6 a3) s.1)) p91.2
  else
  j_X12_fill_102_51 a0 a2 a3 s.1 v63 ((rt_iadd (rt_imul 6 a3) s.1)) 1 p91.2
def b_X12_fill_38 (a0 : Int) (a2 : Int) (s : Int × rt_M) : Option ((Int × rt_M) ⊕ (rt_M)) :=
  (rt_gf 12 10 a0 s.2).bind fun v40 =>
  (rt_al 1 v40 0 s.2).bind fun v44 =>
  if v44 ≤ s.1 then
  some (.inr s.2)
  else
  (rt_it (b_X12_fill_51 a0 a2 s.1) 4000 ((0, s.2))).bind fun X51 =>
  some (.inl ((rt_iadd s.1 1), X51))
def j_X12_fill_145 (s0 : Int) (mem0 : rt_M) : Option (Int × rt_M) :=
  some (s0, mem0)
def j_X12_fill_31 (a0 : Int) (a1 : Int) (a2 : Int) (mem0 : rt_M) : Option (Int × rt_M) :=
  (rt_pf 12 59 a0 a1 mem0).bind fun m33 =>
  (rt_it (b_X12_fill_38 a0 a2) 4000 ((0, m33))).bind fun X38 =>
  (rt_pf 12 58 a0 ((-1)) X38).bind fun m117 =>
  (F_X12_fillsFrom 12 a0 0 0 0 m117).bind fun p124 =>
  if a2 = (-1) then
  (rt_gf 12 58 a0 p124).bind fun v133 =>
  j_X12_fill_145 v133 p124
  else
  (rt_gf 12 57 a0 p124).bind fun v140 =>
  (rt_al 1 v140 a2 p124).bind fun v144 =>
  j_X12_fill_145 v144 p124
def f_X12_fill (a0 : Int) (a1 : Int) (a2 : Int) (mem0 : rt_M) : Option (Int × rt_M) :=
  (rt_pf 12 0 a0 0 mem0).bind fun m2 =>
  (f_X12_within a1 1 8 m2).bind fun p9 =>
  if p9 = 0 then
  j_X12_fill_28 m2
  else
  if a2 = (-1) then
  j_X12_fill_31 a0 a1 a2 m2
  else
  (f_X12_isWig a0 a2 m2).bind fun p22 =>
  if p22 = 0 then
  j_X12_fill_28 m2
  else
  j_X12_fill_31 a0 a1 a2 m2
def j_X12_say_34 (mem0 : rt_M) : Option (Int × rt_M) :=
  some (0, mem0)
def f_X12_say (a0 : Int) (a1 : Int) (a2 : Int) (a3 : Int) (mem0 : rt_M) : Option (Int × rt_M) :=
  (rt_pf 12 0 a0 0 mem0).bind fun m2 =>
  (f_X12_isHead a0 a1 m2).bind fun p7 =>
  if p7 = 0 then
  j_X12_say_34 m2
  else
  (f_X12_within a2 0 9 m2).bind fun p17 =>
  if p17 = 0 then
  j_X12_say_34 m2
  else
  (rt_gf 12 45 a0 m2).bind fun v24 =>
  (rt_al 1 v24 0 m2).bind fun v28 =>
  if v28 = 8 then
  j_X12_say_34 m2
  else
  (rt_gf 12 46 a0 m2).bind fun v37 =>
  (rt_gf 12 45 a0 m2).bind fun v41 =>
  (rt_al 1 v41 0 m2).bind fun v45 =>
  (rt_sa 1 v37 v45 a1 m2).bind fun m47 =>
  (rt_gf 12 47 a0 m47).bind fun v49 =>
  (rt_gf 12 45 a0 m47).bind fun v53 =>
  (rt_al 1 v53 0 m47).bind fun v57 =>
  (rt_sa 1 v49 v57 a2 m47).bind fun m59 =>
  (rt_gf 12 48 a0 m59).bind fun v61 =>
  (rt_gf 12 45 a0 m59).bind fun v65 =>
  (rt_al 1 v65 0 m59).bind fun v69 =>
  (rt_bz a3).bind fun w71 =>
  (rt_sa 3 v61 v69 a3 m59).bind fun m71 =>
  (rt_gf 12 45 a0 m71).bind fun v73 =>
  (rt_al 1 v73 0 m71).bind fun v78 =>
  (rt_sa 1 v73 0 ((rt_iadd v78 1)) m71).bind fun m81 =>
  some (1, m81)
def b_X12_isAsSaid_2 (a0 : Int) (a1 : Int) (s : Int × rt_M) : Option ((Int × rt_M) ⊕ ((rt_M) ⊕ (Int × rt_M))) :=
  (rt_gf 12 45 a0 s.2).bind fun v4 =>
  (rt_al 1 v4 0 s.2).bind fun v8 =>
  if v8 ≤ s.1 then
  some (.inr (.inl s.2))
  else
  (rt_gf 12 46 a0 s.2).bind fun v15 =>
  (rt_al 1 v15 s.1 s.2).bind fun v19 =>
  (rt_gf 12 47 a0 s.2).bind fun v21 =>
  (rt_al 1 v21 s.1 s.2).bind fun v25 =>
  (f_X12_isFor a0 a1 v19 v25 s.2).bind fun p26 =>
  (rt_gf 12 48 a0 p26.2).bind fun v30 =>
  (rt_al 3 v30 s.1 p26.2).bind fun v34 =>
  if p26.1 = v34 then
  some (.inl ((rt_iadd s.1 1), p26.2))
  else
  Option.map (fun t => .inr (.inr t)) (some (0, p26.2))
def f_X12_isAsSaid (a0 : Int) (a1 : Int) (mem0 : rt_M) : Option (Int × rt_M) :=
  (rt_it (b_X12_isAsSaid_2 a0 a1) 4000 ((0, mem0))).bind fun E2 => match E2 with
  | .inr t => some t
  | .inl X2 =>
  some (1, X2)
def j_X12_leans_59_26 (a0 : Int) (a1 : Int) (a2 : Int) (a3 : Int) (a4 : Int) (a5 : Int) (mem0 : rt_M) : Option ((Int × Int × Int × Int × rt_M) ⊕ (Int × Int × Int × rt_M)) :=
  some (.inl (a2, a3, a4, (rt_iadd a5 1), mem0))
def j_X12_leans_55_26 (a0 : Int) (a1 : Int) (a2 : Int) (a3 : Int) (a5 : Int) (mem0 : rt_M) : Option ((Int × Int × Int × Int × rt_M) ⊕ (Int × Int × Int × rt_M)) :=
  j_X12_leans_59_26 a0 a1 a2 a3 a5 a5 mem0
def b_X12_leans_26 (a0 : Int) (a1 : Int) (s : Int × Int × Int × Int × rt_M) : Option ((Int × Int × Int × Int × rt_M) ⊕ (Int × Int × Int × rt_M)) :=
  if 10 ≤ s.2.2.2.1 then
  some (.inr (s.1, s.2.1, s.2.2.1, s.2.2.2.2))
  else
  (f_X12_isAsSaid a0 s.2.2.2.1 s.2.2.2.2).bind fun p36 =>
  if p36.1 = 0 then
  j_X12_leans_59_26 a0 a1 s.1 s.2.1 s.2.2.1 s.2.2.2.1 p36.2
  else
  if 0 ≤ s.2.1 then
  j_X12_leans_55_26 a0 a1 ((rt_iadd s.1 1)) s.2.1 s.2.2.2.1 p36.2
  else
  j_X12_leans_55_26 a0 a1 ((rt_iadd s.1 1)) s.2.2.2.1 s.2.2.2.1 p36.2
def j_X12_leans_84 (s0 : Int) (mem0 : rt_M) : Option (Int × rt_M) :=
  some (s0, mem0)
def f_X12_leans (a0 : Int) (a1 : Int) (mem0 : rt_M) : Option (Int × rt_M) :=
  (rt_pf 12 0 a0 0 mem0).bind fun m2 =>
  (f_X12_within a1 0 2 m2).bind fun p8 =>
  if p8 = 0 then
  some ((-1), m2)
  else
  (rt_it (b_X12_leans_26 a0 a1) 4000 ((0, (-1), (-1), 0, m2))).bind fun X26 =>
  if a1 = 0 then
  j_X12_leans_84 X26.1 X26.2.2.2
  else
  if a1 = 1 then
  j_X12_leans_84 X26.2.1 X26.2.2.2
  else
  j_X12_leans_84 X26.2.2.1 X26.2.2.2
def j_X12_next_77_42 (a0 : Int) (a1 : Int) (a2 : Int) (a3 : Int) (a4 : Int) (a5 : Int) (a7 : Int) (s0 : Int) (s1 : Int) (mem0 : rt_M) : Option ((Int × Int × rt_M) ⊕ (Int × rt_M)) :=
  some (.inl ((rt_iadd s0 s1), (rt_iadd a7 1), mem0))
def j_X12_next_76_42 (a0 : Int) (a1 : Int) (a2 : Int) (a3 : Int) (a4 : Int) (a5 : Int) (a7 : Int) (s0 : Int) (mem0 : rt_M) : Option ((Int × Int × rt_M) ⊕ (Int × rt_M)) :=
  j_X12_next_77_42 a0 a1 a2 a3 a4 a5 a7 s0 0 mem0
def b_X12_next_42 (a0 : Int) (a1 : Int) (a2 : Int) (a3 : Int) (a4 : Int) (a5 : Int) (s : Int × Int × rt_M) : Option ((Int × Int × rt_M) ⊕ (Int × rt_M)) :=
  if 10 ≤ s.2.1 then
  some (.inr (s.1, s.2.2))
  else
  (f_X12_isAsSaid a0 s.2.1 s.2.2).bind fun p54 =>
  if p54.1 = 0 then
  j_X12_next_76_42 a0 a1 a2 a3 a4 a5 s.2.1 s.1 p54.2
  else
  (f_X12_isFor a0 s.2.1 a1 a5 p54.2).bind fun p66 =>
  if p66.1 = 0 then
  j_X12_next_76_42 a0 a1 a2 a3 a4 a5 s.2.1 s.1 p66.2
  else
  j_X12_next_77_42 a0 a1 a2 a3 a4 a5 s.2.1 s.1 1 p66.2
def j_X12_next_114_29 (a0 : Int) (a1 : Int) (a2 : Int) (a3 : Int) (a4 : Int) (a5 : Int) (mem0 : rt_M) : Option ((Int × Int × Int × rt_M) ⊕ (Int × rt_M)) :=
  some (.inl (a3, a4, (rt_iadd a5 1), mem0))
def b_X12_next_29 (a0 : Int) (a1 : Int) (a2 : Int) (s : Int × Int × Int × rt_M) : Option ((Int × Int × Int × rt_M) ⊕ (Int × rt_M)) :=
  if 10 ≤ s.2.2.1 then
  some (.inr (s.1, s.2.2.2))
  else
  (rt_it (b_X12_next_42 a0 a1 a2 s.1 s.2.1 s.2.2.1) 4000 ((0, 0, s.2.2.2))).bind fun X42 =>
  (f_J9_max_7cf53 X42.1 ((rt_isub a2 X42.1)) X42.2).bind fun p92 =>
  if p92 < s.2.1 then
  j_X12_next_114_29 a0 a1 a2 s.2.2.1 p92 s.2.2.1 X42.2
  else
  j_X12_next_114_29 a0 a1 a2 s.1 s.2.1 s.2.2.1 X42.2
def f_X12_next (a0 : Int) (a1 : Int) (mem0 : rt_M) : Option (Int × rt_M) :=
  (rt_pf 12 0 a0 0 mem0).bind fun m2 =>
  (f_X12_isHead a0 a1 m2).bind fun p7 =>
  if p7 = 0 then
  some ((-1), m2)
  else
  (f_X12_leans a0 0 m2).bind fun p17 =>
  (rt_it (b_X12_next_29 a0 a1 p17.1) 4000 (((-1), p17.1, 0, p17.2))).bind fun X29 =>
  some (X29.1, X29.2)
def j_X12_baths_31 (mem0 : rt_M) : Option (Int × rt_M) :=
  some ((-1), mem0)
def j_X12_baths_88_39 (a0 : Int) (a1 : Int) (a2 : Int) (a3 : Int) (a5 : Int) (s0 : Int) (s1 : Int) (mem0 : rt_M) : Option ((Int × Int × rt_M) ⊕ (Int × rt_M)) :=
  some (.inl ((rt_iadd s0 s1), (rt_iadd a5 1), mem0))
def b_X12_baths_39 (a0 : Int) (a1 : Int) (a2 : Int) (a3 : Int) (s : Int × Int × rt_M) : Option ((Int × Int × rt_M) ⊕ (Int × rt_M)) :=
  if a3 ≤ s.2.1 then
  some (.inr (s.1, s.2.2))
  else
  (rt_gf 12 50 a0 s.2.2).bind fun v49 =>
  (rt_al 1 v49 0 s.2.2).bind fun v53 =>
  (f_X12_tiltIn a0 a2 a1 ((rt_iadd v53 s.2.1)) s.2.2).bind fun p57 =>
  if 0 ≤ p57.1 then
  (rt_gf 12 10 a0 p57.2).bind fun v79 =>
  (rt_al 1 v79 2 p57.2).bind fun v83 =>
  (f_J9_max_7cf53 0 ((rt_isub p57.1 v83)) p57.2).bind fun p85 =>
  j_X12_baths_88_39 a0 a1 a2 a3 s.2.1 s.1 p85 p57.2
  else
  j_X12_baths_88_39 a0 a1 a2 a3 s.2.1 s.1 ((rt_ineg p57.1)) p57.2
def f_X12_baths (a0 : Int) (a1 : Int) (a2 : Int) (a3 : Int) (mem0 : rt_M) : Option (Int × rt_M) :=
  (rt_pf 12 0 a0 0 mem0).bind fun m2 =>
  (f_X12_isHead a0 a1 m2).bind fun p7 =>
  if p7 = 0 then
  j_X12_baths_31 m2
  else
  (f_X12_isWig a0 a2 m2).bind fun p15 =>
  if p15 = 0 then
  j_X12_baths_31 m2
  else
  (f_X12_within a3 1 40 m2).bind fun p25 =>
  if p25 = 0 then
  j_X12_baths_31 m2
  else
  (rt_it (b_X12_baths_39 a0 a1 a2 a3) 4000 ((0, 0, m2))).bind fun X39 =>
  some (X39.1, X39.2)
def j_X12_keeps_24 (mem0 : rt_M) : Option (Int × rt_M) :=
  some ((-1), mem0)
def b_X12_keeps_28 (a0 : Int) (a1 : Int) (s : Int × rt_M) : Option ((Int × rt_M) ⊕ ((rt_M) ⊕ (Int × rt_M))) :=
  if 41 ≤ s.1 then
  some (.inr (.inl s.2))
  else
  (rt_gf 12 50 a0 s.2).bind fun v37 =>
  (rt_al 1 v37 ((rt_iadd 1 a1)) s.2).bind fun v43 =>
  (rt_gf 12 50 a0 s.2).bind fun v45 =>
  (rt_al 1 v45 0 s.2).bind fun v49 =>
  (f_X12_fitsIn a0 a1 v43 ((rt_iadd v49 s.1)) s.2).bind fun p52 =>
  if p52.1 = 0 then
  Option.map (fun t => .inr (.inr t)) (some (s.1, p52.2))
  else
  some (.inl ((rt_iadd s.1 1), p52.2))
def f_X12_keeps (a0 : Int) (a1 : Int) (mem0 : rt_M) : Option (Int × rt_M) :=
  (rt_pf 12 0 a0 0 mem0).bind fun m2 =>
  (f_X12_isWig a0 a1 m2).bind fun p7 =>
  if p7 = 0 then
  j_X12_keeps_24 m2
  else
  (rt_gf 12 50 a0 m2).bind fun v14 =>
  (rt_al 1 v14 ((rt_iadd 1 a1)) m2).bind fun v20 =>
  if 0 ≤ v20 then
  (rt_it (b_X12_keeps_28 a0 a1) 4000 ((1, m2))).bind fun E28 => match E28 with
  | .inr t => some t
  | .inl X28 =>
  some ((-1), X28)
  else
  j_X12_keeps_24 m2
def j_X12_mendsFrom_187_81 (rec_X12_mendsFrom : Int → Int → Int → rt_M → Option (rt_M)) (a0 : Int) (a1 : Int) (a2 : Int) (a3 : Int) (mem0 : rt_M) : Option ((Int × rt_M) ⊕ (rt_M)) :=
  some (.inl ((rt_iadd a3 1), mem0))
def j_X12_mendsFrom_157_81 (rec_X12_mendsFrom : Int → Int → Int → rt_M → Option (rt_M)) (a0 : Int) (a1 : Int) (a2 : Int) (a3 : Int) (s0 : Int) (s1 : Int) (s2 : Int) (mem0 : rt_M) : Option ((Int × rt_M) ⊕ (rt_M)) :=
  (rt_sa 1 s0 s1 s2 mem0).bind fun m157 =>
  (f_X12_passes a0 m157).bind fun p159 =>
  (rec_X12_mendsFrom a0 ((rt_iadd a1 1)) a2 p159.2).bind fun p168 =>
  (rt_gf 12 61 a0 p168).bind fun v172 =>
  (rt_gf 12 50 a0 p168).bind fun v180 =>
  (f_X12_copies v172 ((rt_imul 13 a1)) v180 0 p168).bind fun p184 =>
  j_X12_mendsFrom_187_81 rec_X12_mendsFrom a0 a1 a2 a3 p184
def j_X12_mendsFrom_142_81 (rec_X12_mendsFrom : Int → Int → Int → rt_M → Option (rt_M)) (a0 : Int) (a1 : Int) (a2 : Int) (a3 : Int) (a4 : Int) (mem0 : rt_M) : Option ((Int × rt_M) ⊕ (rt_M)) :=
  (rt_gf 12 62 a0 mem0).bind fun v143 =>
  if a4 = 0 then
  j_X12_mendsFrom_157_81 rec_X12_mendsFrom a0 a1 a2 a3 v143 a1 a3 mem0
  else
  j_X12_mendsFrom_157_81 rec_X12_mendsFrom a0 a1 a2 a3 v143 a1 ((-1)) mem0
def j_X12_mendsFrom_127_81 (rec_X12_mendsFrom : Int → Int → Int → rt_M → Option (rt_M)) (a0 : Int) (a1 : Int) (a2 : Int) (a3 : Int) (a4 : Int) (mem0 : rt_M) : Option ((Int × rt_M) ⊕ (rt_M)) :=
  if a4 = 0 then
  (rt_gf 12 50 a0 mem0).bind fun v133 =>
  (rt_sa 1 v133 ((rt_iadd 7 a3)) 0 mem0).bind fun m141 =>
  j_X12_mendsFrom_142_81 rec_X12_mendsFrom a0 a1 a2 a3 a4 m141
  else
  j_X12_mendsFrom_142_81 rec_X12_mendsFrom a0 a1 a2 a3 a4 mem0
def j_X12_mendsFrom_106_81 (rec_X12_mendsFrom : Int → Int → Int → rt_M → Option (rt_M)) (a0 : Int) (a1 : Int) (a2 : Int) (a3 : Int) (s0 : Int) (mem0 : rt_M) : Option ((Int × rt_M) ⊕ (rt_M)) :=
  if s0 = 0 then
  (rt_gf 12 50 a0 mem0).bind fun v114 =>
  (rt_al 1 v114 ((rt_iadd 1 a3)) mem0).bind fun v120 =>
  if v120 < 0 then
  j_X12_mendsFrom_127_81 rec_X12_mendsFrom a0 a1 a2 a3 s0 mem0
  else
  j_X12_mendsFrom_187_81 rec_X12_mendsFrom a0 a1 a2 a3 mem0
  else
  j_X12_mendsFrom_127_81 rec_X12_mendsFrom a0 a1 a2 a3 s0 mem0
def b_X12_mendsFrom_81 (rec_X12_mendsFrom : Int → Int → Int → rt_M → Option (rt_M)) (a0 : Int) (a1 : Int) (a2 : Int) (s : Int × rt_M) : Option ((Int × rt_M) ⊕ (rt_M)) :=
  (rt_gf 12 10 a0 s.2).bind fun v83 =>
  (rt_al 1 v83 0 s.2).bind fun v87 =>
  if v87 < s.1 then
  some (.inr s.2)
  else
  (rt_gf 12 10 a0 s.2).bind fun v93 =>
  (rt_al 1 v93 0 s.2).bind fun v97 =>
  if s.1 = v97 then
  j_X12_mendsFrom_106_81 rec_X12_mendsFrom a0 a1 a2 s.1 1 s.2
  else
  j_X12_mendsFrom_106_81 rec_X12_mendsFrom a0 a1 a2 s.1 0 s.2
def b_X12_mendsFrom_36 (rec_X12_mendsFrom : Int → Int → Int → rt_M → Option (rt_M)) (a0 : Int) (s : Int × rt_M) : Option ((Int × rt_M) ⊕ (rt_M)) :=
  if 4 ≤ s.1 then
  some (.inr s.2)
  else
  (rt_gf 12 63 a0 s.2).bind fun v43 =>
  (rt_gf 12 62 a0 s.2).bind fun v49 =>
  (rt_al 1 v49 s.1 s.2).bind fun v54 =>
  (rt_sa 1 v43 s.1 v54 s.2).bind fun m55 =>
  some (.inl ((rt_iadd s.1 1), m55))
def f_X12_mendsFrom (rec_X12_mendsFrom : Int → Int → Int → rt_M → Option (rt_M)) (a0 : Int) (a1 : Int) (a2 : Int) (mem0 : rt_M) : Option (rt_M) :=
  if a1 = a2 then
  (f_X12_wornOut a0 mem0).bind fun p9 =>
  (f_X12_officeOf a0 ((rt_iand 63 (rt_ixor p9 (-1)))) mem0).bind fun p15 =>
  (rt_gf 12 64 a0 mem0).bind fun v21 =>
  if v21 < p15 then
  (rt_pf 12 64 a0 p15 mem0).bind fun m30 =>
  (rt_it (b_X12_mendsFrom_36 rec_X12_mendsFrom a0) 4000 ((0, m30))).bind fun X36 =>
  some X36
  else
  some mem0
  else
  (rt_gf 12 50 a0 mem0).bind fun v64 =>
  (rt_gf 12 61 a0 mem0).bind fun v69 =>
  (f_X12_copies v64 0 v69 ((rt_imul 13 a1)) mem0).bind fun p76 =>
  (rt_it (b_X12_mendsFrom_81 rec_X12_mendsFrom a0 a1 a2) 4000 ((0, p76))).bind fun X81 =>
  some X81
def F_X12_mendsFrom : Nat → Int → Int → Int → rt_M → Option (rt_M)
  | 0 => fun _ _ _ _ => none
  | n + 1 => f_X12_mendsFrom (F_X12_mendsFrom n)
def j_X12_moths_23 (mem0 : rt_M) : Option (Int × rt_M) :=
  some ((-2), mem0)
def j_X12_moths_56 (s0 : Int) (mem0 : rt_M) : Option (Int × rt_M) :=
  some (s0, mem0)
def f_X12_moths (a0 : Int) (a1 : Int) (a2 : Int) (mem0 : rt_M) : Option (Int × rt_M) :=
  (rt_pf 12 0 a0 0 mem0).bind fun m2 =>
  (f_X12_within a1 1 4 m2).bind fun p8 =>
  if p8 = 0 then
  j_X12_moths_23 m2
  else
  (f_X12_within a2 0 a1 m2).bind fun p17 =>
  if p17 = 0 then
  j_X12_moths_23 m2
  else
  (rt_pf 12 64 a0 ((-1)) m2).bind fun m28 =>
  (F_X12_mendsFrom 12 a0 0 a1 m28).bind fun p34 =>
  if a2 = 0 then
  (rt_gf 12 64 a0 p34).bind fun v42 =>
  j_X12_moths_56 v42 p34
  else
  (rt_gf 12 63 a0 p34).bind fun v49 =>
  (rt_al 1 v49 ((rt_isub a2 1)) p34).bind fun v55 =>
  j_X12_moths_56 v55 p34
def j_X12_tell_23 (mem0 : rt_M) : Option (Int × rt_M) :=
  some (0, mem0)
def f_X12_tell (a0 : Int) (a1 : Int) (a2 : Int) (mem0 : rt_M) : Option (Int × rt_M) :=
  (rt_pf 12 0 a0 0 mem0).bind fun m2 =>
  (f_X12_isWig a0 a1 m2).bind fun p7 =>
  if p7 = 0 then
  j_X12_tell_23 m2
  else
  (f_X12_within a2 0 9 m2).bind fun p17 =>
  if p17 = 0 then
  j_X12_tell_23 m2
  else
  (rt_gf 12 49 a0 m2).bind fun v26 =>
  (rt_sa 1 v26 a1 a2 m2).bind fun m31 =>
  some (1, m31)
def j_X12_tiltsFrom_253_176 (rec_X12_tiltsFrom : Int → Int → Int → rt_M → Option (rt_M)) (a0 : Int) (a1 : Int) (a2 : Int) (a3 : Int) (mem0 : rt_M) : Option ((Int × rt_M) ⊕ (rt_M)) :=
  some (.inl ((rt_iadd a3 1), mem0))
def b_X12_tiltsFrom_176 (rec_X12_tiltsFrom : Int → Int → Int → rt_M → Option (rt_M)) (a0 : Int) (a1 : Int) (a2 : Int) (s : Int × rt_M) : Option ((Int × rt_M) ⊕ (rt_M)) :=
  (rt_gf 12 10 a0 s.2).bind fun v178 =>
  (rt_al 1 v178 1 s.2).bind fun v182 =>
  if v182 ≤ s.1 then
  some (.inr s.2)
  else
  if (rt_iand (rt_ishr a2 s.1) 1) = 1 then
  j_X12_tiltsFrom_253_176 rec_X12_tiltsFrom a0 a1 a2 s.1 s.2
  else
  (rt_gf 12 50 a0 s.2).bind fun v199 =>
  (rt_al 1 v199 0 s.2).bind fun v203 =>
  (f_X12_fitsIn a0 a1 s.1 v203 s.2).bind fun p204 =>
  if p204.1 = 0 then
  j_X12_tiltsFrom_253_176 rec_X12_tiltsFrom a0 a1 a2 s.1 p204.2
  else
  (rt_gf 12 50 a0 p204.2).bind fun v214 =>
  (rt_al 1 v214 0 p204.2).bind fun v218 =>
  (f_X12_tiltIn a0 a1 s.1 v218 p204.2).bind fun p219 =>
  (rt_gf 12 49 a0 p219.2).bind fun v223 =>
  (rt_al 1 v223 a1 p219.2).bind fun v227 =>
  if p219.1 = v227 then
  (rt_gf 12 56 a0 p219.2).bind fun v235 =>
  (rt_sa 1 v235 a1 s.1 p219.2).bind fun m240 =>
  (rec_X12_tiltsFrom a0 ((rt_iadd a1 1)) ((rt_ior a2 (rt_ishl 1 s.1))) m240).bind fun p250 =>
  j_X12_tiltsFrom_253_176 rec_X12_tiltsFrom a0 a1 a2 s.1 p250
  else
  j_X12_tiltsFrom_253_176 rec_X12_tiltsFrom a0 a1 a2 s.1 p219.2
def j_X12_tiltsFrom_56_12 (rec_X12_tiltsFrom : Int → Int → Int → rt_M → Option (rt_M)) (a0 : Int) (a2 : Int) (a3 : Int) (s0 : Int) (s1 : Int) (s2 : Int) (mem0 : rt_M) : Option ((Int × rt_M) ⊕ (rt_M)) :=
  (rt_sa 1 s0 s1 s2 mem0).bind fun m56 =>
  some (.inl ((rt_iadd a3 1), m56))
def j_X12_tiltsFrom_45_12 (rec_X12_tiltsFrom : Int → Int → Int → rt_M → Option (rt_M)) (a0 : Int) (a2 : Int) (a3 : Int) (s0 : Int) (s1 : Int) (mem0 : rt_M) : Option ((Int × rt_M) ⊕ (rt_M)) :=
  (rt_gf 12 56 a0 mem0).bind fun v46 =>
  (rt_al 1 v46 a3 mem0).bind fun v50 =>
  j_X12_tiltsFrom_56_12 rec_X12_tiltsFrom a0 a2 a3 s0 s1 v50 mem0
def b_X12_tiltsFrom_12 (rec_X12_tiltsFrom : Int → Int → Int → rt_M → Option (rt_M)) (a0 : Int) (a2 : Int) (s : Int × rt_M) : Option ((Int × rt_M) ⊕ (rt_M)) :=
  if 6 ≤ s.1 then
  some (.inr s.2)
  else
  (rt_gf 12 66 a0 s.2).bind fun v19 =>
  (rt_gf 12 65 a0 s.2).bind fun v24 =>
  if v24 = 0 then
  j_X12_tiltsFrom_45_12 rec_X12_tiltsFrom a0 a2 s.1 v19 s.1 s.2
  else
  (rt_gf 12 66 a0 s.2).bind fun v31 =>
  (rt_al 1 v31 s.1 s.2).bind fun v35 =>
  (rt_gf 12 56 a0 s.2).bind fun v37 =>
  (rt_al 1 v37 s.1 s.2).bind fun v41 =>
  if v35 = v41 then
  j_X12_tiltsFrom_45_12 rec_X12_tiltsFrom a0 a2 s.1 v19 s.1 s.2
  else
  j_X12_tiltsFrom_56_12 rec_X12_tiltsFrom a0 a2 s.1 v19 s.1 6 s.2
def j_X12_tiltsFrom_142_75 (rec_X12_tiltsFrom : Int → Int → Int → rt_M → Option (rt_M)) (a0 : Int) (a2 : Int) (a3 : Int) (mem0 : rt_M) : Option ((Int × rt_M) ⊕ (rt_M)) :=
  some (.inl ((rt_iadd a3 1), mem0))
def b_X12_tiltsFrom_75 (rec_X12_tiltsFrom : Int → Int → Int → rt_M → Option (rt_M)) (a0 : Int) (a2 : Int) (s : Int × rt_M) : Option ((Int × rt_M) ⊕ (rt_M)) :=
  (rt_gf 12 10 a0 s.2).bind fun v77 =>
  (rt_al 1 v77 1 s.2).bind fun v81 =>
  if v81 ≤ s.1 then
  some (.inr s.2)
  else
  (rt_gf 12 67 a0 s.2).bind fun v86 =>
  if v86 < 0 then
  some (.inr s.2)
  else
  if (rt_iand (rt_ishr a2 s.1) 1) = 0 then
  (rt_gf 12 67 a0 s.2).bind fun v102 =>
  (rt_gf 12 50 a0 s.2).bind fun v107 =>
  (rt_al 1 v107 0 s.2).bind fun v111 =>
  (f_X12_fitsIn a0 v102 s.1 v111 s.2).bind fun p112 =>
  if p112.1 = 0 then
  j_X12_tiltsFrom_142_75 rec_X12_tiltsFrom a0 a2 s.1 p112.2
  else
  (rt_gf 12 68 a0 p112.2).bind fun v119 =>
  (rt_gf 12 67 a0 p112.2).bind fun v124 =>
  (rt_gf 12 50 a0 p112.2).bind fun v129 =>
  (rt_al 1 v129 0 p112.2).bind fun v133 =>
  (f_X12_tiltIn a0 v124 s.1 v133 p112.2).bind fun p134 =>
  (rt_al 1 v119 p134.1 p134.2).bind fun v138 =>
  (rt_sa 1 v119 p134.1 ((rt_iadd v138 1)) p134.2).bind fun m141 =>
  j_X12_tiltsFrom_142_75 rec_X12_tiltsFrom a0 a2 s.1 m141
  else
  j_X12_tiltsFrom_142_75 rec_X12_tiltsFrom a0 a2 s.1 s.2
def f_X12_tiltsFrom (rec_X12_tiltsFrom : Int → Int → Int → rt_M → Option (rt_M)) (a0 : Int) (a1 : Int) (a2 : Int) (mem0 : rt_M) : Option (rt_M) :=
  (rt_gf 12 10 a0 mem0).bind fun v2 =>
  (rt_al 1 v2 0 mem0).bind fun v6 =>
  if a1 = v6 then
  (rt_it (b_X12_tiltsFrom_12 rec_X12_tiltsFrom a0 a2) 4000 ((0, mem0))).bind fun X12 =>
  (rt_gf 12 65 a0 X12).bind fun v65 =>
  (rt_pf 12 65 a0 ((rt_iadd v65 1)) X12).bind fun m70 =>
  (rt_it (b_X12_tiltsFrom_75 rec_X12_tiltsFrom a0 a2) 4000 ((0, m70))).bind fun X75 =>
  some X75
  else
  (rt_gf 12 56 a0 mem0).bind fun v150 =>
  (rt_sa 1 v150 a1 ((-1)) mem0).bind fun m155 =>
  (rt_gf 12 49 a0 m155).bind fun v157 =>
  (rt_al 1 v157 a1 m155).bind fun v161 =>
  if 0 ≤ v161 then
  (rt_it (b_X12_tiltsFrom_176 rec_X12_tiltsFrom a0 a1 a2) 4000 ((0, m155))).bind fun X176 =>
  some X176
  else
  (rec_X12_tiltsFrom a0 ((rt_iadd a1 1)) a2 m155).bind fun p170 =>
  some p170
def F_X12_tiltsFrom : Nat → Int → Int → Int → rt_M → Option (rt_M)
  | 0 => fun _ _ _ _ => none
  | n + 1 => f_X12_tiltsFrom (F_X12_tiltsFrom n)
def b_X12_laysUnder_12 (a0 : Int) (s : Int × rt_M) : Option ((Int × rt_M) ⊕ (rt_M)) :=
  if 10 ≤ s.1 then
  some (.inr s.2)
  else
  (rt_gf 12 68 a0 s.2).bind fun v19 =>
  (rt_sa 1 v19 s.1 0 s.2).bind fun m24 =>
  some (.inl ((rt_iadd s.1 1), m24))
def b_X12_laysUnder_33 (a0 : Int) (s : Int × rt_M) : Option ((Int × rt_M) ⊕ (rt_M)) :=
  if 6 ≤ s.1 then
  some (.inr s.2)
  else
  (rt_gf 12 56 a0 s.2).bind fun v40 =>
  (rt_sa 1 v40 s.1 ((-1)) s.2).bind fun m45 =>
  some (.inl ((rt_iadd s.1 1), m45))
def f_X12_laysUnder (a0 : Int) (a1 : Int) (mem0 : rt_M) : Option (rt_M) :=
  (rt_pf 12 67 a0 a1 mem0).bind fun m2 =>
  (rt_pf 12 65 a0 0 m2).bind fun m7 =>
  (rt_it (b_X12_laysUnder_12 a0) 4000 ((0, m7))).bind fun X12 =>
  (rt_it (b_X12_laysUnder_33 a0) 4000 ((0, X12))).bind fun X33 =>
  (F_X12_tiltsFrom 12 a0 0 0 X33).bind fun p55 =>
  some p55
def j_X12_under_64 (s0 : Int) (mem0 : rt_M) : Option (Int × rt_M) :=
  some (s0, mem0)
def j_X12_under_54 (mem0 : rt_M) : Option (Int × rt_M) :=
  j_X12_under_64 ((-1)) mem0
def j_X12_under_21 (a0 : Int) (a1 : Int) (mem0 : rt_M) : Option (Int × rt_M) :=
  (f_X12_laysUnder a0 ((-1)) mem0).bind fun p23 =>
  if a1 = (-1) then
  (rt_gf 12 65 a0 p23).bind fun v32 =>
  some (v32, p23)
  else
  (rt_gf 12 65 a0 p23).bind fun v37 =>
  if v37 = 0 then
  j_X12_under_54 p23
  else
  (rt_gf 12 66 a0 p23).bind fun v44 =>
  (rt_al 1 v44 a1 p23).bind fun v48 =>
  if v48 = 6 then
  j_X12_under_54 p23
  else
  (rt_gf 12 66 a0 p23).bind fun v59 =>
  (rt_al 1 v59 a1 p23).bind fun v63 =>
  j_X12_under_64 v63 p23
def f_X12_under (a0 : Int) (a1 : Int) (mem0 : rt_M) : Option (Int × rt_M) :=
  (rt_pf 12 0 a0 0 mem0).bind fun m2 =>
  if a1 = (-1) then
  j_X12_under_21 a0 a1 m2
  else
  (f_X12_isWig a0 a1 m2).bind fun p12 =>
  if p12 = 0 then
  some ((-2), m2)
  else
  j_X12_under_21 a0 a1 m2
def b_X12_ask_47 (a0 : Int) (a1 : Int) (a2 : Int) (a3 : Int) (s : Int × Int × Int × rt_M) : Option ((Int × Int × Int × rt_M) ⊕ (Int × Int × rt_M)) :=
  if 10 ≤ s.2.2.1 then
  some (.inr (s.1, s.2.1, s.2.2.2))
  else
  (rt_gf 12 68 a0 s.2.2.2).bind fun v57 =>
  (rt_al 1 v57 s.2.2.1 s.2.2.2).bind fun v62 =>
  (rt_gf 12 68 a0 s.2.2.2).bind fun v69 =>
  (rt_al 1 v69 s.2.2.1 s.2.2.2).bind fun v74 =>
  (f_J9_max_7cf53 s.2.1 v74 s.2.2.2).bind fun p75 =>
  some (.inl ((rt_iadd s.1 v62), p75, (rt_iadd s.2.2.1 1), s.2.2.2))
def j_X12_ask_111_11 (a0 : Int) (a1 : Int) (a2 : Int) (a3 : Int) (mem0 : rt_M) : Option ((Int × Int × Int × rt_M) ⊕ (Int × rt_M)) :=
  some (.inl (a1, a2, (rt_iadd a3 1), mem0))
def j_X12_ask_106_11 (a0 : Int) (a3 : Int) (a5 : Int) (mem0 : rt_M) : Option ((Int × Int × Int × rt_M) ⊕ (Int × rt_M)) :=
  j_X12_ask_111_11 a0 a3 a5 a3 mem0
def b_X12_ask_11 (a0 : Int) (s : Int × Int × Int × rt_M) : Option ((Int × Int × Int × rt_M) ⊕ (Int × rt_M)) :=
  (rt_gf 12 10 a0 s.2.2.2).bind fun v13 =>
  (rt_al 1 v13 0 s.2.2.2).bind fun v17 =>
  if v17 ≤ s.2.2.1 then
  some (.inr (s.1, s.2.2.2))
  else
  (rt_gf 12 49 a0 s.2.2.2).bind fun v22 =>
  (rt_al 1 v22 s.2.2.1 s.2.2.2).bind fun v26 =>
  if v26 < 0 then
  (f_X12_laysUnder a0 s.2.2.1 s.2.2.2).bind fun p35 =>
  (rt_it (b_X12_ask_47 a0 s.1 s.2.1 s.2.2.1) 4000 ((0, 0, 0, p35))).bind fun X47 =>
  if X47.2.1 = X47.1 then
  j_X12_ask_111_11 a0 s.1 s.2.1 s.2.2.1 X47.2.2
  else
  if s.1 < 0 then
  j_X12_ask_106_11 a0 s.2.2.1 X47.2.1 X47.2.2
  else
  if X47.2.1 < s.2.1 then
  j_X12_ask_106_11 a0 s.2.2.1 X47.2.1 X47.2.2
  else
  j_X12_ask_111_11 a0 s.1 s.2.1 s.2.2.1 X47.2.2
  else
  j_X12_ask_111_11 a0 s.1 s.2.1 s.2.2.1 s.2.2.2
def f_X12_ask (a0 : Int) (mem0 : rt_M) : Option (Int × rt_M) :=
  (rt_pf 12 0 a0 0 mem0).bind fun m2 =>
  (rt_it (b_X12_ask_11 a0) 4000 (((-1), 0, 0, m2))).bind fun X11 =>
  some (X11.1, X11.2)
def j_X12_wishes_77_4 (a0 : Int) (a1 : Int) (a2 : Int) (a3 : Int) (mem0 : rt_M) : Option ((Int × Int × rt_M) ⊕ (Int × rt_M)) :=
  some (.inl (a2, (rt_iadd a3 1), mem0))
def j_X12_wishes_75_4 (a0 : Int) (a1 : Int) (a3 : Int) (mem0 : rt_M) : Option ((Int × Int × rt_M) ⊕ (Int × rt_M)) :=
  j_X12_wishes_77_4 a0 a1 a3 a3 mem0
def b_X12_wishes_4 (a0 : Int) (a1 : Int) (s : Int × Int × rt_M) : Option ((Int × Int × rt_M) ⊕ (Int × rt_M)) :=
  (rt_gf 12 10 a0 s.2.2).bind fun v6 =>
  (rt_al 1 v6 0 s.2.2).bind fun v10 =>
  if v10 ≤ s.2.1 then
  some (.inr (s.1, s.2.2))
  else
  (rt_gf 12 69 a0 s.2.2).bind fun v15 =>
  (rt_al 1 v15 a1 s.2.2).bind fun v19 =>
  if (rt_iand (rt_ishr v19 s.2.1) 1) = 0 then
  (rt_gf 12 50 a0 s.2.2).bind fun v28 =>
  (rt_al 1 v28 ((rt_iadd 7 s.2.1)) s.2.2).bind fun v35 =>
  if 9 ≤ v35 then
  j_X12_wishes_77_4 a0 a1 s.1 s.2.1 s.2.2
  else
  (rt_gf 12 50 a0 s.2.2).bind fun v45 =>
  (rt_al 1 v45 0 s.2.2).bind fun v49 =>
  (f_X12_fitsIn a0 s.2.1 a1 v49 s.2.2).bind fun p50 =>
  if p50.1 = 0 then
  j_X12_wishes_77_4 a0 a1 s.1 s.2.1 p50.2
  else
  if s.1 < 0 then
  j_X12_wishes_75_4 a0 a1 s.2.1 p50.2
  else
  (rt_gf 12 14 a0 p50.2).bind fun v61 =>
  (rt_al 1 v61 s.2.1 p50.2).bind fun v65 =>
  (rt_gf 12 14 a0 p50.2).bind fun v67 =>
  (rt_al 1 v67 s.1 p50.2).bind fun v71 =>
  if v65 ≤ v71 then
  j_X12_wishes_77_4 a0 a1 s.1 s.2.1 p50.2
  else
  j_X12_wishes_75_4 a0 a1 s.2.1 p50.2
  else
  j_X12_wishes_77_4 a0 a1 s.1 s.2.1 s.2.2
def f_X12_wishes (a0 : Int) (a1 : Int) (mem0 : rt_M) : Option (Int × rt_M) :=
  (rt_it (b_X12_wishes_4 a0 a1) 4000 (((-1), 0, mem0))).bind fun X4 =>
  some (X4.1, X4.2)
def j_X12_isAhead_52 (s0 : Int) (mem0 : rt_M) : Option (Int × rt_M) :=
  (rt_bz s0).bind fun _ => some (s0, mem0)
def j_X12_isAhead_47 (mem0 : rt_M) : Option (Int × rt_M) :=
  j_X12_isAhead_52 1 mem0
def j_X12_isAhead_51 (mem0 : rt_M) : Option (Int × rt_M) :=
  j_X12_isAhead_52 0 mem0
def f_X12_isAhead (a0 : Int) (a1 : Int) (a2 : Int) (a3 : Int) (mem0 : rt_M) : Option (Int × rt_M) :=
  (rt_gf 12 50 a0 mem0).bind fun v4 =>
  (rt_al 1 v4 0 mem0).bind fun v8 =>
  (f_X12_tiltIn a0 a1 a2 v8 mem0).bind fun p9 =>
  (rt_gf 12 50 a0 p9.2).bind fun v18 =>
  (rt_al 1 v18 0 p9.2).bind fun v22 =>
  (f_X12_tiltIn a0 a1 a3 v22 p9.2).bind fun p23 =>
  if p9.1 < p23.1 then
  j_X12_isAhead_47 p23.2
  else
  if p9.1 = p23.1 then
  if a3 ≤ a2 then
  j_X12_isAhead_51 p23.2
  else
  j_X12_isAhead_47 p23.2
  else
  j_X12_isAhead_51 p23.2
def b_X12_laysMatch_2 (a0 : Int) (s : Int × rt_M) : Option ((Int × rt_M) ⊕ (rt_M)) :=
  if 6 ≤ s.1 then
  some (.inr s.2)
  else
  (rt_gf 12 69 a0 s.2).bind fun v9 =>
  (rt_sa 1 v9 s.1 0 s.2).bind fun m14 =>
  (rt_gf 12 70 a0 m14).bind fun v16 =>
  (rt_sa 1 v16 s.1 ((-1)) m14).bind fun m21 =>
  some (.inl ((rt_iadd s.1 1), m21))
def j_X12_laysMatch_115_48 (a0 : Int) (a1 : Int) (a2 : Int) (s0 : Int) (mem0 : rt_M) : Option ((Int × Int × rt_M) ⊕ (rt_M)) :=
  some (.inl (a2, s0, mem0))
def j_X12_laysMatch_102_48 (a0 : Int) (a1 : Int) (a2 : Int) (mem0 : rt_M) : Option ((Int × Int × rt_M) ⊕ (rt_M)) :=
  if 0 ≤ a2 then
  (f_X12_wishes a0 a2 mem0).bind fun p112 =>
  j_X12_laysMatch_115_48 a0 a1 a2 p112.1 p112.2
  else
  j_X12_laysMatch_115_48 a0 a1 a2 ((-1)) mem0
def j_X12_laysMatch_92_48 (a0 : Int) (a1 : Int) (a2 : Int) (a3 : Int) (a4 : Int) (mem0 : rt_M) : Option ((Int × Int × rt_M) ⊕ (rt_M)) :=
  (rt_gf 12 70 a0 mem0).bind fun v93 =>
  (rt_sa 1 v93 a3 a2 mem0).bind fun m98 =>
  j_X12_laysMatch_102_48 a0 a1 a4 m98
def b_X12_laysMatch_48 (a0 : Int) (a1 : Int) (s : Int × Int × rt_M) : Option ((Int × Int × rt_M) ⊕ (rt_M)) :=
  if s.1 < 0 then
  some (.inr s.2.2)
  else
  if s.2.1 < 0 then
  some (.inr s.2.2)
  else
  (rt_gf 12 69 a0 s.2.2).bind fun v57 =>
  (rt_al 1 v57 s.1 s.2.2).bind fun v62 =>
  (rt_sa 1 v57 s.1 ((rt_ior v62 (rt_ishl 1 s.2.1))) s.2.2).bind fun m67 =>
  (rt_gf 12 70 a0 m67).bind fun v69 =>
  (rt_al 1 v69 s.2.1 m67).bind fun v73 =>
  if v73 < 0 then
  j_X12_laysMatch_92_48 a0 a1 s.1 s.2.1 v73 m67
  else
  (f_X12_isAhead a0 s.2.1 s.1 v73 m67).bind fun p86 =>
  if p86.1 = 0 then
  j_X12_laysMatch_102_48 a0 a1 s.1 p86.2
  else
  j_X12_laysMatch_92_48 a0 a1 s.1 s.2.1 v73 p86.2
def b_X12_laysMatch_30 (a0 : Int) (s : Int × rt_M) : Option ((Int × rt_M) ⊕ (rt_M)) :=
  (rt_gf 12 10 a0 s.2).bind fun v32 =>
  (rt_al 1 v32 1 s.2).bind fun v36 =>
  if v36 ≤ s.1 then
  some (.inr s.2)
  else
  (f_X12_wishes a0 s.1 s.2).bind fun p44 =>
  (rt_it (b_X12_laysMatch_48 a0 s.1) 4000 ((s.1, p44.1, p44.2))).bind fun X48 =>
  some (.inl ((rt_iadd s.1 1), X48))
def f_X12_laysMatch (a0 : Int) (mem0 : rt_M) : Option (rt_M) :=
  (rt_it (b_X12_laysMatch_2 a0) 4000 ((0, mem0))).bind fun X2 =>
  (rt_it (b_X12_laysMatch_30 a0) 4000 ((0, X2))).bind fun X30 =>
  some X30
def b_X12_match_22 (a0 : Int) (a1 : Int) (s : Int × rt_M) : Option ((Int × rt_M) ⊕ ((rt_M) ⊕ (Int × rt_M))) :=
  (rt_gf 12 10 a0 s.2).bind fun v24 =>
  (rt_al 1 v24 0 s.2).bind fun v28 =>
  if v28 ≤ s.1 then
  some (.inr (.inl s.2))
  else
  (rt_gf 12 70 a0 s.2).bind fun v33 =>
  (rt_al 1 v33 s.1 s.2).bind fun v37 =>
  if v37 = a1 then
  Option.map (fun t => .inr (.inr t)) (some (s.1, s.2))
  else
  some (.inl ((rt_iadd s.1 1), s.2))
def f_X12_match (a0 : Int) (a1 : Int) (mem0 : rt_M) : Option (Int × rt_M) :=
  (rt_pf 12 0 a0 0 mem0).bind fun m2 =>
  (f_X12_isHead a0 a1 m2).bind fun p7 =>
  if p7 = 0 then
  some ((-2), m2)
  else
  (f_X12_laysMatch a0 m2).bind fun p17 =>
  (rt_it (b_X12_match_22 a0 a1) 4000 ((0, p17))).bind fun E22 => match E22 with
  | .inr t => some t
  | .inl X22 =>
  some ((-1), X22)
def j_X12_getsBy_10 (a1 : Int) (a2 : Int) (s0 : Int) (mem0 : rt_M) : Option (Int) :=
  some ((rt_isub s0 (rt_imul a1 a2)))
def f_X12_getsBy (a0 : Int) (a1 : Int) (a2 : Int) (a3 : Int) (mem0 : rt_M) : Option (Int) :=
  if a2 ≤ a3 then
  j_X12_getsBy_10 a1 a2 0 mem0
  else
  j_X12_getsBy_10 a1 a2 a0 mem0
def j_X12_isRest_46 (mem0 : rt_M) : Option (Int) :=
  some 0
def b_X12_isRest_3 (a0 : Int) (a1 : Int) (a2 : Int) (a3 : Int) (mem0 : rt_M) (s : Int) : Option ((Int) ⊕ ((Unit) ⊕ (Int))) :=
  if 6 ≤ s then
  some (.inr (.inl ()))
  else
  (f_X12_getsBy a0 a1 s a3 mem0).bind fun p15 =>
  (f_X12_getsBy a0 a1 a2 a3 mem0).bind fun p22 =>
  if p22 < p15 then
  Option.map (fun t => .inr (.inr t)) (j_X12_isRest_46 mem0)
  else
  (f_X12_getsBy a0 a1 s a2 mem0).bind fun p33 =>
  (f_X12_getsBy a0 a1 a3 a2 mem0).bind fun p40 =>
  if p33 ≤ p40 then
  some (.inl (rt_iadd s 1))
  else
  Option.map (fun t => .inr (.inr t)) (j_X12_isRest_46 mem0)
def f_X12_isRest (a0 : Int) (a1 : Int) (a2 : Int) (a3 : Int) (mem0 : rt_M) : Option (Int) :=
  (rt_it (b_X12_isRest_3 a0 a1 a2 a3 mem0) 4000 0).bind fun E3 => match E3 with
  | .inr t => some t
  | .inl X3 =>
  some 1
def j_X12_rests_102_50 (a0 : Int) (a1 : Int) (a2 : Int) (a3 : Int) (a4 : Int) (a5 : Int) (mem0 : rt_M) : Option ((Int × Int × rt_M) ⊕ ((Int × rt_M) ⊕ (Int × rt_M))) :=
  some (.inl (a4, (rt_iadd a5 1), mem0))
def b_X12_rests_50 (a0 : Int) (a1 : Int) (a2 : Int) (a3 : Int) (s : Int × Int × rt_M) : Option ((Int × Int × rt_M) ⊕ ((Int × rt_M) ⊕ (Int × rt_M))) :=
  if 36 ≤ s.2.1 then
  some (.inr (.inl (s.1, s.2.2)))
  else
  (f_X12_isRest a1 a2 ((rt_idiv s.2.1 6)) ((rt_irem s.2.1 6)) s.2.2).bind fun p69 =>
  if p69 = 0 then
  j_X12_rests_102_50 a0 a1 a2 a3 s.1 s.2.1 s.2.2
  else
  if s.1 = a3 then
  Option.map (fun t => .inr (.inr t)) (some ((rt_iadd (rt_imul 10 (rt_idiv s.2.1 6)) (rt_irem s.2.1 6)), s.2.2))
  else
  j_X12_rests_102_50 a0 a1 a2 a3 ((rt_iadd s.1 1)) s.2.1 s.2.2
def j_X12_rests_133 (s0 : Int) (mem0 : rt_M) : Option (Int × rt_M) :=
  some (s0, mem0)
def j_X12_rests_119 (a3 : Int) (a4 : Int) (s0 : Int) (s1 : Int) (mem0 : rt_M) : Option (Int × rt_M) :=
  (rt_pf 12 0 s0 s1 mem0).bind fun m119 =>
  if a3 = (-1) then
  j_X12_rests_133 a4 m119
  else
  j_X12_rests_133 0 m119
def j_X12_rests_31 (a0 : Int) (a1 : Int) (a2 : Int) (a3 : Int) (s0 : Int) (s1 : Int) (mem0 : rt_M) : Option (Int × rt_M) :=
  (rt_pf 12 0 s0 s1 mem0).bind fun m31 =>
  (rt_gf 12 0 a0 m31).bind fun v35 =>
  if v35 = 1 then
  some (0, m31)
  else
  (rt_it (b_X12_rests_50 a0 a1 a2 a3) 4000 ((0, 0, m31))).bind fun E50 => match E50 with
  | .inr t => some t
  | .inl X50 =>
  if a3 = (-1) then
  j_X12_rests_119 a3 X50.1 a0 0 X50.2
  else
  j_X12_rests_119 a3 X50.1 a0 1 X50.2
def j_X12_rests_30 (a0 : Int) (a1 : Int) (a2 : Int) (a3 : Int) (s0 : Int) (mem0 : rt_M) : Option (Int × rt_M) :=
  j_X12_rests_31 a0 a1 a2 a3 s0 1 mem0
def f_X12_rests (a0 : Int) (a1 : Int) (a2 : Int) (a3 : Int) (mem0 : rt_M) : Option (Int × rt_M) :=
  (f_X12_within a1 0 9 mem0).bind fun p5 =>
  if p5 = 0 then
  j_X12_rests_30 a0 a1 a2 a3 a0 mem0
  else
  (f_X12_within a2 0 9 mem0).bind fun p15 =>
  if p15 = 0 then
  j_X12_rests_30 a0 a1 a2 a3 a0 mem0
  else
  if a3 < (-1) then
  j_X12_rests_30 a0 a1 a2 a3 a0 mem0
  else
  j_X12_rests_31 a0 a1 a2 a3 a0 0 mem0
def b_X12_power0_5 (a0 : Int) (a1 : Int) (mem0 : rt_M) (s : Int × Int) : Option ((Int × Int) ⊕ (Int)) :=
  if a1 ≤ s.2 then
  some (.inr s.1)
  else
  some (.inl ((rt_lmul s.1 a0), (rt_iadd s.2 1)))
def f_X12_power0 (a0 : Int) (a1 : Int) (mem0 : rt_M) : Option (Int) :=
  (rt_it (b_X12_power0_5 a0 a1 mem0) 4000 ((1, 0))).bind fun X5 =>
  some X5
def j_X12_horsehair_124 (s0 : Int) (mem0 : rt_M) : Option (Int × rt_M) :=
  some (s0, mem0)
def j_X12_horsehair_100 (a5 : Int) (a7 : Int) (s0 : Int) (s1 : Int) (mem0 : rt_M) : Option (Int × rt_M) :=
  (rt_pf 12 0 s0 s1 mem0).bind fun m100 =>
  if (rt_lcmp a7 0) = 0 then
  j_X12_horsehair_124 0 m100
  else
  if a7 = 0 then none else
  j_X12_horsehair_124 ((rt_l2i (rt_ldiv (rt_lmul a5 1000000) a7))) m100
def j_X12_horsehair_46 (a0 : Int) (a1 : Int) (a2 : Int) (a3 : Int) (a4 : Int) (s0 : Int) (s1 : Int) (mem0 : rt_M) : Option (Int × rt_M) :=
  (rt_pf 12 0 s0 s1 mem0).bind fun m46 =>
  (rt_gf 12 0 a0 m46).bind fun v50 =>
  if v50 = 1 then
  some (0, m46)
  else
  (f_X12_power0 a2 a4 m46).bind fun p64 =>
  (f_X12_power0 a3 a4 m46).bind fun p80 =>
  if (rt_lcmp (rt_ladd (rt_lmul a1 p64) (rt_lmul (rt_isub 100 a1) p80)) 0) = 0 then
  j_X12_horsehair_100 ((rt_lmul a1 p64)) ((rt_ladd (rt_lmul a1 p64) (rt_lmul (rt_isub 100 a1) p80))) a0 1 m46
  else
  j_X12_horsehair_100 ((rt_lmul a1 p64)) ((rt_ladd (rt_lmul a1 p64) (rt_lmul (rt_isub 100 a1) p80))) a0 0 m46
def j_X12_horsehair_45 (a0 : Int) (a1 : Int) (a2 : Int) (a3 : Int) (a4 : Int) (s0 : Int) (mem0 : rt_M) : Option (Int × rt_M) :=
  j_X12_horsehair_46 a0 a1 a2 a3 a4 s0 1 mem0
def f_X12_horsehair (a0 : Int) (a1 : Int) (a2 : Int) (a3 : Int) (a4 : Int) (mem0 : rt_M) : Option (Int × rt_M) :=
  (f_X12_within a1 0 100 mem0).bind fun p5 =>
  if p5 = 0 then
  j_X12_horsehair_45 a0 a1 a2 a3 a4 a0 mem0
  else
  (f_X12_within a2 0 100 mem0).bind fun p15 =>
  if p15 = 0 then
  j_X12_horsehair_45 a0 a1 a2 a3 a4 a0 mem0
  else
  (f_X12_within a3 0 100 mem0).bind fun p25 =>
  if p25 = 0 then
  j_X12_horsehair_45 a0 a1 a2 a3 a4 a0 mem0
  else
  (f_X12_within a4 1 3 mem0).bind fun p35 =>
  if p35 = 0 then
  j_X12_horsehair_45 a0 a1 a2 a3 a4 a0 mem0
  else
  j_X12_horsehair_46 a0 a1 a2 a3 a4 a0 0 mem0
def f_X12_draws (a0 : Int) (a1 : Int) (mem0 : rt_M) : Option (Int × rt_M) :=
  (rt_gf 12 71 a0 mem0).bind fun v2 =>
  (rt_pf 12 71 a0 ((rt_lrem (rt_ladd (rt_lmul v2 1103515245) 12345) 2147483648)) mem0).bind fun m17 =>
  (rt_gf 12 71 a0 m17).bind fun v21 =>
  if a1 = 0 then none else
  some ((rt_l2i (rt_lrem (rt_ldiv v21 65536) a1)), m17)
def b_X12_fever_2 (a0 : Int) (s : Int × rt_M) : Option ((Int × rt_M) ⊕ ((rt_M) ⊕ (rt_M))) :=
  (rt_gf 12 10 a0 s.2).bind fun v4 =>
  (rt_al 1 v4 1 s.2).bind fun v8 =>
  if v8 ≤ s.1 then
  some (.inr (.inl s.2))
  else
  (f_X12_wigOn a0 s.1 s.2).bind fun p14 =>
  if 0 ≤ p14 then
  Option.map (fun t => .inr (.inr t)) ((rt_gf 12 50 a0 s.2).bind fun v26 =>
  (rt_sa 1 v26 ((rt_iadd 1 p14)) ((-1)) s.2).bind fun m33 =>
  some m33)
  else
  some (.inl ((rt_iadd s.1 1), s.2))
def f_X12_fever (a0 : Int) (mem0 : rt_M) : Option (rt_M) :=
  (rt_it (b_X12_fever_2 a0) 4000 ((0, mem0))).bind fun E2 => match E2 with
  | .inr t => some t
  | .inl X2 =>
  some X2
def j_X12_livesSeason_70 (a0 : Int) (mem0 : rt_M) : Option (Int × rt_M) :=
  (f_X12_passes a0 mem0).bind fun p71 =>
  some (p71.1, p71.2)
def j_X12_livesSeason_58 (a0 : Int) (mem0 : rt_M) : Option (Int × rt_M) :=
  (f_X12_draws a0 5 mem0).bind fun p60 =>
  if p60.1 = 0 then
  (f_X12_fever a0 p60.2).bind fun p67 =>
  j_X12_livesSeason_70 a0 p67
  else
  j_X12_livesSeason_70 a0 p60.2
def f_X12_livesSeason (a0 : Int) (mem0 : rt_M) : Option (Int × rt_M) :=
  (rt_gf 12 10 a0 mem0).bind fun v1 =>
  (rt_al 1 v1 0 mem0).bind fun v5 =>
  if v5 ≤ 0 then
  j_X12_livesSeason_58 a0 mem0
  else
  (rt_gf 12 10 a0 mem0).bind fun v10 =>
  (rt_al 1 v10 1 mem0).bind fun v14 =>
  if v14 ≤ 0 then
  j_X12_livesSeason_58 a0 mem0
  else
  (rt_gf 12 10 a0 mem0).bind fun v20 =>
  (rt_al 1 v20 0 mem0).bind fun v24 =>
  (f_X12_draws a0 v24 mem0).bind fun p25 =>
  (rt_gf 12 10 a0 p25.2).bind fun v31 =>
  (rt_al 1 v31 1 p25.2).bind fun v35 =>
  (f_X12_draws a0 v35 p25.2).bind fun p36 =>
  (f_X12_canPut a0 p25.1 p36.1 p36.2).bind fun p43 =>
  if p43.1 = 0 then
  j_X12_livesSeason_58 a0 p43.2
  else
  (rt_gf 12 50 a0 p43.2).bind fun v50 =>
  (rt_sa 1 v50 ((rt_iadd 1 p25.1)) p36.1 p43.2).bind fun m57 =>
  j_X12_livesSeason_58 a0 m57
def j_X12_centuries_35 (mem0 : rt_M) : Option (Int × rt_M) :=
  some ((-1), mem0)
def b_X12_centuries_65 (a0 : Int) (a2 : Int) (a3 : Int) (s : Int × Int × Int × rt_M) : Option ((Int × Int × Int × rt_M) ⊕ (Int × Int × rt_M)) :=
  if a2 ≤ s.2.2.1 then
  some (.inr (s.1, s.2.1, s.2.2.2))
  else
  (f_X12_livesSeason a0 s.2.2.2).bind fun p74 =>
  (f_X12_onHeads a0 p74.2).bind fun p84 =>
  (f_X12_officeOf a0 p84 p74.2).bind fun p87 =>
  some (.inl ((rt_iadd s.1 p87), (rt_iadd s.2.1 p74.1), (rt_iadd s.2.2.1 1), p74.2))
def b_X12_centuries_105 (a0 : Int) (a3 : Int) (a4 : Int) (a5 : Int) (s : Int × Int × rt_M) : Option ((Int × Int × rt_M) ⊕ (Int × rt_M)) :=
  if 6 ≤ s.2.1 then
  some (.inr (s.1, s.2.2))
  else
  (rt_gf 12 50 a0 s.2.2).bind fun v115 =>
  (rt_al 1 v115 ((rt_iadd 7 s.2.1)) s.2.2).bind fun v123 =>
  some (.inl ((rt_iadd s.1 v123), (rt_iadd s.2.1 1), s.2.2))
def j_X12_centuries_167 (s0 : Int) (mem0 : rt_M) : Option (Int × rt_M) :=
  some (s0, mem0)
def f_X12_centuries (a0 : Int) (a1 : Int) (a2 : Int) (a3 : Int) (mem0 : rt_M) : Option (Int × rt_M) :=
  (rt_pf 12 0 a0 0 mem0).bind fun m2 =>
  (f_X12_within a1 0 9999 m2).bind fun p10 =>
  if p10 = 0 then
  j_X12_centuries_35 m2
  else
  (f_X12_within a2 1 99 m2).bind fun p20 =>
  if p20 = 0 then
  j_X12_centuries_35 m2
  else
  (f_X12_within a3 0 2 m2).bind fun p29 =>
  if p29 = 0 then
  j_X12_centuries_35 m2
  else
  (rt_pf 12 71 a0 a1 m2).bind fun m40 =>
  (rt_gf 12 50 a0 m40).bind fun v44 =>
  (rt_gf 12 51 a0 m40).bind fun v49 =>
  (f_X12_copies v44 0 v49 0 m40).bind fun p53 =>
  (rt_it (b_X12_centuries_65 a0 a2 a3) 4000 ((0, 0, 0, p53))).bind fun X65 =>
  (rt_it (b_X12_centuries_105 a0 a3 X65.1 X65.2.1) 4000 ((0, 0, X65.2.2))).bind fun X105 =>
  (rt_gf 12 51 a0 X105.2).bind fun v134 =>
  (rt_gf 12 50 a0 X105.2).bind fun v139 =>
  (f_X12_copies v134 0 v139 0 X105.2).bind fun p143 =>
  if a3 = 0 then
  j_X12_centuries_167 X65.1 p143
  else
  if a3 = 1 then
  j_X12_centuries_167 X65.2.1 p143
  else
  j_X12_centuries_167 X105.1 p143
def j_X12_mark_27 (mem0 : rt_M) : Option (Int × rt_M) :=
  some (0, mem0)
def j_X12_mark_119 (mem0 : rt_M) : Option (Int × rt_M) :=
  some (1, mem0)
def j_X12_mark_59 (a0 : Int) (a1 : Int) (a2 : Int) (a3 : Int) (s0 : Int) (mem0 : rt_M) : Option (Int × rt_M) :=
  (f_X12_laysLines a0 a3 s0 mem0).bind fun p65 =>
  (f_X12_laysSaid a0 a3 s0 p65).bind fun p72 =>
  if a2 = 0 then
  (rt_gf 12 50 a0 p72).bind fun v104 =>
  (rt_gf 12 52 a0 p72).bind fun v109 =>
  (f_X12_copies v104 0 v109 ((rt_imul 13 a1)) p72).bind fun p116 =>
  j_X12_mark_119 p116
  else
  (rt_gf 12 52 a0 p72).bind fun v80 =>
  (rt_gf 12 50 a0 p72).bind fun v88 =>
  (f_X12_copies v80 ((rt_imul 13 a1)) v88 0 p72).bind fun p92 =>
  (rt_pf 12 55 a0 0 p92).bind fun m97 =>
  j_X12_mark_119 m97
def j_X12_mark_47 (a0 : Int) (a1 : Int) (a2 : Int) (s0 : Int) (mem0 : rt_M) : Option (Int × rt_M) :=
  if a2 = 0 then
  j_X12_mark_59 a0 a1 a2 s0 ((rt_iadd 1 a1)) mem0
  else
  j_X12_mark_59 a0 a1 a2 s0 0 mem0
def j_X12_mark_29 (a0 : Int) (a1 : Int) (a2 : Int) (mem0 : rt_M) : Option (Int × rt_M) :=
  (rt_gf 12 54 a0 mem0).bind fun v30 =>
  (rt_sa 3 v30 a1 1 mem0).bind fun m35 =>
  if a2 = 0 then
  j_X12_mark_47 a0 a1 a2 0 m35
  else
  j_X12_mark_47 a0 a1 a2 ((rt_iadd 1 a1)) m35
def f_X12_mark (a0 : Int) (a1 : Int) (a2 : Int) (mem0 : rt_M) : Option (Int × rt_M) :=
  (rt_pf 12 0 a0 0 mem0).bind fun m2 =>
  (f_X12_within a1 0 3 m2).bind fun p8 =>
  if p8 = 0 then
  j_X12_mark_27 m2
  else
  if a2 = 0 then
  j_X12_mark_29 a0 a1 a2 m2
  else
  (rt_gf 12 54 a0 m2).bind fun v19 =>
  (rt_al 3 v19 a1 m2).bind fun v23 =>
  if v23 = 0 then
  j_X12_mark_27 m2
  else
  j_X12_mark_29 a0 a1 a2 m2
def j_X12_toldMany_29_4 (a0 : Int) (a2 : Int) (s0 : Int) (s1 : Int) (mem0 : rt_M) : Option ((Int × Int) ⊕ (Int)) :=
  some (.inl ((rt_iadd s0 s1), (rt_iadd a2 1)))
def b_X12_toldMany_4 (a0 : Int) (mem0 : rt_M) (s : Int × Int) : Option ((Int × Int) ⊕ (Int)) :=
  (rt_gf 12 10 a0 mem0).bind fun v6 =>
  (rt_al 1 v6 0 mem0).bind fun v10 =>
  if v10 ≤ s.2 then
  some (.inr s.1)
  else
  (rt_gf 12 49 a0 mem0).bind fun v16 =>
  (rt_al 1 v16 s.2 mem0).bind fun v20 =>
  if v20 < 0 then
  j_X12_toldMany_29_4 a0 s.2 s.1 0 mem0
  else
  j_X12_toldMany_29_4 a0 s.2 s.1 1 mem0
def f_X12_toldMany (a0 : Int) (mem0 : rt_M) : Option (Int) :=
  (rt_it (b_X12_toldMany_4 a0 mem0) 4000 ((0, 0))).bind fun X4 =>
  some X4
def j_X12_count_157 (s0 : Int) (mem0 : rt_M) : Option (Int × rt_M) :=
  some (s0, mem0)
def j_X12_count_126 (s0 : Int) (mem0 : rt_M) : Option (Int × rt_M) :=
  some (s0, mem0)
def j_X12_count_98 (s0 : Int) (mem0 : rt_M) : Option (Int × rt_M) :=
  some (s0, mem0)
def j_X12_count_58 (s0 : Int) (mem0 : rt_M) : Option (Int × rt_M) :=
  some (s0, mem0)
def f_X12_count (a0 : Int) (a1 : Int) (mem0 : rt_M) : Option (Int × rt_M) :=
  (rt_pf 12 0 a0 0 mem0).bind fun m2 =>
  (f_X12_within a1 0 12 m2).bind fun p9 =>
  if p9 = 0 then
  some ((-1), m2)
  else
  if 3 ≤ a1 then
  if 5 ≤ a1 then
  if 8 ≤ a1 then
  if 10 ≤ a1 then
  if a1 = 10 then
  (f_X12_toldMany a0 m2).bind fun p134 =>
  j_X12_count_157 p134 m2
  else
  if a1 = 11 then
  (rt_gf 12 55 a0 m2).bind fun v147 =>
  j_X12_count_157 v147 m2
  else
  (rt_gf 12 1 a0 m2).bind fun v154 =>
  j_X12_count_157 v154 m2
  else
  if a1 = 8 then
  (rt_gf 12 41 a0 m2).bind fun v112 =>
  (rt_al 1 v112 0 m2).bind fun v116 =>
  j_X12_count_126 v116 m2
  else
  (rt_gf 12 45 a0 m2).bind fun v121 =>
  (rt_al 1 v121 0 m2).bind fun v125 =>
  j_X12_count_126 v125 m2
  else
  if a1 = 5 then
  (f_X12_onHeads a0 m2).bind fun p71 =>
  j_X12_count_98 p71 m2
  else
  if a1 = 6 then
  (f_X12_wornOut a0 m2).bind fun p84 =>
  j_X12_count_98 p84 m2
  else
  (f_X12_onHeads a0 m2).bind fun p92 =>
  (f_X12_officeOf a0 p92 m2).bind fun p95 =>
  j_X12_count_98 p95 m2
  else
  if a1 = 3 then
  (rt_gf 12 50 a0 m2).bind fun v40 =>
  (rt_al 1 v40 0 m2).bind fun v44 =>
  j_X12_count_58 v44 m2
  else
  (rt_gf 12 50 a0 m2).bind fun v50 =>
  (rt_al 1 v50 0 m2).bind fun v54 =>
  (f_X12_heatIn a0 v54 m2).bind fun p55 =>
  j_X12_count_58 p55 m2
  else
  (rt_gf 12 10 a0 m2).bind fun v23 =>
  (rt_al 1 v23 a1 m2).bind fun v27 =>
  some (v27, m2)
