/-! Layer 4: the constructors: proofs -/
set_option maxHeartbeats 4000000 in
theorem c_X8_init {G : rt_G} {d k0 : Nat} (hd : 1 ≤ d) (a0 : Int) (mem0 : rt_M) (t : Nat × rt_M) (ht : rt_kd a0.toNat = 20 + 8) (hlt : a0.toNat < k0) (h : f_X8_init k0 a0 mem0 = some t) : RK G M_X8_init d [(2, a0)] k0 mem0 t := by
  suffices H : ∀ Q : rt_P, Q none (t.1, 0) t.2 → RT G M_X8_init d (k0, 0) Q 0 [(2, a0)] [] (k0, 0) mem0 from H _ ⟨rfl, rfl, rfl⟩
  intro Q hK
  unfold f_X8_init at h
  refine RT.aload_n (pc := 0) (k := 0) (x := a0) dX8_init_0 rfl ?_
  refine RT.objI (pc := 1) (x := a0) dX8_init_1 ol_X8_3 oi_inst oi_code (rt_kd_ge (by omega)) (by omega) (by decide) ?_
  refine RT.aload_n (pc := 4) (k := 0) (x := a0) dX8_init_4 rfl ?_
  refine RT.sipush (pc := 5) (n := 1000) dX8_init_5 ⟨by decide, by decide⟩ rfl ?_
  obtain ⟨p8q0, hp8q0, h⟩ := Option.bind_eq_some_iff.mp h
  refine RT.na 4 (pc := 8) (n := 1000) dX8_init_8 rfl ac_4 (by decide) hp8q0 ?_
  have lp8q0 := rt_na_lt hp8q0
  obtain ⟨m10q1, hm10q1, h⟩ := Option.bind_eq_some_iff.mp h
  refine RT.putfF 8 0 (pc := 10) (t := 2) (mem1 := m10q1) dX8_init_10 gl_X8_9 rfl rfl rfl hl_X8_9 rfl (nar_X8_0 _) (fit_X8_0 _) (show a0.toNat < p8q0.1 by omega) hm10q1 ?_
  refine RT.aload_n (pc := 13) (k := 0) (x := a0) dX8_init_13 rfl ?_
  refine RT.sipush (pc := 14) (n := 1001) dX8_init_14 ⟨by decide, by decide⟩ rfl ?_
  obtain ⟨p17q2, hp17q2, h⟩ := Option.bind_eq_some_iff.mp h
  refine RT.nr 5 (C := "WigOffice$Word") (pc := 17) (n := 1001) dX8_init_17 rfl co_X8_15 ao_5 (by decide) hp17q2 ?_
  have lp17q2 := rt_na_lt hp17q2
  obtain ⟨m20q3, hm20q3, h⟩ := Option.bind_eq_some_iff.mp h
  refine RT.putfF 8 2 (pc := 20) (t := 2) (mem1 := m20q3) dX8_init_20 gl_X8_17 rfl rfl rfl hl_X8_17 rfl (nar_X8_2 _) (fit_X8_2 _) (show a0.toNat < p17q2.1 by omega) hm20q3 ?_
  refine RT.aload_n (pc := 23) (k := 0) (x := a0) dX8_init_23 rfl ?_
  refine RT.sipush (pc := 24) (n := 1001) dX8_init_24 ⟨by decide, by decide⟩ rfl ?_
  obtain ⟨p27q4, hp27q4, h⟩ := Option.bind_eq_some_iff.mp h
  refine RT.na 1 (pc := 27) (n := 1001) dX8_init_27 rfl ac_1 (by decide) hp27q4 ?_
  have lp27q4 := rt_na_lt hp27q4
  obtain ⟨m29q5, hm29q5, h⟩ := Option.bind_eq_some_iff.mp h
  refine RT.putfF 8 3 (pc := 29) (t := 2) (mem1 := m29q5) dX8_init_29 gl_X8_21 rfl rfl rfl hl_X8_21 rfl (nar_X8_3 _) (fit_X8_3 _) (show a0.toNat < p27q4.1 by omega) hm29q5 ?_
  refine RT.aload_n (pc := 32) (k := 0) (x := a0) dX8_init_32 rfl ?_
  refine RT.sipush (pc := 33) (n := 1001) dX8_init_33 ⟨by decide, by decide⟩ rfl ?_
  obtain ⟨p36q6, hp36q6, h⟩ := Option.bind_eq_some_iff.mp h
  refine RT.na 2 (pc := 36) (n := 1001) dX8_init_36 rfl ac_2 (by decide) hp36q6 ?_
  have lp36q6 := rt_na_lt hp36q6
  obtain ⟨m38q7, hm38q7, h⟩ := Option.bind_eq_some_iff.mp h
  refine RT.putfF 8 4 (pc := 38) (t := 2) (mem1 := m38q7) dX8_init_38 gl_X8_25 rfl rfl rfl hl_X8_25 rfl (nar_X8_4 _) (fit_X8_4 _) (show a0.toNat < p36q6.1 by omega) hm38q7 ?_
  obtain ⟨e, y, x⟩ := rt_ge_s h
  subst e
  exact RT.vret (pc := 41) dX8_init_41 rfl y x hK
set_option maxHeartbeats 4000000 in
theorem c_X3_init {G : rt_G} {d k0 : Nat} (hd : 1 ≤ d) (a0 : Int) (a1 : Int) (mem0 : rt_M) (t : Nat × rt_M) (ht : rt_kd a0.toNat = 20 + 3) (hlt : a0.toNat < k0) (h : f_X3_init k0 a0 a1 mem0 = some t) : RK G M_X3_init d [(2, a0), (2, a1)] k0 mem0 t := by
  suffices H : ∀ Q : rt_P, Q none (t.1, 0) t.2 → RT G M_X3_init d (k0, 0) Q 0 [(2, a0), (2, a1)] [] (k0, 0) mem0 from H _ ⟨rfl, rfl, rfl⟩
  intro Q hK
  unfold f_X3_init at h
  refine RT.aload_n (pc := 0) (k := 0) (x := a0) dX3_init_0 rfl ?_
  refine RT.objI (pc := 1) (x := a0) dX3_init_1 ol_X3_3 oi_inst oi_code (rt_kd_ge (by omega)) (by omega) (by decide) ?_
  refine RT.aload_n (pc := 4) (k := 0) (x := a0) dX3_init_4 rfl ?_
  refine RT.aload_n (pc := 5) (k := 1) (x := a1) dX3_init_5 rfl ?_
  obtain ⟨m6q0, hm6q0, h⟩ := Option.bind_eq_some_iff.mp h
  refine RT.putfF 3 0 (pc := 6) (t := 2) (mem1 := m6q0) dX3_init_6 gl_X3_9 rfl rfl rfl hl_X3_9 rfl (nar_X3_0 _) (fit_X3_0 _) (show a0.toNat < k0 by omega) hm6q0 ?_
  obtain ⟨e, y, x⟩ := rt_ge_s h
  subst e
  exact RT.vret (pc := 9) dX3_init_9 rfl y x hK
set_option maxHeartbeats 4000000 in
theorem c_X7_init {G : rt_G} {d k0 : Nat} (hd : 1 ≤ d) (a0 : Int) (mem0 : rt_M) (t : Nat × rt_M) (ht : rt_kd a0.toNat = 20 + 7) (hlt : a0.toNat < k0) (h : f_X7_init k0 a0 mem0 = some t) : RK G M_X7_init d [(2, a0)] k0 mem0 t := by
  suffices H : ∀ Q : rt_P, Q none (t.1, 0) t.2 → RT G M_X7_init d (k0, 0) Q 0 [(2, a0)] [] (k0, 0) mem0 from H _ ⟨rfl, rfl, rfl⟩
  intro Q hK
  unfold f_X7_init at h
  refine RT.aload_n (pc := 0) (k := 0) (x := a0) dX7_init_0 rfl ?_
  refine RT.objI (pc := 1) (x := a0) dX7_init_1 ol_X7_3 oi_inst oi_code (rt_kd_ge (by omega)) (by omega) (by decide) ?_
  refine RT.aload_n (pc := 4) (k := 0) (x := a0) dX7_init_4 rfl ?_
  refine RT.bipush (pc := 5) (n := 6) dX7_init_5 ⟨by decide, by decide⟩ rfl ?_
  obtain ⟨p7q0, hp7q0, h⟩ := Option.bind_eq_some_iff.mp h
  refine RT.na 1 (pc := 7) (n := 6) dX7_init_7 rfl ac_1 (by decide) hp7q0 ?_
  have lp7q0 := rt_na_lt hp7q0
  refine RT.dup (pc := 9) dX7_init_9 (show ¬ ((2 : Nat) = 1) by decide) ?_
  refine RT.iconst (pc := 10) (n := 0) dX7_init_10 ⟨by decide, by decide⟩ ?_
  refine RT.iconst (pc := 11) (n := (-1)) dX7_init_11 ⟨by decide, by decide⟩ ?_
  obtain ⟨w12q1, hw12q1, h⟩ := Option.bind_eq_some_iff.mp h
  have gw12q1 := rt_lk_s hw12q1
  obtain ⟨m12q1, hm12q1, h⟩ := Option.bind_eq_some_iff.mp h
  refine RT.iast (pc := 12) (x := ((k0 : Nat) : Int)) (i := 0) (v := (-1)) (mem1 := m12q1) dX7_init_12 gw12q1 hm12q1 ?_
  refine RT.dup (pc := 13) dX7_init_13 (show ¬ ((2 : Nat) = 1) by decide) ?_
  refine RT.iconst (pc := 14) (n := 1) dX7_init_14 ⟨by decide, by decide⟩ ?_
  refine RT.iconst (pc := 15) (n := (-1)) dX7_init_15 ⟨by decide, by decide⟩ ?_
  obtain ⟨w16q3, hw16q3, h⟩ := Option.bind_eq_some_iff.mp h
  have gw16q3 := rt_lk_s hw16q3
  obtain ⟨m16q3, hm16q3, h⟩ := Option.bind_eq_some_iff.mp h
  refine RT.iast (pc := 16) (x := ((k0 : Nat) : Int)) (i := 1) (v := (-1)) (mem1 := m16q3) dX7_init_16 gw16q3 hm16q3 ?_
  refine RT.dup (pc := 17) dX7_init_17 (show ¬ ((2 : Nat) = 1) by decide) ?_
  refine RT.iconst (pc := 18) (n := 2) dX7_init_18 ⟨by decide, by decide⟩ ?_
  refine RT.iconst (pc := 19) (n := (-1)) dX7_init_19 ⟨by decide, by decide⟩ ?_
  obtain ⟨w20q5, hw20q5, h⟩ := Option.bind_eq_some_iff.mp h
  have gw20q5 := rt_lk_s hw20q5
  obtain ⟨m20q5, hm20q5, h⟩ := Option.bind_eq_some_iff.mp h
  refine RT.iast (pc := 20) (x := ((k0 : Nat) : Int)) (i := 2) (v := (-1)) (mem1 := m20q5) dX7_init_20 gw20q5 hm20q5 ?_
  refine RT.dup (pc := 21) dX7_init_21 (show ¬ ((2 : Nat) = 1) by decide) ?_
  refine RT.iconst (pc := 22) (n := 3) dX7_init_22 ⟨by decide, by decide⟩ ?_
  refine RT.iconst (pc := 23) (n := (-1)) dX7_init_23 ⟨by decide, by decide⟩ ?_
  obtain ⟨w24q7, hw24q7, h⟩ := Option.bind_eq_some_iff.mp h
  have gw24q7 := rt_lk_s hw24q7
  obtain ⟨m24q7, hm24q7, h⟩ := Option.bind_eq_some_iff.mp h
  refine RT.iast (pc := 24) (x := ((k0 : Nat) : Int)) (i := 3) (v := (-1)) (mem1 := m24q7) dX7_init_24 gw24q7 hm24q7 ?_
  refine RT.dup (pc := 25) dX7_init_25 (show ¬ ((2 : Nat) = 1) by decide) ?_
  refine RT.iconst (pc := 26) (n := 4) dX7_init_26 ⟨by decide, by decide⟩ ?_
  refine RT.iconst (pc := 27) (n := (-1)) dX7_init_27 ⟨by decide, by decide⟩ ?_
  obtain ⟨w28q9, hw28q9, h⟩ := Option.bind_eq_some_iff.mp h
  have gw28q9 := rt_lk_s hw28q9
  obtain ⟨m28q9, hm28q9, h⟩ := Option.bind_eq_some_iff.mp h
  refine RT.iast (pc := 28) (x := ((k0 : Nat) : Int)) (i := 4) (v := (-1)) (mem1 := m28q9) dX7_init_28 gw28q9 hm28q9 ?_
  refine RT.dup (pc := 29) dX7_init_29 (show ¬ ((2 : Nat) = 1) by decide) ?_
  refine RT.iconst (pc := 30) (n := 5) dX7_init_30 ⟨by decide, by decide⟩ ?_
  refine RT.iconst (pc := 31) (n := (-1)) dX7_init_31 ⟨by decide, by decide⟩ ?_
  obtain ⟨w32q11, hw32q11, h⟩ := Option.bind_eq_some_iff.mp h
  have gw32q11 := rt_lk_s hw32q11
  obtain ⟨m32q11, hm32q11, h⟩ := Option.bind_eq_some_iff.mp h
  refine RT.iast (pc := 32) (x := ((k0 : Nat) : Int)) (i := 5) (v := (-1)) (mem1 := m32q11) dX7_init_32 gw32q11 hm32q11 ?_
  obtain ⟨m33q13, hm33q13, h⟩ := Option.bind_eq_some_iff.mp h
  refine RT.putfF 7 1 (pc := 33) (t := 2) (mem1 := m33q13) dX7_init_33 gl_X7_9 rfl rfl rfl hl_X7_9 rfl (nar_X7_1 _) (fit_X7_1 _) (show a0.toNat < p7q0.1 by omega) hm33q13 ?_
  refine RT.aload_n (pc := 36) (k := 0) (x := a0) dX7_init_36 rfl ?_
  refine RT.bipush (pc := 37) (n := 6) dX7_init_37 ⟨by decide, by decide⟩ rfl ?_
  obtain ⟨p39q14, hp39q14, h⟩ := Option.bind_eq_some_iff.mp h
  refine RT.na 1 (pc := 39) (n := 6) dX7_init_39 rfl ac_1 (by decide) hp39q14 ?_
  have lp39q14 := rt_na_lt hp39q14
  obtain ⟨m41q15, hm41q15, h⟩ := Option.bind_eq_some_iff.mp h
  refine RT.putfF 7 2 (pc := 41) (t := 2) (mem1 := m41q15) dX7_init_41 gl_X7_15 rfl rfl rfl hl_X7_15 rfl (nar_X7_2 _) (fit_X7_2 _) (show a0.toNat < p39q14.1 by omega) hm41q15 ?_
  obtain ⟨e, y, x⟩ := rt_ge_s h
  subst e
  exact RT.vret (pc := 44) dX7_init_44 rfl y x hK
set_option maxHeartbeats 4000000 in
theorem c_X10_init {G : rt_G} {d k0 : Nat} (hd : 1 ≤ d) (a0 : Int) (mem0 : rt_M) (t : Nat × rt_M) (ht : rt_kd a0.toNat = 20 + 10) (hlt : a0.toNat < k0) (h : f_X10_init k0 a0 mem0 = some t) : RK G M_X10_init d [(2, a0)] k0 mem0 t := by
  suffices H : ∀ Q : rt_P, Q none (t.1, 0) t.2 → RT G M_X10_init d (k0, 0) Q 0 [(2, a0)] [] (k0, 0) mem0 from H _ ⟨rfl, rfl, rfl⟩
  intro Q hK
  unfold f_X10_init at h
  refine RT.aload_n (pc := 0) (k := 0) (x := a0) dX10_init_0 rfl ?_
  refine RT.objI (pc := 1) (x := a0) dX10_init_1 ol_X10_3 oi_inst oi_code (rt_kd_ge (by omega)) (by omega) (by decide) ?_
  refine RT.aload_n (pc := 4) (k := 0) (x := a0) dX10_init_4 rfl ?_
  refine RT.bipush (pc := 5) (n := 40) dX10_init_5 ⟨by decide, by decide⟩ rfl ?_
  obtain ⟨p7q0, hp7q0, h⟩ := Option.bind_eq_some_iff.mp h
  refine RT.nr 5 (C := "WigOffice$Word") (pc := 7) (n := 40) dX10_init_7 rfl co_X10_9 ao_5 (by decide) hp7q0 ?_
  have lp7q0 := rt_na_lt hp7q0
  obtain ⟨m10q1, hm10q1, h⟩ := Option.bind_eq_some_iff.mp h
  refine RT.putfF 10 1 (pc := 10) (t := 2) (mem1 := m10q1) dX10_init_10 gl_X10_11 rfl rfl rfl hl_X10_11 rfl (nar_X10_1 _) (fit_X10_1 _) (show a0.toNat < p7q0.1 by omega) hm10q1 ?_
  refine RT.aload_n (pc := 13) (k := 0) (x := a0) dX10_init_13 rfl ?_
  refine RT.bipush (pc := 14) (n := 40) dX10_init_14 ⟨by decide, by decide⟩ rfl ?_
  obtain ⟨p16q2, hp16q2, h⟩ := Option.bind_eq_some_iff.mp h
  refine RT.na 1 (pc := 16) (n := 40) dX10_init_16 rfl ac_1 (by decide) hp16q2 ?_
  have lp16q2 := rt_na_lt hp16q2
  obtain ⟨m18q3, hm18q3, h⟩ := Option.bind_eq_some_iff.mp h
  refine RT.putfF 10 2 (pc := 18) (t := 2) (mem1 := m18q3) dX10_init_18 gl_X10_17 rfl rfl rfl hl_X10_17 rfl (nar_X10_2 _) (fit_X10_2 _) (show a0.toNat < p16q2.1 by omega) hm18q3 ?_
  refine RT.aload_n (pc := 21) (k := 0) (x := a0) dX10_init_21 rfl ?_
  refine RT.bipush (pc := 22) (n := 40) dX10_init_22 ⟨by decide, by decide⟩ rfl ?_
  obtain ⟨p24q4, hp24q4, h⟩ := Option.bind_eq_some_iff.mp h
  refine RT.na 1 (pc := 24) (n := 40) dX10_init_24 rfl ac_1 (by decide) hp24q4 ?_
  have lp24q4 := rt_na_lt hp24q4
  obtain ⟨m26q5, hm26q5, h⟩ := Option.bind_eq_some_iff.mp h
  refine RT.putfF 10 3 (pc := 26) (t := 2) (mem1 := m26q5) dX10_init_26 gl_X10_21 rfl rfl rfl hl_X10_21 rfl (nar_X10_3 _) (fit_X10_3 _) (show a0.toNat < p24q4.1 by omega) hm26q5 ?_
  obtain ⟨e, y, x⟩ := rt_ge_s h
  subst e
  exact RT.vret (pc := 29) dX10_init_29 rfl y x hK
set_option maxHeartbeats 4000000 in
theorem c_X6_init {G : rt_G} {d k0 : Nat} (hd : 1 ≤ d) (a0 : Int) (mem0 : rt_M) (t : Nat × rt_M) (ht : rt_kd a0.toNat = 20 + 6) (hlt : a0.toNat < k0) (h : f_X6_init k0 a0 mem0 = some t) : RK G M_X6_init d [(2, a0)] k0 mem0 t := by
  suffices H : ∀ Q : rt_P, Q none (t.1, 0) t.2 → RT G M_X6_init d (k0, 0) Q 0 [(2, a0)] [] (k0, 0) mem0 from H _ ⟨rfl, rfl, rfl⟩
  intro Q hK
  unfold f_X6_init at h
  refine RT.aload_n (pc := 0) (k := 0) (x := a0) dX6_init_0 rfl ?_
  refine RT.objI (pc := 1) (x := a0) dX6_init_1 ol_X6_3 oi_inst oi_code (rt_kd_ge (by omega)) (by omega) (by decide) ?_
  refine RT.aload_n (pc := 4) (k := 0) (x := a0) dX6_init_4 rfl ?_
  refine RT.bipush (pc := 5) (n := 8) dX6_init_5 ⟨by decide, by decide⟩ rfl ?_
  obtain ⟨p7q0, hp7q0, h⟩ := Option.bind_eq_some_iff.mp h
  refine RT.na 1 (pc := 7) (n := 8) dX6_init_7 rfl ac_1 (by decide) hp7q0 ?_
  have lp7q0 := rt_na_lt hp7q0
  obtain ⟨m9q1, hm9q1, h⟩ := Option.bind_eq_some_iff.mp h
  refine RT.putfF 6 1 (pc := 9) (t := 2) (mem1 := m9q1) dX6_init_9 gl_X6_9 rfl rfl rfl hl_X6_9 rfl (nar_X6_1 _) (fit_X6_1 _) (show a0.toNat < p7q0.1 by omega) hm9q1 ?_
  refine RT.aload_n (pc := 12) (k := 0) (x := a0) dX6_init_12 rfl ?_
  refine RT.bipush (pc := 13) (n := 8) dX6_init_13 ⟨by decide, by decide⟩ rfl ?_
  obtain ⟨p15q2, hp15q2, h⟩ := Option.bind_eq_some_iff.mp h
  refine RT.na 1 (pc := 15) (n := 8) dX6_init_15 rfl ac_1 (by decide) hp15q2 ?_
  have lp15q2 := rt_na_lt hp15q2
  obtain ⟨m17q3, hm17q3, h⟩ := Option.bind_eq_some_iff.mp h
  refine RT.putfF 6 2 (pc := 17) (t := 2) (mem1 := m17q3) dX6_init_17 gl_X6_15 rfl rfl rfl hl_X6_15 rfl (nar_X6_2 _) (fit_X6_2 _) (show a0.toNat < p15q2.1 by omega) hm17q3 ?_
  refine RT.aload_n (pc := 20) (k := 0) (x := a0) dX6_init_20 rfl ?_
  refine RT.bipush (pc := 21) (n := 8) dX6_init_21 ⟨by decide, by decide⟩ rfl ?_
  obtain ⟨p23q4, hp23q4, h⟩ := Option.bind_eq_some_iff.mp h
  refine RT.na 3 (pc := 23) (n := 8) dX6_init_23 rfl ac_3 (by decide) hp23q4 ?_
  have lp23q4 := rt_na_lt hp23q4
  obtain ⟨m25q5, hm25q5, h⟩ := Option.bind_eq_some_iff.mp h
  refine RT.putfF 6 3 (pc := 25) (t := 2) (mem1 := m25q5) dX6_init_25 gl_X6_18 rfl rfl rfl hl_X6_18 rfl (nar_X6_3 _) (fit_X6_3 _) (show a0.toNat < p23q4.1 by omega) hm25q5 ?_
  obtain ⟨e, y, x⟩ := rt_ge_s h
  subst e
  exact RT.vret (pc := 28) dX6_init_28 rfl y x hK
set_option maxHeartbeats 4000000 in
theorem c_X0_init {G : rt_G} {d k0 : Nat} (hd : 3 ≤ d) (a0 : Int) (mem0 : rt_M) (t : Nat × rt_M) (ht : rt_kd a0.toNat = 20 + 0) (hlt : a0.toNat < k0) (h : f_X0_init k0 a0 mem0 = some t) : RK G M_X0_init d [(2, a0)] k0 mem0 t := by
  suffices H : ∀ Q : rt_P, Q none (t.1, 0) t.2 → RT G M_X0_init d (k0, 0) Q 0 [(2, a0)] [] (k0, 0) mem0 from H _ ⟨rfl, rfl, rfl⟩
  intro Q hK
  unfold f_X0_init at h
  refine RT.aload_n (pc := 0) (k := 0) (x := a0) dX0_init_0 rfl ?_
  refine RT.objI (pc := 1) (x := a0) dX0_init_1 ol_X0_3 oi_inst oi_code (rt_kd_ge (by omega)) (by omega) (by decide) ?_
  refine RT.aload_n (pc := 4) (k := 0) (x := a0) dX0_init_4 rfl ?_
  obtain ⟨p5q0, hp5q0, h⟩ := Option.bind_eq_some_iff.mp h
  refine RT.no 7 (pc := 5) dX0_init_5 co_X0_9 ib_X7 it_X7 cl_X7 ff_X7 hp5q0 ?_
  have lp5q0 := rt_no_lt hp5q0
  refine RT.dup (pc := 8) dX0_init_8 (show ¬ ((2 : Nat) = 1) by decide) ?_
  obtain ⟨u9q1, hu9q1, h⟩ := Option.bind_eq_some_iff.mp h
  obtain ⟨p9q1, hp9q1, h⟩ := Option.bind_eq_some_iff.mp h
  refine RT.ci (pc := 9) (M' := M_X7_init) (x := ((k0 : Nat) : Int)) (As := []) (st := [(2, ((k0 : Nat) : Int)), (2, a0)]) (d' := d - 1) (p' := u9q1) dX0_init_9 nw_X7_init ni_X0_11 nj_X7_init rfl rfl (rt_kd_ge (by have := (rt_no_kd hp5q0); omega)) rfl rfl (Nat.le_of_ble_eq_true rfl) (Nat.le_of_ble_eq_true rfl) (by omega) hp9q1 (c_X7_init (by omega) (((k0 : Nat) : Int)) p5q0.2 _ (rt_no_kd hp5q0) (by omega) hu9q1) ?_
  have lp9q1 := rt_gc_le hp9q1
  obtain ⟨m12q3, hm12q3, h⟩ := Option.bind_eq_some_iff.mp h
  refine RT.putfF 0 0 (pc := 12) (t := 2) (mem1 := m12q3) dX0_init_12 gl_X0_12 rfl rfl rfl hl_X0_12 rfl (nar_X0_0 _) (fit_X0_0 _) (show a0.toNat < p9q1.1 by omega) hm12q3 ?_
  refine RT.aload_n (pc := 15) (k := 0) (x := a0) dX0_init_15 rfl ?_
  obtain ⟨p16q4, hp16q4, h⟩ := Option.bind_eq_some_iff.mp h
  refine RT.no 10 (pc := 16) dX0_init_16 co_X0_18 ib_X10 it_X10 cl_X10 ff_X10 hp16q4 ?_
  have lp16q4 := rt_no_lt hp16q4
  refine RT.dup (pc := 19) dX0_init_19 (show ¬ ((2 : Nat) = 1) by decide) ?_
  obtain ⟨u20q5, hu20q5, h⟩ := Option.bind_eq_some_iff.mp h
  obtain ⟨p20q5, hp20q5, h⟩ := Option.bind_eq_some_iff.mp h
  refine RT.ci (pc := 20) (M' := M_X10_init) (x := ((p9q1.1 : Nat) : Int)) (As := []) (st := [(2, ((p9q1.1 : Nat) : Int)), (2, a0)]) (d' := d - 1) (p' := u20q5) dX0_init_20 nw_X10_init ni_X0_20 nj_X10_init rfl rfl (rt_kd_ge (by have := (rt_no_kd hp16q4); omega)) rfl rfl (Nat.le_of_ble_eq_true rfl) (Nat.le_of_ble_eq_true rfl) (by omega) hp20q5 (c_X10_init (by omega) (((p9q1.1 : Nat) : Int)) p16q4.2 _ (rt_no_kd hp16q4) (by omega) hu20q5) ?_
  have lp20q5 := rt_gc_le hp20q5
  obtain ⟨m23q7, hm23q7, h⟩ := Option.bind_eq_some_iff.mp h
  refine RT.putfF 0 1 (pc := 23) (t := 2) (mem1 := m23q7) dX0_init_23 gl_X0_21 rfl rfl rfl hl_X0_21 rfl (nar_X0_1 _) (fit_X0_1 _) (show a0.toNat < p20q5.1 by omega) hm23q7 ?_
  refine RT.aload_n (pc := 26) (k := 0) (x := a0) dX0_init_26 rfl ?_
  obtain ⟨p27q8, hp27q8, h⟩ := Option.bind_eq_some_iff.mp h
  refine RT.no 6 (pc := 27) dX0_init_27 co_X0_25 ib_X6 it_X6 cl_X6 ff_X6 hp27q8 ?_
  have lp27q8 := rt_no_lt hp27q8
  refine RT.dup (pc := 30) dX0_init_30 (show ¬ ((2 : Nat) = 1) by decide) ?_
  obtain ⟨u31q9, hu31q9, h⟩ := Option.bind_eq_some_iff.mp h
  obtain ⟨p31q9, hp31q9, h⟩ := Option.bind_eq_some_iff.mp h
  refine RT.ci (pc := 31) (M' := M_X6_init) (x := ((p20q5.1 : Nat) : Int)) (As := []) (st := [(2, ((p20q5.1 : Nat) : Int)), (2, a0)]) (d' := d - 1) (p' := u31q9) dX0_init_31 nw_X6_init ni_X0_27 nj_X6_init rfl rfl (rt_kd_ge (by have := (rt_no_kd hp27q8); omega)) rfl rfl (Nat.le_of_ble_eq_true rfl) (Nat.le_of_ble_eq_true rfl) (by omega) hp31q9 (c_X6_init (by omega) (((p20q5.1 : Nat) : Int)) p27q8.2 _ (rt_no_kd hp27q8) (by omega) hu31q9) ?_
  have lp31q9 := rt_gc_le hp31q9
  obtain ⟨m34q11, hm34q11, h⟩ := Option.bind_eq_some_iff.mp h
  refine RT.putfF 0 2 (pc := 34) (t := 2) (mem1 := m34q11) dX0_init_34 gl_X0_28 rfl rfl rfl hl_X0_28 rfl (nar_X0_2 _) (fit_X0_2 _) (show a0.toNat < p31q9.1 by omega) hm34q11 ?_
  refine RT.aload_n (pc := 37) (k := 0) (x := a0) dX0_init_37 rfl ?_
  refine RT.bipush (pc := 38) (n := 6) dX0_init_38 ⟨by decide, by decide⟩ rfl ?_
  obtain ⟨p40q12, hp40q12, h⟩ := Option.bind_eq_some_iff.mp h
  refine RT.na 1 (pc := 40) (n := 6) dX0_init_40 rfl ac_1 (by decide) hp40q12 ?_
  have lp40q12 := rt_na_lt hp40q12
  refine RT.dup (pc := 42) dX0_init_42 (show ¬ ((2 : Nat) = 1) by decide) ?_
  refine RT.iconst (pc := 43) (n := 0) dX0_init_43 ⟨by decide, by decide⟩ ?_
  refine RT.iconst (pc := 44) (n := (-1)) dX0_init_44 ⟨by decide, by decide⟩ ?_
  obtain ⟨w45q13, hw45q13, h⟩ := Option.bind_eq_some_iff.mp h
  have gw45q13 := rt_lk_s hw45q13
  obtain ⟨m45q13, hm45q13, h⟩ := Option.bind_eq_some_iff.mp h
  refine RT.iast (pc := 45) (x := ((p31q9.1 : Nat) : Int)) (i := 0) (v := (-1)) (mem1 := m45q13) dX0_init_45 gw45q13 hm45q13 ?_
  refine RT.dup (pc := 46) dX0_init_46 (show ¬ ((2 : Nat) = 1) by decide) ?_
  refine RT.iconst (pc := 47) (n := 1) dX0_init_47 ⟨by decide, by decide⟩ ?_
  refine RT.iconst (pc := 48) (n := (-1)) dX0_init_48 ⟨by decide, by decide⟩ ?_
  obtain ⟨w49q15, hw49q15, h⟩ := Option.bind_eq_some_iff.mp h
  have gw49q15 := rt_lk_s hw49q15
  obtain ⟨m49q15, hm49q15, h⟩ := Option.bind_eq_some_iff.mp h
  refine RT.iast (pc := 49) (x := ((p31q9.1 : Nat) : Int)) (i := 1) (v := (-1)) (mem1 := m49q15) dX0_init_49 gw49q15 hm49q15 ?_
  refine RT.dup (pc := 50) dX0_init_50 (show ¬ ((2 : Nat) = 1) by decide) ?_
  refine RT.iconst (pc := 51) (n := 2) dX0_init_51 ⟨by decide, by decide⟩ ?_
  refine RT.iconst (pc := 52) (n := (-1)) dX0_init_52 ⟨by decide, by decide⟩ ?_
  obtain ⟨w53q17, hw53q17, h⟩ := Option.bind_eq_some_iff.mp h
  have gw53q17 := rt_lk_s hw53q17
  obtain ⟨m53q17, hm53q17, h⟩ := Option.bind_eq_some_iff.mp h
  refine RT.iast (pc := 53) (x := ((p31q9.1 : Nat) : Int)) (i := 2) (v := (-1)) (mem1 := m53q17) dX0_init_53 gw53q17 hm53q17 ?_
  refine RT.dup (pc := 54) dX0_init_54 (show ¬ ((2 : Nat) = 1) by decide) ?_
  refine RT.iconst (pc := 55) (n := 3) dX0_init_55 ⟨by decide, by decide⟩ ?_
  refine RT.iconst (pc := 56) (n := (-1)) dX0_init_56 ⟨by decide, by decide⟩ ?_
  obtain ⟨w57q19, hw57q19, h⟩ := Option.bind_eq_some_iff.mp h
  have gw57q19 := rt_lk_s hw57q19
  obtain ⟨m57q19, hm57q19, h⟩ := Option.bind_eq_some_iff.mp h
  refine RT.iast (pc := 57) (x := ((p31q9.1 : Nat) : Int)) (i := 3) (v := (-1)) (mem1 := m57q19) dX0_init_57 gw57q19 hm57q19 ?_
  refine RT.dup (pc := 58) dX0_init_58 (show ¬ ((2 : Nat) = 1) by decide) ?_
  refine RT.iconst (pc := 59) (n := 4) dX0_init_59 ⟨by decide, by decide⟩ ?_
  refine RT.iconst (pc := 60) (n := (-1)) dX0_init_60 ⟨by decide, by decide⟩ ?_
  obtain ⟨w61q21, hw61q21, h⟩ := Option.bind_eq_some_iff.mp h
  have gw61q21 := rt_lk_s hw61q21
  obtain ⟨m61q21, hm61q21, h⟩ := Option.bind_eq_some_iff.mp h
  refine RT.iast (pc := 61) (x := ((p31q9.1 : Nat) : Int)) (i := 4) (v := (-1)) (mem1 := m61q21) dX0_init_61 gw61q21 hm61q21 ?_
  refine RT.dup (pc := 62) dX0_init_62 (show ¬ ((2 : Nat) = 1) by decide) ?_
  refine RT.iconst (pc := 63) (n := 5) dX0_init_63 ⟨by decide, by decide⟩ ?_
  refine RT.iconst (pc := 64) (n := (-1)) dX0_init_64 ⟨by decide, by decide⟩ ?_
  obtain ⟨w65q23, hw65q23, h⟩ := Option.bind_eq_some_iff.mp h
  have gw65q23 := rt_lk_s hw65q23
  obtain ⟨m65q23, hm65q23, h⟩ := Option.bind_eq_some_iff.mp h
  refine RT.iast (pc := 65) (x := ((p31q9.1 : Nat) : Int)) (i := 5) (v := (-1)) (mem1 := m65q23) dX0_init_65 gw65q23 hm65q23 ?_
  obtain ⟨m66q25, hm66q25, h⟩ := Option.bind_eq_some_iff.mp h
  refine RT.putfF 0 3 (pc := 66) (t := 2) (mem1 := m66q25) dX0_init_66 gl_X0_32 rfl rfl rfl hl_X0_32 rfl (nar_X0_3 _) (fit_X0_3 _) (show a0.toNat < p40q12.1 by omega) hm66q25 ?_
  obtain ⟨e, y, x⟩ := rt_ge_s h
  subst e
  exact RT.vret (pc := 69) dX0_init_69 rfl y x hK
set_option maxHeartbeats 4000000 in
theorem c_X2_init {G : rt_G} {d k0 : Nat} (hd : 1 ≤ d) (a0 : Int) (a1 : Int) (a2 : Int) (a3 : Int) (mem0 : rt_M) (t : Nat × rt_M) (ht : rt_kd a0.toNat = 20 + 2) (hlt : a0.toNat < k0) (h : f_X2_init k0 a0 a1 a2 a3 mem0 = some t) : RK G M_X2_init d [(2, a0), (2, a1), (2, a2), (2, a3)] k0 mem0 t := by
  suffices H : ∀ Q : rt_P, Q none (t.1, 0) t.2 → RT G M_X2_init d (k0, 0) Q 0 [(2, a0), (2, a1), (2, a2), (2, a3)] [] (k0, 0) mem0 from H _ ⟨rfl, rfl, rfl⟩
  intro Q hK
  unfold f_X2_init at h
  refine RT.aload_n (pc := 0) (k := 0) (x := a0) dX2_init_0 rfl ?_
  refine RT.objI (pc := 1) (x := a0) dX2_init_1 ol_X2_3 oi_inst oi_code (rt_kd_ge (by omega)) (by omega) (by decide) ?_
  refine RT.aload_n (pc := 4) (k := 0) (x := a0) dX2_init_4 rfl ?_
  refine RT.sipush (pc := 5) (n := 1000) dX2_init_5 ⟨by decide, by decide⟩ rfl ?_
  obtain ⟨p8q0, hp8q0, h⟩ := Option.bind_eq_some_iff.mp h
  refine RT.na 1 (pc := 8) (n := 1000) dX2_init_8 rfl ac_1 (by decide) hp8q0 ?_
  have lp8q0 := rt_na_lt hp8q0
  obtain ⟨m10q1, hm10q1, h⟩ := Option.bind_eq_some_iff.mp h
  refine RT.putfF 2 3 (pc := 10) (t := 2) (mem1 := m10q1) dX2_init_10 gl_X2_9 rfl rfl rfl hl_X2_9 rfl (nar_X2_3 _) (fit_X2_3 _) (show a0.toNat < p8q0.1 by omega) hm10q1 ?_
  refine RT.aload_n (pc := 13) (k := 0) (x := a0) dX2_init_13 rfl ?_
  refine RT.bipush (pc := 14) (n := 24) dX2_init_14 ⟨by decide, by decide⟩ rfl ?_
  obtain ⟨p16q2, hp16q2, h⟩ := Option.bind_eq_some_iff.mp h
  refine RT.na 1 (pc := 16) (n := 24) dX2_init_16 rfl ac_1 (by decide) hp16q2 ?_
  have lp16q2 := rt_na_lt hp16q2
  obtain ⟨m18q3, hm18q3, h⟩ := Option.bind_eq_some_iff.mp h
  refine RT.putfF 2 4 (pc := 18) (t := 2) (mem1 := m18q3) dX2_init_18 gl_X2_15 rfl rfl rfl hl_X2_15 rfl (nar_X2_4 _) (fit_X2_4 _) (show a0.toNat < p16q2.1 by omega) hm18q3 ?_
  refine RT.aload_n (pc := 21) (k := 0) (x := a0) dX2_init_21 rfl ?_
  refine RT.aload_n (pc := 22) (k := 1) (x := a1) dX2_init_22 rfl ?_
  obtain ⟨m23q4, hm23q4, h⟩ := Option.bind_eq_some_iff.mp h
  refine RT.putfF 2 0 (pc := 23) (t := 2) (mem1 := m23q4) dX2_init_23 gl_X2_18 rfl rfl rfl hl_X2_18 rfl (nar_X2_0 _) (fit_X2_0 _) (show a0.toNat < p16q2.1 by omega) hm23q4 ?_
  refine RT.aload_n (pc := 26) (k := 0) (x := a0) dX2_init_26 rfl ?_
  refine RT.aload_n (pc := 27) (k := 2) (x := a2) dX2_init_27 rfl ?_
  obtain ⟨m28q5, hm28q5, h⟩ := Option.bind_eq_some_iff.mp h
  refine RT.putfF 2 1 (pc := 28) (t := 2) (mem1 := m28q5) dX2_init_28 gl_X2_22 rfl rfl rfl hl_X2_22 rfl (nar_X2_1 _) (fit_X2_1 _) (show a0.toNat < p16q2.1 by omega) hm28q5 ?_
  refine RT.aload_n (pc := 31) (k := 0) (x := a0) dX2_init_31 rfl ?_
  refine RT.aload_n (pc := 32) (k := 3) (x := a3) dX2_init_32 rfl ?_
  obtain ⟨m33q6, hm33q6, h⟩ := Option.bind_eq_some_iff.mp h
  refine RT.putfF 2 2 (pc := 33) (t := 2) (mem1 := m33q6) dX2_init_33 gl_X2_25 rfl rfl rfl hl_X2_25 rfl (nar_X2_2 _) (fit_X2_2 _) (show a0.toNat < p16q2.1 by omega) hm33q6 ?_
  obtain ⟨e, y, x⟩ := rt_ge_s h
  subst e
  exact RT.vret (pc := 36) dX2_init_36 rfl y x hK
set_option maxHeartbeats 4000000 in
theorem c_X4_init {G : rt_G} {d k0 : Nat} (hd : 3 ≤ d) (a0 : Int) (mem0 : rt_M) (t : Nat × rt_M) (ht : rt_kd a0.toNat = 20 + 4) (hlt : a0.toNat < k0) (h : f_X4_init k0 a0 mem0 = some t) : RK G M_X4_init d [(2, a0)] k0 mem0 t := by
  suffices H : ∀ Q : rt_P, Q none (t.1, 0) t.2 → RT G M_X4_init d (k0, 0) Q 0 [(2, a0)] [] (k0, 0) mem0 from H _ ⟨rfl, rfl, rfl⟩
  intro Q hK
  unfold f_X4_init at h
  refine RT.aload_n (pc := 0) (k := 0) (x := a0) dX4_init_0 rfl ?_
  refine RT.objI (pc := 1) (x := a0) dX4_init_1 ol_X4_3 oi_inst oi_code (rt_kd_ge (by omega)) (by omega) (by decide) ?_
  refine RT.aload_n (pc := 4) (k := 0) (x := a0) dX4_init_4 rfl ?_
  refine RT.bipush (pc := 5) (n := 6) dX4_init_5 ⟨by decide, by decide⟩ rfl ?_
  obtain ⟨p7q0, hp7q0, h⟩ := Option.bind_eq_some_iff.mp h
  refine RT.na 2 (pc := 7) (n := 6) dX4_init_7 rfl ac_2 (by decide) hp7q0 ?_
  have lp7q0 := rt_na_lt hp7q0
  obtain ⟨m9q1, hm9q1, h⟩ := Option.bind_eq_some_iff.mp h
  refine RT.putfF 4 2 (pc := 9) (t := 2) (mem1 := m9q1) dX4_init_9 gl_X4_9 rfl rfl rfl hl_X4_9 rfl (nar_X4_2 _) (fit_X4_2 _) (show a0.toNat < p7q0.1 by omega) hm9q1 ?_
  refine RT.aload_n (pc := 12) (k := 0) (x := a0) dX4_init_12 rfl ?_
  refine RT.bipush (pc := 13) (n := 6) dX4_init_13 ⟨by decide, by decide⟩ rfl ?_
  obtain ⟨p15q2, hp15q2, h⟩ := Option.bind_eq_some_iff.mp h
  refine RT.na 2 (pc := 15) (n := 6) dX4_init_15 rfl ac_2 (by decide) hp15q2 ?_
  have lp15q2 := rt_na_lt hp15q2
  obtain ⟨m17q3, hm17q3, h⟩ := Option.bind_eq_some_iff.mp h
  refine RT.putfF 4 3 (pc := 17) (t := 2) (mem1 := m17q3) dX4_init_17 gl_X4_15 rfl rfl rfl hl_X4_15 rfl (nar_X4_3 _) (fit_X4_3 _) (show a0.toNat < p15q2.1 by omega) hm17q3 ?_
  refine RT.aload_n (pc := 20) (k := 0) (x := a0) dX4_init_20 rfl ?_
  refine RT.bipush (pc := 21) (n := 6) dX4_init_21 ⟨by decide, by decide⟩ rfl ?_
  refine RT.iconst (pc := 23) (n := 3) dX4_init_23 ⟨by decide, by decide⟩ ?_
  obtain ⟨p24q4, hp24q4, h⟩ := Option.bind_eq_some_iff.mp h
  refine RT.nm (pc := 24) (n := 6) (r := 3) dX4_init_24 co_X4_18 ao_i ac_1 hp24q4 ?_
  have lp24q4 := rt_nm_lt hp24q4
  obtain ⟨m28q5, hm28q5, h⟩ := Option.bind_eq_some_iff.mp h
  refine RT.putfF 4 4 (pc := 28) (t := 2) (mem1 := m28q5) dX4_init_28 gl_X4_20 rfl rfl rfl hl_X4_20 rfl (nar_X4_4 _) (fit_X4_4 _) (show a0.toNat < p24q4.1 by omega) hm28q5 ?_
  refine RT.aload_n (pc := 31) (k := 0) (x := a0) dX4_init_31 rfl ?_
  refine RT.bipush (pc := 32) (n := 6) dX4_init_32 ⟨by decide, by decide⟩ rfl ?_
  refine RT.iconst (pc := 34) (n := 4) dX4_init_34 ⟨by decide, by decide⟩ ?_
  obtain ⟨p35q6, hp35q6, h⟩ := Option.bind_eq_some_iff.mp h
  refine RT.nm (pc := 35) (n := 6) (r := 4) dX4_init_35 co_X4_18 ao_i ac_1 hp35q6 ?_
  have lp35q6 := rt_nm_lt hp35q6
  obtain ⟨m39q7, hm39q7, h⟩ := Option.bind_eq_some_iff.mp h
  refine RT.putfF 4 5 (pc := 39) (t := 2) (mem1 := m39q7) dX4_init_39 gl_X4_23 rfl rfl rfl hl_X4_23 rfl (nar_X4_5 _) (fit_X4_5 _) (show a0.toNat < p35q6.1 by omega) hm39q7 ?_
  refine RT.aload_n (pc := 42) (k := 0) (x := a0) dX4_init_42 rfl ?_
  refine RT.bipush (pc := 43) (n := 12) dX4_init_43 ⟨by decide, by decide⟩ rfl ?_
  obtain ⟨p45q8, hp45q8, h⟩ := Option.bind_eq_some_iff.mp h
  refine RT.na 1 (pc := 45) (n := 12) dX4_init_45 rfl ac_1 (by decide) hp45q8 ?_
  have lp45q8 := rt_na_lt hp45q8
  obtain ⟨m47q9, hm47q9, h⟩ := Option.bind_eq_some_iff.mp h
  refine RT.putfF 4 6 (pc := 47) (t := 2) (mem1 := m47q9) dX4_init_47 gl_X4_26 rfl rfl rfl hl_X4_26 rfl (nar_X4_6 _) (fit_X4_6 _) (show a0.toNat < p45q8.1 by omega) hm47q9 ?_
  refine RT.aload_n (pc := 50) (k := 0) (x := a0) dX4_init_50 rfl ?_
  refine RT.iconst (pc := 51) (n := 1) dX4_init_51 ⟨by decide, by decide⟩ ?_
  obtain ⟨m52q10, hm52q10, h⟩ := Option.bind_eq_some_iff.mp h
  refine RT.putf 4 8 (pc := 52) (t := 0) (mem1 := m52q10) dX4_init_52 gl_X4_30 rfl rfl (fun G => rfl) (fun G => rfl) (show a0.toNat < p45q8.1 by omega) hm52q10 ?_
  refine RT.aload_n (pc := 55) (k := 0) (x := a0) dX4_init_55 rfl ?_
  obtain ⟨p56q11, hp56q11, h⟩ := Option.bind_eq_some_iff.mp h
  refine RT.no 2 (pc := 56) dX4_init_56 co_X4_34 ib_X2 it_X2 cl_X2 ff_X2 hp56q11 ?_
  have lp56q11 := rt_no_lt hp56q11
  refine RT.dup (pc := 59) dX4_init_59 (show ¬ ((2 : Nat) = 1) by decide) ?_
  refine RT.gets 21 (pc := 60) (x := 21) dX4_init_60 gs_X4_36 rfl ?_
  refine RT.gets 22 (pc := 63) (x := 22) dX4_init_63 gs_X4_42 rfl ?_
  refine RT.gets 23 (pc := 66) (x := 23) dX4_init_66 gs_X4_45 rfl ?_
  obtain ⟨u69q12, hu69q12, h⟩ := Option.bind_eq_some_iff.mp h
  obtain ⟨p69q12, hp69q12, h⟩ := Option.bind_eq_some_iff.mp h
  refine RT.ci (pc := 69) (M' := M_X2_init) (x := ((p45q8.1 : Nat) : Int)) (As := [(2, 21), (2, 22), (2, 23)]) (st := [(2, ((p45q8.1 : Nat) : Int)), (2, a0)]) (d' := d - 1) (p' := u69q12) dX4_init_69 nw_X2_init ni_X4_48 nj_X2_init rfl rfl (rt_kd_ge (by have := (rt_no_kd hp56q11); omega)) rfl rfl (Nat.le_of_ble_eq_true rfl) (Nat.le_of_ble_eq_true rfl) (by omega) hp69q12 (c_X2_init (by omega) (((p45q8.1 : Nat) : Int)) 21 22 23 p56q11.2 _ (rt_no_kd hp56q11) (by omega) hu69q12) ?_
  have lp69q12 := rt_gc_le hp69q12
  obtain ⟨m72q14, hm72q14, h⟩ := Option.bind_eq_some_iff.mp h
  refine RT.putfF 4 10 (pc := 72) (t := 2) (mem1 := m72q14) dX4_init_72 gl_X4_51 rfl rfl rfl hl_X4_51 rfl (nar_X4_10 _) (fit_X4_10 _) (show a0.toNat < p69q12.1 by omega) hm72q14 ?_
  refine RT.aload_n (pc := 75) (k := 0) (x := a0) dX4_init_75 rfl ?_
  obtain ⟨p76q15, hp76q15, h⟩ := Option.bind_eq_some_iff.mp h
  refine RT.no 2 (pc := 76) dX4_init_76 co_X4_34 ib_X2 it_X2 cl_X2 ff_X2 hp76q15 ?_
  have lp76q15 := rt_no_lt hp76q15
  refine RT.dup (pc := 79) dX4_init_79 (show ¬ ((2 : Nat) = 1) by decide) ?_
  refine RT.gets 24 (pc := 80) (x := 24) dX4_init_80 gs_X4_55 rfl ?_
  refine RT.gets 25 (pc := 83) (x := 25) dX4_init_83 gs_X4_58 rfl ?_
  refine RT.gets 26 (pc := 86) (x := 26) dX4_init_86 gs_X4_61 rfl ?_
  obtain ⟨u89q16, hu89q16, h⟩ := Option.bind_eq_some_iff.mp h
  obtain ⟨p89q16, hp89q16, h⟩ := Option.bind_eq_some_iff.mp h
  refine RT.ci (pc := 89) (M' := M_X2_init) (x := ((p69q12.1 : Nat) : Int)) (As := [(2, 24), (2, 25), (2, 26)]) (st := [(2, ((p69q12.1 : Nat) : Int)), (2, a0)]) (d' := d - 1) (p' := u89q16) dX4_init_89 nw_X2_init ni_X4_48 nj_X2_init rfl rfl (rt_kd_ge (by have := (rt_no_kd hp76q15); omega)) rfl rfl (Nat.le_of_ble_eq_true rfl) (Nat.le_of_ble_eq_true rfl) (by omega) hp89q16 (c_X2_init (by omega) (((p69q12.1 : Nat) : Int)) 24 25 26 p76q15.2 _ (rt_no_kd hp76q15) (by omega) hu89q16) ?_
  have lp89q16 := rt_gc_le hp89q16
  obtain ⟨m92q18, hm92q18, h⟩ := Option.bind_eq_some_iff.mp h
  refine RT.putfF 4 11 (pc := 92) (t := 2) (mem1 := m92q18) dX4_init_92 gl_X4_64 rfl rfl rfl hl_X4_64 rfl (nar_X4_11 _) (fit_X4_11 _) (show a0.toNat < p89q16.1 by omega) hm92q18 ?_
  obtain ⟨e, y, x⟩ := rt_ge_s h
  subst e
  exact RT.vret (pc := 95) dX4_init_95 rfl y x hK
set_option maxHeartbeats 4000000 in
theorem c_X1_init {G : rt_G} {d k0 : Nat} (hd : 1 ≤ d) (a0 : Int) (mem0 : rt_M) (t : Nat × rt_M) (ht : rt_kd a0.toNat = 20 + 1) (hlt : a0.toNat < k0) (h : f_X1_init k0 a0 mem0 = some t) : RK G M_X1_init d [(2, a0)] k0 mem0 t := by
  suffices H : ∀ Q : rt_P, Q none (t.1, 0) t.2 → RT G M_X1_init d (k0, 0) Q 0 [(2, a0)] [] (k0, 0) mem0 from H _ ⟨rfl, rfl, rfl⟩
  intro Q hK
  unfold f_X1_init at h
  refine RT.aload_n (pc := 0) (k := 0) (x := a0) dX1_init_0 rfl ?_
  refine RT.objI (pc := 1) (x := a0) dX1_init_1 ol_X1_3 oi_inst oi_code (rt_kd_ge (by omega)) (by omega) (by decide) ?_
  refine RT.aload_n (pc := 4) (k := 0) (x := a0) dX1_init_4 rfl ?_
  refine RT.bipush (pc := 5) (n := 6) dX1_init_5 ⟨by decide, by decide⟩ rfl ?_
  refine RT.bipush (pc := 7) (n := 6) dX1_init_7 ⟨by decide, by decide⟩ rfl ?_
  obtain ⟨p9q0, hp9q0, h⟩ := Option.bind_eq_some_iff.mp h
  refine RT.nm (pc := 9) (n := 6) (r := 6) dX1_init_9 co_X1_9 ao_i ac_1 hp9q0 ?_
  have lp9q0 := rt_nm_lt hp9q0
  obtain ⟨m13q1, hm13q1, h⟩ := Option.bind_eq_some_iff.mp h
  refine RT.putfF 1 2 (pc := 13) (t := 2) (mem1 := m13q1) dX1_init_13 gl_X1_11 rfl rfl rfl hl_X1_11 rfl (nar_X1_2 _) (fit_X1_2 _) (show a0.toNat < p9q0.1 by omega) hm13q1 ?_
  refine RT.aload_n (pc := 16) (k := 0) (x := a0) dX1_init_16 rfl ?_
  refine RT.bipush (pc := 17) (n := 64) dX1_init_17 ⟨by decide, by decide⟩ rfl ?_
  obtain ⟨p19q2, hp19q2, h⟩ := Option.bind_eq_some_iff.mp h
  refine RT.na 1 (pc := 19) (n := 64) dX1_init_19 rfl ac_1 (by decide) hp19q2 ?_
  have lp19q2 := rt_na_lt hp19q2
  obtain ⟨m21q3, hm21q3, h⟩ := Option.bind_eq_some_iff.mp h
  refine RT.putfF 1 3 (pc := 21) (t := 2) (mem1 := m21q3) dX1_init_21 gl_X1_16 rfl rfl rfl hl_X1_16 rfl (nar_X1_3 _) (fit_X1_3 _) (show a0.toNat < p19q2.1 by omega) hm21q3 ?_
  refine RT.aload_n (pc := 24) (k := 0) (x := a0) dX1_init_24 rfl ?_
  refine RT.bipush (pc := 25) (n := 10) dX1_init_25 ⟨by decide, by decide⟩ rfl ?_
  obtain ⟨p27q4, hp27q4, h⟩ := Option.bind_eq_some_iff.mp h
  refine RT.na 1 (pc := 27) (n := 10) dX1_init_27 rfl ac_1 (by decide) hp27q4 ?_
  have lp27q4 := rt_na_lt hp27q4
  obtain ⟨m29q5, hm29q5, h⟩ := Option.bind_eq_some_iff.mp h
  refine RT.putfF 1 4 (pc := 29) (t := 2) (mem1 := m29q5) dX1_init_29 gl_X1_20 rfl rfl rfl hl_X1_20 rfl (nar_X1_4 _) (fit_X1_4 _) (show a0.toNat < p27q4.1 by omega) hm29q5 ?_
  refine RT.aload_n (pc := 32) (k := 0) (x := a0) dX1_init_32 rfl ?_
  refine RT.bipush (pc := 33) (n := 6) dX1_init_33 ⟨by decide, by decide⟩ rfl ?_
  obtain ⟨p35q6, hp35q6, h⟩ := Option.bind_eq_some_iff.mp h
  refine RT.na 1 (pc := 35) (n := 6) dX1_init_35 rfl ac_1 (by decide) hp35q6 ?_
  have lp35q6 := rt_na_lt hp35q6
  obtain ⟨m37q7, hm37q7, h⟩ := Option.bind_eq_some_iff.mp h
  refine RT.putfF 1 5 (pc := 37) (t := 2) (mem1 := m37q7) dX1_init_37 gl_X1_23 rfl rfl rfl hl_X1_23 rfl (nar_X1_5 _) (fit_X1_5 _) (show a0.toNat < p35q6.1 by omega) hm37q7 ?_
  refine RT.aload_n (pc := 40) (k := 0) (x := a0) dX1_init_40 rfl ?_
  refine RT.bipush (pc := 41) (n := 6) dX1_init_41 ⟨by decide, by decide⟩ rfl ?_
  obtain ⟨p43q8, hp43q8, h⟩ := Option.bind_eq_some_iff.mp h
  refine RT.na 1 (pc := 43) (n := 6) dX1_init_43 rfl ac_1 (by decide) hp43q8 ?_
  have lp43q8 := rt_na_lt hp43q8
  obtain ⟨m45q9, hm45q9, h⟩ := Option.bind_eq_some_iff.mp h
  refine RT.putfF 1 6 (pc := 45) (t := 2) (mem1 := m45q9) dX1_init_45 gl_X1_26 rfl rfl rfl hl_X1_26 rfl (nar_X1_6 _) (fit_X1_6 _) (show a0.toNat < p43q8.1 by omega) hm45q9 ?_
  obtain ⟨e, y, x⟩ := rt_ge_s h
  subst e
  exact RT.vret (pc := 48) dX1_init_48 rfl y x hK
set_option maxHeartbeats 4000000 in
theorem c_X5_init {G : rt_G} {d k0 : Nat} (hd : 1 ≤ d) (a0 : Int) (mem0 : rt_M) (t : Nat × rt_M) (ht : rt_kd a0.toNat = 20 + 5) (hlt : a0.toNat < k0) (h : f_X5_init k0 a0 mem0 = some t) : RK G M_X5_init d [(2, a0)] k0 mem0 t := by
  suffices H : ∀ Q : rt_P, Q none (t.1, 0) t.2 → RT G M_X5_init d (k0, 0) Q 0 [(2, a0)] [] (k0, 0) mem0 from H _ ⟨rfl, rfl, rfl⟩
  intro Q hK
  unfold f_X5_init at h
  refine RT.aload_n (pc := 0) (k := 0) (x := a0) dX5_init_0 rfl ?_
  refine RT.objI (pc := 1) (x := a0) dX5_init_1 ol_X5_3 oi_inst oi_code (rt_kd_ge (by omega)) (by omega) (by decide) ?_
  refine RT.aload_n (pc := 4) (k := 0) (x := a0) dX5_init_4 rfl ?_
  refine RT.bipush (pc := 5) (n := 6) dX5_init_5 ⟨by decide, by decide⟩ rfl ?_
  obtain ⟨p7q0, hp7q0, h⟩ := Option.bind_eq_some_iff.mp h
  refine RT.na 1 (pc := 7) (n := 6) dX5_init_7 rfl ac_1 (by decide) hp7q0 ?_
  have lp7q0 := rt_na_lt hp7q0
  obtain ⟨m9q1, hm9q1, h⟩ := Option.bind_eq_some_iff.mp h
  refine RT.putfF 5 2 (pc := 9) (t := 2) (mem1 := m9q1) dX5_init_9 gl_X5_9 rfl rfl rfl hl_X5_9 rfl (nar_X5_2 _) (fit_X5_2 _) (show a0.toNat < p7q0.1 by omega) hm9q1 ?_
  refine RT.aload_n (pc := 12) (k := 0) (x := a0) dX5_init_12 rfl ?_
  refine RT.bipush (pc := 13) (n := 6) dX5_init_13 ⟨by decide, by decide⟩ rfl ?_
  refine RT.bipush (pc := 15) (n := 6) dX5_init_15 ⟨by decide, by decide⟩ rfl ?_
  obtain ⟨p17q2, hp17q2, h⟩ := Option.bind_eq_some_iff.mp h
  refine RT.nm (pc := 17) (n := 6) (r := 6) dX5_init_17 co_X5_15 ao_i ac_1 hp17q2 ?_
  have lp17q2 := rt_nm_lt hp17q2
  obtain ⟨m21q3, hm21q3, h⟩ := Option.bind_eq_some_iff.mp h
  refine RT.putfF 5 3 (pc := 21) (t := 2) (mem1 := m21q3) dX5_init_21 gl_X5_17 rfl rfl rfl hl_X5_17 rfl (nar_X5_3 _) (fit_X5_3 _) (show a0.toNat < p17q2.1 by omega) hm21q3 ?_
  refine RT.aload_n (pc := 24) (k := 0) (x := a0) dX5_init_24 rfl ?_
  refine RT.bipush (pc := 25) (n := 7) dX5_init_25 ⟨by decide, by decide⟩ rfl ?_
  refine RT.bipush (pc := 27) (n := 64) dX5_init_27 ⟨by decide, by decide⟩ rfl ?_
  obtain ⟨p29q4, hp29q4, h⟩ := Option.bind_eq_some_iff.mp h
  refine RT.nm (pc := 29) (n := 7) (r := 64) dX5_init_29 co_X5_15 ao_i ac_1 hp29q4 ?_
  have lp29q4 := rt_nm_lt hp29q4
  obtain ⟨m33q5, hm33q5, h⟩ := Option.bind_eq_some_iff.mp h
  refine RT.putfF 5 4 (pc := 33) (t := 2) (mem1 := m33q5) dX5_init_33 gl_X5_20 rfl rfl rfl hl_X5_20 rfl (nar_X5_4 _) (fit_X5_4 _) (show a0.toNat < p29q4.1 by omega) hm33q5 ?_
  refine RT.aload_n (pc := 36) (k := 0) (x := a0) dX5_init_36 rfl ?_
  refine RT.bipush (pc := 37) (n := 6) dX5_init_37 ⟨by decide, by decide⟩ rfl ?_
  obtain ⟨p39q6, hp39q6, h⟩ := Option.bind_eq_some_iff.mp h
  refine RT.na 1 (pc := 39) (n := 6) dX5_init_39 rfl ac_1 (by decide) hp39q6 ?_
  have lp39q6 := rt_na_lt hp39q6
  obtain ⟨m41q7, hm41q7, h⟩ := Option.bind_eq_some_iff.mp h
  refine RT.putfF 5 5 (pc := 41) (t := 2) (mem1 := m41q7) dX5_init_41 gl_X5_23 rfl rfl rfl hl_X5_23 rfl (nar_X5_5 _) (fit_X5_5 _) (show a0.toNat < p39q6.1 by omega) hm41q7 ?_
  obtain ⟨e, y, x⟩ := rt_ge_s h
  subst e
  exact RT.vret (pc := 44) dX5_init_44 rfl y x hK
set_option maxHeartbeats 4000000 in
theorem c_X11_init {G : rt_G} {d k0 : Nat} (hd : 5 ≤ d) (a0 : Int) (mem0 : rt_M) (t : Nat × rt_M) (ht : rt_kd a0.toNat = 20 + 11) (hlt : a0.toNat < k0) (h : f_X11_init k0 a0 mem0 = some t) : RK G M_X11_init d [(2, a0)] k0 mem0 t := by
  suffices H : ∀ Q : rt_P, Q none (t.1, 0) t.2 → RT G M_X11_init d (k0, 0) Q 0 [(2, a0), (9, 0)] [] (k0, 0) mem0 from H _ ⟨rfl, rfl, rfl⟩
  intro Q hK
  unfold f_X11_init at h
  refine RT.aload_n (pc := 0) (k := 0) (x := a0) dX11_init_0 rfl ?_
  refine RT.objI (pc := 1) (x := a0) dX11_init_1 ol_X11_1 oi_inst oi_code (rt_kd_ge (by omega)) (by omega) (by decide) ?_
  refine RT.aload_n (pc := 4) (k := 0) (x := a0) dX11_init_4 rfl ?_
  obtain ⟨p5q0, hp5q0, h⟩ := Option.bind_eq_some_iff.mp h
  refine RT.no 8 (pc := 5) dX11_init_5 co_X11_7 ib_X8 it_X8 cl_X8 ff_X8 hp5q0 ?_
  have lp5q0 := rt_no_lt hp5q0
  refine RT.dup (pc := 8) dX11_init_8 (show ¬ ((2 : Nat) = 1) by decide) ?_
  obtain ⟨u9q1, hu9q1, h⟩ := Option.bind_eq_some_iff.mp h
  obtain ⟨p9q1, hp9q1, h⟩ := Option.bind_eq_some_iff.mp h
  refine RT.ci (pc := 9) (M' := M_X8_init) (x := ((k0 : Nat) : Int)) (As := []) (st := [(2, ((k0 : Nat) : Int)), (2, a0)]) (d' := d - 1) (p' := u9q1) dX11_init_9 nw_X8_init ni_X11_9 nj_X8_init rfl rfl (rt_kd_ge (by have := (rt_no_kd hp5q0); omega)) rfl rfl (Nat.le_of_ble_eq_true rfl) (Nat.le_of_ble_eq_true rfl) (by omega) hp9q1 (c_X8_init (by omega) (((k0 : Nat) : Int)) p5q0.2 _ (rt_no_kd hp5q0) (by omega) hu9q1) ?_
  have lp9q1 := rt_gc_le hp9q1
  obtain ⟨m12q3, hm12q3, h⟩ := Option.bind_eq_some_iff.mp h
  refine RT.putfF 11 0 (pc := 12) (t := 2) (mem1 := m12q3) dX11_init_12 gl_X11_10 rfl rfl rfl hl_X11_10 rfl (nar_X11_0 _) (fit_X11_0 _) (show a0.toNat < p9q1.1 by omega) hm12q3 ?_
  refine RT.aload_n (pc := 15) (k := 0) (x := a0) dX11_init_15 rfl ?_
  obtain ⟨p16q4, hp16q4, h⟩ := Option.bind_eq_some_iff.mp h
  refine RT.no 3 (pc := 16) dX11_init_16 co_X11_16 ib_X3 it_X3 cl_X3 ff_X3 hp16q4 ?_
  have lp16q4 := rt_no_lt hp16q4
  refine RT.dup (pc := 19) dX11_init_19 (show ¬ ((2 : Nat) = 1) by decide) ?_
  refine RT.aload_n (pc := 20) (k := 0) (x := a0) dX11_init_20 rfl ?_
  obtain ⟨v21q5, hv21q5, h⟩ := Option.bind_eq_some_iff.mp h
  refine RT.getf 11 0 (pc := 21) (x := a0) (v := v21q5) dX11_init_21 gl_X11_10 (show a0.toNat < p16q4.1 by omega) hv21q5 ?_
  obtain ⟨u24q6, hu24q6, h⟩ := Option.bind_eq_some_iff.mp h
  obtain ⟨p24q6, hp24q6, h⟩ := Option.bind_eq_some_iff.mp h
  refine RT.ci (pc := 24) (M' := M_X3_init) (x := ((p9q1.1 : Nat) : Int)) (As := [(2, v21q5)]) (st := [(2, ((p9q1.1 : Nat) : Int)), (2, a0)]) (d' := d - 1) (p' := u24q6) dX11_init_24 nw_X3_init ni_X11_18 nj_X3_init rfl rfl (rt_kd_ge (by have := (rt_no_kd hp16q4); omega)) rfl rfl (Nat.le_of_ble_eq_true rfl) (Nat.le_of_ble_eq_true rfl) (by omega) hp24q6 (c_X3_init (by omega) (((p9q1.1 : Nat) : Int)) v21q5 p16q4.2 _ (rt_no_kd hp16q4) (by omega) hu24q6) ?_
  have lp24q6 := rt_gc_le hp24q6
  obtain ⟨m27q8, hm27q8, h⟩ := Option.bind_eq_some_iff.mp h
  refine RT.putfF 11 1 (pc := 27) (t := 2) (mem1 := m27q8) dX11_init_27 gl_X11_21 rfl rfl rfl hl_X11_21 rfl (nar_X11_1 _) (fit_X11_1 _) (show a0.toNat < p24q6.1 by omega) hm27q8 ?_
  refine RT.aload_n (pc := 30) (k := 0) (x := a0) dX11_init_30 rfl ?_
  obtain ⟨p31q9, hp31q9, h⟩ := Option.bind_eq_some_iff.mp h
  refine RT.no 0 (pc := 31) dX11_init_31 co_X11_25 ib_X0 it_X0 cl_X0 ff_X0 hp31q9 ?_
  have lp31q9 := rt_no_lt hp31q9
  refine RT.dup (pc := 34) dX11_init_34 (show ¬ ((2 : Nat) = 1) by decide) ?_
  obtain ⟨u35q10, hu35q10, h⟩ := Option.bind_eq_some_iff.mp h
  obtain ⟨p35q10, hp35q10, h⟩ := Option.bind_eq_some_iff.mp h
  refine RT.ci (pc := 35) (M' := M_X0_init) (x := ((p24q6.1 : Nat) : Int)) (As := []) (st := [(2, ((p24q6.1 : Nat) : Int)), (2, a0)]) (d' := d - 1) (p' := u35q10) dX11_init_35 nw_X0_init ni_X11_27 nj_X0_init rfl rfl (rt_kd_ge (by have := (rt_no_kd hp31q9); omega)) rfl rfl (Nat.le_of_ble_eq_true rfl) (Nat.le_of_ble_eq_true rfl) (by omega) hp35q10 (c_X0_init (by omega) (((p24q6.1 : Nat) : Int)) p31q9.2 _ (rt_no_kd hp31q9) (by omega) hu35q10) ?_
  have lp35q10 := rt_gc_le hp35q10
  obtain ⟨m38q12, hm38q12, h⟩ := Option.bind_eq_some_iff.mp h
  refine RT.putfF 11 2 (pc := 38) (t := 2) (mem1 := m38q12) dX11_init_38 gl_X11_28 rfl rfl rfl hl_X11_28 rfl (nar_X11_2 _) (fit_X11_2 _) (show a0.toNat < p35q10.1 by omega) hm38q12 ?_
  refine RT.aload_n (pc := 41) (k := 0) (x := a0) dX11_init_41 rfl ?_
  refine RT.iconst (pc := 42) (n := 4) dX11_init_42 ⟨by decide, by decide⟩ ?_
  obtain ⟨p43q13, hp43q13, h⟩ := Option.bind_eq_some_iff.mp h
  refine RT.nr 7 (C := "WigOffice$Affairs") (pc := 43) (n := 4) dX11_init_43 rfl co_X11_25 ao_7 (by decide) hp43q13 ?_
  have lp43q13 := rt_na_lt hp43q13
  obtain ⟨m46q14, hm46q14, h⟩ := Option.bind_eq_some_iff.mp h
  refine RT.putfF 11 3 (pc := 46) (t := 2) (mem1 := m46q14) dX11_init_46 gl_X11_32 rfl rfl rfl hl_X11_32 rfl (nar_X11_3 _) (fit_X11_3 _) (show a0.toNat < p43q13.1 by omega) hm46q14 ?_
  refine RT.aload_n (pc := 49) (k := 0) (x := a0) dX11_init_49 rfl ?_
  refine RT.bipush (pc := 50) (n := 16) dX11_init_50 ⟨by decide, by decide⟩ rfl ?_
  obtain ⟨p52q15, hp52q15, h⟩ := Option.bind_eq_some_iff.mp h
  refine RT.nr 8 (C := "WigOffice$Stands") (pc := 52) (n := 16) dX11_init_52 rfl co_X11_36 ao_8 (by decide) hp52q15 ?_
  have lp52q15 := rt_na_lt hp52q15
  obtain ⟨m55q16, hm55q16, h⟩ := Option.bind_eq_some_iff.mp h
  refine RT.putfF 11 4 (pc := 55) (t := 2) (mem1 := m55q16) dX11_init_55 gl_X11_38 rfl rfl rfl hl_X11_38 rfl (nar_X11_4 _) (fit_X11_4 _) (show a0.toNat < p52q15.1 by omega) hm55q16 ?_
  refine RT.aload_n (pc := 58) (k := 0) (x := a0) dX11_init_58 rfl ?_
  obtain ⟨p59q17, hp59q17, h⟩ := Option.bind_eq_some_iff.mp h
  refine RT.no 4 (pc := 59) dX11_init_59 co_X11_42 ib_X4 it_X4 cl_X4 ff_X4 hp59q17 ?_
  have lp59q17 := rt_no_lt hp59q17
  refine RT.dup (pc := 62) dX11_init_62 (show ¬ ((2 : Nat) = 1) by decide) ?_
  obtain ⟨u63q18, hu63q18, h⟩ := Option.bind_eq_some_iff.mp h
  obtain ⟨p63q18, hp63q18, h⟩ := Option.bind_eq_some_iff.mp h
  refine RT.ci (pc := 63) (M' := M_X4_init) (x := ((p52q15.1 : Nat) : Int)) (As := []) (st := [(2, ((p52q15.1 : Nat) : Int)), (2, a0)]) (d' := d - 1) (p' := u63q18) dX11_init_63 nw_X4_init ni_X11_44 nj_X4_init rfl rfl (rt_kd_ge (by have := (rt_no_kd hp59q17); omega)) rfl rfl (Nat.le_of_ble_eq_true rfl) (Nat.le_of_ble_eq_true rfl) (by omega) hp63q18 (c_X4_init (by omega) (((p52q15.1 : Nat) : Int)) p59q17.2 _ (rt_no_kd hp59q17) (by omega) hu63q18) ?_
  have lp63q18 := rt_gc_le hp63q18
  obtain ⟨m66q20, hm66q20, h⟩ := Option.bind_eq_some_iff.mp h
  refine RT.putf 11 7 (pc := 66) (t := 2) (mem1 := m66q20) dX11_init_66 gl_X11_45 rfl rfl (nar_X11_7 _) (fit_X11_7 _) (show a0.toNat < p63q18.1 by omega) hm66q20 ?_
  refine RT.aload_n (pc := 69) (k := 0) (x := a0) dX11_init_69 rfl ?_
  obtain ⟨p70q21, hp70q21, h⟩ := Option.bind_eq_some_iff.mp h
  refine RT.no 4 (pc := 70) dX11_init_70 co_X11_42 ib_X4 it_X4 cl_X4 ff_X4 hp70q21 ?_
  have lp70q21 := rt_no_lt hp70q21
  refine RT.dup (pc := 73) dX11_init_73 (show ¬ ((2 : Nat) = 1) by decide) ?_
  obtain ⟨u74q22, hu74q22, h⟩ := Option.bind_eq_some_iff.mp h
  obtain ⟨p74q22, hp74q22, h⟩ := Option.bind_eq_some_iff.mp h
  refine RT.ci (pc := 74) (M' := M_X4_init) (x := ((p63q18.1 : Nat) : Int)) (As := []) (st := [(2, ((p63q18.1 : Nat) : Int)), (2, a0)]) (d' := d - 1) (p' := u74q22) dX11_init_74 nw_X4_init ni_X11_44 nj_X4_init rfl rfl (rt_kd_ge (by have := (rt_no_kd hp70q21); omega)) rfl rfl (Nat.le_of_ble_eq_true rfl) (Nat.le_of_ble_eq_true rfl) (by omega) hp74q22 (c_X4_init (by omega) (((p63q18.1 : Nat) : Int)) p70q21.2 _ (rt_no_kd hp70q21) (by omega) hu74q22) ?_
  have lp74q22 := rt_gc_le hp74q22
  obtain ⟨m77q24, hm77q24, h⟩ := Option.bind_eq_some_iff.mp h
  refine RT.putf 11 8 (pc := 77) (t := 2) (mem1 := m77q24) dX11_init_77 gl_X11_49 rfl rfl (nar_X11_8 _) (fit_X11_8 _) (show a0.toNat < p74q22.1 by omega) hm77q24 ?_
  refine RT.aload_n (pc := 80) (k := 0) (x := a0) dX11_init_80 rfl ?_
  obtain ⟨p81q25, hp81q25, h⟩ := Option.bind_eq_some_iff.mp h
  refine RT.no 10 (pc := 81) dX11_init_81 co_X11_52 ib_X10 it_X10 cl_X10 ff_X10 hp81q25 ?_
  have lp81q25 := rt_no_lt hp81q25
  refine RT.dup (pc := 84) dX11_init_84 (show ¬ ((2 : Nat) = 1) by decide) ?_
  obtain ⟨u85q26, hu85q26, h⟩ := Option.bind_eq_some_iff.mp h
  obtain ⟨p85q26, hp85q26, h⟩ := Option.bind_eq_some_iff.mp h
  refine RT.ci (pc := 85) (M' := M_X10_init) (x := ((p74q22.1 : Nat) : Int)) (As := []) (st := [(2, ((p74q22.1 : Nat) : Int)), (2, a0)]) (d' := d - 1) (p' := u85q26) dX11_init_85 nw_X10_init ni_X11_54 nj_X10_init rfl rfl (rt_kd_ge (by have := (rt_no_kd hp81q25); omega)) rfl rfl (Nat.le_of_ble_eq_true rfl) (Nat.le_of_ble_eq_true rfl) (by omega) hp85q26 (c_X10_init (by omega) (((p74q22.1 : Nat) : Int)) p81q25.2 _ (rt_no_kd hp81q25) (by omega) hu85q26) ?_
  have lp85q26 := rt_gc_le hp85q26
  obtain ⟨m88q28, hm88q28, h⟩ := Option.bind_eq_some_iff.mp h
  refine RT.putfF 11 9 (pc := 88) (t := 2) (mem1 := m88q28) dX11_init_88 gl_X11_55 rfl rfl rfl hl_X11_55 rfl (nar_X11_9 _) (fit_X11_9 _) (show a0.toNat < p85q26.1 by omega) hm88q28 ?_
  refine RT.aload_n (pc := 91) (k := 0) (x := a0) dX11_init_91 rfl ?_
  obtain ⟨p92q29, hp92q29, h⟩ := Option.bind_eq_some_iff.mp h
  refine RT.no 7 (pc := 92) dX11_init_92 co_X11_36 ib_X7 it_X7 cl_X7 ff_X7 hp92q29 ?_
  have lp92q29 := rt_no_lt hp92q29
  refine RT.dup (pc := 95) dX11_init_95 (show ¬ ((2 : Nat) = 1) by decide) ?_
  obtain ⟨u96q30, hu96q30, h⟩ := Option.bind_eq_some_iff.mp h
  obtain ⟨p96q30, hp96q30, h⟩ := Option.bind_eq_some_iff.mp h
  refine RT.ci (pc := 96) (M' := M_X7_init) (x := ((p85q26.1 : Nat) : Int)) (As := []) (st := [(2, ((p85q26.1 : Nat) : Int)), (2, a0)]) (d' := d - 1) (p' := u96q30) dX11_init_96 nw_X7_init ni_X11_59 nj_X7_init rfl rfl (rt_kd_ge (by have := (rt_no_kd hp92q29); omega)) rfl rfl (Nat.le_of_ble_eq_true rfl) (Nat.le_of_ble_eq_true rfl) (by omega) hp96q30 (c_X7_init (by omega) (((p85q26.1 : Nat) : Int)) p92q29.2 _ (rt_no_kd hp92q29) (by omega) hu96q30) ?_
  have lp96q30 := rt_gc_le hp96q30
  obtain ⟨m99q32, hm99q32, h⟩ := Option.bind_eq_some_iff.mp h
  refine RT.putfF 11 10 (pc := 99) (t := 2) (mem1 := m99q32) dX11_init_99 gl_X11_60 rfl rfl rfl hl_X11_60 rfl (nar_X11_10 _) (fit_X11_10 _) (show a0.toNat < p96q30.1 by omega) hm99q32 ?_
  refine RT.aload_n (pc := 102) (k := 0) (x := a0) dX11_init_102 rfl ?_
  obtain ⟨p103q33, hp103q33, h⟩ := Option.bind_eq_some_iff.mp h
  refine RT.no 1 (pc := 103) dX11_init_103 co_X11_64 ib_X1 it_X1 cl_X1 ff_X1 hp103q33 ?_
  have lp103q33 := rt_no_lt hp103q33
  refine RT.dup (pc := 106) dX11_init_106 (show ¬ ((2 : Nat) = 1) by decide) ?_
  obtain ⟨u107q34, hu107q34, h⟩ := Option.bind_eq_some_iff.mp h
  obtain ⟨p107q34, hp107q34, h⟩ := Option.bind_eq_some_iff.mp h
  refine RT.ci (pc := 107) (M' := M_X1_init) (x := ((p96q30.1 : Nat) : Int)) (As := []) (st := [(2, ((p96q30.1 : Nat) : Int)), (2, a0)]) (d' := d - 1) (p' := u107q34) dX11_init_107 nw_X1_init ni_X11_66 nj_X1_init rfl rfl (rt_kd_ge (by have := (rt_no_kd hp103q33); omega)) rfl rfl (Nat.le_of_ble_eq_true rfl) (Nat.le_of_ble_eq_true rfl) (by omega) hp107q34 (c_X1_init (by omega) (((p96q30.1 : Nat) : Int)) p103q33.2 _ (rt_no_kd hp103q33) (by omega) hu107q34) ?_
  have lp107q34 := rt_gc_le hp107q34
  obtain ⟨m110q36, hm110q36, h⟩ := Option.bind_eq_some_iff.mp h
  refine RT.putfF 11 11 (pc := 110) (t := 2) (mem1 := m110q36) dX11_init_110 gl_X11_67 rfl rfl rfl hl_X11_67 rfl (nar_X11_11 _) (fit_X11_11 _) (show a0.toNat < p107q34.1 by omega) hm110q36 ?_
  refine RT.aload_n (pc := 113) (k := 0) (x := a0) dX11_init_113 rfl ?_
  obtain ⟨p114q37, hp114q37, h⟩ := Option.bind_eq_some_iff.mp h
  refine RT.no 5 (pc := 114) dX11_init_114 co_X11_71 ib_X5 it_X5 cl_X5 ff_X5 hp114q37 ?_
  have lp114q37 := rt_no_lt hp114q37
  refine RT.dup (pc := 117) dX11_init_117 (show ¬ ((2 : Nat) = 1) by decide) ?_
  obtain ⟨u118q38, hu118q38, h⟩ := Option.bind_eq_some_iff.mp h
  obtain ⟨p118q38, hp118q38, h⟩ := Option.bind_eq_some_iff.mp h
  refine RT.ci (pc := 118) (M' := M_X5_init) (x := ((p107q34.1 : Nat) : Int)) (As := []) (st := [(2, ((p107q34.1 : Nat) : Int)), (2, a0)]) (d' := d - 1) (p' := u118q38) dX11_init_118 nw_X5_init ni_X11_73 nj_X5_init rfl rfl (rt_kd_ge (by have := (rt_no_kd hp114q37); omega)) rfl rfl (Nat.le_of_ble_eq_true rfl) (Nat.le_of_ble_eq_true rfl) (by omega) hp118q38 (c_X5_init (by omega) (((p107q34.1 : Nat) : Int)) p114q37.2 _ (rt_no_kd hp114q37) (by omega) hu118q38) ?_
  have lp118q38 := rt_gc_le hp118q38
  obtain ⟨m121q40, hm121q40, h⟩ := Option.bind_eq_some_iff.mp h
  refine RT.putfF 11 12 (pc := 121) (t := 2) (mem1 := m121q40) dX11_init_121 gl_X11_74 rfl rfl rfl hl_X11_74 rfl (nar_X11_12 _) (fit_X11_12 _) (show a0.toNat < p118q38.1 by omega) hm121q40 ?_
  refine RT.iconst (pc := 124) (n := 0) dX11_init_124 ⟨by decide, by decide⟩ ?_
  refine RT.istore_n (pc := 125) (k := 1) (x := 0) (L1 := [(2, a0), (0, 0)]) dX11_init_125 (Nat.le_of_ble_eq_true rfl) rfl ?_
  refine RT.iload_n (pc := 126) (k := 1) (x := 0) dX11_init_126 rfl ?_
  refine RT.iconst (pc := 127) (n := 4) dX11_init_127 ⟨by decide, by decide⟩ ?_
  refine RT.icmp_ge (pc := 128) (tgt := 150) dX11_init_128 rfl (fun q => absurd q (by decide)) (fun _ => ?_)
  refine RT.aload_n (pc := 131) (k := 0) (x := a0) dX11_init_131 rfl ?_
  obtain ⟨v132q41, hv132q41, h⟩ := Option.bind_eq_some_iff.mp h
  refine RT.getf 11 3 (pc := 132) (x := a0) (v := v132q41) dX11_init_132 gl_X11_32 (show a0.toNat < p118q38.1 by omega) hv132q41 ?_
  refine RT.iload_n (pc := 135) (k := 1) (x := 0) dX11_init_135 rfl ?_
  obtain ⟨p136q42, hp136q42, h⟩ := Option.bind_eq_some_iff.mp h
  refine RT.no 0 (pc := 136) dX11_init_136 co_X11_25 ib_X0 it_X0 cl_X0 ff_X0 hp136q42 ?_
  have lp136q42 := rt_no_lt hp136q42
  refine RT.dup (pc := 139) dX11_init_139 (show ¬ ((2 : Nat) = 1) by decide) ?_
  obtain ⟨u140q43, hu140q43, h⟩ := Option.bind_eq_some_iff.mp h
  obtain ⟨p140q43, hp140q43, h⟩ := Option.bind_eq_some_iff.mp h
  refine RT.ci (pc := 140) (M' := M_X0_init) (x := ((p118q38.1 : Nat) : Int)) (As := []) (st := [(2, ((p118q38.1 : Nat) : Int)), (0, 0), (2, v132q41)]) (d' := d - 1) (p' := u140q43) dX11_init_140 nw_X0_init ni_X11_27 nj_X0_init rfl rfl (rt_kd_ge (by have := (rt_no_kd hp136q42); omega)) rfl rfl (Nat.le_of_ble_eq_true rfl) (Nat.le_of_ble_eq_true rfl) (by omega) hp140q43 (c_X0_init (by omega) (((p118q38.1 : Nat) : Int)) p136q42.2 _ (rt_no_kd hp136q42) (by omega) hu140q43) ?_
  have lp140q43 := rt_gc_le hp140q43
  obtain ⟨w143q45, hw143q45, h⟩ := Option.bind_eq_some_iff.mp h
  have gw143q45 := rt_lk_s hw143q45
  obtain ⟨m143q45, hm143q45, h⟩ := Option.bind_eq_some_iff.mp h
  refine RT.aastO 7 0 (pc := 143) (x := v132q41) (i := 0) (v := ((p118q38.1 : Nat) : Int)) (mem1 := m143q45) dX11_init_143 (by decide) rfl cl_X0 gw143q45 (rt_no_kd hp136q42) (show (((p118q38.1 : Nat) : Int)).toNat < p140q43.1 by omega) hm143q45 ?_
  refine RT.iinc (pc := 144) (x := 0) (L1 := [(2, a0), (0, 1)]) dX11_init_144 rfl (Nat.le_of_ble_eq_true rfl) ⟨by decide, by decide⟩ (by rw [show rt_iadd 0 1 = 1 from by decide]; rfl) ?_
  refine RT.goto (pc := 147) (tgt := 126) dX11_init_147 rfl ?_
  refine RT.iload_n (pc := 126) (k := 1) (x := 1) dX11_init_126 rfl ?_
  refine RT.iconst (pc := 127) (n := 4) dX11_init_127 ⟨by decide, by decide⟩ ?_
  refine RT.icmp_ge (pc := 128) (tgt := 150) dX11_init_128 rfl (fun q => absurd q (by decide)) (fun _ => ?_)
  refine RT.aload_n (pc := 131) (k := 0) (x := a0) dX11_init_131 rfl ?_
  obtain ⟨v132q47, hv132q47, h⟩ := Option.bind_eq_some_iff.mp h
  refine RT.getf 11 3 (pc := 132) (x := a0) (v := v132q47) dX11_init_132 gl_X11_32 (show a0.toNat < p140q43.1 by omega) hv132q47 ?_
  refine RT.iload_n (pc := 135) (k := 1) (x := 1) dX11_init_135 rfl ?_
  obtain ⟨p136q48, hp136q48, h⟩ := Option.bind_eq_some_iff.mp h
  refine RT.no 0 (pc := 136) dX11_init_136 co_X11_25 ib_X0 it_X0 cl_X0 ff_X0 hp136q48 ?_
  have lp136q48 := rt_no_lt hp136q48
  refine RT.dup (pc := 139) dX11_init_139 (show ¬ ((2 : Nat) = 1) by decide) ?_
  obtain ⟨u140q49, hu140q49, h⟩ := Option.bind_eq_some_iff.mp h
  obtain ⟨p140q49, hp140q49, h⟩ := Option.bind_eq_some_iff.mp h
  refine RT.ci (pc := 140) (M' := M_X0_init) (x := ((p140q43.1 : Nat) : Int)) (As := []) (st := [(2, ((p140q43.1 : Nat) : Int)), (0, 1), (2, v132q47)]) (d' := d - 1) (p' := u140q49) dX11_init_140 nw_X0_init ni_X11_27 nj_X0_init rfl rfl (rt_kd_ge (by have := (rt_no_kd hp136q48); omega)) rfl rfl (Nat.le_of_ble_eq_true rfl) (Nat.le_of_ble_eq_true rfl) (by omega) hp140q49 (c_X0_init (by omega) (((p140q43.1 : Nat) : Int)) p136q48.2 _ (rt_no_kd hp136q48) (by omega) hu140q49) ?_
  have lp140q49 := rt_gc_le hp140q49
  obtain ⟨w143q51, hw143q51, h⟩ := Option.bind_eq_some_iff.mp h
  have gw143q51 := rt_lk_s hw143q51
  obtain ⟨m143q51, hm143q51, h⟩ := Option.bind_eq_some_iff.mp h
  refine RT.aastO 7 0 (pc := 143) (x := v132q47) (i := 1) (v := ((p140q43.1 : Nat) : Int)) (mem1 := m143q51) dX11_init_143 (by decide) rfl cl_X0 gw143q51 (rt_no_kd hp136q48) (show (((p140q43.1 : Nat) : Int)).toNat < p140q49.1 by omega) hm143q51 ?_
  refine RT.iinc (pc := 144) (x := 1) (L1 := [(2, a0), (0, 2)]) dX11_init_144 rfl (Nat.le_of_ble_eq_true rfl) ⟨by decide, by decide⟩ (by rw [show rt_iadd 1 1 = 2 from by decide]; rfl) ?_
  refine RT.goto (pc := 147) (tgt := 126) dX11_init_147 rfl ?_
  refine RT.iload_n (pc := 126) (k := 1) (x := 2) dX11_init_126 rfl ?_
  refine RT.iconst (pc := 127) (n := 4) dX11_init_127 ⟨by decide, by decide⟩ ?_
  refine RT.icmp_ge (pc := 128) (tgt := 150) dX11_init_128 rfl (fun q => absurd q (by decide)) (fun _ => ?_)
  refine RT.aload_n (pc := 131) (k := 0) (x := a0) dX11_init_131 rfl ?_
  obtain ⟨v132q53, hv132q53, h⟩ := Option.bind_eq_some_iff.mp h
  refine RT.getf 11 3 (pc := 132) (x := a0) (v := v132q53) dX11_init_132 gl_X11_32 (show a0.toNat < p140q49.1 by omega) hv132q53 ?_
  refine RT.iload_n (pc := 135) (k := 1) (x := 2) dX11_init_135 rfl ?_
  obtain ⟨p136q54, hp136q54, h⟩ := Option.bind_eq_some_iff.mp h
  refine RT.no 0 (pc := 136) dX11_init_136 co_X11_25 ib_X0 it_X0 cl_X0 ff_X0 hp136q54 ?_
  have lp136q54 := rt_no_lt hp136q54
  refine RT.dup (pc := 139) dX11_init_139 (show ¬ ((2 : Nat) = 1) by decide) ?_
  obtain ⟨u140q55, hu140q55, h⟩ := Option.bind_eq_some_iff.mp h
  obtain ⟨p140q55, hp140q55, h⟩ := Option.bind_eq_some_iff.mp h
  refine RT.ci (pc := 140) (M' := M_X0_init) (x := ((p140q49.1 : Nat) : Int)) (As := []) (st := [(2, ((p140q49.1 : Nat) : Int)), (0, 2), (2, v132q53)]) (d' := d - 1) (p' := u140q55) dX11_init_140 nw_X0_init ni_X11_27 nj_X0_init rfl rfl (rt_kd_ge (by have := (rt_no_kd hp136q54); omega)) rfl rfl (Nat.le_of_ble_eq_true rfl) (Nat.le_of_ble_eq_true rfl) (by omega) hp140q55 (c_X0_init (by omega) (((p140q49.1 : Nat) : Int)) p136q54.2 _ (rt_no_kd hp136q54) (by omega) hu140q55) ?_
  have lp140q55 := rt_gc_le hp140q55
  obtain ⟨w143q57, hw143q57, h⟩ := Option.bind_eq_some_iff.mp h
  have gw143q57 := rt_lk_s hw143q57
  obtain ⟨m143q57, hm143q57, h⟩ := Option.bind_eq_some_iff.mp h
  refine RT.aastO 7 0 (pc := 143) (x := v132q53) (i := 2) (v := ((p140q49.1 : Nat) : Int)) (mem1 := m143q57) dX11_init_143 (by decide) rfl cl_X0 gw143q57 (rt_no_kd hp136q54) (show (((p140q49.1 : Nat) : Int)).toNat < p140q55.1 by omega) hm143q57 ?_
  refine RT.iinc (pc := 144) (x := 2) (L1 := [(2, a0), (0, 3)]) dX11_init_144 rfl (Nat.le_of_ble_eq_true rfl) ⟨by decide, by decide⟩ (by rw [show rt_iadd 2 1 = 3 from by decide]; rfl) ?_
  refine RT.goto (pc := 147) (tgt := 126) dX11_init_147 rfl ?_
  refine RT.iload_n (pc := 126) (k := 1) (x := 3) dX11_init_126 rfl ?_
  refine RT.iconst (pc := 127) (n := 4) dX11_init_127 ⟨by decide, by decide⟩ ?_
  refine RT.icmp_ge (pc := 128) (tgt := 150) dX11_init_128 rfl (fun q => absurd q (by decide)) (fun _ => ?_)
  refine RT.aload_n (pc := 131) (k := 0) (x := a0) dX11_init_131 rfl ?_
  obtain ⟨v132q59, hv132q59, h⟩ := Option.bind_eq_some_iff.mp h
  refine RT.getf 11 3 (pc := 132) (x := a0) (v := v132q59) dX11_init_132 gl_X11_32 (show a0.toNat < p140q55.1 by omega) hv132q59 ?_
  refine RT.iload_n (pc := 135) (k := 1) (x := 3) dX11_init_135 rfl ?_
  obtain ⟨p136q60, hp136q60, h⟩ := Option.bind_eq_some_iff.mp h
  refine RT.no 0 (pc := 136) dX11_init_136 co_X11_25 ib_X0 it_X0 cl_X0 ff_X0 hp136q60 ?_
  have lp136q60 := rt_no_lt hp136q60
  refine RT.dup (pc := 139) dX11_init_139 (show ¬ ((2 : Nat) = 1) by decide) ?_
  obtain ⟨u140q61, hu140q61, h⟩ := Option.bind_eq_some_iff.mp h
  obtain ⟨p140q61, hp140q61, h⟩ := Option.bind_eq_some_iff.mp h
  refine RT.ci (pc := 140) (M' := M_X0_init) (x := ((p140q55.1 : Nat) : Int)) (As := []) (st := [(2, ((p140q55.1 : Nat) : Int)), (0, 3), (2, v132q59)]) (d' := d - 1) (p' := u140q61) dX11_init_140 nw_X0_init ni_X11_27 nj_X0_init rfl rfl (rt_kd_ge (by have := (rt_no_kd hp136q60); omega)) rfl rfl (Nat.le_of_ble_eq_true rfl) (Nat.le_of_ble_eq_true rfl) (by omega) hp140q61 (c_X0_init (by omega) (((p140q55.1 : Nat) : Int)) p136q60.2 _ (rt_no_kd hp136q60) (by omega) hu140q61) ?_
  have lp140q61 := rt_gc_le hp140q61
  obtain ⟨w143q63, hw143q63, h⟩ := Option.bind_eq_some_iff.mp h
  have gw143q63 := rt_lk_s hw143q63
  obtain ⟨m143q63, hm143q63, h⟩ := Option.bind_eq_some_iff.mp h
  refine RT.aastO 7 0 (pc := 143) (x := v132q59) (i := 3) (v := ((p140q55.1 : Nat) : Int)) (mem1 := m143q63) dX11_init_143 (by decide) rfl cl_X0 gw143q63 (rt_no_kd hp136q60) (show (((p140q55.1 : Nat) : Int)).toNat < p140q61.1 by omega) hm143q63 ?_
  refine RT.iinc (pc := 144) (x := 3) (L1 := [(2, a0), (0, 4)]) dX11_init_144 rfl (Nat.le_of_ble_eq_true rfl) ⟨by decide, by decide⟩ (by rw [show rt_iadd 3 1 = 4 from by decide]; rfl) ?_
  refine RT.goto (pc := 147) (tgt := 126) dX11_init_147 rfl ?_
  refine RT.iload_n (pc := 126) (k := 1) (x := 4) dX11_init_126 rfl ?_
  refine RT.iconst (pc := 127) (n := 4) dX11_init_127 ⟨by decide, by decide⟩ ?_
  refine RT.icmp_ge (pc := 128) (tgt := 150) dX11_init_128 rfl (fun _ => ?_) (fun q => absurd (by decide) q)
  refine RT.iconst (pc := 150) (n := 0) dX11_init_150 ⟨by decide, by decide⟩ ?_
  refine RT.istore_n (pc := 151) (k := 1) (x := 0) (L1 := [(2, a0), (0, 0)]) dX11_init_151 (Nat.le_of_ble_eq_true rfl) rfl ?_
  refine RT.iload_n (pc := 152) (k := 1) (x := 0) dX11_init_152 rfl ?_
  refine RT.bipush (pc := 153) (n := 16) dX11_init_153 ⟨by decide, by decide⟩ rfl ?_
  refine RT.icmp_ge (pc := 155) (tgt := 177) dX11_init_155 rfl (fun q => absurd q (by decide)) (fun _ => ?_)
  refine RT.aload_n (pc := 158) (k := 0) (x := a0) dX11_init_158 rfl ?_
  obtain ⟨v159q65, hv159q65, h⟩ := Option.bind_eq_some_iff.mp h
  refine RT.getf 11 4 (pc := 159) (x := a0) (v := v159q65) dX11_init_159 gl_X11_38 (show a0.toNat < p140q61.1 by omega) hv159q65 ?_
  refine RT.iload_n (pc := 162) (k := 1) (x := 0) dX11_init_162 rfl ?_
  obtain ⟨p163q66, hp163q66, h⟩ := Option.bind_eq_some_iff.mp h
  refine RT.no 7 (pc := 163) dX11_init_163 co_X11_36 ib_X7 it_X7 cl_X7 ff_X7 hp163q66 ?_
  have lp163q66 := rt_no_lt hp163q66
  refine RT.dup (pc := 166) dX11_init_166 (show ¬ ((2 : Nat) = 1) by decide) ?_
  obtain ⟨u167q67, hu167q67, h⟩ := Option.bind_eq_some_iff.mp h
  obtain ⟨p167q67, hp167q67, h⟩ := Option.bind_eq_some_iff.mp h
  refine RT.ci (pc := 167) (M' := M_X7_init) (x := ((p140q61.1 : Nat) : Int)) (As := []) (st := [(2, ((p140q61.1 : Nat) : Int)), (0, 0), (2, v159q65)]) (d' := d - 1) (p' := u167q67) dX11_init_167 nw_X7_init ni_X11_59 nj_X7_init rfl rfl (rt_kd_ge (by have := (rt_no_kd hp163q66); omega)) rfl rfl (Nat.le_of_ble_eq_true rfl) (Nat.le_of_ble_eq_true rfl) (by omega) hp167q67 (c_X7_init (by omega) (((p140q61.1 : Nat) : Int)) p163q66.2 _ (rt_no_kd hp163q66) (by omega) hu167q67) ?_
  have lp167q67 := rt_gc_le hp167q67
  obtain ⟨w170q69, hw170q69, h⟩ := Option.bind_eq_some_iff.mp h
  have gw170q69 := rt_lk_s hw170q69
  obtain ⟨m170q69, hm170q69, h⟩ := Option.bind_eq_some_iff.mp h
  refine RT.aastO 8 7 (pc := 170) (x := v159q65) (i := 0) (v := ((p140q61.1 : Nat) : Int)) (mem1 := m170q69) dX11_init_170 (by decide) rfl cl_X7 gw170q69 (rt_no_kd hp163q66) (show (((p140q61.1 : Nat) : Int)).toNat < p167q67.1 by omega) hm170q69 ?_
  refine RT.iinc (pc := 171) (x := 0) (L1 := [(2, a0), (0, 1)]) dX11_init_171 rfl (Nat.le_of_ble_eq_true rfl) ⟨by decide, by decide⟩ (by rw [show rt_iadd 0 1 = 1 from by decide]; rfl) ?_
  refine RT.goto (pc := 174) (tgt := 152) dX11_init_174 rfl ?_
  refine RT.iload_n (pc := 152) (k := 1) (x := 1) dX11_init_152 rfl ?_
  refine RT.bipush (pc := 153) (n := 16) dX11_init_153 ⟨by decide, by decide⟩ rfl ?_
  refine RT.icmp_ge (pc := 155) (tgt := 177) dX11_init_155 rfl (fun q => absurd q (by decide)) (fun _ => ?_)
  refine RT.aload_n (pc := 158) (k := 0) (x := a0) dX11_init_158 rfl ?_
  obtain ⟨v159q71, hv159q71, h⟩ := Option.bind_eq_some_iff.mp h
  refine RT.getf 11 4 (pc := 159) (x := a0) (v := v159q71) dX11_init_159 gl_X11_38 (show a0.toNat < p167q67.1 by omega) hv159q71 ?_
  refine RT.iload_n (pc := 162) (k := 1) (x := 1) dX11_init_162 rfl ?_
  obtain ⟨p163q72, hp163q72, h⟩ := Option.bind_eq_some_iff.mp h
  refine RT.no 7 (pc := 163) dX11_init_163 co_X11_36 ib_X7 it_X7 cl_X7 ff_X7 hp163q72 ?_
  have lp163q72 := rt_no_lt hp163q72
  refine RT.dup (pc := 166) dX11_init_166 (show ¬ ((2 : Nat) = 1) by decide) ?_
  obtain ⟨u167q73, hu167q73, h⟩ := Option.bind_eq_some_iff.mp h
  obtain ⟨p167q73, hp167q73, h⟩ := Option.bind_eq_some_iff.mp h
  refine RT.ci (pc := 167) (M' := M_X7_init) (x := ((p167q67.1 : Nat) : Int)) (As := []) (st := [(2, ((p167q67.1 : Nat) : Int)), (0, 1), (2, v159q71)]) (d' := d - 1) (p' := u167q73) dX11_init_167 nw_X7_init ni_X11_59 nj_X7_init rfl rfl (rt_kd_ge (by have := (rt_no_kd hp163q72); omega)) rfl rfl (Nat.le_of_ble_eq_true rfl) (Nat.le_of_ble_eq_true rfl) (by omega) hp167q73 (c_X7_init (by omega) (((p167q67.1 : Nat) : Int)) p163q72.2 _ (rt_no_kd hp163q72) (by omega) hu167q73) ?_
  have lp167q73 := rt_gc_le hp167q73
  obtain ⟨w170q75, hw170q75, h⟩ := Option.bind_eq_some_iff.mp h
  have gw170q75 := rt_lk_s hw170q75
  obtain ⟨m170q75, hm170q75, h⟩ := Option.bind_eq_some_iff.mp h
  refine RT.aastO 8 7 (pc := 170) (x := v159q71) (i := 1) (v := ((p167q67.1 : Nat) : Int)) (mem1 := m170q75) dX11_init_170 (by decide) rfl cl_X7 gw170q75 (rt_no_kd hp163q72) (show (((p167q67.1 : Nat) : Int)).toNat < p167q73.1 by omega) hm170q75 ?_
  refine RT.iinc (pc := 171) (x := 1) (L1 := [(2, a0), (0, 2)]) dX11_init_171 rfl (Nat.le_of_ble_eq_true rfl) ⟨by decide, by decide⟩ (by rw [show rt_iadd 1 1 = 2 from by decide]; rfl) ?_
  refine RT.goto (pc := 174) (tgt := 152) dX11_init_174 rfl ?_
  refine RT.iload_n (pc := 152) (k := 1) (x := 2) dX11_init_152 rfl ?_
  refine RT.bipush (pc := 153) (n := 16) dX11_init_153 ⟨by decide, by decide⟩ rfl ?_
  refine RT.icmp_ge (pc := 155) (tgt := 177) dX11_init_155 rfl (fun q => absurd q (by decide)) (fun _ => ?_)
  refine RT.aload_n (pc := 158) (k := 0) (x := a0) dX11_init_158 rfl ?_
  obtain ⟨v159q77, hv159q77, h⟩ := Option.bind_eq_some_iff.mp h
  refine RT.getf 11 4 (pc := 159) (x := a0) (v := v159q77) dX11_init_159 gl_X11_38 (show a0.toNat < p167q73.1 by omega) hv159q77 ?_
  refine RT.iload_n (pc := 162) (k := 1) (x := 2) dX11_init_162 rfl ?_
  obtain ⟨p163q78, hp163q78, h⟩ := Option.bind_eq_some_iff.mp h
  refine RT.no 7 (pc := 163) dX11_init_163 co_X11_36 ib_X7 it_X7 cl_X7 ff_X7 hp163q78 ?_
  have lp163q78 := rt_no_lt hp163q78
  refine RT.dup (pc := 166) dX11_init_166 (show ¬ ((2 : Nat) = 1) by decide) ?_
  obtain ⟨u167q79, hu167q79, h⟩ := Option.bind_eq_some_iff.mp h
  obtain ⟨p167q79, hp167q79, h⟩ := Option.bind_eq_some_iff.mp h
  refine RT.ci (pc := 167) (M' := M_X7_init) (x := ((p167q73.1 : Nat) : Int)) (As := []) (st := [(2, ((p167q73.1 : Nat) : Int)), (0, 2), (2, v159q77)]) (d' := d - 1) (p' := u167q79) dX11_init_167 nw_X7_init ni_X11_59 nj_X7_init rfl rfl (rt_kd_ge (by have := (rt_no_kd hp163q78); omega)) rfl rfl (Nat.le_of_ble_eq_true rfl) (Nat.le_of_ble_eq_true rfl) (by omega) hp167q79 (c_X7_init (by omega) (((p167q73.1 : Nat) : Int)) p163q78.2 _ (rt_no_kd hp163q78) (by omega) hu167q79) ?_
  have lp167q79 := rt_gc_le hp167q79
  obtain ⟨w170q81, hw170q81, h⟩ := Option.bind_eq_some_iff.mp h
  have gw170q81 := rt_lk_s hw170q81
  obtain ⟨m170q81, hm170q81, h⟩ := Option.bind_eq_some_iff.mp h
  refine RT.aastO 8 7 (pc := 170) (x := v159q77) (i := 2) (v := ((p167q73.1 : Nat) : Int)) (mem1 := m170q81) dX11_init_170 (by decide) rfl cl_X7 gw170q81 (rt_no_kd hp163q78) (show (((p167q73.1 : Nat) : Int)).toNat < p167q79.1 by omega) hm170q81 ?_
  refine RT.iinc (pc := 171) (x := 2) (L1 := [(2, a0), (0, 3)]) dX11_init_171 rfl (Nat.le_of_ble_eq_true rfl) ⟨by decide, by decide⟩ (by rw [show rt_iadd 2 1 = 3 from by decide]; rfl) ?_
  refine RT.goto (pc := 174) (tgt := 152) dX11_init_174 rfl ?_
  refine RT.iload_n (pc := 152) (k := 1) (x := 3) dX11_init_152 rfl ?_
  refine RT.bipush (pc := 153) (n := 16) dX11_init_153 ⟨by decide, by decide⟩ rfl ?_
  refine RT.icmp_ge (pc := 155) (tgt := 177) dX11_init_155 rfl (fun q => absurd q (by decide)) (fun _ => ?_)
  refine RT.aload_n (pc := 158) (k := 0) (x := a0) dX11_init_158 rfl ?_
  obtain ⟨v159q83, hv159q83, h⟩ := Option.bind_eq_some_iff.mp h
  refine RT.getf 11 4 (pc := 159) (x := a0) (v := v159q83) dX11_init_159 gl_X11_38 (show a0.toNat < p167q79.1 by omega) hv159q83 ?_
  refine RT.iload_n (pc := 162) (k := 1) (x := 3) dX11_init_162 rfl ?_
  obtain ⟨p163q84, hp163q84, h⟩ := Option.bind_eq_some_iff.mp h
  refine RT.no 7 (pc := 163) dX11_init_163 co_X11_36 ib_X7 it_X7 cl_X7 ff_X7 hp163q84 ?_
  have lp163q84 := rt_no_lt hp163q84
  refine RT.dup (pc := 166) dX11_init_166 (show ¬ ((2 : Nat) = 1) by decide) ?_
  obtain ⟨u167q85, hu167q85, h⟩ := Option.bind_eq_some_iff.mp h
  obtain ⟨p167q85, hp167q85, h⟩ := Option.bind_eq_some_iff.mp h
  refine RT.ci (pc := 167) (M' := M_X7_init) (x := ((p167q79.1 : Nat) : Int)) (As := []) (st := [(2, ((p167q79.1 : Nat) : Int)), (0, 3), (2, v159q83)]) (d' := d - 1) (p' := u167q85) dX11_init_167 nw_X7_init ni_X11_59 nj_X7_init rfl rfl (rt_kd_ge (by have := (rt_no_kd hp163q84); omega)) rfl rfl (Nat.le_of_ble_eq_true rfl) (Nat.le_of_ble_eq_true rfl) (by omega) hp167q85 (c_X7_init (by omega) (((p167q79.1 : Nat) : Int)) p163q84.2 _ (rt_no_kd hp163q84) (by omega) hu167q85) ?_
  have lp167q85 := rt_gc_le hp167q85
  obtain ⟨w170q87, hw170q87, h⟩ := Option.bind_eq_some_iff.mp h
  have gw170q87 := rt_lk_s hw170q87
  obtain ⟨m170q87, hm170q87, h⟩ := Option.bind_eq_some_iff.mp h
  refine RT.aastO 8 7 (pc := 170) (x := v159q83) (i := 3) (v := ((p167q79.1 : Nat) : Int)) (mem1 := m170q87) dX11_init_170 (by decide) rfl cl_X7 gw170q87 (rt_no_kd hp163q84) (show (((p167q79.1 : Nat) : Int)).toNat < p167q85.1 by omega) hm170q87 ?_
  refine RT.iinc (pc := 171) (x := 3) (L1 := [(2, a0), (0, 4)]) dX11_init_171 rfl (Nat.le_of_ble_eq_true rfl) ⟨by decide, by decide⟩ (by rw [show rt_iadd 3 1 = 4 from by decide]; rfl) ?_
  refine RT.goto (pc := 174) (tgt := 152) dX11_init_174 rfl ?_
  refine RT.iload_n (pc := 152) (k := 1) (x := 4) dX11_init_152 rfl ?_
  refine RT.bipush (pc := 153) (n := 16) dX11_init_153 ⟨by decide, by decide⟩ rfl ?_
  refine RT.icmp_ge (pc := 155) (tgt := 177) dX11_init_155 rfl (fun q => absurd q (by decide)) (fun _ => ?_)
  refine RT.aload_n (pc := 158) (k := 0) (x := a0) dX11_init_158 rfl ?_
  obtain ⟨v159q89, hv159q89, h⟩ := Option.bind_eq_some_iff.mp h
  refine RT.getf 11 4 (pc := 159) (x := a0) (v := v159q89) dX11_init_159 gl_X11_38 (show a0.toNat < p167q85.1 by omega) hv159q89 ?_
  refine RT.iload_n (pc := 162) (k := 1) (x := 4) dX11_init_162 rfl ?_
  obtain ⟨p163q90, hp163q90, h⟩ := Option.bind_eq_some_iff.mp h
  refine RT.no 7 (pc := 163) dX11_init_163 co_X11_36 ib_X7 it_X7 cl_X7 ff_X7 hp163q90 ?_
  have lp163q90 := rt_no_lt hp163q90
  refine RT.dup (pc := 166) dX11_init_166 (show ¬ ((2 : Nat) = 1) by decide) ?_
  obtain ⟨u167q91, hu167q91, h⟩ := Option.bind_eq_some_iff.mp h
  obtain ⟨p167q91, hp167q91, h⟩ := Option.bind_eq_some_iff.mp h
  refine RT.ci (pc := 167) (M' := M_X7_init) (x := ((p167q85.1 : Nat) : Int)) (As := []) (st := [(2, ((p167q85.1 : Nat) : Int)), (0, 4), (2, v159q89)]) (d' := d - 1) (p' := u167q91) dX11_init_167 nw_X7_init ni_X11_59 nj_X7_init rfl rfl (rt_kd_ge (by have := (rt_no_kd hp163q90); omega)) rfl rfl (Nat.le_of_ble_eq_true rfl) (Nat.le_of_ble_eq_true rfl) (by omega) hp167q91 (c_X7_init (by omega) (((p167q85.1 : Nat) : Int)) p163q90.2 _ (rt_no_kd hp163q90) (by omega) hu167q91) ?_
  have lp167q91 := rt_gc_le hp167q91
  obtain ⟨w170q93, hw170q93, h⟩ := Option.bind_eq_some_iff.mp h
  have gw170q93 := rt_lk_s hw170q93
  obtain ⟨m170q93, hm170q93, h⟩ := Option.bind_eq_some_iff.mp h
  refine RT.aastO 8 7 (pc := 170) (x := v159q89) (i := 4) (v := ((p167q85.1 : Nat) : Int)) (mem1 := m170q93) dX11_init_170 (by decide) rfl cl_X7 gw170q93 (rt_no_kd hp163q90) (show (((p167q85.1 : Nat) : Int)).toNat < p167q91.1 by omega) hm170q93 ?_
  refine RT.iinc (pc := 171) (x := 4) (L1 := [(2, a0), (0, 5)]) dX11_init_171 rfl (Nat.le_of_ble_eq_true rfl) ⟨by decide, by decide⟩ (by rw [show rt_iadd 4 1 = 5 from by decide]; rfl) ?_
  refine RT.goto (pc := 174) (tgt := 152) dX11_init_174 rfl ?_
  refine RT.iload_n (pc := 152) (k := 1) (x := 5) dX11_init_152 rfl ?_
  refine RT.bipush (pc := 153) (n := 16) dX11_init_153 ⟨by decide, by decide⟩ rfl ?_
  refine RT.icmp_ge (pc := 155) (tgt := 177) dX11_init_155 rfl (fun q => absurd q (by decide)) (fun _ => ?_)
  refine RT.aload_n (pc := 158) (k := 0) (x := a0) dX11_init_158 rfl ?_
  obtain ⟨v159q95, hv159q95, h⟩ := Option.bind_eq_some_iff.mp h
  refine RT.getf 11 4 (pc := 159) (x := a0) (v := v159q95) dX11_init_159 gl_X11_38 (show a0.toNat < p167q91.1 by omega) hv159q95 ?_
  refine RT.iload_n (pc := 162) (k := 1) (x := 5) dX11_init_162 rfl ?_
  obtain ⟨p163q96, hp163q96, h⟩ := Option.bind_eq_some_iff.mp h
  refine RT.no 7 (pc := 163) dX11_init_163 co_X11_36 ib_X7 it_X7 cl_X7 ff_X7 hp163q96 ?_
  have lp163q96 := rt_no_lt hp163q96
  refine RT.dup (pc := 166) dX11_init_166 (show ¬ ((2 : Nat) = 1) by decide) ?_
  obtain ⟨u167q97, hu167q97, h⟩ := Option.bind_eq_some_iff.mp h
  obtain ⟨p167q97, hp167q97, h⟩ := Option.bind_eq_some_iff.mp h
  refine RT.ci (pc := 167) (M' := M_X7_init) (x := ((p167q91.1 : Nat) : Int)) (As := []) (st := [(2, ((p167q91.1 : Nat) : Int)), (0, 5), (2, v159q95)]) (d' := d - 1) (p' := u167q97) dX11_init_167 nw_X7_init ni_X11_59 nj_X7_init rfl rfl (rt_kd_ge (by have := (rt_no_kd hp163q96); omega)) rfl rfl (Nat.le_of_ble_eq_true rfl) (Nat.le_of_ble_eq_true rfl) (by omega) hp167q97 (c_X7_init (by omega) (((p167q91.1 : Nat) : Int)) p163q96.2 _ (rt_no_kd hp163q96) (by omega) hu167q97) ?_
  have lp167q97 := rt_gc_le hp167q97
  obtain ⟨w170q99, hw170q99, h⟩ := Option.bind_eq_some_iff.mp h
  have gw170q99 := rt_lk_s hw170q99
  obtain ⟨m170q99, hm170q99, h⟩ := Option.bind_eq_some_iff.mp h
  refine RT.aastO 8 7 (pc := 170) (x := v159q95) (i := 5) (v := ((p167q91.1 : Nat) : Int)) (mem1 := m170q99) dX11_init_170 (by decide) rfl cl_X7 gw170q99 (rt_no_kd hp163q96) (show (((p167q91.1 : Nat) : Int)).toNat < p167q97.1 by omega) hm170q99 ?_
  refine RT.iinc (pc := 171) (x := 5) (L1 := [(2, a0), (0, 6)]) dX11_init_171 rfl (Nat.le_of_ble_eq_true rfl) ⟨by decide, by decide⟩ (by rw [show rt_iadd 5 1 = 6 from by decide]; rfl) ?_
  refine RT.goto (pc := 174) (tgt := 152) dX11_init_174 rfl ?_
  refine RT.iload_n (pc := 152) (k := 1) (x := 6) dX11_init_152 rfl ?_
  refine RT.bipush (pc := 153) (n := 16) dX11_init_153 ⟨by decide, by decide⟩ rfl ?_
  refine RT.icmp_ge (pc := 155) (tgt := 177) dX11_init_155 rfl (fun q => absurd q (by decide)) (fun _ => ?_)
  refine RT.aload_n (pc := 158) (k := 0) (x := a0) dX11_init_158 rfl ?_
  obtain ⟨v159q101, hv159q101, h⟩ := Option.bind_eq_some_iff.mp h
  refine RT.getf 11 4 (pc := 159) (x := a0) (v := v159q101) dX11_init_159 gl_X11_38 (show a0.toNat < p167q97.1 by omega) hv159q101 ?_
  refine RT.iload_n (pc := 162) (k := 1) (x := 6) dX11_init_162 rfl ?_
  obtain ⟨p163q102, hp163q102, h⟩ := Option.bind_eq_some_iff.mp h
  refine RT.no 7 (pc := 163) dX11_init_163 co_X11_36 ib_X7 it_X7 cl_X7 ff_X7 hp163q102 ?_
  have lp163q102 := rt_no_lt hp163q102
  refine RT.dup (pc := 166) dX11_init_166 (show ¬ ((2 : Nat) = 1) by decide) ?_
  obtain ⟨u167q103, hu167q103, h⟩ := Option.bind_eq_some_iff.mp h
  obtain ⟨p167q103, hp167q103, h⟩ := Option.bind_eq_some_iff.mp h
  refine RT.ci (pc := 167) (M' := M_X7_init) (x := ((p167q97.1 : Nat) : Int)) (As := []) (st := [(2, ((p167q97.1 : Nat) : Int)), (0, 6), (2, v159q101)]) (d' := d - 1) (p' := u167q103) dX11_init_167 nw_X7_init ni_X11_59 nj_X7_init rfl rfl (rt_kd_ge (by have := (rt_no_kd hp163q102); omega)) rfl rfl (Nat.le_of_ble_eq_true rfl) (Nat.le_of_ble_eq_true rfl) (by omega) hp167q103 (c_X7_init (by omega) (((p167q97.1 : Nat) : Int)) p163q102.2 _ (rt_no_kd hp163q102) (by omega) hu167q103) ?_
  have lp167q103 := rt_gc_le hp167q103
  obtain ⟨w170q105, hw170q105, h⟩ := Option.bind_eq_some_iff.mp h
  have gw170q105 := rt_lk_s hw170q105
  obtain ⟨m170q105, hm170q105, h⟩ := Option.bind_eq_some_iff.mp h
  refine RT.aastO 8 7 (pc := 170) (x := v159q101) (i := 6) (v := ((p167q97.1 : Nat) : Int)) (mem1 := m170q105) dX11_init_170 (by decide) rfl cl_X7 gw170q105 (rt_no_kd hp163q102) (show (((p167q97.1 : Nat) : Int)).toNat < p167q103.1 by omega) hm170q105 ?_
  refine RT.iinc (pc := 171) (x := 6) (L1 := [(2, a0), (0, 7)]) dX11_init_171 rfl (Nat.le_of_ble_eq_true rfl) ⟨by decide, by decide⟩ (by rw [show rt_iadd 6 1 = 7 from by decide]; rfl) ?_
  refine RT.goto (pc := 174) (tgt := 152) dX11_init_174 rfl ?_
  refine RT.iload_n (pc := 152) (k := 1) (x := 7) dX11_init_152 rfl ?_
  refine RT.bipush (pc := 153) (n := 16) dX11_init_153 ⟨by decide, by decide⟩ rfl ?_
  refine RT.icmp_ge (pc := 155) (tgt := 177) dX11_init_155 rfl (fun q => absurd q (by decide)) (fun _ => ?_)
  refine RT.aload_n (pc := 158) (k := 0) (x := a0) dX11_init_158 rfl ?_
  obtain ⟨v159q107, hv159q107, h⟩ := Option.bind_eq_some_iff.mp h
  refine RT.getf 11 4 (pc := 159) (x := a0) (v := v159q107) dX11_init_159 gl_X11_38 (show a0.toNat < p167q103.1 by omega) hv159q107 ?_
  refine RT.iload_n (pc := 162) (k := 1) (x := 7) dX11_init_162 rfl ?_
  obtain ⟨p163q108, hp163q108, h⟩ := Option.bind_eq_some_iff.mp h
  refine RT.no 7 (pc := 163) dX11_init_163 co_X11_36 ib_X7 it_X7 cl_X7 ff_X7 hp163q108 ?_
  have lp163q108 := rt_no_lt hp163q108
  refine RT.dup (pc := 166) dX11_init_166 (show ¬ ((2 : Nat) = 1) by decide) ?_
  obtain ⟨u167q109, hu167q109, h⟩ := Option.bind_eq_some_iff.mp h
  obtain ⟨p167q109, hp167q109, h⟩ := Option.bind_eq_some_iff.mp h
  refine RT.ci (pc := 167) (M' := M_X7_init) (x := ((p167q103.1 : Nat) : Int)) (As := []) (st := [(2, ((p167q103.1 : Nat) : Int)), (0, 7), (2, v159q107)]) (d' := d - 1) (p' := u167q109) dX11_init_167 nw_X7_init ni_X11_59 nj_X7_init rfl rfl (rt_kd_ge (by have := (rt_no_kd hp163q108); omega)) rfl rfl (Nat.le_of_ble_eq_true rfl) (Nat.le_of_ble_eq_true rfl) (by omega) hp167q109 (c_X7_init (by omega) (((p167q103.1 : Nat) : Int)) p163q108.2 _ (rt_no_kd hp163q108) (by omega) hu167q109) ?_
  have lp167q109 := rt_gc_le hp167q109
  obtain ⟨w170q111, hw170q111, h⟩ := Option.bind_eq_some_iff.mp h
  have gw170q111 := rt_lk_s hw170q111
  obtain ⟨m170q111, hm170q111, h⟩ := Option.bind_eq_some_iff.mp h
  refine RT.aastO 8 7 (pc := 170) (x := v159q107) (i := 7) (v := ((p167q103.1 : Nat) : Int)) (mem1 := m170q111) dX11_init_170 (by decide) rfl cl_X7 gw170q111 (rt_no_kd hp163q108) (show (((p167q103.1 : Nat) : Int)).toNat < p167q109.1 by omega) hm170q111 ?_
  refine RT.iinc (pc := 171) (x := 7) (L1 := [(2, a0), (0, 8)]) dX11_init_171 rfl (Nat.le_of_ble_eq_true rfl) ⟨by decide, by decide⟩ (by rw [show rt_iadd 7 1 = 8 from by decide]; rfl) ?_
  refine RT.goto (pc := 174) (tgt := 152) dX11_init_174 rfl ?_
  refine RT.iload_n (pc := 152) (k := 1) (x := 8) dX11_init_152 rfl ?_
  refine RT.bipush (pc := 153) (n := 16) dX11_init_153 ⟨by decide, by decide⟩ rfl ?_
  refine RT.icmp_ge (pc := 155) (tgt := 177) dX11_init_155 rfl (fun q => absurd q (by decide)) (fun _ => ?_)
  refine RT.aload_n (pc := 158) (k := 0) (x := a0) dX11_init_158 rfl ?_
  obtain ⟨v159q113, hv159q113, h⟩ := Option.bind_eq_some_iff.mp h
  refine RT.getf 11 4 (pc := 159) (x := a0) (v := v159q113) dX11_init_159 gl_X11_38 (show a0.toNat < p167q109.1 by omega) hv159q113 ?_
  refine RT.iload_n (pc := 162) (k := 1) (x := 8) dX11_init_162 rfl ?_
  obtain ⟨p163q114, hp163q114, h⟩ := Option.bind_eq_some_iff.mp h
  refine RT.no 7 (pc := 163) dX11_init_163 co_X11_36 ib_X7 it_X7 cl_X7 ff_X7 hp163q114 ?_
  have lp163q114 := rt_no_lt hp163q114
  refine RT.dup (pc := 166) dX11_init_166 (show ¬ ((2 : Nat) = 1) by decide) ?_
  obtain ⟨u167q115, hu167q115, h⟩ := Option.bind_eq_some_iff.mp h
  obtain ⟨p167q115, hp167q115, h⟩ := Option.bind_eq_some_iff.mp h
  refine RT.ci (pc := 167) (M' := M_X7_init) (x := ((p167q109.1 : Nat) : Int)) (As := []) (st := [(2, ((p167q109.1 : Nat) : Int)), (0, 8), (2, v159q113)]) (d' := d - 1) (p' := u167q115) dX11_init_167 nw_X7_init ni_X11_59 nj_X7_init rfl rfl (rt_kd_ge (by have := (rt_no_kd hp163q114); omega)) rfl rfl (Nat.le_of_ble_eq_true rfl) (Nat.le_of_ble_eq_true rfl) (by omega) hp167q115 (c_X7_init (by omega) (((p167q109.1 : Nat) : Int)) p163q114.2 _ (rt_no_kd hp163q114) (by omega) hu167q115) ?_
  have lp167q115 := rt_gc_le hp167q115
  obtain ⟨w170q117, hw170q117, h⟩ := Option.bind_eq_some_iff.mp h
  have gw170q117 := rt_lk_s hw170q117
  obtain ⟨m170q117, hm170q117, h⟩ := Option.bind_eq_some_iff.mp h
  refine RT.aastO 8 7 (pc := 170) (x := v159q113) (i := 8) (v := ((p167q109.1 : Nat) : Int)) (mem1 := m170q117) dX11_init_170 (by decide) rfl cl_X7 gw170q117 (rt_no_kd hp163q114) (show (((p167q109.1 : Nat) : Int)).toNat < p167q115.1 by omega) hm170q117 ?_
  refine RT.iinc (pc := 171) (x := 8) (L1 := [(2, a0), (0, 9)]) dX11_init_171 rfl (Nat.le_of_ble_eq_true rfl) ⟨by decide, by decide⟩ (by rw [show rt_iadd 8 1 = 9 from by decide]; rfl) ?_
  refine RT.goto (pc := 174) (tgt := 152) dX11_init_174 rfl ?_
  refine RT.iload_n (pc := 152) (k := 1) (x := 9) dX11_init_152 rfl ?_
  refine RT.bipush (pc := 153) (n := 16) dX11_init_153 ⟨by decide, by decide⟩ rfl ?_
  refine RT.icmp_ge (pc := 155) (tgt := 177) dX11_init_155 rfl (fun q => absurd q (by decide)) (fun _ => ?_)
  refine RT.aload_n (pc := 158) (k := 0) (x := a0) dX11_init_158 rfl ?_
  obtain ⟨v159q119, hv159q119, h⟩ := Option.bind_eq_some_iff.mp h
  refine RT.getf 11 4 (pc := 159) (x := a0) (v := v159q119) dX11_init_159 gl_X11_38 (show a0.toNat < p167q115.1 by omega) hv159q119 ?_
  refine RT.iload_n (pc := 162) (k := 1) (x := 9) dX11_init_162 rfl ?_
  obtain ⟨p163q120, hp163q120, h⟩ := Option.bind_eq_some_iff.mp h
  refine RT.no 7 (pc := 163) dX11_init_163 co_X11_36 ib_X7 it_X7 cl_X7 ff_X7 hp163q120 ?_
  have lp163q120 := rt_no_lt hp163q120
  refine RT.dup (pc := 166) dX11_init_166 (show ¬ ((2 : Nat) = 1) by decide) ?_
  obtain ⟨u167q121, hu167q121, h⟩ := Option.bind_eq_some_iff.mp h
  obtain ⟨p167q121, hp167q121, h⟩ := Option.bind_eq_some_iff.mp h
  refine RT.ci (pc := 167) (M' := M_X7_init) (x := ((p167q115.1 : Nat) : Int)) (As := []) (st := [(2, ((p167q115.1 : Nat) : Int)), (0, 9), (2, v159q119)]) (d' := d - 1) (p' := u167q121) dX11_init_167 nw_X7_init ni_X11_59 nj_X7_init rfl rfl (rt_kd_ge (by have := (rt_no_kd hp163q120); omega)) rfl rfl (Nat.le_of_ble_eq_true rfl) (Nat.le_of_ble_eq_true rfl) (by omega) hp167q121 (c_X7_init (by omega) (((p167q115.1 : Nat) : Int)) p163q120.2 _ (rt_no_kd hp163q120) (by omega) hu167q121) ?_
  have lp167q121 := rt_gc_le hp167q121
  obtain ⟨w170q123, hw170q123, h⟩ := Option.bind_eq_some_iff.mp h
  have gw170q123 := rt_lk_s hw170q123
  obtain ⟨m170q123, hm170q123, h⟩ := Option.bind_eq_some_iff.mp h
  refine RT.aastO 8 7 (pc := 170) (x := v159q119) (i := 9) (v := ((p167q115.1 : Nat) : Int)) (mem1 := m170q123) dX11_init_170 (by decide) rfl cl_X7 gw170q123 (rt_no_kd hp163q120) (show (((p167q115.1 : Nat) : Int)).toNat < p167q121.1 by omega) hm170q123 ?_
  refine RT.iinc (pc := 171) (x := 9) (L1 := [(2, a0), (0, 10)]) dX11_init_171 rfl (Nat.le_of_ble_eq_true rfl) ⟨by decide, by decide⟩ (by rw [show rt_iadd 9 1 = 10 from by decide]; rfl) ?_
  refine RT.goto (pc := 174) (tgt := 152) dX11_init_174 rfl ?_
  refine RT.iload_n (pc := 152) (k := 1) (x := 10) dX11_init_152 rfl ?_
  refine RT.bipush (pc := 153) (n := 16) dX11_init_153 ⟨by decide, by decide⟩ rfl ?_
  refine RT.icmp_ge (pc := 155) (tgt := 177) dX11_init_155 rfl (fun q => absurd q (by decide)) (fun _ => ?_)
  refine RT.aload_n (pc := 158) (k := 0) (x := a0) dX11_init_158 rfl ?_
  obtain ⟨v159q125, hv159q125, h⟩ := Option.bind_eq_some_iff.mp h
  refine RT.getf 11 4 (pc := 159) (x := a0) (v := v159q125) dX11_init_159 gl_X11_38 (show a0.toNat < p167q121.1 by omega) hv159q125 ?_
  refine RT.iload_n (pc := 162) (k := 1) (x := 10) dX11_init_162 rfl ?_
  obtain ⟨p163q126, hp163q126, h⟩ := Option.bind_eq_some_iff.mp h
  refine RT.no 7 (pc := 163) dX11_init_163 co_X11_36 ib_X7 it_X7 cl_X7 ff_X7 hp163q126 ?_
  have lp163q126 := rt_no_lt hp163q126
  refine RT.dup (pc := 166) dX11_init_166 (show ¬ ((2 : Nat) = 1) by decide) ?_
  obtain ⟨u167q127, hu167q127, h⟩ := Option.bind_eq_some_iff.mp h
  obtain ⟨p167q127, hp167q127, h⟩ := Option.bind_eq_some_iff.mp h
  refine RT.ci (pc := 167) (M' := M_X7_init) (x := ((p167q121.1 : Nat) : Int)) (As := []) (st := [(2, ((p167q121.1 : Nat) : Int)), (0, 10), (2, v159q125)]) (d' := d - 1) (p' := u167q127) dX11_init_167 nw_X7_init ni_X11_59 nj_X7_init rfl rfl (rt_kd_ge (by have := (rt_no_kd hp163q126); omega)) rfl rfl (Nat.le_of_ble_eq_true rfl) (Nat.le_of_ble_eq_true rfl) (by omega) hp167q127 (c_X7_init (by omega) (((p167q121.1 : Nat) : Int)) p163q126.2 _ (rt_no_kd hp163q126) (by omega) hu167q127) ?_
  have lp167q127 := rt_gc_le hp167q127
  obtain ⟨w170q129, hw170q129, h⟩ := Option.bind_eq_some_iff.mp h
  have gw170q129 := rt_lk_s hw170q129
  obtain ⟨m170q129, hm170q129, h⟩ := Option.bind_eq_some_iff.mp h
  refine RT.aastO 8 7 (pc := 170) (x := v159q125) (i := 10) (v := ((p167q121.1 : Nat) : Int)) (mem1 := m170q129) dX11_init_170 (by decide) rfl cl_X7 gw170q129 (rt_no_kd hp163q126) (show (((p167q121.1 : Nat) : Int)).toNat < p167q127.1 by omega) hm170q129 ?_
  refine RT.iinc (pc := 171) (x := 10) (L1 := [(2, a0), (0, 11)]) dX11_init_171 rfl (Nat.le_of_ble_eq_true rfl) ⟨by decide, by decide⟩ (by rw [show rt_iadd 10 1 = 11 from by decide]; rfl) ?_
  refine RT.goto (pc := 174) (tgt := 152) dX11_init_174 rfl ?_
  refine RT.iload_n (pc := 152) (k := 1) (x := 11) dX11_init_152 rfl ?_
  refine RT.bipush (pc := 153) (n := 16) dX11_init_153 ⟨by decide, by decide⟩ rfl ?_
  refine RT.icmp_ge (pc := 155) (tgt := 177) dX11_init_155 rfl (fun q => absurd q (by decide)) (fun _ => ?_)
  refine RT.aload_n (pc := 158) (k := 0) (x := a0) dX11_init_158 rfl ?_
  obtain ⟨v159q131, hv159q131, h⟩ := Option.bind_eq_some_iff.mp h
  refine RT.getf 11 4 (pc := 159) (x := a0) (v := v159q131) dX11_init_159 gl_X11_38 (show a0.toNat < p167q127.1 by omega) hv159q131 ?_
  refine RT.iload_n (pc := 162) (k := 1) (x := 11) dX11_init_162 rfl ?_
  obtain ⟨p163q132, hp163q132, h⟩ := Option.bind_eq_some_iff.mp h
  refine RT.no 7 (pc := 163) dX11_init_163 co_X11_36 ib_X7 it_X7 cl_X7 ff_X7 hp163q132 ?_
  have lp163q132 := rt_no_lt hp163q132
  refine RT.dup (pc := 166) dX11_init_166 (show ¬ ((2 : Nat) = 1) by decide) ?_
  obtain ⟨u167q133, hu167q133, h⟩ := Option.bind_eq_some_iff.mp h
  obtain ⟨p167q133, hp167q133, h⟩ := Option.bind_eq_some_iff.mp h
  refine RT.ci (pc := 167) (M' := M_X7_init) (x := ((p167q127.1 : Nat) : Int)) (As := []) (st := [(2, ((p167q127.1 : Nat) : Int)), (0, 11), (2, v159q131)]) (d' := d - 1) (p' := u167q133) dX11_init_167 nw_X7_init ni_X11_59 nj_X7_init rfl rfl (rt_kd_ge (by have := (rt_no_kd hp163q132); omega)) rfl rfl (Nat.le_of_ble_eq_true rfl) (Nat.le_of_ble_eq_true rfl) (by omega) hp167q133 (c_X7_init (by omega) (((p167q127.1 : Nat) : Int)) p163q132.2 _ (rt_no_kd hp163q132) (by omega) hu167q133) ?_
  have lp167q133 := rt_gc_le hp167q133
  obtain ⟨w170q135, hw170q135, h⟩ := Option.bind_eq_some_iff.mp h
  have gw170q135 := rt_lk_s hw170q135
  obtain ⟨m170q135, hm170q135, h⟩ := Option.bind_eq_some_iff.mp h
  refine RT.aastO 8 7 (pc := 170) (x := v159q131) (i := 11) (v := ((p167q127.1 : Nat) : Int)) (mem1 := m170q135) dX11_init_170 (by decide) rfl cl_X7 gw170q135 (rt_no_kd hp163q132) (show (((p167q127.1 : Nat) : Int)).toNat < p167q133.1 by omega) hm170q135 ?_
  refine RT.iinc (pc := 171) (x := 11) (L1 := [(2, a0), (0, 12)]) dX11_init_171 rfl (Nat.le_of_ble_eq_true rfl) ⟨by decide, by decide⟩ (by rw [show rt_iadd 11 1 = 12 from by decide]; rfl) ?_
  refine RT.goto (pc := 174) (tgt := 152) dX11_init_174 rfl ?_
  refine RT.iload_n (pc := 152) (k := 1) (x := 12) dX11_init_152 rfl ?_
  refine RT.bipush (pc := 153) (n := 16) dX11_init_153 ⟨by decide, by decide⟩ rfl ?_
  refine RT.icmp_ge (pc := 155) (tgt := 177) dX11_init_155 rfl (fun q => absurd q (by decide)) (fun _ => ?_)
  refine RT.aload_n (pc := 158) (k := 0) (x := a0) dX11_init_158 rfl ?_
  obtain ⟨v159q137, hv159q137, h⟩ := Option.bind_eq_some_iff.mp h
  refine RT.getf 11 4 (pc := 159) (x := a0) (v := v159q137) dX11_init_159 gl_X11_38 (show a0.toNat < p167q133.1 by omega) hv159q137 ?_
  refine RT.iload_n (pc := 162) (k := 1) (x := 12) dX11_init_162 rfl ?_
  obtain ⟨p163q138, hp163q138, h⟩ := Option.bind_eq_some_iff.mp h
  refine RT.no 7 (pc := 163) dX11_init_163 co_X11_36 ib_X7 it_X7 cl_X7 ff_X7 hp163q138 ?_
  have lp163q138 := rt_no_lt hp163q138
  refine RT.dup (pc := 166) dX11_init_166 (show ¬ ((2 : Nat) = 1) by decide) ?_
  obtain ⟨u167q139, hu167q139, h⟩ := Option.bind_eq_some_iff.mp h
  obtain ⟨p167q139, hp167q139, h⟩ := Option.bind_eq_some_iff.mp h
  refine RT.ci (pc := 167) (M' := M_X7_init) (x := ((p167q133.1 : Nat) : Int)) (As := []) (st := [(2, ((p167q133.1 : Nat) : Int)), (0, 12), (2, v159q137)]) (d' := d - 1) (p' := u167q139) dX11_init_167 nw_X7_init ni_X11_59 nj_X7_init rfl rfl (rt_kd_ge (by have := (rt_no_kd hp163q138); omega)) rfl rfl (Nat.le_of_ble_eq_true rfl) (Nat.le_of_ble_eq_true rfl) (by omega) hp167q139 (c_X7_init (by omega) (((p167q133.1 : Nat) : Int)) p163q138.2 _ (rt_no_kd hp163q138) (by omega) hu167q139) ?_
  have lp167q139 := rt_gc_le hp167q139
  obtain ⟨w170q141, hw170q141, h⟩ := Option.bind_eq_some_iff.mp h
  have gw170q141 := rt_lk_s hw170q141
  obtain ⟨m170q141, hm170q141, h⟩ := Option.bind_eq_some_iff.mp h
  refine RT.aastO 8 7 (pc := 170) (x := v159q137) (i := 12) (v := ((p167q133.1 : Nat) : Int)) (mem1 := m170q141) dX11_init_170 (by decide) rfl cl_X7 gw170q141 (rt_no_kd hp163q138) (show (((p167q133.1 : Nat) : Int)).toNat < p167q139.1 by omega) hm170q141 ?_
  refine RT.iinc (pc := 171) (x := 12) (L1 := [(2, a0), (0, 13)]) dX11_init_171 rfl (Nat.le_of_ble_eq_true rfl) ⟨by decide, by decide⟩ (by rw [show rt_iadd 12 1 = 13 from by decide]; rfl) ?_
  refine RT.goto (pc := 174) (tgt := 152) dX11_init_174 rfl ?_
  refine RT.iload_n (pc := 152) (k := 1) (x := 13) dX11_init_152 rfl ?_
  refine RT.bipush (pc := 153) (n := 16) dX11_init_153 ⟨by decide, by decide⟩ rfl ?_
  refine RT.icmp_ge (pc := 155) (tgt := 177) dX11_init_155 rfl (fun q => absurd q (by decide)) (fun _ => ?_)
  refine RT.aload_n (pc := 158) (k := 0) (x := a0) dX11_init_158 rfl ?_
  obtain ⟨v159q143, hv159q143, h⟩ := Option.bind_eq_some_iff.mp h
  refine RT.getf 11 4 (pc := 159) (x := a0) (v := v159q143) dX11_init_159 gl_X11_38 (show a0.toNat < p167q139.1 by omega) hv159q143 ?_
  refine RT.iload_n (pc := 162) (k := 1) (x := 13) dX11_init_162 rfl ?_
  obtain ⟨p163q144, hp163q144, h⟩ := Option.bind_eq_some_iff.mp h
  refine RT.no 7 (pc := 163) dX11_init_163 co_X11_36 ib_X7 it_X7 cl_X7 ff_X7 hp163q144 ?_
  have lp163q144 := rt_no_lt hp163q144
  refine RT.dup (pc := 166) dX11_init_166 (show ¬ ((2 : Nat) = 1) by decide) ?_
  obtain ⟨u167q145, hu167q145, h⟩ := Option.bind_eq_some_iff.mp h
  obtain ⟨p167q145, hp167q145, h⟩ := Option.bind_eq_some_iff.mp h
  refine RT.ci (pc := 167) (M' := M_X7_init) (x := ((p167q139.1 : Nat) : Int)) (As := []) (st := [(2, ((p167q139.1 : Nat) : Int)), (0, 13), (2, v159q143)]) (d' := d - 1) (p' := u167q145) dX11_init_167 nw_X7_init ni_X11_59 nj_X7_init rfl rfl (rt_kd_ge (by have := (rt_no_kd hp163q144); omega)) rfl rfl (Nat.le_of_ble_eq_true rfl) (Nat.le_of_ble_eq_true rfl) (by omega) hp167q145 (c_X7_init (by omega) (((p167q139.1 : Nat) : Int)) p163q144.2 _ (rt_no_kd hp163q144) (by omega) hu167q145) ?_
  have lp167q145 := rt_gc_le hp167q145
  obtain ⟨w170q147, hw170q147, h⟩ := Option.bind_eq_some_iff.mp h
  have gw170q147 := rt_lk_s hw170q147
  obtain ⟨m170q147, hm170q147, h⟩ := Option.bind_eq_some_iff.mp h
  refine RT.aastO 8 7 (pc := 170) (x := v159q143) (i := 13) (v := ((p167q139.1 : Nat) : Int)) (mem1 := m170q147) dX11_init_170 (by decide) rfl cl_X7 gw170q147 (rt_no_kd hp163q144) (show (((p167q139.1 : Nat) : Int)).toNat < p167q145.1 by omega) hm170q147 ?_
  refine RT.iinc (pc := 171) (x := 13) (L1 := [(2, a0), (0, 14)]) dX11_init_171 rfl (Nat.le_of_ble_eq_true rfl) ⟨by decide, by decide⟩ (by rw [show rt_iadd 13 1 = 14 from by decide]; rfl) ?_
  refine RT.goto (pc := 174) (tgt := 152) dX11_init_174 rfl ?_
  refine RT.iload_n (pc := 152) (k := 1) (x := 14) dX11_init_152 rfl ?_
  refine RT.bipush (pc := 153) (n := 16) dX11_init_153 ⟨by decide, by decide⟩ rfl ?_
  refine RT.icmp_ge (pc := 155) (tgt := 177) dX11_init_155 rfl (fun q => absurd q (by decide)) (fun _ => ?_)
  refine RT.aload_n (pc := 158) (k := 0) (x := a0) dX11_init_158 rfl ?_
  obtain ⟨v159q149, hv159q149, h⟩ := Option.bind_eq_some_iff.mp h
  refine RT.getf 11 4 (pc := 159) (x := a0) (v := v159q149) dX11_init_159 gl_X11_38 (show a0.toNat < p167q145.1 by omega) hv159q149 ?_
  refine RT.iload_n (pc := 162) (k := 1) (x := 14) dX11_init_162 rfl ?_
  obtain ⟨p163q150, hp163q150, h⟩ := Option.bind_eq_some_iff.mp h
  refine RT.no 7 (pc := 163) dX11_init_163 co_X11_36 ib_X7 it_X7 cl_X7 ff_X7 hp163q150 ?_
  have lp163q150 := rt_no_lt hp163q150
  refine RT.dup (pc := 166) dX11_init_166 (show ¬ ((2 : Nat) = 1) by decide) ?_
  obtain ⟨u167q151, hu167q151, h⟩ := Option.bind_eq_some_iff.mp h
  obtain ⟨p167q151, hp167q151, h⟩ := Option.bind_eq_some_iff.mp h
  refine RT.ci (pc := 167) (M' := M_X7_init) (x := ((p167q145.1 : Nat) : Int)) (As := []) (st := [(2, ((p167q145.1 : Nat) : Int)), (0, 14), (2, v159q149)]) (d' := d - 1) (p' := u167q151) dX11_init_167 nw_X7_init ni_X11_59 nj_X7_init rfl rfl (rt_kd_ge (by have := (rt_no_kd hp163q150); omega)) rfl rfl (Nat.le_of_ble_eq_true rfl) (Nat.le_of_ble_eq_true rfl) (by omega) hp167q151 (c_X7_init (by omega) (((p167q145.1 : Nat) : Int)) p163q150.2 _ (rt_no_kd hp163q150) (by omega) hu167q151) ?_
  have lp167q151 := rt_gc_le hp167q151
  obtain ⟨w170q153, hw170q153, h⟩ := Option.bind_eq_some_iff.mp h
  have gw170q153 := rt_lk_s hw170q153
  obtain ⟨m170q153, hm170q153, h⟩ := Option.bind_eq_some_iff.mp h
  refine RT.aastO 8 7 (pc := 170) (x := v159q149) (i := 14) (v := ((p167q145.1 : Nat) : Int)) (mem1 := m170q153) dX11_init_170 (by decide) rfl cl_X7 gw170q153 (rt_no_kd hp163q150) (show (((p167q145.1 : Nat) : Int)).toNat < p167q151.1 by omega) hm170q153 ?_
  refine RT.iinc (pc := 171) (x := 14) (L1 := [(2, a0), (0, 15)]) dX11_init_171 rfl (Nat.le_of_ble_eq_true rfl) ⟨by decide, by decide⟩ (by rw [show rt_iadd 14 1 = 15 from by decide]; rfl) ?_
  refine RT.goto (pc := 174) (tgt := 152) dX11_init_174 rfl ?_
  refine RT.iload_n (pc := 152) (k := 1) (x := 15) dX11_init_152 rfl ?_
  refine RT.bipush (pc := 153) (n := 16) dX11_init_153 ⟨by decide, by decide⟩ rfl ?_
  refine RT.icmp_ge (pc := 155) (tgt := 177) dX11_init_155 rfl (fun q => absurd q (by decide)) (fun _ => ?_)
  refine RT.aload_n (pc := 158) (k := 0) (x := a0) dX11_init_158 rfl ?_
  obtain ⟨v159q155, hv159q155, h⟩ := Option.bind_eq_some_iff.mp h
  refine RT.getf 11 4 (pc := 159) (x := a0) (v := v159q155) dX11_init_159 gl_X11_38 (show a0.toNat < p167q151.1 by omega) hv159q155 ?_
  refine RT.iload_n (pc := 162) (k := 1) (x := 15) dX11_init_162 rfl ?_
  obtain ⟨p163q156, hp163q156, h⟩ := Option.bind_eq_some_iff.mp h
  refine RT.no 7 (pc := 163) dX11_init_163 co_X11_36 ib_X7 it_X7 cl_X7 ff_X7 hp163q156 ?_
  have lp163q156 := rt_no_lt hp163q156
  refine RT.dup (pc := 166) dX11_init_166 (show ¬ ((2 : Nat) = 1) by decide) ?_
  obtain ⟨u167q157, hu167q157, h⟩ := Option.bind_eq_some_iff.mp h
  obtain ⟨p167q157, hp167q157, h⟩ := Option.bind_eq_some_iff.mp h
  refine RT.ci (pc := 167) (M' := M_X7_init) (x := ((p167q151.1 : Nat) : Int)) (As := []) (st := [(2, ((p167q151.1 : Nat) : Int)), (0, 15), (2, v159q155)]) (d' := d - 1) (p' := u167q157) dX11_init_167 nw_X7_init ni_X11_59 nj_X7_init rfl rfl (rt_kd_ge (by have := (rt_no_kd hp163q156); omega)) rfl rfl (Nat.le_of_ble_eq_true rfl) (Nat.le_of_ble_eq_true rfl) (by omega) hp167q157 (c_X7_init (by omega) (((p167q151.1 : Nat) : Int)) p163q156.2 _ (rt_no_kd hp163q156) (by omega) hu167q157) ?_
  have lp167q157 := rt_gc_le hp167q157
  obtain ⟨w170q159, hw170q159, h⟩ := Option.bind_eq_some_iff.mp h
  have gw170q159 := rt_lk_s hw170q159
  obtain ⟨m170q159, hm170q159, h⟩ := Option.bind_eq_some_iff.mp h
  refine RT.aastO 8 7 (pc := 170) (x := v159q155) (i := 15) (v := ((p167q151.1 : Nat) : Int)) (mem1 := m170q159) dX11_init_170 (by decide) rfl cl_X7 gw170q159 (rt_no_kd hp163q156) (show (((p167q151.1 : Nat) : Int)).toNat < p167q157.1 by omega) hm170q159 ?_
  refine RT.iinc (pc := 171) (x := 15) (L1 := [(2, a0), (0, 16)]) dX11_init_171 rfl (Nat.le_of_ble_eq_true rfl) ⟨by decide, by decide⟩ (by rw [show rt_iadd 15 1 = 16 from by decide]; rfl) ?_
  refine RT.goto (pc := 174) (tgt := 152) dX11_init_174 rfl ?_
  refine RT.iload_n (pc := 152) (k := 1) (x := 16) dX11_init_152 rfl ?_
  refine RT.bipush (pc := 153) (n := 16) dX11_init_153 ⟨by decide, by decide⟩ rfl ?_
  refine RT.icmp_ge (pc := 155) (tgt := 177) dX11_init_155 rfl (fun _ => ?_) (fun q => absurd (by decide) q)
  obtain ⟨e, y, x⟩ := rt_ge_s h
  subst e
  exact RT.vret (pc := 177) dX11_init_177 rfl y x hK
set_option maxHeartbeats 4000000 in
theorem c_X12_init {G : rt_G} {d k0 : Nat} (hd : 3 ≤ d) (a0 : Int) (mem0 : rt_M) (t : Nat × rt_M) (ht : rt_kd a0.toNat = 20 + 12) (hlt : a0.toNat < k0) (h : f_X12_init k0 a0 mem0 = some t) : RK G M_X12_init d [(2, a0)] k0 mem0 t := by
  suffices H : ∀ Q : rt_P, Q none (t.1, 0) t.2 → RT G M_X12_init d (k0, 0) Q 0 [(2, a0)] [] (k0, 0) mem0 from H _ ⟨rfl, rfl, rfl⟩
  intro Q hK
  unfold f_X12_init at h
  refine RT.aload_n (pc := 0) (k := 0) (x := a0) dX12_init_0 rfl ?_
  refine RT.objI (pc := 1) (x := a0) dX12_init_1 ol_X12_1 oi_inst oi_code (rt_kd_ge (by omega)) (by omega) (by decide) ?_
  refine RT.aload_n (pc := 4) (k := 0) (x := a0) dX12_init_4 rfl ?_
  refine RT.sipush (pc := 5) (n := 1000) dX12_init_5 ⟨by decide, by decide⟩ rfl ?_
  obtain ⟨p8q0, hp8q0, h⟩ := Option.bind_eq_some_iff.mp h
  refine RT.na 1 (pc := 8) (n := 1000) dX12_init_8 rfl ac_1 (by decide) hp8q0 ?_
  have lp8q0 := rt_na_lt hp8q0
  obtain ⟨m10q1, hm10q1, h⟩ := Option.bind_eq_some_iff.mp h
  refine RT.putfF 12 2 (pc := 10) (t := 2) (mem1 := m10q1) dX12_init_10 gl_X12_7 rfl rfl rfl hl_X12_7 rfl (nar_X12_2 _) (fit_X12_2 _) (show a0.toNat < p8q0.1 by omega) hm10q1 ?_
  refine RT.aload_n (pc := 13) (k := 0) (x := a0) dX12_init_13 rfl ?_
  refine RT.bipush (pc := 14) (n := 8) dX12_init_14 ⟨by decide, by decide⟩ rfl ?_
  obtain ⟨p16q2, hp16q2, h⟩ := Option.bind_eq_some_iff.mp h
  refine RT.na 1 (pc := 16) (n := 8) dX12_init_16 rfl ac_1 (by decide) hp16q2 ?_
  have lp16q2 := rt_na_lt hp16q2
  obtain ⟨m18q3, hm18q3, h⟩ := Option.bind_eq_some_iff.mp h
  refine RT.putfF 12 10 (pc := 18) (t := 2) (mem1 := m18q3) dX12_init_18 gl_X12_13 rfl rfl rfl hl_X12_13 rfl (nar_X12_10 _) (fit_X12_10 _) (show a0.toNat < p16q2.1 by omega) hm18q3 ?_
  refine RT.aload_n (pc := 21) (k := 0) (x := a0) dX12_init_21 rfl ?_
  refine RT.bipush (pc := 22) (n := 12) dX12_init_22 ⟨by decide, by decide⟩ rfl ?_
  obtain ⟨p24q4, hp24q4, h⟩ := Option.bind_eq_some_iff.mp h
  refine RT.na 2 (pc := 24) (n := 12) dX12_init_24 rfl ac_2 (by decide) hp24q4 ?_
  have lp24q4 := rt_na_lt hp24q4
  obtain ⟨m26q5, hm26q5, h⟩ := Option.bind_eq_some_iff.mp h
  refine RT.putfF 12 11 (pc := 26) (t := 2) (mem1 := m26q5) dX12_init_26 gl_X12_16 rfl rfl rfl hl_X12_16 rfl (nar_X12_11 _) (fit_X12_11 _) (show a0.toNat < p24q4.1 by omega) hm26q5 ?_
  refine RT.aload_n (pc := 29) (k := 0) (x := a0) dX12_init_29 rfl ?_
  refine RT.bipush (pc := 30) (n := 12) dX12_init_30 ⟨by decide, by decide⟩ rfl ?_
  obtain ⟨p32q6, hp32q6, h⟩ := Option.bind_eq_some_iff.mp h
  refine RT.na 2 (pc := 32) (n := 12) dX12_init_32 rfl ac_2 (by decide) hp32q6 ?_
  have lp32q6 := rt_na_lt hp32q6
  obtain ⟨m34q7, hm34q7, h⟩ := Option.bind_eq_some_iff.mp h
  refine RT.putfF 12 12 (pc := 34) (t := 2) (mem1 := m34q7) dX12_init_34 gl_X12_20 rfl rfl rfl hl_X12_20 rfl (nar_X12_12 _) (fit_X12_12 _) (show a0.toNat < p32q6.1 by omega) hm34q7 ?_
  refine RT.aload_n (pc := 37) (k := 0) (x := a0) dX12_init_37 rfl ?_
  refine RT.bipush (pc := 38) (n := 12) dX12_init_38 ⟨by decide, by decide⟩ rfl ?_
  obtain ⟨p40q8, hp40q8, h⟩ := Option.bind_eq_some_iff.mp h
  refine RT.na 1 (pc := 40) (n := 12) dX12_init_40 rfl ac_1 (by decide) hp40q8 ?_
  have lp40q8 := rt_na_lt hp40q8
  obtain ⟨m42q9, hm42q9, h⟩ := Option.bind_eq_some_iff.mp h
  refine RT.putfF 12 13 (pc := 42) (t := 2) (mem1 := m42q9) dX12_init_42 gl_X12_23 rfl rfl rfl hl_X12_23 rfl (nar_X12_13 _) (fit_X12_13 _) (show a0.toNat < p40q8.1 by omega) hm42q9 ?_
  refine RT.aload_n (pc := 45) (k := 0) (x := a0) dX12_init_45 rfl ?_
  refine RT.bipush (pc := 46) (n := 12) dX12_init_46 ⟨by decide, by decide⟩ rfl ?_
  obtain ⟨p48q10, hp48q10, h⟩ := Option.bind_eq_some_iff.mp h
  refine RT.na 1 (pc := 48) (n := 12) dX12_init_48 rfl ac_1 (by decide) hp48q10 ?_
  have lp48q10 := rt_na_lt hp48q10
  obtain ⟨m50q11, hm50q11, h⟩ := Option.bind_eq_some_iff.mp h
  refine RT.putfF 12 14 (pc := 50) (t := 2) (mem1 := m50q11) dX12_init_50 gl_X12_26 rfl rfl rfl hl_X12_26 rfl (nar_X12_14 _) (fit_X12_14 _) (show a0.toNat < p48q10.1 by omega) hm50q11 ?_
  refine RT.aload_n (pc := 53) (k := 0) (x := a0) dX12_init_53 rfl ?_
  refine RT.bipush (pc := 54) (n := 12) dX12_init_54 ⟨by decide, by decide⟩ rfl ?_
  obtain ⟨p56q12, hp56q12, h⟩ := Option.bind_eq_some_iff.mp h
  refine RT.na 1 (pc := 56) (n := 12) dX12_init_56 rfl ac_1 (by decide) hp56q12 ?_
  have lp56q12 := rt_na_lt hp56q12
  obtain ⟨m58q13, hm58q13, h⟩ := Option.bind_eq_some_iff.mp h
  refine RT.putfF 12 15 (pc := 58) (t := 2) (mem1 := m58q13) dX12_init_58 gl_X12_29 rfl rfl rfl hl_X12_29 rfl (nar_X12_15 _) (fit_X12_15 _) (show a0.toNat < p56q12.1 by omega) hm58q13 ?_
  refine RT.aload_n (pc := 61) (k := 0) (x := a0) dX12_init_61 rfl ?_
  refine RT.bipush (pc := 62) (n := 12) dX12_init_62 ⟨by decide, by decide⟩ rfl ?_
  obtain ⟨p64q14, hp64q14, h⟩ := Option.bind_eq_some_iff.mp h
  refine RT.na 1 (pc := 64) (n := 12) dX12_init_64 rfl ac_1 (by decide) hp64q14 ?_
  have lp64q14 := rt_na_lt hp64q14
  obtain ⟨m66q15, hm66q15, h⟩ := Option.bind_eq_some_iff.mp h
  refine RT.putfF 12 16 (pc := 66) (t := 2) (mem1 := m66q15) dX12_init_66 gl_X12_32 rfl rfl rfl hl_X12_32 rfl (nar_X12_16 _) (fit_X12_16 _) (show a0.toNat < p64q14.1 by omega) hm66q15 ?_
  refine RT.aload_n (pc := 69) (k := 0) (x := a0) dX12_init_69 rfl ?_
  refine RT.bipush (pc := 70) (n := 12) dX12_init_70 ⟨by decide, by decide⟩ rfl ?_
  obtain ⟨p72q16, hp72q16, h⟩ := Option.bind_eq_some_iff.mp h
  refine RT.na 1 (pc := 72) (n := 12) dX12_init_72 rfl ac_1 (by decide) hp72q16 ?_
  have lp72q16 := rt_na_lt hp72q16
  obtain ⟨m74q17, hm74q17, h⟩ := Option.bind_eq_some_iff.mp h
  refine RT.putfF 12 17 (pc := 74) (t := 2) (mem1 := m74q17) dX12_init_74 gl_X12_35 rfl rfl rfl hl_X12_35 rfl (nar_X12_17 _) (fit_X12_17 _) (show a0.toNat < p72q16.1 by omega) hm74q17 ?_
  refine RT.aload_n (pc := 77) (k := 0) (x := a0) dX12_init_77 rfl ?_
  refine RT.bipush (pc := 78) (n := 12) dX12_init_78 ⟨by decide, by decide⟩ rfl ?_
  obtain ⟨p80q18, hp80q18, h⟩ := Option.bind_eq_some_iff.mp h
  refine RT.na 1 (pc := 80) (n := 12) dX12_init_80 rfl ac_1 (by decide) hp80q18 ?_
  have lp80q18 := rt_na_lt hp80q18
  obtain ⟨m82q19, hm82q19, h⟩ := Option.bind_eq_some_iff.mp h
  refine RT.putfF 12 18 (pc := 82) (t := 2) (mem1 := m82q19) dX12_init_82 gl_X12_38 rfl rfl rfl hl_X12_38 rfl (nar_X12_18 _) (fit_X12_18 _) (show a0.toNat < p80q18.1 by omega) hm82q19 ?_
  refine RT.aload_n (pc := 85) (k := 0) (x := a0) dX12_init_85 rfl ?_
  refine RT.bipush (pc := 86) (n := 12) dX12_init_86 ⟨by decide, by decide⟩ rfl ?_
  obtain ⟨p88q20, hp88q20, h⟩ := Option.bind_eq_some_iff.mp h
  refine RT.na 1 (pc := 88) (n := 12) dX12_init_88 rfl ac_1 (by decide) hp88q20 ?_
  have lp88q20 := rt_na_lt hp88q20
  obtain ⟨m90q21, hm90q21, h⟩ := Option.bind_eq_some_iff.mp h
  refine RT.putfF 12 19 (pc := 90) (t := 2) (mem1 := m90q21) dX12_init_90 gl_X12_41 rfl rfl rfl hl_X12_41 rfl (nar_X12_19 _) (fit_X12_19 _) (show a0.toNat < p88q20.1 by omega) hm90q21 ?_
  refine RT.aload_n (pc := 93) (k := 0) (x := a0) dX12_init_93 rfl ?_
  refine RT.bipush (pc := 94) (n := 24) dX12_init_94 ⟨by decide, by decide⟩ rfl ?_
  obtain ⟨p96q22, hp96q22, h⟩ := Option.bind_eq_some_iff.mp h
  refine RT.na 1 (pc := 96) (n := 24) dX12_init_96 rfl ac_1 (by decide) hp96q22 ?_
  have lp96q22 := rt_na_lt hp96q22
  obtain ⟨m98q23, hm98q23, h⟩ := Option.bind_eq_some_iff.mp h
  refine RT.putfF 12 20 (pc := 98) (t := 2) (mem1 := m98q23) dX12_init_98 gl_X12_44 rfl rfl rfl hl_X12_44 rfl (nar_X12_20 _) (fit_X12_20 _) (show a0.toNat < p96q22.1 by omega) hm98q23 ?_
  refine RT.aload_n (pc := 101) (k := 0) (x := a0) dX12_init_101 rfl ?_
  refine RT.iconst (pc := 102) (n := 4) dX12_init_102 ⟨by decide, by decide⟩ ?_
  obtain ⟨p103q24, hp103q24, h⟩ := Option.bind_eq_some_iff.mp h
  refine RT.na 1 (pc := 103) (n := 4) dX12_init_103 rfl ac_1 (by decide) hp103q24 ?_
  have lp103q24 := rt_na_lt hp103q24
  obtain ⟨m105q25, hm105q25, h⟩ := Option.bind_eq_some_iff.mp h
  refine RT.putfF 12 21 (pc := 105) (t := 2) (mem1 := m105q25) dX12_init_105 gl_X12_47 rfl rfl rfl hl_X12_47 rfl (nar_X12_21 _) (fit_X12_21 _) (show a0.toNat < p103q24.1 by omega) hm105q25 ?_
  refine RT.aload_n (pc := 108) (k := 0) (x := a0) dX12_init_108 rfl ?_
  refine RT.iconst (pc := 109) (n := 4) dX12_init_109 ⟨by decide, by decide⟩ ?_
  obtain ⟨p110q26, hp110q26, h⟩ := Option.bind_eq_some_iff.mp h
  refine RT.na 1 (pc := 110) (n := 4) dX12_init_110 rfl ac_1 (by decide) hp110q26 ?_
  have lp110q26 := rt_na_lt hp110q26
  obtain ⟨m112q27, hm112q27, h⟩ := Option.bind_eq_some_iff.mp h
  refine RT.putfF 12 22 (pc := 112) (t := 2) (mem1 := m112q27) dX12_init_112 gl_X12_50 rfl rfl rfl hl_X12_50 rfl (nar_X12_22 _) (fit_X12_22 _) (show a0.toNat < p110q26.1 by omega) hm112q27 ?_
  refine RT.aload_n (pc := 115) (k := 0) (x := a0) dX12_init_115 rfl ?_
  refine RT.sipush (pc := 116) (n := 2000) dX12_init_116 ⟨by decide, by decide⟩ rfl ?_
  obtain ⟨p119q28, hp119q28, h⟩ := Option.bind_eq_some_iff.mp h
  refine RT.na 1 (pc := 119) (n := 2000) dX12_init_119 rfl ac_1 (by decide) hp119q28 ?_
  have lp119q28 := rt_na_lt hp119q28
  obtain ⟨m121q29, hm121q29, h⟩ := Option.bind_eq_some_iff.mp h
  refine RT.putfF 12 23 (pc := 121) (t := 2) (mem1 := m121q29) dX12_init_121 gl_X12_53 rfl rfl rfl hl_X12_53 rfl (nar_X12_23 _) (fit_X12_23 _) (show a0.toNat < p119q28.1 by omega) hm121q29 ?_
  refine RT.aload_n (pc := 124) (k := 0) (x := a0) dX12_init_124 rfl ?_
  refine RT.bipush (pc := 125) (n := 7) dX12_init_125 ⟨by decide, by decide⟩ rfl ?_
  obtain ⟨p127q30, hp127q30, h⟩ := Option.bind_eq_some_iff.mp h
  refine RT.na 1 (pc := 127) (n := 7) dX12_init_127 rfl ac_1 (by decide) hp127q30 ?_
  have lp127q30 := rt_na_lt hp127q30
  obtain ⟨m129q31, hm129q31, h⟩ := Option.bind_eq_some_iff.mp h
  refine RT.putfF 12 27 (pc := 129) (t := 2) (mem1 := m129q31) dX12_init_129 gl_X12_56 rfl rfl rfl hl_X12_56 rfl (nar_X12_27 _) (fit_X12_27 _) (show a0.toNat < p127q30.1 by omega) hm129q31 ?_
  refine RT.aload_n (pc := 132) (k := 0) (x := a0) dX12_init_132 rfl ?_
  refine RT.bipush (pc := 133) (n := 7) dX12_init_133 ⟨by decide, by decide⟩ rfl ?_
  obtain ⟨p135q32, hp135q32, h⟩ := Option.bind_eq_some_iff.mp h
  refine RT.na 3 (pc := 135) (n := 7) dX12_init_135 rfl ac_3 (by decide) hp135q32 ?_
  have lp135q32 := rt_na_lt hp135q32
  obtain ⟨m137q33, hm137q33, h⟩ := Option.bind_eq_some_iff.mp h
  refine RT.putfF 12 28 (pc := 137) (t := 2) (mem1 := m137q33) dX12_init_137 gl_X12_59 rfl rfl rfl hl_X12_59 rfl (nar_X12_28 _) (fit_X12_28 _) (show a0.toNat < p135q32.1 by omega) hm137q33 ?_
  refine RT.aload_n (pc := 140) (k := 0) (x := a0) dX12_init_140 rfl ?_
  refine RT.bipush (pc := 141) (n := 7) dX12_init_141 ⟨by decide, by decide⟩ rfl ?_
  obtain ⟨p143q34, hp143q34, h⟩ := Option.bind_eq_some_iff.mp h
  refine RT.na 1 (pc := 143) (n := 7) dX12_init_143 rfl ac_1 (by decide) hp143q34 ?_
  have lp143q34 := rt_na_lt hp143q34
  obtain ⟨m145q35, hm145q35, h⟩ := Option.bind_eq_some_iff.mp h
  refine RT.putfF 12 29 (pc := 145) (t := 2) (mem1 := m145q35) dX12_init_145 gl_X12_63 rfl rfl rfl hl_X12_63 rfl (nar_X12_29 _) (fit_X12_29 _) (show a0.toNat < p143q34.1 by omega) hm145q35 ?_
  refine RT.aload_n (pc := 148) (k := 0) (x := a0) dX12_init_148 rfl ?_
  refine RT.bipush (pc := 149) (n := 7) dX12_init_149 ⟨by decide, by decide⟩ rfl ?_
  obtain ⟨p151q36, hp151q36, h⟩ := Option.bind_eq_some_iff.mp h
  refine RT.na 1 (pc := 151) (n := 7) dX12_init_151 rfl ac_1 (by decide) hp151q36 ?_
  have lp151q36 := rt_na_lt hp151q36
  obtain ⟨m153q37, hm153q37, h⟩ := Option.bind_eq_some_iff.mp h
  refine RT.putfF 12 30 (pc := 153) (t := 2) (mem1 := m153q37) dX12_init_153 gl_X12_66 rfl rfl rfl hl_X12_66 rfl (nar_X12_30 _) (fit_X12_30 _) (show a0.toNat < p151q36.1 by omega) hm153q37 ?_
  refine RT.aload_n (pc := 156) (k := 0) (x := a0) dX12_init_156 rfl ?_
  refine RT.bipush (pc := 157) (n := 7) dX12_init_157 ⟨by decide, by decide⟩ rfl ?_
  obtain ⟨p159q38, hp159q38, h⟩ := Option.bind_eq_some_iff.mp h
  refine RT.na 1 (pc := 159) (n := 7) dX12_init_159 rfl ac_1 (by decide) hp159q38 ?_
  have lp159q38 := rt_na_lt hp159q38
  obtain ⟨m161q39, hm161q39, h⟩ := Option.bind_eq_some_iff.mp h
  refine RT.putfF 12 31 (pc := 161) (t := 2) (mem1 := m161q39) dX12_init_161 gl_X12_69 rfl rfl rfl hl_X12_69 rfl (nar_X12_31 _) (fit_X12_31 _) (show a0.toNat < p159q38.1 by omega) hm161q39 ?_
  refine RT.aload_n (pc := 164) (k := 0) (x := a0) dX12_init_164 rfl ?_
  refine RT.bipush (pc := 165) (n := 7) dX12_init_165 ⟨by decide, by decide⟩ rfl ?_
  obtain ⟨p167q40, hp167q40, h⟩ := Option.bind_eq_some_iff.mp h
  refine RT.na 1 (pc := 167) (n := 7) dX12_init_167 rfl ac_1 (by decide) hp167q40 ?_
  have lp167q40 := rt_na_lt hp167q40
  obtain ⟨m169q41, hm169q41, h⟩ := Option.bind_eq_some_iff.mp h
  refine RT.putfF 12 32 (pc := 169) (t := 2) (mem1 := m169q41) dX12_init_169 gl_X12_72 rfl rfl rfl hl_X12_72 rfl (nar_X12_32 _) (fit_X12_32 _) (show a0.toNat < p167q40.1 by omega) hm169q41 ?_
  refine RT.aload_n (pc := 172) (k := 0) (x := a0) dX12_init_172 rfl ?_
  refine RT.bipush (pc := 173) (n := 7) dX12_init_173 ⟨by decide, by decide⟩ rfl ?_
  obtain ⟨p175q42, hp175q42, h⟩ := Option.bind_eq_some_iff.mp h
  refine RT.na 1 (pc := 175) (n := 7) dX12_init_175 rfl ac_1 (by decide) hp175q42 ?_
  have lp175q42 := rt_na_lt hp175q42
  obtain ⟨m177q43, hm177q43, h⟩ := Option.bind_eq_some_iff.mp h
  refine RT.putfF 12 33 (pc := 177) (t := 2) (mem1 := m177q43) dX12_init_177 gl_X12_75 rfl rfl rfl hl_X12_75 rfl (nar_X12_33 _) (fit_X12_33 _) (show a0.toNat < p175q42.1 by omega) hm177q43 ?_
  refine RT.aload_n (pc := 180) (k := 0) (x := a0) dX12_init_180 rfl ?_
  refine RT.bipush (pc := 181) (n := 7) dX12_init_181 ⟨by decide, by decide⟩ rfl ?_
  obtain ⟨p183q44, hp183q44, h⟩ := Option.bind_eq_some_iff.mp h
  refine RT.na 1 (pc := 183) (n := 7) dX12_init_183 rfl ac_1 (by decide) hp183q44 ?_
  have lp183q44 := rt_na_lt hp183q44
  obtain ⟨m185q45, hm185q45, h⟩ := Option.bind_eq_some_iff.mp h
  refine RT.putfF 12 34 (pc := 185) (t := 2) (mem1 := m185q45) dX12_init_185 gl_X12_78 rfl rfl rfl hl_X12_78 rfl (nar_X12_34 _) (fit_X12_34 _) (show a0.toNat < p183q44.1 by omega) hm185q45 ?_
  refine RT.aload_n (pc := 188) (k := 0) (x := a0) dX12_init_188 rfl ?_
  refine RT.bipush (pc := 189) (n := 7) dX12_init_189 ⟨by decide, by decide⟩ rfl ?_
  obtain ⟨p191q46, hp191q46, h⟩ := Option.bind_eq_some_iff.mp h
  refine RT.na 1 (pc := 191) (n := 7) dX12_init_191 rfl ac_1 (by decide) hp191q46 ?_
  have lp191q46 := rt_na_lt hp191q46
  obtain ⟨m193q47, hm193q47, h⟩ := Option.bind_eq_some_iff.mp h
  refine RT.putfF 12 35 (pc := 193) (t := 2) (mem1 := m193q47) dX12_init_193 gl_X12_81 rfl rfl rfl hl_X12_81 rfl (nar_X12_35 _) (fit_X12_35 _) (show a0.toNat < p191q46.1 by omega) hm193q47 ?_
  refine RT.aload_n (pc := 196) (k := 0) (x := a0) dX12_init_196 rfl ?_
  refine RT.bipush (pc := 197) (n := 7) dX12_init_197 ⟨by decide, by decide⟩ rfl ?_
  obtain ⟨p199q48, hp199q48, h⟩ := Option.bind_eq_some_iff.mp h
  refine RT.na 1 (pc := 199) (n := 7) dX12_init_199 rfl ac_1 (by decide) hp199q48 ?_
  have lp199q48 := rt_na_lt hp199q48
  obtain ⟨m201q49, hm201q49, h⟩ := Option.bind_eq_some_iff.mp h
  refine RT.putfF 12 36 (pc := 201) (t := 2) (mem1 := m201q49) dX12_init_201 gl_X12_84 rfl rfl rfl hl_X12_84 rfl (nar_X12_36 _) (fit_X12_36 _) (show a0.toNat < p199q48.1 by omega) hm201q49 ?_
  refine RT.aload_n (pc := 204) (k := 0) (x := a0) dX12_init_204 rfl ?_
  refine RT.bipush (pc := 205) (n := 7) dX12_init_205 ⟨by decide, by decide⟩ rfl ?_
  obtain ⟨p207q50, hp207q50, h⟩ := Option.bind_eq_some_iff.mp h
  refine RT.na 1 (pc := 207) (n := 7) dX12_init_207 rfl ac_1 (by decide) hp207q50 ?_
  have lp207q50 := rt_na_lt hp207q50
  obtain ⟨m209q51, hm209q51, h⟩ := Option.bind_eq_some_iff.mp h
  refine RT.putfF 12 37 (pc := 209) (t := 2) (mem1 := m209q51) dX12_init_209 gl_X12_87 rfl rfl rfl hl_X12_87 rfl (nar_X12_37 _) (fit_X12_37 _) (show a0.toNat < p207q50.1 by omega) hm209q51 ?_
  refine RT.aload_n (pc := 212) (k := 0) (x := a0) dX12_init_212 rfl ?_
  refine RT.bipush (pc := 213) (n := 20) dX12_init_213 ⟨by decide, by decide⟩ rfl ?_
  obtain ⟨p215q52, hp215q52, h⟩ := Option.bind_eq_some_iff.mp h
  refine RT.na 1 (pc := 215) (n := 20) dX12_init_215 rfl ac_1 (by decide) hp215q52 ?_
  have lp215q52 := rt_na_lt hp215q52
  obtain ⟨m217q53, hm217q53, h⟩ := Option.bind_eq_some_iff.mp h
  refine RT.putfF 12 38 (pc := 217) (t := 2) (mem1 := m217q53) dX12_init_217 gl_X12_90 rfl rfl rfl hl_X12_90 rfl (nar_X12_38 _) (fit_X12_38 _) (show a0.toNat < p215q52.1 by omega) hm217q53 ?_
  refine RT.aload_n (pc := 220) (k := 0) (x := a0) dX12_init_220 rfl ?_
  refine RT.bipush (pc := 221) (n := 6) dX12_init_221 ⟨by decide, by decide⟩ rfl ?_
  obtain ⟨p223q54, hp223q54, h⟩ := Option.bind_eq_some_iff.mp h
  refine RT.na 1 (pc := 223) (n := 6) dX12_init_223 rfl ac_1 (by decide) hp223q54 ?_
  have lp223q54 := rt_na_lt hp223q54
  obtain ⟨m225q55, hm225q55, h⟩ := Option.bind_eq_some_iff.mp h
  refine RT.putfF 12 41 (pc := 225) (t := 2) (mem1 := m225q55) dX12_init_225 gl_X12_93 rfl rfl rfl hl_X12_93 rfl (nar_X12_41 _) (fit_X12_41 _) (show a0.toNat < p223q54.1 by omega) hm225q55 ?_
  refine RT.aload_n (pc := 228) (k := 0) (x := a0) dX12_init_228 rfl ?_
  refine RT.sipush (pc := 229) (n := 240) dX12_init_229 ⟨by decide, by decide⟩ rfl ?_
  obtain ⟨p232q56, hp232q56, h⟩ := Option.bind_eq_some_iff.mp h
  refine RT.na 1 (pc := 232) (n := 240) dX12_init_232 rfl ac_1 (by decide) hp232q56 ?_
  have lp232q56 := rt_na_lt hp232q56
  obtain ⟨m234q57, hm234q57, h⟩ := Option.bind_eq_some_iff.mp h
  refine RT.putfF 12 42 (pc := 234) (t := 2) (mem1 := m234q57) dX12_init_234 gl_X12_96 rfl rfl rfl hl_X12_96 rfl (nar_X12_42 _) (fit_X12_42 _) (show a0.toNat < p232q56.1 by omega) hm234q57 ?_
  refine RT.aload_n (pc := 237) (k := 0) (x := a0) dX12_init_237 rfl ?_
  refine RT.sipush (pc := 238) (n := 240) dX12_init_238 ⟨by decide, by decide⟩ rfl ?_
  obtain ⟨p241q58, hp241q58, h⟩ := Option.bind_eq_some_iff.mp h
  refine RT.na 1 (pc := 241) (n := 240) dX12_init_241 rfl ac_1 (by decide) hp241q58 ?_
  have lp241q58 := rt_na_lt hp241q58
  obtain ⟨m243q59, hm243q59, h⟩ := Option.bind_eq_some_iff.mp h
  refine RT.putfF 12 43 (pc := 243) (t := 2) (mem1 := m243q59) dX12_init_243 gl_X12_99 rfl rfl rfl hl_X12_99 rfl (nar_X12_43 _) (fit_X12_43 _) (show a0.toNat < p241q58.1 by omega) hm243q59 ?_
  refine RT.aload_n (pc := 246) (k := 0) (x := a0) dX12_init_246 rfl ?_
  refine RT.sipush (pc := 247) (n := 240) dX12_init_247 ⟨by decide, by decide⟩ rfl ?_
  obtain ⟨p250q60, hp250q60, h⟩ := Option.bind_eq_some_iff.mp h
  refine RT.na 1 (pc := 250) (n := 240) dX12_init_250 rfl ac_1 (by decide) hp250q60 ?_
  have lp250q60 := rt_na_lt hp250q60
  obtain ⟨m252q61, hm252q61, h⟩ := Option.bind_eq_some_iff.mp h
  refine RT.putfF 12 44 (pc := 252) (t := 2) (mem1 := m252q61) dX12_init_252 gl_X12_102 rfl rfl rfl hl_X12_102 rfl (nar_X12_44 _) (fit_X12_44 _) (show a0.toNat < p250q60.1 by omega) hm252q61 ?_
  refine RT.aload_n (pc := 255) (k := 0) (x := a0) dX12_init_255 rfl ?_
  refine RT.iconst (pc := 256) (n := 5) dX12_init_256 ⟨by decide, by decide⟩ ?_
  obtain ⟨p257q62, hp257q62, h⟩ := Option.bind_eq_some_iff.mp h
  refine RT.na 1 (pc := 257) (n := 5) dX12_init_257 rfl ac_1 (by decide) hp257q62 ?_
  have lp257q62 := rt_na_lt hp257q62
  obtain ⟨m259q63, hm259q63, h⟩ := Option.bind_eq_some_iff.mp h
  refine RT.putfF 12 45 (pc := 259) (t := 2) (mem1 := m259q63) dX12_init_259 gl_X12_105 rfl rfl rfl hl_X12_105 rfl (nar_X12_45 _) (fit_X12_45 _) (show a0.toNat < p257q62.1 by omega) hm259q63 ?_
  refine RT.aload_n (pc := 262) (k := 0) (x := a0) dX12_init_262 rfl ?_
  refine RT.bipush (pc := 263) (n := 40) dX12_init_263 ⟨by decide, by decide⟩ rfl ?_
  obtain ⟨p265q64, hp265q64, h⟩ := Option.bind_eq_some_iff.mp h
  refine RT.na 1 (pc := 265) (n := 40) dX12_init_265 rfl ac_1 (by decide) hp265q64 ?_
  have lp265q64 := rt_na_lt hp265q64
  obtain ⟨m267q65, hm267q65, h⟩ := Option.bind_eq_some_iff.mp h
  refine RT.putfF 12 46 (pc := 267) (t := 2) (mem1 := m267q65) dX12_init_267 gl_X12_108 rfl rfl rfl hl_X12_108 rfl (nar_X12_46 _) (fit_X12_46 _) (show a0.toNat < p265q64.1 by omega) hm267q65 ?_
  refine RT.aload_n (pc := 270) (k := 0) (x := a0) dX12_init_270 rfl ?_
  refine RT.bipush (pc := 271) (n := 40) dX12_init_271 ⟨by decide, by decide⟩ rfl ?_
  obtain ⟨p273q66, hp273q66, h⟩ := Option.bind_eq_some_iff.mp h
  refine RT.na 1 (pc := 273) (n := 40) dX12_init_273 rfl ac_1 (by decide) hp273q66 ?_
  have lp273q66 := rt_na_lt hp273q66
  obtain ⟨m275q67, hm275q67, h⟩ := Option.bind_eq_some_iff.mp h
  refine RT.putfF 12 47 (pc := 275) (t := 2) (mem1 := m275q67) dX12_init_275 gl_X12_111 rfl rfl rfl hl_X12_111 rfl (nar_X12_47 _) (fit_X12_47 _) (show a0.toNat < p273q66.1 by omega) hm275q67 ?_
  refine RT.aload_n (pc := 278) (k := 0) (x := a0) dX12_init_278 rfl ?_
  refine RT.bipush (pc := 279) (n := 40) dX12_init_279 ⟨by decide, by decide⟩ rfl ?_
  obtain ⟨p281q68, hp281q68, h⟩ := Option.bind_eq_some_iff.mp h
  refine RT.na 3 (pc := 281) (n := 40) dX12_init_281 rfl ac_3 (by decide) hp281q68 ?_
  have lp281q68 := rt_na_lt hp281q68
  obtain ⟨m283q69, hm283q69, h⟩ := Option.bind_eq_some_iff.mp h
  refine RT.putfF 12 48 (pc := 283) (t := 2) (mem1 := m283q69) dX12_init_283 gl_X12_114 rfl rfl rfl hl_X12_114 rfl (nar_X12_48 _) (fit_X12_48 _) (show a0.toNat < p281q68.1 by omega) hm283q69 ?_
  refine RT.aload_n (pc := 286) (k := 0) (x := a0) dX12_init_286 rfl ?_
  refine RT.bipush (pc := 287) (n := 30) dX12_init_287 ⟨by decide, by decide⟩ rfl ?_
  obtain ⟨p289q70, hp289q70, h⟩ := Option.bind_eq_some_iff.mp h
  refine RT.na 1 (pc := 289) (n := 30) dX12_init_289 rfl ac_1 (by decide) hp289q70 ?_
  have lp289q70 := rt_na_lt hp289q70
  obtain ⟨m291q71, hm291q71, h⟩ := Option.bind_eq_some_iff.mp h
  refine RT.putfF 12 49 (pc := 291) (t := 2) (mem1 := m291q71) dX12_init_291 gl_X12_117 rfl rfl rfl hl_X12_117 rfl (nar_X12_49 _) (fit_X12_49 _) (show a0.toNat < p289q70.1 by omega) hm291q71 ?_
  refine RT.aload_n (pc := 294) (k := 0) (x := a0) dX12_init_294 rfl ?_
  refine RT.bipush (pc := 295) (n := 13) dX12_init_295 ⟨by decide, by decide⟩ rfl ?_
  obtain ⟨p297q72, hp297q72, h⟩ := Option.bind_eq_some_iff.mp h
  refine RT.na 1 (pc := 297) (n := 13) dX12_init_297 rfl ac_1 (by decide) hp297q72 ?_
  have lp297q72 := rt_na_lt hp297q72
  obtain ⟨m299q73, hm299q73, h⟩ := Option.bind_eq_some_iff.mp h
  refine RT.putfF 12 50 (pc := 299) (t := 2) (mem1 := m299q73) dX12_init_299 gl_X12_120 rfl rfl rfl hl_X12_120 rfl (nar_X12_50 _) (fit_X12_50 _) (show a0.toNat < p297q72.1 by omega) hm299q73 ?_
  refine RT.aload_n (pc := 302) (k := 0) (x := a0) dX12_init_302 rfl ?_
  refine RT.bipush (pc := 303) (n := 13) dX12_init_303 ⟨by decide, by decide⟩ rfl ?_
  obtain ⟨p305q74, hp305q74, h⟩ := Option.bind_eq_some_iff.mp h
  refine RT.na 1 (pc := 305) (n := 13) dX12_init_305 rfl ac_1 (by decide) hp305q74 ?_
  have lp305q74 := rt_na_lt hp305q74
  obtain ⟨m307q75, hm307q75, h⟩ := Option.bind_eq_some_iff.mp h
  refine RT.putfF 12 51 (pc := 307) (t := 2) (mem1 := m307q75) dX12_init_307 gl_X12_123 rfl rfl rfl hl_X12_123 rfl (nar_X12_51 _) (fit_X12_51 _) (show a0.toNat < p305q74.1 by omega) hm307q75 ?_
  refine RT.aload_n (pc := 310) (k := 0) (x := a0) dX12_init_310 rfl ?_
  refine RT.bipush (pc := 311) (n := 52) dX12_init_311 ⟨by decide, by decide⟩ rfl ?_
  obtain ⟨p313q76, hp313q76, h⟩ := Option.bind_eq_some_iff.mp h
  refine RT.na 1 (pc := 313) (n := 52) dX12_init_313 rfl ac_1 (by decide) hp313q76 ?_
  have lp313q76 := rt_na_lt hp313q76
  obtain ⟨m315q77, hm315q77, h⟩ := Option.bind_eq_some_iff.mp h
  refine RT.putfF 12 52 (pc := 315) (t := 2) (mem1 := m315q77) dX12_init_315 gl_X12_126 rfl rfl rfl hl_X12_126 rfl (nar_X12_52 _) (fit_X12_52 _) (show a0.toNat < p313q76.1 by omega) hm315q77 ?_
  refine RT.aload_n (pc := 318) (k := 0) (x := a0) dX12_init_318 rfl ?_
  refine RT.sipush (pc := 319) (n := 208) dX12_init_319 ⟨by decide, by decide⟩ rfl ?_
  obtain ⟨p322q78, hp322q78, h⟩ := Option.bind_eq_some_iff.mp h
  refine RT.na 1 (pc := 322) (n := 208) dX12_init_322 rfl ac_1 (by decide) hp322q78 ?_
  have lp322q78 := rt_na_lt hp322q78
  obtain ⟨m324q79, hm324q79, h⟩ := Option.bind_eq_some_iff.mp h
  refine RT.putfF 12 53 (pc := 324) (t := 2) (mem1 := m324q79) dX12_init_324 gl_X12_129 rfl rfl rfl hl_X12_129 rfl (nar_X12_53 _) (fit_X12_53 _) (show a0.toNat < p322q78.1 by omega) hm324q79 ?_
  refine RT.aload_n (pc := 327) (k := 0) (x := a0) dX12_init_327 rfl ?_
  refine RT.iconst (pc := 328) (n := 4) dX12_init_328 ⟨by decide, by decide⟩ ?_
  obtain ⟨p329q80, hp329q80, h⟩ := Option.bind_eq_some_iff.mp h
  refine RT.na 3 (pc := 329) (n := 4) dX12_init_329 rfl ac_3 (by decide) hp329q80 ?_
  have lp329q80 := rt_na_lt hp329q80
  obtain ⟨m331q81, hm331q81, h⟩ := Option.bind_eq_some_iff.mp h
  refine RT.putfF 12 54 (pc := 331) (t := 2) (mem1 := m331q81) dX12_init_331 gl_X12_132 rfl rfl rfl hl_X12_132 rfl (nar_X12_54 _) (fit_X12_54 _) (show a0.toNat < p329q80.1 by omega) hm331q81 ?_
  refine RT.aload_n (pc := 334) (k := 0) (x := a0) dX12_init_334 rfl ?_
  refine RT.bipush (pc := 335) (n := 6) dX12_init_335 ⟨by decide, by decide⟩ rfl ?_
  obtain ⟨p337q82, hp337q82, h⟩ := Option.bind_eq_some_iff.mp h
  refine RT.na 1 (pc := 337) (n := 6) dX12_init_337 rfl ac_1 (by decide) hp337q82 ?_
  have lp337q82 := rt_na_lt hp337q82
  obtain ⟨m339q83, hm339q83, h⟩ := Option.bind_eq_some_iff.mp h
  refine RT.putfF 12 56 (pc := 339) (t := 2) (mem1 := m339q83) dX12_init_339 gl_X12_135 rfl rfl rfl hl_X12_135 rfl (nar_X12_56 _) (fit_X12_56 _) (show a0.toNat < p337q82.1 by omega) hm339q83 ?_
  refine RT.aload_n (pc := 342) (k := 0) (x := a0) dX12_init_342 rfl ?_
  refine RT.bipush (pc := 343) (n := 6) dX12_init_343 ⟨by decide, by decide⟩ rfl ?_
  obtain ⟨p345q84, hp345q84, h⟩ := Option.bind_eq_some_iff.mp h
  refine RT.na 1 (pc := 345) (n := 6) dX12_init_345 rfl ac_1 (by decide) hp345q84 ?_
  have lp345q84 := rt_na_lt hp345q84
  obtain ⟨m347q85, hm347q85, h⟩ := Option.bind_eq_some_iff.mp h
  refine RT.putfF 12 57 (pc := 347) (t := 2) (mem1 := m347q85) dX12_init_347 gl_X12_138 rfl rfl rfl hl_X12_138 rfl (nar_X12_57 _) (fit_X12_57 _) (show a0.toNat < p345q84.1 by omega) hm347q85 ?_
  refine RT.aload_n (pc := 350) (k := 0) (x := a0) dX12_init_350 rfl ?_
  refine RT.bipush (pc := 351) (n := 36) dX12_init_351 ⟨by decide, by decide⟩ rfl ?_
  obtain ⟨p353q86, hp353q86, h⟩ := Option.bind_eq_some_iff.mp h
  refine RT.na 3 (pc := 353) (n := 36) dX12_init_353 rfl ac_3 (by decide) hp353q86 ?_
  have lp353q86 := rt_na_lt hp353q86
  obtain ⟨m355q87, hm355q87, h⟩ := Option.bind_eq_some_iff.mp h
  refine RT.putfF 12 60 (pc := 355) (t := 2) (mem1 := m355q87) dX12_init_355 gl_X12_141 rfl rfl rfl hl_X12_141 rfl (nar_X12_60 _) (fit_X12_60 _) (show a0.toNat < p353q86.1 by omega) hm355q87 ?_
  refine RT.aload_n (pc := 358) (k := 0) (x := a0) dX12_init_358 rfl ?_
  refine RT.bipush (pc := 359) (n := 65) dX12_init_359 ⟨by decide, by decide⟩ rfl ?_
  obtain ⟨p361q88, hp361q88, h⟩ := Option.bind_eq_some_iff.mp h
  refine RT.na 1 (pc := 361) (n := 65) dX12_init_361 rfl ac_1 (by decide) hp361q88 ?_
  have lp361q88 := rt_na_lt hp361q88
  obtain ⟨m363q89, hm363q89, h⟩ := Option.bind_eq_some_iff.mp h
  refine RT.putfF 12 61 (pc := 363) (t := 2) (mem1 := m363q89) dX12_init_363 gl_X12_144 rfl rfl rfl hl_X12_144 rfl (nar_X12_61 _) (fit_X12_61 _) (show a0.toNat < p361q88.1 by omega) hm363q89 ?_
  refine RT.aload_n (pc := 366) (k := 0) (x := a0) dX12_init_366 rfl ?_
  refine RT.iconst (pc := 367) (n := 4) dX12_init_367 ⟨by decide, by decide⟩ ?_
  obtain ⟨p368q90, hp368q90, h⟩ := Option.bind_eq_some_iff.mp h
  refine RT.na 1 (pc := 368) (n := 4) dX12_init_368 rfl ac_1 (by decide) hp368q90 ?_
  have lp368q90 := rt_na_lt hp368q90
  obtain ⟨m370q91, hm370q91, h⟩ := Option.bind_eq_some_iff.mp h
  refine RT.putfF 12 62 (pc := 370) (t := 2) (mem1 := m370q91) dX12_init_370 gl_X12_147 rfl rfl rfl hl_X12_147 rfl (nar_X12_62 _) (fit_X12_62 _) (show a0.toNat < p368q90.1 by omega) hm370q91 ?_
  refine RT.aload_n (pc := 373) (k := 0) (x := a0) dX12_init_373 rfl ?_
  refine RT.iconst (pc := 374) (n := 4) dX12_init_374 ⟨by decide, by decide⟩ ?_
  obtain ⟨p375q92, hp375q92, h⟩ := Option.bind_eq_some_iff.mp h
  refine RT.na 1 (pc := 375) (n := 4) dX12_init_375 rfl ac_1 (by decide) hp375q92 ?_
  have lp375q92 := rt_na_lt hp375q92
  obtain ⟨m377q93, hm377q93, h⟩ := Option.bind_eq_some_iff.mp h
  refine RT.putfF 12 63 (pc := 377) (t := 2) (mem1 := m377q93) dX12_init_377 gl_X12_150 rfl rfl rfl hl_X12_150 rfl (nar_X12_63 _) (fit_X12_63 _) (show a0.toNat < p375q92.1 by omega) hm377q93 ?_
  refine RT.aload_n (pc := 380) (k := 0) (x := a0) dX12_init_380 rfl ?_
  refine RT.bipush (pc := 381) (n := 6) dX12_init_381 ⟨by decide, by decide⟩ rfl ?_
  obtain ⟨p383q94, hp383q94, h⟩ := Option.bind_eq_some_iff.mp h
  refine RT.na 1 (pc := 383) (n := 6) dX12_init_383 rfl ac_1 (by decide) hp383q94 ?_
  have lp383q94 := rt_na_lt hp383q94
  obtain ⟨m385q95, hm385q95, h⟩ := Option.bind_eq_some_iff.mp h
  refine RT.putfF 12 66 (pc := 385) (t := 2) (mem1 := m385q95) dX12_init_385 gl_X12_153 rfl rfl rfl hl_X12_153 rfl (nar_X12_66 _) (fit_X12_66 _) (show a0.toNat < p383q94.1 by omega) hm385q95 ?_
  refine RT.aload_n (pc := 388) (k := 0) (x := a0) dX12_init_388 rfl ?_
  refine RT.bipush (pc := 389) (n := 10) dX12_init_389 ⟨by decide, by decide⟩ rfl ?_
  obtain ⟨p391q96, hp391q96, h⟩ := Option.bind_eq_some_iff.mp h
  refine RT.na 1 (pc := 391) (n := 10) dX12_init_391 rfl ac_1 (by decide) hp391q96 ?_
  have lp391q96 := rt_na_lt hp391q96
  obtain ⟨m393q97, hm393q97, h⟩ := Option.bind_eq_some_iff.mp h
  refine RT.putfF 12 68 (pc := 393) (t := 2) (mem1 := m393q97) dX12_init_393 gl_X12_156 rfl rfl rfl hl_X12_156 rfl (nar_X12_68 _) (fit_X12_68 _) (show a0.toNat < p391q96.1 by omega) hm393q97 ?_
  refine RT.aload_n (pc := 396) (k := 0) (x := a0) dX12_init_396 rfl ?_
  refine RT.bipush (pc := 397) (n := 6) dX12_init_397 ⟨by decide, by decide⟩ rfl ?_
  obtain ⟨p399q98, hp399q98, h⟩ := Option.bind_eq_some_iff.mp h
  refine RT.na 1 (pc := 399) (n := 6) dX12_init_399 rfl ac_1 (by decide) hp399q98 ?_
  have lp399q98 := rt_na_lt hp399q98
  obtain ⟨m401q99, hm401q99, h⟩ := Option.bind_eq_some_iff.mp h
  refine RT.putfF 12 69 (pc := 401) (t := 2) (mem1 := m401q99) dX12_init_401 gl_X12_159 rfl rfl rfl hl_X12_159 rfl (nar_X12_69 _) (fit_X12_69 _) (show a0.toNat < p399q98.1 by omega) hm401q99 ?_
  refine RT.aload_n (pc := 404) (k := 0) (x := a0) dX12_init_404 rfl ?_
  refine RT.bipush (pc := 405) (n := 6) dX12_init_405 ⟨by decide, by decide⟩ rfl ?_
  obtain ⟨p407q100, hp407q100, h⟩ := Option.bind_eq_some_iff.mp h
  refine RT.na 1 (pc := 407) (n := 6) dX12_init_407 rfl ac_1 (by decide) hp407q100 ?_
  have lp407q100 := rt_na_lt hp407q100
  obtain ⟨m409q101, hm409q101, h⟩ := Option.bind_eq_some_iff.mp h
  refine RT.putfF 12 70 (pc := 409) (t := 2) (mem1 := m409q101) dX12_init_409 gl_X12_162 rfl rfl rfl hl_X12_162 rfl (nar_X12_70 _) (fit_X12_70 _) (show a0.toNat < p407q100.1 by omega) hm409q101 ?_
  refine RT.aload_n (pc := 412) (k := 0) (x := a0) dX12_init_412 rfl ?_
  obtain ⟨v413q102, hv413q102, h⟩ := Option.bind_eq_some_iff.mp h
  refine RT.getf 12 10 (pc := 413) (x := a0) (v := v413q102) dX12_init_413 gl_X12_13 (show a0.toNat < p407q100.1 by omega) hv413q102 ?_
  refine RT.iconst (pc := 416) (n := 2) dX12_init_416 ⟨by decide, by decide⟩ ?_
  refine RT.iconst (pc := 417) (n := 1) dX12_init_417 ⟨by decide, by decide⟩ ?_
  obtain ⟨w418q103, hw418q103, h⟩ := Option.bind_eq_some_iff.mp h
  have gw418q103 := rt_lk_s hw418q103
  obtain ⟨m418q103, hm418q103, h⟩ := Option.bind_eq_some_iff.mp h
  refine RT.iast (pc := 418) (x := v413q102) (i := 2) (v := 1) (mem1 := m418q103) dX12_init_418 gw418q103 hm418q103 ?_
  refine RT.aload_n (pc := 419) (k := 0) (x := a0) dX12_init_419 rfl ?_
  obtain ⟨u420q105, hu420q105, h⟩ := Option.bind_eq_some_iff.mp h
  obtain ⟨zu420q105, yu420q105, xu420q105⟩ := rt_g3_s hu420q105
  obtain ⟨p420q105, hp420q105, h⟩ := Option.bind_eq_some_iff.mp h
  refine RT.cV (pc := 420) (M' := M_X12_fresh) (ci := 12) (x := a0) (As := []) (st := []) (r := none) (mem1 := p420q105) (d' := d - 1) dX12_init_420 mw_X12_fresh ni_X12_165 mi_X12_fresh ht (by omega) rfl rfl (Nat.le_of_ble_eq_true rfl) (Nat.le_of_ble_eq_true rfl) (by omega) yu420q105 xu420q105 (c_X12_fresh (z := (p407q100.1, 0)) zu420q105 (by omega) a0 m418q103 _ ht hp420q105) ?_
  refine RT.aload_n (pc := 423) (k := 0) (x := a0) dX12_init_423 rfl ?_
  obtain ⟨u424q107, hu424q107, h⟩ := Option.bind_eq_some_iff.mp h
  obtain ⟨zu424q107, yu424q107, xu424q107⟩ := rt_g3_s hu424q107
  obtain ⟨p424q107, hp424q107, h⟩ := Option.bind_eq_some_iff.mp h
  refine RT.cV (pc := 424) (M' := M_X12_forgets) (ci := 12) (x := a0) (As := []) (st := []) (r := none) (mem1 := p424q107) (d' := d - 1) dX12_init_424 mw_X12_forgets ni_X12_168 mi_X12_forgets ht (by omega) rfl rfl (Nat.le_of_ble_eq_true rfl) (Nat.le_of_ble_eq_true rfl) (by omega) yu424q107 xu424q107 (c_X12_forgets (z := (p407q100.1, 0)) zu424q107 (by omega) a0 p420q105 _ ht hp424q107) ?_
  obtain ⟨e, y, x⟩ := rt_ge_s h
  subst e
  exact RT.vret (pc := 427) dX12_init_427 rfl y x hK
