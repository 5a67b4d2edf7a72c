/-! Layer 4: the constructors, printed by program (wip/whole/geninit.py) -/
abbrev M_X8_init : rt_Mt := (yX8_init, cX8_init, 1, none, (4, 4003), 0)
abbrev M_X3_init : rt_Mt := (yX3_init, cX3_init, 2, none, (0, 0), 0)
abbrev M_X7_init : rt_Mt := (yX7_init, cX7_init, 1, none, (2, 12), 0)
abbrev M_X10_init : rt_Mt := (yX10_init, cX10_init, 1, none, (3, 120), 0)
abbrev M_X6_init : rt_Mt := (yX6_init, cX6_init, 1, none, (3, 24), 0)
abbrev M_X0_init : rt_Mt := (yX0_init, cX0_init, 1, none, (12, 173), 0)
abbrev M_X2_init : rt_Mt := (yX2_init, cX2_init, 4, none, (2, 1024), 0)
abbrev M_X4_init : rt_Mt := (yX4_init, cX4_init, 1, none, (23, 2140), 0)
abbrev M_X1_init : rt_Mt := (yX1_init, cX1_init, 1, none, (11, 128), 0)
abbrev M_X5_init : rt_Mt := (yX5_init, cX5_init, 1, none, (17, 509), 0)
abbrev M_X11_init : rt_Mt := (yX11_init, cX11_init, 2, none, (206, 10255), 0)
abbrev M_X12_init : rt_Mt := (yX12_init, cX12_init, 1, none, (51, 4565), 0)
theorem oi_inst : Cond.instanceMethod Lib.objectInit ∈ rt_mG := (rt_inG (rt_t1 27 (by decide +kernel)) rfl)
theorem oi_code : Cond.code Lib.objectInit ⟨#[0xb1]⟩ 1 none ∈ rt_mG := (rt_inG (rt_t1 28 (by decide +kernel)) rfl)
theorem ac_1 : Cond.arrayClass (rt_aty 1) ∈ rt_mG := (rt_inG (rt_t1 62 (by decide +kernel)) rfl)
theorem ac_2 : Cond.arrayClass (rt_aty 2) ∈ rt_mG := (rt_inG (rt_t1 63 (by decide +kernel)) rfl)
theorem ac_3 : Cond.arrayClass (rt_aty 3) ∈ rt_mG := (rt_inG (rt_t1 147 (by decide +kernel)) rfl)
theorem ac_4 : Cond.arrayClass (rt_aty 4) ∈ rt_mG := (rt_inG (rt_t1 61 (by decide +kernel)) rfl)
theorem ao_i : Cond.arrayOver (.array .int) ∈ rt_mN := (rt_inN (rt_t1 178 (by decide +kernel)) rfl)
theorem ao_5 : Cond.arrayOver (.object "WigOffice$Word") ∈ rt_mN := (rt_inN (rt_t1 36 (by decide +kernel)) rfl)
theorem ao_7 : Cond.arrayOver (.object "WigOffice$Affairs") ∈ rt_mN := (rt_inN (rt_t1 168 (by decide +kernel)) rfl)
theorem ao_8 : Cond.arrayOver (.object "WigOffice$Stands") ∈ rt_mN := (rt_inN (rt_t1 170 (by decide +kernel)) rfl)
theorem ol_X8_3 : Cond.methodLink RX8 3 Lib.objectInit ∈ rt_mG := (rt_inG (rt_t1 34 (by decide +kernel)) rfl)
theorem gl_X8_9 : rt_FL RX8 9 8 0 := ⟨cl_X8, by decide, rfl, Or.inl (rt_inG (rt_t1 37 (by decide +kernel)) rfl)⟩
theorem nar_X8_0 : ∀ (v : Int) (G : rt_G), narrow (rt_ty 8 0) (rt_tv G (2, v)) = rt_tv G (2, v) := fun v G => by show narrow (tyX8 0) (va_rf (rt_rf G v)) = va_rf (rt_rf G v); cases rt_rf G v <;> rfl
theorem fit_X8_0 : ∀ (v : Int) (G : rt_G), fits (rt_ty 8 0) (rt_tv G (2, v)) = true := fun v G => by show fits (tyX8 0) (va_rf (rt_rf G v)) = true; cases rt_rf G v <;> rfl
theorem hl_X8_9 : Cond.fieldLink RX8 9 (rt_R 8) (rt_T 8 0).2.1 (rt_T 8 0).2.2.1 ∈ rt_mG := (rt_inG (rt_t1 37 (by decide +kernel)) rfl)
theorem co_X8_15 : Cond.classLink RX8 15 "WigOffice$Word" ∈ rt_mG := (rt_inG (rt_t1 35 (by decide +kernel)) rfl)
theorem gl_X8_17 : rt_FL RX8 17 8 2 := ⟨cl_X8, by decide, rfl, Or.inl (rt_inG (rt_t1 40 (by decide +kernel)) rfl)⟩
theorem nar_X8_2 : ∀ (v : Int) (G : rt_G), narrow (rt_ty 8 2) (rt_tv G (2, v)) = rt_tv G (2, v) := fun v G => by show narrow (tyX8 2) (va_rf (rt_rf G v)) = va_rf (rt_rf G v); cases rt_rf G v <;> rfl
theorem fit_X8_2 : ∀ (v : Int) (G : rt_G), fits (rt_ty 8 2) (rt_tv G (2, v)) = true := fun v G => by show fits (tyX8 2) (va_rf (rt_rf G v)) = true; cases rt_rf G v <;> rfl
theorem hl_X8_17 : Cond.fieldLink RX8 17 (rt_R 8) (rt_T 8 2).2.1 (rt_T 8 2).2.2.1 ∈ rt_mG := (rt_inG (rt_t1 40 (by decide +kernel)) rfl)
theorem gl_X8_21 : rt_FL RX8 21 8 3 := ⟨cl_X8, by decide, rfl, Or.inl (rt_inG (rt_t1 42 (by decide +kernel)) rfl)⟩
theorem nar_X8_3 : ∀ (v : Int) (G : rt_G), narrow (rt_ty 8 3) (rt_tv G (2, v)) = rt_tv G (2, v) := fun v G => by show narrow (tyX8 3) (va_rf (rt_rf G v)) = va_rf (rt_rf G v); cases rt_rf G v <;> rfl
theorem fit_X8_3 : ∀ (v : Int) (G : rt_G), fits (rt_ty 8 3) (rt_tv G (2, v)) = true := fun v G => by show fits (tyX8 3) (va_rf (rt_rf G v)) = true; cases rt_rf G v <;> rfl
theorem hl_X8_21 : Cond.fieldLink RX8 21 (rt_R 8) (rt_T 8 3).2.1 (rt_T 8 3).2.2.1 ∈ rt_mG := (rt_inG (rt_t1 42 (by decide +kernel)) rfl)
theorem gl_X8_25 : rt_FL RX8 25 8 4 := ⟨cl_X8, by decide, rfl, Or.inl (rt_inG (rt_t1 44 (by decide +kernel)) rfl)⟩
theorem nar_X8_4 : ∀ (v : Int) (G : rt_G), narrow (rt_ty 8 4) (rt_tv G (2, v)) = rt_tv G (2, v) := fun v G => by show narrow (tyX8 4) (va_rf (rt_rf G v)) = va_rf (rt_rf G v); cases rt_rf G v <;> rfl
theorem fit_X8_4 : ∀ (v : Int) (G : rt_G), fits (rt_ty 8 4) (rt_tv G (2, v)) = true := fun v G => by show fits (tyX8 4) (va_rf (rt_rf G v)) = true; cases rt_rf G v <;> rfl
theorem hl_X8_25 : Cond.fieldLink RX8 25 (rt_R 8) (rt_T 8 4).2.1 (rt_T 8 4).2.2.1 ∈ rt_mG := (rt_inG (rt_t1 44 (by decide +kernel)) rfl)
theorem ol_X3_3 : Cond.methodLink RX3 3 Lib.objectInit ∈ rt_mG := (rt_inG (rt_t1 69 (by decide +kernel)) rfl)
theorem gl_X3_9 : rt_FL RX3 9 3 0 := ⟨cl_X3, by decide, rfl, Or.inl (rt_inG (rt_t1 70 (by decide +kernel)) rfl)⟩
theorem nar_X3_0 : ∀ (v : Int) (G : rt_G), narrow (rt_ty 3 0) (rt_tv G (2, v)) = rt_tv G (2, v) := fun v G => by show narrow (tyX3 0) (va_rf (rt_rf G v)) = va_rf (rt_rf G v); cases rt_rf G v <;> rfl
theorem fit_X3_0 : ∀ (v : Int) (G : rt_G), fits (rt_ty 3 0) (rt_tv G (2, v)) = true := fun v G => by show fits (tyX3 0) (va_rf (rt_rf G v)) = true; cases rt_rf G v <;> rfl
theorem hl_X3_9 : Cond.fieldLink RX3 9 (rt_R 3) (rt_T 3 0).2.1 (rt_T 3 0).2.2.1 ∈ rt_mG := (rt_inG (rt_t1 70 (by decide +kernel)) rfl)
theorem ol_X7_3 : Cond.methodLink RX7 3 Lib.objectInit ∈ rt_mG := (rt_inG (rt_t1 91 (by decide +kernel)) rfl)
theorem gl_X7_9 : rt_FL RX7 9 7 1 := ⟨cl_X7, by decide, rfl, Or.inl (rt_inG (rt_t1 94 (by decide +kernel)) rfl)⟩
theorem nar_X7_1 : ∀ (v : Int) (G : rt_G), narrow (rt_ty 7 1) (rt_tv G (2, v)) = rt_tv G (2, v) := fun v G => by show narrow (tyX7 1) (va_rf (rt_rf G v)) = va_rf (rt_rf G v); cases rt_rf G v <;> rfl
theorem fit_X7_1 : ∀ (v : Int) (G : rt_G), fits (rt_ty 7 1) (rt_tv G (2, v)) = true := fun v G => by show fits (tyX7 1) (va_rf (rt_rf G v)) = true; cases rt_rf G v <;> rfl
theorem hl_X7_9 : Cond.fieldLink RX7 9 (rt_R 7) (rt_T 7 1).2.1 (rt_T 7 1).2.2.1 ∈ rt_mG := (rt_inG (rt_t1 94 (by decide +kernel)) rfl)
theorem gl_X7_15 : rt_FL RX7 15 7 2 := ⟨cl_X7, by decide, rfl, Or.inl (rt_inG (rt_t1 95 (by decide +kernel)) rfl)⟩
theorem nar_X7_2 : ∀ (v : Int) (G : rt_G), narrow (rt_ty 7 2) (rt_tv G (2, v)) = rt_tv G (2, v) := fun v G => by show narrow (tyX7 2) (va_rf (rt_rf G v)) = va_rf (rt_rf G v); cases rt_rf G v <;> rfl
theorem fit_X7_2 : ∀ (v : Int) (G : rt_G), fits (rt_ty 7 2) (rt_tv G (2, v)) = true := fun v G => by show fits (tyX7 2) (va_rf (rt_rf G v)) = true; cases rt_rf G v <;> rfl
theorem hl_X7_15 : Cond.fieldLink RX7 15 (rt_R 7) (rt_T 7 2).2.1 (rt_T 7 2).2.2.1 ∈ rt_mG := (rt_inG (rt_t1 95 (by decide +kernel)) rfl)
theorem ol_X10_3 : Cond.methodLink RX10 3 Lib.objectInit ∈ rt_mG := (rt_inG (rt_t1 108 (by decide +kernel)) rfl)
theorem co_X10_9 : Cond.classLink RX10 9 "WigOffice$Word" ∈ rt_mG := (rt_inG (rt_t1 109 (by decide +kernel)) rfl)
theorem gl_X10_11 : rt_FL RX10 11 10 1 := ⟨cl_X10, by decide, rfl, Or.inl (rt_inG (rt_t1 114 (by decide +kernel)) rfl)⟩
theorem nar_X10_1 : ∀ (v : Int) (G : rt_G), narrow (rt_ty 10 1) (rt_tv G (2, v)) = rt_tv G (2, v) := fun v G => by show narrow (tyX10 1) (va_rf (rt_rf G v)) = va_rf (rt_rf G v); cases rt_rf G v <;> rfl
theorem fit_X10_1 : ∀ (v : Int) (G : rt_G), fits (rt_ty 10 1) (rt_tv G (2, v)) = true := fun v G => by show fits (tyX10 1) (va_rf (rt_rf G v)) = true; cases rt_rf G v <;> rfl
theorem hl_X10_11 : Cond.fieldLink RX10 11 (rt_R 10) (rt_T 10 1).2.1 (rt_T 10 1).2.2.1 ∈ rt_mG := (rt_inG (rt_t1 114 (by decide +kernel)) rfl)
theorem gl_X10_17 : rt_FL RX10 17 10 2 := ⟨cl_X10, by decide, rfl, Or.inl (rt_inG (rt_t1 115 (by decide +kernel)) rfl)⟩
theorem nar_X10_2 : ∀ (v : Int) (G : rt_G), narrow (rt_ty 10 2) (rt_tv G (2, v)) = rt_tv G (2, v) := fun v G => by show narrow (tyX10 2) (va_rf (rt_rf G v)) = va_rf (rt_rf G v); cases rt_rf G v <;> rfl
theorem fit_X10_2 : ∀ (v : Int) (G : rt_G), fits (rt_ty 10 2) (rt_tv G (2, v)) = true := fun v G => by show fits (tyX10 2) (va_rf (rt_rf G v)) = true; cases rt_rf G v <;> rfl
theorem hl_X10_17 : Cond.fieldLink RX10 17 (rt_R 10) (rt_T 10 2).2.1 (rt_T 10 2).2.2.1 ∈ rt_mG := (rt_inG (rt_t1 115 (by decide +kernel)) rfl)
theorem gl_X10_21 : rt_FL RX10 21 10 3 := ⟨cl_X10, by decide, rfl, Or.inl (rt_inG (rt_t1 116 (by decide +kernel)) rfl)⟩
theorem nar_X10_3 : ∀ (v : Int) (G : rt_G), narrow (rt_ty 10 3) (rt_tv G (2, v)) = rt_tv G (2, v) := fun v G => by show narrow (tyX10 3) (va_rf (rt_rf G v)) = va_rf (rt_rf G v); cases rt_rf G v <;> rfl
theorem fit_X10_3 : ∀ (v : Int) (G : rt_G), fits (rt_ty 10 3) (rt_tv G (2, v)) = true := fun v G => by show fits (tyX10 3) (va_rf (rt_rf G v)) = true; cases rt_rf G v <;> rfl
theorem hl_X10_21 : Cond.fieldLink RX10 21 (rt_R 10) (rt_T 10 3).2.1 (rt_T 10 3).2.2.1 ∈ rt_mG := (rt_inG (rt_t1 116 (by decide +kernel)) rfl)
theorem ol_X6_3 : Cond.methodLink RX6 3 Lib.objectInit ∈ rt_mG := (rt_inG (rt_t1 131 (by decide +kernel)) rfl)
theorem gl_X6_9 : rt_FL RX6 9 6 1 := ⟨cl_X6, by decide, rfl, Or.inl (rt_inG (rt_t1 135 (by decide +kernel)) rfl)⟩
theorem nar_X6_1 : ∀ (v : Int) (G : rt_G), narrow (rt_ty 6 1) (rt_tv G (2, v)) = rt_tv G (2, v) := fun v G => by show narrow (tyX6 1) (va_rf (rt_rf G v)) = va_rf (rt_rf G v); cases rt_rf G v <;> rfl
theorem fit_X6_1 : ∀ (v : Int) (G : rt_G), fits (rt_ty 6 1) (rt_tv G (2, v)) = true := fun v G => by show fits (tyX6 1) (va_rf (rt_rf G v)) = true; cases rt_rf G v <;> rfl
theorem hl_X6_9 : Cond.fieldLink RX6 9 (rt_R 6) (rt_T 6 1).2.1 (rt_T 6 1).2.2.1 ∈ rt_mG := (rt_inG (rt_t1 135 (by decide +kernel)) rfl)
theorem gl_X6_15 : rt_FL RX6 15 6 2 := ⟨cl_X6, by decide, rfl, Or.inl (rt_inG (rt_t1 136 (by decide +kernel)) rfl)⟩
theorem nar_X6_2 : ∀ (v : Int) (G : rt_G), narrow (rt_ty 6 2) (rt_tv G (2, v)) = rt_tv G (2, v) := fun v G => by show narrow (tyX6 2) (va_rf (rt_rf G v)) = va_rf (rt_rf G v); cases rt_rf G v <;> rfl
theorem fit_X6_2 : ∀ (v : Int) (G : rt_G), fits (rt_ty 6 2) (rt_tv G (2, v)) = true := fun v G => by show fits (tyX6 2) (va_rf (rt_rf G v)) = true; cases rt_rf G v <;> rfl
theorem hl_X6_15 : Cond.fieldLink RX6 15 (rt_R 6) (rt_T 6 2).2.1 (rt_T 6 2).2.2.1 ∈ rt_mG := (rt_inG (rt_t1 136 (by decide +kernel)) rfl)
theorem gl_X6_18 : rt_FL RX6 18 6 3 := ⟨cl_X6, by decide, rfl, Or.inl (rt_inG (rt_t1 137 (by decide +kernel)) rfl)⟩
theorem nar_X6_3 : ∀ (v : Int) (G : rt_G), narrow (rt_ty 6 3) (rt_tv G (2, v)) = rt_tv G (2, v) := fun v G => by show narrow (tyX6 3) (va_rf (rt_rf G v)) = va_rf (rt_rf G v); cases rt_rf G v <;> rfl
theorem fit_X6_3 : ∀ (v : Int) (G : rt_G), fits (rt_ty 6 3) (rt_tv G (2, v)) = true := fun v G => by show fits (tyX6 3) (va_rf (rt_rf G v)) = true; cases rt_rf G v <;> rfl
theorem hl_X6_18 : Cond.fieldLink RX6 18 (rt_R 6) (rt_T 6 3).2.1 (rt_T 6 3).2.2.1 ∈ rt_mG := (rt_inG (rt_t1 137 (by decide +kernel)) rfl)
theorem ol_X0_3 : Cond.methodLink RX0 3 Lib.objectInit ∈ rt_mG := (rt_inG (rt_t1 85 (by decide +kernel)) rfl)
theorem co_X0_9 : Cond.classLink RX0 9 (rt_R 7) ∈ rt_mG := (rt_inG (rt_t1 86 (by decide +kernel)) rfl)
theorem ib_X7 : Cond.instantiable (rt_R 7) (rt_N 7) ∈ rt_mG := (rt_inG (rt_t1 87 (by decide +kernel)) rfl)
theorem it_X7 : Cond.initialized (rt_R 7) ∈ rt_mG := (rt_inG (rt_t1 5 (by decide +kernel)) rfl)
theorem ni_X0_11 : rt_Ml RX0 11 M_X7_init := Or.inr ⟨"WigOffice", (rt_inN (rt_t1 88 (by decide +kernel)) rfl)⟩
theorem gl_X0_12 : rt_FL RX0 12 0 0 := ⟨cl_X0, by decide, rfl, Or.inl (rt_inG (rt_t1 148 (by decide +kernel)) rfl)⟩
theorem nar_X0_0 : ∀ (v : Int) (G : rt_G), narrow (rt_ty 0 0) (rt_tv G (2, v)) = rt_tv G (2, v) := fun v G => by show narrow (tyX0 0) (va_rf (rt_rf G v)) = va_rf (rt_rf G v); cases rt_rf G v <;> rfl
theorem fit_X0_0 : ∀ (v : Int) (G : rt_G), fits (rt_ty 0 0) (rt_tv G (2, v)) = true := fun v G => by show fits (tyX0 0) (va_rf (rt_rf G v)) = true; cases rt_rf G v <;> rfl
theorem hl_X0_12 : Cond.fieldLink RX0 12 (rt_R 0) (rt_T 0 0).2.1 (rt_T 0 0).2.2.1 ∈ rt_mG := (rt_inG (rt_t1 148 (by decide +kernel)) rfl)
theorem co_X0_18 : Cond.classLink RX0 18 (rt_R 10) ∈ rt_mG := (rt_inG (rt_t1 103 (by decide +kernel)) rfl)
theorem ib_X10 : Cond.instantiable (rt_R 10) (rt_N 10) ∈ rt_mG := (rt_inG (rt_t1 104 (by decide +kernel)) rfl)
theorem it_X10 : Cond.initialized (rt_R 10) ∈ rt_mG := (rt_inG (rt_t1 6 (by decide +kernel)) rfl)
theorem ni_X0_20 : rt_Ml RX0 20 M_X10_init := Or.inr ⟨"WigOffice", (rt_inN (rt_t1 105 (by decide +kernel)) rfl)⟩
theorem gl_X0_21 : rt_FL RX0 21 0 1 := ⟨cl_X0, by decide, rfl, Or.inl (rt_inG (rt_t1 150 (by decide +kernel)) rfl)⟩
theorem nar_X0_1 : ∀ (v : Int) (G : rt_G), narrow (rt_ty 0 1) (rt_tv G (2, v)) = rt_tv G (2, v) := fun v G => by show narrow (tyX0 1) (va_rf (rt_rf G v)) = va_rf (rt_rf G v); cases rt_rf G v <;> rfl
theorem fit_X0_1 : ∀ (v : Int) (G : rt_G), fits (rt_ty 0 1) (rt_tv G (2, v)) = true := fun v G => by show fits (tyX0 1) (va_rf (rt_rf G v)) = true; cases rt_rf G v <;> rfl
theorem hl_X0_21 : Cond.fieldLink RX0 21 (rt_R 0) (rt_T 0 1).2.1 (rt_T 0 1).2.2.1 ∈ rt_mG := (rt_inG (rt_t1 150 (by decide +kernel)) rfl)
theorem co_X0_25 : Cond.classLink RX0 25 (rt_R 6) ∈ rt_mG := (rt_inG (rt_t1 126 (by decide +kernel)) rfl)
theorem ib_X6 : Cond.instantiable (rt_R 6) (rt_N 6) ∈ rt_mG := (rt_inG (rt_t1 127 (by decide +kernel)) rfl)
theorem it_X6 : Cond.initialized (rt_R 6) ∈ rt_mG := (rt_inG (rt_t1 7 (by decide +kernel)) rfl)
theorem ni_X0_27 : rt_Ml RX0 27 M_X6_init := Or.inr ⟨"WigOffice", (rt_inN (rt_t1 128 (by decide +kernel)) rfl)⟩
theorem gl_X0_28 : rt_FL RX0 28 0 2 := ⟨cl_X0, by decide, rfl, Or.inl (rt_inG (rt_t1 152 (by decide +kernel)) rfl)⟩
theorem nar_X0_2 : ∀ (v : Int) (G : rt_G), narrow (rt_ty 0 2) (rt_tv G (2, v)) = rt_tv G (2, v) := fun v G => by show narrow (tyX0 2) (va_rf (rt_rf G v)) = va_rf (rt_rf G v); cases rt_rf G v <;> rfl
theorem fit_X0_2 : ∀ (v : Int) (G : rt_G), fits (rt_ty 0 2) (rt_tv G (2, v)) = true := fun v G => by show fits (tyX0 2) (va_rf (rt_rf G v)) = true; cases rt_rf G v <;> rfl
theorem hl_X0_28 : Cond.fieldLink RX0 28 (rt_R 0) (rt_T 0 2).2.1 (rt_T 0 2).2.2.1 ∈ rt_mG := (rt_inG (rt_t1 152 (by decide +kernel)) rfl)
theorem gl_X0_32 : rt_FL RX0 32 0 3 := ⟨cl_X0, by decide, rfl, Or.inl (rt_inG (rt_t1 154 (by decide +kernel)) rfl)⟩
theorem nar_X0_3 : ∀ (v : Int) (G : rt_G), narrow (rt_ty 0 3) (rt_tv G (2, v)) = rt_tv G (2, v) := fun v G => by show narrow (tyX0 3) (va_rf (rt_rf G v)) = va_rf (rt_rf G v); cases rt_rf G v <;> rfl
theorem fit_X0_3 : ∀ (v : Int) (G : rt_G), fits (rt_ty 0 3) (rt_tv G (2, v)) = true := fun v G => by show fits (tyX0 3) (va_rf (rt_rf G v)) = true; cases rt_rf G v <;> rfl
theorem hl_X0_32 : Cond.fieldLink RX0 32 (rt_R 0) (rt_T 0 3).2.1 (rt_T 0 3).2.2.1 ∈ rt_mG := (rt_inG (rt_t1 154 (by decide +kernel)) rfl)
theorem ol_X2_3 : Cond.methodLink RX2 3 Lib.objectInit ∈ rt_mG := (rt_inG (rt_t1 190 (by decide +kernel)) rfl)
theorem gl_X2_9 : rt_FL RX2 9 2 3 := ⟨cl_X2, by decide, rfl, Or.inl (rt_inG (rt_t1 194 (by decide +kernel)) rfl)⟩
theorem nar_X2_3 : ∀ (v : Int) (G : rt_G), narrow (rt_ty 2 3) (rt_tv G (2, v)) = rt_tv G (2, v) := fun v G => by show narrow (tyX2 3) (va_rf (rt_rf G v)) = va_rf (rt_rf G v); cases rt_rf G v <;> rfl
theorem fit_X2_3 : ∀ (v : Int) (G : rt_G), fits (rt_ty 2 3) (rt_tv G (2, v)) = true := fun v G => by show fits (tyX2 3) (va_rf (rt_rf G v)) = true; cases rt_rf G v <;> rfl
theorem hl_X2_9 : Cond.fieldLink RX2 9 (rt_R 2) (rt_T 2 3).2.1 (rt_T 2 3).2.2.1 ∈ rt_mG := (rt_inG (rt_t1 194 (by decide +kernel)) rfl)
theorem gl_X2_15 : rt_FL RX2 15 2 4 := ⟨cl_X2, by decide, rfl, Or.inl (rt_inG (rt_t1 195 (by decide +kernel)) rfl)⟩
theorem nar_X2_4 : ∀ (v : Int) (G : rt_G), narrow (rt_ty 2 4) (rt_tv G (2, v)) = rt_tv G (2, v) := fun v G => by show narrow (tyX2 4) (va_rf (rt_rf G v)) = va_rf (rt_rf G v); cases rt_rf G v <;> rfl
theorem fit_X2_4 : ∀ (v : Int) (G : rt_G), fits (rt_ty 2 4) (rt_tv G (2, v)) = true := fun v G => by show fits (tyX2 4) (va_rf (rt_rf G v)) = true; cases rt_rf G v <;> rfl
theorem hl_X2_15 : Cond.fieldLink RX2 15 (rt_R 2) (rt_T 2 4).2.1 (rt_T 2 4).2.2.1 ∈ rt_mG := (rt_inG (rt_t1 195 (by decide +kernel)) rfl)
theorem gl_X2_18 : rt_FL RX2 18 2 0 := ⟨cl_X2, by decide, rfl, Or.inl (rt_inG (rt_t1 191 (by decide +kernel)) rfl)⟩
theorem nar_X2_0 : ∀ (v : Int) (G : rt_G), narrow (rt_ty 2 0) (rt_tv G (2, v)) = rt_tv G (2, v) := fun v G => by show narrow (tyX2 0) (va_rf (rt_rf G v)) = va_rf (rt_rf G v); cases rt_rf G v <;> rfl
theorem fit_X2_0 : ∀ (v : Int) (G : rt_G), fits (rt_ty 2 0) (rt_tv G (2, v)) = true := fun v G => by show fits (tyX2 0) (va_rf (rt_rf G v)) = true; cases rt_rf G v <;> rfl
theorem hl_X2_18 : Cond.fieldLink RX2 18 (rt_R 2) (rt_T 2 0).2.1 (rt_T 2 0).2.2.1 ∈ rt_mG := (rt_inG (rt_t1 191 (by decide +kernel)) rfl)
theorem gl_X2_22 : rt_FL RX2 22 2 1 := ⟨cl_X2, by decide, rfl, Or.inl (rt_inG (rt_t1 192 (by decide +kernel)) rfl)⟩
theorem nar_X2_1 : ∀ (v : Int) (G : rt_G), narrow (rt_ty 2 1) (rt_tv G (2, v)) = rt_tv G (2, v) := fun v G => by show narrow (tyX2 1) (va_rf (rt_rf G v)) = va_rf (rt_rf G v); cases rt_rf G v <;> rfl
theorem fit_X2_1 : ∀ (v : Int) (G : rt_G), fits (rt_ty 2 1) (rt_tv G (2, v)) = true := fun v G => by show fits (tyX2 1) (va_rf (rt_rf G v)) = true; cases rt_rf G v <;> rfl
theorem hl_X2_22 : Cond.fieldLink RX2 22 (rt_R 2) (rt_T 2 1).2.1 (rt_T 2 1).2.2.1 ∈ rt_mG := (rt_inG (rt_t1 192 (by decide +kernel)) rfl)
theorem gl_X2_25 : rt_FL RX2 25 2 2 := ⟨cl_X2, by decide, rfl, Or.inl (rt_inG (rt_t1 193 (by decide +kernel)) rfl)⟩
theorem nar_X2_2 : ∀ (v : Int) (G : rt_G), narrow (rt_ty 2 2) (rt_tv G (2, v)) = rt_tv G (2, v) := fun v G => by show narrow (tyX2 2) (va_rf (rt_rf G v)) = va_rf (rt_rf G v); cases rt_rf G v <;> rfl
theorem fit_X2_2 : ∀ (v : Int) (G : rt_G), fits (rt_ty 2 2) (rt_tv G (2, v)) = true := fun v G => by show fits (tyX2 2) (va_rf (rt_rf G v)) = true; cases rt_rf G v <;> rfl
theorem hl_X2_25 : Cond.fieldLink RX2 25 (rt_R 2) (rt_T 2 2).2.1 (rt_T 2 2).2.2.1 ∈ rt_mG := (rt_inG (rt_t1 193 (by decide +kernel)) rfl)
theorem ol_X4_3 : Cond.methodLink RX4 3 Lib.objectInit ∈ rt_mG := (rt_inG (rt_t1 176 (by decide +kernel)) rfl)
theorem gl_X4_9 : rt_FL RX4 9 4 2 := ⟨cl_X4, by decide, rfl, Or.inl (rt_inG (rt_t1 230 (by decide +kernel)) rfl)⟩
theorem nar_X4_2 : ∀ (v : Int) (G : rt_G), narrow (rt_ty 4 2) (rt_tv G (2, v)) = rt_tv G (2, v) := fun v G => by show narrow (tyX4 2) (va_rf (rt_rf G v)) = va_rf (rt_rf G v); cases rt_rf G v <;> rfl
theorem fit_X4_2 : ∀ (v : Int) (G : rt_G), fits (rt_ty 4 2) (rt_tv G (2, v)) = true := fun v G => by show fits (tyX4 2) (va_rf (rt_rf G v)) = true; cases rt_rf G v <;> rfl
theorem hl_X4_9 : Cond.fieldLink RX4 9 (rt_R 4) (rt_T 4 2).2.1 (rt_T 4 2).2.2.1 ∈ rt_mG := (rt_inG (rt_t1 230 (by decide +kernel)) rfl)
theorem gl_X4_15 : rt_FL RX4 15 4 3 := ⟨cl_X4, by decide, rfl, Or.inl (rt_inG (rt_t1 232 (by decide +kernel)) rfl)⟩
theorem nar_X4_3 : ∀ (v : Int) (G : rt_G), narrow (rt_ty 4 3) (rt_tv G (2, v)) = rt_tv G (2, v) := fun v G => by show narrow (tyX4 3) (va_rf (rt_rf G v)) = va_rf (rt_rf G v); cases rt_rf G v <;> rfl
theorem fit_X4_3 : ∀ (v : Int) (G : rt_G), fits (rt_ty 4 3) (rt_tv G (2, v)) = true := fun v G => by show fits (tyX4 3) (va_rf (rt_rf G v)) = true; cases rt_rf G v <;> rfl
theorem hl_X4_15 : Cond.fieldLink RX4 15 (rt_R 4) (rt_T 4 3).2.1 (rt_T 4 3).2.2.1 ∈ rt_mG := (rt_inG (rt_t1 232 (by decide +kernel)) rfl)
theorem co_X4_18 : Cond.classLink RX4 18 "[[I" ∈ rt_mG := (rt_inG (rt_t1 177 (by decide +kernel)) rfl)
theorem gl_X4_20 : rt_FL RX4 20 4 4 := ⟨cl_X4, by decide, rfl, Or.inl (rt_inG (rt_t1 234 (by decide +kernel)) rfl)⟩
theorem nar_X4_4 : ∀ (v : Int) (G : rt_G), narrow (rt_ty 4 4) (rt_tv G (2, v)) = rt_tv G (2, v) := fun v G => by show narrow (tyX4 4) (va_rf (rt_rf G v)) = va_rf (rt_rf G v); cases rt_rf G v <;> rfl
theorem fit_X4_4 : ∀ (v : Int) (G : rt_G), fits (rt_ty 4 4) (rt_tv G (2, v)) = true := fun v G => by show fits (tyX4 4) (va_rf (rt_rf G v)) = true; cases rt_rf G v <;> rfl
theorem hl_X4_20 : Cond.fieldLink RX4 20 (rt_R 4) (rt_T 4 4).2.1 (rt_T 4 4).2.2.1 ∈ rt_mG := (rt_inG (rt_t1 234 (by decide +kernel)) rfl)
theorem gl_X4_23 : rt_FL RX4 23 4 5 := ⟨cl_X4, by decide, rfl, Or.inl (rt_inG (rt_t1 236 (by decide +kernel)) rfl)⟩
theorem nar_X4_5 : ∀ (v : Int) (G : rt_G), narrow (rt_ty 4 5) (rt_tv G (2, v)) = rt_tv G (2, v) := fun v G => by show narrow (tyX4 5) (va_rf (rt_rf G v)) = va_rf (rt_rf G v); cases rt_rf G v <;> rfl
theorem fit_X4_5 : ∀ (v : Int) (G : rt_G), fits (rt_ty 4 5) (rt_tv G (2, v)) = true := fun v G => by show fits (tyX4 5) (va_rf (rt_rf G v)) = true; cases rt_rf G v <;> rfl
theorem hl_X4_23 : Cond.fieldLink RX4 23 (rt_R 4) (rt_T 4 5).2.1 (rt_T 4 5).2.2.1 ∈ rt_mG := (rt_inG (rt_t1 236 (by decide +kernel)) rfl)
theorem gl_X4_26 : rt_FL RX4 26 4 6 := ⟨cl_X4, by decide, rfl, Or.inl (rt_inG (rt_t1 238 (by decide +kernel)) rfl)⟩
theorem nar_X4_6 : ∀ (v : Int) (G : rt_G), narrow (rt_ty 4 6) (rt_tv G (2, v)) = rt_tv G (2, v) := fun v G => by show narrow (tyX4 6) (va_rf (rt_rf G v)) = va_rf (rt_rf G v); cases rt_rf G v <;> rfl
theorem fit_X4_6 : ∀ (v : Int) (G : rt_G), fits (rt_ty 4 6) (rt_tv G (2, v)) = true := fun v G => by show fits (tyX4 6) (va_rf (rt_rf G v)) = true; cases rt_rf G v <;> rfl
theorem hl_X4_26 : Cond.fieldLink RX4 26 (rt_R 4) (rt_T 4 6).2.1 (rt_T 4 6).2.2.1 ∈ rt_mG := (rt_inG (rt_t1 238 (by decide +kernel)) rfl)
theorem gl_X4_30 : rt_FL RX4 30 4 8 := ⟨cl_X4, by decide, rfl, Or.inl (rt_inG (rt_t2 2 (by decide +kernel)) rfl)⟩
theorem co_X4_34 : Cond.classLink RX4 34 (rt_R 2) ∈ rt_mG := (rt_inG (rt_t1 179 (by decide +kernel)) rfl)
theorem ib_X2 : Cond.instantiable (rt_R 2) (rt_N 2) ∈ rt_mG := (rt_inG (rt_t1 180 (by decide +kernel)) rfl)
theorem it_X2 : Cond.initialized (rt_R 2) ∈ rt_mG := (rt_inG (rt_t1 9 (by decide +kernel)) rfl)
theorem gs_X4_36 : rt_SL RX4 36 21 := ⟨by decide, Or.inl (rt_inG (rt_t1 181 (by decide +kernel)) rfl)⟩
theorem gs_X4_42 : rt_SL RX4 42 22 := ⟨by decide, Or.inl (rt_inG (rt_t1 183 (by decide +kernel)) rfl)⟩
theorem gs_X4_45 : rt_SL RX4 45 23 := ⟨by decide, Or.inl (rt_inG (rt_t1 185 (by decide +kernel)) rfl)⟩
theorem ni_X4_48 : rt_Ml RX4 48 M_X2_init := Or.inr ⟨"WigOffice", (rt_inN (rt_t1 187 (by decide +kernel)) rfl)⟩
theorem gl_X4_51 : rt_FL RX4 51 4 10 := ⟨cl_X4, by decide, rfl, Or.inl (rt_inG (rt_t2 7 (by decide +kernel)) rfl)⟩
theorem nar_X4_10 : ∀ (v : Int) (G : rt_G), narrow (rt_ty 4 10) (rt_tv G (2, v)) = rt_tv G (2, v) := fun v G => by show narrow (tyX4 10) (va_rf (rt_rf G v)) = va_rf (rt_rf G v); cases rt_rf G v <;> rfl
theorem fit_X4_10 : ∀ (v : Int) (G : rt_G), fits (rt_ty 4 10) (rt_tv G (2, v)) = true := fun v G => by show fits (tyX4 10) (va_rf (rt_rf G v)) = true; cases rt_rf G v <;> rfl
theorem hl_X4_51 : Cond.fieldLink RX4 51 (rt_R 4) (rt_T 4 10).2.1 (rt_T 4 10).2.2.1 ∈ rt_mG := (rt_inG (rt_t2 7 (by decide +kernel)) rfl)
theorem gs_X4_55 : rt_SL RX4 55 24 := ⟨by decide, Or.inl (rt_inG (rt_t1 215 (by decide +kernel)) rfl)⟩
theorem gs_X4_58 : rt_SL RX4 58 25 := ⟨by decide, Or.inl (rt_inG (rt_t1 217 (by decide +kernel)) rfl)⟩
theorem gs_X4_61 : rt_SL RX4 61 26 := ⟨by decide, Or.inl (rt_inG (rt_t1 219 (by decide +kernel)) rfl)⟩
theorem gl_X4_64 : rt_FL RX4 64 4 11 := ⟨cl_X4, by decide, rfl, Or.inl (rt_inG (rt_t2 9 (by decide +kernel)) rfl)⟩
theorem nar_X4_11 : ∀ (v : Int) (G : rt_G), narrow (rt_ty 4 11) (rt_tv G (2, v)) = rt_tv G (2, v) := fun v G => by show narrow (tyX4 11) (va_rf (rt_rf G v)) = va_rf (rt_rf G v); cases rt_rf G v <;> rfl
theorem fit_X4_11 : ∀ (v : Int) (G : rt_G), fits (rt_ty 4 11) (rt_tv G (2, v)) = true := fun v G => by show fits (tyX4 11) (va_rf (rt_rf G v)) = true; cases rt_rf G v <;> rfl
theorem hl_X4_64 : Cond.fieldLink RX4 64 (rt_R 4) (rt_T 4 11).2.1 (rt_T 4 11).2.2.1 ∈ rt_mG := (rt_inG (rt_t2 9 (by decide +kernel)) rfl)
theorem ol_X1_3 : Cond.methodLink RX1 3 Lib.objectInit ∈ rt_mG := (rt_inG (rt_t2 44 (by decide +kernel)) rfl)
theorem co_X1_9 : Cond.classLink RX1 9 "[[I" ∈ rt_mG := (rt_inG (rt_t2 45 (by decide +kernel)) rfl)
theorem gl_X1_11 : rt_FL RX1 11 1 2 := ⟨cl_X1, by decide, rfl, Or.inl (rt_inG (rt_t2 48 (by decide +kernel)) rfl)⟩
theorem nar_X1_2 : ∀ (v : Int) (G : rt_G), narrow (rt_ty 1 2) (rt_tv G (2, v)) = rt_tv G (2, v) := fun v G => by show narrow (tyX1 2) (va_rf (rt_rf G v)) = va_rf (rt_rf G v); cases rt_rf G v <;> rfl
theorem fit_X1_2 : ∀ (v : Int) (G : rt_G), fits (rt_ty 1 2) (rt_tv G (2, v)) = true := fun v G => by show fits (tyX1 2) (va_rf (rt_rf G v)) = true; cases rt_rf G v <;> rfl
theorem hl_X1_11 : Cond.fieldLink RX1 11 (rt_R 1) (rt_T 1 2).2.1 (rt_T 1 2).2.2.1 ∈ rt_mG := (rt_inG (rt_t2 48 (by decide +kernel)) rfl)
theorem gl_X1_16 : rt_FL RX1 16 1 3 := ⟨cl_X1, by decide, rfl, Or.inl (rt_inG (rt_t2 49 (by decide +kernel)) rfl)⟩
theorem nar_X1_3 : ∀ (v : Int) (G : rt_G), narrow (rt_ty 1 3) (rt_tv G (2, v)) = rt_tv G (2, v) := fun v G => by show narrow (tyX1 3) (va_rf (rt_rf G v)) = va_rf (rt_rf G v); cases rt_rf G v <;> rfl
theorem fit_X1_3 : ∀ (v : Int) (G : rt_G), fits (rt_ty 1 3) (rt_tv G (2, v)) = true := fun v G => by show fits (tyX1 3) (va_rf (rt_rf G v)) = true; cases rt_rf G v <;> rfl
theorem hl_X1_16 : Cond.fieldLink RX1 16 (rt_R 1) (rt_T 1 3).2.1 (rt_T 1 3).2.2.1 ∈ rt_mG := (rt_inG (rt_t2 49 (by decide +kernel)) rfl)
theorem gl_X1_20 : rt_FL RX1 20 1 4 := ⟨cl_X1, by decide, rfl, Or.inl (rt_inG (rt_t2 50 (by decide +kernel)) rfl)⟩
theorem nar_X1_4 : ∀ (v : Int) (G : rt_G), narrow (rt_ty 1 4) (rt_tv G (2, v)) = rt_tv G (2, v) := fun v G => by show narrow (tyX1 4) (va_rf (rt_rf G v)) = va_rf (rt_rf G v); cases rt_rf G v <;> rfl
theorem fit_X1_4 : ∀ (v : Int) (G : rt_G), fits (rt_ty 1 4) (rt_tv G (2, v)) = true := fun v G => by show fits (tyX1 4) (va_rf (rt_rf G v)) = true; cases rt_rf G v <;> rfl
theorem hl_X1_20 : Cond.fieldLink RX1 20 (rt_R 1) (rt_T 1 4).2.1 (rt_T 1 4).2.2.1 ∈ rt_mG := (rt_inG (rt_t2 50 (by decide +kernel)) rfl)
theorem gl_X1_23 : rt_FL RX1 23 1 5 := ⟨cl_X1, by decide, rfl, Or.inl (rt_inG (rt_t2 51 (by decide +kernel)) rfl)⟩
theorem nar_X1_5 : ∀ (v : Int) (G : rt_G), narrow (rt_ty 1 5) (rt_tv G (2, v)) = rt_tv G (2, v) := fun v G => by show narrow (tyX1 5) (va_rf (rt_rf G v)) = va_rf (rt_rf G v); cases rt_rf G v <;> rfl
theorem fit_X1_5 : ∀ (v : Int) (G : rt_G), fits (rt_ty 1 5) (rt_tv G (2, v)) = true := fun v G => by show fits (tyX1 5) (va_rf (rt_rf G v)) = true; cases rt_rf G v <;> rfl
theorem hl_X1_23 : Cond.fieldLink RX1 23 (rt_R 1) (rt_T 1 5).2.1 (rt_T 1 5).2.2.1 ∈ rt_mG := (rt_inG (rt_t2 51 (by decide +kernel)) rfl)
theorem gl_X1_26 : rt_FL RX1 26 1 6 := ⟨cl_X1, by decide, rfl, Or.inl (rt_inG (rt_t2 52 (by decide +kernel)) rfl)⟩
theorem nar_X1_6 : ∀ (v : Int) (G : rt_G), narrow (rt_ty 1 6) (rt_tv G (2, v)) = rt_tv G (2, v) := fun v G => by show narrow (tyX1 6) (va_rf (rt_rf G v)) = va_rf (rt_rf G v); cases rt_rf G v <;> rfl
theorem fit_X1_6 : ∀ (v : Int) (G : rt_G), fits (rt_ty 1 6) (rt_tv G (2, v)) = true := fun v G => by show fits (tyX1 6) (va_rf (rt_rf G v)) = true; cases rt_rf G v <;> rfl
theorem hl_X1_26 : Cond.fieldLink RX1 26 (rt_R 1) (rt_T 1 6).2.1 (rt_T 1 6).2.2.1 ∈ rt_mG := (rt_inG (rt_t2 52 (by decide +kernel)) rfl)
theorem ol_X5_3 : Cond.methodLink RX5 3 Lib.objectInit ∈ rt_mG := (rt_inG (rt_t2 73 (by decide +kernel)) rfl)
theorem gl_X5_9 : rt_FL RX5 9 5 2 := ⟨cl_X5, by decide, rfl, Or.inl (rt_inG (rt_t2 77 (by decide +kernel)) rfl)⟩
theorem nar_X5_2 : ∀ (v : Int) (G : rt_G), narrow (rt_ty 5 2) (rt_tv G (2, v)) = rt_tv G (2, v) := fun v G => by show narrow (tyX5 2) (va_rf (rt_rf G v)) = va_rf (rt_rf G v); cases rt_rf G v <;> rfl
theorem fit_X5_2 : ∀ (v : Int) (G : rt_G), fits (rt_ty 5 2) (rt_tv G (2, v)) = true := fun v G => by show fits (tyX5 2) (va_rf (rt_rf G v)) = true; cases rt_rf G v <;> rfl
theorem hl_X5_9 : Cond.fieldLink RX5 9 (rt_R 5) (rt_T 5 2).2.1 (rt_T 5 2).2.2.1 ∈ rt_mG := (rt_inG (rt_t2 77 (by decide +kernel)) rfl)
theorem co_X5_15 : Cond.classLink RX5 15 "[[I" ∈ rt_mG := (rt_inG (rt_t2 74 (by decide +kernel)) rfl)
theorem gl_X5_17 : rt_FL RX5 17 5 3 := ⟨cl_X5, by decide, rfl, Or.inl (rt_inG (rt_t2 78 (by decide +kernel)) rfl)⟩
theorem nar_X5_3 : ∀ (v : Int) (G : rt_G), narrow (rt_ty 5 3) (rt_tv G (2, v)) = rt_tv G (2, v) := fun v G => by show narrow (tyX5 3) (va_rf (rt_rf G v)) = va_rf (rt_rf G v); cases rt_rf G v <;> rfl
theorem fit_X5_3 : ∀ (v : Int) (G : rt_G), fits (rt_ty 5 3) (rt_tv G (2, v)) = true := fun v G => by show fits (tyX5 3) (va_rf (rt_rf G v)) = true; cases rt_rf G v <;> rfl
theorem hl_X5_17 : Cond.fieldLink RX5 17 (rt_R 5) (rt_T 5 3).2.1 (rt_T 5 3).2.2.1 ∈ rt_mG := (rt_inG (rt_t2 78 (by decide +kernel)) rfl)
theorem gl_X5_20 : rt_FL RX5 20 5 4 := ⟨cl_X5, by decide, rfl, Or.inl (rt_inG (rt_t2 79 (by decide +kernel)) rfl)⟩
theorem nar_X5_4 : ∀ (v : Int) (G : rt_G), narrow (rt_ty 5 4) (rt_tv G (2, v)) = rt_tv G (2, v) := fun v G => by show narrow (tyX5 4) (va_rf (rt_rf G v)) = va_rf (rt_rf G v); cases rt_rf G v <;> rfl
theorem fit_X5_4 : ∀ (v : Int) (G : rt_G), fits (rt_ty 5 4) (rt_tv G (2, v)) = true := fun v G => by show fits (tyX5 4) (va_rf (rt_rf G v)) = true; cases rt_rf G v <;> rfl
theorem hl_X5_20 : Cond.fieldLink RX5 20 (rt_R 5) (rt_T 5 4).2.1 (rt_T 5 4).2.2.1 ∈ rt_mG := (rt_inG (rt_t2 79 (by decide +kernel)) rfl)
theorem gl_X5_23 : rt_FL RX5 23 5 5 := ⟨cl_X5, by decide, rfl, Or.inl (rt_inG (rt_t2 80 (by decide +kernel)) rfl)⟩
theorem nar_X5_5 : ∀ (v : Int) (G : rt_G), narrow (rt_ty 5 5) (rt_tv G (2, v)) = rt_tv G (2, v) := fun v G => by show narrow (tyX5 5) (va_rf (rt_rf G v)) = va_rf (rt_rf G v); cases rt_rf G v <;> rfl
theorem fit_X5_5 : ∀ (v : Int) (G : rt_G), fits (rt_ty 5 5) (rt_tv G (2, v)) = true := fun v G => by show fits (tyX5 5) (va_rf (rt_rf G v)) = true; cases rt_rf G v <;> rfl
theorem hl_X5_23 : Cond.fieldLink RX5 23 (rt_R 5) (rt_T 5 5).2.1 (rt_T 5 5).2.2.1 ∈ rt_mG := (rt_inG (rt_t2 80 (by decide +kernel)) rfl)
theorem ol_X11_1 : Cond.methodLink RX11 1 Lib.objectInit ∈ rt_mG := (rt_inG (rt_t1 26 (by decide +kernel)) rfl)
theorem co_X11_7 : Cond.classLink RX11 7 (rt_R 8) ∈ rt_mG := (rt_inG (rt_t1 29 (by decide +kernel)) rfl)
theorem ib_X8 : Cond.instantiable (rt_R 8) (rt_N 8) ∈ rt_mG := (rt_inG (rt_t1 30 (by decide +kernel)) rfl)
theorem it_X8 : Cond.initialized (rt_R 8) ∈ rt_mG := (rt_inG (rt_t1 2 (by decide +kernel)) rfl)
theorem ni_X11_9 : rt_Ml RX11 9 M_X8_init := Or.inr ⟨"WigOffice", (rt_inN (rt_t1 31 (by decide +kernel)) rfl)⟩
theorem gl_X11_10 : rt_FL RX11 10 11 0 := ⟨cl_X11, by decide, rfl, Or.inl (rt_inG (rt_t2 94 (by decide +kernel)) rfl)⟩
theorem nar_X11_0 : ∀ (v : Int) (G : rt_G), narrow (rt_ty 11 0) (rt_tv G (2, v)) = rt_tv G (2, v) := fun v G => by show narrow (tyX11 0) (va_rf (rt_rf G v)) = va_rf (rt_rf G v); cases rt_rf G v <;> rfl
theorem fit_X11_0 : ∀ (v : Int) (G : rt_G), fits (rt_ty 11 0) (rt_tv G (2, v)) = true := fun v G => by show fits (tyX11 0) (va_rf (rt_rf G v)) = true; cases rt_rf G v <;> rfl
theorem hl_X11_10 : Cond.fieldLink RX11 10 (rt_R 11) (rt_T 11 0).2.1 (rt_T 11 0).2.2.1 ∈ rt_mG := (rt_inG (rt_t2 94 (by decide +kernel)) rfl)
theorem co_X11_16 : Cond.classLink RX11 16 (rt_R 3) ∈ rt_mG := (rt_inG (rt_t1 64 (by decide +kernel)) rfl)
theorem ib_X3 : Cond.instantiable (rt_R 3) (rt_N 3) ∈ rt_mG := (rt_inG (rt_t1 65 (by decide +kernel)) rfl)
theorem it_X3 : Cond.initialized (rt_R 3) ∈ rt_mG := (rt_inG (rt_t1 3 (by decide +kernel)) rfl)
theorem ni_X11_18 : rt_Ml RX11 18 M_X3_init := Or.inr ⟨"WigOffice", (rt_inN (rt_t1 66 (by decide +kernel)) rfl)⟩
theorem gl_X11_21 : rt_FL RX11 21 11 1 := ⟨cl_X11, by decide, rfl, Or.inl (rt_inG (rt_t2 95 (by decide +kernel)) rfl)⟩
theorem nar_X11_1 : ∀ (v : Int) (G : rt_G), narrow (rt_ty 11 1) (rt_tv G (2, v)) = rt_tv G (2, v) := fun v G => by show narrow (tyX11 1) (va_rf (rt_rf G v)) = va_rf (rt_rf G v); cases rt_rf G v <;> rfl
theorem fit_X11_1 : ∀ (v : Int) (G : rt_G), fits (rt_ty 11 1) (rt_tv G (2, v)) = true := fun v G => by show fits (tyX11 1) (va_rf (rt_rf G v)) = true; cases rt_rf G v <;> rfl
theorem hl_X11_21 : Cond.fieldLink RX11 21 (rt_R 11) (rt_T 11 1).2.1 (rt_T 11 1).2.2.1 ∈ rt_mG := (rt_inG (rt_t2 95 (by decide +kernel)) rfl)
theorem co_X11_25 : Cond.classLink RX11 25 (rt_R 0) ∈ rt_mG := (rt_inG (rt_t1 80 (by decide +kernel)) rfl)
theorem ib_X0 : Cond.instantiable (rt_R 0) (rt_N 0) ∈ rt_mG := (rt_inG (rt_t1 81 (by decide +kernel)) rfl)
theorem it_X0 : Cond.initialized (rt_R 0) ∈ rt_mG := (rt_inG (rt_t1 4 (by decide +kernel)) rfl)
theorem ni_X11_27 : rt_Ml RX11 27 M_X0_init := Or.inr ⟨"WigOffice", (rt_inN (rt_t1 82 (by decide +kernel)) rfl)⟩
theorem gl_X11_28 : rt_FL RX11 28 11 2 := ⟨cl_X11, by decide, rfl, Or.inl (rt_inG (rt_t2 96 (by decide +kernel)) rfl)⟩
theorem nar_X11_2 : ∀ (v : Int) (G : rt_G), narrow (rt_ty 11 2) (rt_tv G (2, v)) = rt_tv G (2, v) := fun v G => by show narrow (tyX11 2) (va_rf (rt_rf G v)) = va_rf (rt_rf G v); cases rt_rf G v <;> rfl
theorem fit_X11_2 : ∀ (v : Int) (G : rt_G), fits (rt_ty 11 2) (rt_tv G (2, v)) = true := fun v G => by show fits (tyX11 2) (va_rf (rt_rf G v)) = true; cases rt_rf G v <;> rfl
theorem hl_X11_28 : Cond.fieldLink RX11 28 (rt_R 11) (rt_T 11 2).2.1 (rt_T 11 2).2.2.1 ∈ rt_mG := (rt_inG (rt_t2 96 (by decide +kernel)) rfl)
theorem gl_X11_32 : rt_FL RX11 32 11 3 := ⟨cl_X11, by decide, rfl, Or.inl (rt_inG (rt_t2 97 (by decide +kernel)) rfl)⟩
theorem nar_X11_3 : ∀ (v : Int) (G : rt_G), narrow (rt_ty 11 3) (rt_tv G (2, v)) = rt_tv G (2, v) := fun v G => by show narrow (tyX11 3) (va_rf (rt_rf G v)) = va_rf (rt_rf G v); cases rt_rf G v <;> rfl
theorem fit_X11_3 : ∀ (v : Int) (G : rt_G), fits (rt_ty 11 3) (rt_tv G (2, v)) = true := fun v G => by show fits (tyX11 3) (va_rf (rt_rf G v)) = true; cases rt_rf G v <;> rfl
theorem hl_X11_32 : Cond.fieldLink RX11 32 (rt_R 11) (rt_T 11 3).2.1 (rt_T 11 3).2.2.1 ∈ rt_mG := (rt_inG (rt_t2 97 (by decide +kernel)) rfl)
theorem co_X11_36 : Cond.classLink RX11 36 "WigOffice$Stands" ∈ rt_mG := (rt_inG (rt_t1 169 (by decide +kernel)) rfl)
theorem gl_X11_38 : rt_FL RX11 38 11 4 := ⟨cl_X11, by decide, rfl, Or.inl (rt_inG (rt_t2 98 (by decide +kernel)) rfl)⟩
theorem nar_X11_4 : ∀ (v : Int) (G : rt_G), narrow (rt_ty 11 4) (rt_tv G (2, v)) = rt_tv G (2, v) := fun v G => by show narrow (tyX11 4) (va_rf (rt_rf G v)) = va_rf (rt_rf G v); cases rt_rf G v <;> rfl
theorem fit_X11_4 : ∀ (v : Int) (G : rt_G), fits (rt_ty 11 4) (rt_tv G (2, v)) = true := fun v G => by show fits (tyX11 4) (va_rf (rt_rf G v)) = true; cases rt_rf G v <;> rfl
theorem hl_X11_38 : Cond.fieldLink RX11 38 (rt_R 11) (rt_T 11 4).2.1 (rt_T 11 4).2.2.1 ∈ rt_mG := (rt_inG (rt_t2 98 (by decide +kernel)) rfl)
theorem co_X11_42 : Cond.classLink RX11 42 (rt_R 4) ∈ rt_mG := (rt_inG (rt_t1 171 (by decide +kernel)) rfl)
theorem ib_X4 : Cond.instantiable (rt_R 4) (rt_N 4) ∈ rt_mG := (rt_inG (rt_t1 172 (by decide +kernel)) rfl)
theorem it_X4 : Cond.initialized (rt_R 4) ∈ rt_mG := (rt_inG (rt_t1 8 (by decide +kernel)) rfl)
theorem ni_X11_44 : rt_Ml RX11 44 M_X4_init := Or.inr ⟨"WigOffice", (rt_inN (rt_t1 173 (by decide +kernel)) rfl)⟩
theorem gl_X11_45 : rt_FL RX11 45 11 7 := ⟨cl_X11, by decide, rfl, Or.inl (rt_inG (rt_t2 101 (by decide +kernel)) rfl)⟩
theorem nar_X11_7 : ∀ (v : Int) (G : rt_G), narrow (rt_ty 11 7) (rt_tv G (2, v)) = rt_tv G (2, v) := fun v G => by show narrow (tyX11 7) (va_rf (rt_rf G v)) = va_rf (rt_rf G v); cases rt_rf G v <;> rfl
theorem fit_X11_7 : ∀ (v : Int) (G : rt_G), fits (rt_ty 11 7) (rt_tv G (2, v)) = true := fun v G => by show fits (tyX11 7) (va_rf (rt_rf G v)) = true; cases rt_rf G v <;> rfl
theorem gl_X11_49 : rt_FL RX11 49 11 8 := ⟨cl_X11, by decide, rfl, Or.inl (rt_inG (rt_t2 102 (by decide +kernel)) rfl)⟩
theorem nar_X11_8 : ∀ (v : Int) (G : rt_G), narrow (rt_ty 11 8) (rt_tv G (2, v)) = rt_tv G (2, v) := fun v G => by show narrow (tyX11 8) (va_rf (rt_rf G v)) = va_rf (rt_rf G v); cases rt_rf G v <;> rfl
theorem fit_X11_8 : ∀ (v : Int) (G : rt_G), fits (rt_ty 11 8) (rt_tv G (2, v)) = true := fun v G => by show fits (tyX11 8) (va_rf (rt_rf G v)) = true; cases rt_rf G v <;> rfl
theorem co_X11_52 : Cond.classLink RX11 52 (rt_R 10) ∈ rt_mG := (rt_inG (rt_t2 36 (by decide +kernel)) rfl)
theorem ni_X11_54 : rt_Ml RX11 54 M_X10_init := Or.inr ⟨"WigOffice", (rt_inN (rt_t2 37 (by decide +kernel)) rfl)⟩
theorem gl_X11_55 : rt_FL RX11 55 11 9 := ⟨cl_X11, by decide, rfl, Or.inl (rt_inG (rt_t2 103 (by decide +kernel)) rfl)⟩
theorem nar_X11_9 : ∀ (v : Int) (G : rt_G), narrow (rt_ty 11 9) (rt_tv G (2, v)) = rt_tv G (2, v) := fun v G => by show narrow (tyX11 9) (va_rf (rt_rf G v)) = va_rf (rt_rf G v); cases rt_rf G v <;> rfl
theorem fit_X11_9 : ∀ (v : Int) (G : rt_G), fits (rt_ty 11 9) (rt_tv G (2, v)) = true := fun v G => by show fits (tyX11 9) (va_rf (rt_rf G v)) = true; cases rt_rf G v <;> rfl
theorem hl_X11_55 : Cond.fieldLink RX11 55 (rt_R 11) (rt_T 11 9).2.1 (rt_T 11 9).2.2.1 ∈ rt_mG := (rt_inG (rt_t2 103 (by decide +kernel)) rfl)
theorem ni_X11_59 : rt_Ml RX11 59 M_X7_init := Or.inr ⟨"WigOffice", (rt_inN (rt_t2 38 (by decide +kernel)) rfl)⟩
theorem gl_X11_60 : rt_FL RX11 60 11 10 := ⟨cl_X11, by decide, rfl, Or.inl (rt_inG (rt_t2 104 (by decide +kernel)) rfl)⟩
theorem nar_X11_10 : ∀ (v : Int) (G : rt_G), narrow (rt_ty 11 10) (rt_tv G (2, v)) = rt_tv G (2, v) := fun v G => by show narrow (tyX11 10) (va_rf (rt_rf G v)) = va_rf (rt_rf G v); cases rt_rf G v <;> rfl
theorem fit_X11_10 : ∀ (v : Int) (G : rt_G), fits (rt_ty 11 10) (rt_tv G (2, v)) = true := fun v G => by show fits (tyX11 10) (va_rf (rt_rf G v)) = true; cases rt_rf G v <;> rfl
theorem hl_X11_60 : Cond.fieldLink RX11 60 (rt_R 11) (rt_T 11 10).2.1 (rt_T 11 10).2.2.1 ∈ rt_mG := (rt_inG (rt_t2 104 (by decide +kernel)) rfl)
theorem co_X11_64 : Cond.classLink RX11 64 (rt_R 1) ∈ rt_mG := (rt_inG (rt_t2 39 (by decide +kernel)) rfl)
theorem ib_X1 : Cond.instantiable (rt_R 1) (rt_N 1) ∈ rt_mG := (rt_inG (rt_t2 40 (by decide +kernel)) rfl)
theorem it_X1 : Cond.initialized (rt_R 1) ∈ rt_mG := (rt_inG (rt_t1 12 (by decide +kernel)) rfl)
theorem ni_X11_66 : rt_Ml RX11 66 M_X1_init := Or.inr ⟨"WigOffice", (rt_inN (rt_t2 41 (by decide +kernel)) rfl)⟩
theorem gl_X11_67 : rt_FL RX11 67 11 11 := ⟨cl_X11, by decide, rfl, Or.inl (rt_inG (rt_t2 105 (by decide +kernel)) rfl)⟩
theorem nar_X11_11 : ∀ (v : Int) (G : rt_G), narrow (rt_ty 11 11) (rt_tv G (2, v)) = rt_tv G (2, v) := fun v G => by show narrow (tyX11 11) (va_rf (rt_rf G v)) = va_rf (rt_rf G v); cases rt_rf G v <;> rfl
theorem fit_X11_11 : ∀ (v : Int) (G : rt_G), fits (rt_ty 11 11) (rt_tv G (2, v)) = true := fun v G => by show fits (tyX11 11) (va_rf (rt_rf G v)) = true; cases rt_rf G v <;> rfl
theorem hl_X11_67 : Cond.fieldLink RX11 67 (rt_R 11) (rt_T 11 11).2.1 (rt_T 11 11).2.2.1 ∈ rt_mG := (rt_inG (rt_t2 105 (by decide +kernel)) rfl)
theorem co_X11_71 : Cond.classLink RX11 71 (rt_R 5) ∈ rt_mG := (rt_inG (rt_t2 68 (by decide +kernel)) rfl)
theorem ib_X5 : Cond.instantiable (rt_R 5) (rt_N 5) ∈ rt_mG := (rt_inG (rt_t2 69 (by decide +kernel)) rfl)
theorem it_X5 : Cond.initialized (rt_R 5) ∈ rt_mG := (rt_inG (rt_t1 13 (by decide +kernel)) rfl)
theorem ni_X11_73 : rt_Ml RX11 73 M_X5_init := Or.inr ⟨"WigOffice", (rt_inN (rt_t2 70 (by decide +kernel)) rfl)⟩
theorem gl_X11_74 : rt_FL RX11 74 11 12 := ⟨cl_X11, by decide, rfl, Or.inl (rt_inG (rt_t2 106 (by decide +kernel)) rfl)⟩
theorem nar_X11_12 : ∀ (v : Int) (G : rt_G), narrow (rt_ty 11 12) (rt_tv G (2, v)) = rt_tv G (2, v) := fun v G => by show narrow (tyX11 12) (va_rf (rt_rf G v)) = va_rf (rt_rf G v); cases rt_rf G v <;> rfl
theorem fit_X11_12 : ∀ (v : Int) (G : rt_G), fits (rt_ty 11 12) (rt_tv G (2, v)) = true := fun v G => by show fits (tyX11 12) (va_rf (rt_rf G v)) = true; cases rt_rf G v <;> rfl
theorem hl_X11_74 : Cond.fieldLink RX11 74 (rt_R 11) (rt_T 11 12).2.1 (rt_T 11 12).2.2.1 ∈ rt_mG := (rt_inG (rt_t2 106 (by decide +kernel)) rfl)
theorem ol_X12_1 : Cond.methodLink RX12 1 Lib.objectInit ∈ rt_mG := (rt_inG (rt_t5 176 (by decide +kernel)) rfl)
theorem gl_X12_7 : rt_FL RX12 7 12 2 := ⟨cl_X12, by decide, rfl, Or.inl (rt_inG (rt_t5 187 (by decide +kernel)) rfl)⟩
theorem nar_X12_2 : ∀ (v : Int) (G : rt_G), narrow (rt_ty 12 2) (rt_tv G (2, v)) = rt_tv G (2, v) := fun v G => by show narrow (tyX12 2) (va_rf (rt_rf G v)) = va_rf (rt_rf G v); cases rt_rf G v <;> rfl
theorem fit_X12_2 : ∀ (v : Int) (G : rt_G), fits (rt_ty 12 2) (rt_tv G (2, v)) = true := fun v G => by show fits (tyX12 2) (va_rf (rt_rf G v)) = true; cases rt_rf G v <;> rfl
theorem hl_X12_7 : Cond.fieldLink RX12 7 (rt_R 12) (rt_T 12 2).2.1 (rt_T 12 2).2.2.1 ∈ rt_mG := (rt_inG (rt_t5 187 (by decide +kernel)) rfl)
theorem gl_X12_13 : rt_FL RX12 13 12 10 := ⟨cl_X12, by decide, rfl, Or.inl (rt_inG (rt_t5 195 (by decide +kernel)) rfl)⟩
theorem nar_X12_10 : ∀ (v : Int) (G : rt_G), narrow (rt_ty 12 10) (rt_tv G (2, v)) = rt_tv G (2, v) := fun v G => by show narrow (tyX12 10) (va_rf (rt_rf G v)) = va_rf (rt_rf G v); cases rt_rf G v <;> rfl
theorem fit_X12_10 : ∀ (v : Int) (G : rt_G), fits (rt_ty 12 10) (rt_tv G (2, v)) = true := fun v G => by show fits (tyX12 10) (va_rf (rt_rf G v)) = true; cases rt_rf G v <;> rfl
theorem hl_X12_13 : Cond.fieldLink RX12 13 (rt_R 12) (rt_T 12 10).2.1 (rt_T 12 10).2.2.1 ∈ rt_mG := (rt_inG (rt_t5 195 (by decide +kernel)) rfl)
theorem gl_X12_16 : rt_FL RX12 16 12 11 := ⟨cl_X12, by decide, rfl, Or.inl (rt_inG (rt_t5 196 (by decide +kernel)) rfl)⟩
theorem nar_X12_11 : ∀ (v : Int) (G : rt_G), narrow (rt_ty 12 11) (rt_tv G (2, v)) = rt_tv G (2, v) := fun v G => by show narrow (tyX12 11) (va_rf (rt_rf G v)) = va_rf (rt_rf G v); cases rt_rf G v <;> rfl
theorem fit_X12_11 : ∀ (v : Int) (G : rt_G), fits (rt_ty 12 11) (rt_tv G (2, v)) = true := fun v G => by show fits (tyX12 11) (va_rf (rt_rf G v)) = true; cases rt_rf G v <;> rfl
theorem hl_X12_16 : Cond.fieldLink RX12 16 (rt_R 12) (rt_T 12 11).2.1 (rt_T 12 11).2.2.1 ∈ rt_mG := (rt_inG (rt_t5 196 (by decide +kernel)) rfl)
theorem gl_X12_20 : rt_FL RX12 20 12 12 := ⟨cl_X12, by decide, rfl, Or.inl (rt_inG (rt_t5 197 (by decide +kernel)) rfl)⟩
theorem nar_X12_12 : ∀ (v : Int) (G : rt_G), narrow (rt_ty 12 12) (rt_tv G (2, v)) = rt_tv G (2, v) := fun v G => by show narrow (tyX12 12) (va_rf (rt_rf G v)) = va_rf (rt_rf G v); cases rt_rf G v <;> rfl
theorem fit_X12_12 : ∀ (v : Int) (G : rt_G), fits (rt_ty 12 12) (rt_tv G (2, v)) = true := fun v G => by show fits (tyX12 12) (va_rf (rt_rf G v)) = true; cases rt_rf G v <;> rfl
theorem hl_X12_20 : Cond.fieldLink RX12 20 (rt_R 12) (rt_T 12 12).2.1 (rt_T 12 12).2.2.1 ∈ rt_mG := (rt_inG (rt_t5 197 (by decide +kernel)) rfl)
theorem gl_X12_23 : rt_FL RX12 23 12 13 := ⟨cl_X12, by decide, rfl, Or.inl (rt_inG (rt_t5 198 (by decide +kernel)) rfl)⟩
theorem nar_X12_13 : ∀ (v : Int) (G : rt_G), narrow (rt_ty 12 13) (rt_tv G (2, v)) = rt_tv G (2, v) := fun v G => by show narrow (tyX12 13) (va_rf (rt_rf G v)) = va_rf (rt_rf G v); cases rt_rf G v <;> rfl
theorem fit_X12_13 : ∀ (v : Int) (G : rt_G), fits (rt_ty 12 13) (rt_tv G (2, v)) = true := fun v G => by show fits (tyX12 13) (va_rf (rt_rf G v)) = true; cases rt_rf G v <;> rfl
theorem hl_X12_23 : Cond.fieldLink RX12 23 (rt_R 12) (rt_T 12 13).2.1 (rt_T 12 13).2.2.1 ∈ rt_mG := (rt_inG (rt_t5 198 (by decide +kernel)) rfl)
theorem gl_X12_26 : rt_FL RX12 26 12 14 := ⟨cl_X12, by decide, rfl, Or.inl (rt_inG (rt_t5 199 (by decide +kernel)) rfl)⟩
theorem nar_X12_14 : ∀ (v : Int) (G : rt_G), narrow (rt_ty 12 14) (rt_tv G (2, v)) = rt_tv G (2, v) := fun v G => by show narrow (tyX12 14) (va_rf (rt_rf G v)) = va_rf (rt_rf G v); cases rt_rf G v <;> rfl
theorem fit_X12_14 : ∀ (v : Int) (G : rt_G), fits (rt_ty 12 14) (rt_tv G (2, v)) = true := fun v G => by show fits (tyX12 14) (va_rf (rt_rf G v)) = true; cases rt_rf G v <;> rfl
theorem hl_X12_26 : Cond.fieldLink RX12 26 (rt_R 12) (rt_T 12 14).2.1 (rt_T 12 14).2.2.1 ∈ rt_mG := (rt_inG (rt_t5 199 (by decide +kernel)) rfl)
theorem gl_X12_29 : rt_FL RX12 29 12 15 := ⟨cl_X12, by decide, rfl, Or.inl (rt_inG (rt_t5 200 (by decide +kernel)) rfl)⟩
theorem nar_X12_15 : ∀ (v : Int) (G : rt_G), narrow (rt_ty 12 15) (rt_tv G (2, v)) = rt_tv G (2, v) := fun v G => by show narrow (tyX12 15) (va_rf (rt_rf G v)) = va_rf (rt_rf G v); cases rt_rf G v <;> rfl
theorem fit_X12_15 : ∀ (v : Int) (G : rt_G), fits (rt_ty 12 15) (rt_tv G (2, v)) = true := fun v G => by show fits (tyX12 15) (va_rf (rt_rf G v)) = true; cases rt_rf G v <;> rfl
theorem hl_X12_29 : Cond.fieldLink RX12 29 (rt_R 12) (rt_T 12 15).2.1 (rt_T 12 15).2.2.1 ∈ rt_mG := (rt_inG (rt_t5 200 (by decide +kernel)) rfl)
theorem gl_X12_32 : rt_FL RX12 32 12 16 := ⟨cl_X12, by decide, rfl, Or.inl (rt_inG (rt_t5 201 (by decide +kernel)) rfl)⟩
theorem nar_X12_16 : ∀ (v : Int) (G : rt_G), narrow (rt_ty 12 16) (rt_tv G (2, v)) = rt_tv G (2, v) := fun v G => by show narrow (tyX12 16) (va_rf (rt_rf G v)) = va_rf (rt_rf G v); cases rt_rf G v <;> rfl
theorem fit_X12_16 : ∀ (v : Int) (G : rt_G), fits (rt_ty 12 16) (rt_tv G (2, v)) = true := fun v G => by show fits (tyX12 16) (va_rf (rt_rf G v)) = true; cases rt_rf G v <;> rfl
theorem hl_X12_32 : Cond.fieldLink RX12 32 (rt_R 12) (rt_T 12 16).2.1 (rt_T 12 16).2.2.1 ∈ rt_mG := (rt_inG (rt_t5 201 (by decide +kernel)) rfl)
theorem gl_X12_35 : rt_FL RX12 35 12 17 := ⟨cl_X12, by decide, rfl, Or.inl (rt_inG (rt_t5 202 (by decide +kernel)) rfl)⟩
theorem nar_X12_17 : ∀ (v : Int) (G : rt_G), narrow (rt_ty 12 17) (rt_tv G (2, v)) = rt_tv G (2, v) := fun v G => by show narrow (tyX12 17) (va_rf (rt_rf G v)) = va_rf (rt_rf G v); cases rt_rf G v <;> rfl
theorem fit_X12_17 : ∀ (v : Int) (G : rt_G), fits (rt_ty 12 17) (rt_tv G (2, v)) = true := fun v G => by show fits (tyX12 17) (va_rf (rt_rf G v)) = true; cases rt_rf G v <;> rfl
theorem hl_X12_35 : Cond.fieldLink RX12 35 (rt_R 12) (rt_T 12 17).2.1 (rt_T 12 17).2.2.1 ∈ rt_mG := (rt_inG (rt_t5 202 (by decide +kernel)) rfl)
theorem gl_X12_38 : rt_FL RX12 38 12 18 := ⟨cl_X12, by decide, rfl, Or.inl (rt_inG (rt_t5 203 (by decide +kernel)) rfl)⟩
theorem nar_X12_18 : ∀ (v : Int) (G : rt_G), narrow (rt_ty 12 18) (rt_tv G (2, v)) = rt_tv G (2, v) := fun v G => by show narrow (tyX12 18) (va_rf (rt_rf G v)) = va_rf (rt_rf G v); cases rt_rf G v <;> rfl
theorem fit_X12_18 : ∀ (v : Int) (G : rt_G), fits (rt_ty 12 18) (rt_tv G (2, v)) = true := fun v G => by show fits (tyX12 18) (va_rf (rt_rf G v)) = true; cases rt_rf G v <;> rfl
theorem hl_X12_38 : Cond.fieldLink RX12 38 (rt_R 12) (rt_T 12 18).2.1 (rt_T 12 18).2.2.1 ∈ rt_mG := (rt_inG (rt_t5 203 (by decide +kernel)) rfl)
theorem gl_X12_41 : rt_FL RX12 41 12 19 := ⟨cl_X12, by decide, rfl, Or.inl (rt_inG (rt_t5 204 (by decide +kernel)) rfl)⟩
theorem nar_X12_19 : ∀ (v : Int) (G : rt_G), narrow (rt_ty 12 19) (rt_tv G (2, v)) = rt_tv G (2, v) := fun v G => by show narrow (tyX12 19) (va_rf (rt_rf G v)) = va_rf (rt_rf G v); cases rt_rf G v <;> rfl
theorem fit_X12_19 : ∀ (v : Int) (G : rt_G), fits (rt_ty 12 19) (rt_tv G (2, v)) = true := fun v G => by show fits (tyX12 19) (va_rf (rt_rf G v)) = true; cases rt_rf G v <;> rfl
theorem hl_X12_41 : Cond.fieldLink RX12 41 (rt_R 12) (rt_T 12 19).2.1 (rt_T 12 19).2.2.1 ∈ rt_mG := (rt_inG (rt_t5 204 (by decide +kernel)) rfl)
theorem gl_X12_44 : rt_FL RX12 44 12 20 := ⟨cl_X12, by decide, rfl, Or.inl (rt_inG (rt_t5 205 (by decide +kernel)) rfl)⟩
theorem nar_X12_20 : ∀ (v : Int) (G : rt_G), narrow (rt_ty 12 20) (rt_tv G (2, v)) = rt_tv G (2, v) := fun v G => by show narrow (tyX12 20) (va_rf (rt_rf G v)) = va_rf (rt_rf G v); cases rt_rf G v <;> rfl
theorem fit_X12_20 : ∀ (v : Int) (G : rt_G), fits (rt_ty 12 20) (rt_tv G (2, v)) = true := fun v G => by show fits (tyX12 20) (va_rf (rt_rf G v)) = true; cases rt_rf G v <;> rfl
theorem hl_X12_44 : Cond.fieldLink RX12 44 (rt_R 12) (rt_T 12 20).2.1 (rt_T 12 20).2.2.1 ∈ rt_mG := (rt_inG (rt_t5 205 (by decide +kernel)) rfl)
theorem gl_X12_47 : rt_FL RX12 47 12 21 := ⟨cl_X12, by decide, rfl, Or.inl (rt_inG (rt_t5 206 (by decide +kernel)) rfl)⟩
theorem nar_X12_21 : ∀ (v : Int) (G : rt_G), narrow (rt_ty 12 21) (rt_tv G (2, v)) = rt_tv G (2, v) := fun v G => by show narrow (tyX12 21) (va_rf (rt_rf G v)) = va_rf (rt_rf G v); cases rt_rf G v <;> rfl
theorem fit_X12_21 : ∀ (v : Int) (G : rt_G), fits (rt_ty 12 21) (rt_tv G (2, v)) = true := fun v G => by show fits (tyX12 21) (va_rf (rt_rf G v)) = true; cases rt_rf G v <;> rfl
theorem hl_X12_47 : Cond.fieldLink RX12 47 (rt_R 12) (rt_T 12 21).2.1 (rt_T 12 21).2.2.1 ∈ rt_mG := (rt_inG (rt_t5 206 (by decide +kernel)) rfl)
theorem gl_X12_50 : rt_FL RX12 50 12 22 := ⟨cl_X12, by decide, rfl, Or.inl (rt_inG (rt_t5 207 (by decide +kernel)) rfl)⟩
theorem nar_X12_22 : ∀ (v : Int) (G : rt_G), narrow (rt_ty 12 22) (rt_tv G (2, v)) = rt_tv G (2, v) := fun v G => by show narrow (tyX12 22) (va_rf (rt_rf G v)) = va_rf (rt_rf G v); cases rt_rf G v <;> rfl
theorem fit_X12_22 : ∀ (v : Int) (G : rt_G), fits (rt_ty 12 22) (rt_tv G (2, v)) = true := fun v G => by show fits (tyX12 22) (va_rf (rt_rf G v)) = true; cases rt_rf G v <;> rfl
theorem hl_X12_50 : Cond.fieldLink RX12 50 (rt_R 12) (rt_T 12 22).2.1 (rt_T 12 22).2.2.1 ∈ rt_mG := (rt_inG (rt_t5 207 (by decide +kernel)) rfl)
theorem gl_X12_53 : rt_FL RX12 53 12 23 := ⟨cl_X12, by decide, rfl, Or.inl (rt_inG (rt_t5 208 (by decide +kernel)) rfl)⟩
theorem nar_X12_23 : ∀ (v : Int) (G : rt_G), narrow (rt_ty 12 23) (rt_tv G (2, v)) = rt_tv G (2, v) := fun v G => by show narrow (tyX12 23) (va_rf (rt_rf G v)) = va_rf (rt_rf G v); cases rt_rf G v <;> rfl
theorem fit_X12_23 : ∀ (v : Int) (G : rt_G), fits (rt_ty 12 23) (rt_tv G (2, v)) = true := fun v G => by show fits (tyX12 23) (va_rf (rt_rf G v)) = true; cases rt_rf G v <;> rfl
theorem hl_X12_53 : Cond.fieldLink RX12 53 (rt_R 12) (rt_T 12 23).2.1 (rt_T 12 23).2.2.1 ∈ rt_mG := (rt_inG (rt_t5 208 (by decide +kernel)) rfl)
theorem gl_X12_56 : rt_FL RX12 56 12 27 := ⟨cl_X12, by decide, rfl, Or.inl (rt_inG (rt_t5 212 (by decide +kernel)) rfl)⟩
theorem nar_X12_27 : ∀ (v : Int) (G : rt_G), narrow (rt_ty 12 27) (rt_tv G (2, v)) = rt_tv G (2, v) := fun v G => by show narrow (tyX12 27) (va_rf (rt_rf G v)) = va_rf (rt_rf G v); cases rt_rf G v <;> rfl
theorem fit_X12_27 : ∀ (v : Int) (G : rt_G), fits (rt_ty 12 27) (rt_tv G (2, v)) = true := fun v G => by show fits (tyX12 27) (va_rf (rt_rf G v)) = true; cases rt_rf G v <;> rfl
theorem hl_X12_56 : Cond.fieldLink RX12 56 (rt_R 12) (rt_T 12 27).2.1 (rt_T 12 27).2.2.1 ∈ rt_mG := (rt_inG (rt_t5 212 (by decide +kernel)) rfl)
theorem gl_X12_59 : rt_FL RX12 59 12 28 := ⟨cl_X12, by decide, rfl, Or.inl (rt_inG (rt_t5 213 (by decide +kernel)) rfl)⟩
theorem nar_X12_28 : ∀ (v : Int) (G : rt_G), narrow (rt_ty 12 28) (rt_tv G (2, v)) = rt_tv G (2, v) := fun v G => by show narrow (tyX12 28) (va_rf (rt_rf G v)) = va_rf (rt_rf G v); cases rt_rf G v <;> rfl
theorem fit_X12_28 : ∀ (v : Int) (G : rt_G), fits (rt_ty 12 28) (rt_tv G (2, v)) = true := fun v G => by show fits (tyX12 28) (va_rf (rt_rf G v)) = true; cases rt_rf G v <;> rfl
theorem hl_X12_59 : Cond.fieldLink RX12 59 (rt_R 12) (rt_T 12 28).2.1 (rt_T 12 28).2.2.1 ∈ rt_mG := (rt_inG (rt_t5 213 (by decide +kernel)) rfl)
theorem gl_X12_63 : rt_FL RX12 63 12 29 := ⟨cl_X12, by decide, rfl, Or.inl (rt_inG (rt_t5 214 (by decide +kernel)) rfl)⟩
theorem nar_X12_29 : ∀ (v : Int) (G : rt_G), narrow (rt_ty 12 29) (rt_tv G (2, v)) = rt_tv G (2, v) := fun v G => by show narrow (tyX12 29) (va_rf (rt_rf G v)) = va_rf (rt_rf G v); cases rt_rf G v <;> rfl
theorem fit_X12_29 : ∀ (v : Int) (G : rt_G), fits (rt_ty 12 29) (rt_tv G (2, v)) = true := fun v G => by show fits (tyX12 29) (va_rf (rt_rf G v)) = true; cases rt_rf G v <;> rfl
theorem hl_X12_63 : Cond.fieldLink RX12 63 (rt_R 12) (rt_T 12 29).2.1 (rt_T 12 29).2.2.1 ∈ rt_mG := (rt_inG (rt_t5 214 (by decide +kernel)) rfl)
theorem gl_X12_66 : rt_FL RX12 66 12 30 := ⟨cl_X12, by decide, rfl, Or.inl (rt_inG (rt_t5 215 (by decide +kernel)) rfl)⟩
theorem nar_X12_30 : ∀ (v : Int) (G : rt_G), narrow (rt_ty 12 30) (rt_tv G (2, v)) = rt_tv G (2, v) := fun v G => by show narrow (tyX12 30) (va_rf (rt_rf G v)) = va_rf (rt_rf G v); cases rt_rf G v <;> rfl
theorem fit_X12_30 : ∀ (v : Int) (G : rt_G), fits (rt_ty 12 30) (rt_tv G (2, v)) = true := fun v G => by show fits (tyX12 30) (va_rf (rt_rf G v)) = true; cases rt_rf G v <;> rfl
theorem hl_X12_66 : Cond.fieldLink RX12 66 (rt_R 12) (rt_T 12 30).2.1 (rt_T 12 30).2.2.1 ∈ rt_mG := (rt_inG (rt_t5 215 (by decide +kernel)) rfl)
theorem gl_X12_69 : rt_FL RX12 69 12 31 := ⟨cl_X12, by decide, rfl, Or.inl (rt_inG (rt_t5 216 (by decide +kernel)) rfl)⟩
theorem nar_X12_31 : ∀ (v : Int) (G : rt_G), narrow (rt_ty 12 31) (rt_tv G (2, v)) = rt_tv G (2, v) := fun v G => by show narrow (tyX12 31) (va_rf (rt_rf G v)) = va_rf (rt_rf G v); cases rt_rf G v <;> rfl
theorem fit_X12_31 : ∀ (v : Int) (G : rt_G), fits (rt_ty 12 31) (rt_tv G (2, v)) = true := fun v G => by show fits (tyX12 31) (va_rf (rt_rf G v)) = true; cases rt_rf G v <;> rfl
theorem hl_X12_69 : Cond.fieldLink RX12 69 (rt_R 12) (rt_T 12 31).2.1 (rt_T 12 31).2.2.1 ∈ rt_mG := (rt_inG (rt_t5 216 (by decide +kernel)) rfl)
theorem gl_X12_72 : rt_FL RX12 72 12 32 := ⟨cl_X12, by decide, rfl, Or.inl (rt_inG (rt_t5 217 (by decide +kernel)) rfl)⟩
theorem nar_X12_32 : ∀ (v : Int) (G : rt_G), narrow (rt_ty 12 32) (rt_tv G (2, v)) = rt_tv G (2, v) := fun v G => by show narrow (tyX12 32) (va_rf (rt_rf G v)) = va_rf (rt_rf G v); cases rt_rf G v <;> rfl
theorem fit_X12_32 : ∀ (v : Int) (G : rt_G), fits (rt_ty 12 32) (rt_tv G (2, v)) = true := fun v G => by show fits (tyX12 32) (va_rf (rt_rf G v)) = true; cases rt_rf G v <;> rfl
theorem hl_X12_72 : Cond.fieldLink RX12 72 (rt_R 12) (rt_T 12 32).2.1 (rt_T 12 32).2.2.1 ∈ rt_mG := (rt_inG (rt_t5 217 (by decide +kernel)) rfl)
theorem gl_X12_75 : rt_FL RX12 75 12 33 := ⟨cl_X12, by decide, rfl, Or.inl (rt_inG (rt_t5 218 (by decide +kernel)) rfl)⟩
theorem nar_X12_33 : ∀ (v : Int) (G : rt_G), narrow (rt_ty 12 33) (rt_tv G (2, v)) = rt_tv G (2, v) := fun v G => by show narrow (tyX12 33) (va_rf (rt_rf G v)) = va_rf (rt_rf G v); cases rt_rf G v <;> rfl
theorem fit_X12_33 : ∀ (v : Int) (G : rt_G), fits (rt_ty 12 33) (rt_tv G (2, v)) = true := fun v G => by show fits (tyX12 33) (va_rf (rt_rf G v)) = true; cases rt_rf G v <;> rfl
theorem hl_X12_75 : Cond.fieldLink RX12 75 (rt_R 12) (rt_T 12 33).2.1 (rt_T 12 33).2.2.1 ∈ rt_mG := (rt_inG (rt_t5 218 (by decide +kernel)) rfl)
theorem gl_X12_78 : rt_FL RX12 78 12 34 := ⟨cl_X12, by decide, rfl, Or.inl (rt_inG (rt_t5 219 (by decide +kernel)) rfl)⟩
theorem nar_X12_34 : ∀ (v : Int) (G : rt_G), narrow (rt_ty 12 34) (rt_tv G (2, v)) = rt_tv G (2, v) := fun v G => by show narrow (tyX12 34) (va_rf (rt_rf G v)) = va_rf (rt_rf G v); cases rt_rf G v <;> rfl
theorem fit_X12_34 : ∀ (v : Int) (G : rt_G), fits (rt_ty 12 34) (rt_tv G (2, v)) = true := fun v G => by show fits (tyX12 34) (va_rf (rt_rf G v)) = true; cases rt_rf G v <;> rfl
theorem hl_X12_78 : Cond.fieldLink RX12 78 (rt_R 12) (rt_T 12 34).2.1 (rt_T 12 34).2.2.1 ∈ rt_mG := (rt_inG (rt_t5 219 (by decide +kernel)) rfl)
theorem gl_X12_81 : rt_FL RX12 81 12 35 := ⟨cl_X12, by decide, rfl, Or.inl (rt_inG (rt_t5 220 (by decide +kernel)) rfl)⟩
theorem nar_X12_35 : ∀ (v : Int) (G : rt_G), narrow (rt_ty 12 35) (rt_tv G (2, v)) = rt_tv G (2, v) := fun v G => by show narrow (tyX12 35) (va_rf (rt_rf G v)) = va_rf (rt_rf G v); cases rt_rf G v <;> rfl
theorem fit_X12_35 : ∀ (v : Int) (G : rt_G), fits (rt_ty 12 35) (rt_tv G (2, v)) = true := fun v G => by show fits (tyX12 35) (va_rf (rt_rf G v)) = true; cases rt_rf G v <;> rfl
theorem hl_X12_81 : Cond.fieldLink RX12 81 (rt_R 12) (rt_T 12 35).2.1 (rt_T 12 35).2.2.1 ∈ rt_mG := (rt_inG (rt_t5 220 (by decide +kernel)) rfl)
theorem gl_X12_84 : rt_FL RX12 84 12 36 := ⟨cl_X12, by decide, rfl, Or.inl (rt_inG (rt_t5 221 (by decide +kernel)) rfl)⟩
theorem nar_X12_36 : ∀ (v : Int) (G : rt_G), narrow (rt_ty 12 36) (rt_tv G (2, v)) = rt_tv G (2, v) := fun v G => by show narrow (tyX12 36) (va_rf (rt_rf G v)) = va_rf (rt_rf G v); cases rt_rf G v <;> rfl
theorem fit_X12_36 : ∀ (v : Int) (G : rt_G), fits (rt_ty 12 36) (rt_tv G (2, v)) = true := fun v G => by show fits (tyX12 36) (va_rf (rt_rf G v)) = true; cases rt_rf G v <;> rfl
theorem hl_X12_84 : Cond.fieldLink RX12 84 (rt_R 12) (rt_T 12 36).2.1 (rt_T 12 36).2.2.1 ∈ rt_mG := (rt_inG (rt_t5 221 (by decide +kernel)) rfl)
theorem gl_X12_87 : rt_FL RX12 87 12 37 := ⟨cl_X12, by decide, rfl, Or.inl (rt_inG (rt_t5 222 (by decide +kernel)) rfl)⟩
theorem nar_X12_37 : ∀ (v : Int) (G : rt_G), narrow (rt_ty 12 37) (rt_tv G (2, v)) = rt_tv G (2, v) := fun v G => by show narrow (tyX12 37) (va_rf (rt_rf G v)) = va_rf (rt_rf G v); cases rt_rf G v <;> rfl
theorem fit_X12_37 : ∀ (v : Int) (G : rt_G), fits (rt_ty 12 37) (rt_tv G (2, v)) = true := fun v G => by show fits (tyX12 37) (va_rf (rt_rf G v)) = true; cases rt_rf G v <;> rfl
theorem hl_X12_87 : Cond.fieldLink RX12 87 (rt_R 12) (rt_T 12 37).2.1 (rt_T 12 37).2.2.1 ∈ rt_mG := (rt_inG (rt_t5 222 (by decide +kernel)) rfl)
theorem gl_X12_90 : rt_FL RX12 90 12 38 := ⟨cl_X12, by decide, rfl, Or.inl (rt_inG (rt_t5 223 (by decide +kernel)) rfl)⟩
theorem nar_X12_38 : ∀ (v : Int) (G : rt_G), narrow (rt_ty 12 38) (rt_tv G (2, v)) = rt_tv G (2, v) := fun v G => by show narrow (tyX12 38) (va_rf (rt_rf G v)) = va_rf (rt_rf G v); cases rt_rf G v <;> rfl
theorem fit_X12_38 : ∀ (v : Int) (G : rt_G), fits (rt_ty 12 38) (rt_tv G (2, v)) = true := fun v G => by show fits (tyX12 38) (va_rf (rt_rf G v)) = true; cases rt_rf G v <;> rfl
theorem hl_X12_90 : Cond.fieldLink RX12 90 (rt_R 12) (rt_T 12 38).2.1 (rt_T 12 38).2.2.1 ∈ rt_mG := (rt_inG (rt_t5 223 (by decide +kernel)) rfl)
theorem gl_X12_93 : rt_FL RX12 93 12 41 := ⟨cl_X12, by decide, rfl, Or.inl (rt_inG (rt_t5 226 (by decide +kernel)) rfl)⟩
theorem nar_X12_41 : ∀ (v : Int) (G : rt_G), narrow (rt_ty 12 41) (rt_tv G (2, v)) = rt_tv G (2, v) := fun v G => by show narrow (tyX12 41) (va_rf (rt_rf G v)) = va_rf (rt_rf G v); cases rt_rf G v <;> rfl
theorem fit_X12_41 : ∀ (v : Int) (G : rt_G), fits (rt_ty 12 41) (rt_tv G (2, v)) = true := fun v G => by show fits (tyX12 41) (va_rf (rt_rf G v)) = true; cases rt_rf G v <;> rfl
theorem hl_X12_93 : Cond.fieldLink RX12 93 (rt_R 12) (rt_T 12 41).2.1 (rt_T 12 41).2.2.1 ∈ rt_mG := (rt_inG (rt_t5 226 (by decide +kernel)) rfl)
theorem gl_X12_96 : rt_FL RX12 96 12 42 := ⟨cl_X12, by decide, rfl, Or.inl (rt_inG (rt_t5 227 (by decide +kernel)) rfl)⟩
theorem nar_X12_42 : ∀ (v : Int) (G : rt_G), narrow (rt_ty 12 42) (rt_tv G (2, v)) = rt_tv G (2, v) := fun v G => by show narrow (tyX12 42) (va_rf (rt_rf G v)) = va_rf (rt_rf G v); cases rt_rf G v <;> rfl
theorem fit_X12_42 : ∀ (v : Int) (G : rt_G), fits (rt_ty 12 42) (rt_tv G (2, v)) = true := fun v G => by show fits (tyX12 42) (va_rf (rt_rf G v)) = true; cases rt_rf G v <;> rfl
theorem hl_X12_96 : Cond.fieldLink RX12 96 (rt_R 12) (rt_T 12 42).2.1 (rt_T 12 42).2.2.1 ∈ rt_mG := (rt_inG (rt_t5 227 (by decide +kernel)) rfl)
theorem gl_X12_99 : rt_FL RX12 99 12 43 := ⟨cl_X12, by decide, rfl, Or.inl (rt_inG (rt_t5 228 (by decide +kernel)) rfl)⟩
theorem nar_X12_43 : ∀ (v : Int) (G : rt_G), narrow (rt_ty 12 43) (rt_tv G (2, v)) = rt_tv G (2, v) := fun v G => by show narrow (tyX12 43) (va_rf (rt_rf G v)) = va_rf (rt_rf G v); cases rt_rf G v <;> rfl
theorem fit_X12_43 : ∀ (v : Int) (G : rt_G), fits (rt_ty 12 43) (rt_tv G (2, v)) = true := fun v G => by show fits (tyX12 43) (va_rf (rt_rf G v)) = true; cases rt_rf G v <;> rfl
theorem hl_X12_99 : Cond.fieldLink RX12 99 (rt_R 12) (rt_T 12 43).2.1 (rt_T 12 43).2.2.1 ∈ rt_mG := (rt_inG (rt_t5 228 (by decide +kernel)) rfl)
theorem gl_X12_102 : rt_FL RX12 102 12 44 := ⟨cl_X12, by decide, rfl, Or.inl (rt_inG (rt_t5 229 (by decide +kernel)) rfl)⟩
theorem nar_X12_44 : ∀ (v : Int) (G : rt_G), narrow (rt_ty 12 44) (rt_tv G (2, v)) = rt_tv G (2, v) := fun v G => by show narrow (tyX12 44) (va_rf (rt_rf G v)) = va_rf (rt_rf G v); cases rt_rf G v <;> rfl
theorem fit_X12_44 : ∀ (v : Int) (G : rt_G), fits (rt_ty 12 44) (rt_tv G (2, v)) = true := fun v G => by show fits (tyX12 44) (va_rf (rt_rf G v)) = true; cases rt_rf G v <;> rfl
theorem hl_X12_102 : Cond.fieldLink RX12 102 (rt_R 12) (rt_T 12 44).2.1 (rt_T 12 44).2.2.1 ∈ rt_mG := (rt_inG (rt_t5 229 (by decide +kernel)) rfl)
theorem gl_X12_105 : rt_FL RX12 105 12 45 := ⟨cl_X12, by decide, rfl, Or.inl (rt_inG (rt_t5 230 (by decide +kernel)) rfl)⟩
theorem nar_X12_45 : ∀ (v : Int) (G : rt_G), narrow (rt_ty 12 45) (rt_tv G (2, v)) = rt_tv G (2, v) := fun v G => by show narrow (tyX12 45) (va_rf (rt_rf G v)) = va_rf (rt_rf G v); cases rt_rf G v <;> rfl
theorem fit_X12_45 : ∀ (v : Int) (G : rt_G), fits (rt_ty 12 45) (rt_tv G (2, v)) = true := fun v G => by show fits (tyX12 45) (va_rf (rt_rf G v)) = true; cases rt_rf G v <;> rfl
theorem hl_X12_105 : Cond.fieldLink RX12 105 (rt_R 12) (rt_T 12 45).2.1 (rt_T 12 45).2.2.1 ∈ rt_mG := (rt_inG (rt_t5 230 (by decide +kernel)) rfl)
theorem gl_X12_108 : rt_FL RX12 108 12 46 := ⟨cl_X12, by decide, rfl, Or.inl (rt_inG (rt_t5 231 (by decide +kernel)) rfl)⟩
theorem nar_X12_46 : ∀ (v : Int) (G : rt_G), narrow (rt_ty 12 46) (rt_tv G (2, v)) = rt_tv G (2, v) := fun v G => by show narrow (tyX12 46) (va_rf (rt_rf G v)) = va_rf (rt_rf G v); cases rt_rf G v <;> rfl
theorem fit_X12_46 : ∀ (v : Int) (G : rt_G), fits (rt_ty 12 46) (rt_tv G (2, v)) = true := fun v G => by show fits (tyX12 46) (va_rf (rt_rf G v)) = true; cases rt_rf G v <;> rfl
theorem hl_X12_108 : Cond.fieldLink RX12 108 (rt_R 12) (rt_T 12 46).2.1 (rt_T 12 46).2.2.1 ∈ rt_mG := (rt_inG (rt_t5 231 (by decide +kernel)) rfl)
theorem gl_X12_111 : rt_FL RX12 111 12 47 := ⟨cl_X12, by decide, rfl, Or.inl (rt_inG (rt_t5 232 (by decide +kernel)) rfl)⟩
theorem nar_X12_47 : ∀ (v : Int) (G : rt_G), narrow (rt_ty 12 47) (rt_tv G (2, v)) = rt_tv G (2, v) := fun v G => by show narrow (tyX12 47) (va_rf (rt_rf G v)) = va_rf (rt_rf G v); cases rt_rf G v <;> rfl
theorem fit_X12_47 : ∀ (v : Int) (G : rt_G), fits (rt_ty 12 47) (rt_tv G (2, v)) = true := fun v G => by show fits (tyX12 47) (va_rf (rt_rf G v)) = true; cases rt_rf G v <;> rfl
theorem hl_X12_111 : Cond.fieldLink RX12 111 (rt_R 12) (rt_T 12 47).2.1 (rt_T 12 47).2.2.1 ∈ rt_mG := (rt_inG (rt_t5 232 (by decide +kernel)) rfl)
theorem gl_X12_114 : rt_FL RX12 114 12 48 := ⟨cl_X12, by decide, rfl, Or.inl (rt_inG (rt_t5 233 (by decide +kernel)) rfl)⟩
theorem nar_X12_48 : ∀ (v : Int) (G : rt_G), narrow (rt_ty 12 48) (rt_tv G (2, v)) = rt_tv G (2, v) := fun v G => by show narrow (tyX12 48) (va_rf (rt_rf G v)) = va_rf (rt_rf G v); cases rt_rf G v <;> rfl
theorem fit_X12_48 : ∀ (v : Int) (G : rt_G), fits (rt_ty 12 48) (rt_tv G (2, v)) = true := fun v G => by show fits (tyX12 48) (va_rf (rt_rf G v)) = true; cases rt_rf G v <;> rfl
theorem hl_X12_114 : Cond.fieldLink RX12 114 (rt_R 12) (rt_T 12 48).2.1 (rt_T 12 48).2.2.1 ∈ rt_mG := (rt_inG (rt_t5 233 (by decide +kernel)) rfl)
theorem gl_X12_117 : rt_FL RX12 117 12 49 := ⟨cl_X12, by decide, rfl, Or.inl (rt_inG (rt_t5 234 (by decide +kernel)) rfl)⟩
theorem nar_X12_49 : ∀ (v : Int) (G : rt_G), narrow (rt_ty 12 49) (rt_tv G (2, v)) = rt_tv G (2, v) := fun v G => by show narrow (tyX12 49) (va_rf (rt_rf G v)) = va_rf (rt_rf G v); cases rt_rf G v <;> rfl
theorem fit_X12_49 : ∀ (v : Int) (G : rt_G), fits (rt_ty 12 49) (rt_tv G (2, v)) = true := fun v G => by show fits (tyX12 49) (va_rf (rt_rf G v)) = true; cases rt_rf G v <;> rfl
theorem hl_X12_117 : Cond.fieldLink RX12 117 (rt_R 12) (rt_T 12 49).2.1 (rt_T 12 49).2.2.1 ∈ rt_mG := (rt_inG (rt_t5 234 (by decide +kernel)) rfl)
theorem gl_X12_120 : rt_FL RX12 120 12 50 := ⟨cl_X12, by decide, rfl, Or.inl (rt_inG (rt_t5 235 (by decide +kernel)) rfl)⟩
theorem nar_X12_50 : ∀ (v : Int) (G : rt_G), narrow (rt_ty 12 50) (rt_tv G (2, v)) = rt_tv G (2, v) := fun v G => by show narrow (tyX12 50) (va_rf (rt_rf G v)) = va_rf (rt_rf G v); cases rt_rf G v <;> rfl
theorem fit_X12_50 : ∀ (v : Int) (G : rt_G), fits (rt_ty 12 50) (rt_tv G (2, v)) = true := fun v G => by show fits (tyX12 50) (va_rf (rt_rf G v)) = true; cases rt_rf G v <;> rfl
theorem hl_X12_120 : Cond.fieldLink RX12 120 (rt_R 12) (rt_T 12 50).2.1 (rt_T 12 50).2.2.1 ∈ rt_mG := (rt_inG (rt_t5 235 (by decide +kernel)) rfl)
theorem gl_X12_123 : rt_FL RX12 123 12 51 := ⟨cl_X12, by decide, rfl, Or.inl (rt_inG (rt_t5 236 (by decide +kernel)) rfl)⟩
theorem nar_X12_51 : ∀ (v : Int) (G : rt_G), narrow (rt_ty 12 51) (rt_tv G (2, v)) = rt_tv G (2, v) := fun v G => by show narrow (tyX12 51) (va_rf (rt_rf G v)) = va_rf (rt_rf G v); cases rt_rf G v <;> rfl
theorem fit_X12_51 : ∀ (v : Int) (G : rt_G), fits (rt_ty 12 51) (rt_tv G (2, v)) = true := fun v G => by show fits (tyX12 51) (va_rf (rt_rf G v)) = true; cases rt_rf G v <;> rfl
theorem hl_X12_123 : Cond.fieldLink RX12 123 (rt_R 12) (rt_T 12 51).2.1 (rt_T 12 51).2.2.1 ∈ rt_mG := (rt_inG (rt_t5 236 (by decide +kernel)) rfl)
theorem gl_X12_126 : rt_FL RX12 126 12 52 := ⟨cl_X12, by decide, rfl, Or.inl (rt_inG (rt_t5 237 (by decide +kernel)) rfl)⟩
theorem nar_X12_52 : ∀ (v : Int) (G : rt_G), narrow (rt_ty 12 52) (rt_tv G (2, v)) = rt_tv G (2, v) := fun v G => by show narrow (tyX12 52) (va_rf (rt_rf G v)) = va_rf (rt_rf G v); cases rt_rf G v <;> rfl
theorem fit_X12_52 : ∀ (v : Int) (G : rt_G), fits (rt_ty 12 52) (rt_tv G (2, v)) = true := fun v G => by show fits (tyX12 52) (va_rf (rt_rf G v)) = true; cases rt_rf G v <;> rfl
theorem hl_X12_126 : Cond.fieldLink RX12 126 (rt_R 12) (rt_T 12 52).2.1 (rt_T 12 52).2.2.1 ∈ rt_mG := (rt_inG (rt_t5 237 (by decide +kernel)) rfl)
theorem gl_X12_129 : rt_FL RX12 129 12 53 := ⟨cl_X12, by decide, rfl, Or.inl (rt_inG (rt_t5 238 (by decide +kernel)) rfl)⟩
theorem nar_X12_53 : ∀ (v : Int) (G : rt_G), narrow (rt_ty 12 53) (rt_tv G (2, v)) = rt_tv G (2, v) := fun v G => by show narrow (tyX12 53) (va_rf (rt_rf G v)) = va_rf (rt_rf G v); cases rt_rf G v <;> rfl
theorem fit_X12_53 : ∀ (v : Int) (G : rt_G), fits (rt_ty 12 53) (rt_tv G (2, v)) = true := fun v G => by show fits (tyX12 53) (va_rf (rt_rf G v)) = true; cases rt_rf G v <;> rfl
theorem hl_X12_129 : Cond.fieldLink RX12 129 (rt_R 12) (rt_T 12 53).2.1 (rt_T 12 53).2.2.1 ∈ rt_mG := (rt_inG (rt_t5 238 (by decide +kernel)) rfl)
theorem gl_X12_132 : rt_FL RX12 132 12 54 := ⟨cl_X12, by decide, rfl, Or.inl (rt_inG (rt_t5 239 (by decide +kernel)) rfl)⟩
theorem nar_X12_54 : ∀ (v : Int) (G : rt_G), narrow (rt_ty 12 54) (rt_tv G (2, v)) = rt_tv G (2, v) := fun v G => by show narrow (tyX12 54) (va_rf (rt_rf G v)) = va_rf (rt_rf G v); cases rt_rf G v <;> rfl
theorem fit_X12_54 : ∀ (v : Int) (G : rt_G), fits (rt_ty 12 54) (rt_tv G (2, v)) = true := fun v G => by show fits (tyX12 54) (va_rf (rt_rf G v)) = true; cases rt_rf G v <;> rfl
theorem hl_X12_132 : Cond.fieldLink RX12 132 (rt_R 12) (rt_T 12 54).2.1 (rt_T 12 54).2.2.1 ∈ rt_mG := (rt_inG (rt_t5 239 (by decide +kernel)) rfl)
theorem gl_X12_135 : rt_FL RX12 135 12 56 := ⟨cl_X12, by decide, rfl, Or.inl (rt_inG (rt_t6 1 (by decide +kernel)) rfl)⟩
theorem nar_X12_56 : ∀ (v : Int) (G : rt_G), narrow (rt_ty 12 56) (rt_tv G (2, v)) = rt_tv G (2, v) := fun v G => by show narrow (tyX12 56) (va_rf (rt_rf G v)) = va_rf (rt_rf G v); cases rt_rf G v <;> rfl
theorem fit_X12_56 : ∀ (v : Int) (G : rt_G), fits (rt_ty 12 56) (rt_tv G (2, v)) = true := fun v G => by show fits (tyX12 56) (va_rf (rt_rf G v)) = true; cases rt_rf G v <;> rfl
theorem hl_X12_135 : Cond.fieldLink RX12 135 (rt_R 12) (rt_T 12 56).2.1 (rt_T 12 56).2.2.1 ∈ rt_mG := (rt_inG (rt_t6 1 (by decide +kernel)) rfl)
theorem gl_X12_138 : rt_FL RX12 138 12 57 := ⟨cl_X12, by decide, rfl, Or.inl (rt_inG (rt_t6 2 (by decide +kernel)) rfl)⟩
theorem nar_X12_57 : ∀ (v : Int) (G : rt_G), narrow (rt_ty 12 57) (rt_tv G (2, v)) = rt_tv G (2, v) := fun v G => by show narrow (tyX12 57) (va_rf (rt_rf G v)) = va_rf (rt_rf G v); cases rt_rf G v <;> rfl
theorem fit_X12_57 : ∀ (v : Int) (G : rt_G), fits (rt_ty 12 57) (rt_tv G (2, v)) = true := fun v G => by show fits (tyX12 57) (va_rf (rt_rf G v)) = true; cases rt_rf G v <;> rfl
theorem hl_X12_138 : Cond.fieldLink RX12 138 (rt_R 12) (rt_T 12 57).2.1 (rt_T 12 57).2.2.1 ∈ rt_mG := (rt_inG (rt_t6 2 (by decide +kernel)) rfl)
theorem gl_X12_141 : rt_FL RX12 141 12 60 := ⟨cl_X12, by decide, rfl, Or.inl (rt_inG (rt_t6 5 (by decide +kernel)) rfl)⟩
theorem nar_X12_60 : ∀ (v : Int) (G : rt_G), narrow (rt_ty 12 60) (rt_tv G (2, v)) = rt_tv G (2, v) := fun v G => by show narrow (tyX12 60) (va_rf (rt_rf G v)) = va_rf (rt_rf G v); cases rt_rf G v <;> rfl
theorem fit_X12_60 : ∀ (v : Int) (G : rt_G), fits (rt_ty 12 60) (rt_tv G (2, v)) = true := fun v G => by show fits (tyX12 60) (va_rf (rt_rf G v)) = true; cases rt_rf G v <;> rfl
theorem hl_X12_141 : Cond.fieldLink RX12 141 (rt_R 12) (rt_T 12 60).2.1 (rt_T 12 60).2.2.1 ∈ rt_mG := (rt_inG (rt_t6 5 (by decide +kernel)) rfl)
theorem gl_X12_144 : rt_FL RX12 144 12 61 := ⟨cl_X12, by decide, rfl, Or.inl (rt_inG (rt_t6 6 (by decide +kernel)) rfl)⟩
theorem nar_X12_61 : ∀ (v : Int) (G : rt_G), narrow (rt_ty 12 61) (rt_tv G (2, v)) = rt_tv G (2, v) := fun v G => by show narrow (tyX12 61) (va_rf (rt_rf G v)) = va_rf (rt_rf G v); cases rt_rf G v <;> rfl
theorem fit_X12_61 : ∀ (v : Int) (G : rt_G), fits (rt_ty 12 61) (rt_tv G (2, v)) = true := fun v G => by show fits (tyX12 61) (va_rf (rt_rf G v)) = true; cases rt_rf G v <;> rfl
theorem hl_X12_144 : Cond.fieldLink RX12 144 (rt_R 12) (rt_T 12 61).2.1 (rt_T 12 61).2.2.1 ∈ rt_mG := (rt_inG (rt_t6 6 (by decide +kernel)) rfl)
theorem gl_X12_147 : rt_FL RX12 147 12 62 := ⟨cl_X12, by decide, rfl, Or.inl (rt_inG (rt_t6 7 (by decide +kernel)) rfl)⟩
theorem nar_X12_62 : ∀ (v : Int) (G : rt_G), narrow (rt_ty 12 62) (rt_tv G (2, v)) = rt_tv G (2, v) := fun v G => by show narrow (tyX12 62) (va_rf (rt_rf G v)) = va_rf (rt_rf G v); cases rt_rf G v <;> rfl
theorem fit_X12_62 : ∀ (v : Int) (G : rt_G), fits (rt_ty 12 62) (rt_tv G (2, v)) = true := fun v G => by show fits (tyX12 62) (va_rf (rt_rf G v)) = true; cases rt_rf G v <;> rfl
theorem hl_X12_147 : Cond.fieldLink RX12 147 (rt_R 12) (rt_T 12 62).2.1 (rt_T 12 62).2.2.1 ∈ rt_mG := (rt_inG (rt_t6 7 (by decide +kernel)) rfl)
theorem gl_X12_150 : rt_FL RX12 150 12 63 := ⟨cl_X12, by decide, rfl, Or.inl (rt_inG (rt_t6 8 (by decide +kernel)) rfl)⟩
theorem nar_X12_63 : ∀ (v : Int) (G : rt_G), narrow (rt_ty 12 63) (rt_tv G (2, v)) = rt_tv G (2, v) := fun v G => by show narrow (tyX12 63) (va_rf (rt_rf G v)) = va_rf (rt_rf G v); cases rt_rf G v <;> rfl
theorem fit_X12_63 : ∀ (v : Int) (G : rt_G), fits (rt_ty 12 63) (rt_tv G (2, v)) = true := fun v G => by show fits (tyX12 63) (va_rf (rt_rf G v)) = true; cases rt_rf G v <;> rfl
theorem hl_X12_150 : Cond.fieldLink RX12 150 (rt_R 12) (rt_T 12 63).2.1 (rt_T 12 63).2.2.1 ∈ rt_mG := (rt_inG (rt_t6 8 (by decide +kernel)) rfl)
theorem gl_X12_153 : rt_FL RX12 153 12 66 := ⟨cl_X12, by decide, rfl, Or.inl (rt_inG (rt_t6 11 (by decide +kernel)) rfl)⟩
theorem nar_X12_66 : ∀ (v : Int) (G : rt_G), narrow (rt_ty 12 66) (rt_tv G (2, v)) = rt_tv G (2, v) := fun v G => by show narrow (tyX12 66) (va_rf (rt_rf G v)) = va_rf (rt_rf G v); cases rt_rf G v <;> rfl
theorem fit_X12_66 : ∀ (v : Int) (G : rt_G), fits (rt_ty 12 66) (rt_tv G (2, v)) = true := fun v G => by show fits (tyX12 66) (va_rf (rt_rf G v)) = true; cases rt_rf G v <;> rfl
theorem hl_X12_153 : Cond.fieldLink RX12 153 (rt_R 12) (rt_T 12 66).2.1 (rt_T 12 66).2.2.1 ∈ rt_mG := (rt_inG (rt_t6 11 (by decide +kernel)) rfl)
theorem gl_X12_156 : rt_FL RX12 156 12 68 := ⟨cl_X12, by decide, rfl, Or.inl (rt_inG (rt_t6 13 (by decide +kernel)) rfl)⟩
theorem nar_X12_68 : ∀ (v : Int) (G : rt_G), narrow (rt_ty 12 68) (rt_tv G (2, v)) = rt_tv G (2, v) := fun v G => by show narrow (tyX12 68) (va_rf (rt_rf G v)) = va_rf (rt_rf G v); cases rt_rf G v <;> rfl
theorem fit_X12_68 : ∀ (v : Int) (G : rt_G), fits (rt_ty 12 68) (rt_tv G (2, v)) = true := fun v G => by show fits (tyX12 68) (va_rf (rt_rf G v)) = true; cases rt_rf G v <;> rfl
theorem hl_X12_156 : Cond.fieldLink RX12 156 (rt_R 12) (rt_T 12 68).2.1 (rt_T 12 68).2.2.1 ∈ rt_mG := (rt_inG (rt_t6 13 (by decide +kernel)) rfl)
theorem gl_X12_159 : rt_FL RX12 159 12 69 := ⟨cl_X12, by decide, rfl, Or.inl (rt_inG (rt_t6 14 (by decide +kernel)) rfl)⟩
theorem nar_X12_69 : ∀ (v : Int) (G : rt_G), narrow (rt_ty 12 69) (rt_tv G (2, v)) = rt_tv G (2, v) := fun v G => by show narrow (tyX12 69) (va_rf (rt_rf G v)) = va_rf (rt_rf G v); cases rt_rf G v <;> rfl
theorem fit_X12_69 : ∀ (v : Int) (G : rt_G), fits (rt_ty 12 69) (rt_tv G (2, v)) = true := fun v G => by show fits (tyX12 69) (va_rf (rt_rf G v)) = true; cases rt_rf G v <;> rfl
theorem hl_X12_159 : Cond.fieldLink RX12 159 (rt_R 12) (rt_T 12 69).2.1 (rt_T 12 69).2.2.1 ∈ rt_mG := (rt_inG (rt_t6 14 (by decide +kernel)) rfl)
theorem gl_X12_162 : rt_FL RX12 162 12 70 := ⟨cl_X12, by decide, rfl, Or.inl (rt_inG (rt_t6 15 (by decide +kernel)) rfl)⟩
theorem nar_X12_70 : ∀ (v : Int) (G : rt_G), narrow (rt_ty 12 70) (rt_tv G (2, v)) = rt_tv G (2, v) := fun v G => by show narrow (tyX12 70) (va_rf (rt_rf G v)) = va_rf (rt_rf G v); cases rt_rf G v <;> rfl
theorem fit_X12_70 : ∀ (v : Int) (G : rt_G), fits (rt_ty 12 70) (rt_tv G (2, v)) = true := fun v G => by show fits (tyX12 70) (va_rf (rt_rf G v)) = true; cases rt_rf G v <;> rfl
theorem hl_X12_162 : Cond.fieldLink RX12 162 (rt_R 12) (rt_T 12 70).2.1 (rt_T 12 70).2.2.1 ∈ rt_mG := (rt_inG (rt_t6 15 (by decide +kernel)) rfl)
theorem ni_X12_165 : rt_Ml RX12 165 M_X12_fresh := Or.inl (rt_inG (rt_t5 177 (by decide +kernel)) rfl)
theorem ni_X12_168 : rt_Ml RX12 168 M_X12_forgets := Or.inl (rt_inG (rt_t5 181 (by decide +kernel)) rfl)
theorem nw_X8_init : rt_Mw M_X8_init 0 := ⟨(rt_inG (rt_t1 33 (by decide +kernel)) rfl), (rt_inG (rt_t1 2 (by decide +kernel)) rfl), by decide +kernel, ⟨by decide +kernel, by decide +kernel, by decide +kernel⟩, by decide⟩
theorem nj_X8_init : Cond.instanceMethod (rt_y M_X8_init) ∈ rt_mG := (rt_inG (rt_t1 32 (by decide +kernel)) rfl)
theorem nw_X3_init : rt_Mw M_X3_init 1 := ⟨(rt_inG (rt_t1 68 (by decide +kernel)) rfl), (rt_inG (rt_t1 3 (by decide +kernel)) rfl), by decide +kernel, ⟨by decide +kernel, by decide +kernel, by decide +kernel⟩, by decide⟩
theorem nj_X3_init : Cond.instanceMethod (rt_y M_X3_init) ∈ rt_mG := (rt_inG (rt_t1 67 (by decide +kernel)) rfl)
theorem nw_X7_init : rt_Mw M_X7_init 0 := ⟨(rt_inG (rt_t1 90 (by decide +kernel)) rfl), (rt_inG (rt_t1 5 (by decide +kernel)) rfl), by decide +kernel, ⟨by decide +kernel, by decide +kernel, by decide +kernel⟩, by decide⟩
theorem nj_X7_init : Cond.instanceMethod (rt_y M_X7_init) ∈ rt_mG := (rt_inG (rt_t1 89 (by decide +kernel)) rfl)
theorem nw_X10_init : rt_Mw M_X10_init 0 := ⟨(rt_inG (rt_t1 107 (by decide +kernel)) rfl), (rt_inG (rt_t1 6 (by decide +kernel)) rfl), by decide +kernel, ⟨by decide +kernel, by decide +kernel, by decide +kernel⟩, by decide⟩
theorem nj_X10_init : Cond.instanceMethod (rt_y M_X10_init) ∈ rt_mG := (rt_inG (rt_t1 106 (by decide +kernel)) rfl)
theorem nw_X6_init : rt_Mw M_X6_init 0 := ⟨(rt_inG (rt_t1 130 (by decide +kernel)) rfl), (rt_inG (rt_t1 7 (by decide +kernel)) rfl), by decide +kernel, ⟨by decide +kernel, by decide +kernel, by decide +kernel⟩, by decide⟩
theorem nj_X6_init : Cond.instanceMethod (rt_y M_X6_init) ∈ rt_mG := (rt_inG (rt_t1 129 (by decide +kernel)) rfl)
theorem nw_X0_init : rt_Mw M_X0_init 0 := ⟨(rt_inG (rt_t1 84 (by decide +kernel)) rfl), (rt_inG (rt_t1 4 (by decide +kernel)) rfl), by decide +kernel, ⟨by decide +kernel, by decide +kernel, by decide +kernel⟩, by decide⟩
theorem nj_X0_init : Cond.instanceMethod (rt_y M_X0_init) ∈ rt_mG := (rt_inG (rt_t1 83 (by decide +kernel)) rfl)
theorem nw_X2_init : rt_Mw M_X2_init 3 := ⟨(rt_inG (rt_t1 189 (by decide +kernel)) rfl), (rt_inG (rt_t1 9 (by decide +kernel)) rfl), by decide +kernel, ⟨by decide +kernel, by decide +kernel, by decide +kernel⟩, by decide⟩
theorem nj_X2_init : Cond.instanceMethod (rt_y M_X2_init) ∈ rt_mG := (rt_inG (rt_t1 188 (by decide +kernel)) rfl)
theorem nw_X4_init : rt_Mw M_X4_init 0 := ⟨(rt_inG (rt_t1 175 (by decide +kernel)) rfl), (rt_inG (rt_t1 8 (by decide +kernel)) rfl), by decide +kernel, ⟨by decide +kernel, by decide +kernel, by decide +kernel⟩, by decide⟩
theorem nj_X4_init : Cond.instanceMethod (rt_y M_X4_init) ∈ rt_mG := (rt_inG (rt_t1 174 (by decide +kernel)) rfl)
theorem nw_X1_init : rt_Mw M_X1_init 0 := ⟨(rt_inG (rt_t2 43 (by decide +kernel)) rfl), (rt_inG (rt_t1 12 (by decide +kernel)) rfl), by decide +kernel, ⟨by decide +kernel, by decide +kernel, by decide +kernel⟩, by decide⟩
theorem nj_X1_init : Cond.instanceMethod (rt_y M_X1_init) ∈ rt_mG := (rt_inG (rt_t2 42 (by decide +kernel)) rfl)
theorem nw_X5_init : rt_Mw M_X5_init 0 := ⟨(rt_inG (rt_t2 72 (by decide +kernel)) rfl), (rt_inG (rt_t1 13 (by decide +kernel)) rfl), by decide +kernel, ⟨by decide +kernel, by decide +kernel, by decide +kernel⟩, by decide⟩
theorem nj_X5_init : Cond.instanceMethod (rt_y M_X5_init) ∈ rt_mG := (rt_inG (rt_t2 71 (by decide +kernel)) rfl)
theorem nw_X11_init : rt_Mw M_X11_init 0 := ⟨(rt_inG (rt_t1 25 (by decide +kernel)) rfl), (rt_inG (rt_t1 1 (by decide +kernel)) rfl), by decide +kernel, ⟨by decide +kernel, by decide +kernel, by decide +kernel⟩, by decide⟩
theorem nj_X11_init : Cond.instanceMethod (rt_y M_X11_init) ∈ rt_mG := (rt_inG (rt_t1 24 (by decide +kernel)) rfl)
theorem nw_X12_init : rt_Mw M_X12_init 0 := ⟨(rt_inG (rt_t5 175 (by decide +kernel)) rfl), (rt_inG (rt_t1 14 (by decide +kernel)) rfl), by decide +kernel, ⟨by decide +kernel, by decide +kernel, by decide +kernel⟩, by decide⟩
theorem nj_X12_init : Cond.instanceMethod (rt_y M_X12_init) ∈ rt_mG := (rt_inG (rt_t5 174 (by decide +kernel)) rfl)
theorem ff_X0 : ∀ j, rt_ty 0 j ≠ .float ∧ rt_ty 0 j ≠ .double := fun j => by
  show tyX0 j ≠ .float ∧ tyX0 j ≠ .double
  unfold tyX0
  split <;> exact ⟨(by intro h; cases h), (by intro h; cases h)⟩
theorem ff_X1 : ∀ j, rt_ty 1 j ≠ .float ∧ rt_ty 1 j ≠ .double := fun j => by
  show tyX1 j ≠ .float ∧ tyX1 j ≠ .double
  unfold tyX1
  split <;> exact ⟨(by intro h; cases h), (by intro h; cases h)⟩
theorem ff_X2 : ∀ j, rt_ty 2 j ≠ .float ∧ rt_ty 2 j ≠ .double := fun j => by
  show tyX2 j ≠ .float ∧ tyX2 j ≠ .double
  unfold tyX2
  split <;> exact ⟨(by intro h; cases h), (by intro h; cases h)⟩
theorem ff_X3 : ∀ j, rt_ty 3 j ≠ .float ∧ rt_ty 3 j ≠ .double := fun j => by
  show tyX3 j ≠ .float ∧ tyX3 j ≠ .double
  unfold tyX3
  split <;> exact ⟨(by intro h; cases h), (by intro h; cases h)⟩
theorem ff_X4 : ∀ j, rt_ty 4 j ≠ .float ∧ rt_ty 4 j ≠ .double := fun j => by
  show tyX4 j ≠ .float ∧ tyX4 j ≠ .double
  unfold tyX4
  split <;> exact ⟨(by intro h; cases h), (by intro h; cases h)⟩
theorem ff_X5 : ∀ j, rt_ty 5 j ≠ .float ∧ rt_ty 5 j ≠ .double := fun j => by
  show tyX5 j ≠ .float ∧ tyX5 j ≠ .double
  unfold tyX5
  split <;> exact ⟨(by intro h; cases h), (by intro h; cases h)⟩
theorem ff_X6 : ∀ j, rt_ty 6 j ≠ .float ∧ rt_ty 6 j ≠ .double := fun j => by
  show tyX6 j ≠ .float ∧ tyX6 j ≠ .double
  unfold tyX6
  split <;> exact ⟨(by intro h; cases h), (by intro h; cases h)⟩
theorem ff_X7 : ∀ j, rt_ty 7 j ≠ .float ∧ rt_ty 7 j ≠ .double := fun j => by
  show tyX7 j ≠ .float ∧ tyX7 j ≠ .double
  unfold tyX7
  split <;> exact ⟨(by intro h; cases h), (by intro h; cases h)⟩
theorem ff_X8 : ∀ j, rt_ty 8 j ≠ .float ∧ rt_ty 8 j ≠ .double := fun j => by
  show tyX8 j ≠ .float ∧ tyX8 j ≠ .double
  unfold tyX8
  split <;> exact ⟨(by intro h; cases h), (by intro h; cases h)⟩
theorem ff_X10 : ∀ j, rt_ty 10 j ≠ .float ∧ rt_ty 10 j ≠ .double := fun j => by
  show tyX10 j ≠ .float ∧ tyX10 j ≠ .double
  unfold tyX10
  split <;> exact ⟨(by intro h; cases h), (by intro h; cases h)⟩
theorem ff_X11 : ∀ j, rt_ty 11 j ≠ .float ∧ rt_ty 11 j ≠ .double := fun j => by
  show tyX11 j ≠ .float ∧ tyX11 j ≠ .double
  unfold tyX11
  split <;> exact ⟨(by intro h; cases h), (by intro h; cases h)⟩
theorem ff_X12 : ∀ j, rt_ty 12 j ≠ .float ∧ rt_ty 12 j ≠ .double := fun j => by
  show tyX12 j ≠ .float ∧ tyX12 j ≠ .double
  unfold tyX12
  split <;> exact ⟨(by intro h; cases h), (by intro h; cases h)⟩
