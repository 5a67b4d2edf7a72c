/-! Layer 4: the state that the constructors leave -/
abbrev M_law : rt_Mt := (yL_law, cL_law, 7, some .boolean, (601024, 7293034), 0)
def rz_m : Option (Nat × rt_M) := (rt_no M_law 41 11 41 (fun _ _ => 0)).bind fun p0 =>
  (f_X11_init p0.1 41 p0.2).bind fun p1 =>
  (rt_no M_law 41 12 p1.1 p1.2).bind fun p2 =>
  (f_X12_init p2.1 248 p2.2).bind fun p3 =>
  (rt_na M_law 41 9 1 p3.1 p3.2)
theorem rz_some : (match rz_m with
  | some p => p.1 == 301
  | none => false) = true := by decide +kernel
