/-! the runs -/
def iv0 : IV := fun a j => match a with
  | 2 => if j = 1 then 14 else 0
  | 4 => if j = 1 then 3 else 0
  | 11 => nI (wyO.getD j 0)
  | 12 => nI (wyR.getD j 0)
  | 13 => nI (wyC.getD j 0)
  | 75 => if j < 4 then -1 else 0
  | _ => 0
def mu_a : mm_M := (2, kdT, fun _ _ => 0, fun _ _ => 0)
def mu_b : mm_M := (74, kdT, rvT, iv0)
def mu_c : mm_M := (75, kdT, mm_row rvT 74 (fun _ => 0), iv0)
def mm_run1 : Option (Option Value × mm_M) := mm_x mm_X0 100000 64 0 (mm_ini [.ref 1] (mm_me 64).2.2.1) [] (0, 0) mu_a
def mm_run2 : Option (Option Value × mm_M) := mm_x mm_X0 100000 121 0 (mm_ini [.ref 74] (mm_me 121).2.2.1) [] (0, 0) mu_c
def mm_res (o : Option (Option Value × mm_M)) (ν : mm_M) : Bool := match o with
  | some (none, μ) => mm_eqv μ ν
  | _ => false
theorem mm_res_spec {o : Option (Option Value × mm_M)} {ν : mm_M} (h : mm_res o ν = true) : ∃ μ, o = some (none, μ) ∧ mm_eqv μ ν = true := by
  unfold mm_res at h
  split at h
  · exact ⟨_, rfl, h⟩
  · cases h
theorem mm_run1_ok : mm_res mm_run1 mu_b = true := by decide +kernel
theorem mm_run2_ok : mm_res mm_run2 (mm_N0 iv0) = true := by decide +kernel
