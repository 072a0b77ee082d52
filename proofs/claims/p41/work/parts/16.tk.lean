theorem tk : Tk lay nmF TW NMl NFl GG pfl pml pkl := ⟨pf_ok, pm_ok, pk_ok, cl_ok, lay_ok, TW_good, code_ok⟩
theorem met_all (l : Launch) (D : va_G) (cI cL : ClassId) (d : Nat) : MetAll l D cI cL lay TW NMl NFl GG d := metAll tk d
theorem tkz : Tk laz nmF TW NMl NFl GG pfl pml pkl := ⟨pf_ok, pm_ok, pk_ok, cl_ok, laz_ok, TW_good, code_ok⟩
theorem met_alz (l : Launch) (D : va_G) (cI cL : ClassId) (d : Nat) : MetAll l D cI cL laz TW NMl NFl GG d := metAll tkz d
