/-! the blocks of the law are its code, 4 -/
theorem cl_32 : bl_32.all (fun b => mchk tb tbN "DustYardLaw" code 7 [] false b.2 b.1) = true := by decide +kernel
theorem cl_33 : bl_33.all (fun b => mchk tb tbN "DustYardLaw" code 7 [] false b.2 b.1) = true := by decide +kernel
theorem cl_34 : bl_34.all (fun b => mchk tb tbN "DustYardLaw" code 7 [] false b.2 b.1) = true := by decide +kernel
theorem cl_35 : bl_35.all (fun b => mchk tb tbN "DustYardLaw" code 7 [] false b.2 b.1) = true := by decide +kernel
theorem cl_36 : bl_36.all (fun b => mchk tb tbN "DustYardLaw" code 7 [] false b.2 b.1) = true := by decide +kernel
theorem cl_37 : bl_37.all (fun b => mchk tb tbN "DustYardLaw" code 7 [] false b.2 b.1) = true := by decide +kernel
