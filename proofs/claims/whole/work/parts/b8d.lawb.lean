/-! the blocks of the law are its code, 3 -/
theorem cl_24 : bl_24.all (fun b => mchk tb tbN "DustYardLaw" code 7 [] false b.2 b.1) = true := by decide +kernel
theorem cl_25 : bl_25.all (fun b => mchk tb tbN "DustYardLaw" code 7 [] false b.2 b.1) = true := by decide +kernel
theorem cl_26 : bl_26.all (fun b => mchk tb tbN "DustYardLaw" code 7 [] false b.2 b.1) = true := by decide +kernel
theorem cl_27 : bl_27.all (fun b => mchk tb tbN "DustYardLaw" code 7 [] false b.2 b.1) = true := by decide +kernel
theorem cl_28 : bl_28.all (fun b => mchk tb tbN "DustYardLaw" code 7 [] false b.2 b.1) = true := by decide +kernel
theorem cl_29 : bl_29.all (fun b => mchk tb tbN "DustYardLaw" code 7 [] false b.2 b.1) = true := by decide +kernel
theorem cl_30 : bl_30.all (fun b => mchk tb tbN "DustYardLaw" code 7 [] false b.2 b.1) = true := by decide +kernel
theorem cl_31 : bl_31.all (fun b => mchk tb tbN "DustYardLaw" code 7 [] false b.2 b.1) = true := by decide +kernel
