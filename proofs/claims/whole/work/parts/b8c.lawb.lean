/-! the blocks of the law are its code, 2 -/
theorem cl_16 : bl_16.all (fun b => mchk tb tbN "DustYardLaw" code 7 [] false b.2 b.1) = true := by decide +kernel
theorem cl_17 : bl_17.all (fun b => mchk tb tbN "DustYardLaw" code 7 [] false b.2 b.1) = true := by decide +kernel
theorem cl_18 : bl_18.all (fun b => mchk tb tbN "DustYardLaw" code 7 [] false b.2 b.1) = true := by decide +kernel
theorem cl_19 : bl_19.all (fun b => mchk tb tbN "DustYardLaw" code 7 [] false b.2 b.1) = true := by decide +kernel
theorem cl_20 : bl_20.all (fun b => mchk tb tbN "DustYardLaw" code 7 [] false b.2 b.1) = true := by decide +kernel
theorem cl_21 : bl_21.all (fun b => mchk tb tbN "DustYardLaw" code 7 [] false b.2 b.1) = true := by decide +kernel
theorem cl_22 : bl_22.all (fun b => mchk tb tbN "DustYardLaw" code 7 [] false b.2 b.1) = true := by decide +kernel
theorem cl_23 : bl_23.all (fun b => mchk tb tbN "DustYardLaw" code 7 [] false b.2 b.1) = true := by decide +kernel
