/-! the blocks of the law are its code, 1 -/
theorem cl_8 : bl_8.all (fun b => mchk tb tbN "DustYardLaw" code 7 [] false b.2 b.1) = true := by decide +kernel
theorem cl_9 : bl_9.all (fun b => mchk tb tbN "DustYardLaw" code 7 [] false b.2 b.1) = true := by decide +kernel
theorem cl_10 : bl_10.all (fun b => mchk tb tbN "DustYardLaw" code 7 [] false b.2 b.1) = true := by decide +kernel
theorem cl_11 : bl_11.all (fun b => mchk tb tbN "DustYardLaw" code 7 [] false b.2 b.1) = true := by decide +kernel
theorem cl_12 : bl_12.all (fun b => mchk tb tbN "DustYardLaw" code 7 [] false b.2 b.1) = true := by decide +kernel
theorem cl_13 : bl_13.all (fun b => mchk tb tbN "DustYardLaw" code 7 [] false b.2 b.1) = true := by decide +kernel
theorem cl_14 : bl_14.all (fun b => mchk tb tbN "DustYardLaw" code 7 [] false b.2 b.1) = true := by decide +kernel
theorem cl_15 : bl_15.all (fun b => mchk tb tbN "DustYardLaw" code 7 [] false b.2 b.1) = true := by decide +kernel
