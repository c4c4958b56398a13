/-! the blocks of the law are its code, 0 -/
theorem cl_0 : bl_0.all (fun b => mchk tb tbN "DustYardLaw" code 7 [] false b.2 b.1) = true := by decide +kernel
theorem cl_1 : bl_1.all (fun b => mchk tb tbN "DustYardLaw" code 7 [] false b.2 b.1) = true := by decide +kernel
theorem cl_2 : bl_2.all (fun b => mchk tb tbN "DustYardLaw" code 7 [] false b.2 b.1) = true := by decide +kernel
theorem cl_3 : bl_3.all (fun b => mchk tb tbN "DustYardLaw" code 7 [] false b.2 b.1) = true := by decide +kernel
theorem cl_4 : bl_4.all (fun b => mchk tb tbN "DustYardLaw" code 7 [] false b.2 b.1) = true := by decide +kernel
theorem cl_5 : bl_5.all (fun b => mchk tb tbN "DustYardLaw" code 7 [] false b.2 b.1) = true := by decide +kernel
theorem cl_6 : bl_6.all (fun b => mchk tb tbN "DustYardLaw" code 7 [] false b.2 b.1) = true := by decide +kernel
theorem cl_7 : bl_7.all (fun b => mchk tb tbN "DustYardLaw" code 7 [] false b.2 b.1) = true := by decide +kernel
