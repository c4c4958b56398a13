/-! the law is its blocks -/
theorem ck_law : ∀ b, b ∈ bk_law → mchk tb tbN "DustYardLaw" code 7 [] false b.2 b.1 = true := by
  intro b hb
  unfold bk_law at hb
  simp only [List.mem_append] at hb
  rcases hb with h | h | h | h | h | h | h | h | h | h | h | h | h | h | h | h | h | h | h | h | h | h | h | h | h | h | h | h | h | h | h | h | h | h | h | h | h | h
  · exact List.all_eq_true.mp cl_0 b h
  · exact List.all_eq_true.mp cl_1 b h
  · exact List.all_eq_true.mp cl_2 b h
  · exact List.all_eq_true.mp cl_3 b h
  · exact List.all_eq_true.mp cl_4 b h
  · exact List.all_eq_true.mp cl_5 b h
  · exact List.all_eq_true.mp cl_6 b h
  · exact List.all_eq_true.mp cl_7 b h
  · exact List.all_eq_true.mp cl_8 b h
  · exact List.all_eq_true.mp cl_9 b h
  · exact List.all_eq_true.mp cl_10 b h
  · exact List.all_eq_true.mp cl_11 b h
  · exact List.all_eq_true.mp cl_12 b h
  · exact List.all_eq_true.mp cl_13 b h
  · exact List.all_eq_true.mp cl_14 b h
  · exact List.all_eq_true.mp cl_15 b h
  · exact List.all_eq_true.mp cl_16 b h
  · exact List.all_eq_true.mp cl_17 b h
  · exact List.all_eq_true.mp cl_18 b h
  · exact List.all_eq_true.mp cl_19 b h
  · exact List.all_eq_true.mp cl_20 b h
  · exact List.all_eq_true.mp cl_21 b h
  · exact List.all_eq_true.mp cl_22 b h
  · exact List.all_eq_true.mp cl_23 b h
  · exact List.all_eq_true.mp cl_24 b h
  · exact List.all_eq_true.mp cl_25 b h
  · exact List.all_eq_true.mp cl_26 b h
  · exact List.all_eq_true.mp cl_27 b h
  · exact List.all_eq_true.mp cl_28 b h
  · exact List.all_eq_true.mp cl_29 b h
  · exact List.all_eq_true.mp cl_30 b h
  · exact List.all_eq_true.mp cl_31 b h
  · exact List.all_eq_true.mp cl_32 b h
  · exact List.all_eq_true.mp cl_33 b h
  · exact List.all_eq_true.mp cl_34 b h
  · exact List.all_eq_true.mp cl_35 b h
  · exact List.all_eq_true.mp cl_36 b h
  · exact List.all_eq_true.mp cl_37 b h
