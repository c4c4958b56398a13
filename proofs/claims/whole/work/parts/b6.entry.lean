/-! AT THE ENTRY -/
section ENT
variable {args : Array Value} {s : State}
theorem nlt_sz : ∀ a : Nat, a < s.heap.size → ¬ (fun q : Nat => s.heap.size ≤ q) a := fun a h z => absurd (Nat.lt_of_lt_of_le h z) (Nat.lt_irrefl _)
theorem lw_at9 (hts : ∀ w ∈ lw_tbl, w.before args s = true) {k : Nat} {w : Cond} (h : lw_tbl[k]? = some w) : w.before args s = true := hts w (List.mem_of_getElem? h)
theorem tx_ex (hgv : (Jvm.Cond.and given_1 narrow_1).before args s = true) (i : Nat) (hi : i < 89) : ∃ q : Nat × Nat, (tmS i).eval args s none [] s = some (.ref q.1) ∧ (¬ mstr i = [] → mSf (fun q => s.heap.size ≤ q) q.1 q.2 (mstr i) s s.heap) := by
  have hex : (Cond.exactly (tmS i) "java/lang/String").before args s = true := nF_at hgv (of_decide_eq_true (List.all_eq_true.mp okX_all i (List.mem_range.mpr hi)))
  obtain ⟨a, c, cA, kA, q1, q2, q3, q4, q5, q6, -⟩ := Cond.exactly_spec (args := args) (first := s) (o := none) (s := s) (idx := []) (t := tmS i) (cls := "java/lang/String") hex
  by_cases hm : mstr i = []
  · exact ⟨(a, 0), q1, fun z => absurd hm z⟩
  · have hco := nF_at hgv (of_decide_eq_true (ok_or okC_all hi hm))
    have har := nF_at hgv (of_decide_eq_true (ok_or okA_all hi hm))
    have hle := nF_at hgv (of_decide_eq_true (ok_or okL_all hi hm))
    have hel : ∀ j, j < (mstr i).length → (Cond.eq (.elem (tmV i) (.int (Int32.ofNat j))) (.int (nI ((mstr i).getD j 0)))).before args s = true := fun j hj => nF_at hgv (of_decide_eq_true (List.all_eq_true.mp (ok_or okE_all hi hm) j (List.mem_range.mpr hj)))
    have hN : (mstr i).length < 2 ^ 31 := by have := (mstr_ok hm).2.1; omega
    obtain ⟨t, ht, hT⟩ := va_Tof (f := fun j => .int (nI ((mstr i).getD j 0))) (A := fun q => s.heap.size ≤ q) hN har (va_eqt hle) (fun j hj => va_eqt (hel j hj)) nlt_sz
    exact ⟨(a, t), q1, fun _ => ⟨⟨cA, q3, q5, by rw [q6]; exact q2, nlt_sz a (Array.getElem?_eq_some_iff.mp q3).1⟩, vk_OFof q1 (va_eqt hco) nlt_sz, vk_OFof q1 ht nlt_sz, hT⟩⟩
theorem mxn_at {x : String} (h : x ∈ mxl) : ∃ k, k < 5 ∧ x = mxn k := by
  have e : mxl = [mxn 0, mxn 1, mxn 2, mxn 3, mxn 4] := rfl
  rw [e] at h
  simp only [List.mem_cons, List.not_mem_nil, or_false] at h
  rcases h with h | h | h | h | h
  · exact ⟨0, by omega, h⟩
  · exact ⟨1, by omega, h⟩
  · exact ⟨2, by omega, h⟩
  · exact ⟨3, by omega, h⟩
  · exact ⟨4, by omega, h⟩
theorem at_mnx {α : Type} {l : List α} {a : α} (h : a ∈ l) : ∃ k, k < l.length ∧ mnx l k = some a := by
  obtain ⟨k, hk, e⟩ := List.getElem_of_mem h
  refine ⟨k, hk, ?_⟩
  rw [mnx_eq, List.getElem?_eq_getElem hk, e]
theorem mex_at {b : Nat} (hts : ∀ w ∈ lw_tbl, w.before args s = true) (hgv : (Jvm.Cond.and given_1 narrow_1).before args s = true) : ∃ adc adV : Nat → Nat, adc 1201 = b ∧ mEX adc adV s.heap.size s s.heap := by
  have h0 : ∀ i : Nat, ∃ q : Nat × Nat, i < 89 → (tmS i).eval args s none [] s = some (.ref q.1) ∧ (¬ mstr i = [] → mSf (fun q => s.heap.size ≤ q) q.1 q.2 (mstr i) s s.heap) := by
    intro i
    by_cases hi : i < 89
    · obtain ⟨q, hq⟩ := tx_ex hgv i hi
      exact ⟨q, fun _ => hq⟩
    · exact ⟨(0, 0), fun z => absurd z hi⟩
  obtain ⟨g, hg⟩ := Classical.axiomOfChoice h0
  obtain ⟨rt, hrt, hRT⟩ := va_Tof (tm := .static "DustYard" "RAT_HAS" "[I") (N := 4) (f := fun i => .int (mrat i)) (A := fun q => s.heap.size ≤ q) (by decide) (nF_at hgv okRa) (va_eqt (nF_at hgv okRl)) (fun j hj => va_eqt (nF_at hgv (of_decide_eq_true (List.all_eq_true.mp okR j (List.mem_range.mpr hj))))) nlt_sz
  have a0 : ∀ i, i < 89 → (if 1000 + i = 1200 then rt else if 1000 + i = 1201 then b else (g (1000 + i - 1000)).1) = (g i).1 := fun i hi => by
    rw [if_neg (by omega), if_neg (by omega), show 1000 + i - 1000 = i by omega]
  refine ⟨fun n => if n = 1200 then rt else if n = 1201 then b else (g (n - 1000)).1, fun i => (g i).2, ?_, ?_, ?_, ?_, ?_, ?_, ?_, ?_, ?_, ?_, ?_⟩
  · show (if 1201 = 1200 then rt else if 1201 = 1201 then b else (g (1201 - 1000)).1) = b
    rw [if_neg (by omega), if_pos rfl]
  · intro q hq
    obtain ⟨k, hk, e⟩ := at_mnx hq
    rw [mtx_len] at hk
    have h := List.all_eq_true.mp okS k (List.mem_range.mpr hk)
    simp only [e, Bool.and_eq_true, decide_eq_true_eq] at h
    have ht : tmS k = .string q.1 q.2.1 := by unfold tmS; rw [e]
    have h2 := (hg k hk).1
    rw [ht] at h2
    refine vk_R.of (A := args) (lw_at9 hts h.1) ?_
    rw [h.2]
    show _ = some (Value.ref (if 1000 + k = 1200 then rt else if 1000 + k = 1201 then b else (g (1000 + k - 1000)).1))
    rw [a0 k hk]
    exact h2
  · intro i hi hm
    show mSf _ (if 1000 + i = 1200 then rt else if 1000 + i = 1201 then b else (g (1000 + i - 1000)).1) _ _ _ _
    rw [a0 i hi]
    exact (hg i hi).2 hm
  · exact ⟨va_Zof (lw_at9 hts ls1) (lw_at9 hts in1) (va_eqt (nF_at hgv okZ)) nlt_sz, va_Zqof (lw_at9 hts ls2) (lw_at9 hts in2) (nF_at hgv okZs) nlt_sz⟩
  · show va_Z "DustYard" "RAT_HAS" "[I" (.ref (if 1200 = 1200 then rt else if 1200 = 1201 then b else (g (1200 - 1000)).1)) _ _ _ ∧ va_T .int (if 1200 = 1200 then rt else if 1200 = 1201 then b else (g (1200 - 1000)).1) _ _ _ _ _
    rw [if_pos rfl]
    exact ⟨va_Zref (lw_at9 hts ls3) (lw_at9 hts in3) hrt nlt_sz, hRT⟩
  · exact ⟨vx_Zqof (lw_at9 hts ls4) (lw_at9 hts in4) (nF_at hgv okZu) nlt_sz, vx_Zqof (lw_at9 hts ls5) (lw_at9 hts in4) (nF_at hgv okZv) nlt_sz⟩
  · intro x hx
    obtain ⟨k, hk, rfl⟩ := mxn_at hx
    exact va_Nw.of rfl (lw_at9 hts (of_decide_eq_true (List.all_eq_true.mp okCa k (List.mem_range.mpr hk))))
  · intro x hx
    obtain ⟨k, hk, e⟩ := at_mnx hx
    have h := List.all_eq_true.mp okDc k (List.mem_range.mpr hk)
    simp only [e, decide_eq_true_eq] at h
    exact va_Nw.of rfl (lw_at9 hts h)
  · intro q hq
    obtain ⟨k, hk, e⟩ := at_mnx hq
    have h := List.all_eq_true.mp okNs k (List.mem_range.mpr hk)
    simp only [e, decide_eq_true_eq] at h
    exact va_Nw.of rfl (lw_at9 hts h)
  · exact va_AO.of (lw_at9 hts okAo)
  · intro x hx y hy hne
    obtain ⟨k, hk, rfl⟩ := mxn_at hx
    obtain ⟨j, hj, rfl⟩ := mxn_at hy
    have h := List.all_eq_true.mp (List.all_eq_true.mp okN k (List.mem_range.mpr hk)) j (List.mem_range.mpr hj)
    rw [Bool.or_eq_true] at h
    rcases h with z | z
    · exact absurd (by rw [of_decide_eq_true z]) hne
    · exact va_Nc.of (nF_at hgv (of_decide_eq_true z))
theorem K_at (hts : ∀ w ∈ lw_tbl, w.before args s = true) : ∃ (D : va_G) (cy : mCy), va_K D vwCl (mtys cy) s := by
  have htg : ∀ w ∈ gtbl, w.before args s = true := fun w hw => hts w (List.mem_filter.mp hw).1
  obtain ⟨c1, i1, k1⟩ := u_known (C := RX1) (T := TX1) (N := 5) (n := 5) htg vcl_in1 (lw_at9 hts is1)
  obtain ⟨c2, i2, k2⟩ := u_known (C := RX2) (T := TX2) (N := 4) (n := 4) htg vcl_in2 (lw_at9 hts is2)
  obtain ⟨c3, i3, k3⟩ := u_known (C := RX3) (T := TX3) (N := 8) (n := 8) htg vcl_in3 (lw_at9 hts is3)
  obtain ⟨c4, i4, k4⟩ := u_known (C := RX4) (T := TX4) (N := 3) (n := 3) htg vcl_in4 (lw_at9 hts is4)
  obtain ⟨c5, i5, k5⟩ := u_known (C := RX5) (T := TX5) (N := 3) (n := 3) htg vcl_in5 (lw_at9 hts is5)
  obtain ⟨c6, i6, k6⟩ := u_known (C := RX6) (T := TX6) (N := 3) (n := 3) htg vcl_in6 (lw_at9 hts is6)
  obtain ⟨c7, i7, k7⟩ := u_known (C := RX7) (T := TX7) (N := 4) (n := 4) htg vcl_in7 (lw_at9 hts is7)
  obtain ⟨c8, i8, k8⟩ := u_known (C := RX8) (T := TX8) (N := 18) (n := 18) htg vcl_in8 (lw_at9 hts is8)
  obtain ⟨c9, i9, k9⟩ := u_known (C := RX9) (T := TX9) (N := 6) (n := 6) htg vcl_in9 (lw_at9 hts is9)
  obtain ⟨c10, i10, k10⟩ := u_known (C := RX10) (T := TX10) (N := 15) (n := 15) htg vcl_in10 (lw_at9 hts is10)
  obtain ⟨c11, i11, k11⟩ := u_known (C := RX11) (T := TX11) (N := 25) (n := 25) htg vcl_in11 (lw_at9 hts is11)
  obtain ⟨d1, j1, p1, x1, y1, z1⟩ := Cond.arrayClass_spec (lw_at9 hts ac1)
  obtain ⟨d2, j2, p2, x2, y2, z2⟩ := Cond.arrayClass_spec (lw_at9 hts ac2)
  obtain ⟨p3, d3, j3, x3, w3, y3, z3, v3⟩ := Cond.arrayOver_spec (lw_at9 hts okAo)
  refine ⟨(fun k => match k with | 0 => c1 | 1 => c2 | 2 => c3 | 3 => c4 | 4 => c5 | 5 => c6 | 6 => c7 | 7 => c8 | 8 => c9 | 9 => c10 | _ => c11, fun k => match k with | 0 => i1 | 1 => i2 | 2 => i3 | 3 => i4 | 4 => i5 | 5 => i6 | 6 => i7 | 7 => i8 | 8 => i9 | 9 => i10 | _ => i11), (d1, d2, d3), fun k q hq => ?_, fun k q hq => ?_⟩
  · match k, hq with
    | 0, hq => cases hq; exact k1
    | 1, hq => cases hq; exact k2
    | 2, hq => cases hq; exact k3
    | 3, hq => cases hq; exact k4
    | 4, hq => cases hq; exact k5
    | 5, hq => cases hq; exact k6
    | 6, hq => cases hq; exact k7
    | 7, hq => cases hq; exact k8
    | 8, hq => cases hq; exact k9
    | 9, hq => cases hq; exact k10
    | 10, hq => cases hq; exact k11
    | n + 11, hq => simp at hq
  · match k, hq with
    | 0, hq => cases hq; exact ⟨fun n z => ⟨fun k h => (by cases h), j1, y1, p1, z1⟩, x1⟩
    | 1, hq => cases hq; exact ⟨fun n z => ⟨fun k h => (by cases h), j2, y2, p2, z2⟩, x2⟩
    | 2, hq => cases hq; exact ⟨fun n z => ⟨fun k h => (by cases h), j3, y3, p3, z3⟩, j3, p3, y3, z3, x3, v3⟩
    | n + 3, hq => simp [mtys] at hq
end ENT
