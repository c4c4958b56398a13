/-! THE MODEL'S CONSTRUCTOR, AND THE START -/
section CTM
variable {d : Nat} {σ : mSg} {Q : mPst}
def shM_a : List mSh := sh_9 ++ [.inl (10, mbf 10)]
def shM_b : List mSh := [.inl (9, [some (some 1), some (some 5), some (some 14), some (some 23), some (some 32), some (some 39), some (some 46), some (some 53), some (some 163), some (some 164), some (some 168), some (some 171), some (some 175), none, none]), .inl (8, [some (some 2), some (some 3), some (some 4), none, none, none]), .inr (.inl 400), .inr (.inl 401), .inr (.inl 401), .inl (7, [some (some 6), some (some 7), some (some 8), some (some 9), some (some 10), some (some 11), some (some 12), none, none, none, none, none, none, none, none, none, none, none]), .inr (.inl 21), .inr (.inl 42), .inr (.inl 6), .inr (.inl 4), .inr (.inl 30), .inr (.inl 7), .inl (3, [some (some 13), none, none]), .inr (.inl 300), .inl (7, [some (some 15), some (some 16), some (some 17), some (some 18), some (some 19), some (some 20), some (some 21), none, none, none, none, none, none, none, none, none, none, none]), .inr (.inl 21), .inr (.inl 42), .inr (.inl 6), .inr (.inl 4), .inr (.inl 30), .inr (.inl 7), .inl (3, [some (some 22), none, none]), .inr (.inl 300), .inl (7, [some (some 24), some (some 25), some (some 26), some (some 27), some (some 28), some (some 29), some (some 30), none, none, none, none, none, none, none, none, none, none, none]), .inr (.inl 21), .inr (.inl 42), .inr (.inl 6), .inr (.inl 4), .inr (.inl 30), .inr (.inl 7), .inl (3, [some (some 31), none, none]), .inr (.inl 300), .inl (2, [none, none, some (some 33), some (some 34), some (some 35), some (some 36), some (some 37), some (some 38)]), .inr (.inl 12), .inr (.inl 12), .inr (.inl 12), .inr (.inl 12), .inr (.inl 400), .inr (.inl 32), .inl (2, [none, none, some (some 40), some (some 41), some (some 42), some (some 43), some (some 44), some (some 45)]), .inr (.inl 12), .inr (.inl 12), .inr (.inl 12), .inr (.inl 12), .inr (.inl 400), .inr (.inl 32), .inl (2, [none, none, some (some 47), some (some 48), some (some 49), some (some 50), some (some 51), some (some 52)]), .inr (.inl 12), .inr (.inl 12), .inr (.inl 12), .inr (.inl 12), .inr (.inl 400), .inr (.inl 32), .inl (4, [some (some 54), none, none]), .inr (.inr (.inr [some 55, some 64, some 73, some 82, some 91, some 100, some 109, some 118, some 127, some 136, some 145, some 154])), .inl (7, [some (some 56), some (some 57), some (some 58), some (some 59), some (some 60), some (some 61), some (some 62), none, none, none, none, none, none, none, none, none, none, none]), .inr (.inl 21), .inr (.inl 42), .inr (.inl 6), .inr (.inl 4), .inr (.inl 30), .inr (.inl 7), .inl (3, [some (some 63), none, none]), .inr (.inl 300), .inl (7, [some (some 65), some (some 66), some (some 67), some (some 68), some (some 69), some (some 70), some (some 71), none, none, none, none, none, none, none, none, none, none, none]), .inr (.inl 21), .inr (.inl 42), .inr (.inl 6), .inr (.inl 4), .inr (.inl 30), .inr (.inl 7), .inl (3, [some (some 72), none, none]), .inr (.inl 300), .inl (7, [some (some 74), some (some 75), some (some 76), some (some 77), some (some 78), some (some 79), some (some 80), none, none, none, none, none, none, none, none, none, none, none]), .inr (.inl 21), .inr (.inl 42), .inr (.inl 6), .inr (.inl 4), .inr (.inl 30), .inr (.inl 7), .inl (3, [some (some 81), none, none]), .inr (.inl 300), .inl (7, [some (some 83), some (some 84), some (some 85), some (some 86), some (some 87), some (some 88), some (some 89), none, none, none, none, none, none, none, none, none, none, none]), .inr (.inl 21), .inr (.inl 42), .inr (.inl 6), .inr (.inl 4), .inr (.inl 30), .inr (.inl 7), .inl (3, [some (some 90), none, none]), .inr (.inl 300), .inl (7, [some (some 92), some (some 93), some (some 94), some (some 95), some (some 96), some (some 97), some (some 98), none, none, none, none, none, none, none, none, none, none, none]), .inr (.inl 21), .inr (.inl 42), .inr (.inl 6), .inr (.inl 4), .inr (.inl 30), .inr (.inl 7), .inl (3, [some (some 99), none, none]), .inr (.inl 300), .inl (7, [some (some 101), some (some 102), some (some 103), some (some 104), some (some 105), some (some 106), some (some 107), none, none, none, none, none, none, none, none, none, none, none]), .inr (.inl 21), .inr (.inl 42), .inr (.inl 6), .inr (.inl 4), .inr (.inl 30), .inr (.inl 7), .inl (3, [some (some 108), none, none]), .inr (.inl 300), .inl (7, [some (some 110), some (some 111), some (some 112), some (some 113), some (some 114), some (some 115), some (some 116), none, none, none, none, none, none, none, none, none, none, none]), .inr (.inl 21), .inr (.inl 42), .inr (.inl 6), .inr (.inl 4), .inr (.inl 30), .inr (.inl 7), .inl (3, [some (some 117), none, none]), .inr (.inl 300), .inl (7, [some (some 119), some (some 120), some (some 121), some (some 122), some (some 123), some (some 124), some (some 125), none, none, none, none, none, none, none, none, none, none, none]), .inr (.inl 21), .inr (.inl 42), .inr (.inl 6), .inr (.inl 4), .inr (.inl 30), .inr (.inl 7), .inl (3, [some (some 126), none, none]), .inr (.inl 300), .inl (7, [some (some 128), some (some 129), some (some 130), some (some 131), some (some 132), some (some 133), some (some 134), none, none, none, none, none, none, none, none, none, none, none]), .inr (.inl 21), .inr (.inl 42), .inr (.inl 6), .inr (.inl 4), .inr (.inl 30), .inr (.inl 7), .inl (3, [some (some 135), none, none]), .inr (.inl 300), .inl (7, [some (some 137), some (some 138), some (some 139), some (some 140), some (some 141), some (some 142), some (some 143), none, none, none, none, none, none, none, none, none, none, none]), .inr (.inl 21), .inr (.inl 42), .inr (.inl 6), .inr (.inl 4), .inr (.inl 30), .inr (.inl 7), .inl (3, [some (some 144), none, none]), .inr (.inl 300), .inl (7, [some (some 146), some (some 147), some (some 148), some (some 149), some (some 150), some (some 151), some (some 152), none, none, none, none, none, none, none, none, none, none, none]), .inr (.inl 21), .inr (.inl 42), .inr (.inl 6), .inr (.inl 4), .inr (.inl 30), .inr (.inl 7), .inl (3, [some (some 153), none, none]), .inr (.inl 300), .inl (7, [some (some 155), some (some 156), some (some 157), some (some 158), some (some 159), some (some 160), some (some 161), none, none, none, none, none, none, none, none, none, none, none]), .inr (.inl 21), .inr (.inl 42), .inr (.inl 6), .inr (.inl 4), .inr (.inl 30), .inr (.inl 7), .inl (3, [some (some 162), none, none]), .inr (.inl 300), .inl (5, [some (some 1), some (some 14), some (some 39)]), .inl (6, [some (some 165), some (some 166), some (some 167), none]), .inr (.inl 128), .inr (.inl 896), .inr (.inl 128), .inl (0, [some (some 169), some (some 170), none, none, none]), .inr (.inl 6), .inr (.inl 6), .inl (1, [some (some 172), some (some 173), some (some 174), none]), .inr (.inl 20), .inr (.inl 20), .inr (.inl 10), .inr (.inl 3), .inl (10, [none, some (some 177), some (some 178), none, some (some 179), some (some 180), none, some (some 181), none, none, none, none, none, none, some (some 182), none, none, none, some (some 183), some (some 184), some (some 185), some (some 186), some (some 187), some (some 188), some (some 189)]), .inr (.inl 823), .inr (.inl 823), .inr (.inl 423), .inr (.inl 5076), .inr (.inl 400), .inr (.inl 7), .inr (.inl 896), .inr (.inl 128), .inr (.inl 128), .inr (.inl 64), .inr (.inl 3), .inr (.inl 49), .inr (.inl 7)]
def m0I : Nat → Int32 := upd (upd (fun _ => 0) 1 (-(nI 1))) 13 (nI 1)
set_option maxRecDepth 100000 in
theorem c_modelInit (h0 : σ 176 = fun _ => 0) (hq : ∀ σ', (∀ c, c < 176 → σ' c = σ c) → σ' 176 = upd (fun _ => 0) 12 (-(nI 1)) → σ' 177 = m0I → Q (.inl none) shM_b σ') : mD (d + 2) 77 [.ref 176] shM_a σ Q := by
  refine ⟨rfl, fun X hX => ?_⟩
  refine hX _ _ _ _ _ _ _ ?_
  refine ⟨rfl, ?_⟩
  refine ⟨rfl, ?_⟩
  refine ⟨rfl, ?_⟩
  refine ⟨rfl, ?_⟩
  refine ⟨rfl, ?_⟩
  refine ⟨rfl, ?_⟩
  refine ⟨rfl, ?_⟩
  refine ⟨rfl, ?_⟩
  refine ⟨rfl, ?_⟩
  refine ⟨rfl, ?_⟩
  refine ⟨rfl, ?_⟩
  refine ⟨rfl, ?_⟩
  refine ⟨rfl, ?_⟩
  refine ⟨vp_in_nI (n := 1) (by omega) (by omega), ?_⟩
  refine ⟨vp_in_nI (n := 13) (by omega) (by omega), ?_⟩
  have hq := hq (mput (mput (mnew (mnew (mnew (mnew (mnew (mnew (mnew (mnew (mput (mnew (mnew (mnew (mnew (mnew σ 177) 178) 179) 180) 181) 176 12 (-(nI 1))) 182) 183) 184) 185) 186) 187) 188) 189) 177 (nI 1).toNatClampNeg (-(nI 1))) 177 (nI 13).toNatClampNeg (nI 1)) (fun c hc => ?_) ?_ ?_
  · exact hq
  · rw [mput_ne (by omega), mput_ne (by omega), mnew_ne (by omega), mnew_ne (by omega), mnew_ne (by omega), mnew_ne (by omega), mnew_ne (by omega), mnew_ne (by omega), mnew_ne (by omega), mnew_ne (by omega), mput_ne (by omega), mnew_ne (by omega), mnew_ne (by omega), mnew_ne (by omega), mnew_ne (by omega), mnew_ne (by omega)]
  · show upd (σ 176) 12 (-(nI 1)) = _
    rw [h0]
  · rfl
end CTM
theorem rs_all : (List.range 9).all (fun c => (List.range 42).all (fun k => match rp c k with | some i => decide (stI c k = m0I i) | none => true)) = true := by decide +kernel
theorem rs0 : RS stI m0I := by
  refine ⟨fun c k i hr => ?_, 0, by omega, by decide +kernel, fun a w ha hw => ?_⟩
  · obtain ⟨h1, h2⟩ := rp_lt hr
    have h := List.all_eq_true.mp (List.all_eq_true.mp rs_all c (List.mem_range.mpr h1)) k (List.mem_range.mpr h2)
    rw [hr] at h
    exact of_decide_eq_true h
  · unfold m0I
    rw [upd_off (by omega), upd_off (by omega)]
    rfl
theorem bd0 : BD m0I 0 0 0 0 := ⟨⟨by decide +kernel, by omega⟩, ⟨by decide +kernel, by omega⟩, ⟨by decide +kernel, by omega⟩, ⟨by decide +kernel, by omega⟩, fun s hs => absurd hs (by omega), fun s hs => absurd hs (by omega), fun s hs => absurd hs (by omega), fun s hs => absurd hs (by omega), ⟨0, by omega, by decide +kernel⟩, ⟨0, by omega, by decide +kernel⟩, Or.inl (by decide +kernel), ⟨0, by omega, by decide +kernel⟩⟩
theorem lt0 : LTx m0I [] := by
  refine ⟨0, by omega, Or.inl ⟨by decide +kernel, rfl⟩, ?_⟩
  unfold pTx
  rw [if_pos (Nat.le_zero.mp (sk_le (Nat.zero_le _)))]
theorem iv0 {σ : mSg} (e0 : σ 0 = upd (upd (fun _ => 0) 13 (nI 0)) 14 (-(nI 1))) (e1 : ∀ c, c < 4 → σ (1 + c) = zrI c) (e5 : ∀ c, c < 9 → σ (5 + c) = stI c) (e32 : ∀ c, c < 7 → σ (32 + c) = lwI c) (e53 : σ 53 = fun _ => 0) (e164 : ∀ c, c < 4 → σ (164 + c) = zrI c) (f0 : σ 176 = upd (fun _ => 0) 12 (-(nI 1))) (f1 : σ 177 = m0I) : IV σ := by
  have h : IY σ (fun j => σ (176 + j)) := by
    have hm : (fun j => σ (176 + j)) 1 = m0I := f1
    have h0 : (fun j => σ (176 + j)) 0 = upd (fun _ => 0) 12 (-(nI 1)) := f0
    have z1 : σ 1 = fun _ => 0 := e1 0 (by omega)
    have z4 : σ 164 = fun _ => 0 := e164 0 (by omega)
    have z5 : σ 165 = fun _ => 0 := e164 1 (by omega)
    have z32 : σ 32 = upd (fun _ => 0) 0 (-(nI 1)) := e32 0 (by omega)
    refine ⟨0, 0, 0, 0, [], 0, fun _ => 0, 0, 0, 0, fun _ _ => 0, ?_, ?_, ⟨?_, by omega⟩, ⟨?_, ?_, ?_, ?_, ?_⟩, ⟨?_, ?_, by omega, fun k hk => absurd hk (by omega)⟩, ?_, ⟨by omega, ?_, ?_, fun z => absurd z (by omega)⟩, ⟨⟨?_, by omega, 0, by omega, ?_, fun j hj => absurd hj (by omega)⟩, ⟨?_, by omega, fun j i hj => absurd hj (by omega)⟩, fun j hj => absurd hj (by omega)⟩, ⟨?_, Or.inl ?_⟩, ?_⟩
    · rw [hm]; exact bd0
    · rw [hm]; exact lt0
    · rw [hm]; decide +kernel
    · rw [hm]
      refine RS.congr rs0 (fun c hc => ?_)
      show σ (mgl [(5, 9)] c) = _
      rw [mgl_h hc]
      exact e5 c hc
    · show σ 32 0 = _
      rw [z32, hm]; decide +kernel
    · exact fun l hl => absurd hl List.not_mem_nil
    · exact Nat.zero_le _
    · exact Or.inl ⟨by rw [hm]; decide +kernel, rfl⟩
    · rw [z1]; decide +kernel
    · rw [h0]; decide +kernel
    · rw [e0, h0]; decide +kernel
    · rw [e0]; decide +kernel
    · rw [h0]; decide +kernel
    · show σ 53 1 = _
      rw [e53]; decide +kernel
    · show σ 53 2 = _
      rw [e53]; decide +kernel
    · rw [h0]; decide +kernel
    · rw [z5]; decide +kernel
    · rw [z4]; decide +kernel
    · rw [h0]; exact Or.inl (by decide +kernel)
  exact h.cg (fun c hc => by
    show σ (mgl [(0, 176)] c) = _
    rw [gl0 hc]) (fun c hc => by
    show σ (mgl [(176, 14)] c) = _
    rw [gl1 hc])
