/-! THE CLASS: the image -/
theorem mgl_77 {b1 b2 c : Nat} (h : c < 7) : mgl [(b1, 7), (b2, 7)] (7 + c) = b2 + c := by
  unfold mgl
  rw [show Nat.blt (7 + c) 7 = false from by
    cases hb : Nat.blt (7 + c) 7 with
    | false => rfl
    | true => have h1 : 7 + c + 1 ≤ 7 := Nat.le_of_ble_eq_true hb; omega]
  show mgl [(b2, 7)] (7 + c - 7) = b2 + c
  rw [Nat.add_sub_cancel_left, mgl_h h]
theorem bk7 {b b2 c : Nat} {σ σ2 : mSg} (g : ∀ j, 7 ≤ j → σ2 j = σ (mgl [(b, 7), (b2, 7)] j)) (h : c < b ∨ b + 7 ≤ c) : mback [(b, 7), (b2, 7)] σ σ2 c = σ c := by
  by_cases e : b2 ≤ c ∧ c < b2 + 7
  · unfold mback
    rw [mlo_skip h, mlo_in e]
    show σ2 (c - b2 + 7) = σ c
    rw [g _ (by omega), Nat.add_comm, mgl_77 (by omega)]
    congr 1; omega
  · exact mback_out2 h (by omega)
section CIM
variable {d : Nat} {σ σ2 σ3 W : mSg} {m m' : Nat → Int32} {v : Int32} {ls : List lLn} {Q : mPst} {n a : Nat} {row : Nat → Nat → Int32}
/-- what is kept -/
def KS (σ : mSg) (m : Nat → Int32) (v : Int32) (ls : List lLn) : Prop := RS (fun c => σ (23 + c)) m ∧ Lw (fun j => σ (mgl [(46, 7)] j)) v ls
set_option maxRecDepth 100000 in
theorem c_yimage (hb : b01 (m 11)) (hY : YS σ m v ls) (hq : ∀ σ', KS σ' m v ls → σ' 0 13 = nI 1 → (∀ i, i ≠ 13 → σ' 0 i = σ 0 i) → (∀ c, 1 ≤ c → ¬ (23 ≤ c ∧ c < 32) → ¬ (46 ≤ c ∧ c < 53) → σ' c = σ c) → Q (.inl none) sh_9 σ') : mD (d + 3) 54 [.ref 0] sh_9 σ Q := by
  refine ⟨rfl, fun X hX => ?_⟩
  refine hX _ _ _ _ _ _ _ ?_
  refine c_stateCopy hb (RS.congr hY.1 (fun c hc => by
    show σ (mgl [(23, 9), (5, 9)] (9 + c)) = σ (mgl [(5, 9)] c)
    rw [mgl_99 hc, mgl9 hc])) (fun σ2 g1 g2 => ?_)
  have f1 : ∀ c, c < 23 ∨ 23 + 9 ≤ c → mback [(23, 9), (5, 9)] σ σ2 c = σ c := fun c h => bk2 g2 h
  have hL : Lw (fun j => mback [(23, 9), (5, 9)] σ σ2 (mgl [(46, 7), (32, 7)] (mgl [(7, 7)] j))) v ls := hY.2
  refine c_lawCopy hL (fun σ3 l1 l2 => ?_)
  have f2 : ∀ c, c < 46 ∨ 46 + 7 ≤ c → mback [(46, 7), (32, 7)] (mback [(23, 9), (5, 9)] σ σ2) σ3 c = mback [(23, 9), (5, 9)] σ σ2 c := fun c h => bk7 l2 h
  refine ⟨Or.inr rfl, hq _ ⟨RS.congr g1 (fun c hc => ?_), l1⟩ rfl (fun i hi => ?_) (fun c h1 h2 h3 => ?_)⟩
  · show mput (mback [(46, 7), (32, 7)] (mback [(23, 9), (5, 9)] σ σ2) σ3) 0 13 (nI 1) (23 + c) = σ2 c
    rw [mput_ne (by omega), f2 _ (by omega), bk1 hc]
  · rw [mput_eq, upd_off hi]
    exact congrFun ((f2 0 (by omega)).trans (f1 0 (by omega))) i
  · rw [mput_ne (by omega)]
    exact (f2 c (by omega)).trans (f1 c (by omega))
set_option maxRecDepth 100000 in
theorem c_yback {h : Nat} (hh : h ≤ 1) (h12 : σ 0 13 = nI h) (hK : h = 1 → b01 (m 11) ∧ KS σ m v ls) (hM : YM σ a row) (hC : σ 165 0 = nI 0) (q0 : h = 0 → Q (.inl (some (.int (nI 0)))) sh_9 σ) (q1 : h = 1 → ∀ σ', YS σ' m v ls → YM σ' 0 row → σ' 165 0 = nI 0 → σ' 164 3 = nI 0 → (∀ c, ¬ (5 ≤ c ∧ c < 14) → ¬ (32 ≤ c ∧ c < 39) → c ≠ 53 → c ≠ 164 → σ' c = σ c) → Q (.inl (some (.int (nI 1)))) sh_9 σ') : mD (d + 3) 55 [.ref 0] sh_9 σ Q := by
  refine ⟨rfl, fun X hX => ?_⟩
  refine hX _ _ _ _ _ _ _ ?_
  refine b_ne h12 (b := 0) rfl (by omega) (by omega) (fun e => ?_) (fun e => ⟨Or.inl rfl, q0 e⟩)
  have e : h = 1 := by omega
  obtain ⟨hb, hR, hLk⟩ := hK e
  have q1 := q1 e
  refine hX _ _ _ _ _ _ _ ?_
  refine c_stateCopy hb (RS.congr hR (fun c hc => congrArg σ (mgl_99 (b1 := 5) (b2 := 23) hc))) (fun σ2 g1 g2 => ?_)
  have f1 : ∀ c, c < 5 ∨ 5 + 9 ≤ c → mback [(5, 9), (23, 9)] σ σ2 c = σ c := fun c h => bk2 g2 h
  have hL : Lw (fun j => mback [(5, 9), (23, 9)] σ σ2 (mgl [(32, 7), (46, 7)] (mgl [(7, 7)] j))) v ls := hLk
  refine c_lawCopy hL (fun σ3 l1 l2 => ?_)
  have f2 : ∀ c, c < 32 ∨ 32 + 7 ≤ c → mback [(32, 7), (46, 7)] (mback [(5, 9), (23, 9)] σ σ2) σ3 c = mback [(5, 9), (23, 9)] σ σ2 c := fun c h => bk7 l2 h
  have r2 : RYs (mback [(32, 7), (46, 7)] (mback [(5, 9), (23, 9)] σ σ2) σ3) m := RS.congr g1 (fun c hc => by
    show mback [(32, 7), (46, 7)] (mback [(5, 9), (23, 9)] σ σ2) σ3 (mgl [(5, 9)] c) = σ2 c
    rw [mgl9 hc, f2 _ (by omega), bk1 hc])
  have l3 : Lw (fun j => mback [(32, 7), (46, 7)] (mback [(5, 9), (23, 9)] σ σ2) σ3 (mgl [(32, 7)] j)) v ls := l1
  have f3 : ∀ c, ¬ (5 ≤ c ∧ c < 14) → ¬ (32 ≤ c ∧ c < 39) → mback [(32, 7), (46, 7)] (mback [(5, 9), (23, 9)] σ σ2) σ3 c = σ c := fun c a b => (f2 c (by omega)).trans (f1 c (by omega))
  clear f1 f2 hL g1 g2 l1 l2
  generalize hW : mback [(32, 7), (46, 7)] (mback [(5, 9), (23, 9)] σ σ2) σ3 = W at r2 l3 f3
  refine c_rforget rfl ?_
  have f4 : ∀ c, c ≠ 164 → mback [(164, 4)] W (mput (fun j => W (mgl [(164, 4)] j)) 0 3 (nI 0)) c = W c := by
    intro c hc
    by_cases e : 164 ≤ c ∧ c < 168
    · rw [mback_in e, mput_ne (by omega)]
      show W (mgl [(164, 4)] (c - 164)) = W c
      rw [mgl_h (by omega)]
      congr 1; omega
    · exact mback_out (by omega)
  refine c_mforget rfl ?_
  have f5 : ∀ W2 : mSg, ∀ c, c ≠ 53 → mback [(53, 110)] W2 (mput (fun j => W2 (mgl [(53, 110)] j)) 0 1 (nI 0)) c = W2 c := by
    intro W2 c hc
    by_cases e : 53 ≤ c ∧ c < 163
    · rw [mback_in e, mput_ne (by omega)]
      show W2 (mgl [(53, 110)] (c - 53)) = W2 c
      rw [mgl_h (by omega)]
      congr 1; omega
    · exact mback_out (by omega)
  have f6 : ∀ c, c ≠ 53 → c ≠ 164 → mback [(53, 110)] (mback [(164, 4)] W (mput (fun j => W (mgl [(164, 4)] j)) 0 3 (nI 0))) (mput (fun j => (mback [(164, 4)] W (mput (fun j => W (mgl [(164, 4)] j)) 0 3 (nI 0))) (mgl [(53, 110)] j)) 0 1 (nI 0)) c = W c := fun c a b => (f5 _ c a).trans (f4 c b)
  obtain ⟨m1, m2, nx, m3, m4, m5⟩ := hM
  subst hW
  refine ⟨Or.inr rfl, q1 _ ⟨r2.cg (fun c a b => f6 c (by omega) (by omega)), l3⟩ ⟨rfl, by omega, nx, m3, ?_, fun j hj => by omega⟩ ?_ rfl (fun c h1 h2 h3 h4 => (f6 c h3 h4).trans (f3 c h1 h2))⟩
  · exact m4
  · exact (congrFun ((f6 165 (by omega) (by omega)).trans (f3 165 (by omega) (by omega))) 0).trans hC
end CIM
