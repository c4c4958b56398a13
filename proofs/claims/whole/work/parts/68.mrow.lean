/-! THE MODEL: it adds to its row -/
section MAD
variable {d : Nat} {σ : mSg} {f : Nat → Int32} {Q : mPst}
theorem mM_at {k : Nat} : mM σ f 1 k = f k := rfl
theorem g_hires {c : Nat} {a b : Int32} (h4 : f 4 = nI c) (hc : c < 3) (hq : Q (.inl none) sh_10 (mM σ (yaC f c a b))) : mD (d + 1) 108 [.ref 0, .int a, .int b] sh_10 (mM σ f) Q := by
  have e1 : nI 83 + nI 2 * f 4 = nI (83 + 2 * c) := by rw [h4, nI_mul, nI_add]
  have r1 : mput (mM σ f) 1 (nI 83 + nI 2 * f 4).toNatClampNeg a 1 4 = nI c := by rw [clN e1 (by omega), mput_eq, upd_off (by omega)]; exact h4
  have e2 : nI 83 + nI 2 * mput (mM σ f) 1 (nI 83 + nI 2 * f 4).toNatClampNeg a 1 4 + nI 1 = nI (84 + 2 * c) := by rw [r1, nI_mul, nI_add, nI_add]; congr 1; omega
  have r2 : mput (mput (mM σ f) 1 (nI 83 + nI 2 * f 4).toNatClampNeg a) 1 (nI 83 + nI 2 * mput (mM σ f) 1 (nI 83 + nI 2 * f 4).toNatClampNeg a 1 4 + nI 1).toNatClampNeg b 1 4 = nI c := by rw [clN e2 (by omega), mput_eq, upd_off (by omega)]; exact r1
  refine ⟨rfl, fun X hX => ?_⟩
  refine hX _ _ _ _ _ _ _ ?_
  refine ⟨vp_in_nI (n := 4) (by omega) (by omega), vin e1 (by omega) (by omega), vp_in_nI (n := 4) (by omega) (by omega), vin e2 (by omega) (by omega), vp_in_nI (n := 4) (by omega) (by omega), vp_in_nI (n := 4) (by omega) (by omega), ?_⟩
  have key : mput (mput (mput (mM σ f) 1 (nI 83 + nI 2 * f 4).toNatClampNeg a) 1 (nI 83 + nI 2 * mput (mM σ f) 1 (nI 83 + nI 2 * f 4).toNatClampNeg a 1 4 + nI 1).toNatClampNeg b) 1 4 (mput (mput (mM σ f) 1 (nI 83 + nI 2 * f 4).toNatClampNeg a) 1 (nI 83 + nI 2 * mput (mM σ f) 1 (nI 83 + nI 2 * f 4).toNatClampNeg a 1 4 + nI 1).toNatClampNeg b 1 4 + nI 1) = mM σ (yaC f c a b) := by
    rw [r2, clN e2 (by omega), clN e1 (by omega), mM_put, mM_put, mM_put, nI_add]
    rfl
  rw [← key] at hq
  exact hq
theorem g_buys {c : Nat} {a : Int32} (h4 : f 5 = nI c) (hc : c < 4) (hq : Q (.inl none) sh_10 (mM σ (yaM f c a))) : mD (d + 1) 110 [.ref 0, .int a] sh_10 (mM σ f) Q := by
  have e1 : nI 89 + f 5 = nI (89 + c) := by rw [h4, nI_add]
  have r1 : mput (mM σ f) 1 (nI 89 + f 5).toNatClampNeg a 1 5 = nI c := by rw [clN e1 (by omega), mput_eq, upd_off (by omega)]; exact h4
  refine ⟨rfl, fun X hX => ?_⟩
  refine hX _ _ _ _ _ _ _ ?_
  refine ⟨vp_in_nI (n := 5) (by omega) (by omega), vin e1 (by omega) (by omega), vp_in_nI (n := 5) (by omega) (by omega), vp_in_nI (n := 5) (by omega) (by omega), ?_⟩
  have key : mput (mput (mM σ f) 1 (nI 89 + f 5).toNatClampNeg a) 1 5 (mput (mM σ f) 1 (nI 89 + f 5).toNatClampNeg a 1 5 + nI 1) = mM σ (yaM f c a) := by
    rw [r1, clN e1 (by omega), mM_put, mM_put, nI_add]
    rfl
  rw [← key] at hq
  exact hq
theorem g_takes {c : Nat} {a1 a2 a3 a4 : Int32} (h4 : f 6 = nI c) (hc : c < 6) (hq : Q (.inl none) sh_10 (mM σ (yaD f c a1 a2 a3 a4))) : mD (d + 1) 112 [.ref 0, .int a1, .int a2, .int a3, .int a4] sh_10 (mM σ f) Q := by
  have e0 : ∀ j, nI 93 + nI 5 * f 6 + nI j = nI (93 + 5 * c + j) := fun j => by rw [h4, nI_mul, nI_add, nI_add]
  have v : ∀ j, j < 5 → vp_in (nI 93 + nI 5 * f 6 + nI j) 823 := fun j hj => vin (e0 j) (by omega) (by omega)
  have cl : ∀ j, j < 5 → (nI 93 + nI 5 * f 6 + nI j).toNatClampNeg = 93 + 5 * c + j := fun j hj => clN (e0 j) (by omega)
  refine ⟨rfl, fun X hX => ?_⟩
  refine hX _ _ _ _ _ _ _ ?_
  refine ⟨vp_in_nI (n := 6) (by omega) (by omega), v 0 (by omega), v 1 (by omega), v 2 (by omega), v 3 (by omega), v 4 (by omega), vp_in_nI (n := 6) (by omega) (by omega), vp_in_nI (n := 6) (by omega) (by omega), ?_⟩
  have key : ∀ W, W = mput (mput (mput (mput (mput (mM σ f) 1 (nI 93 + nI 5 * f 6 + nI 0).toNatClampNeg a1) 1 (nI 93 + nI 5 * f 6 + nI 1).toNatClampNeg a2) 1 (nI 93 + nI 5 * f 6 + nI 2).toNatClampNeg a3) 1 (nI 93 + nI 5 * f 6 + nI 3).toNatClampNeg a4) 1 (nI 93 + nI 5 * f 6 + nI 4).toNatClampNeg (nI 1) → mput W 1 6 (W 1 6 + nI 1) = mM σ (yaD f c a1 a2 a3 a4) := by
    intro W hW
    rw [cl 0 (by omega), cl 1 (by omega), cl 2 (by omega), cl 3 (by omega), cl 4 (by omega), mM_put, mM_put, mM_put, mM_put, mM_put] at hW
    have e6 : W 1 6 = nI c := by
      rw [hW]
      show upd (upd (upd (upd (upd f _ _) _ _) _ _) _ _) _ _ 6 = _
      rw [upd_off (by omega), upd_off (by omega), upd_off (by omega), upd_off (by omega), upd_off (by omega)]
      exact h4
    rw [e6, hW, mM_put, nI_add]
    rfl
  have key := key _ rfl
  rw [← key] at hq
  exact hq
end MAD
theorem PS.row {σ0 σ : mSg} {m m' : Nat → Int32} {p dp : Nat} {fl : Int32} (h : PS (mM σ0 m) σ p fl dp) : PS (mM σ0 m') (mM σ m') p fl dp := by
  refine ⟨fun c k hc => ?_, h.2.1, h.2.2.1, h.2.2.2⟩
  by_cases e : c = 1
  · subst e; rfl
  · have := h.1 c k hc
    unfold mM at this ⊢
    rw [if_neg e] at this
    rw [if_neg e, if_neg e]
    exact this
theorem PS.rowE {σ0 σ : mSg} {m : Nat → Int32} {p dp : Nat} {fl : Int32} (h : PS (mM σ0 m) σ p fl dp) : mM σ m = σ := by
  funext c
  unfold mM
  split
  · rename_i e
    subst e
    funext k
    exact (h.1 1 k (by omega)).symm
  · rfl
theorem PS.r1 {σ0 σ : mSg} {m : Nat → Int32} {p dp k : Nat} {fl : Int32} (h : PS (mM σ0 m) σ p fl dp) : σ 1 k = m k := h.1 1 k (by omega)
theorem PS.rput {σ0 σ : mSg} {m : Nat → Int32} {p dp k : Nat} {fl v : Int32} (h : PS (mM σ0 m) σ p fl dp) : PS (mM σ0 (upd m k v)) (mput σ 1 k v) p fl dp := by
  have e : mput σ 1 k v = mM σ (upd m k v) := by rw [← mM_put, h.rowE]
  rw [e]
  exact h.row
