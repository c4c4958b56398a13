/-! THE LAW'S HELPERS -/
theorem mloc_i {shl sh2 : List mSh} {K : mOut → mSg → Prop} {x : Int32} {σ : mSg} (h : mpre shl sh2 = true) (k : K (.inl (some (.int x))) σ) : mloc shl K (.inl (some (.int x))) sh2 σ := by
  unfold mloc
  rw [h]
  exact k
theorem mloc_v {shl sh2 : List mSh} {K : mOut → mSg → Prop} {σ : mSg} (h : mpre shl sh2 = true) (k : K (.inl none) σ) : mloc shl K (.inl none) sh2 σ := by
  unfold mloc
  rw [h]
  exact k
theorem mloc_t {shl sh2 : List mSh} {K : mOut → mSg → Prop} {x : Nat} {σ : mSg} (h : mpre shl sh2 = true) (k : K (.inr x) σ) : mloc shl K (.inr x) sh2 σ := by
  unfold mloc
  rw [h]
  exact k
theorem i2l_r (x : Int32) : x.toInt64.toInt32 = x := by
  refine Int32.toBitVec_inj.1 ?_
  show BitVec.signExtend 32 (BitVec.signExtend 64 x.toBitVec) = x.toBitVec
  apply BitVec.eq_of_getLsbD_eq
  intro i hi
  rw [BitVec.getLsbD_signExtend, BitVec.getLsbD_signExtend]
  simp [hi, show i < 64 by omega]
theorem i2l_ok (x : Int32) : x.toInt64.toInt32.toInt64 = x.toInt64 := by rw [i2l_r]
theorem vpo : vp_in (nI 0) 1 := by unfold vp_in; decide +kernel
/-- what a helper leaves: the code 0, 1 or 2, and what the model will answer -/
def HP (jm : Nat) (as : List Value) (σm σ' : mSg) (κ : Nat) : Prop := ∃ ans W, κ ≤ 2 ∧ (∀ c, c < 176 → σ' c = W c) ∧ (κ = 0 → σ' 176 0 = ans) ∧ MOK jm as σm κ ans W
def HPv (jm : Nat) (as : List Value) (σm σ' : mSg) (κ : Nat) : Prop := κ ≤ 2 ∧ MOKv jm as σm κ σ'
section HLP
variable {jm : Nat} {as : List Value} {σ σm W : mSg} {ans p w x y l q g u v r s t : Int32} {bo : Bool} {Q : mPst}
theorem HP.ok (h : MOK jm as σm 0 ans W) : HP jm as σm (mput (mback [(0, 176)] σ W) 176 (nI 0).toNatClampNeg ans.toInt64.toInt32) 0 := by
  refine ⟨ans, W, by omega, fun c hc => ?_, fun _ => ?_, h⟩
  · rw [mput_c (by omega), mback_in (by omega)]
    rfl
  · show mput (mback [(0, 176)] σ W) 176 (nI 0).toNatClampNeg ans.toInt64.toInt32 176 0 = ans
    rw [show (nI 0).toNatClampNeg = 0 from by decide +kernel, i2l_r]
    unfold mput
    rw [if_pos rfl]
    exact upd_at
theorem HP.th {κ : Nat} (h : MOK jm as σm (κ + 1) (nI 0) W) (hk : κ ≤ 1) : HP jm as σm (mback [(0, 176)] σ W) (κ + 1) := ⟨nI 0, W, by omega, fun c hc => by rw [mback_in (by omega)]; rfl, fun z => absurd z (by omega), h⟩
set_option maxRecDepth 100000 in
theorem h_yard (h : IY (fun j => σ (mgl [(0, 176)] j)) σm) (hq : ∀ κ σ', HP 120 [.ref 0] σm σ' κ → Q (.inl (some (.int (nI κ)))) sh_9_J σ') : mD 58 343 [.ref 0, .ref 176] sh_9_J σ Q := by
  refine ⟨rfl, fun X hX => ?_⟩
  refine hX _ _ _ _ _ _ _ ?_
  refine lg_yard h (fun o s' W hH => ?_)
  obtain ⟨hp, ⟨ans, rfl, hm⟩ | ⟨rfl, hm⟩ | ⟨rfl, hm⟩⟩ := hH
  · refine mloc_i hp ?_
    refine ⟨vpo, i2l_ok _, ?_⟩
    refine hX _ _ _ _ _ _ _ ?_
    exact hq 0 _ (HP.ok hm)
  · refine mloc_t hp ?_
    refine hX _ _ _ _ _ _ _ ?_
    exact hq 1 _ (HP.th hm (by omega))
  · refine mloc_t hp ?_
    refine hX _ _ _ _ _ _ _ ?_
    exact hq 2 _ (HP.th hm (by omega))
set_option maxRecDepth 100000 in
theorem h_law (h : IY (fun j => σ (mgl [(0, 176)] j)) σm) (hq : ∀ κ σ', HP 128 [.ref 0] σm σ' κ → Q (.inl (some (.int (nI κ)))) sh_9_J σ') : mD 58 344 [.ref 0, .ref 176] sh_9_J σ Q := by
  refine ⟨rfl, fun X hX => ?_⟩
  refine hX _ _ _ _ _ _ _ ?_
  refine lg_law h (fun o s' W hH => ?_)
  obtain ⟨hp, ⟨ans, rfl, hm⟩ | ⟨rfl, hm⟩⟩ := hH
  · refine mloc_i hp ?_
    refine ⟨vpo, i2l_ok _, ?_⟩
    refine hX _ _ _ _ _ _ _ ?_
    exact hq 0 _ (HP.ok hm)
  · refine mloc_t hp ?_
    refine hX _ _ _ _ _ _ _ ?_
    exact hq 1 _ (HP.th hm (by omega))
set_option maxRecDepth 100000 in
theorem h_street (h : IY (fun j => σ (mgl [(0, 176)] j)) σm) (hq : ∀ κ σ', HP 147 [.ref 0, .int p, .int w] σm σ' κ → Q (.inl (some (.int (nI κ)))) sh_9_J σ') : mD 58 345 [.ref 0, .int p, .int w, .ref 176] sh_9_J σ Q := by
  refine ⟨rfl, fun X hX => ?_⟩
  refine hX _ _ _ _ _ _ _ ?_
  refine lg_street h (fun o s' W hH => ?_)
  obtain ⟨hp, ⟨ans, rfl, hm⟩ | ⟨rfl, hm⟩ | ⟨rfl, hm⟩⟩ := hH
  · refine mloc_i hp ?_
    refine ⟨vpo, i2l_ok _, ?_⟩
    refine hX _ _ _ _ _ _ _ ?_
    exact hq 0 _ (HP.ok hm)
  · refine mloc_t hp ?_
    refine hX _ _ _ _ _ _ _ ?_
    exact hq 1 _ (HP.th hm (by omega))
  · refine mloc_t hp ?_
    refine hX _ _ _ _ _ _ _ ?_
    exact hq 2 _ (HP.th hm (by omega))
set_option maxRecDepth 100000 in
theorem h_mix (h : IY (fun j => σ (mgl [(0, 176)] j)) σm) (hq : ∀ κ σ', HP 148 [.ref 0, .int p, .int g] σm σ' κ → Q (.inl (some (.int (nI κ)))) sh_9_J σ') : mD 58 346 [.ref 0, .int p, .int g, .ref 176] sh_9_J σ Q := by
  refine ⟨rfl, fun X hX => ?_⟩
  refine hX _ _ _ _ _ _ _ ?_
  refine lg_mix h (fun o s' W hH => ?_)
  obtain ⟨hp, ⟨ans, rfl, hm⟩ | ⟨rfl, hm⟩⟩ := hH
  · refine mloc_i hp ?_
    refine ⟨vpo, i2l_ok _, ?_⟩
    refine hX _ _ _ _ _ _ _ ?_
    exact hq 0 _ (HP.ok hm)
  · refine mloc_t hp ?_
    refine hX _ _ _ _ _ _ _ ?_
    exact hq 1 _ (HP.th hm (by omega))
set_option maxRecDepth 100000 in
theorem h_cart (h : IY (fun j => σ (mgl [(0, 176)] j)) σm) (hq : ∀ κ σ', HP 153 [.ref 0, .int p, .int w] σm σ' κ → Q (.inl (some (.int (nI κ)))) sh_9_J σ') : mD 58 347 [.ref 0, .int p, .int w, .ref 176] sh_9_J σ Q := by
  refine ⟨rfl, fun X hX => ?_⟩
  refine hX _ _ _ _ _ _ _ ?_
  refine lg_cart h (fun o s' W hH => ?_)
  obtain ⟨hp, ⟨ans, rfl, hm⟩ | ⟨rfl, hm⟩ | ⟨rfl, hm⟩⟩ := hH
  · refine mloc_i hp ?_
    refine ⟨vpo, i2l_ok _, ?_⟩
    refine hX _ _ _ _ _ _ _ ?_
    exact hq 0 _ (HP.ok hm)
  · refine mloc_t hp ?_
    refine hX _ _ _ _ _ _ _ ?_
    exact hq 1 _ (HP.th hm (by omega))
  · refine mloc_t hp ?_
    refine hX _ _ _ _ _ _ _ ?_
    exact hq 2 _ (HP.th hm (by omega))
set_option maxRecDepth 100000 in
theorem h_mesh (h : IY (fun j => σ (mgl [(0, 176)] j)) σm) (hq : ∀ κ σ', HP 154 [.ref 0, .int p] σm σ' κ → Q (.inl (some (.int (nI κ)))) sh_9_J σ') : mD 58 348 [.ref 0, .int p, .ref 176] sh_9_J σ Q := by
  refine ⟨rfl, fun X hX => ?_⟩
  refine hX _ _ _ _ _ _ _ ?_
  refine lg_mesh h (fun o s' W hH => ?_)
  obtain ⟨hp, ⟨ans, rfl, hm⟩ | ⟨rfl, hm⟩⟩ := hH
  · refine mloc_i hp ?_
    refine ⟨vpo, i2l_ok _, ?_⟩
    refine hX _ _ _ _ _ _ _ ?_
    exact hq 0 _ (HP.ok hm)
  · refine mloc_t hp ?_
    refine hX _ _ _ _ _ _ _ ?_
    exact hq 1 _ (HP.th hm (by omega))
set_option maxRecDepth 100000 in
theorem h_contract (h : IY (fun j => σ (mgl [(0, 176)] j)) σm) (hq : ∀ κ σ', HP 155 [.ref 0, .int p, .int w] σm σ' κ → Q (.inl (some (.int (nI κ)))) sh_9_J σ') : mD 58 349 [.ref 0, .int p, .int w, .ref 176] sh_9_J σ Q := by
  refine ⟨rfl, fun X hX => ?_⟩
  refine hX _ _ _ _ _ _ _ ?_
  refine lg_contract h (fun o s' W hH => ?_)
  obtain ⟨hp, ⟨ans, rfl, hm⟩ | ⟨rfl, hm⟩ | ⟨rfl, hm⟩⟩ := hH
  · refine mloc_i hp ?_
    refine ⟨vpo, i2l_ok _, ?_⟩
    refine hX _ _ _ _ _ _ _ ?_
    exact hq 0 _ (HP.ok hm)
  · refine mloc_t hp ?_
    refine hX _ _ _ _ _ _ _ ?_
    exact hq 1 _ (HP.th hm (by omega))
  · refine mloc_t hp ?_
    refine hX _ _ _ _ _ _ _ ?_
    exact hq 2 _ (HP.th hm (by omega))
set_option maxRecDepth 100000 in
theorem h_heap (h : IY (fun j => σ (mgl [(0, 176)] j)) σm) (hq : ∀ κ σ', HP 156 [.ref 0, .int g] σm σ' κ → Q (.inl (some (.int (nI κ)))) sh_9_J σ') : mD 58 350 [.ref 0, .int g, .ref 176] sh_9_J σ Q := by
  refine ⟨rfl, fun X hX => ?_⟩
  refine hX _ _ _ _ _ _ _ ?_
  refine lg_heap h (fun o s' W hH => ?_)
  obtain ⟨hp, ⟨ans, rfl, hm⟩ | ⟨rfl, hm⟩⟩ := hH
  · refine mloc_i hp ?_
    refine ⟨vpo, i2l_ok _, ?_⟩
    refine hX _ _ _ _ _ _ _ ?_
    exact hq 0 _ (HP.ok hm)
  · refine mloc_t hp ?_
    refine hX _ _ _ _ _ _ _ ?_
    exact hq 1 _ (HP.th hm (by omega))
set_option maxRecDepth 100000 in
theorem h_way (h : IY (fun j => σ (mgl [(0, 176)] j)) σm) (hq : ∀ κ σ', HP 157 [.ref 0, .int p, .int w] σm σ' κ → Q (.inl (some (.int (nI κ)))) sh_9_J σ') : mD 58 351 [.ref 0, .int p, .int w, .ref 176] sh_9_J σ Q := by
  refine ⟨rfl, fun X hX => ?_⟩
  refine hX _ _ _ _ _ _ _ ?_
  refine lg_way h (fun o s' W hH => ?_)
  obtain ⟨hp, ⟨ans, rfl, hm⟩ | ⟨rfl, hm⟩⟩ := hH
  · refine mloc_i hp ?_
    refine ⟨vpo, i2l_ok _, ?_⟩
    refine hX _ _ _ _ _ _ _ ?_
    exact hq 0 _ (HP.ok hm)
  · refine mloc_t hp ?_
    refine hX _ _ _ _ _ _ _ ?_
    exact hq 1 _ (HP.th hm (by omega))
set_option maxRecDepth 100000 in
theorem h_days (h : IY (fun j => σ (mgl [(0, 176)] j)) σm) (hq : ∀ κ σ', HP 160 [.ref 0, .int p] σm σ' κ → Q (.inl (some (.int (nI κ)))) sh_9_J σ') : mD 58 352 [.ref 0, .int p, .ref 176] sh_9_J σ Q := by
  refine ⟨rfl, fun X hX => ?_⟩
  refine hX _ _ _ _ _ _ _ ?_
  refine lg_days h (fun o s' W hH => ?_)
  obtain ⟨hp, ⟨ans, rfl, hm⟩ | ⟨rfl, hm⟩⟩ := hH
  · refine mloc_i hp ?_
    refine ⟨vpo, i2l_ok _, ?_⟩
    refine hX _ _ _ _ _ _ _ ?_
    exact hq 0 _ (HP.ok hm)
  · refine mloc_t hp ?_
    refine hX _ _ _ _ _ _ _ ?_
    exact hq 1 _ (HP.th hm (by omega))
set_option maxRecDepth 100000 in
theorem h_tip (h : IY (fun j => σ (mgl [(0, 176)] j)) σm) (hq : ∀ κ σ', HP 161 [.ref 0, .int p] σm σ' κ → Q (.inl (some (.int (nI κ)))) sh_9_J σ') : mD 58 353 [.ref 0, .int p, .ref 176] sh_9_J σ Q := by
  refine ⟨rfl, fun X hX => ?_⟩
  refine hX _ _ _ _ _ _ _ ?_
  refine lg_tip h (fun o s' W hH => ?_)
  obtain ⟨hp, ⟨ans, rfl, hm⟩ | ⟨rfl, hm⟩ | ⟨rfl, hm⟩⟩ := hH
  · refine mloc_i hp ?_
    refine ⟨vpo, i2l_ok _, ?_⟩
    refine hX _ _ _ _ _ _ _ ?_
    exact hq 0 _ (HP.ok hm)
  · refine mloc_t hp ?_
    refine hX _ _ _ _ _ _ _ ?_
    exact hq 1 _ (HP.th hm (by omega))
  · refine mloc_t hp ?_
    refine hX _ _ _ _ _ _ _ ?_
    exact hq 2 _ (HP.th hm (by omega))
set_option maxRecDepth 100000 in
theorem h_buy (h : IY (fun j => σ (mgl [(0, 176)] j)) σm) (hq : ∀ κ σ', HP 162 [.ref 0, .int p] σm σ' κ → Q (.inl (some (.int (nI κ)))) sh_9_J σ') : mD 58 354 [.ref 0, .int p, .ref 176] sh_9_J σ Q := by
  refine ⟨rfl, fun X hX => ?_⟩
  refine hX _ _ _ _ _ _ _ ?_
  refine lg_buy h (fun o s' W hH => ?_)
  obtain ⟨hp, ⟨ans, rfl, hm⟩ | ⟨rfl, hm⟩ | ⟨rfl, hm⟩⟩ := hH
  · refine mloc_i hp ?_
    refine ⟨vpo, i2l_ok _, ?_⟩
    refine hX _ _ _ _ _ _ _ ?_
    exact hq 0 _ (HP.ok hm)
  · refine mloc_t hp ?_
    refine hX _ _ _ _ _ _ _ ?_
    exact hq 1 _ (HP.th hm (by omega))
  · refine mloc_t hp ?_
    refine hX _ _ _ _ _ _ _ ?_
    exact hq 2 _ (HP.th hm (by omega))
set_option maxRecDepth 100000 in
theorem h_take (h : IY (fun j => σ (mgl [(0, 176)] j)) σm) (hq : ∀ κ σ', HP 163 [.ref 0, .int l, .int r, .int q, .int p] σm σ' κ → Q (.inl (some (.int (nI κ)))) sh_9_J σ') : mD 58 355 [.ref 0, .int l, .int r, .int q, .int p, .ref 176] sh_9_J σ Q := by
  refine ⟨rfl, fun X hX => ?_⟩
  refine hX _ _ _ _ _ _ _ ?_
  refine lg_take h (fun o s' W hH => ?_)
  obtain ⟨hp, ⟨ans, rfl, hm⟩ | ⟨rfl, hm⟩ | ⟨rfl, hm⟩⟩ := hH
  · refine mloc_i hp ?_
    refine ⟨vpo, i2l_ok _, ?_⟩
    refine hX _ _ _ _ _ _ _ ?_
    exact hq 0 _ (HP.ok hm)
  · refine mloc_t hp ?_
    refine hX _ _ _ _ _ _ _ ?_
    exact hq 1 _ (HP.th hm (by omega))
  · refine mloc_t hp ?_
    refine hX _ _ _ _ _ _ _ ?_
    exact hq 2 _ (HP.th hm (by omega))
set_option maxRecDepth 100000 in
theorem h_hire (h : IY (fun j => σ (mgl [(0, 176)] j)) σm) (hq : ∀ κ σ', HP 165 [.ref 0, .int p, .int g] σm σ' κ → Q (.inl (some (.int (nI κ)))) sh_9_J σ') : mD 58 357 [.ref 0, .int p, .int g, .ref 176] sh_9_J σ Q := by
  refine ⟨rfl, fun X hX => ?_⟩
  refine hX _ _ _ _ _ _ _ ?_
  refine lg_hire h (fun o s' W hH => ?_)
  obtain ⟨hp, ⟨ans, rfl, hm⟩ | ⟨rfl, hm⟩ | ⟨rfl, hm⟩⟩ := hH
  · refine mloc_i hp ?_
    refine ⟨vpo, i2l_ok _, ?_⟩
    refine hX _ _ _ _ _ _ _ ?_
    exact hq 0 _ (HP.ok hm)
  · refine mloc_t hp ?_
    refine hX _ _ _ _ _ _ _ ?_
    exact hq 1 _ (HP.th hm (by omega))
  · refine mloc_t hp ?_
    refine hX _ _ _ _ _ _ _ ?_
    exact hq 2 _ (HP.th hm (by omega))
set_option maxRecDepth 100000 in
theorem h_lay (h : IY (fun j => σ (mgl [(0, 176)] j)) σm) (hq : ∀ κ σ', HP 166 [.ref 0, .int p, .int g, .int x] σm σ' κ → Q (.inl (some (.int (nI κ)))) sh_9_J σ') : mD 58 358 [.ref 0, .int p, .int g, .int x, .ref 176] sh_9_J σ Q := by
  refine ⟨rfl, fun X hX => ?_⟩
  refine hX _ _ _ _ _ _ _ ?_
  refine lg_lay h (fun o s' W hH => ?_)
  obtain ⟨hp, ⟨ans, rfl, hm⟩ | ⟨rfl, hm⟩ | ⟨rfl, hm⟩⟩ := hH
  · refine mloc_i hp ?_
    refine ⟨vpo, i2l_ok _, ?_⟩
    refine hX _ _ _ _ _ _ _ ?_
    exact hq 0 _ (HP.ok hm)
  · refine mloc_t hp ?_
    refine hX _ _ _ _ _ _ _ ?_
    exact hq 1 _ (HP.th hm (by omega))
  · refine mloc_t hp ?_
    refine hX _ _ _ _ _ _ _ ?_
    exact hq 2 _ (HP.th hm (by omega))
set_option maxRecDepth 100000 in
theorem h_fill (h : IY (fun j => σ (mgl [(0, 176)] j)) σm) (hq : ∀ κ σ', HP 168 [.ref 0, .int p] σm σ' κ → Q (.inl (some (.int (nI κ)))) sh_9_J σ') : mD 58 359 [.ref 0, .int p, .ref 176] sh_9_J σ Q := by
  refine ⟨rfl, fun X hX => ?_⟩
  refine hX _ _ _ _ _ _ _ ?_
  refine lg_fill h (fun o s' W hH => ?_)
  obtain ⟨hp, ⟨ans, rfl, hm⟩ | ⟨rfl, hm⟩ | ⟨rfl, hm⟩⟩ := hH
  · refine mloc_i hp ?_
    refine ⟨vpo, i2l_ok _, ?_⟩
    refine hX _ _ _ _ _ _ _ ?_
    exact hq 0 _ (HP.ok hm)
  · refine mloc_t hp ?_
    refine hX _ _ _ _ _ _ _ ?_
    exact hq 1 _ (HP.th hm (by omega))
  · refine mloc_t hp ?_
    refine hX _ _ _ _ _ _ _ ?_
    exact hq 2 _ (HP.th hm (by omega))
set_option maxRecDepth 100000 in
theorem h_classOf (h : IY (fun j => σ (mgl [(0, 176)] j)) σm) (hq : ∀ κ σ', HP 173 [.ref 0, .int p, .int g] σm σ' κ → Q (.inl (some (.int (nI κ)))) sh_9_J σ') : mD 58 360 [.ref 0, .int p, .int g, .ref 176] sh_9_J σ Q := by
  refine ⟨rfl, fun X hX => ?_⟩
  refine hX _ _ _ _ _ _ _ ?_
  refine lg_classOf h (fun o s' W hH => ?_)
  obtain ⟨hp, ⟨ans, rfl, hm⟩ | ⟨rfl, hm⟩⟩ := hH
  · refine mloc_i hp ?_
    refine ⟨vpo, i2l_ok _, ?_⟩
    refine hX _ _ _ _ _ _ _ ?_
    exact hq 0 _ (HP.ok hm)
  · refine mloc_t hp ?_
    refine hX _ _ _ _ _ _ _ ?_
    exact hq 1 _ (HP.th hm (by omega))
set_option maxRecDepth 100000 in
theorem h_held (h : IY (fun j => σ (mgl [(0, 176)] j)) σm) (hq : ∀ κ σ', HP 174 [.ref 0, .int p, .int g] σm σ' κ → Q (.inl (some (.int (nI κ)))) sh_9_J σ') : mD 58 361 [.ref 0, .int p, .int g, .ref 176] sh_9_J σ Q := by
  refine ⟨rfl, fun X hX => ?_⟩
  refine hX _ _ _ _ _ _ _ ?_
  refine lg_held h (fun o s' W hH => ?_)
  obtain ⟨hp, ⟨ans, rfl, hm⟩ | ⟨rfl, hm⟩⟩ := hH
  · refine mloc_i hp ?_
    refine ⟨vpo, i2l_ok _, ?_⟩
    refine hX _ _ _ _ _ _ _ ?_
    exact hq 0 _ (HP.ok hm)
  · refine mloc_t hp ?_
    refine hX _ _ _ _ _ _ _ ?_
    exact hq 1 _ (HP.th hm (by omega))
set_option maxRecDepth 100000 in
theorem h_clean (h : IY (fun j => σ (mgl [(0, 176)] j)) σm) (hq : ∀ κ σ', HP 177 [.ref 0, .int p, .int s] σm σ' κ → Q (.inl (some (.int (nI κ)))) sh_9_J σ') : mD 58 362 [.ref 0, .int p, .int s, .ref 176] sh_9_J σ Q := by
  refine ⟨rfl, fun X hX => ?_⟩
  refine hX _ _ _ _ _ _ _ ?_
  refine lg_clean h (fun o s' W hH => ?_)
  obtain ⟨hp, ⟨ans, rfl, hm⟩ | ⟨rfl, hm⟩⟩ := hH
  · refine mloc_i hp ?_
    refine ⟨vpo, i2l_ok _, ?_⟩
    refine hX _ _ _ _ _ _ _ ?_
    exact hq 0 _ (HP.ok hm)
  · refine mloc_t hp ?_
    refine hX _ _ _ _ _ _ _ ?_
    exact hq 1 _ (HP.th hm (by omega))
set_option maxRecDepth 100000 in
theorem h_round (h : IY (fun j => σ (mgl [(0, 176)] j)) σm) (hq : ∀ κ σ', HP 178 [.ref 0] σm σ' κ → Q (.inl (some (.int (nI κ)))) sh_9_J σ') : mD 58 363 [.ref 0, .ref 176] sh_9_J σ Q := by
  refine ⟨rfl, fun X hX => ?_⟩
  refine hX _ _ _ _ _ _ _ ?_
  refine lg_round h (fun o s' W hH => ?_)
  obtain ⟨hp, ⟨ans, rfl, hm⟩ | ⟨rfl, hm⟩⟩ := hH
  · refine mloc_i hp ?_
    refine ⟨vpo, i2l_ok _, ?_⟩
    refine hX _ _ _ _ _ _ _ ?_
    exact hq 0 _ (HP.ok hm)
  · refine mloc_t hp ?_
    refine hX _ _ _ _ _ _ _ ?_
    exact hq 1 _ (HP.th hm (by omega))
set_option maxRecDepth 100000 in
theorem h_trips (h : IY (fun j => σ (mgl [(0, 176)] j)) σm) (hq : ∀ κ σ', HP 179 [.ref 0, .int p] σm σ' κ → Q (.inl (some (.int (nI κ)))) sh_9_J σ') : mD 58 364 [.ref 0, .int p, .ref 176] sh_9_J σ Q := by
  refine ⟨rfl, fun X hX => ?_⟩
  refine hX _ _ _ _ _ _ _ ?_
  refine lg_trips h (fun o s' W hH => ?_)
  obtain ⟨hp, ⟨ans, rfl, hm⟩ | ⟨rfl, hm⟩⟩ := hH
  · refine mloc_i hp ?_
    refine ⟨vpo, i2l_ok _, ?_⟩
    refine hX _ _ _ _ _ _ _ ?_
    exact hq 0 _ (HP.ok hm)
  · refine mloc_t hp ?_
    refine hX _ _ _ _ _ _ _ ?_
    exact hq 1 _ (HP.th hm (by omega))
set_option maxRecDepth 100000 in
theorem h_blend (h : IY (fun j => σ (mgl [(0, 176)] j)) σm) (hq : ∀ κ σ', HP 186 [.ref 0, .int p, .int w, .int x, .int y] σm σ' κ → Q (.inl (some (.int (nI κ)))) sh_9_J σ') : mD 58 365 [.ref 0, .int p, .int w, .int x, .int y, .ref 176] sh_9_J σ Q := by
  refine ⟨rfl, fun X hX => ?_⟩
  refine hX _ _ _ _ _ _ _ ?_
  refine lg_blend h (fun o s' W hH => ?_)
  obtain ⟨hp, ⟨ans, rfl, hm⟩ | ⟨rfl, hm⟩ | ⟨rfl, hm⟩⟩ := hH
  · refine mloc_i hp ?_
    refine ⟨vpo, i2l_ok _, ?_⟩
    refine hX _ _ _ _ _ _ _ ?_
    exact hq 0 _ (HP.ok hm)
  · refine mloc_t hp ?_
    refine hX _ _ _ _ _ _ _ ?_
    exact hq 1 _ (HP.th hm (by omega))
  · refine mloc_t hp ?_
    refine hX _ _ _ _ _ _ _ ?_
    exact hq 2 _ (HP.th hm (by omega))
set_option maxRecDepth 100000 in
theorem h_from (h : IY (fun j => σ (mgl [(0, 176)] j)) σm) (hq : ∀ κ σ', HP 188 [.ref 0] σm σ' κ → Q (.inl (some (.int (nI κ)))) sh_9_J σ') : mD 58 366 [.ref 0, .ref 176] sh_9_J σ Q := by
  refine ⟨rfl, fun X hX => ?_⟩
  refine hX _ _ _ _ _ _ _ ?_
  refine lg_from h (fun o s' W hH => ?_)
  obtain ⟨hp, ⟨ans, rfl, hm⟩ | ⟨rfl, hm⟩⟩ := hH
  · refine mloc_i hp ?_
    refine ⟨vpo, i2l_ok _, ?_⟩
    refine hX _ _ _ _ _ _ _ ?_
    exact hq 0 _ (HP.ok hm)
  · refine mloc_t hp ?_
    refine hX _ _ _ _ _ _ _ ?_
    exact hq 1 _ (HP.th hm (by omega))
set_option maxRecDepth 100000 in
theorem h_likely (h : IY (fun j => σ (mgl [(0, 176)] j)) σm) (hq : ∀ κ σ', HP 189 [.ref 0] σm σ' κ → Q (.inl (some (.int (nI κ)))) sh_9_J σ') : mD 58 367 [.ref 0, .ref 176] sh_9_J σ Q := by
  refine ⟨rfl, fun X hX => ?_⟩
  refine hX _ _ _ _ _ _ _ ?_
  refine lg_likely h (fun o s' W hH => ?_)
  obtain ⟨hp, ⟨ans, rfl, hm⟩ | ⟨rfl, hm⟩⟩ := hH
  · refine mloc_i hp ?_
    refine ⟨vpo, i2l_ok _, ?_⟩
    refine hX _ _ _ _ _ _ _ ?_
    exact hq 0 _ (HP.ok hm)
  · refine mloc_t hp ?_
    refine hX _ _ _ _ _ _ _ ?_
    exact hq 1 _ (HP.th hm (by omega))
set_option maxRecDepth 100000 in
theorem h_ask (h : IY (fun j => σ (mgl [(0, 176)] j)) σm) (hq : ∀ κ σ', HP 191 [.ref 0] σm σ' κ → Q (.inl (some (.int (nI κ)))) sh_9_J σ') : mD 58 368 [.ref 0, .ref 176] sh_9_J σ Q := by
  refine ⟨rfl, fun X hX => ?_⟩
  refine hX _ _ _ _ _ _ _ ?_
  refine lg_ask h (fun o s' W hH => ?_)
  obtain ⟨hp, ⟨ans, rfl, hm⟩ | ⟨rfl, hm⟩⟩ := hH
  · refine mloc_i hp ?_
    refine ⟨vpo, i2l_ok _, ?_⟩
    refine hX _ _ _ _ _ _ _ ?_
    exact hq 0 _ (HP.ok hm)
  · refine mloc_t hp ?_
    refine hX _ _ _ _ _ _ _ ?_
    exact hq 1 _ (HP.th hm (by omega))
set_option maxRecDepth 100000 in
theorem h_meshes (h : IY (fun j => σ (mgl [(0, 176)] j)) σm) (hu : u = (if bo = true then nI 1 else nI 0)) (hq : ∀ κ σ', HP 196 [.ref 0, .int u] σm σ' κ → Q (.inl (some (.int (nI κ)))) sh_9_J σ') : mD 58 369 [.ref 0, .int u, .ref 176] sh_9_J σ Q := by
  refine ⟨rfl, fun X hX => ?_⟩
  refine hX _ _ _ _ _ _ _ ?_
  refine lg_meshes h hu (fun o s' W hH => ?_)
  obtain ⟨hp, ⟨ans, rfl, hm⟩ | ⟨rfl, hm⟩⟩ := hH
  · refine mloc_i hp ?_
    refine ⟨vpo, i2l_ok _, ?_⟩
    refine hX _ _ _ _ _ _ _ ?_
    exact hq 0 _ (HP.ok hm)
  · refine mloc_t hp ?_
    refine hX _ _ _ _ _ _ _ ?_
    exact hq 1 _ (HP.th hm (by omega))
set_option maxRecDepth 100000 in
theorem h_sift (h : IY (fun j => σ (mgl [(0, 176)] j)) σm) (hq : ∀ κ σ', HP 197 [.ref 0] σm σ' κ → Q (.inl (some (.int (nI κ)))) sh_9_J σ') : mD 58 370 [.ref 0, .ref 176] sh_9_J σ Q := by
  refine ⟨rfl, fun X hX => ?_⟩
  refine hX _ _ _ _ _ _ _ ?_
  refine lg_sift h (fun o s' W hH => ?_)
  obtain ⟨hp, ⟨ans, rfl, hm⟩ | ⟨rfl, hm⟩⟩ := hH
  · refine mloc_i hp ?_
    refine ⟨vpo, i2l_ok _, ?_⟩
    refine hX _ _ _ _ _ _ _ ?_
    exact hq 0 _ (HP.ok hm)
  · refine mloc_t hp ?_
    refine hX _ _ _ _ _ _ _ ?_
    exact hq 1 _ (HP.th hm (by omega))
set_option maxRecDepth 100000 in
theorem h_pairs (h : IY (fun j => σ (mgl [(0, 176)] j)) σm) (hq : ∀ κ σ', HP 204 [.ref 0, .int p] σm σ' κ → Q (.inl (some (.int (nI κ)))) sh_9_J σ') : mD 58 371 [.ref 0, .int p, .ref 176] sh_9_J σ Q := by
  refine ⟨rfl, fun X hX => ?_⟩
  refine hX _ _ _ _ _ _ _ ?_
  refine lg_pairs h (fun o s' W hH => ?_)
  obtain ⟨hp, ⟨ans, rfl, hm⟩ | ⟨rfl, hm⟩⟩ := hH
  · refine mloc_i hp ?_
    refine ⟨vpo, i2l_ok _, ?_⟩
    refine hX _ _ _ _ _ _ _ ?_
    exact hq 0 _ (HP.ok hm)
  · refine mloc_t hp ?_
    refine hX _ _ _ _ _ _ _ ?_
    exact hq 1 _ (HP.th hm (by omega))
set_option maxRecDepth 100000 in
theorem h_share (h : IY (fun j => σ (mgl [(0, 176)] j)) σm) (hq : ∀ κ σ', HP 205 [.ref 0, .int p, .int w] σm σ' κ → Q (.inl (some (.int (nI κ)))) sh_9_J σ') : mD 58 372 [.ref 0, .int p, .int w, .ref 176] sh_9_J σ Q := by
  refine ⟨rfl, fun X hX => ?_⟩
  refine hX _ _ _ _ _ _ _ ?_
  refine lg_share h (fun o s' W hH => ?_)
  obtain ⟨hp, ⟨ans, rfl, hm⟩ | ⟨rfl, hm⟩ | ⟨rfl, hm⟩⟩ := hH
  · refine mloc_i hp ?_
    refine ⟨vpo, i2l_ok _, ?_⟩
    refine hX _ _ _ _ _ _ _ ?_
    exact hq 0 _ (HP.ok hm)
  · refine mloc_t hp ?_
    refine hX _ _ _ _ _ _ _ ?_
    exact hq 1 _ (HP.th hm (by omega))
  · refine mloc_t hp ?_
    refine hX _ _ _ _ _ _ _ ?_
    exact hq 2 _ (HP.th hm (by omega))
set_option maxRecDepth 100000 in
theorem h_rests (h : IY (fun j => σ (mgl [(0, 176)] j)) σm) (hq : ∀ κ σ', HP 208 [.ref 0, .int p] σm σ' κ → Q (.inl (some (.int (nI κ)))) sh_9_J σ') : mD 58 373 [.ref 0, .int p, .ref 176] sh_9_J σ Q := by
  refine ⟨rfl, fun X hX => ?_⟩
  refine hX _ _ _ _ _ _ _ ?_
  refine lg_rests h (fun o s' W hH => ?_)
  obtain ⟨hp, ⟨ans, rfl, hm⟩ | ⟨rfl, hm⟩⟩ := hH
  · refine mloc_i hp ?_
    refine ⟨vpo, i2l_ok _, ?_⟩
    refine hX _ _ _ _ _ _ _ ?_
    exact hq 0 _ (HP.ok hm)
  · refine mloc_t hp ?_
    refine hX _ _ _ _ _ _ _ ?_
    exact hq 1 _ (HP.th hm (by omega))
set_option maxRecDepth 100000 in
theorem h_odds (h : IY (fun j => σ (mgl [(0, 176)] j)) σm) (hq : ∀ κ σ', HP 209 [.ref 0, .int p, .int w] σm σ' κ → Q (.inl (some (.int (nI κ)))) sh_9_J σ') : mD 58 374 [.ref 0, .int p, .int w, .ref 176] sh_9_J σ Q := by
  refine ⟨rfl, fun X hX => ?_⟩
  refine hX _ _ _ _ _ _ _ ?_
  refine lg_odds h (fun o s' W hH => ?_)
  obtain ⟨hp, ⟨ans, rfl, hm⟩ | ⟨rfl, hm⟩⟩ := hH
  · refine mloc_i hp ?_
    refine ⟨vpo, i2l_ok _, ?_⟩
    refine hX _ _ _ _ _ _ _ ?_
    exact hq 0 _ (HP.ok hm)
  · refine mloc_t hp ?_
    refine hX _ _ _ _ _ _ _ ?_
    exact hq 1 _ (HP.th hm (by omega))
set_option maxRecDepth 100000 in
theorem h_most (h : IY (fun j => σ (mgl [(0, 176)] j)) σm) (hq : ∀ κ σ', HP 211 [.ref 0, .int w] σm σ' κ → Q (.inl (some (.int (nI κ)))) sh_9_J σ') : mD 58 375 [.ref 0, .int w, .ref 176] sh_9_J σ Q := by
  refine ⟨rfl, fun X hX => ?_⟩
  refine hX _ _ _ _ _ _ _ ?_
  refine lg_most h (fun o s' W hH => ?_)
  obtain ⟨hp, ⟨ans, rfl, hm⟩ | ⟨rfl, hm⟩⟩ := hH
  · refine mloc_i hp ?_
    refine ⟨vpo, i2l_ok _, ?_⟩
    refine hX _ _ _ _ _ _ _ ?_
    exact hq 0 _ (HP.ok hm)
  · refine mloc_t hp ?_
    refine hX _ _ _ _ _ _ _ ?_
    exact hq 1 _ (HP.th hm (by omega))
set_option maxRecDepth 100000 in
theorem h_wanted (h : IY (fun j => σ (mgl [(0, 176)] j)) σm) (hq : ∀ κ σ', HP 214 [.ref 0, .int p] σm σ' κ → Q (.inl (some (.int (nI κ)))) sh_9_J σ') : mD 58 376 [.ref 0, .int p, .ref 176] sh_9_J σ Q := by
  refine ⟨rfl, fun X hX => ?_⟩
  refine hX _ _ _ _ _ _ _ ?_
  refine lg_wanted h (fun o s' W hH => ?_)
  obtain ⟨hp, ⟨ans, rfl, hm⟩ | ⟨rfl, hm⟩⟩ := hH
  · refine mloc_i hp ?_
    refine ⟨vpo, i2l_ok _, ?_⟩
    refine hX _ _ _ _ _ _ _ ?_
    exact hq 0 _ (HP.ok hm)
  · refine mloc_t hp ?_
    refine hX _ _ _ _ _ _ _ ?_
    exact hq 1 _ (HP.th hm (by omega))
set_option maxRecDepth 100000 in
theorem h_ahead (h : IY (fun j => σ (mgl [(0, 176)] j)) σm) (hq : ∀ κ σ', HP 215 [.ref 0, .int p, .int w] σm σ' κ → Q (.inl (some (.int (nI κ)))) sh_9_J σ') : mD 58 377 [.ref 0, .int p, .int w, .ref 176] sh_9_J σ Q := by
  refine ⟨rfl, fun X hX => ?_⟩
  refine hX _ _ _ _ _ _ _ ?_
  refine lg_ahead h (fun o s' W hH => ?_)
  obtain ⟨hp, ⟨ans, rfl, hm⟩ | ⟨rfl, hm⟩ | ⟨rfl, hm⟩⟩ := hH
  · refine mloc_i hp ?_
    refine ⟨vpo, i2l_ok _, ?_⟩
    refine hX _ _ _ _ _ _ _ ?_
    exact hq 0 _ (HP.ok hm)
  · refine mloc_t hp ?_
    refine hX _ _ _ _ _ _ _ ?_
    exact hq 1 _ (HP.th hm (by omega))
  · refine mloc_t hp ?_
    refine hX _ _ _ _ _ _ _ ?_
    exact hq 2 _ (HP.th hm (by omega))
set_option maxRecDepth 100000 in
theorem h_trial (h : IY (fun j => σ (mgl [(0, 176)] j)) σm) (hu : u = (if bo = true then nI 1 else nI 0)) (hq : ∀ κ σ', HP 216 [.ref 0, .int p, .int u] σm σ' κ → Q (.inl (some (.int (nI κ)))) sh_9_J σ') : mD 58 378 [.ref 0, .int p, .int u, .ref 176] sh_9_J σ Q := by
  refine ⟨rfl, fun X hX => ?_⟩
  refine hX _ _ _ _ _ _ _ ?_
  refine lg_trial h hu (fun o s' W hH => ?_)
  obtain ⟨hp, ⟨ans, rfl, hm⟩ | ⟨rfl, hm⟩⟩ := hH
  · refine mloc_i hp ?_
    refine ⟨vpo, i2l_ok _, ?_⟩
    refine hX _ _ _ _ _ _ _ ?_
    exact hq 0 _ (HP.ok hm)
  · refine mloc_t hp ?_
    refine hX _ _ _ _ _ _ _ ?_
    exact hq 1 _ (HP.th hm (by omega))
set_option maxRecDepth 100000 in
theorem h_span (h : IY (fun j => σ (mgl [(0, 176)] j)) σm) (hu : u = (if bo = true then nI 1 else nI 0)) (hq : ∀ κ σ', HP 217 [.ref 0, .int p, .int u] σm σ' κ → Q (.inl (some (.int (nI κ)))) sh_9_J σ') : mD 58 379 [.ref 0, .int p, .int u, .ref 176] sh_9_J σ Q := by
  refine ⟨rfl, fun X hX => ?_⟩
  refine hX _ _ _ _ _ _ _ ?_
  refine lg_span h hu (fun o s' W hH => ?_)
  obtain ⟨hp, ⟨ans, rfl, hm⟩ | ⟨rfl, hm⟩⟩ := hH
  · refine mloc_i hp ?_
    refine ⟨vpo, i2l_ok _, ?_⟩
    refine hX _ _ _ _ _ _ _ ?_
    exact hq 0 _ (HP.ok hm)
  · refine mloc_t hp ?_
    refine hX _ _ _ _ _ _ _ ?_
    exact hq 1 _ (HP.th hm (by omega))
set_option maxRecDepth 100000 in
theorem h_led (h : IY (fun j => σ (mgl [(0, 176)] j)) σm) (hu : u = (if bo = true then nI 1 else nI 0)) (hq : ∀ κ σ', HP 219 [.ref 0, .int p, .int u] σm σ' κ → Q (.inl (some (.int (nI κ)))) sh_9_J σ') : mD 58 380 [.ref 0, .int p, .int u, .ref 176] sh_9_J σ Q := by
  refine ⟨rfl, fun X hX => ?_⟩
  refine hX _ _ _ _ _ _ _ ?_
  refine lg_led h hu (fun o s' W hH => ?_)
  obtain ⟨hp, ⟨ans, rfl, hm⟩ | ⟨rfl, hm⟩⟩ := hH
  · refine mloc_i hp ?_
    refine ⟨vpo, i2l_ok _, ?_⟩
    refine hX _ _ _ _ _ _ _ ?_
    exact hq 0 _ (HP.ok hm)
  · refine mloc_t hp ?_
    refine hX _ _ _ _ _ _ _ ?_
    exact hq 1 _ (HP.th hm (by omega))
set_option maxRecDepth 100000 in
theorem h_log (h : IY (fun j => σ (mgl [(0, 176)] j)) σm) (hq : ∀ κ σ', HP 220 [.ref 0, .int p, .int w] σm σ' κ → Q (.inl (some (.int (nI κ)))) sh_9_J σ') : mD 58 381 [.ref 0, .int p, .int w, .ref 176] sh_9_J σ Q := by
  refine ⟨rfl, fun X hX => ?_⟩
  refine hX _ _ _ _ _ _ _ ?_
  refine lg_log h (fun o s' W hH => ?_)
  obtain ⟨hp, ⟨ans, rfl, hm⟩ | ⟨rfl, hm⟩⟩ := hH
  · refine mloc_i hp ?_
    refine ⟨vpo, i2l_ok _, ?_⟩
    refine hX _ _ _ _ _ _ _ ?_
    exact hq 0 _ (HP.ok hm)
  · refine mloc_t hp ?_
    refine hX _ _ _ _ _ _ _ ?_
    exact hq 1 _ (HP.th hm (by omega))
set_option maxRecDepth 100000 in
theorem h_drop (h : IY σ σm) (hq : ∀ κ σ', HPv 164 [.ref 0, .int p] σm σ' κ → Q (.inl (some (.int (nI κ)))) sh_9 σ') : mD 58 356 [.ref 0, .int p] sh_9 σ Q := by
  refine ⟨rfl, fun X hX => ?_⟩
  refine hX _ _ _ _ _ _ _ ?_
  refine lg_drop h (fun o s' W hH => ?_)
  obtain ⟨rfl, ⟨rfl, hm⟩ | ⟨rfl, hm⟩ | ⟨rfl, hm⟩⟩ := hH
  · refine hX _ _ _ _ _ _ _ ?_
    exact hq 0 _ ⟨by omega, hm⟩
  · refine hX _ _ _ _ _ _ _ ?_
    exact hq 1 _ ⟨by omega, hm⟩
  · refine hX _ _ _ _ _ _ _ ?_
    exact hq 2 _ ⟨by omega, hm⟩
end HLP
