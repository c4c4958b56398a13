/-! A PART OF THE WORLD, as a callee sees it -/
theorem mlo_gl : ∀ (rg : List (Nat × Nat)) (a j : Nat), mlo rg a = some j → mgl rg j = a ∧ j < mtot rg
  | [], a, j, h => by simp [mlo] at h
  | (k, n) :: r, a, j, h => by
    simp only [mlo] at h
    split at h
    · rename_i hb
      rw [Bool.and_eq_true] at hb
      have h1 : k ≤ a := Nat.le_of_ble_eq_true hb.1
      have h2 : a < k + n := Nat.le_of_ble_eq_true hb.2
      cases h
      have hb2 : Nat.blt (a - k) n = true := Nat.ble_eq_true_of_le (by omega)
      refine ⟨?_, by simp only [mtot]; omega⟩
      simp only [mgl, hb2]
      omega
    · split at h
      · rename_i j2 hj2
        cases h
        obtain ⟨h1, h2⟩ := mlo_gl r a j2 hj2
        have hb2 : Nat.blt (j2 + n) n = false := by
          cases hq : Nat.blt (j2 + n) n with
          | false => rfl
          | true => exact absurd (Nat.le_of_ble_eq_true hq) (by omega)
        refine ⟨?_, by simp only [mtot]; omega⟩
        simp only [mgl, hb2]
        rw [Nat.add_sub_cancel]; exact h1
      · cases h
theorem map1_out (k n : Nat) : ∀ (r : List (Nat × Nat)), map1 k n r = true → ∀ j, j < mtot r → mgl r j < k ∨ k + n ≤ mgl r j
  | [], _, j, h => by simp [mtot] at h
  | (k2, n2) :: r, hm, j, h => by
    simp only [map1, Bool.and_eq_true, Bool.or_eq_true] at hm
    simp only [mtot] at h
    simp only [mgl]
    split
    · rename_i hb
      have h1 : j < n2 := Nat.le_of_ble_eq_true hb
      rcases hm.1 with q | q
      · have := Nat.le_of_ble_eq_true q; right; omega
      · have := Nat.le_of_ble_eq_true q; left; omega
    · rename_i hb
      have h1 : n2 ≤ j := by
        rcases Nat.lt_or_ge j n2 with q | q
        · exact absurd (Nat.ble_eq_true_of_le q) (by rw [show Nat.ble (j + 1) n2 = Nat.blt j n2 from rfl, hb]; simp)
        · exact q
      exact map1_out k n r hm.2 (j - n2) (by omega)
theorem mgl_lo (N : Nat) : ∀ (rg : List (Nat × Nat)), mapt N rg = true → ∀ j, j < mtot rg → mlo rg (mgl rg j) = some j ∧ mgl rg j < N
  | [], _, j, h => by simp [mtot] at h
  | (k, n) :: r, hm, j, h => by
    simp only [mapt, Bool.and_eq_true] at hm
    simp only [mtot] at h
    have hN := Nat.le_of_ble_eq_true hm.1
    by_cases hj : j < n
    · have hb : Nat.blt j n = true := Nat.ble_eq_true_of_le hj
      have e : mgl ((k, n) :: r) j = k + j := by simp only [mgl, hb]
      rw [e]
      refine ⟨?_, by omega⟩
      have h1 : Nat.ble k (k + j) = true := Nat.ble_eq_true_of_le (by omega)
      have h2 : Nat.blt (k + j) (k + n) = true := Nat.ble_eq_true_of_le (by omega)
      simp only [mlo, h1, h2, Bool.and_self]
      rw [Nat.add_sub_cancel_left]
    · have hb : Nat.blt j n = false := by
        cases hq : Nat.blt j n with
        | false => rfl
        | true => exact absurd (Nat.le_of_ble_eq_true hq) hj
      have e : mgl ((k, n) :: r) j = mgl r (j - n) := by simp only [mgl, hb]
      rw [e]
      obtain ⟨h1, h2⟩ := mgl_lo N r hm.2.2 (j - n) (by omega)
      refine ⟨?_, h2⟩
      have ho := map1_out k n r hm.2.1 (j - n) (by omega)
      have h3 : (Nat.ble k (mgl r (j - n)) && Nat.blt (mgl r (j - n)) (k + n)) = false := by
        cases hq : (Nat.ble k (mgl r (j - n)) && Nat.blt (mgl r (j - n)) (k + n)) with
        | false => rfl
        | true =>
          rw [Bool.and_eq_true] at hq
          have a1 := Nat.le_of_ble_eq_true hq.1
          have a2 := Nat.le_of_ble_eq_true hq.2
          exact absurd ho (by omega)
      simp only [mlo, h3, h1]
      rw [Nat.sub_add_cancel (by omega)]
/-- addresses by the callee's numbers -/
def mal (rg : List (Nat × Nat)) (ad : Nat → Nat) : Nat → Nat := fun j => if 1000 ≤ j then ad j else ad (mgl rg j)
theorem mal_lo {rg : List (Nat × Nat)} {ad : Nat → Nat} {q j : Nat} (h : mlo rg q = some j) (hm : mtot rg ≤ 1000) : mal rg ad j = ad q := by
  obtain ⟨h1, h2⟩ := mlo_gl rg q j h
  unfold mal
  rw [if_neg (by omega), h1]
theorem mckF_eq {rg : List (Nat × Nat)} {ad : Nat → Nat} {f : Nat → Int32} (hm : mtot rg ≤ 1000) : ∀ (a b : List mFs) (i : Nat), mckF rg a b = true → mfv ad f i a = mfv (mal rg ad) f i b
  | [], [], _, _ => rfl
  | none :: a, none :: b, i, h => by simp only [mfv, mfe]; rw [mckF_eq hm a b (i + 1) h]
  | some none :: a, some none :: b, i, h => by simp only [mfv, mfe]; rw [mckF_eq hm a b (i + 1) h]
  | some (some q) :: a, some (some q2) :: b, i, h => by
    simp only [mckF] at h
    split at h
    · rename_i j hj
      rw [Bool.and_eq_true] at h
      have e := Nat.eq_of_beq_eq_true h.1
      subst e
      simp only [mfv, mfe]
      rw [mckF_eq hm a b (i + 1) h.2, mal_lo hj hm]
    · cases h
  | [], _ :: _, _, h => by simp [mckF] at h
  | _ :: _, [], _, h => by simp [mckF] at h
  | none :: _, some _ :: _, _, h => by simp [mckF] at h
  | some none :: _, none :: _, _, h => by simp [mckF] at h
  | some none :: _, some (some _) :: _, _, h => by simp [mckF] at h
  | some (some _) :: _, none :: _, _, h => by simp [mckF] at h
  | some (some _) :: _, some none :: _, _, h => by simp [mckF] at h
theorem mckR_eq {rg : List (Nat × Nat)} {ad : Nat → Nat} (hm : mtot rg ≤ 1000) : ∀ (a b : List (Option Nat)), mckR rg a b = true → a.length = b.length ∧ ∀ i : Nat, ((a[i]?).getD none).map ad = ((b[i]?).getD none).map (mal rg ad)
  | [], [], _ => ⟨rfl, fun _ => rfl⟩
  | none :: a, none :: b, h => by
    obtain ⟨h1, h2⟩ := mckR_eq hm a b h
    exact ⟨by simp [h1], fun i => by cases i with | zero => rfl | succ i => simpa using h2 i⟩
  | some q :: a, some q2 :: b, h => by
    simp only [mckR] at h
    split at h
    · rename_i j hj
      rw [Bool.and_eq_true] at h
      have e := Nat.eq_of_beq_eq_true h.1
      subst e
      obtain ⟨h1, h2⟩ := mckR_eq hm a b h.2
      exact ⟨by simp [h1], fun i => by cases i with | zero => simp [mal_lo hj hm] | succ i => simpa using h2 i⟩
    · cases h
  | [], _ :: _, h => by simp [mckR] at h
  | _ :: _, [], h => by simp [mckR] at h
  | none :: _, some _ :: _, h => by simp [mckR] at h
  | some _ :: _, none :: _, h => by simp [mckR] at h
theorem mck1_eq {cy : mCy} {rg : List (Nat × Nat)} {ad : Nat → Nat} (hm : mtot rg ≤ 1000) {o : Option mSh} {s : mSh} (h : mck1 rg o s = true) : ∃ s0, o = some s0 ∧ ∀ f, mce cy ad s0 f = mce cy (mal rg ad) s f := by
  rcases o with _ | (⟨c, fs⟩ | n1 | n2 | rs) <;> rcases s with ⟨c', fs'⟩ | m1 | m2 | rs' <;> simp only [mck1, Bool.and_eq_true, Bool.false_eq_true] at h
  · have e := Nat.eq_of_beq_eq_true h.1
    subst e
    exact ⟨_, rfl, fun f => by simp only [mce]; rw [mckF_eq hm fs fs' 0 h.2]⟩
  · have e := Nat.eq_of_beq_eq_true h
    subst e
    exact ⟨_, rfl, fun f => rfl⟩
  · have e := Nat.eq_of_beq_eq_true h
    subst e
    exact ⟨_, rfl, fun f => rfl⟩
  · obtain ⟨h1, h2⟩ := mckR_eq (ad := ad) hm rs rs' h
    refine ⟨_, rfl, fun f => ?_⟩
    have e : (fun i : Nat => ((rs[i]?).getD none).map ad) = fun i : Nat => ((rs'[i]?).getD none).map (mal rg ad) := funext h2
    simp only [mce, e, h1]
theorem mckA_eq {cy : mCy} {rg : List (Nat × Nat)} {ad : Nat → Nat} {sh : List mSh} (hm : mtot rg ≤ 1000) : ∀ (l : List mSh) (i : Nat), mckA rg sh i l = true → ∀ (j : Nat) (s : mSh), l[j]? = some s → ∃ s0, sh[mgl rg (i + j)]? = some s0 ∧ ∀ f, mce cy ad s0 f = mce cy (mal rg ad) s f
  | [], _, _, j, s, h => by simp at h
  | x :: l, i, hc, 0, s, h => by
    simp only [mckA, Bool.and_eq_true] at hc
    rw [List.getElem?_cons_zero] at h
    cases h
    obtain ⟨s0, h1, h2⟩ := mck1_eq (cy := cy) (ad := ad) hm hc.1
    exact ⟨s0, by rw [Nat.add_zero, ← mnx_eq]; exact h1, h2⟩
  | x :: l, i, hc, j + 1, s, h => by
    simp only [mckA, Bool.and_eq_true] at hc
    rw [List.getElem?_cons_succ] at h
    obtain ⟨s0, h1, h2⟩ := mckA_eq hm l (i + 1) hc.2 j s h
    exact ⟨s0, by rw [show i + (j + 1) = i + 1 + j by omega]; exact h1, h2⟩
theorem mck_spec {rg : List (Nat × Nat)} {sh shl : List mSh} (h : mck rg sh shl = true) : mtot rg = shl.length ∧ mtot rg ≤ 1000 ∧ mapt sh.length rg = true ∧ mckA rg sh 0 shl = true := by
  simp only [mck, Bool.and_eq_true] at h
  exact ⟨Nat.eq_of_beq_eq_true h.1.1, Nat.le_of_ble_eq_true h.1.2.1, h.1.2.2, h.2⟩
/-- the callee's world -/
theorem mpart_P {cy : mCy} {D : va_G} {cl : List vw_C} {rg : List (Nat × Nat)} {ad : Nat → Nat} {σ : mSg} {sh shl : List mSh} {H : Heap} (h : mck rg sh shl = true) (hP : va_P D cl (mwd cy ad σ 0 sh) H) : va_P D cl (mwd cy (mal rg ad) (fun j => σ (mgl rg j)) 0 shl) H := by
  obtain ⟨h1, h2, h3, h4⟩ := mck_spec h
  intro k q hk
  obtain ⟨s, hs, rfl⟩ := mwd_of hk
  have hkl := (List.getElem?_eq_some_iff.mp hs).1
  obtain ⟨s0, hs0, he⟩ := mckA_eq (cy := cy) (ad := ad) h2 shl 0 h4 k s hs
  rw [Nat.zero_add] at hs0
  have hq := hP _ _ (mwd_at (cy := cy) (ad := ad) (σ := σ) hs0)
  have ea : mal rg ad k = ad (mgl rg k) := by unfold mal; rw [if_neg (by omega)]
  rw [ea, ← he]
  exact hq
theorem mpart_D {cy : mCy} {A B : Nat → Prop} {rg : List (Nat × Nat)} {ad : Nat → Nat} {σ σ2 : mSg} {sh shl : List mSh} (h : mck rg sh shl = true) (hD : va_D A (mwd cy ad σ 0 sh)) (hAB : ∀ k, k < shl.length → A (ad (mgl rg k)) → B (ad (mgl rg k))) : va_D B (mwd cy (mal rg ad) σ2 0 shl) := by
  obtain ⟨h1, h2, h3, h4⟩ := mck_spec h
  have key : ∀ k, k < shl.length → mal rg ad k = ad (mgl rg k) ∧ mgl rg k < sh.length ∧ mlo rg (mgl rg k) = some k := fun k hk => by
    obtain ⟨a1, a2⟩ := mgl_lo sh.length rg h3 k (by omega)
    exact ⟨by unfold mal; rw [if_neg (by omega)], a2, a1⟩
  refine ⟨fun i j p q hp hq e => ?_, fun k q hq => ?_⟩
  · obtain ⟨s, hs, rfl⟩ := mwd_of hp
    obtain ⟨s', hs', rfl⟩ := mwd_of hq
    obtain ⟨a1, a2, a3⟩ := key i (List.getElem?_eq_some_iff.mp hs).1
    obtain ⟨b1, b2, b3⟩ := key j (List.getElem?_eq_some_iff.mp hs').1
    have e2 : ad (mgl rg i) = ad (mgl rg j) := by rw [← a1, ← b1]; exact e
    have e3 := mD_inj hD a2 b2 e2
    rw [e3, b3] at a3
    exact (Option.some.inj a3).symm
  · obtain ⟨s, hs, rfl⟩ := mwd_of hq
    have hk := (List.getElem?_eq_some_iff.mp hs).1
    obtain ⟨a1, a2, -⟩ := key k hk
    show B (mal rg ad k)
    rw [a1]
    refine hAB k hk ?_
    exact hD.2 _ _ (mwd_at (List.getElem?_eq_getElem a2))
/-- behind the callee: its cells as it left them, the others as they were -/
theorem mpart_back {cy : mCy} {D : va_G} {cl : List vw_C} {A : Nat → Prop} {rg : List (Nat × Nat)} {ad ad2 : Nat → Nat} {σ σ2 : mSg} {sh shl sh2 : List mSh} {H H1 : Heap} (h : mck rg sh shl = true) (hP : va_P D cl (mwd cy ad σ 0 sh) H) (hD : va_D A (mwd cy ad σ 0 sh))
    (hk : ∀ q : Nat, q < H.size → ¬ va_A (mwd cy (mal rg ad) (fun j => σ (mgl rg j)) 0 shl) H.size q → H1[q]? = H[q]?) (hpre : ∀ (j : Nat) (s : mSh), shl[j]? = some s → sh2[j]? = some s) (had : ∀ i, (i < shl.length ∨ 1000 ≤ i) → ad2 i = mal rg ad i) (hrefs : ∀ (j : Nat) (s : mSh), shl[j]? = some s → ∀ f, mce cy ad2 s f = mce cy (mal rg ad) s f)
    (hP1 : va_P D cl (mwd cy ad2 σ2 0 sh2) H1) : va_P D cl (mwd cy ad (mback rg σ σ2) 0 sh) H1 := by
  obtain ⟨h1, h2, h3, h4⟩ := mck_spec h
  intro k q hkq
  obtain ⟨s, hs, rfl⟩ := mwd_of hkq
  have hkl := (List.getElem?_eq_some_iff.mp hs).1
  cases hm : mlo rg k with
  | some j =>
    obtain ⟨g1, g2⟩ := mlo_gl rg k j hm
    have hj : j < shl.length := by omega
    obtain ⟨s0, hs0, he⟩ := mckA_eq (cy := cy) (ad := ad) h2 shl 0 h4 j _ (List.getElem?_eq_getElem hj)
    rw [Nat.zero_add, g1, hs] at hs0
    cases hs0
    have hq := hP1 _ _ (mwd_at (cy := cy) (ad := ad2) (σ := σ2) (hpre j _ (List.getElem?_eq_getElem hj)))
    have ea : ad2 j = ad k := by rw [had j (Or.inl hj), mal_lo hm h2]
    have eb : mback rg σ σ2 k = σ2 j := by unfold mback; rw [hm]
    rw [eb, he, ← hrefs j _ (List.getElem?_eq_getElem hj), ← ea]
    exact hq
  | none =>
    have eb : mback rg σ σ2 k = σ k := by unfold mback; rw [hm]
    rw [eb]
    have hat := hP k _ (mwd_at (cy := cy) (ad := ad) (σ := σ) hs)
    refine hat.kept (hk _ hat.lt ?_)
    rintro (⟨j, e, hj⟩ | hsz)
    · obtain ⟨s', hs', e'⟩ := mwd_of hj
      have hjl := (List.getElem?_eq_some_iff.mp hs').1
      obtain ⟨a1, a2⟩ := mgl_lo sh.length rg h3 j (by omega)
      have ea : ad k = ad (mgl rg j) := by
        have e2 := congrArg Prod.fst e'
        have e3 : mal rg ad j = ad (mgl rg j) := by unfold mal; rw [if_neg (by omega)]
        rw [← e3]; exact e2
      have e4 := mD_inj hD hkl a2 ea
      rw [e4, a1] at hm
      cases hm
    · exact absurd hat.lt (Nat.not_lt.mpr hsz)
