/-! THE MODEL: contracts that are worth the most -/
theorem bit_ss : ∀ K, K < 128 → ∀ k, k < 31 → (nI K >>> (nI k &&& 31)) &&& nI 1 = (if K.testBit k = true then nI 1 else nI 0) := by decide +kernel
theorem pb31 : ∀ K, K < 128 → pb K 31 = pb K 7 := by decide +kernel
section MDE
variable {d : Nat} {σ : mSg} {Q : mPst} {n nc ns nd : Nat} {sh : List mSh}
theorem g_bits {K : Nat} {x : Int32} (hx : x = nI K) (hK : K < 128) (hq : Q (.inl (some (.int (nI (pb K 7))))) sh σ) : mD (d + 1) 83 [.int x] sh σ Q := by
  subst hx
  rw [← pb31 K hK] at hq
  refine ⟨rfl, fun X hX => ?_⟩
  have loop : ∀ r k, 31 - k = r → k ≤ 31 → X 4 [some (.int (nI K)), some (.int (nI (pb K k))), some (.int (nI k))] [] sh σ 0 0 := by
    intro r
    induction r with
    | zero =>
      intro k hr hk
      have ek : k = 31 := by omega
      subst ek
      refine hX _ _ _ _ _ _ _ ?_
      refine b_ge rfl (b := 31) rfl (by omega) (by omega) (fun _ => ?_) (fun h => by omega)
      refine hX _ _ _ _ _ _ _ ?_
      exact hq
    | succ r ih =>
      intro k hr hk
      have h9 := ih (k + 1) (by omega) (by omega)
      have es := bit_ss K hK k (by omega)
      have ep : nI (pb K (k + 1)) = nI (pb K k) + ((nI K >>> (nI k &&& 31)) &&& nI 1) := by
        rw [es, pb]
        split
        · rw [nI_add]
        · rw [nI_add]
      refine hX _ _ _ _ _ _ _ ?_
      refine b_ge rfl (b := 31) rfl (by omega) (by omega) (fun h => by omega) (fun _ => ?_)
      rw [ep, ← nI_1 k] at h9
      exact h9
  refine hX _ _ _ _ _ _ _ ?_
  exact loop _ 0 rfl (Nat.zero_le _)
theorem add_n0 (x : Int32) : x + nI 0 = x := Int32.add_zero x
theorem g_paysOfSet {S : Nat} {x : Int32} (hx : x = nI S) (hS : S < 128) (hB : BD (σ 1) n nc ns nd) (hq : Q (.inl (some (.int (nI (pyN (σ 1) nd S))))) sh_10 σ) : mD (d + 3) 182 [.ref 0, .int x] sh_10 σ Q := by
  subst hx
  have hn := hB.2.2.2.1.2
  refine ⟨rfl, fun X hX => ?_⟩
  have loop : ∀ r k, nd - k = r → k ≤ nd → X 4 [some (.ref 0), some (.int (nI S)), some (.int (sPy (σ 1) S k)), some (.int (nI k))] [] sh_10 σ 0 0 := by
    intro r
    induction r with
    | zero =>
      intro k hr hk
      have ek : k = nd := by omega
      subst ek
      refine hX _ _ _ _ _ _ _ ?_
      refine ⟨vp_in_nI (n := 6) (by omega) (by omega), ?_⟩
      refine b_ge rfl hB.2.2.2.1.1 (by omega) (by omega) (fun _ => ?_) (fun h => by omega)
      refine hX _ _ _ _ _ _ _ ?_
      exact qi (pyN_ok hB).1.symm hq
    | succ r ih =>
      intro k hr hk
      have h9 := ih (k + 1) (by omega) (by omega)
      have es := bit_is S hS k (by omega)
      refine hX _ _ _ _ _ _ _ ?_
      refine ⟨vp_in_nI (n := 6) (by omega) (by omega), ?_⟩
      refine b_ge rfl hB.2.2.2.1.1 (by omega) (by omega) (fun h => by omega) (fun _ => ?_)
      refine g_isOf (fun ho => ?_) (fun ho => ?_)
      · have hb : S.testBit k = true := by
          cases hb : S.testBit k with
          | true => rfl
          | false => rw [hb, if_neg (by decide)] at es; rw [es] at ho; exact absurd ho (by decide +kernel)
        refine ⟨fun z => absurd z (by decide +kernel), fun _ => ?_⟩
        refine g_paysOf (by omega) ?_
        refine hX _ _ _ _ _ _ _ ?_
        rw [sPy, if_pos hb, ← nI_1 k] at h9
        exact h9
      · have hb : ¬ S.testBit k = true := by
          intro z
          rw [if_pos z] at es
          exact ho es
        refine ⟨fun _ => ?_, fun z => absurd rfl z⟩
        refine hX _ _ _ _ _ _ _ ?_
        refine hX _ _ _ _ _ _ _ ?_
        rw [sPy, if_neg hb, ← add_n0 (sPy (σ 1) S k), ← nI_1 k] at h9
        exact h9
  refine hX _ _ _ _ _ _ _ ?_
  exact loop _ 0 rfl (Nat.zero_le _)
/-- a truth as a number -/
def tv (x : Int32) (P : Prop) : Prop := (x = nI 1 ∧ P) ∨ (x = nI 0 ∧ ¬ P)
theorem g_areServed {S : Nat} (hS : S < 128) (hB : BD (σ 1) n nc ns nd) (q1 : svd (σ 1) nd S → Q (.inl (some (.int (nI 1)))) sh_10 σ) (q0 : ¬ svd (σ 1) nd S → Q (.inl (some (.int (nI 0)))) sh_10 σ) : mD (d + 4) 181 [.ref 0, .int (nI S)] sh_10 σ Q := by
  have hn := hB.2.2.2.1.2
  have h2n : 2 ^ nd ≤ 64 := Nat.pow_le_pow_right (by omega) hn
  refine ⟨rfl, fun X hX => ?_⟩
  have loop : ∀ r L x, 6 - L = r → L ≤ 6 → tv x (S &&& opN (σ 1) nd = S ∧ enP (σ 1) nd S L 0) → X 19 [some (.ref 0), some (.int (nI S)), some (.int x), some (.int (nI (L + 1))), none, none, none] [] sh_10 σ 0 0 := by
    intro r
    induction r with
    | zero =>
      intro L x hr hL hx
      have eL : L = 6 := by omega
      subst eL
      refine hX _ _ _ _ _ _ _ ?_
      refine b_gt rfl (b := 6) rfl (by omega) (by omega) (fun _ => ?_) (fun h => by omega)
      refine hX _ _ _ _ _ _ _ ?_
      rcases hx with ⟨rfl, h⟩ | ⟨rfl, h⟩
      · exact ⟨Or.inr rfl, q1 h⟩
      · exact ⟨Or.inl rfl, q0 h⟩
    | succ r ih =>
      intro L x hr hL hx
      have inner : ∀ s J x, 6 - L - J = s → J ≤ 6 - L → tv x (S &&& opN (σ 1) nd = S ∧ enP (σ 1) nd S L J) → X 28 [some (.ref 0), some (.int (nI S)), some (.int x), some (.int (nI (L + 1))), some (.int (nI (L + 1 + J))), none, none] [] sh_10 σ 0 0 := by
        intro s
        induction s with
        | zero =>
          intro J x hs hJ hx
          have eJ : J = 6 - L := by omega
          subst eJ
          refine hX _ _ _ _ _ _ _ ?_
          refine b_gt rfl (b := 6) rfl (by omega) (by omega) (fun _ => ?_) (fun h => by omega)
          refine hX _ _ _ _ _ _ _ ?_
          have h9 := ih (L + 1) x (by omega) (by omega) (by rw [← enP_n]; exact hx)
          rw [← nI_1 (L + 1)] at h9
          exact h9
        | succ s ih2 =>
          intro J x hs hJ hx
          have nxt : ∀ y, tv y (S &&& opN (σ 1) nd = S ∧ enP (σ 1) nd S L (J + 1)) → X 128 [some (.ref 0), some (.int (nI S)), none, some (.int (nI (L + 1))), some (.int (nI (L + 1 + J))), none, none] [.int y] sh_10 σ 0 0 := by
            intro y hy
            refine hX _ _ _ _ _ _ _ ?_
            have h9 := ih2 (J + 1) y (by omega) (by omega) hy
            rw [← Nat.add_assoc, ← nI_1 (L + 1 + J)] at h9
            exact h9
          have no : ¬ (S &&& opN (σ 1) nd = S ∧ enP (σ 1) nd S L (J + 1)) → X 127 [some (.ref 0), some (.int (nI S)), none, some (.int (nI (L + 1))), some (.int (nI (L + 1 + J))), none, none] [] sh_10 σ 0 0 := by
            intro h
            refine hX _ _ _ _ _ _ _ ?_
            exact nxt (nI 0) (Or.inr ⟨rfl, h⟩)
          have sum : ∀ t k, nd - k = t → k ≤ nd → X 41 [some (.ref 0), some (.int (nI S)), some (.int x), some (.int (nI (L + 1))), some (.int (nI (L + 1 + J))), some (.int (sWn (σ 1) S (L + 1) (L + 1 + J) k)), some (.int (nI k))] [] sh_10 σ 0 0 := by
            intro t
            induction t with
            | zero =>
              intro k ht hk
              have ek : k = nd := by omega
              rw [ek]
              refine hX _ _ _ _ _ _ _ ?_
              refine ⟨vp_in_nI (n := 6) (by omega) (by omega), ?_⟩
              refine b_ge rfl hB.2.2.2.1.1 (by omega) (by omega) (fun _ => ?_) (fun h => by omega)
              refine hX _ _ _ _ _ _ _ ?_
              rcases hx with ⟨rfl, hP⟩ | ⟨rfl, hP⟩
              · refine ⟨fun z => absurd z (by decide +kernel), fun _ => ?_⟩
                refine g_heapBetween (lo := L + 1) (hi := L + 1 + J) (by omega) (by omega) (by omega) ?_
                have eJ : L + 1 + J + 1 - (L + 1) = J + 1 := by omega
                refine ⟨fun h => no (fun z => ?_), fun h => ?_⟩
                · have h : sHS (σ 1) (L + 1) (L + 1 + J + 1 - (L + 1)) < sWn (σ 1) S (L + 1) (L + 1 + J) nd := h
                  rw [eJ] at h
                  exact absurd h (Int32.not_lt.mpr (enP_s.mp z.2).2)
                · have h : ¬ sHS (σ 1) (L + 1) (L + 1 + J + 1 - (L + 1)) < sWn (σ 1) S (L + 1) (L + 1 + J) nd := h
                  rw [eJ] at h
                  exact nxt (nI 1) (Or.inl ⟨rfl, hP.1, enP_s.mpr ⟨hP.2, Int32.not_lt.mp h⟩⟩)
              · refine ⟨fun _ => ?_, fun z => absurd rfl z⟩
                exact no (fun z => hP ⟨z.1, (enP_s.mp z.2).1⟩)
            | succ t ih3 =>
              intro k ht hk
              have h9 := ih3 (k + 1) (by omega) (by omega)
              obtain ⟨d1, d2, d3, d4, d5⟩ := hB.dl (show k < nd by omega)
              have es := bit_is S hS k (by omega)
              have no2 : ¬ ((L + 1 ≤ dLo (σ 1) k ∧ dHi (σ 1) k ≤ L + 1 + J) ∧ S.testBit k = true) → X 97 [some (.ref 0), some (.int (nI S)), some (.int x), some (.int (nI (L + 1))), some (.int (nI (L + 1 + J))), none, some (.int (nI k))] [.int (sWn (σ 1) S (L + 1) (L + 1 + J) k)] sh_10 σ 0 0 := by
                intro h
                refine hX _ _ _ _ _ _ _ ?_
                refine hX _ _ _ _ _ _ _ ?_
                rw [sWn, if_neg h, ← add_n0 (sWn (σ 1) S (L + 1) (L + 1 + J) k), ← nI_1 k] at h9
                exact h9
              refine hX _ _ _ _ _ _ _ ?_
              refine ⟨vp_in_nI (n := 6) (by omega) (by omega), ?_⟩
              refine b_ge rfl hB.2.2.2.1.1 (by omega) (by omega) (fun h => by omega) (fun _ => ?_)
              refine g_isOf (fun ho => ?_) (fun ho => ?_)
              · have hb : S.testBit k = true := by
                  cases hb : S.testBit k with
                  | true => rfl
                  | false => rw [hb, if_neg (by decide)] at es; rw [es] at ho; exact absurd ho (by decide +kernel)
                refine ⟨fun z => absurd z (by decide +kernel), fun _ => ?_⟩
                refine g_ofDeal (w := 0) (by omega) (by omega) ?_
                refine b_lt d1 rfl (by omega) (by omega) (fun h => no2 (fun z => by omega)) (fun h1 => ?_)
                refine g_ofDeal (w := 1) (by omega) (by omega) ?_
                refine b_gt d2 rfl (by omega) (by omega) (fun h => no2 (fun z => by omega)) (fun h2 => ?_)
                refine g_ofDeal (w := 2) (by omega) (by omega) ?_
                refine hX _ _ _ _ _ _ _ ?_
                rw [sWn, if_pos ⟨⟨h1, h2⟩, hb⟩, ← nI_1 k] at h9
                exact h9
              · refine ⟨fun _ => no2 (fun z => ?_), fun z => absurd rfl z⟩
                rw [if_pos z.2] at es
                exact ho es
          refine hX _ _ _ _ _ _ _ ?_
          refine b_gt rfl (b := 6) rfl (by omega) (by omega) (fun h => by omega) (fun _ => ?_)
          exact sum _ 0 rfl (Nat.zero_le _)
      refine hX _ _ _ _ _ _ _ ?_
      refine b_gt rfl (b := 6) rfl (by omega) (by omega) (fun h => by omega) (fun _ => ?_)
      exact inner _ 0 x rfl (by omega) hx
  have hO := sN_lt (P := opB (σ 1)) nd
  have eO := sSet_nI (P := opB (σ 1)) nd (by omega)
  have hno := bit_no S hS (opN (σ 1) nd) (by unfold opN; omega)
  have e0 : enP (σ 1) nd S 0 0 := fun l j hj => by omega
  refine hX _ _ _ _ _ _ _ ?_
  refine g_openOnes hB ?_
  by_cases h : S &&& opN (σ 1) nd = S
  · rw [decide_eq_true h] at hno
    refine ⟨fun z => absurd (show (nI S &&& (sSet (opB (σ 1)) nd ^^^ -(nI 1))) = 0 by rw [eO]; exact of_decide_eq_true hno) z, fun _ => ?_⟩
    refine hX _ _ _ _ _ _ _ ?_
    exact loop _ 0 (nI 1) rfl (by omega) (Or.inl ⟨rfl, h, e0⟩)
  · rw [decide_eq_false h] at hno
    refine ⟨fun _ => ?_, fun z => absurd (show (nI S &&& (sSet (opB (σ 1)) nd ^^^ -(nI 1))) = 0 from z) (by rw [eO]; exact of_decide_eq_false hno)⟩
    refine hX _ _ _ _ _ _ _ ?_
    refine hX _ _ _ _ _ _ _ ?_
    exact loop _ 0 (nI 0) rfl (by omega) (Or.inr ⟨rfl, fun z => h z.1⟩)
theorem g_mostServed (hB : BD (σ 1) n nc ns nd) (hq : Q (.inl (some (.int (nI (sBe (σ 1) nd (2 ^ nd)))))) sh_10 σ) : mD (d + 5) 183 [.ref 0] sh_10 σ Q := by
  have hn := hB.2.2.2.1.2
  have h2n : 2 ^ nd ≤ 64 := Nat.pow_le_pow_right (by omega) hn
  have e4 : nI 1 <<< (σ 1 6 &&& 31) = nI (2 ^ nd) := by rw [hB.2.2.2.1.1]; exact bit_one nd (by omega)
  refine ⟨rfl, fun X hX => ?_⟩
  have loop : ∀ r K, 2 ^ nd - K = r → K ≤ 2 ^ nd → 0 < K → X 4 [some (.ref 0), some (.int (nI (sBe (σ 1) nd K))), some (.int (nI K)), none] [] sh_10 σ 0 0 := by
    intro r
    induction r with
    | zero =>
      intro K hr hK hK0
      have eK : K = 2 ^ nd := by omega
      rw [eK]
      refine hX _ _ _ _ _ _ _ ?_
      refine ⟨vp_in_nI (n := 6) (by omega) (by omega), ?_⟩
      refine b_ge rfl e4 (by omega) (by omega) (fun _ => ?_) (fun h => by omega)
      refine hX _ _ _ _ _ _ _ ?_
      exact hq
    | succ r ih =>
      intro K hr hK hK0
      have h9 := ih (K + 1) (by omega) (by omega) (by omega)
      have hble := sBe_le (m := σ 1) (nd := nd) K
      have hpos := fun h => sBe_p (m := σ 1) (nd := nd) (K := K) h
      have hneg := fun h => sBe_n (m := σ 1) (nd := nd) (K := K) h
      generalize hb2 : sBe (σ 1) nd (K + 1) = b2 at hpos hneg h9
      generalize hb : sBe (σ 1) nd K = b at hpos hneg hble ⊢
      have pK := pyN_ok (S := K) hB
      have pB := pyN_ok (S := b) hB
      have lK := pb_le K (by omega)
      have lb := pb_le b (by omega)
      have keep : ¬ (btr (σ 1) nd K b ∧ svd (σ 1) nd K) → X 58 [some (.ref 0), some (.int (nI b)), some (.int (nI K)), none] [] sh_10 σ 0 0 := by
        intro h
        refine hX _ _ _ _ _ _ _ ?_
        rw [hneg h, ← nI_1 K] at h9
        exact h9
      have yes : btr (σ 1) nd K b → X 48 [some (.ref 0), some (.int (nI b)), some (.int (nI K)), none] [] sh_10 σ 0 0 := by
        intro h1
        refine hX _ _ _ _ _ _ _ ?_
        refine g_areServed (by omega) hB (fun hs => ?_) (fun hs => ?_)
        · refine ⟨fun z => absurd z (by decide +kernel), fun _ => ?_⟩
          refine hX _ _ _ _ _ _ _ ?_
          rw [hpos ⟨h1, hs⟩, ← nI_1 K] at h9
          exact h9
        · refine ⟨fun _ => ?_, fun z => absurd rfl z⟩
          exact keep (fun z => hs z.2)
      refine hX _ _ _ _ _ _ _ ?_
      refine ⟨vp_in_nI (n := 6) (by omega) (by omega), ?_⟩
      refine b_ge rfl e4 (by omega) (by omega) (fun h => by omega) (fun _ => ?_)
      refine g_paysOfSet rfl (show K < 128 by omega) hB ?_
      refine g_paysOfSet rfl (show b < 128 by omega) hB ?_
      refine ⟨fun h => ?_, fun h => ⟨fun h2 => ?_, fun h2 => ?_⟩⟩
      · have h : 0 < nI (pyN (σ 1) nd K) - nI (pyN (σ 1) nd b) := h
        rw [df_pos (by omega) (by omega)] at h
        exact yes (Or.inl h)
      · have h : ¬ 0 < nI (pyN (σ 1) nd K) - nI (pyN (σ 1) nd b) := h
        have h2 : ¬ nI (pyN (σ 1) nd K) - nI (pyN (σ 1) nd b) = 0 := h2
        rw [df_pos (by omega) (by omega)] at h
        rw [df_eq (by omega) (by omega)] at h2
        exact keep (fun z => by have := z.1; unfold btr at this; omega)
      · have h2 : nI (pyN (σ 1) nd K) - nI (pyN (σ 1) nd b) = 0 := h2
        rw [df_eq (by omega) (by omega)] at h2
        refine g_bits rfl (show K < 128 by omega) ?_
        refine g_bits rfl (show b < 128 by omega) ?_
        refine b_ge rfl rfl (by omega) (by omega) (fun h3 => keep (fun z => by have := z.1; unfold btr at this; omega)) (fun h3 => ?_)
        exact yes (Or.inr ⟨h2, h3⟩)
  have h9 := loop _ 1 rfl (Nat.one_le_two_pow) (by omega)
  rw [sBe1] at h9
  refine hX _ _ _ _ _ _ _ ?_
  exact h9
theorem g_worth (hB : BD (σ 1) n nc ns nd) (hq : ∀ σ', MX σ (σ 1) (nI 0) σ' → Q (.inl (some (.int (nI (pyN (σ 1) nd (sBe (σ 1) nd (2 ^ nd))))))) sh_10 σ') : mD (d + 6) 184 [.ref 0] sh_10 σ Q := by
  have hBt : BD (mput σ 0 0 (nI 0) 1) n nc ns nd := hB
  have hn := hB.2.2.2.1.2
  have h2n : 2 ^ nd ≤ 64 := Nat.pow_le_pow_right (by omega) hn
  have hble := sBe_le (m := σ 1) (nd := nd) (2 ^ nd)
  refine ⟨rfl, fun X hX => ?_⟩
  refine hX _ _ _ _ _ _ _ ?_
  refine g_mostServed hBt ?_
  refine g_paysOfSet rfl (show sBe (σ 1) nd (2 ^ nd) < 128 by omega) hBt ?_
  exact hq _ MX.th
theorem g_serves (hB : BD (σ 1) n nc ns nd) (hq : ∀ σ', MX σ (σ 1) (nI 0) σ' → Q (.inl (some (.int (nI (sBe (σ 1) nd (2 ^ nd)))))) sh_10 σ') : mD (d + 6) 185 [.ref 0] sh_10 σ Q := by
  have hBt : BD (mput σ 0 0 (nI 0) 1) n nc ns nd := hB
  refine ⟨rfl, fun X hX => ?_⟩
  refine hX _ _ _ _ _ _ _ ?_
  refine g_mostServed hBt ?_
  exact hq _ MX.th
end MDE
