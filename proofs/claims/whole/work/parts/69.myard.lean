/-! THE MODEL: lines of the yard -/
section EST
variable {t : Nat → Int32} {n b : Nat} {w : List Nat} {k : Nat → yR} {kn : Int32 → Nat → yR} {o : yR} {lo hi : Int32}
theorem eW_y (h : wB t n b w = true) : eW t n w b k = k (nx t n b) := if_pos h
theorem eW_n (h : ¬ wB t n b w = true) : eW t n w b k = .inr b := if_neg h
theorem eO_y (h : wB t n b w = true) : eO t n w b k o = k (nx t n b) := if_pos h
theorem eO_n (h : ¬ wB t n b w = true) : eO t n w b k o = o := if_neg h
theorem eN_y (h : nB t n b lo hi = true) : eN t n lo hi b kn = kn (nV t n b) (nx t n b) := if_pos h
theorem eN_n (h : ¬ nB t n b lo hi = true) : eN t n lo hi b kn = .inr b := if_neg h
theorem eF_y (h : run kD t n b = b + 6) : eF t n b k = k (nx t n b) := if_pos h
theorem eF_n (h : ¬ run kD t n b = b + 6) : eF t n b k = .inr b := if_neg h
/-- a word and a number behind it -/
theorem eA_n (h : ¬ (wB t n b w = true ∧ nB t n (nx t n b) lo hi = true)) : eW t n w b (fun b1 => eN t n lo hi b1 kn) = .inr (aE t n b w) := by
  unfold aE
  by_cases h1 : wB t n b w = true
  · rw [if_pos h1, eW_y h1, eN_n (fun z => h ⟨h1, z⟩)]
  · rw [if_neg h1, eW_n h1]
theorem aE_le (h : b ≤ n) : aE t n b w ≤ n := by
  unfold aE
  split
  · exact nx_le h
  · exact h
end EST
section MYD
variable {d : Nat} {σ0 σ : mSg} {m : Nat → Int32} {t : Nat → Int32} {n p : Nat} {Q : mPst}
/-- behind a line that is read -/
def YQ (σ0 : mSg) (t : Nat → Int32) (n : Nat) (m : Nat → Int32) (Q : mPst) (r : yR) : Prop := (∀ b' m', r = .inl (b', m') → ∀ σ' p', p' ≤ n → sk t n p' = b' → PS (mM σ0 m') σ' p' (-(nI 1)) 0 → Q (.inl none) sh_10 σ') ∧ (∀ e, r = .inr e → ∀ σ' p', p' ≤ n → PS (mM σ0 m) σ' p' (nI e) 0 → Q (.inl none) sh_10 σ')
theorem g_hiresP {c dp : Nat} {a b fl : Int32} (h4 : m 4 = nI c) (hc : c < 3) (hP : PS (mM σ0 m) σ p fl dp) (hq : ∀ σ', PS (mM σ0 (yaC m c a b)) σ' p fl dp → Q (.inl none) sh_10 σ') : mD (d + 1) 108 [.ref 0, .int a, .int b] sh_10 σ Q := by
  have h := g_hires (d := d) (σ := σ) (f := m) (a := a) (b := b) h4 hc (hq _ hP.row)
  rw [hP.rowE] at h
  exact h
theorem g_buysP {c dp : Nat} {a fl : Int32} (h4 : m 5 = nI c) (hc : c < 4) (hP : PS (mM σ0 m) σ p fl dp) (hq : ∀ σ', PS (mM σ0 (yaM m c a)) σ' p fl dp → Q (.inl none) sh_10 σ') : mD (d + 1) 110 [.ref 0, .int a] sh_10 σ Q := by
  have h := g_buys (d := d) (σ := σ) (f := m) (a := a) h4 hc (hq _ hP.row)
  rw [hP.rowE] at h
  exact h
theorem g_takesP {c dp : Nat} {a b e g fl : Int32} (h4 : m 6 = nI c) (hc : c < 6) (hP : PS (mM σ0 m) σ p fl dp) (hq : ∀ σ', PS (mM σ0 (yaD m c a b e g)) σ' p fl dp → Q (.inl none) sh_10 σ') : mD (d + 1) 112 [.ref 0, .int a, .int b, .int e, .int g] sh_10 σ Q := by
  have h := g_takes (d := d) (σ := σ) (f := m) (a1 := a) (a2 := b) (a3 := e) (a4 := g) h4 hc (hq _ hP.row)
  rw [hP.rowE] at h
  exact h
theorem sk_run {b : Nat} {lo hi : Int32} (h : nB t n b lo hi = true) : sk t n (run kD t n b) = nx t n b := by
  show _ = sk t n (te t n b)
  rw [nB_te h]
theorem g_cartLine {bb c : Nat} (hT : ∀ m, TX (mM σ0 m) t n) (hbb : bb ≤ n) (h4 : m 4 = nI c) (hc : c ≤ 3) (hp : p ≤ n) (hP : PS (mM σ0 m) σ p (-(nI 1)) 0) (hq : YQ σ0 t n m Q (if m 4 = nI 3 then .inr bb else yCart t n (sk t n p) m)) : mD (d + 6) 107 [.ref 0, .int (nI bb)] sh_10 σ Q := by
  have hn := (hT m).2.1
  refine ⟨rfl, fun X hX => ?_⟩
  have e4 : σ 1 4 = nI c := hP.r1.trans h4
  refine hX _ _ _ _ _ _ _ ?_
  refine ⟨vp_in_nI (n := 4) (by omega) (by omega), ?_⟩
  refine b_ne e4 (b := 3) rfl (by omega) (by omega) (fun h => ?_) (fun h => ?_)
  · rw [if_neg (by rw [h4, nI_eq (by omega) (by omega)]; exact h)] at hq
    have hs := sk_le (t := t) hp
    generalize hb : sk t n p = b at *
    have hnl := nx_le (t := t) hs
    have hnl2 := nx_le (t := t) hnl
    have hnl3 := nx_le (t := t) hnl2
    unfold yCart at hq
    refine hX _ _ _ _ _ _ _ ?_
    refine g_after_79 (lo := nI 1) (hi := nI 9) (hT m) hP hp (fun w1 n1 σ1 P1 => ?_) (fun hw σ1 p1 v1 hp1 P1 => ?_)
    · rw [hb] at w1 n1 P1 ⊢
      simp only [eW_y w1, eN_y n1] at hq
      have enx := sk_run n1
      refine g_after_80 (lo := nI 1) (hi := nI 99) (hT m) P1 (run_le hnl) (fun w2 n2 σ2 P2 => ?_) (fun hw σ2 p2 v2 hp2 P2 => ?_)
      · rw [enx] at w2 n2 P2 ⊢
        simp only [eW_y w2, eN_y n2] at hq
        refine ⟨fun h => absurd P2.2.2.1 h, fun _ => ?_⟩
        refine g_hiresP h4 (by omega) P2 ?_
        intro σ3 P3
        refine hX _ _ _ _ _ _ _ ?_
        rw [cN_eq h4 (by omega)] at hq
        exact hq.1 _ _ rfl σ3 _ (run_le hnl3) (sk_run n2) P3
      · rw [enx] at hw P2
        have := aE_le (t := t) (w := [103, 111, 101, 115]) hnl2
        rw [eA_n hw] at hq
        refine ⟨fun _ => ?_, fun h => absurd (P2.2.2.1.symm.trans h) (nI_ne1 (by omega))⟩
        refine hX _ _ _ _ _ _ _ ?_
        exact hq.2 _ rfl σ2 p2 hp2 P2
    · rw [hb] at hw P1
      have := aE_le (t := t) (w := [104, 111, 108, 100]) hs
      rw [eA_n hw] at hq
      refine g_afterF_80 (nI_ne1 (by omega)) P1 ?_
      refine ⟨fun _ => ?_, fun h => absurd (P1.2.2.1.symm.trans h) (nI_ne1 (by omega))⟩
      refine hX _ _ _ _ _ _ _ ?_
      exact hq.2 _ rfl σ1 p1 hp1 P1
  · rw [if_pos (by rw [h4, h])] at hq
    refine g_wrong rfl hP ?_
    intro σ1 P1
    refine hX _ _ _ _ _ _ _ ?_
    refine g_afterF_79 (nI_ne1 (by omega)) P1 ?_
    refine g_afterF_80 (nI_ne1 (by omega)) P1 ?_
    refine ⟨fun _ => ?_, fun h => absurd (P1.2.2.1.symm.trans h) (nI_ne1 (by omega))⟩
    refine hX _ _ _ _ _ _ _ ?_
    exact hq.2 _ rfl σ1 p hp P1
theorem g_sieveLine {bb c : Nat} (hT : ∀ m, TX (mM σ0 m) t n) (hbb : bb ≤ n) (h4 : m 5 = nI c) (hc : c ≤ 4) (hp : p ≤ n) (hP : PS (mM σ0 m) σ p (-(nI 1)) 0) (hq : YQ σ0 t n m Q (if m 5 = nI 4 then .inr bb else ySieve t n (sk t n p) m)) : mD (d + 6) 109 [.ref 0, .int (nI bb)] sh_10 σ Q := by
  have hn := (hT m).2.1
  refine ⟨rfl, fun X hX => ?_⟩
  have e4 : σ 1 5 = nI c := hP.r1.trans h4
  refine hX _ _ _ _ _ _ _ ?_
  refine ⟨vp_in_nI (n := 5) (by omega) (by omega), ?_⟩
  refine b_ne e4 (b := 4) rfl (by omega) (by omega) (fun h => ?_) (fun h => ?_)
  · rw [if_neg (by rw [h4, nI_eq (by omega) (by omega)]; exact h)] at hq
    have hs := sk_le (t := t) hp
    generalize hb : sk t n p = b at *
    have hnl := nx_le (t := t) hs
    unfold ySieve at hq
    refine hX _ _ _ _ _ _ _ ?_
    refine g_figures (lo := nI 2) (hi := nI 6) (hT m) hP hp (fun n1 σ1 P1 => ?_) (fun hw σ1 p1 v1 hp1 P1 => ?_)
    · rw [hb] at n1 P1 ⊢
      simp only [eN_y n1] at hq
      refine ⟨fun h => absurd P1.2.2.1 h, fun _ => ?_⟩
      refine g_buysP h4 (by omega) P1 ?_
      intro σ3 P3
      refine hX _ _ _ _ _ _ _ ?_
      rw [cN_eq h4 (by omega)] at hq
      exact hq.1 _ _ rfl σ3 _ (run_le hs) (sk_run n1) P3
    · rw [hb] at hw P1
      rw [eN_n hw] at hq
      refine ⟨fun _ => ?_, fun h => absurd (P1.2.2.1.symm.trans h) (nI_ne1 (by omega))⟩
      refine hX _ _ _ _ _ _ _ ?_
      exact hq.2 _ rfl σ1 p1 hp1 P1
  · rw [if_pos (by rw [h4, h])] at hq
    refine g_wrong rfl hP ?_
    intro σ1 P1
    refine hX _ _ _ _ _ _ _ ?_
    refine g_figF (nI_ne1 (by omega)) P1 ?_
    refine ⟨fun _ => ?_, fun h => absurd (P1.2.2.1.symm.trans h) (nI_ne1 (by omega))⟩
    refine hX _ _ _ _ _ _ _ ?_
    exact hq.2 _ rfl σ1 p hp P1
set_option maxHeartbeats 8000000 in
theorem g_dealLine {bb c : Nat} (hT : ∀ m, TX (mM σ0 m) t n) (hbb : bb ≤ n) (h4 : m 6 = nI c) (hc : c ≤ 6) (hp : p ≤ n) (hP : PS (mM σ0 m) σ p (-(nI 1)) 0) (hq : YQ σ0 t n m Q (if m 6 = nI 6 then .inr bb else yDeal t n (sk t n p) m)) : mD (d + 6) 111 [.ref 0, .int (nI bb)] sh_10 σ Q := by
  have hn := (hT m).2.1
  refine ⟨rfl, fun X hX => ?_⟩
  have e4 : σ 1 6 = nI c := hP.r1.trans h4
  refine hX _ _ _ _ _ _ _ ?_
  refine ⟨vp_in_nI (n := 6) (by omega) (by omega), ?_⟩
  refine b_ne e4 (b := 6) rfl (by omega) (by omega) (fun h => ?_) (fun h => ?_)
  · rw [if_neg (by rw [h4, nI_eq (by omega) (by omega)]; exact h)] at hq
    have hs := sk_le (t := t) hp
    generalize hb : sk t n p = b at *
    have l1 := nx_le (t := t) hs
    have l2 := nx_le (t := t) l1
    have l3 := nx_le (t := t) l2
    have l4 := nx_le (t := t) l3
    have l5 := nx_le (t := t) l4
    have l6 := nx_le (t := t) l5
    unfold yDeal at hq
    refine hX _ _ _ _ _ _ _ ?_
    refine g_figures (lo := nI 1) (hi := nI 6) (hT m) hP hp (fun n1 σ1 P1 => ?_) (fun hw σ1 p1 v1 hp1 P1 => ?_)
    · rw [hb] at n1 P1 ⊢
      simp only [eN_y n1] at hq
      obtain ⟨q1, hq1, hq2, eq1⟩ := nB_val n1 (by omega) (by omega)
      have emx : sMax (nI 1) (nV t n b) = nV t n b := by
        rw [eq1]; unfold sMax
        rw [if_neg (nI_nlt hq1 (by omega))]
      refine g_greater ?_
      have hlo : ∀ z, z = nV t n b → z = nV t n b := fun z h => h
      refine g_afterE_83 (lo := nV t n b) (hi := nI 6) emx (hT m) P1 (run_le hs) (fun w2 n2 σ2 P2 => ?_) (fun hw σ2 p2 v2 hp2 P2 => ?_)
      · rw [sk_run n1] at w2 n2 P2 ⊢
        simp only [eW_y w2, eN_y n2] at hq
        refine g_after_84 (lo := nI 1) (hi := nI 99) (hT m) P2 (run_le l2) (fun w3 n3 σ3 P3 => ?_) (fun hw σ3 p3 v3 hp3 P3 => ?_)
        · rw [sk_run n2] at w3 n3 P3 ⊢
          simp only [eW_y w3, eN_y n3] at hq
          refine g_after_85 (lo := nI 0) (hi := nI 9) (hT m) P3 (run_le l4) (fun w4 n4 σ4 P4 => ?_) (fun hw σ4 p4 v4 hp4 P4 => ?_)
          · rw [sk_run n3] at w4 n4 P4 ⊢
            simp only [eW_y w4, eN_y n4] at hq
            refine ⟨fun h => absurd P4.2.2.1 h, fun _ => ?_⟩
            refine g_takesP h4 (by omega) P4 ?_
            intro σ5 P5
            refine hX _ _ _ _ _ _ _ ?_
            rw [cN_eq h4 (by omega)] at hq
            exact hq.1 _ _ rfl σ5 _ (run_le l6) (sk_run n4) P5
          · rw [sk_run n3] at hw P4
            have := aE_le (t := t) (w := [112, 97, 121, 115]) l5
            rw [eA_n hw] at hq
            refine ⟨fun _ => ?_, fun h => absurd (P4.2.2.1.symm.trans h) (nI_ne1 (by omega))⟩
            refine hX _ _ _ _ _ _ _ ?_
            exact hq.2 _ rfl σ4 p4 hp4 P4
        · rw [sk_run n2] at hw P3
          have := aE_le (t := t) (w := [109, 97, 110, 121]) l3
          rw [eA_n hw] at hq
          refine g_afterF_85 (nI_ne1 (by omega)) P3 ?_
          refine ⟨fun _ => ?_, fun h => absurd (P3.2.2.1.symm.trans h) (nI_ne1 (by omega))⟩
          refine hX _ _ _ _ _ _ _ ?_
          exact hq.2 _ rfl σ3 p3 hp3 P3
      · rw [sk_run n1] at hw P2
        have := aE_le (t := t) (w := [116, 111]) l1
        rw [eA_n hw] at hq
        refine g_afterF_84 (nI_ne1 (by omega)) P2 ?_
        refine g_afterF_85 (nI_ne1 (by omega)) P2 ?_
        refine ⟨fun _ => ?_, fun h => absurd (P2.2.2.1.symm.trans h) (nI_ne1 (by omega))⟩
        refine hX _ _ _ _ _ _ _ ?_
        exact hq.2 _ rfl σ2 p2 hp2 P2
    · rw [hb] at hw P1
      rw [eN_n hw] at hq
      refine g_greater ?_
      refine g_afterF_83 (nI_ne1 (by omega)) P1 ?_
      refine g_afterF_84 (nI_ne1 (by omega)) P1 ?_
      refine g_afterF_85 (nI_ne1 (by omega)) P1 ?_
      refine ⟨fun _ => ?_, fun h => absurd (P1.2.2.1.symm.trans h) (nI_ne1 (by omega))⟩
      refine hX _ _ _ _ _ _ _ ?_
      exact hq.2 _ rfl σ1 p1 hp1 P1
  · rw [if_pos (by rw [h4, h])] at hq
    refine g_wrong rfl hP ?_
    intro σ1 P1
    refine hX _ _ _ _ _ _ _ ?_
    refine g_figF (nI_ne1 (by omega)) P1 ?_
    refine g_greater ?_
    refine g_afterF_83 (nI_ne1 (by omega)) P1 ?_
    refine g_afterF_84 (nI_ne1 (by omega)) P1 ?_
    refine g_afterF_85 (nI_ne1 (by omega)) P1 ?_
    refine ⟨fun _ => ?_, fun h => absurd (P1.2.2.1.symm.trans h) (nI_ne1 (by omega))⟩
    refine hX _ _ _ _ _ _ _ ?_
    exact hq.2 _ rfl σ1 p hp P1
theorem g_heapLine (hT : ∀ m, TX (mM σ0 m) t n) (hp : p ≤ n) (hP : PS (mM σ0 m) σ p (-(nI 1)) 0) (hq : YQ σ0 t n m Q (yHeap t n (sk t n p) m)) : mD (d + 6) 113 [.ref 0] sh_10 σ Q := by
  have hn := (hT m).2.1
  have hs := sk_le (t := t) hp
  generalize hb : sk t n p = b at *
  have l1 := nx_le (t := t) hs
  unfold yHeap at hq
  refine ⟨rfl, fun X hX => ?_⟩
  refine hX _ _ _ _ _ _ _ ?_
  refine g_figures (lo := nI 1) (hi := nI 6) (hT m) hP hp (fun n1 σ1 P1 => ?_) (fun hw σ1 p1 v1 hp1 P1 => ?_)
  · rw [hb] at n1 P1 ⊢
    simp only [eN_y n1] at hq
    obtain ⟨q1, hq1, hq2, eq1⟩ := nB_val n1 (by omega) (by omega)
    refine g_figures (lo := nI 0) (hi := nI 999) (hT m) P1 (run_le hs) (fun n2 σ2 P2 => ?_) (fun hw σ2 p2 v2 hp2 P2 => ?_)
    · rw [sk_run n1] at n2 P2 ⊢
      simp only [eN_y n2] at hq
      refine ⟨fun h => absurd P2.2.2.1 h, fun _ => ?_⟩
      have ei : nI 14 + nV t n b - nI 1 = nI (13 + q1) := by rw [eq1, nI_add, nI_sub (by omega)]; congr 1; omega
      refine ⟨vin ei (by omega) (by omega), ?_⟩
      refine hX _ _ _ _ _ _ _ ?_
      rw [eq1, nI_clamp (by omega)] at hq
      refine hq.1 _ _ rfl _ _ (run_le l1) (sk_run n2) ?_
      have h9 := P2.rput (k := 13 + q1) (v := nV t n (nx t n b))
      rw [← clN ei (by omega), clN ei (by omega)] at h9
      rw [← clN ei (by omega)] at h9
      rw [← clN ei (by omega)]
      exact h9
    · rw [sk_run n1] at hw P2
      rw [eN_n hw] at hq
      refine ⟨fun _ => ?_, fun h => absurd (P2.2.2.1.symm.trans h) (nI_ne1 (by omega))⟩
      refine hX _ _ _ _ _ _ _ ?_
      exact hq.2 _ rfl σ2 p2 hp2 P2
  · rw [hb] at hw P1
    rw [eN_n hw] at hq
    refine g_figF (nI_ne1 (by omega)) P1 ?_
    refine ⟨fun _ => ?_, fun h => absurd (P1.2.2.1.symm.trans h) (nI_ne1 (by omega))⟩
    refine hX _ _ _ _ _ _ _ ?_
    exact hq.2 _ rfl σ1 p1 hp1 P1
theorem g_tells {i h' : Nat} {hi : Int32} (ehi : hi = nI h') (hi9 : i < 823) (hT : ∀ m, TX (mM σ0 m) t n) (hp : p ≤ n) (hP : PS (mM σ0 m) σ p (-(nI 1)) 0) (hq : YQ σ0 t n m Q (yTell t n i h' (sk t n p) m)) : mD (d + 6) 114 [.ref 0, .int (nI i), .int (nI 0), .int hi] sh_10 σ Q := by
  subst ehi
  have hn := (hT m).2.1
  have hs := sk_le (t := t) hp
  generalize hb : sk t n p = b at *
  have l1 := nx_le (t := t) hs
  unfold yTell at hq
  refine ⟨rfl, fun X hX => ?_⟩
  refine hX _ _ _ _ _ _ _ ?_
  refine g_figures (lo := nI 0) (hi := nI h') (hT m) hP hp (fun n1 σ1 P1 => ?_) (fun hw σ1 p1 v1 hp1 P1 => ?_)
  · rw [hb] at n1 P1 ⊢
    simp only [eN_y n1] at hq
    refine ⟨fun h => absurd P1.2.2.1 h, fun _ => ?_⟩
    refine ⟨vp_in_nI (by omega) (by omega), ?_⟩
    refine hX _ _ _ _ _ _ _ ?_
    refine hq.1 _ _ rfl _ _ (run_le hs) (sk_run n1) ?_
    have h9 := P1.rput (k := i) (v := nV t n b)
    rw [← nI_clamp (n := i) (by omega)] at h9
    rw [nI_clamp (n := i) (by omega)] at h9
    show PS _ (mput σ1 1 (nI i).toNatClampNeg _) _ _ _
    rw [nI_clamp (n := i) (by omega)]
    exact h9
  · rw [hb] at hw P1
    rw [eN_n hw] at hq
    refine ⟨fun _ => ?_, fun h => absurd (P1.2.2.1.symm.trans h) (nI_ne1 (by omega))⟩
    refine hX _ _ _ _ _ _ _ ?_
    exact hq.2 _ rfl σ1 p1 hp1 P1
end MYD
