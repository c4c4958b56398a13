/-! THE CLASS: any line of the yard -/
def RIy (s : Nat × (Nat → Int32)) (_ : Nat) (σ : mSg) : Prop := RYs σ s.2
theorem RIy_keep : ∀ (s : Nat × (Nat → Int32)) (b b' : Nat) (σ σ2 : mSg), b ≤ b' → RIy s b σ → RIy s b' (mback [(1, 4)] σ σ2) := fun _ _ _ _ _ _ h2 => RYs.keep h2
section CYL
variable {t : Nat → Int32} {n d : Nat} {m0 : Nat → Int32}
theorem c_readsYardLine : ClP t n (yLine t n) RIy (fun s => YI m0 s.2) (fun s => s.1) 14 275 (d + 4) := by
  intro σ i s Q hT hI hcn hR q1 q0
  obtain ⟨cnt, m⟩ := s
  obtain ⟨⟨nn, nc, ns, nd, hB⟩, -⟩ := hI
  have hR : RYs σ m := hR
  have hB : BD m nn nc ns nd := hB
  have hq : CQ t n Q (yl t n (bg t n i) m) := by
    refine ⟨fun b' m' e σ' i' h1 h2 h3 => ?_, fun e he σ' i' h1 h2 => ?_⟩
    · exact q1 b' (cnt + 1, m') (by unfold yLine; show (match yl t n (bg t n i) m with | .inl (b', m') => _ | .inr e => _) = _; rw [e]) σ' i' h1 h2 h3
    · exact q0 e (by unfold yLine; show (match yl t n (bg t n i) m with | .inl (b', m') => _ | .inr e => _) = _; rw [he]) σ' i' h1 h2
  clear q1 q0
  unfold yl at hq
  refine ⟨rfl, fun X hX => ?_⟩
  have lab : ∀ L v σ', (L = 38 ∨ L = 76 ∨ L = 114 ∨ L = 153) → b01 v → Q (.inl (some (.int v))) sh_5 σ' → X L [none] [.int v] sh_5 σ' 0 0 := by
    intro L v σ' hL hv h
    rcases hL with rfl | rfl | rfl | rfl
    · refine hX _ _ _ _ _ _ _ ?_
      exact ⟨b01_z hv, h⟩
    · refine hX _ _ _ _ _ _ _ ?_
      exact ⟨b01_z hv, h⟩
    · refine hX _ _ _ _ _ _ _ ?_
      exact ⟨b01_z hv, h⟩
    · refine hX _ _ _ _ _ _ _ ?_
      exact ⟨b01_z hv, h⟩
  have s154 : CQ t n Q (eO t n [104, 101, 97, 112] (bg t n i) (fun b1 => yHeap t n b1 m) (yRest t n (bg t n i) m)) → ∀ σ1, RTw σ1 t n i → RYs σ1 m → X 154 [some (.ref 0)] [] sh_5 σ1 0 0 := by
    intro hq σ1 h1 h2
    refine hX _ _ _ _ _ _ _ ?_
    refine c_tw_27 h1 (fun w1 σ2 k2 => ?_) (fun w1 => ?_)
    · simp only [eO_y w1] at hq
      refine ⟨fun h => absurd h (by decide +kernel), fun _ => ?_⟩
      refine c_readsHeap (i := i + 1) (RTw.of (σ := σ1) k2) (RYs.keep h2) ?_
      exact ⟨fun b' m' e σ' i' a1 a2 a3 => ⟨Or.inr rfl, hq.1 b' m' e σ' i' a1 a2 a3⟩, fun e he σ' i' a1 a2 => ⟨Or.inl rfl, hq.2 e he σ' i' a1 a2⟩⟩
    · simp only [eO_n w1] at hq
      refine ⟨fun _ => ?_, fun h => absurd rfl h⟩
      refine hX _ _ _ _ _ _ _ ?_
      refine c_readsRest (i := i) (RTw.of (σ := σ1) h1) (RYs.keep h2) ?_
      exact ⟨fun b' m' e σ' i' a1 a2 a3 => ⟨Or.inr rfl, hq.1 b' m' e σ' i' a1 a2 a3⟩, fun e he σ' i' a1 a2 => ⟨Or.inl rfl, hq.2 e he σ' i' a1 a2⟩⟩
  have s115 : CQ t n Q (eO t n [99, 111, 110, 116, 114, 97, 99, 116] (bg t n i) (fun b1 => if m 6 = nI 6 then .inr (bg t n i) else yDeal t n b1 m) (eO t n [104, 101, 97, 112] (bg t n i) (fun b1 => yHeap t n b1 m) (yRest t n (bg t n i) m))) → ∀ σ1, RTw σ1 t n i → RYs σ1 m → X 115 [some (.ref 0)] [] sh_5 σ1 0 0 := by
    intro hq σ1 h1 h2
    refine hX _ _ _ _ _ _ _ ?_
    refine c_tw_23 h1 (fun w1 σ2 k2 => ?_) (fun w1 => ?_)
    · simp only [eO_y w1] at hq
      refine ⟨fun h => absurd h (by decide +kernel), fun _ => ?_⟩
      have h3 := RYs.keep (σ2 := σ2) h2
      have hle := hB.2.2.2.1.2
      have ec : (mback [(1, 4)] σ1 σ2) 5 10 = nI _ := (RS.get h3 rf0.2.2.2.1).trans hB.2.2.2.1.1
      refine b_ge ec (b := 6) rfl (by omega) (by omega) (fun hf => ?_) (fun hf => ?_)
      · rw [if_pos (by rw [hB.2.2.2.1.1]; congr 1; omega)] at hq
        refine hX _ _ _ _ _ _ _ ?_
        refine c_refuse (i := i) (RTw.of (σ := σ1) k2) ?_
        intro σ3 k3
        exact lab 153 _ _ (Or.inr (Or.inr (Or.inr rfl))) b01_0 (hq.2 _ rfl _ i rfl (RTw.of k3))
      · rw [if_neg (by rw [hB.2.2.2.1.1, nI_eq (by omega) (by omega)]; omega)] at hq
        refine c_readsContract (i := i + 1) hB.2.2.2.1.1 (by omega) (RTw.of (σ := σ1) k2) h3 ?_
        exact ⟨fun b' m' e σ' i' a1 a2 a3 => lab 153 _ _ (Or.inr (Or.inr (Or.inr rfl))) b01_1 (hq.1 b' m' e σ' i' a1 a2 a3), fun e he σ' i' a1 a2 => lab 153 _ _ (Or.inr (Or.inr (Or.inr rfl))) b01_0 (hq.2 e he σ' i' a1 a2)⟩
    · simp only [eO_n w1] at hq
      refine ⟨fun _ => ?_, fun h => absurd rfl h⟩
      exact s154 hq _ (RTw.of (σ := σ1) h1) (RYs.keep h2)
  have s77 : CQ t n Q (eO t n [115, 105, 101, 118, 101] (bg t n i) (fun b1 => if m 5 = nI 4 then .inr (bg t n i) else ySieve t n b1 m) (eO t n [99, 111, 110, 116, 114, 97, 99, 116] (bg t n i) (fun b1 => if m 6 = nI 6 then .inr (bg t n i) else yDeal t n b1 m) (eO t n [104, 101, 97, 112] (bg t n i) (fun b1 => yHeap t n b1 m) (yRest t n (bg t n i) m)))) → ∀ σ1, RTw σ1 t n i → RYs σ1 m → X 77 [some (.ref 0)] [] sh_5 σ1 0 0 := by
    intro hq σ1 h1 h2
    refine hX _ _ _ _ _ _ _ ?_
    refine c_tw_22 h1 (fun w1 σ2 k2 => ?_) (fun w1 => ?_)
    · simp only [eO_y w1] at hq
      refine ⟨fun h => absurd h (by decide +kernel), fun _ => ?_⟩
      have h3 := RYs.keep (σ2 := σ2) h2
      have hle := hB.2.2.1.2
      have ec : (mback [(1, 4)] σ1 σ2) 5 9 = nI _ := (RS.get h3 rf0.2.2.1).trans hB.2.2.1.1
      refine b_ge ec (b := 4) rfl (by omega) (by omega) (fun hf => ?_) (fun hf => ?_)
      · rw [if_pos (by rw [hB.2.2.1.1]; congr 1; omega)] at hq
        refine hX _ _ _ _ _ _ _ ?_
        refine c_refuse (i := i) (RTw.of (σ := σ1) k2) ?_
        intro σ3 k3
        exact lab 114 _ _ (Or.inr (Or.inr (Or.inl rfl))) b01_0 (hq.2 _ rfl _ i rfl (RTw.of k3))
      · rw [if_neg (by rw [hB.2.2.1.1, nI_eq (by omega) (by omega)]; omega)] at hq
        refine c_readsSieve (i := i + 1) hB.2.2.1.1 (by omega) (RTw.of (σ := σ1) k2) h3 ?_
        exact ⟨fun b' m' e σ' i' a1 a2 a3 => lab 114 _ _ (Or.inr (Or.inr (Or.inl rfl))) b01_1 (hq.1 b' m' e σ' i' a1 a2 a3), fun e he σ' i' a1 a2 => lab 114 _ _ (Or.inr (Or.inr (Or.inl rfl))) b01_0 (hq.2 e he σ' i' a1 a2)⟩
    · simp only [eO_n w1] at hq
      refine ⟨fun _ => ?_, fun h => absurd rfl h⟩
      exact s115 hq _ (RTw.of (σ := σ1) h1) (RYs.keep h2)
  have s39 : CQ t n Q (eO t n [99, 97, 114, 116] (bg t n i) (fun b1 => if m 4 = nI 3 then .inr (bg t n i) else yCart t n b1 m) (eO t n [115, 105, 101, 118, 101] (bg t n i) (fun b1 => if m 5 = nI 4 then .inr (bg t n i) else ySieve t n b1 m) (eO t n [99, 111, 110, 116, 114, 97, 99, 116] (bg t n i) (fun b1 => if m 6 = nI 6 then .inr (bg t n i) else yDeal t n b1 m) (eO t n [104, 101, 97, 112] (bg t n i) (fun b1 => yHeap t n b1 m) (yRest t n (bg t n i) m))))) → ∀ σ1, RTw σ1 t n i → RYs σ1 m → X 39 [some (.ref 0)] [] sh_5 σ1 0 0 := by
    intro hq σ1 h1 h2
    refine hX _ _ _ _ _ _ _ ?_
    refine c_tw_19 h1 (fun w1 σ2 k2 => ?_) (fun w1 => ?_)
    · simp only [eO_y w1] at hq
      refine ⟨fun h => absurd h (by decide +kernel), fun _ => ?_⟩
      have h3 := RYs.keep (σ2 := σ2) h2
      have hle := hB.2.1.2
      have ec : (mback [(1, 4)] σ1 σ2) 5 8 = nI _ := (RS.get h3 rf0.2.1).trans hB.2.1.1
      refine b_ge ec (b := 3) rfl (by omega) (by omega) (fun hf => ?_) (fun hf => ?_)
      · rw [if_pos (by rw [hB.2.1.1]; congr 1; omega)] at hq
        refine hX _ _ _ _ _ _ _ ?_
        refine c_refuse (i := i) (RTw.of (σ := σ1) k2) ?_
        intro σ3 k3
        exact lab 76 _ _ (Or.inr (Or.inl rfl)) b01_0 (hq.2 _ rfl _ i rfl (RTw.of k3))
      · rw [if_neg (by rw [hB.2.1.1, nI_eq (by omega) (by omega)]; omega)] at hq
        refine c_readsCart (i := i + 1) hB.2.1.1 (by omega) (RTw.of (σ := σ1) k2) h3 ?_
        exact ⟨fun b' m' e σ' i' a1 a2 a3 => lab 76 _ _ (Or.inr (Or.inl rfl)) b01_1 (hq.1 b' m' e σ' i' a1 a2 a3), fun e he σ' i' a1 a2 => lab 76 _ _ (Or.inr (Or.inl rfl)) b01_0 (hq.2 e he σ' i' a1 a2)⟩
    · simp only [eO_n w1] at hq
      refine ⟨fun _ => ?_, fun h => absurd rfl h⟩
      exact s77 hq _ (RTw.of (σ := σ1) h1) (RYs.keep h2)
  have s0 : CQ t n Q (eO t n [115, 116, 114, 101, 101, 116] (bg t n i) (fun b1 => if m 3 = nI 7 then .inr (bg t n i) else yStreet t n b1 m) (eO t n [99, 97, 114, 116] (bg t n i) (fun b1 => if m 4 = nI 3 then .inr (bg t n i) else yCart t n b1 m) (eO t n [115, 105, 101, 118, 101] (bg t n i) (fun b1 => if m 5 = nI 4 then .inr (bg t n i) else ySieve t n b1 m) (eO t n [99, 111, 110, 116, 114, 97, 99, 116] (bg t n i) (fun b1 => if m 6 = nI 6 then .inr (bg t n i) else yDeal t n b1 m) (eO t n [104, 101, 97, 112] (bg t n i) (fun b1 => yHeap t n b1 m) (yRest t n (bg t n i) m)))))) → ∀ σ1, RTw σ1 t n i → RYs σ1 m → X 0 [some (.ref 0)] [] sh_5 σ1 0 0 := by
    intro hq σ1 h1 h2
    refine hX _ _ _ _ _ _ _ ?_
    refine c_tw_8 h1 (fun w1 σ2 k2 => ?_) (fun w1 => ?_)
    · simp only [eO_y w1] at hq
      refine ⟨fun h => absurd h (by decide +kernel), fun _ => ?_⟩
      have h3 := RYs.keep (σ2 := σ2) h2
      have hle := hB.1.2
      have ec : (mback [(1, 4)] σ1 σ2) 5 7 = nI _ := (RS.get h3 rf0.1).trans hB.1.1
      refine b_ge ec (b := 7) rfl (by omega) (by omega) (fun hf => ?_) (fun hf => ?_)
      · rw [if_pos (by rw [hB.1.1]; congr 1; omega)] at hq
        refine hX _ _ _ _ _ _ _ ?_
        refine c_refuse (i := i) (RTw.of (σ := σ1) k2) ?_
        intro σ3 k3
        exact lab 38 _ _ (Or.inl rfl) b01_0 (hq.2 _ rfl _ i rfl (RTw.of k3))
      · rw [if_neg (by rw [hB.1.1, nI_eq (by omega) (by omega)]; omega)] at hq
        refine c_readsStreet (i := i + 1) hB.1.1 (by omega) (RTw.of (σ := σ1) k2) h3 ?_
        exact ⟨fun b' m' e σ' i' a1 a2 a3 => lab 38 _ _ (Or.inl rfl) b01_1 (hq.1 b' m' e σ' i' a1 a2 a3), fun e he σ' i' a1 a2 => lab 38 _ _ (Or.inl rfl) b01_0 (hq.2 e he σ' i' a1 a2)⟩
    · simp only [eO_n w1] at hq
      refine ⟨fun _ => ?_, fun h => absurd rfl h⟩
      exact s39 hq _ (RTw.of (σ := σ1) h1) (RYs.keep h2)
  exact s0 hq σ hT hR
end CYL
