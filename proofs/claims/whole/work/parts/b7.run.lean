/-! THE LAW'S RUN -/
set_option maxRecDepth 100000 in
theorem law_start {N : Nat} {f : Nat → Int32} {Q : mPst} {X : mJt} {σ : mSg} (hX : LX N f 601024 7293034 Q X) (hQ : ∀ sh σ, Q (.inl (some (.int (nI 1)))) sh σ) (hN : N ≤ 3072) : X 0 [some (.ref 1201), none, none, none, none, none, none] [] [] σ 0 0 := by
  refine hX _ _ _ _ _ _ _ ?_
  refine c_yardInit (σ := mnew σ 0) (by unfold mnew; rw [if_pos rfl]) (fun W1 a0 a1 a5 a32 a53 a164 => ?_)
  refine c_modelInit (σ := mnew W1 176) (by unfold mnew; rw [if_pos rfl]) (fun W2 b0 b1 b2 => ?_)
  refine ⟨rfl, ?_⟩
  have e : ∀ c, c < 176 → mnew W2 190 c = W1 c := fun c hc => (mnew_ne (by omega)).trans ((b0 c hc).trans (mnew_ne (by omega)))
  have hI : IV (mnew W2 190) := by
    refine iv0 ?_ (fun c hc => ?_) (fun c hc => ?_) (fun c hc => ?_) ?_ (fun c hc => ?_) ?_ ?_
    · rw [e 0 (by omega)]; exact a0
    · rw [e _ (by omega)]; exact a1 c hc
    · rw [e _ (by omega)]; exact a5 c hc
    · rw [e _ (by omega)]; exact a32 c hc
    · rw [e _ (by omega)]; exact a53
    · rw [e _ (by omega)]; exact a164 c hc
    · exact (mnew_ne (by omega)).trans b1
    · exact (mnew_ne (by omega)).trans b2
  have h := law_loop hX hQ (by omega) (N / 6) 0 191 19253 (mnew W2 190) (by omega) (by omega) (by omega) (by omega) hI
  exact h
set_option maxRecDepth 100000 in
theorem law_run {p : Program} {l : Launch} {e : Env} {s : State} {m : MethodId} {below : List Frame} {meth : Method} {c : Code} {WQ : State → Prop} {b N : Nat} {xs : Nat → Int32} (hck : ∀ b, b ∈ bk_law → mchk tb tbN "DustYardLaw" code 7 [] false b.2 b.1 = true) (hfl : l.stackTraces = false) (hx : p.tables.exec = Jvm.exec) (hb : c.code = code) (hml : c.maxLocals = 7) (hown : s.vm.findClass "DustYardLaw" = some m.cls) (hts : ∀ w ∈ lw_tbl, w.before #[Value.ref b] s = true) (hX : va_X b N xs s s.heap) (hbl : b < s.heap.size) (hgv : (Jvm.Cond.and given_1 narrow_1).before #[Value.ref b] s = true) (hN : N ≤ 3072)
    (hret : ∀ (pc : Nat) (H : Heap) (ls : Array Slot), decode code pc = .ok (.ireturn, 1) → W p l e room_1 s m #[Value.ref b] below meth c H [] 601024 7293034 WQ (F0 m pc ls [.int (nI 1)])) : W p l e room_1 s m #[Value.ref b] below meth c s.heap [] 0 0 WQ (entryFrame m ([Value.ref b] : List Value).toArray 7) := by
  obtain ⟨adc, adV, hb9, hE⟩ := mex_at (b := b) hts hgv
  obtain ⟨D, cy, hK⟩ := K_at hts
  have hy : mHy p s m #[Value.ref b] c "DustYardLaw" code 7 D cy (fun q => s.heap.size ≤ q) := ⟨hx, hb, hml, hown, fun w hw => hts w (List.mem_filter.mp hw).1, hK, fun q hq => hq⟩
  rw [lg_entry_eq]
  have hLX : LX N xs 601024 7293034 (fun o _ _ => o = .inl (some (.int (nI 1)))) (fun lb L st sh2 σ2 cl sl => mWt p l e room_1 s m #[Value.ref b] below meth c D cy (fun q => s.heap.size ≤ q) 7 WQ 0 adc lb L st sh2 σ2 cl sl) := by
    intro lb L st sh2 σ2 cl sl hbx
    rcases mlk_mem bk_law lb with hnil | hmem
    · rw [hnil] at hbx; exact hbx.elim
    · refine mW_bxL (tb := tb) (NM := tbN) (hh := []) (init := false) (S0 := s.heap.size) (d0 := 58) (adc := adc) (adV := adV) hy hE (fun _ h => h) (Nat.le_refl _) (fun _ _ => rfl) (by decide +kernel) (by decide +kernel) rfl rfl ?_ ?_ mi_cls ?_ ⟨rfl, fun _ _ _ z => by cases z⟩ ?_ (fun _ _ _ _ _ _ _ z => z) ?_ ?_ ?_ ?_ ?_ _ lb L st sh2 σ2 cl sl (hck _ hmem) hbx
      · intro j hj
        have := jb_all j hj
        simp only [mjb, Bool.and_eq_true] at this
        exact this.1
      · intro j as sh σ Q2 hj h
        exact mCT_sound hfl (fun j hj => jb_all j hj) mi_cls 58 j as sh σ Q2 hj h
      · intro z; cases z
      · intro M f z
        cases z
        rw [hb9]
        exact ⟨hX, hbl, Nat.not_le.mpr hbl⟩
      · intro x pc L2 sh3 σ3 cl2 sl2 hd _ hcl hsl hq ad2 H locs ls hag hn0 hR
        cases hq
        exact va_forget (fun q hq9 => hR.2.2.1.2.2 q hq9) (W.widen hcl hsl (hret pc H ls hd))
      · intro x pc L2 sh3 σ3 cl2 sl2 hd hcl hsl hq; cases hq
      · intro pc L2 sh3 σ3 cl2 sl2 hd hcl hsl hq; cases hq
      · intro k w a ps pc L2 st2 sh3 σ3 cl2 sl2 hd hth hcat hcl hsl hq; cases hq
      · intro x E ce q L2 sh3 σ3 cl2 sl2 ad2 H locs ls pc rest hq; cases hq
  have key := law_start (σ := fun _ _ => 0) hLX (fun _ _ => rfl) hN
  have hm : mLR adc (lg_sl ([Value.ref 1201].map (mvm adc)) ++ List.replicate (7 - (lg_sl ([Value.ref 1201].map (mvm adc))).length) Slot.unset).toArray 7 (mpad 7 (ment [Value.ref 1201])) := mLR_entry (by decide)
  have e1 : [Value.ref 1201].map (mvm adc) = [Value.ref b] := by
    show [Value.ref (adc 1201)] = _
    rw [hb9]
  rw [e1] at hm
  exact key adc s.heap [] _ (fun _ _ => rfl) (Nat.le_refl _) ⟨fun k q h => by simp [mwd] at h, ⟨fun i j p q h => by simp [mwd] at h, fun k q h => by simp [mwd] at h⟩, va_S.rf, hm⟩
