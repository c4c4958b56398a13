/-! ONE CALL, ON BOTH SIDES -/
theorem nIj {p : Int32} {a b : Nat} (ha : a < 1000000) (hb : b < 1000000) (e : p = nI a) (e2 : p = nI b) : a = b := (nI_eq (by omega) (by omega)).1 (e.symm.trans e2)
theorem oNj {p : Int32} {n : Nat} {a b : Option Nat} (hn : n < 1000) (ha : ∀ k, a = some k → k < n) (hb : ∀ k, b = some k → k < n) (e : p = oN a) (e2 : p = oN b) : a = b := by
  cases a with
  | none =>
    cases b with
    | none => rfl
    | some k =>
      have := hb k rfl
      exact absurd (e2.symm.trans e) (oN_ne (by omega))
  | some j =>
    have h1 := ha j rfl
    cases b with
    | none => exact absurd (e.symm.trans e2) (oN_ne (by omega))
    | some k =>
      have h2 := hb k rfl
      rw [nIj (a := j) (b := k) (by omega) (by omega) e e2]
theorem oN_ok {p : Int32} {n : Nat} {a : Option Nat} (ha : ∀ k, a = some k → k < n) (e : p = oN a) : sOk n p := by
  cases a with
  | none => exact Or.inl e
  | some k => exact Or.inr ⟨k, ha k rfl, e⟩
/-- the model answers so, and what is between them stays -/
def MOK (jm : Nat) (as : List Value) (σm : mSg) (κ : Nat) (ans : Int32) (σx' : mSg) : Prop := ∀ Qm : mPst, (∀ σm' b, σm' 0 0 = nI κ → (κ = 0 → b = ans) → IY σx' σm' → Qm (.inl (some (.int b))) sh_10 σm') → mD 58 jm as sh_10 σm Qm
def MOKv (jm : Nat) (as : List Value) (σm : mSg) (κ : Nat) (σx' : mSg) : Prop := ∀ Qm : mPst, (∀ σm', σm' 0 0 = nI κ → IY σx' σm' → Qm (.inl none) sh_10 σm') → mD 58 jm as sh_10 σm Qm
def HQ (e1 e2 jm : Nat) (as : List Value) (σm : mSg) : mPst := fun o sh' σx' => mpre sh_9 sh' = true ∧ ((∃ ans, o = .inl (some (.int ans)) ∧ MOK jm as σm 0 ans σx') ∨ (o = .inr e1 ∧ MOK jm as σm 1 (nI 0) σx') ∨ (o = .inr e2 ∧ MOK jm as σm 2 (nI 0) σx'))
def HQ1 (e1 jm : Nat) (as : List Value) (σm : mSg) : mPst := fun o sh' σx' => mpre sh_9 sh' = true ∧ ((∃ ans, o = .inl (some (.int ans)) ∧ MOK jm as σm 0 ans σx') ∨ (o = .inr e1 ∧ MOK jm as σm 1 (nI 0) σx'))
def HQv (e1 e2 jm : Nat) (as : List Value) (σm : mSg) : mPst := fun o sh' σx' => sh' = sh_9 ∧ ((o = .inl none ∧ MOKv jm as σm 0 σx') ∨ (o = .inr e1 ∧ MOKv jm as σm 1 σx') ∨ (o = .inr e2 ∧ MOKv jm as σm 2 σx'))
def DQ (jm : Nat) (as : List Value) (σm : mSg) : mPst := fun o sh' σx' => mpre sh_9 sh' = true ∧ ∃ ans, o = .inl (some (.int ans)) ∧ ∀ Qm : mPst, (∀ σm', IY σx' σm' → Qm (.inl (some (.int ans))) sh_10 σm') → mD 58 jm as sh_10 σm Qm
def DQv (jm : Nat) (as : List Value) (σm : mSg) : mPst := fun o sh' σx' => mpre sh_9 sh' = true ∧ o = .inl none ∧ ∀ Qm : mPst, (∀ σm', IY σx' σm' → Qm (.inl none) sh_10 σm') → mD 58 jm as sh_10 σm Qm
theorem pre9 : mpre sh_9 sh_9 = true := by decide +kernel
theorem pre9s : mpre sh_9 (sh_9 ++ [.inr (.inl 3)]) = true := by decide +kernel
theorem mput_c {σ : mSg} {b i c : Nat} {v : Int32} (h : c ≠ b) : mput σ b i v c = σ c := by
  unfold mput
  rw [if_neg h]
theorem mput_i {σ : mSg} {b i j : Nat} {v : Int32} (h : j ≠ i) : mput σ b i v b j = σ b j := by
  unfold mput
  rw [if_pos rfl]
  exact upd_off h
theorem TPs.m0 {σx σm : mSg} {tp : Nat} {B : Nat → Nat} {v : Int32} (h : TPs σx σm tp B) : TPs σx (mput σm 0 0 v) tp B := by
  refine ⟨h.1, ?_, h.2.2.1, fun k hk => ?_⟩
  · rw [mput_i (by omega)]; exact h.2.1
  · rw [mput_c (by omega)]; exact h.2.2.2 k hk
theorem bdm {m : Nat → Int32} {n nc ns nd s k q : Nat} (h : BD m n nc ns nd) (hs : s < 7) (h1 : 1 ≤ k) (h2 : k ≤ 6) (hq : q ≤ 9) : BD (upd m (22 + 9 * s + k) (nI q)) n nc ns nd := by
  have := BD.umix (v := nI q) h hs (g := k - 1) (by omega) ⟨q, hq, rfl⟩
  rw [show 23 + 9 * s + (k - 1) = 22 + 9 * s + k by omega] at this
  exact this
theorem led1 {day : Bool} {m : Nat → Int32} {s ll : Nat} {r r' : Int32} (h : (day = false ∧ r = sRo m (nI s) ll) ∨ (day = true ∧ (∀ k, k < ll → m (123 + 5 * k + 3) = nI s → (∀ i, i < k → ¬ m (123 + 5 * i + 3) = nI s) → r = m (123 + 5 * k)) ∧ ((∀ i, i < ll → ¬ m (123 + 5 * i + 3) = nI s) → r = -(nI 1)))) (h' : (day = false ∧ r' = sRo m (nI s) ll) ∨ (day = true ∧ (∀ k, k < ll → m (123 + 5 * k + 3) = nI s → (∀ i, i < k → ¬ m (123 + 5 * i + 3) = nI s) → r' = m (123 + 5 * k)) ∧ ((∀ i, i < ll → ¬ m (123 + 5 * i + 3) = nI s) → r' = -(nI 1)))) : r = r' := by
  rcases h with ⟨e, h⟩ | ⟨e, h, g⟩
  · rcases h' with ⟨_, h'⟩ | ⟨e', _⟩
    · rw [h, h']
    · rw [e] at e'; cases e'
  · rcases h' with ⟨e', _⟩ | ⟨_, h', g'⟩
    · rw [e] at e'; cases e'
    · have key : ∀ N, N ≤ ll → (∀ i, i < N → ¬ m (123 + 5 * i + 3) = nI s) ∨ r = r' := by
        intro N
        induction N with
        | zero => exact fun _ => Or.inl (fun i hi => absurd hi (by omega))
        | succ N ih =>
          intro hN
          rcases ih (by omega) with c | c
          · by_cases z : m (123 + 5 * N + 3) = nI s
            · exact Or.inr ((h N (by omega) z c).trans (h' N (by omega) z c).symm)
            · exact Or.inl (fun i hi => by
                by_cases e : i = N
                · rw [e]; exact z
                · exact c i (by omega))
          · exact Or.inr c
      rcases key ll (Nat.le_refl _) with c | c
      · rw [g c, g' c]
      · exact c
theorem okDj {l h q p : Int32} {a b c e a' b' c' e' : Nat} (h1 : okD l h q p a b c e) (h2 : okD l h q p a' b' c' e') : a = a' ∧ b = b' ∧ c = c' ∧ e = e' := by
  obtain ⟨x1, x2, x3, x4, x5, x6, e1, e2, e3, e4⟩ := h1
  obtain ⟨y1, y2, y3, y4, y5, y6, f1, f2, f3, f4⟩ := h2
  exact ⟨nIj (by omega) (by omega) e1 f1, nIj (by omega) (by omega) e2 f2, nIj (by omega) (by omega) e3 f3, nIj (by omega) (by omega) e4 f4⟩
theorem ymc {σx σm : mSg} {a : Nat} {row : Nat → Nat → Int32} (h : YM σx a row) (h2 : MM σm a row) : σx 53 1 = σm 0 6 := h.1.trans h2.1.symm
section LOG
variable {Q : mPst} {e1 e2 jm : Nat} {as : List Value} {σx σm σx' : mSg} {ans p w x y l q g u v r s t : Int32} {bo : Bool}
theorem HQ.ok (h : MOK jm as σm 0 ans σx') : HQ e1 e2 jm as σm (.inl (some (.int ans))) sh_9 σx' := ⟨pre9, Or.inl ⟨ans, rfl, h⟩⟩
theorem HQ.oks (h : MOK jm as σm 0 ans σx') : HQ e1 e2 jm as σm (.inl (some (.int ans))) (sh_9 ++ [.inr (.inl 3)]) σx' := ⟨pre9s, Or.inl ⟨ans, rfl, h⟩⟩
theorem HQ.t1 (h : MOK jm as σm 1 (nI 0) σx') : HQ e1 e2 jm as σm (.inr e1) sh_9 σx' := ⟨pre9, Or.inr (Or.inl ⟨rfl, h⟩)⟩
theorem HQ.t2 (h : MOK jm as σm 2 (nI 0) σx') : HQ e1 e2 jm as σm (.inr e2) sh_9 σx' := ⟨pre9, Or.inr (Or.inr ⟨rfl, h⟩)⟩
theorem HQ1.ok (h : MOK jm as σm 0 ans σx') : HQ1 e1 jm as σm (.inl (some (.int ans))) sh_9 σx' := ⟨pre9, Or.inl ⟨ans, rfl, h⟩⟩
theorem HQ1.t1 (h : MOK jm as σm 1 (nI 0) σx') : HQ1 e1 jm as σm (.inr e1) sh_9 σx' := ⟨pre9, Or.inr ⟨rfl, h⟩⟩
theorem HQv.ok (h : MOKv jm as σm 0 σx') : HQv e1 e2 jm as σm (.inl none) sh_9 σx' := ⟨rfl, Or.inl ⟨rfl, h⟩⟩
theorem HQv.t1 (h : MOKv jm as σm 1 σx') : HQv e1 e2 jm as σm (.inr e1) sh_9 σx' := ⟨rfl, Or.inr (Or.inl ⟨rfl, h⟩)⟩
theorem HQv.t2 (h : MOKv jm as σm 2 σx') : HQv e1 e2 jm as σm (.inr e2) sh_9 σx' := ⟨rfl, Or.inr (Or.inr ⟨rfl, h⟩)⟩
theorem DQ.ok (h : ∀ Qm : mPst, (∀ σm', IY σx' σm' → Qm (.inl (some (.int ans))) sh_10 σm') → mD 58 jm as sh_10 σm Qm) : DQ jm as σm (.inl (some (.int ans))) sh_9 σx' := ⟨pre9, ans, rfl, h⟩
theorem DQv.ok (h : ∀ Qm : mPst, (∀ σm', IY σx' σm' → Qm (.inl none) sh_10 σm') → mD 58 jm as sh_10 σm Qm) : DQv jm as σm (.inl none) sh_9 σx' := ⟨pre9, rfl, h⟩
theorem lg_street (h : IY σx σm) (hQ : ∀ o s' σ', HQ 2 4 147 [.ref 0, .int p, .int w] σm o s' σ' → Q o s' σ') : mD 57 6 [.ref 0, .int p, .int w] sh_9 σx Q := by
  obtain ⟨n, nc, ns, nd, ls, tp, B, xx, hk, a, row, h⟩ := h
  have hn := h.1.1.2
  have hnc := h.1.2.1.2
  have hns := h.1.2.2.1.2
  have hnd := h.1.2.2.2.1.2
  refine c_ystreet h.1 h.2.2.2.1 (fun s k s1 s2 s3 s4 σ' y f => hQ _ _ _ (HQ.ok fun Qm hq => ?_)) (fun n1 => hQ _ _ _ (HQ.t1 fun Qm hq => ?_)) (fun n1 n2 => hQ _ _ _ (HQ.t2 fun Qm hq => ?_))
  · refine g_street h.1 h.2.1 (fun s' k' s1' s2' s3' s4' σ'' hM => ?_) (fun n1 => ?_) (fun n1 n2 => ?_)
    · obtain rfl := nIj (by omega) (by omega) s2 s2'
      obtain rfl := nIj (by omega) (by omega) s4 s4'
      exact hq σ'' _ hM.2.2.2.2.1 (fun _ => rfl) (h.fx y f hM)
    · exact (n1 ⟨s, s1, s2⟩).elim
    · exact (n2 ⟨k, s3, s4⟩).elim
  · refine g_street h.1 h.2.1 (fun s k s1 s2 s3 s4 _ _ => ?_) (fun _ σ'' hM => ?_) (fun n2 _ => ?_)
    · exact (n1 ⟨s, s1, s2⟩).elim
    · exact hq σ'' _ hM.2.2.2.2.1 (fun e => absurd e (by decide)) (h.s hM)
    · exact absurd n2 n1
  · refine g_street h.1 h.2.1 (fun s k s1 s2 s3 s4 _ _ => ?_) (fun n0 => ?_) (fun _ _ σ'' hM => ?_)
    · exact (n2 ⟨k, s3, s4⟩).elim
    · exact absurd n1 n0
    · exact hq σ'' _ hM.2.2.2.2.1 (fun e => absurd e (by decide)) (h.s hM)
theorem lg_cart (h : IY σx σm) (hQ : ∀ o s' σ', HQ 2 4 153 [.ref 0, .int p, .int w] σm o s' σ' → Q o s' σ') : mD 57 8 [.ref 0, .int p, .int w] sh_9 σx Q := by
  obtain ⟨n, nc, ns, nd, ls, tp, B, xx, hk, a, row, h⟩ := h
  have hn := h.1.1.2
  have hnc := h.1.2.1.2
  have hns := h.1.2.2.1.2
  have hnd := h.1.2.2.2.1.2
  refine c_ycart h.1 h.2.2.2.1.1 h.2.2.2.2.2.2.2.2.1 (fun s k s1 s2 s3 s4 σ' y f => hQ _ _ _ (HQ.ok fun Qm hq => ?_)) (fun n1 => hQ _ _ _ (HQ.t1 fun Qm hq => ?_)) (fun n1 n2 => hQ _ _ _ (HQ.t2 fun Qm hq => ?_))
  · refine g_cart h.1 (fun s' k' s1' s2' s3' s4' σ'' hM => ?_) (fun n1 => ?_) (fun n1 n2 => ?_)
    · obtain rfl := nIj (by omega) (by omega) s2 s2'
      obtain rfl := nIj (by omega) (by omega) s4 s4'
      exact hq σ'' _ hM.2.2.2.2.1 (fun _ => rfl) (h.rd y (fun c a b d _ => f c a b d) hM)
    · exact (n1 ⟨s, s1, s2⟩).elim
    · exact (n2 ⟨k, s3, s4⟩).elim
  · refine g_cart h.1 (fun s k s1 s2 s3 s4 _ _ => ?_) (fun _ σ'' hM => ?_) (fun n2 _ => ?_)
    · exact (n1 ⟨s, s1, s2⟩).elim
    · exact hq σ'' _ hM.2.2.2.2.1 (fun e => absurd e (by decide)) (h.s hM)
    · exact absurd n2 n1
  · refine g_cart h.1 (fun s k s1 s2 s3 s4 _ _ => ?_) (fun n0 => ?_) (fun _ _ σ'' hM => ?_)
    · exact (n2 ⟨k, s3, s4⟩).elim
    · exact absurd n1 n0
    · exact hq σ'' _ hM.2.2.2.2.1 (fun e => absurd e (by decide)) (h.s hM)
theorem lg_contract (h : IY σx σm) (hQ : ∀ o s' σ', HQ 2 4 155 [.ref 0, .int p, .int w] σm o s' σ' → Q o s' σ') : mD 57 10 [.ref 0, .int p, .int w] sh_9 σx Q := by
  obtain ⟨n, nc, ns, nd, ls, tp, B, xx, hk, a, row, h⟩ := h
  have hn := h.1.1.2
  have hnc := h.1.2.1.2
  have hns := h.1.2.2.1.2
  have hnd := h.1.2.2.2.1.2
  refine c_ycontract h.1 h.2.2.2.1.1 (fun s k s1 s2 s3 s4 => hQ _ _ _ (HQ.ok fun Qm hq => ?_)) (fun n1 => hQ _ _ _ (HQ.t1 fun Qm hq => ?_)) (fun n1 n2 => hQ _ _ _ (HQ.t2 fun Qm hq => ?_))
  · refine g_contract h.1 (fun s' k' s1' s2' s3' s4' σ'' hM => ?_) (fun n1 => ?_) (fun n1 n2 => ?_)
    · obtain rfl := nIj (by omega) (by omega) s2 s2'
      obtain rfl := nIj (by omega) (by omega) s4 s4'
      exact hq σ'' _ hM.2.2.2.2.1 (fun _ => rfl) (h.s hM)
    · exact (n1 ⟨s, s1, s2⟩).elim
    · exact (n2 ⟨k, s3, s4⟩).elim
  · refine g_contract h.1 (fun s k s1 s2 s3 s4 _ _ => ?_) (fun _ σ'' hM => ?_) (fun n2 _ => ?_)
    · exact (n1 ⟨s, s1, s2⟩).elim
    · exact hq σ'' _ hM.2.2.2.2.1 (fun e => absurd e (by decide)) (h.s hM)
    · exact absurd n2 n1
  · refine g_contract h.1 (fun s k s1 s2 s3 s4 _ _ => ?_) (fun n0 => ?_) (fun _ _ σ'' hM => ?_)
    · exact (n2 ⟨k, s3, s4⟩).elim
    · exact absurd n1 n0
    · exact hq σ'' _ hM.2.2.2.2.1 (fun e => absurd e (by decide)) (h.s hM)
theorem lg_mix (h : IY σx σm) (hQ : ∀ o s' σ', HQ1 2 148 [.ref 0, .int p, .int g] σm o s' σ' → Q o s' σ') : mD 57 7 [.ref 0, .int p, .int g] sh_9 σx Q := by
  obtain ⟨n, nc, ns, nd, ls, tp, B, xx, hk, a, row, h⟩ := h
  have hn := h.1.1.2
  have hnc := h.1.2.1.2
  have hns := h.1.2.2.1.2
  have hnd := h.1.2.2.2.1.2
  refine c_ymix h.1 h.2.2.2.1.1 (fun s k s1 s2 s3 s4 s5 => hQ _ _ _ (HQ1.ok fun Qm hq => ?_)) (fun n1 => hQ _ _ _ (HQ1.t1 fun Qm hq => ?_))
  · refine g_mix h.1 (fun s' k' s1' s2' s3' s4' s5' σ'' hM => ?_) (fun n1 => ?_)
    · obtain rfl := nIj (by omega) (by omega) s2 s2'
      obtain rfl := nIj (by omega) (by omega) s5 s5'
      exact hq σ'' _ hM.2.2.2.2.1 (fun _ => rfl) (h.s hM)
    · exact (n1 (And.intro ⟨s, s1, s2⟩ ⟨k, s3, s4, s5⟩)).elim
  · refine g_mix h.1 (fun s k s1 s2 s3 s4 s5 _ _ => ?_) (fun _ σ'' hM => ?_)
    · exact (n1 (And.intro ⟨s, s1, s2⟩ ⟨k, s3, s4, s5⟩)).elim
    · exact hq σ'' _ hM.2.2.2.2.1 (fun e => absurd e (by decide)) (h.s hM)
theorem lg_mesh (h : IY σx σm) (hQ : ∀ o s' σ', HQ1 2 154 [.ref 0, .int p] σm o s' σ' → Q o s' σ') : mD 57 9 [.ref 0, .int p] sh_9 σx Q := by
  obtain ⟨n, nc, ns, nd, ls, tp, B, xx, hk, a, row, h⟩ := h
  have hn := h.1.1.2
  have hnc := h.1.2.1.2
  have hns := h.1.2.2.1.2
  have hnd := h.1.2.2.2.1.2
  refine c_ymesh h.1 h.2.2.2.1.1 (fun s s1 s2 => hQ _ _ _ (HQ1.ok fun Qm hq => ?_)) (fun n1 => hQ _ _ _ (HQ1.t1 fun Qm hq => ?_))
  · refine g_mesh h.1 (fun s' s1' s2' σ'' hM => ?_) (fun n1 => ?_)
    · obtain rfl := nIj (by omega) (by omega) s2 s2'
      exact hq σ'' _ hM.2.2.2.2.1 (fun _ => rfl) (h.s hM)
    · exact (n1 ⟨s, s1, s2⟩).elim
  · refine g_mesh h.1 (fun s s1 s2 _ _ => ?_) (fun _ σ'' hM => ?_)
    · exact (n1 ⟨s, s1, s2⟩).elim
    · exact hq σ'' _ hM.2.2.2.2.1 (fun e => absurd e (by decide)) (h.s hM)
theorem lg_heap (h : IY σx σm) (hQ : ∀ o s' σ', HQ1 2 156 [.ref 0, .int g] σm o s' σ' → Q o s' σ') : mD 57 11 [.ref 0, .int g] sh_9 σx Q := by
  obtain ⟨n, nc, ns, nd, ls, tp, B, xx, hk, a, row, h⟩ := h
  have hn := h.1.1.2
  have hnc := h.1.2.1.2
  have hns := h.1.2.2.1.2
  have hnd := h.1.2.2.2.1.2
  refine c_yheap h.2.2.2.1.1 (fun k s1 s2 s3 => hQ _ _ _ (HQ1.ok fun Qm hq => ?_)) (fun n1 => hQ _ _ _ (HQ1.t1 fun Qm hq => ?_))
  · refine g_heap  (fun k' s1' s2' s3' σ'' hM => ?_) (fun n1 => ?_)
    · obtain rfl := nIj (by omega) (by omega) s3 s3'
      exact hq σ'' _ hM.2.2.2.2.1 (fun _ => rfl) (h.s hM)
    · exact (n1 ⟨k, s1, s2, s3⟩).elim
  · refine g_heap  (fun k s1 s2 s3 _ _ => ?_) (fun _ σ'' hM => ?_)
    · exact (n1 ⟨k, s1, s2, s3⟩).elim
    · exact hq σ'' _ hM.2.2.2.2.1 (fun e => absurd e (by decide)) (h.s hM)
theorem lg_way (h : IY σx σm) (hQ : ∀ o s' σ', HQ1 2 157 [.ref 0, .int p, .int w] σm o s' σ' → Q o s' σ') : mD 57 12 [.ref 0, .int p, .int w] sh_9 σx Q := by
  obtain ⟨n, nc, ns, nd, ls, tp, B, xx, hk, a, row, h⟩ := h
  have hn := h.1.1.2
  have hnc := h.1.2.1.2
  have hns := h.1.2.2.1.2
  have hnd := h.1.2.2.2.1.2
  refine c_yway h.1 h.2.2.2.1.1 (fun s o s1 s2 s3 s4 => hQ _ _ _ (HQ1.ok fun Qm hq => ?_)) (fun n1 => hQ _ _ _ (HQ1.t1 fun Qm hq => ?_))
  · refine g_way h.1 (fun s' o' s1' s2' s3' s4' σ'' hM => ?_) (fun n1 => ?_)
    · obtain rfl := oNj (by omega) s1 s1' s3 s3'
      obtain rfl := oNj (by omega) s2 s2' s4 s4'
      exact hq σ'' _ hM.2.2.2.2.1 (fun _ => rfl) (h.s hM)
    · exact (n1 (And.intro (oN_ok s1 s3) (oN_ok s2 s4))).elim
  · refine g_way h.1 (fun s o s1 s2 s3 s4 _ _ => ?_) (fun _ σ'' hM => ?_)
    · exact (n1 (And.intro (oN_ok s1 s3) (oN_ok s2 s4))).elim
    · exact hq σ'' _ hM.2.2.2.2.1 (fun e => absurd e (by decide)) (h.s hM)
theorem lg_days (h : IY σx σm) (hQ : ∀ o s' σ', HQ1 0 160 [.ref 0, .int p] σm o s' σ' → Q o s' σ') : mD 57 13 [.ref 0, .int p] sh_9 σx Q := by
  obtain ⟨n, nc, ns, nd, ls, tp, B, xx, hk, a, row, h⟩ := h
  have hn := h.1.1.2
  have hnc := h.1.2.1.2
  have hns := h.1.2.2.1.2
  have hnd := h.1.2.2.2.1.2
  refine c_ydays h.2.2.2.1.2.len h.1 h.2.2.2.1 h.2.2.2.2.2.2.2.1.1 (fun k s1 s2 s3 σ' y ym f => hQ _ _ _ (HQ1.ok fun Qm hq => ?_)) (fun n1 => hQ _ _ _ (HQ1.t1 fun Qm hq => ?_))
  · refine g_days h.2.2.2.1.2.2.1 h.2.2.2.1.2.len h.1 h.2.1 h.2.2.2.2.2.2.2.1.2.1 (fun k' s1' s2' s3' σ'' hM => ?_) (fun n1 => ?_)
    · obtain rfl := nIj (by omega) (by omega) s3 s3'
      exact hq σ'' _ hM.2.2.2.2.1 (fun _ => rfl) (h.ad (sDays_ok h.2.2.2.1.2.2.1 h.2.2.2.1.2.len h.1 _).1 (sDays_ok h.2.2.2.1.2.2.1 h.2.2.2.1.2.len h.1 _).2 y ym f hM)
    · exact (n1 ⟨k, s1, s2, s3⟩).elim
  · refine g_days h.2.2.2.1.2.2.1 h.2.2.2.1.2.len h.1 h.2.1 h.2.2.2.2.2.2.2.1.2.1 (fun k s1 s2 s3 _ _ => ?_) (fun _ σ'' hM => ?_)
    · exact (n1 ⟨k, s1, s2, s3⟩).elim
    · exact hq σ'' _ hM.2.2.2.2.1 (fun e => absurd e (by decide)) (h.s hM)
theorem lg_tip (h : IY σx σm) (hQ : ∀ o s' σ', HQ 2 1 161 [.ref 0, .int p] σm o s' σ' → Q o s' σ') : mD 57 14 [.ref 0, .int p] sh_9 σx Q := by
  obtain ⟨n, nc, ns, nd, ls, tp, B, xx, hk, a, row, h⟩ := h
  have hn := h.1.1.2
  have hnc := h.1.2.1.2
  have hns := h.1.2.2.1.2
  have hnd := h.1.2.2.2.1.2
  refine c_ytip h.1 h.2.2.2.1.1 h.2.2.2.2.2.2.2.1.1 (fun s w0 s1 s2 s3 s4 s5 σ' y => hQ _ _ _ (HQ.ok fun Qm hq => ?_)) (fun n1 => hQ _ _ _ (HQ.t1 fun Qm hq => ?_)) (fun z z1 z2 z3 => hQ _ _ _ (HQ.t2 fun Qm hq => ?_))
  · refine g_tip h.1 h.2.2.2.2.2.2.2.1.2.1 (fun s' w0' s1' s2' s3' s4' s5' σ'' hM => ?_) (fun n1 => ?_) (fun z z1 z2 z3 => ?_)
    · obtain rfl := nIj (by omega) (by omega) s2 s2'
      exact hq σ'' _ hM.2.2.2.2.1 (fun _ => rfl) (h.ya (sFe_bd h.1 (by omega) s5 s3 s4 6 (by omega)).1 (fun i hi => (sFe_bd h.1 (by omega) s5 s3 s4 6 (by omega)).2 i (by unfold kdp; omega)) y hM)
    · exact (n1 ⟨s, s1, s2⟩).elim
    · exact absurd (nIj (p := σm 1 (22 + 9 * s)) (a := w0) (b := 0) (by omega) (by omega) s4 (by rw [nIj (by omega) (by omega) s2 z2]; exact z3)) (by omega)
  · refine g_tip h.1 h.2.2.2.2.2.2.2.1.2.1 (fun s w0 s1 s2 s3 s4 s5 _ _ => ?_) (fun _ σ'' hM => ?_) (fun z z1 z2 z3 => ?_)
    · exact (n1 ⟨s, s1, s2⟩).elim
    · exact hq σ'' _ hM.2.2.2.2.1 (fun e => absurd e (by decide)) (h.s hM)
    · exact (n1 ⟨z, z1, z2⟩).elim
  · refine g_tip h.1 h.2.2.2.2.2.2.2.1.2.1 (fun s w0 s1 s2 s3 s4 s5 _ _ => ?_) (fun n0 => ?_) (fun _ _ _ _ σ'' hM => ?_)
    · exact absurd (nIj (p := σm 1 (22 + 9 * s)) (a := w0) (b := 0) (by omega) (by omega) s4 (by rw [nIj (by omega) (by omega) s2 z2]; exact z3)) (by omega)
    · exact (n0 ⟨z, z1, z2⟩).elim
    · exact hq σ'' _ hM.2.2.2.2.1 (fun e => absurd e (by decide)) (h.s hM)
theorem lg_buy (h : IY σx σm) (hQ : ∀ o s' σ', HQ 0 1 162 [.ref 0, .int p] σm o s' σ' → Q o s' σ') : mD 57 15 [.ref 0, .int p] sh_9 σx Q := by
  obtain ⟨n, nc, ns, nd, ls, tp, B, xx, hk, a, row, h⟩ := h
  have hn := h.1.1.2
  have hnc := h.1.2.1.2
  have hns := h.1.2.2.1.2
  have hnd := h.1.2.2.2.1.2
  refine c_ybuy h.1 h.2.2.2.1.1 h.2.2.2.2.2.2.2.1.1 (fun g0 t0 s1 s2 s3 s4 s5 s6 s7 σ' y => hQ _ _ _ (HQ.ok fun Qm hq => ?_)) (fun n1 => hQ _ _ _ (HQ.t1 fun Qm hq => ?_)) (fun n1 n2 => hQ _ _ _ (HQ.t2 fun Qm hq => ?_))
  · refine g_buy h.1 h.2.2.2.2.2.2.2.1.2.1 (fun g0' t0' s1' s2' s3' s4' s5' s6' s7' σ'' hM => ?_) (fun n1 => ?_) (fun n1 n2 => ?_)
    · obtain rfl := nIj (by omega) (by omega) s3 s3'
      exact hq σ'' _ hM.2.2.2.2.1 (fun _ => rfl) (h.ya (BD.addM (BD.u9 h.1 ⟨t0 - 5, by omega, by rw [s7]; exact nI_sub s5⟩) s4 s1 s2) (fun i hi => by unfold yaM; rw [upd_off (by omega), upd_off (by omega), upd_off (by omega)]) y hM)
    · exact (n1 ⟨g0, s1, s2, s3⟩).elim
    · exact (n2 (And.intro s4 (by rw [s7]; exact nI_le s5 (by omega)))).elim
  · refine g_buy h.1 h.2.2.2.2.2.2.2.1.2.1 (fun g0 t0 s1 s2 s3 s4 s5 s6 s7 _ _ => ?_) (fun _ σ'' hM => ?_) (fun n2 _ => ?_)
    · exact (n1 ⟨g0, s1, s2, s3⟩).elim
    · exact hq σ'' _ hM.2.2.2.2.1 (fun e => absurd e (by decide)) (h.s hM)
    · exact absurd n2 n1
  · refine g_buy h.1 h.2.2.2.2.2.2.2.1.2.1 (fun g0 t0 s1 s2 s3 s4 s5 s6 s7 _ _ => ?_) (fun n0 => ?_) (fun _ _ σ'' hM => ?_)
    · exact (n2 (And.intro s4 (by rw [s7]; exact nI_le s5 (by omega)))).elim
    · exact absurd n1 n0
    · exact hq σ'' _ hM.2.2.2.2.1 (fun e => absurd e (by decide)) (h.s hM)
theorem lg_take (h : IY σx σm) (hQ : ∀ o s' σ', HQ 0 1 163 [.ref 0, .int l, .int r, .int q, .int p] σm o s' σ' → Q o s' σ') : mD 57 16 [.ref 0, .int l, .int r, .int q, .int p] sh_9 σx Q := by
  obtain ⟨n, nc, ns, nd, ls, tp, B, xx, hk, a, row, h⟩ := h
  have hn := h.1.1.2
  have hnc := h.1.2.1.2
  have hns := h.1.2.2.1.2
  have hnd := h.1.2.2.2.1.2
  refine c_ytake h.1 h.2.2.2.1.1 h.2.2.2.2.2.2.2.1.1 (fun lo hi qn pn s1 s2 σ' y => hQ _ _ _ (HQ.ok fun Qm hq => ?_)) (fun n1 => hQ _ _ _ (HQ.t1 fun Qm hq => ?_)) (fun n1 n2 => hQ _ _ _ (HQ.t2 fun Qm hq => ?_))
  · refine g_take h.1 h.2.2.2.2.2.2.2.1.2.1 (fun lo' hi' qn' pn' s1' s2' σ'' hM => ?_) (fun n1 => ?_) (fun n1 n2 => ?_)
    · obtain ⟨rfl, rfl, rfl, rfl⟩ := okDj s1 s1'
      exact hq σ'' _ hM.2.2.2.2.1 (fun _ => rfl) (h.ya (BD.addD h.1 s2 s1.1 s1.2.1 s1.2.2.1 s1.2.2.2.1 s1.2.2.2.2.1 s1.2.2.2.2.2.1) (fun i hi => by unfold yaD; rw [upd_off (by omega), upd_off (by omega), upd_off (by omega), upd_off (by omega), upd_off (by omega), upd_off (by omega)]) y hM)
    · exact (n1 ⟨lo, hi, qn, pn, s1⟩).elim
    · exact absurd s2 (by omega)
  · refine g_take h.1 h.2.2.2.2.2.2.2.1.2.1 (fun lo hi qn pn s1 s2 _ _ => ?_) (fun _ σ'' hM => ?_) (fun n2 _ => ?_)
    · exact (n1 ⟨lo, hi, qn, pn, s1⟩).elim
    · exact hq σ'' _ hM.2.2.2.2.1 (fun e => absurd e (by decide)) (h.s hM)
    · exact absurd n2 n1
  · refine g_take h.1 h.2.2.2.2.2.2.2.1.2.1 (fun lo hi qn pn s1 s2 _ _ => ?_) (fun n0 => ?_) (fun _ _ σ'' hM => ?_)
    · exact absurd s2 (by omega)
    · exact absurd n1 n0
    · exact hq σ'' _ hM.2.2.2.2.1 (fun e => absurd e (by decide)) (h.s hM)
theorem lg_drop (h : IY σx σm) (hQ : ∀ o s' σ', HQv 2 1 164 [.ref 0, .int p] σm o s' σ' → Q o s' σ') : mD 57 17 [.ref 0, .int p] sh_9 σx Q := by
  obtain ⟨n, nc, ns, nd, ls, tp, B, xx, hk, a, row, h⟩ := h
  have hn := h.1.1.2
  have hnc := h.1.2.1.2
  have hns := h.1.2.2.1.2
  have hnd := h.1.2.2.2.1.2
  refine c_ydrop h.1 h.2.2.2.1.1 h.2.2.2.2.2.2.2.1.1 (fun s s1 s2 s3 σ' y => hQ _ _ _ (HQv.ok fun Qm hq => ?_)) (fun n1 => hQ _ _ _ (HQv.t1 fun Qm hq => ?_)) (fun z z1 z2 z3 => hQ _ _ _ (HQv.t2 fun Qm hq => ?_))
  · refine g_drop h.1 h.2.2.2.2.2.2.2.1.2.1 (fun s' s1' s2' s3' σ'' hM => ?_) (fun n1 => ?_) (fun z z1 z2 z3 => ?_)
    · obtain rfl := nIj (by omega) (by omega) s2 s2'
      exact hq σ'' hM.2.2.2.2.1 (h.ya (BD.uop h.1 (by omega)) (fun i hi => upd_off (by omega)) y hM)
    · exact (n1 ⟨s, s1, s2⟩).elim
    · exact absurd s3 (by rw [nIj (by omega) (by omega) s2 z2]; exact z3)
  · refine g_drop h.1 h.2.2.2.2.2.2.2.1.2.1 (fun s s1 s2 s3 _ _ => ?_) (fun _ σ'' hM => ?_) (fun z z1 z2 z3 => ?_)
    · exact (n1 ⟨s, s1, s2⟩).elim
    · exact hq σ'' hM.2.2.2.2.1 (h.s hM)
    · exact (n1 ⟨z, z1, z2⟩).elim
  · refine g_drop h.1 h.2.2.2.2.2.2.2.1.2.1 (fun s s1 s2 s3 _ _ => ?_) (fun n0 => ?_) (fun _ _ _ _ σ'' hM => ?_)
    · exact absurd s3 (by rw [nIj (by omega) (by omega) s2 z2]; exact z3)
    · exact (n0 ⟨z, z1, z2⟩).elim
    · exact hq σ'' hM.2.2.2.2.1 (h.s hM)
theorem lg_hire (h : IY σx σm) (hQ : ∀ o s' σ', HQ 0 1 165 [.ref 0, .int p, .int g] σm o s' σ' → Q o s' σ') : mD 57 18 [.ref 0, .int p, .int g] sh_9 σx Q := by
  obtain ⟨n, nc, ns, nd, ls, tp, B, xx, hk, a, row, h⟩ := h
  have hn := h.1.1.2
  have hnc := h.1.2.1.2
  have hns := h.1.2.2.1.2
  have hnd := h.1.2.2.2.1.2
  refine c_yhire h.1 h.2.2.2.1.1 h.2.2.2.2.2.2.2.1.1 (fun x0 y0 s1 s2 s3 s4 s5 s6 s7 σ' y => hQ _ _ _ (HQ.ok fun Qm hq => ?_)) (fun n1 => hQ _ _ _ (HQ.t1 fun Qm hq => ?_)) (fun n1 n2 => hQ _ _ _ (HQ.t2 fun Qm hq => ?_))
  · refine g_hire h.1 h.2.2.2.2.2.2.2.1.2.1 (fun x0' y0' s1' s2' s3' s4' s5' s6' s7' σ'' hM => ?_) (fun n1 => ?_) (fun n1 n2 => ?_)
    · obtain rfl := nIj (by omega) (by omega) s3 s3'
      obtain rfl := nIj (by omega) (by omega) s6 s6'
      exact hq σ'' _ hM.2.2.2.2.1 (fun _ => rfl) (h.ya (BD.addC h.1 s7 s1 s2 s4 s5) (fun i hi => by unfold yaC; rw [upd_off (by omega), upd_off (by omega), upd_off (by omega)]) y hM)
    · exact (n1 (And.intro ⟨x0, s1, s2, s3⟩ ⟨y0, s4, s5, s6⟩)).elim
    · exact absurd s7 (by omega)
  · refine g_hire h.1 h.2.2.2.2.2.2.2.1.2.1 (fun x0 y0 s1 s2 s3 s4 s5 s6 s7 _ _ => ?_) (fun _ σ'' hM => ?_) (fun n2 _ => ?_)
    · exact (n1 (And.intro ⟨x0, s1, s2, s3⟩ ⟨y0, s4, s5, s6⟩)).elim
    · exact hq σ'' _ hM.2.2.2.2.1 (fun e => absurd e (by decide)) (h.s hM)
    · exact absurd n2 n1
  · refine g_hire h.1 h.2.2.2.2.2.2.2.1.2.1 (fun x0 y0 s1 s2 s3 s4 s5 s6 s7 _ _ => ?_) (fun n0 => ?_) (fun _ _ σ'' hM => ?_)
    · exact absurd s7 (by omega)
    · exact absurd n1 n0
    · exact hq σ'' _ hM.2.2.2.2.1 (fun e => absurd e (by decide)) (h.s hM)
theorem lg_lay (h : IY σx σm) (hQ : ∀ o s' σ', HQ 2 0 166 [.ref 0, .int p, .int g, .int x] σm o s' σ' → Q o s' σ') : mD 57 19 [.ref 0, .int p, .int g, .int x] sh_9 σx Q := by
  obtain ⟨n, nc, ns, nd, ls, tp, B, xx, hk, a, row, h⟩ := h
  have hn := h.1.1.2
  have hnc := h.1.2.1.2
  have hns := h.1.2.2.1.2
  have hnd := h.1.2.2.2.1.2
  refine c_ylay h.1 h.2.2.2.1.1 h.2.2.2.2.2.2.2.1.1 (fun s k q0 s1 s2 s3 s4 s5 s6 s7 σ' y => hQ _ _ _ (HQ.ok fun Qm hq => ?_)) (fun n1 => hQ _ _ _ (HQ.t1 fun Qm hq => ?_)) (fun n1 n2 => hQ _ _ _ (HQ.t2 fun Qm hq => ?_))
  · refine g_lay h.1 h.2.2.2.2.2.2.2.1.2.1 (fun s' k' q0' s1' s2' s3' s4' s5' s6' s7' σ'' hM => ?_) (fun n1 => ?_) (fun n1 n2 => ?_)
    · obtain rfl := nIj (by omega) (by omega) s2 s2'
      obtain rfl := nIj (by omega) (by omega) s5 s5'
      obtain rfl := nIj (by omega) (by omega) s7 s7'
      exact hq σ'' _ hM.2.2.2.2.1 (fun _ => rfl) (h.ya (bdm h.1 (by omega) s3 s4 s6) (fun i hi => upd_off (by omega)) y hM)
    · exact (n1 (And.intro ⟨s, s1, s2⟩ ⟨k, s3, s4, s5⟩)).elim
    · exact (n2 ⟨q0, by omega, s7⟩).elim
  · refine g_lay h.1 h.2.2.2.2.2.2.2.1.2.1 (fun s k q0 s1 s2 s3 s4 s5 s6 s7 _ _ => ?_) (fun _ σ'' hM => ?_) (fun n2 _ => ?_)
    · exact (n1 (And.intro ⟨s, s1, s2⟩ ⟨k, s3, s4, s5⟩)).elim
    · exact hq σ'' _ hM.2.2.2.2.1 (fun e => absurd e (by decide)) (h.s hM)
    · exact absurd n2 n1
  · refine g_lay h.1 h.2.2.2.2.2.2.2.1.2.1 (fun s k q0 s1 s2 s3 s4 s5 s6 s7 _ _ => ?_) (fun n0 => ?_) (fun _ _ σ'' hM => ?_)
    · exact (n2 ⟨q0, by omega, s7⟩).elim
    · exact absurd n1 n0
    · exact hq σ'' _ hM.2.2.2.2.1 (fun e => absurd e (by decide)) (h.s hM)
theorem lg_fill (h : IY σx σm) (hQ : ∀ o s' σ', HQ 2 1 168 [.ref 0, .int p] σm o s' σ' → Q o s' σ') : mD 57 21 [.ref 0, .int p] sh_9 σx Q := by
  obtain ⟨n, nc, ns, nd, ls, tp, B, xx, hk, a, row, h⟩ := h
  have hn := h.1.1.2
  have hnc := h.1.2.1.2
  have hns := h.1.2.2.1.2
  have hnd := h.1.2.2.2.1.2
  refine c_yfill h.1 h.2.2.2.1.1 h.2.2.2.2.2.2.2.1.1 (fun s s1 s2 s3 σ' y => hQ _ _ _ (HQ.ok fun Qm hq => ?_)) (fun n1 => hQ _ _ _ (HQ.t1 fun Qm hq => ?_)) (fun z z1 z2 z3 => hQ _ _ _ (HQ.t2 fun Qm hq => ?_))
  · refine g_fill h.1 h.2.2.2.2.2.2.2.1.2.1 (fun s' s1' s2' s3' σ'' hM => ?_) (fun n1 => ?_) (fun z z1 z2 z3 => ?_)
    · obtain rfl := nIj (by omega) (by omega) s2 s2'
      exact hq σ'' _ hM.2.2.2.2.1 (fun _ => rfl) (h.ya (sSt_ok h.1 s1).1 (fun i hi => (sSt_ok h.1 s1).2 i (by unfold kdp; omega)) y hM)
    · exact (n1 ⟨s, s1, s2⟩).elim
    · exact absurd s3 (by rw [nIj (by omega) (by omega) s2 z2]; exact z3)
  · refine g_fill h.1 h.2.2.2.2.2.2.2.1.2.1 (fun s s1 s2 s3 _ _ => ?_) (fun _ σ'' hM => ?_) (fun z z1 z2 z3 => ?_)
    · exact (n1 ⟨s, s1, s2⟩).elim
    · exact hq σ'' _ hM.2.2.2.2.1 (fun e => absurd e (by decide)) (h.s hM)
    · exact (n1 ⟨z, z1, z2⟩).elim
  · refine g_fill h.1 h.2.2.2.2.2.2.2.1.2.1 (fun s s1 s2 s3 _ _ => ?_) (fun n0 => ?_) (fun _ _ _ _ σ'' hM => ?_)
    · exact absurd s3 (by rw [nIj (by omega) (by omega) s2 z2]; exact z3)
    · exact (n0 ⟨z, z1, z2⟩).elim
    · exact hq σ'' _ hM.2.2.2.2.1 (fun e => absurd e (by decide)) (h.s hM)
theorem lg_classOf (h : IY σx σm) (hQ : ∀ o s' σ', HQ1 2 173 [.ref 0, .int p, .int g] σm o s' σ' → Q o s' σ') : mD 57 23 [.ref 0, .int p, .int g] sh_9 σx Q := by
  obtain ⟨n, nc, ns, nd, ls, tp, B, xx, hk, a, row, h⟩ := h
  have hn := h.1.1.2
  have hnc := h.1.2.1.2
  have hns := h.1.2.2.1.2
  have hnd := h.1.2.2.2.1.2
  refine c_yclassOf h.1 h.2.2.2.1.1 (fun k s1 s2 s3 => hQ _ _ _ (HQ1.ok fun Qm hq => ?_)) (fun n1 => hQ _ _ _ (HQ1.t1 fun Qm hq => ?_))
  · refine g_classOf h.1 (fun k' s1' s2' s3' σ'' hM => ?_) (fun n1 => ?_)
    · obtain rfl := nIj (by omega) (by omega) s3 s3'
      exact hq σ'' _ hM.2.2.2.2.1 (fun _ => rfl) (h.s hM)
    · exact (n1 ⟨k, s1, s2, s3⟩).elim
  · refine g_classOf h.1 (fun k s1 s2 s3 _ _ => ?_) (fun _ σ'' hM => ?_)
    · exact (n1 ⟨k, s1, s2, s3⟩).elim
    · exact hq σ'' _ hM.2.2.2.2.1 (fun e => absurd e (by decide)) (h.s hM)
theorem lg_held (h : IY σx σm) (hQ : ∀ o s' σ', HQ1 2 174 [.ref 0, .int p, .int g] σm o s' σ' → Q o s' σ') : mD 57 24 [.ref 0, .int p, .int g] sh_9 σx Q := by
  obtain ⟨n, nc, ns, nd, ls, tp, B, xx, hk, a, row, h⟩ := h
  have hn := h.1.1.2
  have hnc := h.1.2.1.2
  have hns := h.1.2.2.1.2
  have hnd := h.1.2.2.2.1.2
  refine c_yheld h.1 h.2.2.2.1.1 (fun k s1 s2 s3 => hQ _ _ _ (HQ1.ok fun Qm hq => ?_)) (fun n1 => hQ _ _ _ (HQ1.t1 fun Qm hq => ?_))
  · refine g_held h.1 (fun k' s1' s2' s3' σ'' hM => ?_) (fun n1 => ?_)
    · obtain rfl := nIj (by omega) (by omega) s3 s3'
      exact hq σ'' _ hM.2.2.2.2.1 (fun _ => rfl) (h.s hM)
    · exact (n1 ⟨k, s1, s2, s3⟩).elim
  · refine g_held h.1 (fun k s1 s2 s3 _ _ => ?_) (fun _ σ'' hM => ?_)
    · exact (n1 ⟨k, s1, s2, s3⟩).elim
    · exact hq σ'' _ hM.2.2.2.2.1 (fun e => absurd e (by decide)) (h.s hM)
theorem lg_clean (h : IY σx σm) (hQ : ∀ o s' σ', HQ1 2 177 [.ref 0, .int p, .int s] σm o s' σ' → Q o s' σ') : mD 57 26 [.ref 0, .int p, .int s] sh_9 σx Q := by
  obtain ⟨n, nc, ns, nd, ls, tp, B, xx, hk, a, row, h⟩ := h
  have hn := h.1.1.2
  have hnc := h.1.2.1.2
  have hns := h.1.2.2.1.2
  have hnd := h.1.2.2.2.1.2
  refine c_yclean h.1 h.2.2.2.1.1 (fun k s1 s2 => hQ _ _ _ (HQ1.ok fun Qm hq => ?_)) (fun n1 => hQ _ _ _ (HQ1.t1 fun Qm hq => ?_))
  · refine g_clean h.1 (fun k' s1' s2' σ'' hM => ?_) (fun n1 => ?_)
    · obtain rfl := nIj (by omega) (by omega) s2 s2'
      exact hq σ'' _ hM.2.2.2.2.1 (fun _ => rfl) (h.s hM)
    · exact (n1 ⟨k, s1, s2⟩).elim
  · refine g_clean h.1 (fun k s1 s2 _ _ => ?_) (fun _ σ'' hM => ?_)
    · exact (n1 ⟨k, s1, s2⟩).elim
    · exact hq σ'' _ hM.2.2.2.2.1 (fun e => absurd e (by decide)) (h.s hM)
theorem lg_round (h : IY σx σm) (hQ : ∀ o s' σ', HQ1 0 178 [.ref 0] σm o s' σ' → Q o s' σ') : mD 57 27 [.ref 0] sh_9 σx Q := by
  obtain ⟨n, nc, ns, nd, ls, tp, B, xx, hk, a, row, h⟩ := h
  have hn := h.1.1.2
  have hnc := h.1.2.1.2
  have hns := h.1.2.2.1.2
  have hnd := h.1.2.2.2.1.2
  refine c_yround h.1 h.2.2.2.1.1 h.2.2.2.2.2.2.2.2.1 h.2.2.2.2.1.1 h.2.2.2.2.1.2.2.1 h.2.2.2.2.1.x (fun s1 s2 σ' e3 y f => hQ _ _ _ (HQ1.ok fun Qm hq => ?_)) (fun n1 σ' e3 f => hQ _ _ _ (HQ1.t1 fun Qm hq => ?_))
  · refine g_round h.1 h.2.2.2.2.1.2.1 h.2.2.2.2.1.2.2.1 h.2.2.2.2.1.m (fun s1' s2' σ'' hM => ?_) (fun n1 => ?_)
    · exact hq σ'' _ hM.2.2.2.2.1 (fun _ => rfl) (h.t0 y e3 (fun c hc => f c (by omega) (by omega) (by omega) (by omega)) hM)
    · exact (n1 (And.intro s1 s2)).elim
  · refine g_round h.1 h.2.2.2.2.1.2.1 h.2.2.2.2.1.2.2.1 h.2.2.2.2.1.m (fun s1 s2 _ _ => ?_) (fun _ σ'' hM => ?_)
    · exact (n1 (And.intro s1 s2)).elim
    · exact hq σ'' _ hM.2.2.2.2.1 (fun e => absurd e (by decide)) (h.t0 (h.2.2.2.2.2.2.2.2.1.cg GEO.refl (f 164 (by omega)) (f 165 (by omega)) (f 166 (by omega))) e3 (fun c hc => f c (by omega)) hM)
theorem lg_trips (h : IY σx σm) (hQ : ∀ o s' σ', HQ1 0 179 [.ref 0, .int p] σm o s' σ' → Q o s' σ') : mD 57 28 [.ref 0, .int p] sh_9 σx Q := by
  obtain ⟨n, nc, ns, nd, ls, tp, B, xx, hk, a, row, h⟩ := h
  have hn := h.1.1.2
  have hnc := h.1.2.1.2
  have hns := h.1.2.2.1.2
  have hnd := h.1.2.2.2.1.2
  refine c_ytrips h.1 h.2.2.2.1.1 h.2.2.2.2.2.2.2.2.1 (fun k s1 s2 σ' y f => hQ _ _ _ (HQ1.ok fun Qm hq => ?_)) (fun n1 => hQ _ _ _ (HQ1.t1 fun Qm hq => ?_))
  · refine g_trips h.1 (fun k' s1' s2' σ'' hM => ?_) (fun n1 => ?_)
    · obtain rfl := nIj (by omega) (by omega) s2 s2'
      exact hq σ'' _ hM.2.2.2.2.1 (fun _ => rfl) (h.rd y f hM)
    · exact (n1 ⟨k, by omega, s2⟩).elim
  · refine g_trips h.1 (fun k s1 s2 _ _ => ?_) (fun _ σ'' hM => ?_)
    · exact (n1 ⟨k, by omega, s2⟩).elim
    · exact hq σ'' _ hM.2.2.2.2.1 (fun e => absurd e (by decide)) (h.s hM)
theorem lg_blend (h : IY σx σm) (hQ : ∀ o s' σ', HQ 2 0 186 [.ref 0, .int p, .int w, .int x, .int y] σm o s' σ' → Q o s' σ') : mD 57 31 [.ref 0, .int p, .int w, .int x, .int y] sh_9 σx Q := by
  obtain ⟨n, nc, ns, nd, ls, tp, B, xx, hk, a, row, h⟩ := h
  have hn := h.1.1.2
  have hnc := h.1.2.1.2
  have hns := h.1.2.2.1.2
  have hnd := h.1.2.2.2.1.2
  refine c_yblend h.1 h.2.2.2.1.1 (fun s o g0 k s1 s2 s3 s4 s5 s6 s7 s8 s9 s10 => hQ _ _ _ (HQ.ok fun Qm hq => ?_)) (fun n1 => hQ _ _ _ (HQ.t1 fun Qm hq => ?_)) (fun n1 n2 => hQ _ _ _ (HQ.t2 fun Qm hq => ?_))
  · refine g_blend h.1 (fun s' o' g0' k' s1' s2' s3' s4' s5' s6' s7' s8' s9' s10' σ'' hM => ?_) (fun n1 => ?_) (fun n1 n2 => ?_)
    · obtain rfl := nIj (by omega) (by omega) s2 s2'
      obtain rfl := nIj (by omega) (by omega) s4 s4'
      obtain rfl := nIj (by omega) (by omega) s7 s7'
      obtain rfl := nIj (by omega) (by omega) s10 s10'
      exact hq σ'' _ hM.2.2.2.2.1 (fun _ => rfl) (h.s hM)
    · exact (n1 (And.intro ⟨s, s1, s2⟩ (And.intro ⟨o, s3, s4⟩ ⟨g0, s5, s6, s7⟩))).elim
    · exact Or.elim n2 (fun e => absurd (nIj (by omega) (by omega) s2 (e.trans s4)) s8) (fun e => (e ⟨k, by omega, s9, s10⟩).elim)
  · refine g_blend h.1 (fun s o g0 k s1 s2 s3 s4 s5 s6 s7 s8 s9 s10 _ _ => ?_) (fun _ σ'' hM => ?_) (fun n2 _ => ?_)
    · exact (n1 (And.intro ⟨s, s1, s2⟩ (And.intro ⟨o, s3, s4⟩ ⟨g0, s5, s6, s7⟩))).elim
    · exact hq σ'' _ hM.2.2.2.2.1 (fun e => absurd e (by decide)) (h.s hM)
    · exact absurd n2 n1
  · refine g_blend h.1 (fun s o g0 k s1 s2 s3 s4 s5 s6 s7 s8 s9 s10 _ _ => ?_) (fun n0 => ?_) (fun _ _ σ'' hM => ?_)
    · exact Or.elim n2 (fun e => absurd (nIj (by omega) (by omega) s2 (e.trans s4)) s8) (fun e => (e ⟨k, by omega, s9, s10⟩).elim)
    · exact absurd n1 n0
    · exact hq σ'' _ hM.2.2.2.2.1 (fun e => absurd e (by decide)) (h.s hM)
theorem lg_from (h : IY σx σm) (hQ : ∀ o s' σ', HQ1 0 188 [.ref 0] σm o s' σ' → Q o s' σ') : mD 57 32 [.ref 0] sh_9 σx Q := by
  obtain ⟨n, nc, ns, nd, ls, tp, B, xx, hk, a, row, h⟩ := h
  have hn := h.1.1.2
  have hnc := h.1.2.1.2
  have hns := h.1.2.2.1.2
  have hnd := h.1.2.2.2.1.2
  refine c_yfrom h.1 h.2.2.2.1.1 h.2.2.2.2.1.1 h.2.2.2.2.1.2.2.1 h.2.2.2.2.1.x (fun s1 σ' y => hQ _ _ _ (HQ1.ok fun Qm hq => ?_)) (fun n1 σ' y => hQ _ _ _ (HQ1.t1 fun Qm hq => ?_))
  · refine g_from h.1 h.2.2.2.2.1.2.1 h.2.2.2.2.1.2.2.1 h.2.2.2.2.1.m (fun s1' σ'' hM => ?_) (fun n1 => ?_)
    · exact hq σ'' _ hM.2.2.2.2.1 (fun _ => rfl) (h.gx y hM)
    · exact (n1 s1).elim
  · refine g_from h.1 h.2.2.2.2.1.2.1 h.2.2.2.2.1.2.2.1 h.2.2.2.2.1.m (fun s1 _ _ => ?_) (fun _ σ'' hM => ?_)
    · exact (n1 s1).elim
    · exact hq σ'' _ hM.2.2.2.2.1 (fun e => absurd e (by decide)) (h.gx y hM)
theorem lg_likely (h : IY σx σm) (hQ : ∀ o s' σ', HQ1 0 189 [.ref 0] σm o s' σ' → Q o s' σ') : mD 57 33 [.ref 0] sh_9 σx Q := by
  obtain ⟨n, nc, ns, nd, ls, tp, B, xx, hk, a, row, h⟩ := h
  have hn := h.1.1.2
  have hnc := h.1.2.1.2
  have hns := h.1.2.2.1.2
  have hnd := h.1.2.2.2.1.2
  refine c_ylikely h.1 h.2.2.2.1.1 h.2.2.2.2.1.1 h.2.2.2.2.1.2.2.1 h.2.2.2.2.1.x (fun s1 σ' y => hQ _ _ _ (HQ1.ok fun Qm hq => ?_)) (fun n1 σ' y => hQ _ _ _ (HQ1.t1 fun Qm hq => ?_))
  · refine g_likely h.1 h.2.2.2.2.1.2.1 h.2.2.2.2.1.2.2.1 h.2.2.2.2.1.m (fun s1' σ'' hM => ?_) (fun n1 => ?_)
    · exact hq σ'' _ hM.2.2.2.2.1 (fun _ => rfl) (h.gx y hM)
    · exact (n1 s1).elim
  · refine g_likely h.1 h.2.2.2.2.1.2.1 h.2.2.2.2.1.2.2.1 h.2.2.2.2.1.m (fun s1 _ _ => ?_) (fun _ σ'' hM => ?_)
    · exact (n1 s1).elim
    · exact hq σ'' _ hM.2.2.2.2.1 (fun e => absurd e (by decide)) (h.gx y hM)
theorem lg_ask (h : IY σx σm) (hQ : ∀ o s' σ', HQ1 0 191 [.ref 0] σm o s' σ' → Q o s' σ') : mD 57 34 [.ref 0] sh_9 σx Q := by
  obtain ⟨n, nc, ns, nd, ls, tp, B, xx, hk, a, row, h⟩ := h
  have hn := h.1.1.2
  have hnc := h.1.2.1.2
  have hns := h.1.2.2.1.2
  have hnd := h.1.2.2.2.1.2
  refine c_yask h.1 h.2.2.2.1.1 h.2.2.2.2.1.1 h.2.2.2.2.1.2.2.1 h.2.2.2.2.1.x (fun s1 σ' y => hQ _ _ _ (HQ1.ok fun Qm hq => ?_)) (fun n1 σ' y => hQ _ _ _ (HQ1.t1 fun Qm hq => ?_))
  · refine g_ask h.1 h.2.2.2.2.1.2.1 h.2.2.2.2.1.2.2.1 h.2.2.2.2.1.m (fun s1' σ'' hM => ?_) (fun n1 => ?_)
    · exact hq σ'' _ hM.2.2.2.2.1 (fun _ => rfl) (h.gx y hM)
    · exact (n1 s1).elim
  · refine g_ask h.1 h.2.2.2.2.1.2.1 h.2.2.2.2.1.2.2.1 h.2.2.2.2.1.m (fun s1 _ _ => ?_) (fun _ σ'' hM => ?_)
    · exact (n1 s1).elim
    · exact hq σ'' _ hM.2.2.2.2.1 (fun e => absurd e (by decide)) (h.gx y hM)
theorem lg_meshes (h : IY σx σm) (hu : u = (if bo = true then nI 1 else nI 0)) (hQ : ∀ o s' σ', HQ1 0 196 [.ref 0, .int u] σm o s' σ' → Q o s' σ') : mD 57 35 [.ref 0, .int u] sh_9 σx Q := by
  obtain ⟨n, nc, ns, nd, ls, tp, B, xx, hk, a, row, h⟩ := h
  have hn := h.1.1.2
  have hnc := h.1.2.1.2
  have hns := h.1.2.2.1.2
  have hnd := h.1.2.2.2.1.2
  refine c_ymeshes hu h.2.2.2.2.1.1 h.2.2.2.2.1.2.2.1 h.2.2.2.2.1.x (fun s1 σ' y => hQ _ _ _ (HQ1.ok fun Qm hq => ?_)) (fun n1 σ' y => hQ _ _ _ (HQ1.t1 fun Qm hq => ?_))
  · refine g_meshes hu h.2.2.2.2.1.2.1 h.2.2.2.2.1.2.2.1 h.2.2.2.2.1.m (fun s1' σ'' hM => ?_) (fun n1 => ?_)
    · exact hq σ'' _ hM.2.2.2.2.1 (fun _ => rfl) (h.gx y hM)
    · exact (n1 s1).elim
  · refine g_meshes hu h.2.2.2.2.1.2.1 h.2.2.2.2.1.2.2.1 h.2.2.2.2.1.m (fun s1 _ _ => ?_) (fun _ σ'' hM => ?_)
    · exact (n1 s1).elim
    · exact hq σ'' _ hM.2.2.2.2.1 (fun e => absurd e (by decide)) (h.gx y hM)
theorem lg_sift (h : IY σx σm) (hQ : ∀ o s' σ', HQ1 0 197 [.ref 0] σm o s' σ' → Q o s' σ') : mD 57 36 [.ref 0] sh_9 σx Q := by
  obtain ⟨n, nc, ns, nd, ls, tp, B, xx, hk, a, row, h⟩ := h
  have hn := h.1.1.2
  have hnc := h.1.2.1.2
  have hns := h.1.2.2.1.2
  have hnd := h.1.2.2.2.1.2
  refine c_ysift h.2.2.2.2.1.1 h.2.2.2.2.1.2.2.1 h.2.2.2.2.1.x (fun s1 σ' y => hQ _ _ _ (HQ1.ok fun Qm hq => ?_)) (fun n1 σ' y => hQ _ _ _ (HQ1.t1 fun Qm hq => ?_))
  · refine g_sift h.2.2.2.2.1.2.1 h.2.2.2.2.1.2.2.1 h.2.2.2.2.1.m (fun s1' σ'' hM => ?_) (fun n1 => ?_)
    · exact hq σ'' _ hM.2.2.2.2.1 (fun _ => rfl) (h.gx y hM)
    · exact (n1 s1).elim
  · refine g_sift h.2.2.2.2.1.2.1 h.2.2.2.2.1.2.2.1 h.2.2.2.2.1.m (fun s1 _ _ => ?_) (fun _ σ'' hM => ?_)
    · exact (n1 s1).elim
    · exact hq σ'' _ hM.2.2.2.2.1 (fun e => absurd e (by decide)) (h.gx y hM)
theorem lg_pairs (h : IY σx σm) (hQ : ∀ o s' σ', HQ1 2 204 [.ref 0, .int p] σm o s' σ' → Q o s' σ') : mD 57 39 [.ref 0, .int p] sh_9 σx Q := by
  obtain ⟨n, nc, ns, nd, ls, tp, B, xx, hk, a, row, h⟩ := h
  have hn := h.1.1.2
  have hnc := h.1.2.1.2
  have hns := h.1.2.2.1.2
  have hnd := h.1.2.2.2.1.2
  refine c_ypairs h.1 h.2.2.2.1.1 (fun s s1 s2 σ' y => hQ _ _ _ (HQ1.ok fun Qm hq => ?_)) (fun n1 => hQ _ _ _ (HQ1.t1 fun Qm hq => ?_))
  · refine g_pairs h.1 (fun s' s1' s2' σ'' hM => ?_) (fun n1 => ?_)
    · obtain rfl := oNj (by omega) s1 s1' s2 s2'
      exact hq σ'' _ hM.2.2.2.2.1 (fun _ => rfl) (h.dx y hM)
    · exact (n1 (oN_ok s1 s2)).elim
  · refine g_pairs h.1 (fun s s1 s2 _ _ => ?_) (fun _ σ'' hM => ?_)
    · exact (n1 (oN_ok s1 s2)).elim
    · exact hq σ'' _ hM.2.2.2.2.1 (fun e => absurd e (by decide)) (h.s hM)
theorem lg_share (h : IY σx σm) (hQ : ∀ o s' σ', HQ 2 0 205 [.ref 0, .int p, .int w] σm o s' σ' → Q o s' σ') : mD 57 40 [.ref 0, .int p, .int w] sh_9 σx Q := by
  obtain ⟨n, nc, ns, nd, ls, tp, B, xx, hk, a, row, h⟩ := h
  have hn := h.1.1.2
  have hnc := h.1.2.1.2
  have hns := h.1.2.2.1.2
  have hnd := h.1.2.2.2.1.2
  refine c_yshare h.1 h.2.2.2.1.1 (fun c k s1 s2 s3 s4 σ' y => hQ _ _ _ (HQ.ok fun Qm hq => ?_)) (fun n1 => hQ _ _ _ (HQ.t1 fun Qm hq => ?_)) (fun n1 n2 => hQ _ _ _ (HQ.t2 fun Qm hq => ?_))
  · refine g_share h.1 (fun c' k' s1' s2' s3' s4' σ'' hM => ?_) (fun n1 => ?_) (fun n1 n2 => ?_)
    · obtain rfl := nIj (by omega) (by omega) s2 s2'
      obtain rfl := nIj (by omega) (by omega) s4 s4'
      exact hq σ'' _ hM.2.2.2.2.1 (fun _ => rfl) (h.q (fun c hc => y c (by omega)) hM)
    · exact (n1 ⟨c, s1, s2⟩).elim
    · exact (n2 ⟨k, by omega, s3, s4⟩).elim
  · refine g_share h.1 (fun c k s1 s2 s3 s4 _ _ => ?_) (fun _ σ'' hM => ?_) (fun n2 _ => ?_)
    · exact (n1 ⟨c, s1, s2⟩).elim
    · exact hq σ'' _ hM.2.2.2.2.1 (fun e => absurd e (by decide)) (h.s hM)
    · exact absurd n2 n1
  · refine g_share h.1 (fun c k s1 s2 s3 s4 _ _ => ?_) (fun n0 => ?_) (fun _ _ σ'' hM => ?_)
    · exact (n2 ⟨k, by omega, s3, s4⟩).elim
    · exact absurd n1 n0
    · exact hq σ'' _ hM.2.2.2.2.1 (fun e => absurd e (by decide)) (h.s hM)
theorem lg_rests (h : IY σx σm) (hQ : ∀ o s' σ', HQ1 2 208 [.ref 0, .int p] σm o s' σ' → Q o s' σ') : mD 57 41 [.ref 0, .int p] sh_9 σx Q := by
  obtain ⟨n, nc, ns, nd, ls, tp, B, xx, hk, a, row, h⟩ := h
  have hn := h.1.1.2
  have hnc := h.1.2.1.2
  have hns := h.1.2.2.1.2
  have hnd := h.1.2.2.2.1.2
  refine c_yrests h.1 h.2.2.2.1.1 (fun s s1 s2 => hQ _ _ _ (HQ1.ok fun Qm hq => ?_)) (fun n1 => hQ _ _ _ (HQ1.t1 fun Qm hq => ?_))
  · refine g_rests h.1 (fun s' s1' s2' σ'' hM => ?_) (fun n1 => ?_)
    · obtain rfl := nIj (by omega) (by omega) s2 s2'
      exact hq σ'' _ hM.2.2.2.2.1 (fun _ => rfl) (h.s hM)
    · exact (n1 ⟨s, s1, s2⟩).elim
  · refine g_rests h.1 (fun s s1 s2 _ _ => ?_) (fun _ σ'' hM => ?_)
    · exact (n1 ⟨s, s1, s2⟩).elim
    · exact hq σ'' _ hM.2.2.2.2.1 (fun e => absurd e (by decide)) (h.s hM)
theorem lg_odds (h : IY σx σm) (hQ : ∀ o s' σ', HQ1 0 209 [.ref 0, .int p, .int w] σm o s' σ' → Q o s' σ') : mD 57 42 [.ref 0, .int p, .int w] sh_9 σx Q := by
  obtain ⟨n, nc, ns, nd, ls, tp, B, xx, hk, a, row, h⟩ := h
  have hn := h.1.1.2
  have hnc := h.1.2.1.2
  have hns := h.1.2.2.1.2
  have hnd := h.1.2.2.2.1.2
  refine c_yodds h.1 h.2.2.2.1.1 (fun k o s1 s2 s3 s4 => hQ _ _ _ (HQ1.ok fun Qm hq => ?_)) (fun n1 => hQ _ _ _ (HQ1.t1 fun Qm hq => ?_))
  · refine g_odds h.1 (fun k' o' s1' s2' s3' s4' σ'' hM => ?_) (fun n1 => ?_)
    · obtain rfl := nIj (by omega) (by omega) s2 s2'
      obtain rfl := nIj (by omega) (by omega) s4 s4'
      exact hq σ'' _ hM.2.2.2.2.1 (fun _ => rfl) (h.s hM)
    · exact (n1 (And.intro ⟨k, by omega, s1, s2⟩ ⟨o, by omega, s3, s4⟩)).elim
  · refine g_odds h.1 (fun k o s1 s2 s3 s4 _ _ => ?_) (fun _ σ'' hM => ?_)
    · exact (n1 (And.intro ⟨k, by omega, s1, s2⟩ ⟨o, by omega, s3, s4⟩)).elim
    · exact hq σ'' _ hM.2.2.2.2.1 (fun e => absurd e (by decide)) (h.s hM)
theorem lg_most (h : IY σx σm) (hQ : ∀ o s' σ', HQ1 4 211 [.ref 0, .int w] σm o s' σ' → Q o s' σ') : mD 57 43 [.ref 0, .int w] sh_9 σx Q := by
  obtain ⟨n, nc, ns, nd, ls, tp, B, xx, hk, a, row, h⟩ := h
  have hn := h.1.1.2
  have hnc := h.1.2.1.2
  have hns := h.1.2.2.1.2
  have hnd := h.1.2.2.2.1.2
  refine c_ymost h.1 h.2.2.2.1.1 (fun k s1 s2 => hQ _ _ _ (HQ1.ok fun Qm hq => ?_)) (fun n1 => hQ _ _ _ (HQ1.t1 fun Qm hq => ?_))
  · refine g_most h.1 (fun k' s1' s2' σ'' hM => ?_) (fun n1 => ?_)
    · obtain rfl := nIj (by omega) (by omega) s2 s2'
      exact hq σ'' _ hM.2.2.2.2.1 (fun _ => rfl) (h.s hM)
    · exact (n1 ⟨k, s1, s2⟩).elim
  · refine g_most h.1 (fun k s1 s2 _ _ => ?_) (fun _ σ'' hM => ?_)
    · exact (n1 ⟨k, s1, s2⟩).elim
    · exact hq σ'' _ hM.2.2.2.2.1 (fun e => absurd e (by decide)) (h.s hM)
theorem lg_wanted (h : IY σx σm) (hQ : ∀ o s' σ', HQ1 2 214 [.ref 0, .int p] σm o s' σ' → Q o s' σ') : mD 57 46 [.ref 0, .int p] sh_9 σx Q := by
  obtain ⟨n, nc, ns, nd, ls, tp, B, xx, hk, a, row, h⟩ := h
  have hn := h.1.1.2
  have hnc := h.1.2.1.2
  have hns := h.1.2.2.1.2
  have hnd := h.1.2.2.2.1.2
  refine c_ywanted h.1 h.2.2.2.1.1 (fun k s1 s2 s3 => hQ _ _ _ (HQ1.ok fun Qm hq => ?_)) (fun n1 => hQ _ _ _ (HQ1.t1 fun Qm hq => ?_))
  · refine g_wanted h.1 (fun k' s1' s2' s3' σ'' hM => ?_) (fun n1 => ?_)
    · obtain rfl := nIj (by omega) (by omega) s3 s3'
      exact hq σ'' _ hM.2.2.2.2.1 (fun _ => rfl) (h.s hM)
    · exact (n1 ⟨k, s1, s2, s3⟩).elim
  · refine g_wanted h.1 (fun k s1 s2 s3 _ _ => ?_) (fun _ σ'' hM => ?_)
    · exact (n1 ⟨k, s1, s2, s3⟩).elim
    · exact hq σ'' _ hM.2.2.2.2.1 (fun e => absurd e (by decide)) (h.s hM)
theorem lg_ahead (h : IY σx σm) (hQ : ∀ o s' σ', HQ 2 0 215 [.ref 0, .int p, .int w] σm o s' σ' → Q o s' σ') : mD 57 47 [.ref 0, .int p, .int w] sh_9 σx Q := by
  obtain ⟨n, nc, ns, nd, ls, tp, B, xx, hk, a, row, h⟩ := h
  have hn := h.1.1.2
  have hnc := h.1.2.1.2
  have hns := h.1.2.2.1.2
  have hnd := h.1.2.2.2.1.2
  refine c_yahead h.2.2.2.1.2.len h.1 h.2.2.2.1 (fun s s1 s2 k s3 s4 σ' y f => hQ _ _ _ (HQ.ok fun Qm hq => ?_)) (fun n1 => hQ _ _ _ (HQ.t1 fun Qm hq => ?_)) (fun n1 n2 => hQ _ _ _ (HQ.t2 fun Qm hq => ?_))
  · refine g_ahead h.2.2.2.1.2.2.1 h.2.2.2.1.2.len h.1 h.2.1 (fun s' s1' s2' k' s3' s4' σ'' hM => ?_) (fun n1 => ?_) (fun n1 n2 => ?_)
    · obtain rfl := oNj (by omega) s1 s1' s2 s2'
      obtain rfl := nIj (by omega) (by omega) s4 s4'
      exact hq σ'' _ hM.2.2.2.2.1 (fun _ => rfl) (h.fx y f hM)
    · exact (n1 (oN_ok s1 s2)).elim
    · exact (n2 ⟨k, by omega, s3, s4⟩).elim
  · refine g_ahead h.2.2.2.1.2.2.1 h.2.2.2.1.2.len h.1 h.2.1 (fun s s1 s2 k s3 s4 _ _ => ?_) (fun _ σ'' hM => ?_) (fun n2 _ => ?_)
    · exact (n1 (oN_ok s1 s2)).elim
    · exact hq σ'' _ hM.2.2.2.2.1 (fun e => absurd e (by decide)) (h.s hM)
    · exact absurd n2 n1
  · refine g_ahead h.2.2.2.1.2.2.1 h.2.2.2.1.2.len h.1 h.2.1 (fun s s1 s2 k s3 s4 _ _ => ?_) (fun n0 => ?_) (fun _ _ σ'' hM => ?_)
    · exact (n2 ⟨k, by omega, s3, s4⟩).elim
    · exact absurd n1 n0
    · exact hq σ'' _ hM.2.2.2.2.1 (fun e => absurd e (by decide)) (h.s hM)
theorem lg_trial (h : IY σx σm) (hu : u = (if bo = true then nI 1 else nI 0)) (hQ : ∀ o s' σ', HQ1 0 216 [.ref 0, .int p, .int u] σm o s' σ' → Q o s' σ') : mD 57 48 [.ref 0, .int p, .int u] sh_9 σx Q := by
  obtain ⟨n, nc, ns, nd, ls, tp, B, xx, hk, a, row, h⟩ := h
  have hn := h.1.1.2
  have hnc := h.1.2.1.2
  have hns := h.1.2.2.1.2
  have hnd := h.1.2.2.2.1.2
  refine c_ytrial hu h.2.2.2.1.2.len h.1 h.2.2.2.1 (fun k s1 s2 σ' y f => hQ _ _ _ (HQ1.ok fun Qm hq => ?_)) (fun n1 => hQ _ _ _ (HQ1.t1 fun Qm hq => ?_))
  · refine g_trial hu h.2.2.2.1.2.2.1 h.2.2.2.1.2.len h.1 h.2.1 (fun k' s1' s2' σ'' hM => ?_) (fun n1 => ?_)
    · obtain rfl := nIj (by omega) (by omega) s2 s2'
      exact hq σ'' _ hM.2.2.2.2.1 (fun _ => rfl) (h.fx y f hM)
    · exact (n1 ⟨k, by omega, s1, s2⟩).elim
  · refine g_trial hu h.2.2.2.1.2.2.1 h.2.2.2.1.2.len h.1 h.2.1 (fun k s1 s2 _ _ => ?_) (fun _ σ'' hM => ?_)
    · exact (n1 ⟨k, by omega, s1, s2⟩).elim
    · exact hq σ'' _ hM.2.2.2.2.1 (fun e => absurd e (by decide)) (h.s hM)
theorem lg_span (h : IY σx σm) (hu : u = (if bo = true then nI 1 else nI 0)) (hQ : ∀ o s' σ', HQ1 0 217 [.ref 0, .int p, .int u] σm o s' σ' → Q o s' σ') : mD 57 49 [.ref 0, .int p, .int u] sh_9 σx Q := by
  obtain ⟨n, nc, ns, nd, ls, tp, B, xx, hk, a, row, h⟩ := h
  have hn := h.1.1.2
  have hnc := h.1.2.1.2
  have hns := h.1.2.2.1.2
  have hnd := h.1.2.2.2.1.2
  refine c_yspan hu h.2.2.2.1.2.len h.1 h.2.2.2.1 (fun k s1 s2 σ' y f => hQ _ _ _ (HQ1.ok fun Qm hq => ?_)) (fun n1 => hQ _ _ _ (HQ1.t1 fun Qm hq => ?_))
  · refine g_span hu h.2.2.2.1.2.2.1 h.2.2.2.1.2.len h.1 h.2.1 (fun k' s1' s2' σ'' hM => ?_) (fun n1 => ?_)
    · obtain rfl := nIj (by omega) (by omega) s2 s2'
      exact hq σ'' _ hM.2.2.2.2.1 (fun _ => rfl) (h.fx y f hM)
    · exact (n1 ⟨k, by omega, s1, s2⟩).elim
  · refine g_span hu h.2.2.2.1.2.2.1 h.2.2.2.1.2.len h.1 h.2.1 (fun k s1 s2 _ _ => ?_) (fun _ σ'' hM => ?_)
    · exact (n1 ⟨k, by omega, s1, s2⟩).elim
    · exact hq σ'' _ hM.2.2.2.2.1 (fun e => absurd e (by decide)) (h.s hM)
theorem lg_led (h : IY σx σm) (hu : u = (if bo = true then nI 1 else nI 0)) (hQ : ∀ o s' σ', HQ1 2 219 [.ref 0, .int p, .int u] σm o s' σ' → Q o s' σ') : mD 57 50 [.ref 0, .int p, .int u] sh_9 σx Q := by
  obtain ⟨n, nc, ns, nd, ls, tp, B, xx, hk, a, row, h⟩ := h
  have hn := h.1.1.2
  have hnc := h.1.2.1.2
  have hns := h.1.2.2.1.2
  have hnd := h.1.2.2.2.1.2
  obtain ⟨ll, hll, hl⟩ := h.1.2.2.2.2.2.2.2.2.2.2.2
  refine c_yled hu h.1 hl hll h.2.2.2.1.1 (fun s r0 s1 s2 s3 => hQ _ _ _ (HQ1.ok fun Qm hq => ?_)) (fun n1 => hQ _ _ _ (HQ1.t1 fun Qm hq => ?_))
  · refine g_led hu h.1 hl hll (fun s' r0' s1' s2' s3' σ'' hM => ?_) (fun n1 => ?_)
    · obtain rfl := nIj (by omega) (by omega) s2 s2'
      obtain rfl := led1 s3 s3'
      exact hq σ'' _ hM.2.2.2.2.1 (fun _ => rfl) (h.s hM)
    · exact (n1 ⟨s, s1, s2⟩).elim
  · refine g_led hu h.1 hl hll (fun s r0 s1 s2 s3 _ _ => ?_) (fun _ σ'' hM => ?_)
    · exact (n1 ⟨s, s1, s2⟩).elim
    · exact hq σ'' _ hM.2.2.2.2.1 (fun e => absurd e (by decide)) (h.s hM)
theorem lg_log (h : IY σx σm) (hQ : ∀ o s' σ', HQ1 4 220 [.ref 0, .int p, .int w] σm o s' σ' → Q o s' σ') : mD 57 51 [.ref 0, .int p, .int w] sh_9 σx Q := by
  obtain ⟨n, nc, ns, nd, ls, tp, B, xx, hk, a, row, h⟩ := h
  have hn := h.1.1.2
  have hnc := h.1.2.1.2
  have hns := h.1.2.2.1.2
  have hnd := h.1.2.2.2.1.2
  obtain ⟨ll, hll, hl⟩ := h.1.2.2.2.2.2.2.2.2.2.2.2
  refine c_ylog hl hll h.2.2.2.1.1 (fun s k s1 s2 s3 s4 => hQ _ _ _ (HQ1.ok fun Qm hq => ?_)) (fun n1 n2 => hQ _ _ _ (HQ1.ok fun Qm hq => ?_)) (fun n1 => hQ _ _ _ (HQ1.t1 fun Qm hq => ?_))
  · refine g_log hl hll (fun s' k' s1' s2' s3' s4' σ'' hM => ?_) (fun n1 => ?_) (fun n1 => ?_)
    · obtain rfl := nIj (by omega) (by omega) s2 s2'
      obtain rfl := nIj (by omega) (by omega) s4 s4'
      exact hq σ'' _ hM.2.2.2.2.1 (fun _ => rfl) (h.s hM)
    · exact (n1 ⟨s, s1, s2⟩).elim
    · exact (n1 ⟨k, s3, s4⟩).elim
  · refine g_log hl hll (fun s' k' s1' s2' s3' s4' σ'' hM => ?_) (fun _ _ σ'' hM => ?_) (fun n3 => ?_)
    · exact (n1 ⟨s', s1', s2'⟩).elim
    · exact hq σ'' _ hM.2.2.2.2.1 (fun _ => rfl) (h.s hM)
    · exact absurd n2 n3
  · refine g_log hl hll (fun s' k' s1' s2' s3' s4' σ'' hM => ?_) (fun _ n2 => ?_) (fun _ σ'' hM => ?_)
    · exact (n1 ⟨k', s3', s4'⟩).elim
    · exact absurd n2 n1
    · exact hq σ'' _ hM.2.2.2.2.1 (fun e => absurd e (by decide)) (h.s hM)
theorem lg_yard (h : IY σx σm) (hQ : ∀ o s' σ', HQ 0 3 120 [.ref 0] σm o s' σ' → Q o s' σ') : mD 57 3 [.ref 0] sh_9 σx Q := by
  obtain ⟨n, nc, ns, nd, ls, tp, B, xx, hk, a, row, h⟩ := h
  have hn := h.1.1.2
  have hnc := h.1.2.1.2
  have hns := h.1.2.2.1.2
  have hnd := h.1.2.2.2.1.2
  have hg := fun Qm : mPst => g_yard (Q := Qm) (d := 49) h.1 h.2.2.1.1 h.2.2.1.2 h.2.2.2.2.1.2.1 h.2.2.2.2.1.2.2.1 h.2.2.2.2.1.tx.2
  refine c_yyard h.1 h.2.2.1.1 h.2.2.1.2 h.2.2.2.1.1 h.2.2.2.2.2.2.2.1.1 h.2.2.2.2.1.1 h.2.2.2.2.1.2.2.1 h.2.2.2.2.1.tx.1 (fun s' e hI hx σ' y ym e13 f0 f1 e4 f => hQ _ _ _ (HQ.ok fun Qm hq => ?_)) (fun s' e hx σ' e13 y => hQ _ _ _ (HQ.t2 fun Qm hq => ?_)) (fun e0 e σ' e13 y => hQ _ _ _ (HQ.t1 fun Qm hq => ?_))
  · refine hg Qm (fun s2 e2 hI2 _ σ'' hM => ?_) (fun s2 e2 z => absurd z hx) (fun e2 e3 => by rw [e] at e3; cases e3)
    rw [e] at e2
    cases e2
    exact hq σ'' _ hM.2.2.2.2.1 (fun _ => rfl) (h.yd hI hx y ym e13 f0 f1 e4 f hM)
  · refine hg Qm (fun s2 e2 _ z => absurd hx z) (fun s2 e2 _ σ'' hM => ?_) (fun e2 e3 => by rw [e] at e3; cases e3)
    exact hq σ'' _ hM.2.2.2.2.1 (fun e => absurd e (by decide)) (h.bad e13 y hM)
  · refine hg Qm (fun s2 e2 => by rw [e] at e2; cases e2) (fun s2 e2 => by rw [e] at e2; cases e2) (fun e2 e3 _ σ'' hM => ?_)
    rw [e] at e3
    cases e3
    exact hq σ'' _ hM.2.2.2.2.1 (fun e => absurd e (by decide)) (h.bad e13 y hM)
theorem lg_law (h : IY σx σm) (hQ : ∀ o s' σ', HQ1 0 128 [.ref 0] σm o s' σ' → Q o s' σ') : mD 57 4 [.ref 0] sh_9 σx Q := by
  obtain ⟨n, nc, ns, nd, ls, tp, B, xx, hk, a, row, h⟩ := h
  have hn := h.1.1.2
  have hnc := h.1.2.1.2
  have hns := h.1.2.2.1.2
  have hnd := h.1.2.2.2.1.2
  have hg := fun Qm : mPst => g_law (Q := Qm) (d := 27) h.2.2.2.2.2.2.2.2.2 h.2.2.2.2.1.2.1 h.2.2.2.2.1.2.2.1 h.2.2.2.2.1.tx.2
  refine c_ylaw h.2.2.2.2.2.2.2.1.1 h.2.2.2.2.1.1 h.2.2.2.2.1.2.2.1 h.2.2.2.2.1.tx.1 (fun ls' e hO hl σ' y ym e13 f0 f1 f => hQ _ _ _ (HQ1.ok fun Qm hq => ?_)) (fun e0 e σ' e13 y => hQ _ _ _ (HQ1.t1 fun Qm hq => ?_))
  · refine hg Qm (fun s2 e2 _ _ f2 σ'' g1 g2 g3 g4 hM => ?_) (fun e2 e3 => by rw [e] at e3; cases e3)
    rw [e] at e2
    cases e2
    exact hq σ'' _ hM.2.2.2.2.1 (fun _ => rfl) (h.lw e y ym e13 f0 f1 f g1 g2 g3 g4 hM)
  · refine hg Qm (fun s2 e2 => by rw [e] at e2; cases e2) (fun e2 e3 _ σ'' hM => ?_)
    rw [e] at e3
    cases e3
    exact hq σ'' _ hM.2.2.2.2.1 (fun e => absurd e (by decide)) (h.bad e13 y hM)
theorem lg_douse (h : IY σx σm) (hQ : ∀ o s' σ', DQ 167 [.ref 0] σm o s' σ' → Q o s' σ') : mD 58 20 [.ref 0] sh_9 σx Q := by
  obtain ⟨n, nc, ns, nd, ls, tp, B, xx, hk, a, row, h⟩ := h
  have hn := h.1.1.2
  have hnc := h.1.2.1.2
  have hns := h.1.2.2.1.2
  have hnd := h.1.2.2.2.1.2
  refine c_ydouse h.1 h.2.2.2.1.1 h.2.2.2.2.2.2.2.1.1 (fun σ' y => hQ _ _ _ (DQ.ok fun Qm hq => ?_))
  exact g_douse h.1 h.2.2.2.2.2.2.2.1.2.1 (fun σ'' hM => hq σ'' (h.ya (BD.u11 h.1 (Or.inl rfl)) (fun i hi => upd_off (by omega)) y hM))
theorem lg_classes (h : IY σx σm) (hQ : ∀ o s' σ', DQ 172 [.ref 0, .int p] σm o s' σ' → Q o s' σ') : mD 58 22 [.ref 0, .int p] sh_9 σx Q := by
  obtain ⟨n, nc, ns, nd, ls, tp, B, xx, hk, a, row, h⟩ := h
  have hn := h.1.1.2
  have hnc := h.1.2.1.2
  have hns := h.1.2.2.1.2
  have hnd := h.1.2.2.2.1.2
  refine c_yclasses h.1 h.2.2.2.1.1 (hQ _ _ _ (DQ.ok fun Qm hq => ?_))
  exact g_classes h.1 (fun σ'' hM => hq σ'' (h.s hM))
theorem lg_fewest (h : IY σx σm) (hQ : ∀ o s' σ', DQ 176 [.ref 0] σm o s' σ' → Q o s' σ') : mD 58 25 [.ref 0] sh_9 σx Q := by
  obtain ⟨n, nc, ns, nd, ls, tp, B, xx, hk, a, row, h⟩ := h
  have hn := h.1.1.2
  have hnc := h.1.2.1.2
  have hns := h.1.2.2.1.2
  have hnd := h.1.2.2.2.1.2
  refine c_yfewest h.1 h.2.2.2.1.1 (hQ _ _ _ (DQ.ok fun Qm hq => ?_))
  exact g_fewest h.1 (fun σ'' hM => hq σ'' (h.s hM))
theorem lg_worth (h : IY σx σm) (hQ : ∀ o s' σ', DQ 184 [.ref 0] σm o s' σ' → Q o s' σ') : mD 58 29 [.ref 0] sh_9 σx Q := by
  obtain ⟨n, nc, ns, nd, ls, tp, B, xx, hk, a, row, h⟩ := h
  have hn := h.1.1.2
  have hnc := h.1.2.1.2
  have hns := h.1.2.2.1.2
  have hnd := h.1.2.2.2.1.2
  refine c_yworth h.1 h.2.2.2.1.1 (fun σ' y => hQ _ _ _ (DQ.ok fun Qm hq => ?_))
  exact g_worth h.1 (fun σ'' hM => hq σ'' (h.dx y hM))
theorem lg_serves (h : IY σx σm) (hQ : ∀ o s' σ', DQ 185 [.ref 0] σm o s' σ' → Q o s' σ') : mD 58 30 [.ref 0] sh_9 σx Q := by
  obtain ⟨n, nc, ns, nd, ls, tp, B, xx, hk, a, row, h⟩ := h
  have hn := h.1.1.2
  have hnc := h.1.2.1.2
  have hns := h.1.2.2.1.2
  have hnd := h.1.2.2.2.1.2
  refine c_yserves h.1 h.2.2.2.1.1 (fun σ' y => hQ _ _ _ (DQ.ok fun Qm hq => ?_))
  exact g_serves h.1 (fun σ'' hM => hq σ'' (h.dx y hM))
theorem lg_ends (h : IY σx σm) (hQ : ∀ o s' σ', DQ 199 [.ref 0] σm o s' σ' → Q o s' σ') : mD 58 37 [.ref 0] sh_9 σx Q := by
  obtain ⟨n, nc, ns, nd, ls, tp, B, xx, hk, a, row, h⟩ := h
  have hn := h.1.1.2
  have hnc := h.1.2.1.2
  have hns := h.1.2.2.1.2
  have hnd := h.1.2.2.2.1.2
  refine c_yends h.2.2.2.1.1 (hQ _ _ _ (DQ.ok fun Qm hq => ?_))
  exact g_ends  (fun σ'' hM => hq σ'' (h.s hM))
theorem lg_side (h : IY σx σm) (hQ : ∀ o s' σ', DQ 200 [.ref 0] σm o s' σ' → Q o s' σ') : mD 58 38 [.ref 0] sh_9 σx Q := by
  obtain ⟨n, nc, ns, nd, ls, tp, B, xx, hk, a, row, h⟩ := h
  have hn := h.1.1.2
  have hnc := h.1.2.1.2
  have hns := h.1.2.2.1.2
  have hnd := h.1.2.2.2.1.2
  refine c_yside h.2.2.2.1.1 (hQ _ _ _ (DQ.ok fun Qm hq => ?_))
  exact g_side  (fun σ'' hM => hq σ'' (h.s hM))
theorem lg_open (h : IY σx σm) (hu : u = (if bo = true then nI 1 else nI 0)) (hQ : ∀ o s' σ', DQ 212 [.ref 0, .int u] σm o s' σ' → Q o s' σ') : mD 58 44 [.ref 0, .int u] sh_9 σx Q := by
  obtain ⟨n, nc, ns, nd, ls, tp, B, xx, hk, a, row, h⟩ := h
  have hn := h.1.1.2
  have hnc := h.1.2.1.2
  have hns := h.1.2.2.1.2
  have hnd := h.1.2.2.2.1.2
  refine c_yopen hu h.1 h.2.2.2.1.1 (hQ _ _ _ (DQ.ok fun Qm hq => ?_))
  exact g_open hu h.1 (fun σ'' hM => hq σ'' (h.s hM))
theorem lg_twins (h : IY σx σm) (hQ : ∀ o s' σ', DQ 213 [.ref 0] σm o s' σ' → Q o s' σ') : mD 58 45 [.ref 0] sh_9 σx Q := by
  obtain ⟨n, nc, ns, nd, ls, tp, B, xx, hk, a, row, h⟩ := h
  have hn := h.1.1.2
  have hnc := h.1.2.1.2
  have hns := h.1.2.2.1.2
  have hnd := h.1.2.2.2.1.2
  refine c_ytwins h.1 h.2.2.2.1.1 (hQ _ _ _ (DQ.ok fun Qm hq => ?_))
  exact g_twins h.1 (fun σ'' hM => hq σ'' (h.s hM))
theorem lg_seed (h : IY σx σm) (hQ : ∀ o s' σ', DQ 221 [.ref 0, .int v] σm o s' σ' → Q o s' σ') : mD 58 52 [.ref 0, .int v] sh_9 σx Q := by
  obtain ⟨n, nc, ns, nd, ls, tp, B, xx, hk, a, row, h⟩ := h
  have hn := h.1.1.2
  have hnc := h.1.2.1.2
  have hns := h.1.2.2.1.2
  have hnd := h.1.2.2.2.1.2
  refine c_yseed h.2.2.2.1.1 (fun σ' y f => hQ _ _ _ (DQ.ok fun Qm hq => ?_))
  exact g_seed  (fun σ'' hM => hq σ'' (h.sd y f hM))
theorem lg_fault (h : IY σx σm) (hQ : ∀ o s' σ', DQ 129 [.ref 0] σm o s' σ' → Q o s' σ') : mD 58 5 [.ref 0] sh_9 σx Q := by
  obtain ⟨n, nc, ns, nd, ls, tp, B, xx, hk, a, row, h⟩ := h
  have hn := h.1.1.2
  have hnc := h.1.2.1.2
  have hns := h.1.2.2.1.2
  have hnd := h.1.2.2.2.1.2
  refine c_yfault (hQ _ _ _ (DQ.ok fun Qm hq => ?_))
  refine g_fault (fun σ'' hM => ?_)
  rw [← h.2.2.2.2.2.1]
  exact hq σ'' (h.s hM)
theorem lg_count (h : IY σx σm) (hQ : ∀ o s' σ', DQ 225 [.ref 0, .int p] σm o s' σ' → Q o s' σ') : mD 58 56 [.ref 0, .int p] sh_9 σx Q := by
  obtain ⟨n, nc, ns, nd, ls, tp, B, xx, hk, a, row, h⟩ := h
  have hn := h.1.1.2
  have hnc := h.1.2.1.2
  have hns := h.1.2.2.1.2
  have hnd := h.1.2.2.2.1.2
  have e6 : σx 53 1 = σm 0 6 := ymc h.2.2.2.2.2.2.2.1.1 h.2.2.2.2.2.2.2.1.2.1
  refine c_ycount h.1 h.2.2.2.1.1 h.2.2.2.1.2.1 (fun k s1 s2 => hQ _ _ _ (DQ.ok fun Qm hq => ?_)) (fun n1 => hQ _ _ _ (DQ.ok fun Qm hq => ?_))
  · refine g_count (fun k' s1' s2' σ'' hM => ?_) (fun n1 => (n1 ⟨k, s1, s2⟩).elim)
    obtain rfl := nIj (by omega) (by omega) s2 s2'
    rw [← e6]
    exact hq σ'' (h.s hM)
  · exact g_count (fun k' s1' s2' => (n1 ⟨k', s1', s2'⟩).elim) (fun _ σ'' hM => hq σ'' (h.s hM))
theorem lg_undo (h : IY σx σm) (hQ : ∀ o s' σ', DQ 222 [.ref 0] σm o s' σ' → Q o s' σ') : mD 58 53 [.ref 0] sh_9 σx Q := by
  obtain ⟨n, nc, ns, nd, ls, tp, B, xx, hk, a, row, h⟩ := h
  have hn := h.1.1.2
  have hnc := h.1.2.1.2
  have hns := h.1.2.2.1.2
  have hnd := h.1.2.2.2.1.2
  have hr : 0 < a → b01 (row 0 11) := fun z => by
    obtain ⟨⟨_, _, _, hb⟩, _⟩ := h.2.2.2.2.2.2.2.1.2.2 0 z
    exact hb.2.2.2.2.2.2.2.2.2.2.1
  refine c_yundo hr h.2.2.2.2.2.2.2.1.1 (fun e => hQ _ _ _ (DQ.ok fun Qm hq => ?_)) (fun a' e σ' y => hQ _ _ _ (DQ.ok fun Qm hq => ?_))
  · exact g_undo h.2.2.2.2.2.2.2.1.2.1 (fun _ σ'' hM => hq σ'' (h.s hM)) (fun a' e2 => absurd e (by omega))
  · refine g_undo h.2.2.2.2.2.2.2.1.2.1 (fun e2 => absurd e (by omega)) (fun a2 e2 σ'' f f1 f2 hM => ?_)
    have ea : a2 = a' := by omega
    subst ea
    exact hq σ'' (h.und e f1 f2 y hM)
theorem lg_back (h : IY σx σm) (hQ : ∀ o s' σ', DQ 224 [.ref 0] σm o s' σ' → Q o s' σ') : mD 58 55 [.ref 0] sh_9 σx Q := by
  obtain ⟨n, nc, ns, nd, ls, tp, B, xx, hk, a, row, h⟩ := h
  have hn := h.1.1.2
  have hnc := h.1.2.1.2
  have hns := h.1.2.2.1.2
  have hnd := h.1.2.2.2.1.2
  obtain ⟨k1, k2, k3, k4⟩ := h.2.2.2.2.2.2.1
  have hz : hk = 0 ∨ hk = 1 := by omega
  rcases hz with rfl | rfl
  · refine c_yback (m := fun _ => nI 0) (v := nI 0) (ls := []) k1 k2 (fun z => absurd z (by omega)) h.2.2.2.2.2.2.2.1.1 h.2.2.2.2.2.2.2.2.1.1 (fun _ => hQ _ _ _ (DQ.ok fun Qm hq => ?_)) (fun z => absurd z (by omega))
    exact g_back k3 k1 (fun _ σ'' hM => hq σ'' (h.s hM)) (fun z => absurd z (by omega))
  · obtain ⟨n', nc', ns', nd', lk, x', g1, g2, g3, g4⟩ := k4 rfl
    refine c_yback k1 k2 (fun _ => ⟨g1.2.2.2.2.2.2.2.2.2.2.1, g4⟩) h.2.2.2.2.2.2.2.1.1 h.2.2.2.2.2.2.2.2.1.1 (fun z => absurd z (by omega)) (fun _ σ' y ym e5 e4 e => hQ _ _ _ (DQ.ok fun Qm hq => ?_))
    exact g_back k3 k1 (fun z => absurd z (by omega)) (fun _ σ'' m1 m2 m5 m00 m03 m06 m08 m12 m15 => hq σ'' (h.bck g1 g2 g3 y ym e5 e4 e m1 m2 m5 m03 m06 m08 m12 m15))
theorem lg_image (h : IY σx σm) (hQ : ∀ o s' σ', DQv 223 [.ref 0] σm o s' σ' → Q o s' σ') : mD 58 54 [.ref 0] sh_9 σx Q := by
  obtain ⟨n, nc, ns, nd, ls, tp, B, xx, hk, a, row, h⟩ := h
  have hn := h.1.1.2
  have hnc := h.1.2.1.2
  have hns := h.1.2.2.1.2
  have hnd := h.1.2.2.2.1.2
  refine c_yimage h.1.2.2.2.2.2.2.2.2.2.2.1 h.2.2.2.1 (fun σ' y e12 e0 e => hQ _ _ _ (DQv.ok fun Qm hq => ?_))
  exact g_image (fun σ'' m1 m2 m4 m00 m03 m06 m08 m12 m15 => hq σ'' (h.img y e12 e0 e m1 m2 m4 m03 m06 m08 m12 m15))
theorem lg_feed {p q r s t : Int32} (h : IY σx σm) (hQ : ∀ o s' σ', DQ 95 [.ref 0, .int p, .int q, .int r, .int s, .int t] σm o s' σ' → Q o s' σ') : mD 58 1 [.ref 0, .int p, .int q, .int r, .int s, .int t] sh_9 σx Q := by
  obtain ⟨n, nc, ns, nd, ls, tp, B, xx, hk, a, row, h⟩ := h
  have hn := h.1.1.2
  have hnc := h.1.2.1.2
  have hns := h.1.2.2.1.2
  have hnd := h.1.2.2.2.1.2
  refine c_yfeed h.2.2.2.2.1.1 h.2.2.2.2.1.2.2.1 (fun z σ' y => hQ _ _ _ (DQ.ok fun Qm hq => ?_)) (fun z => hQ _ _ _ (DQ.ok fun Qm hq => ?_))
  · refine g_feed h.2.2.2.2.1.2.1 h.2.2.2.2.1.2.2.1 (fun _ σ'' hM => ?_) (fun z2 => absurd z (by omega))
    obtain ⟨B', hT⟩ := h.2.2.2.2.1.fed y hM z
    exact hq σ'' (h.tape hT y.2.2.2 hM.2.2.2.1 hM.2.2.2.2.2)
  · refine g_feed h.2.2.2.2.1.2.1 h.2.2.2.2.1.2.2.1 (fun z2 => absurd z (by omega)) (fun _ => ?_)
    exact hq _ (h.tape (B' := B) h.2.2.2.2.1.m0 (fun _ _ => rfl) (fun c hc _ => mput_c hc) (fun i hi _ => mput_i hi))
theorem lg_end (h : IY σx σm) (hQ : ∀ o s' σ', DQ 96 [.ref 0, .int p] σm o s' σ' → Q o s' σ') : mD 58 2 [.ref 0, .int p] sh_9 σx Q := by
  obtain ⟨n, nc, ns, nd, ls, tp, B, xx, hk, a, row, h⟩ := h
  have hn := h.1.1.2
  have hnc := h.1.2.1.2
  have hns := h.1.2.2.1.2
  have hnd := h.1.2.2.2.1.2
  refine c_yend h.2.2.2.2.1.1 h.2.2.2.2.1.2.2.1 (fun k s1 s2 σ' y1 y2 y => hQ _ _ _ (DQ.ok fun Qm hq => ?_)) (fun z => hQ _ _ _ (DQ.ok fun Qm hq => ?_))
  · refine g_end h.2.2.2.2.1.2.1 h.2.2.2.2.1.2.2.1 (fun k' s1' s2' => ?_) (fun z2 => (z2 ⟨k, by omega, s2⟩).elim)
    have ht4 := h.2.2.2.2.1.2.2.1
    obtain rfl := nIj (by omega) (by omega) s2 s2'
    refine hq _ (h.tape (B' := B) (h.2.2.2.2.1.cutS s1 y1 y2 rfl rfl) y (fun c hc _ => (mput_c hc).trans (mput_c hc)) (fun i hi h8 => (mput_i h8).trans (mput_i hi)))
  · refine g_end h.2.2.2.2.1.2.1 h.2.2.2.2.1.2.2.1 (fun k' s1' s2' => (z ⟨k', by omega, s2'⟩).elim) (fun _ => ?_)
    exact hq _ (h.tape (B' := B) h.2.2.2.2.1.m0 (fun _ _ => rfl) (fun c hc _ => mput_c hc) (fun i hi _ => mput_i hi))
end LOG
