/-! THE CLASS: a day -/
def DW (σ : mSg) (m : Nat → Int32) (v : Int32) (ls : List lLn) : Prop := RS σ m ∧ Lw (fun j => σ (mgl [(9, 7)] j)) v ls
section DWS
variable {σ σ2 : mSg} {m m' : Nat → Int32} {v : Int32} {ls : List lLn}
theorem RS.sub (h : RS σ m) : RS (fun j => σ (mgl [(0, 9)] j)) m := h.congr (fun c hc => by show σ (mgl [(0, 9)] c) = σ c; rw [mgl9 hc, Nat.zero_add])
theorem RS.up (h : RS σ2 m) : RS (mback [(0, 9)] σ σ2) m := h.congr (fun c hc => by rw [mback_in (by omega), Nat.sub_zero])
theorem DW.bs (h : DW σ m v ls) (h2 : RS σ2 m') : DW (mback [(0, 9)] σ σ2) m' v ls := ⟨h2.up, h.2⟩
theorem DW.put (h : DW σ m v ls) {k i : Nat} (hr : rp 0 k = some i) (x : Int32) : DW (mput σ 0 k x) (upd m i x) v ls := ⟨h.1.put hr x, h.2⟩
theorem mgl_97 {c : Nat} (h : c < 9) : mgl [(9, 7), (0, 9)] (mgl [(7, 9)] c) = c := by
  rw [mgl9 h]
  unfold mgl
  rw [show Nat.blt (7 + c) 7 = false from by
    cases hb : Nat.blt (7 + c) 7 with
    | false => rfl
    | true => have h1 : 7 + c + 1 ≤ 7 := Nat.le_of_ble_eq_true hb; omega]
  show mgl [(0, 9)] (7 + c - 7) = c
  rw [Nat.add_sub_cancel_left, mgl9 h, Nat.zero_add]
theorem DW.law (h : DW σ m v ls) : Lw (fun j => σ (mgl [(9, 7), (0, 9)] j)) v ls := h.2
theorem DW.sta (h : DW σ m v ls) : RS (fun j => σ (mgl [(9, 7), (0, 9)] (mgl [(7, 9)] j))) m := h.1.congr (fun c hc => by show σ (mgl [(9, 7), (0, 9)] (mgl [(7, 9)] c)) = σ c; rw [mgl_97 hc])
theorem DW.bl (h2 : Lw σ2 v ls) (h3 : RS (fun j => σ2 (mgl [(7, 9)] j)) m) : DW (mback [(9, 7), (0, 9)] σ σ2) m v ls := by
  refine ⟨h3.congr (fun c hc => ?_), h2⟩
  show mback [(9, 7), (0, 9)] σ σ2 c = σ2 (mgl [(7, 9)] c)
  unfold mback
  rw [mlo_skip (by omega), mlo_in (by omega), mgl9 hc]
  show σ2 (c - 0 + 7) = σ2 (7 + c)
  congr 1; omega
end DWS
theorem sMin_comm {a b : Int32} : sMin a b = sMin b a := by
  unfold sMin
  by_cases h : a < b
  · rw [if_pos h, if_neg (fun z => Int32.lt_irrefl (Int32.lt_trans h z))]
  · by_cases h2 : b < a
    · rw [if_neg h, if_pos h2]
    · rw [if_neg h, if_neg h2]
      exact Int32.le_antisymm (Int32.not_lt.mp h) (Int32.not_lt.mp h2)
def bw (m : Nat → Int32) : Option Nat → Int32
  | none => nI 0
  | some b => m (22 + 9 * b)
def btl (ls : List lLn) (m : Nat → Int32) : Option Nat → Int32
  | none => nI 0
  | some b => sTo ls m b
theorem c_logAddE {d : Nat} {σ : mSg} {m : Nat → Int32} {Q : mPst} {a b c e f a' b' c' e' f' : Int32} (ea : a' = a) (eb : b' = b) (ec : c' = c) (ee : e' = e) (ef : f' = f) (hR : RLg σ m) (hq : ∀ σ', RLg σ' (sLog m a b c e f) → Q (.inl none) sh_3 σ') : mD (d + 1) 265 [.ref 0, .int a', .int b', .int c', .int e', .int f'] sh_3 σ Q := by
  subst ea; subst eb; subst ec; subst ee; subst ef
  exact c_logAdd hR hq
theorem c_fetchE {d : Nat} {σ : mSg} {m : Nat → Int32} {Q : mPst} {s : Nat} {n n' : Int32} (e : n' = n) (hs : s < 7) (hR : RS σ m) (hq : ∀ σ', RS σ' (sFe m s n 6) → Q (.inl none) sh_7 σ') : mD (d + 2) 315 [.ref 0, .int (nI s), .int n'] sh_7 σ Q := by
  subst e
  exact c_fetch hs hR hq
section CDA
variable {d : Nat} {σ : mSg} {m : Nat → Int32} {v : Int32} {ls : List lLn} {Q : mPst} {n nc ns nd : Nat}
theorem c_fillBins (hO : lOks ls) (hl : ls.length ≤ 12) (hB : BD m n nc ns nd) (hD : DW σ m v ls) (hq : ∀ σ', DW σ' (sFB ls m n) v ls → Q (.inl none) sh_7_2 σ') : mD (d + 5) 227 [.ref 0, .ref 9] sh_7_2 σ Q := by
  have hn := hB.1.2
  refine ⟨rfl, fun X hX => ?_⟩
  have loop : ∀ j k σ1, n - k = j → k ≤ n → DW σ1 (sFB ls m k) v ls → X 2 [some (.ref 0), some (.ref 9), some (.int (nI k)), none] [] sh_7_2 σ1 0 0 := by
    intro j
    induction j with
    | zero =>
      intro k σ1 hj hk h1
      obtain ⟨hB1, -⟩ := sFB_ok hO hl hB k hk
      have e3 : σ1 0 7 = nI n := (h1.1.get rf0.1).trans hB1.1.1
      refine hX _ _ _ _ _ _ _ ?_
      refine b_ge rfl e3 (by omega) (by omega) (fun _ => ?_) (fun h => by omega)
      refine hX _ _ _ _ _ _ _ ?_
      have ek : k = n := by omega
      subst ek
      exact hq σ1 h1
    | succ j ih =>
      intro k σ1 hj hk h1
      obtain ⟨hB1, -⟩ := sFB_ok hO hl hB k hk
      have e3 : σ1 0 7 = nI n := (h1.1.get rf0.1).trans hB1.1.1
      refine hX _ _ _ _ _ _ _ ?_
      refine b_ge rfl e3 (by omega) (by omega) (fun h => by omega) (fun _ => ?_)
      refine c_waitsOf (by omega) h1.1.sub ?_
      have h2 : DW (mback [(0, 9)] σ1 (fun j => σ1 (mgl [(0, 9)] j))) (sFB ls m k) v ls := h1.bs h1.1.sub
      refine c_fillsOf rfl (by omega) hB1.2.2.2.2.2.2.2.2.2.2.1 h2.law h2.sta ?_
      intro σ3 l3 r3
      have h3 := DW.bl (σ := mback [(0, 9)] σ1 (fun j => σ1 (mgl [(0, 9)] j))) l3 r3
      refine c_setWaits (by omega) h3.1.sub ?_
      intro σ4 r4
      have h9 := ih (k + 1) _ (by omega) (by omega) (h3.bs r4)
      rw [← nI_1 k] at h9
      exact h9
  refine hX _ _ _ _ _ _ _ ?_
  exact loop _ 0 σ rfl (Nat.zero_le _) hD
theorem c_sendOut {c : Nat} (hO : lOks ls) (hl : ls.length ≤ 12) (hB : BD m n nc ns nd) (hc : c < nc) (hD : DW σ m v ls) (hq : ∀ σ', DW σ' (sDr ls m n c) v ls → Q (.inl none) sh_7_2 σ') : mD (d + 5) 228 [.ref 0, .ref 9, .int (nI c)] sh_7_2 σ Q := by
  have hn := hB.1.2
  have hnc := hB.2.1.2
  have h11 := hB.2.2.2.2.2.2.2.2.2.2.1
  refine ⟨rfl, fun X hX => ?_⟩
  have loop : ∀ j k σ1, n - k = j → k ≤ n → DW σ1 m v ls → X 11 [some (.ref 0), some (.ref 9), some (.int (nI c)), some (.int (oN (selD ls m c k))), some (.int (bw m (selD ls m c k))), some (.int (btl ls m (selD ls m c k))), some (.int (nI k)), none] [] sh_7_2 σ1 0 0 := by
    intro j
    induction j with
    | zero =>
      intro k σ1 hj hk h1
      have e3 : σ1 0 7 = nI n := (h1.1.get rf0.1).trans hB.1.1
      have ek : k = n := by omega
      subst ek
      refine hX _ _ _ _ _ _ _ ?_
      refine b_ge rfl e3 (by omega) (by omega) (fun _ => ?_) (fun h => by omega)
      refine hX _ _ _ _ _ _ _ ?_
      unfold sDr at hq
      cases hsel : selD ls m c k with
      | none =>
        rw [hsel] at hq
        refine ⟨fun _ => ?_, fun h => absurd rfl h⟩
        refine hX _ _ _ _ _ _ _ ?_
        exact hq σ1 h1
      | some b =>
        rw [hsel] at hq
        obtain ⟨hb, -⟩ := selD_ok k b hsel
        refine ⟨fun h => absurd h (oN_ne (by omega)), fun _ => ?_⟩
        refine c_holdOf (by omega) h1.1.sub ?_
        have h2 : DW (mback [(0, 9)] σ1 (fun j => σ1 (mgl [(0, 9)] j))) m v ls := h1.bs h1.1.sub
        have e9 : (mback [(0, 9)] σ1 (fun j => σ1 (mgl [(0, 9)] j))) 0 14 = m 9 := h2.1.get rf0.2.2.2.2.2.2.2.1
        have h3 : DW (mput (mback [(0, 9)] σ1 (fun j => σ1 (mgl [(0, 9)] j))) 0 14 ((mback [(0, 9)] σ1 (fun j => σ1 (mgl [(0, 9)] j))) 0 14 - sTo ls m b)) (upd m 9 (m 9 - sTo ls m b)) v ls := by
          rw [e9]
          exact h2.put rf0.2.2.2.2.2.2.2.1 (m 9 - sTo ls m b)
        refine c_fetchE (n := sMin (m (83 + 2 * c)) (m (22 + 9 * b))) sMin_comm (by omega) h3.1.sub ?_
        intro σ4 r4
        have h4 := h3.bs r4
        refine c_logAddE (a := sDr1 ls m c b 10) (f := sMin (m (83 + 2 * c)) (m (22 + 9 * b))) (m := sDr1 ls m c b) (h4.1.get rf0.2.2.2.2.2.2.2.2.1) rfl rfl rfl sMin_comm h4.1.log ?_
        intro σ5 l5
        refine hX _ _ _ _ _ _ _ ?_
        exact hq _ ⟨h4.1.ofLog l5 (fun i hi hi2 => sLog_off i hi hi2), h4.2⟩
    | succ j ih =>
      intro k σ1 hj hk h1
      have e3 : σ1 0 7 = nI n := (h1.1.get rf0.1).trans hB.1.1
      obtain ⟨w, hw, ew⟩ := (hB.2.2.2.2.1 k (by omega)).2.2.1
      have skip : ∀ σ2, DW σ2 m v ls → selD ls m c (k + 1) = selD ls m c k → X 74 [some (.ref 0), some (.ref 9), some (.int (nI c)), some (.int (oN (selD ls m c k))), some (.int (bw m (selD ls m c k))), some (.int (btl ls m (selD ls m c k))), some (.int (nI k)), none] [] sh_7_2 σ2 0 0 := by
        intro σ2 h2 es
        refine hX _ _ _ _ _ _ _ ?_
        have h9 := ih (k + 1) σ2 (by omega) (by omega) h2
        rw [es, ← nI_1 k] at h9
        exact h9
      refine hX _ _ _ _ _ _ _ ?_
      refine b_ge rfl e3 (by omega) (by omega) (fun h => by omega) (fun _ => ?_)
      refine c_waitsOf (by omega) h1.1.sub ?_
      have h2 : DW (mback [(0, 9)] σ1 (fun j => σ1 (mgl [(0, 9)] j))) m v ls := h1.bs h1.1.sub
      refine ⟨fun hle => ?_, fun hle => ?_⟩
      · have hle : m (22 + 9 * k) ≤ bw m (selD ls m c k) := hle
        refine skip _ h2 ?_
        rw [selD]
        split
        · rfl
        · rename_i hcn
          cases hsel : selD ls m c k with
          | none =>
            rw [hsel, ew] at hle
            have : w = 0 := by
              have := (nI_leI (a := w) (b := 0) (by omega) (by omega)).mp hle
              omega
            exact absurd (Or.inl (by rw [ew, this])) hcn
          | some b =>
            rw [hsel] at hle
            have hle : m (22 + 9 * k) ≤ m (22 + 9 * b) := hle
            show (if m (22 + 9 * b) < m (22 + 9 * k) then some k else some b) = some b
            rw [if_neg (Int32.not_lt.mpr hle)]
      · have hle : ¬ m (22 + 9 * k) ≤ bw m (selD ls m c k) := hle
        have hnz : ¬ m (22 + 9 * k) = nI 0 := by
          intro z
          rw [z] at hle
          cases hsel : selD ls m c k with
          | none => rw [hsel] at hle; exact hle (Int32.le_refl _)
          | some b =>
            obtain ⟨hb, -⟩ := selD_ok k b hsel
            obtain ⟨w2, hw2, ew2⟩ := (hB.2.2.2.2.1 b (by omega)).2.2.1
            rw [hsel] at hle
            have hle : ¬ nI 0 ≤ m (22 + 9 * b) := hle
            rw [ew2] at hle
            exact hle (nI_le (by omega) (by omega))
        refine c_isReached (by omega) (by omega) h2.1.sub (fun hr => ?_) (fun hr => ?_)
        · have h3 := h2.bs h2.1.sub
          refine ⟨fun h => absurd h (by decide +kernel), fun _ => ?_⟩
          refine c_tollOf rfl (by omega) h11 h3.law h3.sta ?_
          intro σ4 l4 r4
          have h4 := DW.bl (σ := mback [(0, 9)] (mback [(0, 9)] σ1 (fun j => σ1 (mgl [(0, 9)] j))) (fun j => (mback [(0, 9)] σ1 (fun j => σ1 (mgl [(0, 9)] j))) (mgl [(0, 9)] j))) l4 r4
          have e9 := h4.1.get rf0.2.2.2.2.2.2.2.1
          refine ⟨fun ht => ?_, fun ht => ?_⟩
          · have ht : m 9 < sTo ls m k := Int32.lt_of_le_of_lt (Int32.le_of_eq e9.symm) ht
            refine skip _ h4 ?_
            rw [selD, if_pos (Or.inr (Or.inr (Int32.not_le.mpr ht)))]
          · have ht : ¬ m 9 < sTo ls m k := fun z => ht (Int32.lt_of_le_of_lt (Int32.le_of_eq e9) z)
            have es : selD ls m c (k + 1) = some k := by
              rw [selD, if_neg (fun z => z.elim hnz (fun z => z.elim (fun z => z hr) (fun z => z (Int32.not_lt.mp ht))))]
              cases hsel : selD ls m c k with
              | none => rfl
              | some b =>
                rw [hsel] at hle
                exact if_pos (Int32.not_le.mp hle)
            refine c_waitsOf (by omega) h4.1.sub ?_
            have h5 := h4.bs h4.1.sub
            refine hX _ _ _ _ _ _ _ ?_
            have h9 := ih (k + 1) _ (by omega) (by omega) h5
            rw [es, ← nI_1 k] at h9
            exact h9
        · have h3 := h2.bs h2.1.sub
          refine ⟨fun _ => ?_, fun h => absurd rfl h⟩
          refine skip _ h3 ?_
          have hr : ¬ nI 2 * sWay m (some k) none ≤ m (84 + 2 * c) := hr
          rw [selD, if_pos (Or.inr (Or.inl hr))]
  refine hX _ _ _ _ _ _ _ ?_
  exact loop _ 0 σ rfl (Nat.zero_le _) hD
end CDA
