/-! THE CLASS: days, days that do not stay, undoing, the image -/
def AD (σ σ' : mSg) : Prop := ∀ c, c < 5 ∨ (14 ≤ c ∧ c < 32) ∨ (39 ≤ c ∧ c < 53) ∨ 163 ≤ c → σ' c = σ c
def RD (σ : mSg) (m : Nat → Int32) : Prop := RS (fun c => σ (14 + c)) m
theorem mgl_h {b k c : Nat} {r : List (Nat × Nat)} (h : c < k) : mgl ((b, k) :: r) c = b + c := by
  unfold mgl
  rw [show Nat.blt c k = true from Nat.ble_eq_true_of_le h]
def sAh (ls : List lLn) (m : Nat → Int32) (n nc nd : Nat) (k : Nat) : Option Nat → Int32
  | none => sHS (sDays ls false n nc nd m k).1 1 6
  | some s => (sDays ls false n nc nd m k).1 (22 + 9 * s)
def sTl (ls : List lLn) (m : Nat → Int32) (n nc nd : Nat) (k : Nat) (heap : Bool) : Int32 := if heap = true then sHS (sDays ls true n nc nd m k).1 1 6 else (sDays ls true n nc nd m k).1 9
def tlN (ls : List lLn) (m : Nat → Int32) (n nc nd N s : Nat) : Nat := ((sDays ls true n nc nd (upd m 13 (nI s)) N).1 9).toNatClampNeg
def spA (ls : List lLn) (m : Nat → Int32) (n nc nd N : Nat) (most : Bool) : Nat → Nat
  | 0 => if most = true then 0 else 9999
  | k + 1 => if most = true then max (spA ls m n nc nd N most k) (tlN ls m n nc nd N (k + 1)) else min (spA ls m n nc nd N most k) (tlN ls m n nc nd N (k + 1))
theorem tlN_ok {ls : List lLn} {m : Nat → Int32} {n nc ns nd N s : Nat} (hO : lOks ls) (hl : ls.length ≤ 12) (hB : BD m n nc ns nd) : (sDays ls true n nc nd (upd m 13 (nI s)) N).1 9 = nI (tlN ls m n nc nd N s) ∧ tlN ls m n nc nd N s ≤ 9999 := by
  have h1 : BD (upd m 13 (nI s)) n nc ns nd := hB.u0 (by unfold rel; omega)
  obtain ⟨q, hq, e⟩ := (sDays_ok (dr := true) hO hl h1 N).1.2.2.2.2.2.2.2.2.2.1
  have e2 : tlN ls m n nc nd N s = q := by unfold tlN; rw [e, nI_clamp (by omega)]
  rw [e2]
  exact ⟨e, hq⟩
theorem spA_le {ls : List lLn} {m : Nat → Int32} {n nc ns nd N : Nat} {most : Bool} (hO : lOks ls) (hl : ls.length ≤ 12) (hB : BD m n nc ns nd) : ∀ k, spA ls m n nc nd N most k ≤ 9999
  | 0 => by unfold spA; split <;> omega
  | k + 1 => by
    have h1 := spA_le (most := most) (N := N) hO hl hB k
    have h2 := (tlN_ok (s := k + 1) (N := N) hO hl hB).2
    unfold spA
    split <;> omega
theorem sMax_nI {a b : Nat} (ha : a < 2 ^ 31) (hb : b < 2 ^ 31) : sMax (nI a) (nI b) = nI (max a b) := by
  unfold sMax
  by_cases h : b < a
  · rw [if_pos (nI_lt h ha), Nat.max_eq_left (by omega)]
  · rw [if_neg (nI_nlt (by omega) hb), Nat.max_eq_right (by omega)]
def cMx (x y : Int32) : Int32 := if x < y then y else x
theorem cMx_nI {a b : Nat} (ha : a < 2 ^ 31) (hb : b < 2 ^ 31) : cMx (nI a) (nI b) = nI (max a b) := by
  unfold cMx
  by_cases h : a < b
  · rw [if_pos (nI_lt h hb), Nat.max_eq_right (by omega)]
  · rw [if_neg (nI_nlt (by omega) ha), Nat.max_eq_left (by omega)]
section CDY
variable {d : Nat} {σ σ2 σ3 W : mSg} {m m' : Nat → Int32} {v : Int32} {ls : List lLn} {Q : mPst} {n nc ns nd a : Nat} {row : Nat → Nat → Int32}
theorem YS.dw (h : YS W m v ls) : DW (fun j => W (mgl [(5, 9), (32, 7)] j)) m v ls := ⟨RS.congr h.1 (fun c hc => by
  show W (mgl [(5, 9), (32, 7)] c) = W (mgl [(5, 9)] c)
  rw [mgl_h hc, mgl9 hc]), h.2⟩
theorem RD.dw (h : RD W m) (hL : Lw (fun j => W (mgl [(32, 7)] j)) v ls) : DW (fun j => W (mgl [(14, 9), (32, 7)] j)) m v ls := ⟨RS.congr h (fun c hc => by
  show W (mgl [(14, 9), (32, 7)] c) = W (14 + c)
  rw [mgl_h hc]), hL⟩
theorem DW.b5 (h : DW σ3 m v ls) : YS (mback [(5, 9), (32, 7)] W σ3) m v ls := ⟨RS.congr h.1 (fun c hc => by
  show mback [(5, 9), (32, 7)] W σ3 (mgl [(5, 9)] c) = σ3 c
  rw [mgl9 hc]
  unfold mback
  rw [mlo_hd (by omega), Nat.add_sub_cancel_left]), h.2⟩
theorem DW.b14 (h : DW σ3 m v ls) : RD (mback [(14, 9), (32, 7)] W σ3) m ∧ Lw (fun j => mback [(14, 9), (32, 7)] W σ3 (mgl [(32, 7)] j)) v ls := ⟨RS.congr h.1 (fun c hc => by
  show mback [(14, 9), (32, 7)] W σ3 (14 + c) = σ3 c
  unfold mback
  rw [mlo_hd (by omega), Nat.add_sub_cancel_left]), h.2⟩
theorem RD.st (h : RD W m) : RS (fun j => W (mgl [(14, 9)] j)) m := RS.congr h (fun c hc => by
  show W (mgl [(14, 9)] c) = W (14 + c)
  rw [mgl9 hc])
theorem RD.put0 {k i : Nat} (h : RD W m) (hr : rp 0 k = some i) (v : Int32) : RD (mput W 14 k v) (upd m i v) := by
  refine RS.congr (RS.put (σ := fun c => W (14 + c)) h hr v) (fun c hc => ?_)
  by_cases h0 : c = 0
  · subst h0; rfl
  · rw [mput_ne h0]
    exact mput_ne (by omega)
theorem RD.g (h : RD W m) {k i : Nat} (hr : rp 0 k = some i) : W 14 k = m i := RS.get (σ := fun c => W (14 + c)) h hr
/-- behind the draft's making -/
theorem dr1 (hR : RYs σ m) : RS (fun j => σ (mgl [(14, 9), (5, 9)] (9 + j))) m := RS.congr hR (fun c hc => by
  show σ (mgl [(14, 9), (5, 9)] (9 + c)) = σ (mgl [(5, 9)] c)
  rw [mgl_99 hc, mgl9 hc])
theorem dr2 (hY : YS σ m v ls) (r : RS σ2 m) (g : ∀ j, 9 ≤ j → σ2 j = σ (mgl [(14, 9), (5, 9)] j)) : RD (mback [(14, 9), (5, 9)] σ σ2) m ∧ YS (mback [(14, 9), (5, 9)] σ σ2) m v ls ∧ FX σ (mback [(14, 9), (5, 9)] σ σ2) := by
  have f : ∀ c, c < 14 ∨ 14 + 9 ≤ c → mback [(14, 9), (5, 9)] σ σ2 c = σ c := fun c h => bk2 g h
  exact ⟨RS.congr r (fun c hc => bk1 hc), ⟨hY.1.cg (fun c h1 h2 => f c (by omega)), hY.2⟩, fun c hc => f c (by unfold keepc at hc; omega)⟩
/-- behind the draft's days -/
theorem dr3 (hY : YS W m v ls) (hF : FX σ W) (h : DW σ3 m' v ls) : RD (mback [(14, 9), (32, 7)] W σ3) m' ∧ YS (mback [(14, 9), (32, 7)] W σ3) m v ls ∧ FX σ (mback [(14, 9), (32, 7)] W σ3) := by
  obtain ⟨h1, h2⟩ := DW.b14 (W := W) h
  exact ⟨h1, ⟨hY.1.cg (fun c h1 h2 => mback_out2 (by omega) (by omega)), h2⟩, fun c hc => (mback_out2 (by unfold keepc at hc; omega) (by unfold keepc at hc; omega)).trans (hF c hc)⟩
set_option maxRecDepth 100000 in
theorem c_ydays {p : Int32} (hl : ls.length ≤ 12) (hB : BD m n nc ns nd) (hY : YS σ m v ls) (hM : YM σ a row) (q1 : ∀ k, 1 ≤ k → k ≤ 60 → p = nI k → ∀ σ', YS σ' (sDays ls true n nc nd m k).1 v ls → YM σ' (min 12 (a + 1)) (psh m row) → AD σ σ' → Q (.inl (some (.int (sDays ls true n nc nd m k).2))) sh_9 σ') (q0 : (¬ ∃ k, 1 ≤ k ∧ k ≤ 60 ∧ p = nI k) → Q (.inr 0) sh_9 σ) : mD (d + 7) 13 [.ref 0, .int p] sh_9 σ Q := by
  have hb := hB.2.2.2.2.2.2.2.2.2.2.1
  have hR := hY.1
  refine ⟨rfl, fun X hX => ?_⟩
  have bad : (p < nI 1 ∨ nI 60 < p) → X 11 [none, none] [] sh_9 σ 0 0 := by
    intro h
    refine hX _ _ _ _ _ _ _ ?_
    exact q0 (rng2_no (by omega) (by omega) h)
  refine hX _ _ _ _ _ _ _ ?_
  rcases rng2 (p := p) (a := 1) (b := 60) (by omega) (by omega) with h | h | ⟨s, h1, h2, rfl⟩
  · exact ⟨fun _ => bad (Or.inl h), fun z => absurd h z⟩
  · exact ⟨fun _ => bad (Or.inr h), fun _ => ⟨fun z => absurd h (Int32.not_lt.mpr z), fun _ => bad (Or.inr h)⟩⟩
  · refine ⟨fun z => absurd z (nI_nlt h1 (by omega)), fun _ => ⟨fun _ => ?_, fun z => absurd (nI_le h2 (by omega)) z⟩⟩
    refine hX _ _ _ _ _ _ _ ?_
    refine c_keep hb hM.me hR.mn (fun σ2 k1 k2 => ?_)
    obtain ⟨y1, y2, y3⟩ := kb k1 k2 hR
    have hY2 : YS (mback [(53, 110), (5, 9)] σ σ2) m v ls := ⟨y1, hY.2⟩
    refine c_pass (dr := true) rfl (by omega) hY.2.2.1 hl hB hY2.dw (fun σ3 h3 => ?_)
    have f : ∀ c, (c < 5 ∨ 14 ≤ c) → (c < 32 ∨ 39 ≤ c) → mback [(5, 9), (32, 7)] (mback [(53, 110), (5, 9)] σ σ2) σ3 c = mback [(53, 110), (5, 9)] σ σ2 c := fun c a b => mback_out2 (by omega) (by omega)
    exact q1 s h1 h2 rfl _ (DW.b5 h3) (y2.cg (fun c a b => f c (by omega) (by omega))) (fun c hc => (f c (by omega) (by omega)).trans (y3 c (by omega)))
set_option maxRecDepth 100000 in
theorem c_yahead {p w : Int32} (hl : ls.length ≤ 12) (hB : BD m n nc ns nd) (hY : YS σ m v ls) (q1 : ∀ so : Option Nat, (∀ k, so = some k → k < n) → p = oN so → ∀ k, k ≤ 60 → w = nI k → ∀ σ', YS σ' m v ls → FX σ σ' → Q (.inl (some (.int (sAh ls m n nc nd k so)))) sh_9 σ') (q0 : ¬ sOk n p → Q (.inr 2) sh_9 σ) (q2 : sOk n p → (¬ ∃ s, 0 ≤ s ∧ s ≤ 60 ∧ w = nI s) → Q (.inr 0) sh_9 σ) : mD (d + 7) 47 [.ref 0, .int p, .int w] sh_9 σ Q := by
  have hn := hB.1.2
  have hb := hB.2.2.2.2.2.2.2.2.2.2.1
  have hR := hY.1
  refine ⟨rfl, fun X hX => ?_⟩
  have mid : ∀ so : Option Nat, (∀ k, so = some k → k < n) → p = oN so → ∀ c q, (c = 0 ∧ q = 0 ∨ c = 1 ∧ q = 6) → X 10 [some (.ref 0), some (.int p), some (.int w)] [] sh_9 σ c q := by
    intro so hso e1 c q hc
    have q2 := q2 (by cases so with | none => exact Or.inl e1 | some s => exact Or.inr ⟨s, hso s rfl, e1⟩)
    rcases hc with ⟨rfl, rfl⟩ | ⟨rfl, rfl⟩
    all_goals
      refine hX _ _ _ _ _ _ _ ?_
      refine c_needTrialDays (fun k hk ek => ?_) q2
      have hq := q1 so hso e1 k hk ek
      subst ek
      refine c_stateCopy hb (dr1 hR) (fun σ2 g1 g2 => ?_)
      obtain ⟨z1, z2, z3⟩ := dr2 hY g1 g2
      refine c_pass (dr := false) rfl (by omega) hY.2.2.1 hl hB (z1.dw z2.2) (fun σ3 h3 => ?_)
      obtain ⟨x1, x2, x3⟩ := dr3 z2 z3 h3
      subst e1
      cases so with
      | none =>
        refine ⟨fun z => absurd rfl z, fun _ => ?_⟩
        refine c_heapSum (lo := 1) (hi := 6) (by omega) (by omega) (by omega) x1.st ?_
        refine hX _ _ _ _ _ _ _ ?_
        exact qw (Q := Q) same1 (hq _ x2 x3)
      | some s =>
        have hs := hso s rfl
        refine ⟨fun _ => ?_, fun z => absurd z (oN_ne (by omega))⟩
        refine hX _ _ _ _ _ _ _ ?_
        refine c_waitsOf (by omega) x1.st ?_
        refine hX _ _ _ _ _ _ _ ?_
        exact qw (Q := Q) same1 (hq _ x2 x3)
  refine hX _ _ _ _ _ _ _ ?_
  refine ⟨fun h => ?_, fun h => ?_⟩
  · exact mid none (fun k h => by cases h) h 0 0 (Or.inl ⟨rfl, rfl⟩)
  · refine c_needStreet hB hR (fun o ho e => ?_) (fun z => q0 (fun y => y.elim h z))
    exact mid (some o) (fun k h => by cases h; exact ho) e 1 6 (Or.inr ⟨rfl, rfl⟩)
set_option maxRecDepth 100000 in
theorem c_ytrial {p u : Int32} {heap : Bool} (hu : u = (if heap = true then nI 1 else nI 0)) (hl : ls.length ≤ 12) (hB : BD m n nc ns nd) (hY : YS σ m v ls) (q1 : ∀ k, k ≤ 60 → p = nI k → ∀ σ', YS σ' m v ls → FX σ σ' → Q (.inl (some (.int (sTl ls m n nc nd k heap)))) sh_9 σ') (q0 : (¬ ∃ s, 0 ≤ s ∧ s ≤ 60 ∧ p = nI s) → Q (.inr 0) sh_9 σ) : mD (d + 7) 48 [.ref 0, .int p, .int u] sh_9 σ Q := by
  have hb := hB.2.2.2.2.2.2.2.2.2.2.1
  have hR := hY.1
  refine ⟨rfl, fun X hX => ?_⟩
  refine hX _ _ _ _ _ _ _ ?_
  refine c_needTrialDays (fun k hk ek => ?_) q0
  have hq := q1 k hk ek
  subst ek
  refine c_stateCopy hb (dr1 hR) (fun σ2 g1 g2 => ?_)
  obtain ⟨z1, z2, z3⟩ := dr2 hY g1 g2
  refine c_pass (dr := true) rfl (by omega) hY.2.2.1 hl hB (z1.dw z2.2) (fun σ3 h3 => ?_)
  obtain ⟨x1, x2, x3⟩ := dr3 z2 z3 h3
  subst hu
  cases heap with
  | true =>
    refine ⟨fun z => absurd z (by decide +kernel), fun _ => ?_⟩
    refine c_heapSum (lo := 1) (hi := 6) (by omega) (by omega) (by omega) x1.st ?_
    refine hX _ _ _ _ _ _ _ ?_
    exact qw (Q := Q) same1 (hq _ x2 x3)
  | false =>
    refine ⟨fun _ => ?_, fun z => absurd rfl z⟩
    refine hX _ _ _ _ _ _ _ ?_
    refine hX _ _ _ _ _ _ _ ?_
    exact qi (x1.g rf0.2.2.2.2.2.2.2.1).symm (hq _ x2 x3)
set_option maxRecDepth 100000 in
theorem c_yspan {p u : Int32} {most : Bool} (hu : u = (if most = true then nI 1 else nI 0)) (hl : ls.length ≤ 12) (hB : BD m n nc ns nd) (hY : YS σ m v ls) (q1 : ∀ k, k ≤ 60 → p = nI k → ∀ σ', YS σ' m v ls → FX σ σ' → Q (.inl (some (.int (nI (spA ls m n nc nd k most 6))))) sh_9 σ') (q0 : (¬ ∃ s, 0 ≤ s ∧ s ≤ 60 ∧ p = nI s) → Q (.inr 0) sh_9 σ) : mD (d + 7) 49 [.ref 0, .int p, .int u] sh_9 σ Q := by
  have hb := hB.2.2.2.2.2.2.2.2.2.2.1
  have hO := hY.2.2.1
  refine ⟨rfl, fun X hX => ?_⟩
  refine hX _ _ _ _ _ _ _ ?_
  refine c_needTrialDays (fun N hN eN => ?_) q0
  have hq := q1 N hN eN
  subst eN
  have loop : ∀ r k W, 6 - k = r → k ≤ 6 → YS W m v ls → FX σ W → X 19 [some (.ref 0), some (.int (nI N)), some (.int u), some (.int (nI (spA ls m n nc nd N most k))), some (.int (nI (k + 1)))] [] sh_9 W 1 6 := by
    intro r
    induction r with
    | zero =>
      intro k W hr hk hW hF
      have ek : k = 6 := by omega
      subst ek
      refine hX _ _ _ _ _ _ _ ?_
      refine b_gt rfl (b := 6) rfl (by omega) (by omega) (fun _ => ?_) (fun h => by omega)
      refine hX _ _ _ _ _ _ _ ?_
      exact hq W hW hF
    | succ r ih =>
      intro k W hr hk hW hF
      have hsp := spA_le (most := most) (N := N) hO hl hB k
      have htl := tlN_ok (s := k + 1) (N := N) hO hl hB
      have h1 : BD (upd m 13 (nI (k + 1))) n nc ns nd := hB.u0 (by unfold rel; omega)
      refine hX _ _ _ _ _ _ _ ?_
      refine b_gt rfl (b := 6) rfl (by omega) (by omega) (fun h => by omega) (fun _ => ?_)
      refine c_stateCopy hb (dr1 hW.1) (fun σ2 g1 g2 => ?_)
      obtain ⟨z1, z2, z3⟩ := dr2 hW g1 g2
      have z4 := z1.put0 rf0.2.2.2.2.2.2.2.2.2.2.1 (nI (k + 1))
      have z5 : YS (mput (mback [(14, 9), (5, 9)] W σ2) 14 17 (nI (k + 1))) m v ls := ⟨z2.1.cg (fun c a b => mput_ne (by omega)), z2.2⟩
      have z6 : FX σ (mput (mback [(14, 9), (5, 9)] W σ2) 14 17 (nI (k + 1))) := (hF.trans z3).trans (fun c hc => mput_ne (by unfold keepc at hc; omega))
      refine c_pass (dr := true) rfl (by omega) hO hl h1 (z4.dw z5.2) (fun σ3 h3 => ?_)
      obtain ⟨x1, x2, x3⟩ := dr3 z5 z6 h3
      have e9 := (x1.g rf0.2.2.2.2.2.2.2.1).trans htl.1
      have h9 := ih (k + 1) _ (by omega) (by omega) x2 x3
      rw [← nI_1 (k + 1)] at h9
      subst hu
      cases most with
      | true =>
        refine ⟨fun z => absurd z (by decide +kernel), fun _ => ?_⟩
        refine hX _ _ _ _ _ _ _ ?_
        have em : spA ls m n nc nd N true (k + 1) = max (spA ls m n nc nd N true k) (tlN ls m n nc nd N (k + 1)) := rfl
        rw [em, ← cMx_nI (by omega) (by omega), ← e9] at h9
        exact h9
      | false =>
        refine ⟨fun _ => ?_, fun z => absurd rfl z⟩
        refine hX _ _ _ _ _ _ _ ?_
        refine hX _ _ _ _ _ _ _ ?_
        have em : spA ls m n nc nd N false (k + 1) = min (spA ls m n nc nd N false k) (tlN ls m n nc nd N (k + 1)) := rfl
        rw [em, ← sMin_nI (by omega) (by omega), ← e9] at h9
        exact h9
  have h9 := loop _ 0 σ rfl (by omega) hY FX.refl
  subst hu
  cases most with
  | true =>
    refine ⟨fun z => absurd z (by decide +kernel), fun _ => ?_⟩
    refine hX _ _ _ _ _ _ _ ?_
    exact h9
  | false =>
    refine ⟨fun _ => ?_, fun z => absurd rfl z⟩
    refine hX _ _ _ _ _ _ _ ?_
    refine hX _ _ _ _ _ _ _ ?_
    exact h9
theorem sameK : mback [(53, 110), (5, 9)] σ (fun j => σ (mgl [(53, 110), (5, 9)] j)) = σ := by
  funext c
  by_cases e1 : 53 ≤ c ∧ c < 163
  · unfold mback
    rw [mlo_hd (by omega)]
    show σ (mgl [(53, 110), (5, 9)] (c - 53)) = σ c
    rw [mglK1 _ (by omega)]
    congr 1; omega
  · by_cases e2 : 5 ≤ c ∧ c < 14
    · unfold mback
      rw [mlo_skip (by omega), mlo_in e2]
      show σ (mgl [(53, 110), (5, 9)] (c - 5 + 110)) = σ c
      rw [Nat.add_comm, mglK2 _ (by omega)]
      congr 1; omega
    · exact mback_out2 (by omega) (by omega)
theorem kb2 (h1 : ME σ2 a row) (h2 : RS (fun c => σ2 (110 + c)) m) : YA σ m a row (mback [(53, 110), (5, 9)] σ σ2) := by
  refine ⟨RS.congr h2 (fun c hc => ?_), ME.congr h1 (fun c hc => ?_), fun c hc => mback_out2 (by omega) (by omega)⟩
  · show mback [(53, 110), (5, 9)] σ σ2 (mgl [(5, 9)] c) = σ2 (110 + c)
    rw [mgl9 hc]
    unfold mback
    rw [mlo_skip (by omega), mlo_in (by omega)]
    show σ2 (5 + c - 5 + 110) = σ2 (110 + c)
    congr 1; omega
  · show mback [(53, 110), (5, 9)] σ σ2 (53 + c) = σ2 c
    unfold mback
    rw [mlo_hd (by omega), Nat.add_sub_cancel_left]
set_option maxRecDepth 100000 in
theorem c_yundo (hb : 0 < a → b01 (row 0 11)) (hM : YM σ a row) (q0 : a = 0 → Q (.inl (some (.int (nI 0)))) sh_9 σ) (q1 : ∀ a', a = a' + 1 → ∀ σ', YA σ (row 0) a' (fun j => row (j + 1)) σ' → Q (.inl (some (.int (nI 1)))) sh_9 σ') : mD (d + 4) 53 [.ref 0] sh_9 σ Q := by
  refine ⟨rfl, fun X hX => ?_⟩
  refine hX _ _ _ _ _ _ _ ?_
  refine c_undoInto hb hM.me (fun h => ?_) (fun a' ha σ2 h1 h2 h3 => ?_)
  · exact ⟨Or.inl rfl, qw (Q := Q) sameK (q0 h)⟩
  · exact ⟨Or.inr rfl, q1 a' ha _ (kb2 h1 h2)⟩
end CDY
