/-! A DAY, by a row -/
/-- places that a day leaves as they are -/
def kdp (i : Nat) : Prop := i < 9 ∨ (20 ≤ i ∧ i < 83 ∧ (i - 20) % 9 ≠ 2) ∨ (83 ≤ i ∧ i < 93) ∨ 423 ≤ i
def KD (m m' : Nat → Int32) : Prop := ∀ i, kdp i → m' i = m i
theorem KD.refl {m : Nat → Int32} : KD m m := fun _ _ => rfl
theorem KD.trans {a b c : Nat → Int32} (h : KD a b) (h2 : KD b c) : KD a c := fun i hi => (h2 i hi).trans (h i hi)
theorem KD.u {m m' : Nat → Int32} {i : Nat} {v : Int32} (h : KD m m') (hi : ¬ kdp i) : KD m (upd m' i v) := fun j hj => by
  have e : j ≠ i := by rintro rfl; exact hi hj
  rw [upd_off e]; exact h j hj
theorem LTx.off {f f' : Nat → Int32} {ls : List lLn} (h : LTx f ls) (h2 : ∀ i, i = 1 ∨ i = 2 ∨ 423 ≤ i → f' i = f i) : LTx f' ls := by
  obtain ⟨n, h3, h4, h5⟩ := h
  have e : (fun k => f' (423 + k)) = fun k => f (423 + k) := by funext k; exact h2 _ (by omega)
  refine ⟨n, h3, ?_, by rw [e]; exact h5⟩
  rw [h2 1 (by omega), h2 2 (by omega)]; exact h4
theorem LTx.kd {f f' : Nat → Int32} {ls : List lLn} (h : LTx f ls) (h2 : KD f f') : LTx f' ls := h.off (fun i hi => h2 i (by unfold kdp; omega))
def sFB (ls : List lLn) (m : Nat → Int32) : Nat → (Nat → Int32)
  | 0 => m
  | k + 1 => upd (sFB ls m k) (22 + 9 * k) (sMin (nI 99) (sFB ls m k (22 + 9 * k) + sFi ls (sFB ls m k) k))
/-- the street that a cart goes to, of the first k -/
def selD (ls : List lLn) (m : Nat → Int32) (c : Nat) : Nat → Option Nat
  | 0 => none
  | k + 1 => if m (22 + 9 * k) = nI 0 ∨ ¬ nI 2 * sWay m (some k) none ≤ m (84 + 2 * c) ∨ ¬ sTo ls m k ≤ m 9 then selD ls m c k else
    (match selD ls m c k with
    | none => some k
    | some b => if m (22 + 9 * b) < m (22 + 9 * k) then some k else some b)
def sDr1 (ls : List lLn) (m : Nat → Int32) (c b : Nat) : Nat → Int32 := sFe (upd m 9 (m 9 - sTo ls m b)) b (sMin (m (83 + 2 * c)) (m (22 + 9 * b))) 6
def sDr (ls : List lLn) (m : Nat → Int32) (n c : Nat) : Nat → Int32 := match selD ls m c n with
  | none => m
  | some b => sLog (sDr1 ls m c b) (sDr1 ls m c b 10) (nI c) (nI 0) (nI b) (sMin (m (83 + 2 * c)) (m (22 + 9 * b)))
def sCs (ls : List lLn) (m : Nat → Int32) (n : Nat) : Nat → (Nat → Int32)
  | 0 => m
  | k + 1 => sDr ls (sCs ls m n k) n k
def sRm (x : Int32) : Int32 := x - x / nI 100 * nI 100
def sStep (x : Int32) : Int32 := nI 1103515245 * x + nI 12345
def sDw (x : Int32) : Int32 := (x >>> (nI 16 &&& 31)) &&& nI 32767
def sHv (m : Nat → Int32) (g : Nat) : Nat → Int32 := upd m (13 + g) (m (13 + g) / nI 2)
def sBu1 (m : Nat → Int32) : Nat → Int32 := upd (upd m 13 (sStep (m 13))) 11 (if m 7 ≤ sRm (sDw (sStep (m 13))) then nI 0 else nI 1)
def sBu2 (m : Nat → Int32) : Nat → Int32 := if m 11 = nI 1 then sHv (sHv m 5) 6 else m
def sBu3 (m : Nat → Int32) : Nat → Int32 := if m 8 ≤ sRm (sDw (sStep (m 13))) then upd m 13 (sStep (m 13)) else sHv (upd m 13 (sStep (m 13))) 4
def sBurn (m : Nat → Int32) : Nat → Int32 := sBu3 (sBu2 (sBu1 m))
def dLo (m : Nat → Int32) (k : Nat) : Nat := (m (93 + 5 * k)).toNatClampNeg
def dHi (m : Nat → Int32) (k : Nat) : Nat := (m (93 + 5 * k + 1)).toNatClampNeg
def sSa (m : Nat → Int32) : Nat → (Nat → Int32) × Int32
  | 0 => (m, nI 0)
  | k + 1 => if (sSa m k).1 (93 + 5 * k + 4) = nI 1 ∧ (sSa m k).1 (93 + 5 * k + 2) ≤ sHS (sSa m k).1 (dLo (sSa m k).1 k) (dHi (sSa m k).1 k + 1 - dLo (sSa m k).1 k) then (sSt (sSa m k).1 k (dLo (sSa m k).1 k) (dHi (sSa m k).1 k) (nI 1), (sSa m k).2 + nI 1) else sSa m k
def sDay0 (ls : List lLn) (dr : Bool) (m : Nat → Int32) (n nc : Nat) : Nat → Int32 := if dr = true then sBurn (sCs ls (sFB ls m n) n nc) else sCs ls (sFB ls m n) n nc
def sDay (ls : List lLn) (dr : Bool) (m : Nat → Int32) (n nc nd : Nat) : (Nat → Int32) × Int32 := (upd (sSa (sDay0 ls dr m n nc) nd).1 10 (sMin (nI 9999) ((sSa (sDay0 ls dr m n nc) nd).1 10 + nI 1)), (sSa (sDay0 ls dr m n nc) nd).2)
def sDays (ls : List lLn) (dr : Bool) (n nc nd : Nat) (m : Nat → Int32) : Nat → (Nat → Int32) × Int32
  | 0 => (m, nI 0)
  | k + 1 => ((sDay ls dr (sDays ls dr n nc nd m k).1 n nc nd).1, (sDays ls dr n nc nd m k).2 + (sDay ls dr (sDays ls dr n nc nd m k).1 n nc nd).2)
/-! bounds of what a law says -/
theorem i32_add {x y : Int32} (h1 : -2147483648 ≤ x.toInt + y.toInt) (h2 : x.toInt + y.toInt < 2147483648) : (x + y).toInt = x.toInt + y.toInt := by
  rw [Int32.toInt_add]
  exact Int.bmod_eq_of_le (by omega) (by omega)
theorem lfs_bd {ρ : Nat → Int32} : ∀ (ls : List lLn) (x : Int32 × Int32) (a b : Nat), lOks ls → a + 99 * ls.length ≤ 100000 → b + 99 * ls.length ≤ 100000 → -(a : Int) ≤ x.1.toInt → x.1.toInt ≤ a → x.2.toInt ≤ b → 0 ≤ x.2.toInt → -((a : Int) + 99 * ls.length) ≤ (lfs ρ x ls).1.toInt ∧ (lfs ρ x ls).1.toInt ≤ (a : Int) + 99 * ls.length ∧ (lfs ρ x ls).2.toInt ≤ (b : Int) + 99 * ls.length ∧ 0 ≤ (lfs ρ x ls).2.toInt
  | [], x, a, b, _, _, _, h1, h2, h3, h4 => by
    simp only [List.length_nil]
    exact ⟨by show _ ≤ x.1.toInt; omega, by show x.1.toInt ≤ _; omega, by show x.2.toInt ≤ _; omega, h4⟩
  | l :: ls, x, a, b, ho, ha, hb, h1, h2, h3, h4 => by
    rw [List.length_cons] at ha hb ⊢
    obtain ⟨-, ⟨j, hj, ej⟩, -⟩ := ho l List.mem_cons_self
    have ho2 : lOks ls := fun y hy => ho y (List.mem_cons_of_mem _ hy)
    have n0 : (nI 0).toInt = 0 := by decide +kernel
    have nj : (nI j).toInt = j := nI_toInt (by omega)
    have nj2 : (-(nI j)).toInt = -(j : Int) := sb_negT (by omega)
    have key : -((a : Int) + 99) ≤ (lf ρ x l).1.toInt ∧ (lf ρ x l).1.toInt ≤ (a : Int) + 99 ∧ (lf ρ x l).2.toInt ≤ (b : Int) + 99 ∧ 0 ≤ (lf ρ x l).2.toInt := by
      unfold lf
      rw [ej]
      by_cases hT : lT ρ l.2.2 = true
      · rw [if_pos hT]
        refine ⟨?_, ?_, ?_, ?_⟩
        · show _ ≤ (x.1 + _).toInt
          split
          · rw [i32_add (by omega) (by omega)]; omega
          · split
            · rw [i32_add (by omega) (by omega)]; omega
            · rw [i32_add (by omega) (by omega)]; omega
        · show (x.1 + _).toInt ≤ _
          split
          · rw [i32_add (by omega) (by omega)]; omega
          · split
            · rw [i32_add (by omega) (by omega)]; omega
            · rw [i32_add (by omega) (by omega)]; omega
        · show (x.2 + _).toInt ≤ _
          split
          · rw [i32_add (by omega) (by omega)]; omega
          · rw [i32_add (by omega) (by omega)]; omega
        · show _ ≤ (x.2 + _).toInt
          split
          · rw [i32_add (by omega) (by omega)]; omega
          · rw [i32_add (by omega) (by omega)]; omega
      · rw [if_neg hT]
        exact ⟨by omega, by omega, by omega, by omega⟩
    have ih := lfs_bd (ρ := ρ) ls (lf ρ x l) (a + 99) (b + 99) ho2 (by omega) (by omega) (by omega) (by omega) (by omega) (by omega)
    have e : lfs ρ x (l :: ls) = lfs ρ (lf ρ x l) ls := rfl
    rw [e]
    refine ⟨by omega, by omega, by omega, ih.2.2.2⟩
theorem nI_of3 {x : Int32} {b : Nat} (h : 0 ≤ x.toInt) (h2 : x.toInt ≤ b) (hb : b < 2 ^ 31) : ∃ q, q ≤ b ∧ x = nI q := by
  refine ⟨x.toInt.toNat, by omega, ?_⟩
  apply Int32.toInt_inj.mp
  rw [nI_toInt (by omega)]
  omega
theorem sFi_bd {ls : List lLn} (h : lOks ls) (hl : ls.length ≤ 12) (m : Nat → Int32) (s : Nat) : ∃ q, q ≤ 1300 ∧ sFi ls m s = nI q := by
  obtain ⟨h1, h2, h3, h4⟩ := lfs_bd (ρ := rhoF m s) ls (nI 1, nI 0) 1 0 h (by omega) (by omega) (by decide +kernel) (by decide +kernel) (by decide +kernel) (by decide +kernel)
  unfold sFi sMax
  split
  · exact ⟨0, by omega, rfl⟩
  · rename_i hz
    refine nI_of3 ?_ (by omega) (by omega)
    have := Int32.le_iff_toInt_le.mp (Int32.not_lt.mp hz)
    have n0 : (nI 0).toInt = 0 := by decide +kernel
    omega
theorem sTo_bd {ls : List lLn} (h : lOks ls) (hl : ls.length ≤ 12) (m : Nat → Int32) (s : Nat) : ∃ q, q ≤ 1300 ∧ sTo ls m s = nI q := by
  obtain ⟨h1, h2, h3, h4⟩ := lfs_bd (ρ := rhoF m s) ls (nI 1, nI 0) 1 0 h (by omega) (by omega) (by decide +kernel) (by decide +kernel) (by decide +kernel) (by decide +kernel)
  unfold sTo
  exact nI_of3 h4 (by omega) (by omega)
/-! bounds stay, and a day leaves what it leaves -/
section BDD
variable {m : Nat → Int32} {n nc ns nd : Nat} {ls : List lLn}
theorem sFB_ok (hO : lOks ls) (hl : ls.length ≤ 12) (h : BD m n nc ns nd) : ∀ k, k ≤ n → BD (sFB ls m k) n nc ns nd ∧ KD m (sFB ls m k)
  | 0, _ => ⟨h, KD.refl⟩
  | k + 1, hk => by
    obtain ⟨i1, i2⟩ := sFB_ok hO hl h k (by omega)
    have hn := h.1.2
    obtain ⟨w, hw, ew⟩ := (i1.2.2.2.2.1 k (by omega)).2.2.1
    obtain ⟨q, hq, eq⟩ := sFi_bd hO hl (sFB ls m k) k
    refine ⟨i1.uw (by omega) ⟨min 99 (w + q), by omega, ?_⟩, i2.u (by unfold kdp; omega)⟩
    rw [ew, eq, nI_add, sMin_nI (by omega) (by omega)]
theorem selD_ok {c : Nat} : ∀ k b, selD ls m c k = some b → b < k ∧ sTo ls m b ≤ m 9
  | 0, b, h => by cases h
  | k + 1, b, h => by
    unfold selD at h
    split at h
    · obtain ⟨h1, h2⟩ := selD_ok k b h
      exact ⟨by omega, h2⟩
    · rename_i hc
      have ht : sTo ls m k ≤ m 9 := Decidable.byContradiction (fun z => hc (Or.inr (Or.inr z)))
      split at h
      · cases h; exact ⟨by omega, ht⟩
      · rename_i b2 hb
        obtain ⟨h1, h2⟩ := selD_ok k b2 hb
        split at h
        · cases h; exact ⟨by omega, ht⟩
        · cases h; exact ⟨by omega, h2⟩
theorem sFe_bd {s q w : Nat} (h : BD m n nc ns nd) (hs : s < 7) (hq : q ≤ w) (hw : w ≤ 99) (e : m (22 + 9 * s) = nI w) : ∀ k, k ≤ 6 → BD (sFe m s (nI q) k) n nc ns nd ∧ KD m (sFe m s (nI q) k)
  | 0, _ => ⟨h.uw hs ⟨w - q, by omega, by rw [e, nI_sub hq]⟩, KD.refl.u (by unfold kdp; omega)⟩
  | k + 1, hk => by
    obtain ⟨i1, i2⟩ := sFe_bd h hs hq hw e k (by omega)
    exact ⟨i1.u0 (by unfold rel; omega), i2.u (by unfold kdp; omega)⟩
theorem KD.slog {m' : Nat → Int32} {a b c e f : Int32} (h : KD m m') : KD m (sLog m' a b c e f) := fun i hi => by
  rw [← h i hi]
  unfold kdp at hi
  unfold sLog
  rw [if_neg (by omega), if_neg (by omega), if_neg (by omega), if_neg (by omega), if_neg (by omega), if_neg (by omega), if_neg (by omega)]
theorem sDr_ok {c : Nat} (hO : lOks ls) (hl : ls.length ≤ 12) (h : BD m n nc ns nd) (hc : c < nc) : BD (sDr ls m n c) n nc ns nd ∧ KD m (sDr ls m n c) := by
  unfold sDr
  split
  · exact ⟨h, KD.refl⟩
  · rename_i b hb
    obtain ⟨h1, h2⟩ := selD_ok n b hb
    have hn := h.1.2
    obtain ⟨w, hw, ew⟩ := (h.2.2.2.2.1 b h1).2.2.1
    obtain ⟨ho, g1, g2, eh⟩ := (h.2.2.2.2.2.1 c hc).1
    obtain ⟨T, hT, eT⟩ := sTo_bd hO hl m b
    obtain ⟨q, hq, e9⟩ := h.2.2.2.2.2.2.2.2.2.1
    rw [eT, e9, nI_leI (by omega) (by omega)] at h2
    have hB : BD (upd m 9 (m 9 - sTo ls m b)) n nc ns nd := h.u9 ⟨q - T, by omega, by rw [e9, eT, nI_sub h2]⟩
    have es : sMin (m (83 + 2 * c)) (m (22 + 9 * b)) = nI (min ho w) := by rw [eh, ew, sMin_nI (by omega) (by omega)]
    have hF := sFe_bd (s := b) (q := min ho w) (w := w) hB (by omega) (by omega) hw (by rw [upd_off (by omega)]; exact ew) 6 (by omega)
    rw [← es] at hF
    refine ⟨hF.1.slog, KD.slog ?_⟩
    exact KD.trans (KD.refl.u (by unfold kdp; omega)) hF.2
theorem sCs_ok (hO : lOks ls) (hl : ls.length ≤ 12) (h : BD m n nc ns nd) : ∀ k, k ≤ nc → BD (sCs ls m n k) n nc ns nd ∧ KD m (sCs ls m n k)
  | 0, _ => ⟨h, KD.refl⟩
  | k + 1, hk => by
    obtain ⟨i1, i2⟩ := sCs_ok hO hl h k (by omega)
    obtain ⟨j1, j2⟩ := sDr_ok (c := k) hO hl i1 (by omega)
    exact ⟨j1, i2.trans j2⟩
theorem sHv_ok {m' : Nat → Int32} {g : Nat} (h1 : 1 ≤ g) (h2 : g ≤ 6) (h : BD m' n nc ns nd) (hk : KD m m') : BD (sHv m' g) n nc ns nd ∧ KD m (sHv m' g) := ⟨h.u0 (by unfold rel; omega), hk.u (by unfold kdp; omega)⟩
theorem sBurn_ok (h : BD m n nc ns nd) : BD (sBurn m) n nc ns nd ∧ KD m (sBurn m) := by
  have a1 : BD (sBu1 m) n nc ns nd ∧ KD m (sBu1 m) := by
    unfold sBu1
    refine ⟨(h.u0 (by unfold rel; omega)).u11 ?_, (KD.refl.u (by unfold kdp; omega)).u (by unfold kdp; omega)⟩
    split
    · exact b01_0
    · exact b01_1
  have a2 : BD (sBu2 (sBu1 m)) n nc ns nd ∧ KD m (sBu2 (sBu1 m)) := by
    unfold sBu2
    split
    · obtain ⟨b1, b2⟩ := sHv_ok (g := 5) (by omega) (by omega) a1.1 a1.2
      exact sHv_ok (by omega) (by omega) b1 b2
    · exact a1
  show BD (sBu3 _) n nc ns nd ∧ KD m (sBu3 _)
  unfold sBu3
  split
  · exact ⟨a2.1.u0 (by unfold rel; omega), a2.2.u (by unfold kdp; omega)⟩
  · exact sHv_ok (by omega) (by omega) (a2.1.u0 (by unfold rel; omega)) (a2.2.u (by unfold kdp; omega))
theorem sSt_ok {k : Nat} {w : Int32} (h : BD m n nc ns nd) (hk : k < nd) : BD (sSt m k (dLo m k) (dHi m k) w) n nc ns nd ∧ KD m (sSt m k (dLo m k) (dHi m k) w) := by
  have hnd := h.2.2.2.1.2
  obtain ⟨lo, hi, q, p, c1, c2, c3, c4, c5, c6, c7, c8, c9, c10, c11⟩ := h.2.2.2.2.2.2.2.1 k hk
  have el : dLo m k = lo := by unfold dLo; rw [c7, nI_clamp (by omega)]
  have eh : dHi m k = hi := by unfold dHi; rw [c8, nI_clamp (by omega)]
  rw [el, eh]
  obtain ⟨tl, ht, et⟩ := h.2.2.2.2.2.2.2.2.2.1
  have hoff : ∀ i, i < 14 ∨ 19 < i → (sTk m hi (m (93 + 5 * k + 2)) (hi + 1 - lo)).1 i = m i := fun i hi2 => sTk_off hi2 c3 _ (by omega)
  have B1 : BD (sTk m hi (m (93 + 5 * k + 2)) (hi + 1 - lo)).1 n nc ns nd := h.off (fun i hi2 => hoff i (by unfold rel at hi2; omega))
  have K1 : KD m (sTk m hi (m (93 + 5 * k + 2)) (hi + 1 - lo)).1 := fun i hi2 => hoff i (by unfold kdp at hi2; omega)
  unfold sSt
  refine ⟨((B1.u9 ?_).uop (by omega)).slog, KD.slog ((K1.u (by unfold kdp; omega)).u (by unfold kdp; omega))⟩
  have hpq : q * p ≤ 99 * 9 := Nat.mul_le_mul c5 c6
  refine ⟨min 9999 (tl + q * p), by omega, ?_⟩
  rw [hoff 9 (by omega), hoff (93 + 5 * k + 2) (by omega), hoff (93 + 5 * k + 3) (by omega), et, c9, c10, nI_mul, nI_add, sMin_nI (by omega) (by omega)]
theorem sSa_ok (h : BD m n nc ns nd) : ∀ k, k ≤ nd → BD (sSa m k).1 n nc ns nd ∧ KD m (sSa m k).1
  | 0, _ => ⟨h, KD.refl⟩
  | k + 1, hk => by
    obtain ⟨i1, i2⟩ := sSa_ok h k (by omega)
    unfold sSa
    split
    · obtain ⟨j1, j2⟩ := sSt_ok (k := k) (w := nI 1) i1 (by omega)
      exact ⟨j1, i2.trans j2⟩
    · exact ⟨i1, i2⟩
theorem sDay0_ok {dr : Bool} (hO : lOks ls) (hl : ls.length ≤ 12) (h : BD m n nc ns nd) : BD (sDay0 ls dr m n nc) n nc ns nd ∧ KD m (sDay0 ls dr m n nc) := by
  obtain ⟨a1, a2⟩ := sFB_ok hO hl h n (Nat.le_refl _)
  obtain ⟨b1, b2⟩ := sCs_ok hO hl a1 nc (Nat.le_refl _)
  unfold sDay0
  split
  · obtain ⟨c1, c2⟩ := sBurn_ok b1
    exact ⟨c1, (a2.trans b2).trans c2⟩
  · exact ⟨b1, a2.trans b2⟩
theorem sDay_ok {dr : Bool} (hO : lOks ls) (hl : ls.length ≤ 12) (h : BD m n nc ns nd) : BD (sDay ls dr m n nc nd).1 n nc ns nd ∧ KD m (sDay ls dr m n nc nd).1 := by
  obtain ⟨a1, a2⟩ := sDay0_ok (dr := dr) hO hl h
  obtain ⟨b1, b2⟩ := sSa_ok a1 nd (Nat.le_refl _)
  exact ⟨b1.u0 (by unfold rel; omega), (a2.trans b2).u (by unfold kdp; omega)⟩
theorem sDays_ok {dr : Bool} (hO : lOks ls) (hl : ls.length ≤ 12) (h : BD m n nc ns nd) : ∀ k, BD (sDays ls dr n nc nd m k).1 n nc ns nd ∧ KD m (sDays ls dr n nc nd m k).1
  | 0 => ⟨h, KD.refl⟩
  | k + 1 => by
    obtain ⟨i1, i2⟩ := sDays_ok (dr := dr) hO hl h k
    obtain ⟨j1, j2⟩ := sDay_ok (dr := dr) hO hl i1
    exact ⟨j1, i2.trans j2⟩
end BDD
