/-! LINES OF THE YARD: what of a text is read, and what comes of a row -/
theorem upd_comm {m : Nat → Int32} {i j : Nat} {a b : Int32} (h : i ≠ j) : upd (upd m i a) j b = upd (upd m j b) i a := by
  funext q
  unfold upd
  by_cases h1 : q = i
  · rw [if_pos h1, if_neg (by omega), if_pos h1]
  · by_cases h2 : q = j
    · simp only [if_neg h1, if_pos h2]
    · simp only [if_neg h1, if_neg h2]
abbrev yR : Type := (Nat × (Nat → Int32)) ⊕ Nat
def yMx (r : Nat → Int32) (s : Nat) (t : Nat → Int32) (b : Nat) : Nat → (Nat → Int32)
  | 0 => r
  | k + 1 => upd (yMx r s t b k) (23 + 9 * s + k) (t (b + k) - nI 48)
def yaS (m : Nat → Int32) (s : Nat) (x y w : Int32) : Nat → Int32 := upd (upd (upd (upd m (20 + 9 * s) x) (21 + 9 * s) y) (22 + 9 * s) w) 3 (nI (s + 1))
def yaC (m : Nat → Int32) (c : Nat) (a b : Int32) : Nat → Int32 := upd (upd (upd m (83 + 2 * c) a) (84 + 2 * c) b) 4 (nI (c + 1))
def yaM (m : Nat → Int32) (k : Nat) (a : Int32) : Nat → Int32 := upd (upd m (89 + k) a) 5 (nI (k + 1))
def yaD (m : Nat → Int32) (k : Nat) (a b c e : Int32) : Nat → Int32 := upd (upd (upd (upd (upd (upd m (93 + 5 * k + 0) a) (93 + 5 * k + 1) b) (93 + 5 * k + 2) c) (93 + 5 * k + 3) e) (93 + 5 * k + 4) (nI 1)) 6 (nI (k + 1))
def cN (m : Nat → Int32) (i : Nat) : Nat := (m i).toNatClampNeg
section YRD
variable (t : Nat → Int32) (n : Nat)
def eW (w : List Nat) (b : Nat) (k : Nat → yR) : yR := if wB t n b w = true then k (nx t n b) else .inr b
def eN (lo hi : Int32) (b : Nat) (k : Int32 → Nat → yR) : yR := if nB t n b lo hi = true then k (nV t n b) (nx t n b) else .inr b
def eF (b : Nat) (k : Nat → yR) : yR := if run kD t n b = b + 6 then k (nx t n b) else .inr b
def eO (w : List Nat) (b : Nat) (k : Nat → yR) (o : yR) : yR := if wB t n b w = true then k (nx t n b) else o
def yStreet (b : Nat) (m : Nat → Int32) : yR := eW t n [97, 116] b fun b1 => eN t n (nI 0) (nI 9) b1 fun x b2 => eN t n (nI 0) (nI 9) b2 fun y b3 => eW t n [109, 105, 120] b3 fun b4 => eF t n b4 fun b5 =>
  eO t n [119, 97, 105, 116, 115] b5 (fun b6 => eN t n (nI 0) (nI 99) b6 fun w b7 => .inl (b7, yMx (yaS m (cN m 3) x y w) (cN m 3) t b4 6)) (.inl (b5, yMx (yaS m (cN m 3) x y (nI 0)) (cN m 3) t b4 6))
def yCart (b : Nat) (m : Nat → Int32) : yR := eW t n [104, 111, 108, 100] b fun b1 => eN t n (nI 1) (nI 9) b1 fun h b2 => eW t n [103, 111, 101, 115] b2 fun b3 => eN t n (nI 1) (nI 99) b3 fun g b4 => .inl (b4, yaC m (cN m 4) h g)
def ySieve (b : Nat) (m : Nat → Int32) : yR := eN t n (nI 2) (nI 6) b fun q b1 => .inl (b1, yaM m (cN m 5) q)
def yDeal (b : Nat) (m : Nat → Int32) : yR := eN t n (nI 1) (nI 6) b fun lo b1 => eW t n [116, 111] b1 fun b2 => eN t n lo (nI 6) b2 fun hi b3 => eW t n [109, 97, 110, 121] b3 fun b4 => eN t n (nI 1) (nI 99) b4 fun q b5 => eW t n [112, 97, 121, 115] b5 fun b6 => eN t n (nI 0) (nI 9) b6 fun p b7 => .inl (b7, yaD m (cN m 6) lo hi q p)
def yHeap (b : Nat) (m : Nat → Int32) : yR := eN t n (nI 1) (nI 6) b fun g b1 => eN t n (nI 0) (nI 999) b1 fun q b2 => .inl (b2, upd m (13 + g.toNatClampNeg) q)
def yTell (i h b : Nat) (m : Nat → Int32) : yR := eN t n (nI 0) (nI h) b fun q b1 => .inl (b1, upd m i q)
def yRest (b : Nat) (m : Nat → Int32) : yR := eO t n [102, 105, 114, 101] b (fun b1 => yTell t n 7 100 b1 m) (eO t n [114, 97, 116, 115] b (fun b1 => yTell t n 8 100 b1 m) (eO t n [116, 105, 108, 108] b (fun b1 => yTell t n 9 999 b1 m) (eO t n [100, 97, 121] b (fun b1 => yTell t n 10 999 b1 m) (eO t n [115, 109, 111, 107, 101] b (fun b1 => .inl (b1, upd m 11 (nI 1))) (.inr b)))))
def yl (b : Nat) (m : Nat → Int32) : yR := eO t n [115, 116, 114, 101, 101, 116] b (fun b1 => if m 3 = nI 7 then .inr b else yStreet t n b1 m) (eO t n [99, 97, 114, 116] b (fun b1 => if m 4 = nI 3 then .inr b else yCart t n b1 m) (eO t n [115, 105, 101, 118, 101] b (fun b1 => if m 5 = nI 4 then .inr b else ySieve t n b1 m) (eO t n [99, 111, 110, 116, 114, 97, 99, 116] b (fun b1 => if m 6 = nI 6 then .inr b else yDeal t n b1 m) (eO t n [104, 101, 97, 112] b (fun b1 => yHeap t n b1 m) (yRest t n b m)))))
def yLine (b : Nat) (s : Nat × (Nat → Int32)) : (Nat × (Nat × (Nat → Int32))) ⊕ Nat := match yl t n b s.2 with
  | .inl (b', m') => .inl (b', (s.1 + 1, m'))
  | .inr e => .inr e
def YGd (b : Nat) (P : (Nat → Int32) → Prop) (r : yR) : Prop := (∀ b' m', r = .inl (b', m') → b ≤ b' ∧ b' ≤ n ∧ sk t n b' = b' ∧ P m') ∧ (∀ e, r = .inr e → e ≤ n)
end YRD
section YGS
variable {t : Nat → Int32} {n b b0 : Nat} {P : (Nat → Int32) → Prop}
theorem YGd.err (h : b ≤ n) : YGd t n b0 P (.inr b) := ⟨fun b' m' e => (by cases e), fun e h2 => by cases h2; exact h⟩
theorem YGd.ok {m : Nat → Int32} (h0 : b0 ≤ b) (h : b ≤ n) (hs : sk t n b = b) (hP : P m) : YGd t n b0 P (.inl (b, m)) := ⟨fun b' m' e => by cases e; exact ⟨h0, h, hs, hP⟩, fun e h2 => by cases h2⟩
theorem YGd.W {w : List Nat} {k : Nat → yR} (hw : 0 < w.length) (hb : b ≤ n) (h0 : b0 ≤ b) (h : ∀ b1, b < b1 → b1 ≤ n → sk t n b1 = b1 → YGd t n b0 P (k b1)) : YGd t n b0 P (eW t n w b k) := by
  unfold eW
  split
  · rename_i hW
    exact h _ (nx_gt (wB_lt hW hw).1) (nx_le hb) nx_sk
  · exact YGd.err hb
theorem YGd.O {w : List Nat} {k : Nat → yR} {o : yR} (hw : 0 < w.length) (hb : b ≤ n) (h : ∀ b1, b < b1 → b1 ≤ n → sk t n b1 = b1 → YGd t n b0 P (k b1)) (ho : YGd t n b0 P o) : YGd t n b0 P (eO t n w b k o) := by
  unfold eO
  split
  · rename_i hW
    exact h _ (nx_gt (wB_lt hW hw).1) (nx_le hb) nx_sk
  · exact ho
theorem YGd.N {l h' : Nat} {k : Int32 → Nat → yR} (hl : l < 2 ^ 31) (hh : h' < 2 ^ 31) (hb : b ≤ n) (h : ∀ b1 q, b < b1 → b1 ≤ n → sk t n b1 = b1 → l ≤ q → q ≤ h' → YGd t n b0 P (k (nI q) b1)) : YGd t n b0 P (eN t n (nI l) (nI h') b k) := by
  unfold eN
  split
  · rename_i hN
    obtain ⟨q, h1, h2, e⟩ := nB_val hN hh hl
    rw [e]
    exact h _ q (nx_gt (nB_lt hN).1) (nx_le hb) nx_sk h1 h2
  · exact YGd.err hb
theorem YGd.F {k : Nat → yR} (hb : b ≤ n) (h : ∀ b1, run kD t n b = b + 6 → b < b1 → b1 ≤ n → sk t n b1 = b1 → YGd t n b0 P (k b1)) : YGd t n b0 P (eF t n b k) := by
  unfold eF
  split
  · rename_i hF
    have hlt := (run_all (P := kD) (t := t) (n := n) (p := b) (q := b) (Nat.le_refl _) (by omega)).1
    exact h _ hF (nx_gt hlt) (nx_le hb) nx_sk
  · exact YGd.err hb
theorem kD_val {c : Int32} (h : kD c = true) : ∃ q, q ≤ 9 ∧ c - nI 48 = nI q := by
  obtain ⟨h1, h2⟩ := kD_iff.mp h
  have a1 := Int32.le_iff_toInt_le.mp h1
  have a2 := Int32.le_iff_toInt_le.mp h2
  rw [nI_toInt (by omega)] at a1 a2
  have h0 : ¬ c < 0 := by
    intro z
    have a3 := Int32.lt_iff_toInt_lt.mp z
    have a4 : (0 : Int32).toInt = 0 := by decide +kernel
    omega
  obtain ⟨j, hj, e⟩ := nI_of h0
  rw [e, nI_toInt hj] at a1 a2
  exact ⟨j - 48, by omega, by rw [e, nI_sub (by omega)]⟩
theorem yMx_off {r : Nat → Int32} {s i : Nat} : ∀ k, i < 23 + 9 * s ∨ 23 + 9 * s + k ≤ i → yMx r s t b k i = r i
  | 0, _ => rfl
  | k + 1, h => by
    show upd _ _ _ i = _
    rw [upd_off (by omega)]
    exact yMx_off k (by omega)
theorem yMx_in {r : Nat → Int32} {s j : Nat} : ∀ k, j < k → yMx r s t b k (23 + 9 * s + j) = t (b + j) - nI 48
  | 0, h => by omega
  | k + 1, h => by
    show upd _ _ _ _ = _
    by_cases e : j = k
    · rw [e, upd_at]
    · rw [upd_off (by omega)]
      exact yMx_in k (by omega)
theorem yMx_3 {r : Nat → Int32} {s : Nat} {v : Int32} : ∀ k, yMx (upd r 3 v) s t b k = upd (yMx r s t b k) 3 v
  | 0 => rfl
  | k + 1 => by
    show upd (yMx (upd r 3 v) s t b k) _ _ = upd (upd _ _ _) _ _
    rw [yMx_3 k, upd_comm (by omega)]
end YGS
/-- a yard's row stays in its bounds, and what a text of the yard leaves is left -/
def YI (m0 m : Nat → Int32) : Prop := (∃ n nc ns nd, BD m n nc ns nd) ∧ ∀ i, (i < 3 ∨ i = 12 ∨ i = 13 ∨ 123 ≤ i) → m i = m0 i
section YBD
variable {m m0 : Nat → Int32} {n nc ns nd : Nat}
theorem BD.addS (h : BD m n nc ns nd) (hn : n < 7) {t : Nat → Int32} {b x y w : Nat} (hx : x ≤ 9) (hy : y ≤ 9) (hw : w ≤ 99) (hd : ∀ k, k < 6 → ∃ q, q ≤ 9 ∧ t (b + k) - nI 48 = nI q) : BD (yMx (yaS m n (nI x) (nI y) (nI w)) n t b 6) (n + 1) nc ns nd := by
  obtain ⟨⟨a1, a1'⟩, ⟨a2, a2'⟩, ⟨a3, a3'⟩, ⟨a4, a4'⟩, a5, a6, a7, a8, a9, a10, a11, a12⟩ := h
  have off : ∀ i, i ≠ 3 → (i < 20 + 9 * n ∨ 29 + 9 * n ≤ i) → yMx (yaS m n (nI x) (nI y) (nI w)) n t b 6 i = m i := by
    intro i h1 h2
    rw [yMx_off 6 (by omega)]
    unfold yaS
    rw [upd_off h1, upd_off (by omega), upd_off (by omega), upd_off (by omega)]
  have o3 : yMx (yaS m n (nI x) (nI y) (nI w)) n t b 6 3 = nI (n + 1) := by
    rw [yMx_off 6 (by omega)]; unfold yaS; rw [upd_at]
  refine ⟨⟨o3, by omega⟩, ⟨by rw [off 4 (by omega) (by omega)]; exact a2, a2'⟩, ⟨by rw [off 5 (by omega) (by omega)]; exact a3, a3'⟩, ⟨by rw [off 6 (by omega) (by omega)]; exact a4, a4'⟩, fun s hs => ?_, fun c hc => ?_, fun k hk => ?_, fun k hk => ?_, by rw [off 7 (by omega) (by omega)]; exact a9, by rw [off 9 (by omega) (by omega)]; exact a10, by rw [off 11 (by omega) (by omega)]; exact a11, by rw [off 12 (by omega) (by omega)]; exact a12⟩
  · by_cases e : s = n
    · subst e
      refine ⟨⟨x, hx, ?_⟩, ⟨y, hy, ?_⟩, ⟨w, hw, ?_⟩, fun g hg => ?_⟩
      · rw [yMx_off 6 (by omega)]; unfold yaS; rw [upd_off (by omega), upd_off (by omega), upd_off (by omega), upd_at]
      · rw [yMx_off 6 (by omega)]; unfold yaS; rw [upd_off (by omega), upd_off (by omega), upd_at]
      · rw [yMx_off 6 (by omega)]; unfold yaS; rw [upd_off (by omega), upd_at]
      · rw [yMx_in 6 hg]; exact hd g hg
    · obtain ⟨b1, b2, b3, b4⟩ := a5 s (by omega)
      exact ⟨by rw [off _ (by omega) (by omega)]; exact b1, by rw [off _ (by omega) (by omega)]; exact b2, by rw [off _ (by omega) (by omega)]; exact b3, fun g hg => by rw [off _ (by omega) (by omega)]; exact b4 g hg⟩
  · obtain ⟨b1, b2⟩ := a6 c hc
    exact ⟨by rw [off _ (by omega) (by omega)]; exact b1, by rw [off _ (by omega) (by omega)]; exact b2⟩
  · rw [off _ (by omega) (by omega)]; exact a7 k hk
  · rw [off _ (by omega) (by omega), off (93 + 5 * k + 1) (by omega) (by omega), off (93 + 5 * k + 2) (by omega) (by omega), off (93 + 5 * k + 3) (by omega) (by omega), off (93 + 5 * k + 4) (by omega) (by omega)]; exact a8 k hk
theorem BD.addC (h : BD m n nc ns nd) (hn : nc < 3) {a g : Nat} (h1 : 1 ≤ a) (h2 : a ≤ 9) (h3 : 1 ≤ g) (h4 : g ≤ 99) : BD (yaC m nc (nI a) (nI g)) n (nc + 1) ns nd := by
  obtain ⟨⟨a1, a1'⟩, ⟨a2, a2'⟩, ⟨a3, a3'⟩, ⟨a4, a4'⟩, a5, a6, a7, a8, a9, a10, a11, a12⟩ := h
  have off : ∀ i, i ≠ 4 → i ≠ 83 + 2 * nc → i ≠ 84 + 2 * nc → yaC m nc (nI a) (nI g) i = m i := by
    intro i h1 h2 h3
    unfold yaC
    rw [upd_off h1, upd_off h3, upd_off h2]
  refine ⟨⟨by rw [off 3 (by omega) (by omega) (by omega)]; exact a1, a1'⟩, ⟨by unfold yaC; rw [upd_at], by omega⟩, ⟨by rw [off 5 (by omega) (by omega) (by omega)]; exact a3, a3'⟩, ⟨by rw [off 6 (by omega) (by omega) (by omega)]; exact a4, a4'⟩, fun s hs => ?_, fun c hc => ?_, fun k hk => ?_, fun k hk => ?_, by rw [off 7 (by omega) (by omega) (by omega)]; exact a9, by rw [off 9 (by omega) (by omega) (by omega)]; exact a10, by rw [off 11 (by omega) (by omega) (by omega)]; exact a11, by rw [off 12 (by omega) (by omega) (by omega)]; exact a12⟩
  · obtain ⟨b1, b2, b3, b4⟩ := a5 s hs
    exact ⟨by rw [off _ (by omega) (by omega) (by omega)]; exact b1, by rw [off _ (by omega) (by omega) (by omega)]; exact b2, by rw [off _ (by omega) (by omega) (by omega)]; exact b3, fun g hg => by rw [off _ (by omega) (by omega) (by omega)]; exact b4 g hg⟩
  · by_cases e : c = nc
    · subst e
      refine ⟨⟨a, h1, h2, ?_⟩, ⟨g, h3, h4, ?_⟩⟩
      · unfold yaC; rw [upd_off (by omega), upd_off (by omega), upd_at]
      · unfold yaC; rw [upd_off (by omega), upd_at]
    · obtain ⟨b1, b2⟩ := a6 c (by omega)
      exact ⟨by rw [off _ (by omega) (by omega) (by omega)]; exact b1, by rw [off _ (by omega) (by omega) (by omega)]; exact b2⟩
  · rw [off _ (by omega) (by omega) (by omega)]; exact a7 k hk
  · rw [off _ (by omega) (by omega) (by omega), off (93 + 5 * k + 1) (by omega) (by omega) (by omega), off (93 + 5 * k + 2) (by omega) (by omega) (by omega), off (93 + 5 * k + 3) (by omega) (by omega) (by omega), off (93 + 5 * k + 4) (by omega) (by omega) (by omega)]; exact a8 k hk
theorem BD.addM (h : BD m n nc ns nd) (hn : ns < 4) {a : Nat} (h1 : 2 ≤ a) (h2 : a ≤ 6) : BD (yaM m ns (nI a)) n nc (ns + 1) nd := by
  obtain ⟨⟨a1, a1'⟩, ⟨a2, a2'⟩, ⟨a3, a3'⟩, ⟨a4, a4'⟩, a5, a6, a7, a8, a9, a10, a11, a12⟩ := h
  have off : ∀ i, i ≠ 5 → i ≠ 89 + ns → yaM m ns (nI a) i = m i := by
    intro i h1 h2
    unfold yaM
    rw [upd_off h1, upd_off h2]
  refine ⟨⟨by rw [off 3 (by omega) (by omega)]; exact a1, a1'⟩, ⟨by rw [off 4 (by omega) (by omega)]; exact a2, a2'⟩, ⟨by unfold yaM; rw [upd_at], by omega⟩, ⟨by rw [off 6 (by omega) (by omega)]; exact a4, a4'⟩, fun s hs => ?_, fun c hc => ?_, fun k hk => ?_, fun k hk => ?_, by rw [off 7 (by omega) (by omega)]; exact a9, by rw [off 9 (by omega) (by omega)]; exact a10, by rw [off 11 (by omega) (by omega)]; exact a11, by rw [off 12 (by omega) (by omega)]; exact a12⟩
  · obtain ⟨b1, b2, b3, b4⟩ := a5 s hs
    exact ⟨by rw [off _ (by omega) (by omega)]; exact b1, by rw [off _ (by omega) (by omega)]; exact b2, by rw [off _ (by omega) (by omega)]; exact b3, fun g hg => by rw [off _ (by omega) (by omega)]; exact b4 g hg⟩
  · obtain ⟨b1, b2⟩ := a6 c hc
    exact ⟨by rw [off _ (by omega) (by omega)]; exact b1, by rw [off _ (by omega) (by omega)]; exact b2⟩
  · by_cases e : k = ns
    · subst e
      exact ⟨a, h1, h2, by unfold yaM; rw [upd_off (by omega), upd_at]⟩
    · rw [off _ (by omega) (by omega)]; exact a7 k (by omega)
  · rw [off _ (by omega) (by omega), off (93 + 5 * k + 1) (by omega) (by omega), off (93 + 5 * k + 2) (by omega) (by omega), off (93 + 5 * k + 3) (by omega) (by omega), off (93 + 5 * k + 4) (by omega) (by omega)]; exact a8 k hk
theorem BD.addD (h : BD m n nc ns nd) (hn : nd < 6) {lo hi q p : Nat} (h1 : 1 ≤ lo) (h2 : lo ≤ hi) (h3 : hi ≤ 6) (h4 : 1 ≤ q) (h5 : q ≤ 99) (h6 : p ≤ 9) : BD (yaD m nd (nI lo) (nI hi) (nI q) (nI p)) n nc ns (nd + 1) := by
  obtain ⟨⟨a1, a1'⟩, ⟨a2, a2'⟩, ⟨a3, a3'⟩, ⟨a4, a4'⟩, a5, a6, a7, a8, a9, a10, a11, a12⟩ := h
  have off : ∀ i, i ≠ 6 → (i < 93 + 5 * nd ∨ 98 + 5 * nd ≤ i) → yaD m nd (nI lo) (nI hi) (nI q) (nI p) i = m i := by
    intro i h1 h2
    unfold yaD
    rw [upd_off h1, upd_off (by omega), upd_off (by omega), upd_off (by omega), upd_off (by omega), upd_off (by omega)]
  refine ⟨⟨by rw [off 3 (by omega) (by omega)]; exact a1, a1'⟩, ⟨by rw [off 4 (by omega) (by omega)]; exact a2, a2'⟩, ⟨by rw [off 5 (by omega) (by omega)]; exact a3, a3'⟩, ⟨by unfold yaD; rw [upd_at], by omega⟩, fun s hs => ?_, fun c hc => ?_, fun k hk => ?_, fun k hk => ?_, by rw [off 7 (by omega) (by omega)]; exact a9, by rw [off 9 (by omega) (by omega)]; exact a10, by rw [off 11 (by omega) (by omega)]; exact a11, by rw [off 12 (by omega) (by omega)]; exact a12⟩
  · obtain ⟨b1, b2, b3, b4⟩ := a5 s hs
    exact ⟨by rw [off _ (by omega) (by omega)]; exact b1, by rw [off _ (by omega) (by omega)]; exact b2, by rw [off _ (by omega) (by omega)]; exact b3, fun g hg => by rw [off _ (by omega) (by omega)]; exact b4 g hg⟩
  · obtain ⟨b1, b2⟩ := a6 c hc
    exact ⟨by rw [off _ (by omega) (by omega)]; exact b1, by rw [off _ (by omega) (by omega)]; exact b2⟩
  · rw [off _ (by omega) (by omega)]; exact a7 k hk
  · by_cases e : k = nd
    · subst e
      refine ⟨lo, hi, q, p, h1, h2, h3, h4, h5, h6, ?_, ?_, ?_, ?_, Or.inr ?_⟩
      · unfold yaD; rw [upd_off (by omega), upd_off (by omega), upd_off (by omega), upd_off (by omega), upd_off (by omega)]; exact upd_at
      · unfold yaD; rw [upd_off (by omega), upd_off (by omega), upd_off (by omega), upd_off (by omega), upd_at]
      · unfold yaD; rw [upd_off (by omega), upd_off (by omega), upd_off (by omega), upd_at]
      · unfold yaD; rw [upd_off (by omega), upd_off (by omega), upd_at]
      · unfold yaD; rw [upd_off (by omega), upd_at]
    · rw [off _ (by omega) (by omega), off (93 + 5 * k + 1) (by omega) (by omega), off (93 + 5 * k + 2) (by omega) (by omega), off (93 + 5 * k + 3) (by omega) (by omega), off (93 + 5 * k + 4) (by omega) (by omega)]; exact a8 k (by omega)
theorem BD.u7 (h : BD m n nc ns nd) {v : Int32} (hv : ∃ w, w ≤ 100 ∧ v = nI w) : BD (upd m 7 v) n nc ns nd := by
  obtain ⟨⟨a1, a1'⟩, ⟨a2, a2'⟩, ⟨a3, a3'⟩, ⟨a4, a4'⟩, a5, a6, a7, a8, a9, a10, a11, a12⟩ := h
  refine ⟨⟨by rw [upd_off (by omega)]; exact a1, a1'⟩, ⟨by rw [upd_off (by omega)]; exact a2, a2'⟩, ⟨by rw [upd_off (by omega)]; exact a3, a3'⟩, ⟨by rw [upd_off (by omega)]; exact a4, a4'⟩, fun s' hs' => ?_, fun c hc => ?_, fun k hk => ?_, fun k hk => ?_, by rw [upd_at]; exact hv, by rw [upd_off (by omega)]; exact a10, by rw [upd_off (by omega)]; exact a11, by rw [upd_off (by omega)]; exact a12⟩
  · obtain ⟨b1, b2, b3, b4⟩ := a5 s' hs'
    exact ⟨by rw [upd_off (by omega)]; exact b1, by rw [upd_off (by omega)]; exact b2, by rw [upd_off (by omega)]; exact b3, fun g hg => by rw [upd_off (by omega)]; exact b4 g hg⟩
  · obtain ⟨b1, b2⟩ := a6 c hc
    exact ⟨by rw [upd_off (by omega)]; exact b1, by rw [upd_off (by omega)]; exact b2⟩
  · rw [upd_off (by omega)]; exact a7 k hk
  · rw [upd_off (by omega), upd_off (by omega), upd_off (by omega), upd_off (by omega), upd_off (by omega)]; exact a8 k hk
end YBD
section YGL
variable {m m0 : Nat → Int32} {t : Nat → Int32} {n b b0 : Nat}
theorem YI.u (h : YI m0 m) {i : Nat} {v : Int32} (hB : ∀ n nc ns nd, BD m n nc ns nd → BD (upd m i v) n nc ns nd) (hi : ¬ (i < 3 ∨ i = 12 ∨ i = 13 ∨ 123 ≤ i)) : YI m0 (upd m i v) := by
  obtain ⟨⟨n, nc, ns, nd, h1⟩, h2⟩ := h
  refine ⟨⟨n, nc, ns, nd, hB _ _ _ _ h1⟩, fun j hj => ?_⟩
  rw [upd_off (by omega)]
  exact h2 j hj
theorem cN_eq {i k : Nat} (h : m i = nI k) (hk : k < 2 ^ 31) : cN m i = k := by unfold cN; rw [h, nI_clamp hk]
theorem gd_yl (hI : YI m0 m) (hb : b ≤ n) (hs : sk t n b = b) : YGd t n (b + 1) (YI m0) (yl t n b m) := by
  obtain ⟨⟨q, nc, ns, nd, hB⟩, hK⟩ := hI
  have hI : YI m0 m := ⟨⟨q, nc, ns, nd, hB⟩, hK⟩
  unfold yl
  refine YGd.O (by decide) hb (fun b1 g1 l1 s1 => ?_) ?_
  · split
    · exact YGd.err hb
    · rename_i h7
      have hq : q < 7 := by
        have := hB.1.2
        by_cases e : q = 7
        · exact absurd (by rw [hB.1.1, e]) h7
        · omega
      have ec : cN m 3 = q := cN_eq hB.1.1 (by omega)
      have fin : ∀ b4 x y w, run kD t n b4 = b4 + 6 → x ≤ 9 → y ≤ 9 → w ≤ 99 → YI m0 (yMx (yaS m (cN m 3) (nI x) (nI y) (nI w)) (cN m 3) t b4 6) := by
        intro b4 x y w hr hx hy hw
        rw [ec]
        refine ⟨⟨q + 1, nc, ns, nd, hB.addS hq hx hy hw (fun k hk => kD_val (run_all (P := kD) (t := t) (n := n) (p := b4) (q := b4 + k) (by omega) (by omega)).2)⟩, fun i hi => ?_⟩
        rw [yMx_off 6 (by omega)]
        unfold yaS
        rw [upd_off (by omega), upd_off (by omega), upd_off (by omega), upd_off (by omega)]
        exact hK i hi
      unfold yStreet
      refine YGd.W (by decide) l1 (by omega) (fun b2 g2 l2 s2 => ?_)
      refine YGd.N (by omega) (by omega) l2 (fun b3 x g3 l3 s3 _ hx => ?_)
      refine YGd.N (by omega) (by omega) l3 (fun b4 y g4 l4 s4 _ hy => ?_)
      refine YGd.W (by decide) l4 (by omega) (fun b5 g5 l5 s5 => ?_)
      refine YGd.F l5 (fun b6 hr g6 l6 s6 => ?_)
      refine YGd.O (by decide) l6 (fun b7 g7 l7 s7 => ?_) ?_
      · refine YGd.N (by omega) (by omega) l7 (fun b8 w g8 l8 s8 _ hw => ?_)
        exact YGd.ok (by omega) l8 s8 (fin _ _ _ _ hr hx hy hw)
      · exact YGd.ok (by omega) l6 s6 (fin _ _ _ 0 hr hx hy (by omega))
  refine YGd.O (by decide) hb (fun b1 g1 l1 s1 => ?_) ?_
  · split
    · exact YGd.err hb
    · rename_i h7
      have hq : nc < 3 := by
        have := hB.2.1.2
        by_cases e : nc = 3
        · exact absurd (by rw [hB.2.1.1, e]) h7
        · omega
      have ec : cN m 4 = nc := cN_eq hB.2.1.1 (by omega)
      unfold yCart
      refine YGd.W (by decide) l1 (by omega) (fun b2 g2 l2 s2 => ?_)
      refine YGd.N (by omega) (by omega) l2 (fun b3 x g3 l3 s3 hx0 hx => ?_)
      refine YGd.W (by decide) l3 (by omega) (fun b4 g4 l4 s4 => ?_)
      refine YGd.N (by omega) (by omega) l4 (fun b5 y g5 l5 s5 hy0 hy => ?_)
      refine YGd.ok (by omega) l5 s5 ⟨⟨q, nc + 1, ns, nd, by rw [ec]; exact hB.addC hq hx0 hx hy0 hy⟩, fun i hi => ?_⟩
      rw [ec]; unfold yaC
      rw [upd_off (by omega), upd_off (by omega), upd_off (by omega)]
      exact hK i hi
  refine YGd.O (by decide) hb (fun b1 g1 l1 s1 => ?_) ?_
  · split
    · exact YGd.err hb
    · rename_i h7
      have hq : ns < 4 := by
        have := hB.2.2.1.2
        by_cases e : ns = 4
        · exact absurd (by rw [hB.2.2.1.1, e]) h7
        · omega
      have ec : cN m 5 = ns := cN_eq hB.2.2.1.1 (by omega)
      unfold ySieve
      refine YGd.N (by omega) (by omega) l1 (fun b3 x g3 l3 s3 hx0 hx => ?_)
      refine YGd.ok (by omega) l3 s3 ⟨⟨q, nc, ns + 1, nd, by rw [ec]; exact hB.addM hq hx0 hx⟩, fun i hi => ?_⟩
      rw [ec]; unfold yaM
      rw [upd_off (by omega), upd_off (by omega)]
      exact hK i hi
  refine YGd.O (by decide) hb (fun b1 g1 l1 s1 => ?_) ?_
  · split
    · exact YGd.err hb
    · rename_i h7
      have hq : nd < 6 := by
        have := hB.2.2.2.1.2
        by_cases e : nd = 6
        · exact absurd (by rw [hB.2.2.2.1.1, e]) h7
        · omega
      have ec : cN m 6 = nd := cN_eq hB.2.2.2.1.1 (by omega)
      unfold yDeal
      refine YGd.N (by omega) (by omega) l1 (fun b2 lo g2 l2 s2 hx0 hx => ?_)
      refine YGd.W (by decide) l2 (by omega) (fun b3 g3 l3 s3 => ?_)
      refine YGd.N (by omega) (by omega) l3 (fun b4 hi g4 l4 s4 hy0 hy => ?_)
      refine YGd.W (by decide) l4 (by omega) (fun b5 g5 l5 s5 => ?_)
      refine YGd.N (by omega) (by omega) l5 (fun b6 qq g6 l6 s6 hz0 hz => ?_)
      refine YGd.W (by decide) l6 (by omega) (fun b7 g7 l7 s7 => ?_)
      refine YGd.N (by omega) (by omega) l7 (fun b8 p g8 l8 s8 hp0 hp => ?_)
      refine YGd.ok (by omega) l8 s8 ⟨⟨q, nc, ns, nd + 1, by rw [ec]; exact hB.addD hq hx0 hy0 hy hz0 hz hp⟩, fun i hi => ?_⟩
      rw [ec]; unfold yaD
      rw [upd_off (by omega), upd_off (by omega), upd_off (by omega), upd_off (by omega), upd_off (by omega), upd_off (by omega)]
      exact hK i hi
  refine YGd.O (by decide) hb (fun b1 g1 l1 s1 => ?_) ?_
  · unfold yHeap
    refine YGd.N (by omega) (by omega) l1 (fun b2 g g2 l2 s2 hx0 hx => ?_)
    refine YGd.N (by omega) (by omega) l2 (fun b3 v g3 l3 s3 hy0 hy => ?_)
    rw [nI_clamp (by omega)]
    exact YGd.ok (by omega) l3 s3 (hI.u (fun _ _ _ _ h => h.u0 (by unfold rel; omega)) (by omega))
  unfold yRest yTell
  refine YGd.O (by decide) hb (fun b1 g1 l1 s1 => ?_) ?_
  · refine YGd.N (by omega) (by omega) l1 (fun b2 v g2 l2 s2 hx0 hx => ?_)
    exact YGd.ok (by omega) l2 s2 (hI.u (fun _ _ _ _ h => h.u7 ⟨v, hx, rfl⟩) (by omega))
  refine YGd.O (by decide) hb (fun b1 g1 l1 s1 => ?_) ?_
  · refine YGd.N (by omega) (by omega) l1 (fun b2 v g2 l2 s2 hx0 hx => ?_)
    exact YGd.ok (by omega) l2 s2 (hI.u (fun _ _ _ _ h => h.u0 (by unfold rel; omega)) (by omega))
  refine YGd.O (by decide) hb (fun b1 g1 l1 s1 => ?_) ?_
  · refine YGd.N (by omega) (by omega) l1 (fun b2 v g2 l2 s2 hx0 hx => ?_)
    exact YGd.ok (by omega) l2 s2 (hI.u (fun _ _ _ _ h => h.u9 ⟨v, by omega, rfl⟩) (by omega))
  refine YGd.O (by decide) hb (fun b1 g1 l1 s1 => ?_) ?_
  · refine YGd.N (by omega) (by omega) l1 (fun b2 v g2 l2 s2 hx0 hx => ?_)
    exact YGd.ok (by omega) l2 s2 (hI.u (fun _ _ _ _ h => h.u0 (by unfold rel; omega)) (by omega))
  refine YGd.O (by decide) hb (fun b1 g1 l1 s1 => ?_) (YGd.err hb)
  exact YGd.ok (by omega) l1 s1 (hI.u (fun _ _ _ _ h => h.u11 b01_1) (by omega))
theorem gd_yline : LnG t n (yLine t n) (fun s => YI m0 s.2) (fun s => s.1) := by
  intro b s hb hs hI
  obtain ⟨h1, h2⟩ := gd_yl (t := t) hI hb hs
  unfold yLine
  split
  · rename_i b1 m1 e1
    obtain ⟨a1, a2, a3, a4⟩ := h1 b1 m1 e1
    refine ⟨fun b' s' e => ?_, fun e h => by cases h⟩
    cases e
    exact ⟨by omega, a2, a3, a4, rfl⟩
  · rename_i e e1
    exact ⟨fun b' s' e => (by cases e), fun e2 h => by cases h; exact h2 e e1⟩
end YGL
