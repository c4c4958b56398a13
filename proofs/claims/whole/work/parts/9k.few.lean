/-! THE FEWEST SIEVES: one by one is as good as all sets -/
def cq (q : Nat → Nat) (S : Nat) : Nat → Nat
  | 0 => 0
  | k + 1 => if S.testBit k = true then cq q S k ||| 2 ^ q k else cq q S k
def gr (q : Nat → Nat) (N : Nat) : Nat → Nat × Nat
  | 0 => (0, 0)
  | k + 1 => match gr q N k with
    | (c, s) => if (N.testBit (q k) && !c.testBit (q k)) = true then (c ||| 2 ^ q k, s ||| 2 ^ k) else (c, s)
def fw (q : Nat → Nat) (N ns : Nat) : Nat → Option Nat
  | 0 => none
  | S + 1 => match fw q N ns S with
    | none => if N &&& cq q S ns = N then some S else none
    | some b => if N &&& cq q S ns = N then (if pb S 7 < pb b 7 then some S else some b) else some b
def fwA (q : Nat → Nat) (N ns : Nat) : Option Nat := match gr q N ns with
  | (c, s) => if c = N then some s else none
def qf (a b c e : Nat) : Nat → Nat
  | 0 => a + 2
  | 1 => b + 2
  | 2 => c + 2
  | _ => e + 2
theorem fw0 : ∀ M, M < 32 → fw (qf 0 0 0 0) (4 * M) 0 (2 ^ 0) = fwA (qf 0 0 0 0) (4 * M) 0 := by decide +kernel
theorem fw1 : ∀ a, a < 5 → ∀ M, M < 32 → fw (qf a 0 0 0) (4 * M) 1 (2 ^ 1) = fwA (qf a 0 0 0) (4 * M) 1 := by decide +kernel
theorem fw2 : ∀ a, a < 5 → ∀ b, b < 5 → ∀ M, M < 32 → fw (qf a b 0 0) (4 * M) 2 (2 ^ 2) = fwA (qf a b 0 0) (4 * M) 2 := by decide +kernel
theorem fw3 : ∀ a, a < 5 → ∀ b, b < 5 → ∀ c, c < 5 → ∀ M, M < 32 → fw (qf a b c 0) (4 * M) 3 (2 ^ 3) = fwA (qf a b c 0) (4 * M) 3 := by decide +kernel
theorem fw4_0 : ∀ b, b < 5 → ∀ c, c < 5 → ∀ e, e < 5 → ∀ M, M < 32 → fw (qf 0 b c e) (4 * M) 4 (2 ^ 4) = fwA (qf 0 b c e) (4 * M) 4 := by decide +kernel
theorem fw4_1 : ∀ b, b < 5 → ∀ c, c < 5 → ∀ e, e < 5 → ∀ M, M < 32 → fw (qf 1 b c e) (4 * M) 4 (2 ^ 4) = fwA (qf 1 b c e) (4 * M) 4 := by decide +kernel
theorem fw4_2 : ∀ b, b < 5 → ∀ c, c < 5 → ∀ e, e < 5 → ∀ M, M < 32 → fw (qf 2 b c e) (4 * M) 4 (2 ^ 4) = fwA (qf 2 b c e) (4 * M) 4 := by decide +kernel
theorem fw4_3 : ∀ b, b < 5 → ∀ c, c < 5 → ∀ e, e < 5 → ∀ M, M < 32 → fw (qf 3 b c e) (4 * M) 4 (2 ^ 4) = fwA (qf 3 b c e) (4 * M) 4 := by decide +kernel
theorem fw4_4 : ∀ b, b < 5 → ∀ c, c < 5 → ∀ e, e < 5 → ∀ M, M < 32 → fw (qf 4 b c e) (4 * M) 4 (2 ^ 4) = fwA (qf 4 b c e) (4 * M) 4 := by decide +kernel
theorem cq_congr {q q' : Nat → Nat} {S : Nat} : ∀ k, (∀ i, i < k → q i = q' i) → cq q S k = cq q' S k
  | 0, _ => rfl
  | k + 1, h => by
    unfold cq
    rw [cq_congr k (fun i hi => h i (by omega)), h k (by omega)]
theorem gr_congr {q q' : Nat → Nat} {N : Nat} : ∀ k, (∀ i, i < k → q i = q' i) → gr q N k = gr q' N k
  | 0, _ => rfl
  | k + 1, h => by
    unfold gr
    rw [gr_congr k (fun i hi => h i (by omega)), h k (by omega)]
theorem fw_congr {q q' : Nat → Nat} {N ns : Nat} (h : ∀ i, i < ns → q i = q' i) : ∀ S, fw q N ns S = fw q' N ns S
  | 0 => rfl
  | S + 1 => by
    unfold fw
    rw [fw_congr h S, cq_congr ns h]
theorem fw_all {q : Nat → Nat} {N ns : Nat} (hn : ns ≤ 4) (hq : ∀ i, i < ns → 2 ≤ q i ∧ q i ≤ 6) (hN : N < 128) (h4 : N % 4 = 0) : fw q N ns (2 ^ ns) = fwA q N ns := by
  obtain ⟨M, rfl⟩ : ∃ M, N = 4 * M := ⟨N / 4, by omega⟩
  have hM : M < 32 := by omega
  have go : ∀ q', (∀ i, i < ns → q i = q' i) → fw q' (4 * M) ns (2 ^ ns) = fwA q' (4 * M) ns → fw q (4 * M) ns (2 ^ ns) = fwA q (4 * M) ns := by
    intro q' hq' h
    rw [fw_congr hq', h]
    unfold fwA
    rw [gr_congr ns hq']
  have hc : ns = 0 ∨ ns = 1 ∨ ns = 2 ∨ ns = 3 ∨ ns = 4 := by omega
  rcases hc with rfl | rfl | rfl | rfl | rfl
  · exact go _ (fun i hi => by omega) (fw0 M hM)
  · have h0 := hq 0 (by omega)
    refine go (qf (q 0 - 2) 0 0 0) (fun i hi => ?_) (fw1 _ (by omega) M hM)
    have : i = 0 := by omega
    subst this
    show q 0 = q 0 - 2 + 2
    omega
  · have h0 := hq 0 (by omega)
    have h1 := hq 1 (by omega)
    refine go (qf (q 0 - 2) (q 1 - 2) 0 0) (fun i hi => ?_) (fw2 _ (by omega) _ (by omega) M hM)
    have : i = 0 ∨ i = 1 := by omega
    rcases this with rfl | rfl
    · show q 0 = q 0 - 2 + 2
      omega
    · show q 1 = q 1 - 2 + 2
      omega
  · have h0 := hq 0 (by omega)
    have h1 := hq 1 (by omega)
    have h2 := hq 2 (by omega)
    refine go (qf (q 0 - 2) (q 1 - 2) (q 2 - 2) 0) (fun i hi => ?_) (fw3 _ (by omega) _ (by omega) _ (by omega) M hM)
    have : i = 0 ∨ i = 1 ∨ i = 2 := by omega
    rcases this with rfl | rfl | rfl
    · show q 0 = q 0 - 2 + 2
      omega
    · show q 1 = q 1 - 2 + 2
      omega
    · show q 2 = q 2 - 2 + 2
      omega
  · have h0 := hq 0 (by omega)
    have h1 := hq 1 (by omega)
    have h2 := hq 2 (by omega)
    have h3 := hq 3 (by omega)
    have all4 : ∀ a, a < 5 → fw (qf a (q 1 - 2) (q 2 - 2) (q 3 - 2)) (4 * M) 4 (2 ^ 4) = fwA (qf a (q 1 - 2) (q 2 - 2) (q 3 - 2)) (4 * M) 4 := by
      intro a ha
      have : a = 0 ∨ a = 1 ∨ a = 2 ∨ a = 3 ∨ a = 4 := by omega
      rcases this with rfl | rfl | rfl | rfl | rfl
      · exact fw4_0 _ (by omega) _ (by omega) _ (by omega) M hM
      · exact fw4_1 _ (by omega) _ (by omega) _ (by omega) M hM
      · exact fw4_2 _ (by omega) _ (by omega) _ (by omega) M hM
      · exact fw4_3 _ (by omega) _ (by omega) _ (by omega) M hM
      · exact fw4_4 _ (by omega) _ (by omega) _ (by omega) M hM
    refine go (qf (q 0 - 2) (q 1 - 2) (q 2 - 2) (q 3 - 2)) (fun i hi => ?_) (all4 _ (by omega))
    have : i = 0 ∨ i = 1 ∨ i = 2 ∨ i = 3 := by omega
    rcases this with rfl | rfl | rfl | rfl
    · show q 0 = q 0 - 2 + 2
      omega
    · show q 1 = q 1 - 2 + 2
      omega
    · show q 2 = q 2 - 2 + 2
      omega
    · show q 3 = q 3 - 2 + 2
      omega
