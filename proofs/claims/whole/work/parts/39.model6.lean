/-! THE MODEL: its log -/
/-- the rows from place k on are moved by one row -/
def sShf (m : Nat → Int32) (k : Nat) : Nat → Int32 := fun i => if 123 + k ≤ i ∧ i < 423 then m (i - 5) else m i
theorem sShf_step {m : Nat → Int32} {k : Nat} (h : 5 ≤ k) (h2 : k < 300) : upd (sShf m (k + 1)) (123 + k) (sShf m (k + 1) (118 + k)) = sShf m k := by
  funext i
  unfold upd
  by_cases e : i = 123 + k
  · subst e
    rw [if_pos rfl]
    unfold sShf
    rw [if_neg (by omega), if_pos (by omega)]
    congr 1; omega
  · rw [if_neg e]
    unfold sShf
    by_cases e2 : 123 + k ≤ i ∧ i < 423
    · rw [if_pos (by omega), if_pos e2]
    · rw [if_neg (by omega), if_neg e2]
section CM6
variable {d : Nat} {σ : mSg} {f : Nat → Int32} {Q : mPst}
theorem sLog_of {m : Nat → Int32} {a b c e n : Int32} : upd (upd (upd (upd (upd (upd (sShf m 5) 123 a) 124 b) 125 c) 126 e) 127 n) 12 (sMin (nI 60) (m 12 + nI 1)) = sLog m a b c e n := by
  funext i
  unfold upd sLog sShf sMin
  by_cases h12 : i = 12
  · rw [if_pos h12, if_pos h12]
  · rw [if_neg h12, if_neg h12]
    by_cases h : 128 ≤ i ∧ i < 423
    · rw [if_neg (by omega), if_neg (by omega), if_neg (by omega), if_neg (by omega), if_neg (by omega), if_pos h, if_pos h]
    · rw [if_neg h]
      by_cases h3 : i = 123
      · rw [if_neg (by omega), if_neg (by omega), if_neg (by omega), if_neg (by omega), if_pos h3, if_pos h3]
      · rw [if_neg h3]
        by_cases h4 : i = 124
        · rw [if_neg (by omega), if_neg (by omega), if_neg (by omega), if_pos h4, if_pos h4]
        · rw [if_neg h4]
          by_cases h5 : i = 125
          · rw [if_neg (by omega), if_neg (by omega), if_pos h5, if_pos h5]
          · rw [if_neg h5]
            by_cases h6 : i = 126
            · rw [if_neg (by omega), if_pos h6, if_pos h6]
            · rw [if_neg h6]
              by_cases h7 : i = 127
              · rw [if_pos h7, if_pos h7]
              · rw [if_neg h7, if_neg h7, if_neg h6, if_neg h5, if_neg h4, if_neg h3, if_neg h]
end CM6
