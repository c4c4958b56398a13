/-! THE MODEL: its log -/
/-- the rows from place k on are moved by one row -/
def sShf (m : Nat → Int32) (k : Nat) : Nat → Int32 := fun i => if 123 + k ≤ i ∧ i < 423 then m (i - 5) else m i
theorem sShf_step {m : Nat → Int32} {k : Nat} (h : 5 ≤ k) (h2 : k < 300) : upd (sShf m (k + 1)) (123 + k) (sShf m (k + 1) (118 + k)) = sShf m k := by
  funext i
  unfold upd
  by_cases e : i = 123 + k
  · subst e
    rw [if_pos rfl]
    unfold sShf
    rw [if_neg (by omega), if_pos (by omega)]
    congr 1; omega
  · rw [if_neg e]
    unfold sShf
    by_cases e2 : 123 + k ≤ i ∧ i < 423
    · rw [if_pos (by omega), if_pos e2]
    · rw [if_neg (by omega), if_neg e2]
section CM6
variable {d : Nat} {σ : mSg} {f : Nat → Int32} {Q : mPst}
theorem sLog_of {m : Nat → Int32} {a b c e n : Int32} : upd (upd (upd (upd (upd (upd (sShf m 5) 123 a) 124 b) 125 c) 126 e) 127 n) 12 (sMin (nI 60) (m 12 + nI 1)) = sLog m a b c e n := by
  funext i
  unfold upd sLog sShf sMin
  repeat' split
  all_goals first | rfl | (exfalso; omega)
end CM6
