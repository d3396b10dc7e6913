theorem fl_0 (σ : Mem) (k : Nat) (v : Int32) : fl σ k 0 v = σ := by
  funext a i
  unfold fl
  by_cases h : a = k
  · subst h; rw [if_pos rfl]; exact if_neg (Nat.not_lt_zero i)
  · rw [if_neg h]
theorem fl_up (σ : Mem) (k n : Nat) (v : Int32) : mu (fl σ k n v) k n v = fl σ k (n + 1) v := by
  funext a i
  by_cases h : a = k
  · subst h
    rw [mu_s]
    unfold upd fl
    rw [if_pos rfl, if_pos rfl]
    by_cases q : i = n
    · subst q; rw [if_pos rfl, if_pos (by omega)]
    · rw [if_neg q]
      by_cases q2 : i < n
      · rw [if_pos q2, if_pos (by omega)]
      · rw [if_neg q2, if_neg (by omega)]
  · rw [mu_n h]; unfold fl; rw [if_neg h, if_neg h]
def zM : Mem := mu (mu (fl (fl z0 1 32 (-1)) 3 8 (-1)) 0 15 1) 21 0 (-1)
