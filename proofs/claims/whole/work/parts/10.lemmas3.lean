theorem cn_bit (set i : Nat) : cn (fun j => set.testBit j) (i + 1) = cn (fun j => set.testBit j) i + set / 2 ^ i % 2 := by
  have ht := Nat.testBit_eq_decide_div_mod_eq (x := set) (i := i)
  rcases Nat.mod_two_eq_zero_or_one (set / 2 ^ i) with h | h
  · rw [h] at ht ⊢
    rw [cn_f (by rw [ht]; rfl)]
    rfl
  · rw [h] at ht ⊢
    rw [cn_t (by rw [ht]; rfl)]
