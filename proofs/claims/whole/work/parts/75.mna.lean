/-! the law of the one instruction that makes an array of arrays -/
theorem mn_one : (1 : Nat) = 1 := rfl
