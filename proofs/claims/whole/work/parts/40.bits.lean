/-! how many bits -/
theorem e_bits {x : Int32} {σ : pw_Mem} {K : Int32 → pw_Mem → Prop} (h : K (nI (cnt x 32)) σ) : R_J6_bitCount_0f7a4 x σ K := by
  sorry
