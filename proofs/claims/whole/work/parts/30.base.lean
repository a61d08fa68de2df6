/-! ===== Int32 by its bits: bt x i ===== -/
def bt (x : Int32) (i : Nat) : Bool := x.toBitVec.getLsbD i
theorem b_ext {x y : Int32} (h : ∀ i, i < 32 → bt x i = bt y i) : x = y := Int32.toBitVec_inj.mp (BitVec.eq_of_getLsbD_eq (fun i hi => h i hi))
theorem b_or (x y : Int32) (i : Nat) : bt (x ||| y) i = (bt x i || bt y i) := by unfold bt; rw [Int32.toBitVec_or, BitVec.getLsbD_or]
theorem b_and (x y : Int32) (i : Nat) : bt (x &&& y) i = (bt x i && bt y i) := by unfold bt; rw [Int32.toBitVec_and, BitVec.getLsbD_and]
theorem b_xor (x y : Int32) (i : Nat) : bt (x ^^^ y) i = (bt x i ^^ bt y i) := by unfold bt; rw [Int32.toBitVec_xor, BitVec.getLsbD_xor]
theorem b_big {x : Int32} {i : Nat} (h : 32 ≤ i) : bt x i = false := BitVec.getLsbD_of_ge _ _ h
theorem b_255 (i : Nat) : bt 255 i = decide (i < 8) := by
  rcases Nat.lt_or_ge i 32 with h | h
  · exact (by decide +kernel : ∀ i, i < 32 → bt 255 i = decide (i < 8)) i h
  · rw [b_big h, decide_eq_false (by omega)]
theorem b_65535 (i : Nat) : bt 65535 i = decide (i < 16) := by
  rcases Nat.lt_or_ge i 32 with h | h
  · exact (by decide +kernel : ∀ i, i < 32 → bt 65535 i = decide (i < 16)) i h
  · rw [b_big h, decide_eq_false (by omega)]
theorem b_m1 : ∀ i, i < 32 → bt (-1) i = true := by decide +kernel
theorem b_0 (i : Nat) : bt 0 i = false := BitVec.getLsbD_zero
theorem s_l : ∀ n, n < 32 → ((nI n &&& 31).toBitVec.smod 32).toNat = n := by decide +kernel
theorem s_u : ∀ n, n < 32 → (((nI n).toUInt32 &&& Int32.toUInt32 31).toBitVec % 32).toNat = n := by decide +kernel
theorem b_shl (n : Nat) (hn : n < 32) (x : Int32) {i : Nat} (hi : i < 32) : bt (x <<< (nI n &&& 31)) i = (decide (n ≤ i) && bt x (i - n)) := by
  unfold bt
  rw [Int32.toBitVec_shiftLeft]
  show (x.toBitVec <<< ((nI n &&& 31).toBitVec.smod 32).toNat).getLsbD i = _
  rw [s_l n hn, BitVec.getLsbD_shiftLeft]
  rcases Nat.lt_or_ge i n with h | h
  · simp [h, Nat.not_le.mpr h]
  · simp [hi, h, Nat.not_lt.mpr h]
theorem b_ushr (n : Nat) (hn : n < 32) (x : Int32) (i : Nat) : bt ((x.toUInt32 >>> ((nI n).toUInt32 &&& Int32.toUInt32 31)).toInt32) i = bt x (n + i) := by
  show (x.toUInt32 >>> ((nI n).toUInt32 &&& Int32.toUInt32 31)).toBitVec.getLsbD i = x.toUInt32.toBitVec.getLsbD (n + i)
  rw [UInt32.toBitVec_shiftRight]
  show (x.toUInt32.toBitVec >>> (((nI n).toUInt32 &&& Int32.toUInt32 31).toBitVec % 32).toNat).getLsbD i = _
  rw [s_u n hn, BitVec.getLsbD_ushiftRight]
theorem b_sshr (n : Nat) (hn : n < 32) (x : Int32) {i : Nat} (hi : i < 32) : bt (x >>> (nI n &&& 31)) i = if n + i < 32 then bt x (n + i) else bt x 31 := by
  unfold bt
  rw [Int32.toBitVec_shiftRight]
  show (x.toBitVec.sshiftRight ((nI n &&& 31).toBitVec.smod 32).toNat).getLsbD i = _
  rw [s_l n hn, BitVec.getLsbD_sshiftRight, BitVec.msb_eq_getLsbD_last]
  simp [hi]
theorem b_shl8 (x : Int32) {i : Nat} (hi : i < 32) : bt (x <<< ((8 : Int32) &&& 31)) i = (decide (8 ≤ i) && bt x (i - 8)) := b_shl 8 (by omega) x hi
theorem b_shl16 (x : Int32) {i : Nat} (hi : i < 32) : bt (x <<< ((16 : Int32) &&& 31)) i = (decide (16 ≤ i) && bt x (i - 16)) := b_shl 16 (by omega) x hi
theorem b_shl24 (x : Int32) {i : Nat} (hi : i < 32) : bt (x <<< ((24 : Int32) &&& 31)) i = (decide (24 ≤ i) && bt x (i - 24)) := b_shl 24 (by omega) x hi
theorem b_sshr8 (x : Int32) {i : Nat} (hi : i < 32) : bt (x >>> ((8 : Int32) &&& 31)) i = if 8 + i < 32 then bt x (8 + i) else bt x 31 := b_sshr 8 (by omega) x hi

/-! memory, numbers, the little tests -/
theorem pw_r {σ : pw_Mem} {k j a : Nat} {v : Int32} (h : ¬ a = k) : pw_up σ k j v a = σ a := by funext b; simp [pw_up, h]
theorem pw_s {σ : pw_Mem} {k j : Nat} {v : Int32} : pw_up σ k j v k = upd (σ k) j v := (pw_upd σ k j v).symm
def ok (a : Int32) (n : Nat) : Prop := ∃ j, j < n ∧ a = nI j
theorem rgx {a lo hi : Int32} (m N : Nat) (hlo : lo = nI m) (hhi : hi = nI N) (hN : N < 2 ^ 31) (hm : m < 2 ^ 31) : (lo.toInt ≤ a.toInt ∧ a.toInt ≤ hi.toInt) ↔ ∃ j, m ≤ j ∧ j ≤ N ∧ a = nI j := by
  subst hlo; subst hhi
  rw [nI_toInt hm, nI_toInt hN]
  constructor
  · intro h
    by_cases h0 : a < 0
    · have := Int32.lt_iff_toInt_lt.mp h0
      have e : (0 : Int32).toInt = 0 := by decide
      omega
    · obtain ⟨j, hj, rfl⟩ := nI_of h0
      rw [nI_toInt hj] at h
      exact ⟨j, by omega, by omega, rfl⟩
  · rintro ⟨j, h1, h2, rfl⟩
    rw [nI_toInt (by omega)]
    omega
theorem rgn {a : Int32} {n : Nat} (hn : n < 2 ^ 30) : (0 ≤ a.toInt ∧ a.toInt ≤ (nI n - 1).toInt) ↔ ok a n := by
  have e : (nI n - 1).toInt = (n : Int) - 1 := by
    have h := pk_sub_toInt (a := n) (b := 1) hn (by omega)
    exact h
  rw [e]
  constructor
  · intro h
    by_cases h0 : a < 0
    · have := Int32.lt_iff_toInt_lt.mp h0
      have e : (0 : Int32).toInt = 0 := by decide
      omega
    · obtain ⟨j, hj, rfl⟩ := nI_of h0
      rw [nI_toInt hj] at h
      exact ⟨j, by omega, rfl⟩
  · rintro ⟨j, h1, rfl⟩
    rw [nI_toInt (by omega)]
    omega
theorem e_within {a b c : Int32} {σ : pw_Mem} {K : Int32 → pw_Mem → Prop} (h1 : (b.toInt ≤ a.toInt ∧ a.toInt ≤ c.toInt) → K 1 σ) (h0 : ¬ (b.toInt ≤ a.toInt ∧ a.toInt ≤ c.toInt) → K 0 σ) : R_X10_within a b c σ K := by
  unfold R_X10_within
  refine ⟨fun q => h0 ?_, fun q => ⟨fun q2 => h0 ?_, fun q2 => h1 ?_⟩⟩
  · have := Int32.lt_iff_toInt_lt.mp q; omega
  · have := Int32.lt_iff_toInt_lt.mp q2; omega
  · have h3 : ¬ a.toInt < b.toInt := fun h => q (Int32.lt_iff_toInt_lt.mpr h)
    have h4 : ¬ c.toInt < a.toInt := fun h => q2 (Int32.lt_iff_toInt_lt.mpr h)
    omega
theorem lg_lt0 (x y : Int64) : lg_cmp x y < 0 ↔ x.toInt < y.toInt := by
  unfold lg_cmp
  simp only [gt_iff_lt, Int64.lt_iff_toInt_lt, ← Int64.toInt_inj]
  by_cases h1 : y.toInt < x.toInt
  · rw [if_pos h1]
    exact ⟨fun q => absurd q (by decide), fun q => by omega⟩
  · rw [if_neg h1]
    by_cases h2 : x.toInt = y.toInt
    · rw [if_pos h2]
      exact ⟨fun q => absurd q (by decide), fun q => by omega⟩
    · rw [if_neg h2]
      exact ⟨fun _ => by omega, fun _ => by decide⟩
theorem lg_gt0 (x y : Int64) : 0 < lg_cmp x y ↔ y.toInt < x.toInt := by
  unfold lg_cmp
  simp only [gt_iff_lt, Int64.lt_iff_toInt_lt, ← Int64.toInt_inj]
  by_cases h1 : y.toInt < x.toInt
  · rw [if_pos h1]
    exact ⟨fun _ => h1, fun _ => by decide⟩
  · rw [if_neg h1]
    by_cases h2 : x.toInt = y.toInt
    · rw [if_pos h2]
      exact ⟨fun q => absurd q (by decide), fun q => by omega⟩
    · rw [if_neg h2]
      exact ⟨fun q => absurd q (by decide), fun q => by omega⟩
theorem e_in {a b c : Int64} {σ : pw_Mem} {K : Int32 → pw_Mem → Prop} (h1 : (b.toInt ≤ a.toInt ∧ a.toInt ≤ c.toInt) → K 1 σ) (h0 : ¬ (b.toInt ≤ a.toInt ∧ a.toInt ≤ c.toInt) → K 0 σ) : R_X11_in a b c σ K := by
  unfold R_X11_in
  refine ⟨fun q => h0 ?_, fun q => ⟨fun q2 => h0 ?_, fun q2 => h1 ?_⟩⟩
  · have := (lg_lt0 _ _).mp q; omega
  · have := (lg_gt0 _ _).mp q2; omega
  · have h3 : ¬ a.toInt < b.toInt := fun h => q ((lg_lt0 _ _).mpr h)
    have h4 : ¬ c.toInt < a.toInt := fun h => q2 ((lg_gt0 _ _).mpr h)
    omega
section PWE
variable {σ : pw_Mem} {K : Int32 → pw_Mem → Prop} {a : Int32} {n : Nat}
theorem e_isR (hn : σ 1 2 = nI n) (hl : n ≤ 20) (h1 : ok a n → K 1 σ) (h0 : ¬ ok a n → K 0 σ) : R_X10_isRoutine a σ K := by
  unfold R_X10_isRoutine
  rw [hn]
  have e := rgn (a := a) (n := n) (by omega)
  exact e_within (fun h => ⟨rfl, h1 (e.mp h)⟩) (fun h => ⟨rfl, h0 (fun q => h (e.mpr q))⟩)
theorem e_isT (hn : σ 26 4 = nI n) (hl : n ≤ 6) (h1 : ok a n → K 1 σ) (h0 : ¬ ok a n → K 0 σ) : R_X10_isTask a σ K := by
  unfold R_X10_isTask
  rw [hn]
  have e := rgn (a := a) (n := n) (by omega)
  exact e_within (fun h => ⟨rfl, h1 (e.mp h)⟩) (fun h => ⟨rfl, h0 (fun q => h (e.mpr q))⟩)
theorem rgc {a hi : Int32} (N : Nat) (hhi : hi = nI N) (hN : N < 2 ^ 31) : ((0 : Int32).toInt ≤ a.toInt ∧ a.toInt ≤ hi.toInt) ↔ ok a (N + 1) := by
  rw [rgx 0 N (show (0 : Int32) = nI 0 from rfl) hhi hN (by decide)]
  exact ⟨fun ⟨j, _, h2, h3⟩ => ⟨j, by omega, h3⟩, fun ⟨j, h2, h3⟩ => ⟨j, by omega, by omega, h3⟩⟩
theorem e_rg {hi : Int32} (N : Nat) (hhi : hi = nI N) (hN : N < 2 ^ 31) (h1 : ok a (N + 1) → K 1 σ) (h0 : ¬ ok a (N + 1) → K 0 σ) : R_X10_within a 0 hi σ K :=
  e_within (fun h => h1 ((rgc N hhi hN).mp h)) (fun h => h0 (fun q => h ((rgc N hhi hN).mpr q)))
theorem l64 (x : Int32) : (x.toInt64).toInt = x.toInt := Int32.toInt_toInt64 x
theorem e_rgM {hi : Int64} (N : Nat) (hhi : hi.toInt = N) (hN : N < 2 ^ 31) (h1 : ok a (N + 1) → K 1 σ) (h0 : ¬ ok a (N + 1) → K 0 σ) : R_X11_in a.toInt64 0 hi σ K := by
  have e := rgc (a := a) (hi := nI N) N rfl hN
  rw [nI_toInt hN, ← hhi, ← l64 a] at e
  exact e_in (fun h => h1 (e.mp h)) (fun h => h0 (fun q => h (e.mpr q)))
theorem e_isM (hn : σ 49 0 = nI n) (hl : n ≤ 20) (h1 : ok a n → K 1 σ) (h0 : ¬ ok a n → K 0 σ) : R_X11_is a σ K := by
  unfold R_X11_is
  rw [hn]
  have e := rgn (a := a) (n := n) (by omega)
  rw [← l64 a, ← l64 (nI n - 1)] at e
  exact e_in (fun h => ⟨rfl, h1 (e.mp h)⟩) (fun h => ⟨rfl, h0 (fun q => h (e.mpr q))⟩)
theorem e_isTM (hn : σ 49 19 = nI n) (hl : n ≤ 6) (h1 : ok a n → K 1 σ) (h0 : ¬ ok a n → K 0 σ) : R_X11_isTask a σ K := by
  unfold R_X11_isTask
  rw [hn]
  have e := rgn (a := a) (n := n) (by omega)
  rw [← l64 a, ← l64 (nI n - 1)] at e
  exact e_in (fun h => ⟨rfl, h1 (e.mp h)⟩) (fun h => ⟨rfl, h0 (fun q => h (e.mpr q))⟩)
theorem e_isP (h1 : ok a 8 → K 1 σ) (h0 : ¬ ok a 8 → K 0 σ) : R_X10_isPointer a σ K := by
  unfold R_X10_isPointer
  exact e_rg 7 rfl (by decide) (fun h => ⟨rfl, h1 h⟩) (fun h => ⟨rfl, h0 h⟩)
theorem e_isPM (h1 : ok a 8 → K 1 σ) (h0 : ¬ ok a 8 → K 0 σ) : R_X11_isPointer a σ K := by
  unfold R_X11_isPointer
  exact e_rgM 7 rfl (by decide) (fun h => ⟨rfl, h1 h⟩) (fun h => ⟨rfl, h0 h⟩)
theorem e_isS (h1 : ok a 4 → K 1 σ) (h0 : ¬ ok a 4 → K 0 σ) : R_X10_isSheet a σ K := by
  unfold R_X10_isSheet
  exact e_rg 3 rfl (by decide) (fun h => ⟨rfl, h1 h⟩) (fun h => ⟨rfl, h0 h⟩)
theorem e_isL (h1 : ok a 3 → K 1 σ) (h0 : ¬ ok a 3 → K 0 σ) : R_X10_isLane a σ K := by
  unfold R_X10_isLane
  exact e_rg 2 rfl (by decide) (fun h => ⟨rfl, h1 h⟩) (fun h => ⟨rfl, h0 h⟩)
end PWE
/-- a bit is there: the test of both sides -/
theorem hb0 (x : Int32) {i : Nat} (hi : i < 32) : ((x >>> (nI i &&& 31)) &&& 1) = if bt x i then 1 else 0 := by
  apply b_ext
  intro j hj
  have e1 : bt 1 j = decide (j = 0) := (by decide +kernel : ∀ j, j < 32 → bt 1 j = decide (j = 0)) j hj
  rw [b_and, b_sshr i hi x hj, e1]
  by_cases h : j = 0
  · subst h
    by_cases hx : bt x i = true
    · simp [hi, hx]; decide
    · simp [hi, hx]; exact (b_0 0).symm
  · by_cases hx : bt x i = true
    · simp [h, hx, e1]
    · simp [h, hx]; exact (b_0 j)
theorem hb (x : Int32) {i : Nat} (hi : i < 32) : ((x >>> (nI i &&& 31)) &&& 1) = 0 ↔ bt x i = false := by
  rw [hb0 x hi]
  by_cases h : bt x i = true <;> simp [h]
theorem e_holds {x : Int32} {i : Nat} {σ : pw_Mem} {K : Int32 → pw_Mem → Prop} (hi : i < 32) (h1 : bt x i = true → K 1 σ) (h0 : bt x i = false → K 0 σ) : R_X10_holds x (nI i) σ K := by
  unfold R_X10_holds
  refine ⟨fun q => h0 ((hb x hi).mp q), fun q => h1 ?_⟩
  cases h : bt x i with
  | true => rfl
  | false => exact absurd ((hb x hi).mpr h) q
