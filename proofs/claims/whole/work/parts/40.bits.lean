/-! how many bits: Integer.bitCount by bytes -/
def popN : Nat → Nat → Nat
  | 0, _ => 0
  | k + 1, x => x % 2 + popN k (x / 2)
theorem popN_snoc : ∀ k x, popN (k + 1) x = popN k x + x / 2 ^ k % 2 := by
  intro k
  induction k with
  | zero => intro x; show x % 2 + 0 = 0 + x / 1 % 2; omega
  | succ k ih =>
    intro x
    have e1 : popN (k + 1 + 1) x = x % 2 + popN (k + 1) (x / 2) := rfl
    have e2 : popN (k + 1) x = x % 2 + popN k (x / 2) := rfl
    rw [e1, ih (x / 2), e2, Nat.div_div_eq_div_mul, show 2 * 2 ^ k = 2 ^ (k + 1) by rw [Nat.pow_succ]; omega]
    omega
theorem cnt_pop (x : Int32) : ∀ k, cnt x k = popN k x.toBitVec.toNat := by
  intro k
  induction k with
  | zero => rfl
  | succ k ih =>
    have e : cnt x (k + 1) = cnt x k + (if bt x k then 1 else 0) := rfl
    rw [e, popN_snoc, ih]
    have hb : bt x k = x.toBitVec.toNat.testBit k := rfl
    rw [hb, Nat.testBit_eq_decide_div_mod_eq]
    by_cases h : x.toBitVec.toNat / 2 ^ k % 2 = 1
    · rw [decide_eq_true h, h]; rfl
    · rw [decide_eq_false h]
      have : x.toBitVec.toNat / 2 ^ k % 2 = 0 := by omega
      rw [this]; rfl
theorem popN8 (k x : Nat) : popN (k + 8) x = popN 8 (x % 256) + popN k (x / 256) := by
  have e1 : popN (k + 8) x = x % 2 + (x / 2 % 2 + (x / 2 / 2 % 2 + (x / 2 / 2 / 2 % 2 + (x / 2 / 2 / 2 / 2 % 2 + (x / 2 / 2 / 2 / 2 / 2 % 2 + (x / 2 / 2 / 2 / 2 / 2 / 2 % 2 + (x / 2 / 2 / 2 / 2 / 2 / 2 / 2 % 2 + popN k (x / 2 / 2 / 2 / 2 / 2 / 2 / 2 / 2)))))))) := rfl
  generalize hy : x % 256 = y
  have e2 : popN 8 y = y % 2 + (y / 2 % 2 + (y / 2 / 2 % 2 + (y / 2 / 2 / 2 % 2 + (y / 2 / 2 / 2 / 2 % 2 + (y / 2 / 2 / 2 / 2 / 2 % 2 + (y / 2 / 2 / 2 / 2 / 2 / 2 % 2 + (y / 2 / 2 / 2 / 2 / 2 / 2 / 2 % 2 + 0))))))) := rfl
  have e3 : x / 2 / 2 / 2 / 2 / 2 / 2 / 2 / 2 = x / 256 := by omega
  rw [e1, e2, e3]
  generalize popN k (x / 256) = w
  omega
theorem land1 {z y c m : Nat} (hz : z < 256) (hc : c < 256) : (z + 256 * y) &&& (c + 256 * m) = (z &&& c) + 256 * (y &&& m) := by
  have h1 : ((z + 256 * y) &&& (c + 256 * m)) % 2 ^ 8 = z &&& c := by
    rw [Nat.and_mod_two_pow, show (z + 256 * y) % 2 ^ 8 = z by omega, show (c + 256 * m) % 2 ^ 8 = c by omega]
  have h2 : ((z + 256 * y) &&& (c + 256 * m)) / 2 ^ 8 = y &&& m := by
    rw [Nat.and_div_two_pow, show (z + 256 * y) / 2 ^ 8 = y by omega, show (c + 256 * m) / 2 ^ 8 = m by omega]
  generalize ((z + 256 * y) &&& (c + 256 * m)) = N at h1 h2
  omega
theorem land4 {z0 z1 z2 z3 c : Nat} (h0 : z0 < 256) (h1 : z1 < 256) (h2 : z2 < 256) (hc : c < 256) : (z0 + 256 * (z1 + 256 * (z2 + 256 * z3))) &&& (c + 256 * (c + 256 * (c + 256 * c))) = (z0 &&& c) + 256 * ((z1 &&& c) + 256 * ((z2 &&& c) + 256 * (z3 &&& c))) := by
  rw [land1 h0 hc, land1 h1 hc, land1 h2 hc]
theorem q55 : ∀ u, u < 128 → ∀ v, v < 2 → (u + 128 * v) &&& 85 = u &&& 85 := by decide +kernel
theorem q33 : ∀ u, u < 64 → ∀ v, v < 4 → (u + 64 * v) &&& 51 = u &&& 51 := by decide +kernel
def a1b (b : Nat) : Nat := b - (b / 2 &&& 85)
def a2b (b : Nat) : Nat := (a1b b &&& 51) + (a1b b / 4 &&& 51)
theorem qa1 : ∀ b, b < 256 → (b / 2 &&& 85) ≤ b ∧ a1b b < 256 := by decide +kernel
theorem qa2 : ∀ b, b < 256 → a2b b ≤ 68 ∧ a2b b % 16 ≤ 4 ∧ (a2b b + a2b b / 16) % 16 = popN 8 b ∧ popN 8 b ≤ 8 := by decide +kernel
def N1 (x : Nat) : Nat := x - (x / 2 &&& 1431655765)
def N2 (x : Nat) : Nat := (x &&& 858993459) + (x / 4 &&& 858993459)
def N3 (x : Nat) : Nat := (x + x / 16) &&& 252645135
theorem bytes4 {x : Nat} (h : x < 4294967296) : ∃ b0 b1 b2 b3, b0 < 256 ∧ b1 < 256 ∧ b2 < 256 ∧ b3 < 256 ∧ x = b0 + 256 * (b1 + 256 * (b2 + 256 * b3)) := ⟨x % 256, x / 256 % 256, x / 65536 % 256, x / 16777216, by omega, by omega, by omega, by omega, by omega⟩
theorem nb1 {b0 b1 b2 b3 : Nat} (h0 : b0 < 256) (h1 : b1 < 256) (h2 : b2 < 256) (h3 : b3 < 256) : N1 (b0 + 256 * (b1 + 256 * (b2 + 256 * b3))) = a1b b0 + 256 * (a1b b1 + 256 * (a1b b2 + 256 * a1b b3)) ∧ ((b0 + 256 * (b1 + 256 * (b2 + 256 * b3))) / 2 &&& 1431655765) ≤ b0 + 256 * (b1 + 256 * (b2 + 256 * b3)) := by
  have e : (b0 + 256 * (b1 + 256 * (b2 + 256 * b3))) / 2 = (b0 / 2 + 128 * (b1 % 2)) + 256 * ((b1 / 2 + 128 * (b2 % 2)) + 256 * ((b2 / 2 + 128 * (b3 % 2)) + 256 * (b3 / 2))) := by omega
  have hm : (b0 + 256 * (b1 + 256 * (b2 + 256 * b3))) / 2 &&& 1431655765 = (b0 / 2 &&& 85) + 256 * ((b1 / 2 &&& 85) + 256 * ((b2 / 2 &&& 85) + 256 * (b3 / 2 &&& 85))) := by
    rw [e, show (1431655765 : Nat) = 85 + 256 * (85 + 256 * (85 + 256 * 85)) from rfl, land4 (by omega) (by omega) (by omega) (by decide), q55 _ (by omega) _ (by omega), q55 _ (by omega) _ (by omega), q55 _ (by omega) _ (by omega)]
  have g0 := (qa1 b0 h0).1
  have g1 := (qa1 b1 h1).1
  have g2 := (qa1 b2 h2).1
  have g3 := (qa1 b3 h3).1
  unfold N1 a1b
  rw [hm]
  generalize (b0 / 2 &&& 85) = c0 at *
  generalize (b1 / 2 &&& 85) = c1 at *
  generalize (b2 / 2 &&& 85) = c2 at *
  generalize (b3 / 2 &&& 85) = c3 at *
  constructor <;> omega
theorem nb2 {a0 a1 a2 a3 : Nat} (h0 : a0 < 256) (h1 : a1 < 256) (h2 : a2 < 256) (h3 : a3 < 256) : N2 (a0 + 256 * (a1 + 256 * (a2 + 256 * a3))) = ((a0 &&& 51) + (a0 / 4 &&& 51)) + 256 * (((a1 &&& 51) + (a1 / 4 &&& 51)) + 256 * (((a2 &&& 51) + (a2 / 4 &&& 51)) + 256 * ((a3 &&& 51) + (a3 / 4 &&& 51)))) := by
  have e : (a0 + 256 * (a1 + 256 * (a2 + 256 * a3))) / 4 = (a0 / 4 + 64 * (a1 % 4)) + 256 * ((a1 / 4 + 64 * (a2 % 4)) + 256 * ((a2 / 4 + 64 * (a3 % 4)) + 256 * (a3 / 4))) := by omega
  unfold N2
  rw [e, show (858993459 : Nat) = 51 + 256 * (51 + 256 * (51 + 256 * 51)) from rfl, land4 h0 h1 h2 (by decide), land4 (by omega) (by omega) (by omega) (by decide), q33 _ (by omega) _ (by omega), q33 _ (by omega) _ (by omega), q33 _ (by omega) _ (by omega)]
  omega
theorem and15 (n : Nat) : n &&& 15 = n % 16 := Nat.and_two_pow_sub_one_eq_mod n 4
theorem nb3 {g0 g1 g2 g3 : Nat} (h0 : g0 ≤ 68) (h1 : g1 ≤ 68) (h2 : g2 ≤ 68) (h3 : g3 ≤ 68) (k1 : g1 % 16 ≤ 4) (k2 : g2 % 16 ≤ 4) (k3 : g3 % 16 ≤ 4) : N3 (g0 + 256 * (g1 + 256 * (g2 + 256 * g3))) = (g0 + g0 / 16) % 16 + 256 * ((g1 + g1 / 16) % 16 + 256 * ((g2 + g2 / 16) % 16 + 256 * ((g3 + g3 / 16) % 16))) := by
  have e : (g0 + 256 * (g1 + 256 * (g2 + 256 * g3))) + (g0 + 256 * (g1 + 256 * (g2 + 256 * g3))) / 16 = (g0 + g0 / 16 + 16 * (g1 % 16)) + 256 * ((g1 + g1 / 16 + 16 * (g2 % 16)) + 256 * ((g2 + g2 / 16 + 16 * (g3 % 16)) + 256 * (g3 + g3 / 16))) := by omega
  unfold N3
  rw [e, show (252645135 : Nat) = 15 + 256 * (15 + 256 * (15 + 256 * 15)) from rfl, land4 (by omega) (by omega) (by omega) (by decide), and15, and15, and15, and15]
  omega
theorem nball {x : Nat} (h : x < 4294967296) : ∃ p0 p1 p2 p3, p0 ≤ 8 ∧ p1 ≤ 8 ∧ p2 ≤ 8 ∧ p3 ≤ 8 ∧ N3 (N2 (N1 x)) = p0 + 256 * (p1 + 256 * (p2 + 256 * p3)) ∧ popN 32 x = p0 + p1 + p2 + p3 ∧ (x / 2 &&& 1431655765) ≤ x ∧ N1 x < 4294967296 ∧ N2 (N1 x) + N2 (N1 x) / 16 < 4294967296 := by
  obtain ⟨b0, b1, b2, b3, h0, h1, h2, h3, rfl⟩ := bytes4 h
  obtain ⟨e1, e2⟩ := nb1 h0 h1 h2 h3
  have q0 := qa2 b0 h0
  have q1 := qa2 b1 h1
  have q2 := qa2 b2 h2
  have q3 := qa2 b3 h3
  have w0 := (qa1 b0 h0).2
  have w1 := (qa1 b1 h1).2
  have w2 := (qa1 b2 h2).2
  have w3 := (qa1 b3 h3).2
  have e3 : N2 (N1 (b0 + 256 * (b1 + 256 * (b2 + 256 * b3)))) = a2b b0 + 256 * (a2b b1 + 256 * (a2b b2 + 256 * a2b b3)) := by
    rw [e1, nb2 w0 w1 w2 w3]; rfl
  have e4 : popN 32 (b0 + 256 * (b1 + 256 * (b2 + 256 * b3))) = popN 8 b0 + popN 8 b1 + popN 8 b2 + popN 8 b3 := by
    rw [popN8 24, popN8 16, popN8 8]
    rw [show (b0 + 256 * (b1 + 256 * (b2 + 256 * b3))) % 256 = b0 by omega, show (b0 + 256 * (b1 + 256 * (b2 + 256 * b3))) / 256 = b1 + 256 * (b2 + 256 * b3) by omega, show (b1 + 256 * (b2 + 256 * b3)) % 256 = b1 by omega, show (b1 + 256 * (b2 + 256 * b3)) / 256 = b2 + 256 * b3 by omega, show (b2 + 256 * b3) % 256 = b2 by omega, show (b2 + 256 * b3) / 256 = b3 by omega]
    omega
  refine ⟨popN 8 b0, popN 8 b1, popN 8 b2, popN 8 b3, q0.2.2.2, q1.2.2.2, q2.2.2.2, q3.2.2.2, ?_, e4, e2, ?_, ?_⟩
  · rw [e3, nb3 q0.1 q1.1 q2.1 q3.1 q1.2.1 q2.2.1 q3.2.1, q0.2.2.1, q1.2.2.1, q2.2.2.1, q3.2.2.1]
  · rw [e1]; omega
  · rw [e3]; omega
/-! the program's steps as numbers -/
def us (x k : Int32) : Int32 := (Int32.toUInt32 x >>> (Int32.toUInt32 k &&& Int32.toUInt32 31)).toInt32
theorem us_n (x k : Int32) (n : Nat) (hs : ((k.toUInt32 &&& Int32.toUInt32 31).toBitVec % 32).toNat = n) : (us x k).toBitVec.toNat = x.toBitVec.toNat / 2 ^ n := pk_ushr x k n hs
theorem an_n (x m : Int32) : (x &&& m).toBitVec.toNat = x.toBitVec.toNat &&& m.toBitVec.toNat := by rw [Int32.toBitVec_and, BitVec.toNat_and]
theorem ad_n (x y : Int32) (h : x.toBitVec.toNat + y.toBitVec.toNat < 4294967296) : (x + y).toBitVec.toNat = x.toBitVec.toNat + y.toBitVec.toNat := by
  rw [Int32.toBitVec_add, BitVec.toNat_add]
  exact Nat.mod_eq_of_lt h
theorem sb_n (x y : Int32) (h : y.toBitVec.toNat ≤ x.toBitVec.toNat) : (x - y).toBitVec.toNat = x.toBitVec.toNat - y.toBitVec.toNat := by
  have hx := x.toBitVec.isLt
  rw [Int32.toBitVec_sub, BitVec.toNat_sub]
  omega
def u1 (x : Int32) : Int32 := x - (us x 1 &&& 1431655765)
def u2 (x : Int32) : Int32 := (x &&& 858993459) + (us x 2 &&& 858993459)
def u3 (x : Int32) : Int32 := (x + us x 4) &&& 252645135
def u4 (x : Int32) : Int32 := x + us x 8
def u5 (x : Int32) : Int32 := x + us x 16
theorem bits_n (x : Int32) : u5 (u4 (u3 (u2 (u1 x)))) &&& 63 = nI (cnt x 32) := by
  have hx : x.toBitVec.toNat < 4294967296 := x.toBitVec.isLt
  obtain ⟨p0, p1, p2, p3, g0, g1, g2, g3, e1, e2, e3, e4, e5⟩ := nball hx
  have s1 : (us x 1 &&& 1431655765).toBitVec.toNat = x.toBitVec.toNat / 2 &&& 1431655765 := by
    rw [an_n, us_n x 1 1 (by decide)]; rfl
  have t1 : (u1 x).toBitVec.toNat = N1 x.toBitVec.toNat := by
    unfold u1 N1
    rw [sb_n _ _ (by rw [s1]; exact e3), s1]
  have t2 : (u2 (u1 x)).toBitVec.toNat = N2 (N1 x.toBitVec.toNat) := by
    unfold u2 N2
    have f1 : (u1 x &&& 858993459).toBitVec.toNat = N1 x.toBitVec.toNat &&& 858993459 := by rw [an_n, t1]; rfl
    have f2 : (us (u1 x) 2 &&& 858993459).toBitVec.toNat = N1 x.toBitVec.toNat / 4 &&& 858993459 := by rw [an_n, us_n _ 2 2 (by decide), t1]; rfl
    rw [ad_n _ _ ?_, f1, f2]
    rw [f1, f2]
    have z1 : N1 x.toBitVec.toNat &&& 858993459 ≤ 858993459 := Nat.and_le_right
    have z2 : N1 x.toBitVec.toNat / 4 &&& 858993459 ≤ 858993459 := Nat.and_le_right
    omega
  have t3 : (u3 (u2 (u1 x))).toBitVec.toNat = p0 + 256 * (p1 + 256 * (p2 + 256 * p3)) := by
    rw [← e1]
    unfold u3 N3
    have f1 : (us (u2 (u1 x)) 4).toBitVec.toNat = N2 (N1 x.toBitVec.toNat) / 16 := by rw [us_n _ 4 4 (by decide), t2]
    rw [an_n, ad_n _ _ (by rw [t2, f1]; exact e5), t2, f1]
    rfl
  have t4 : (u4 (u3 (u2 (u1 x)))).toBitVec.toNat = (p0 + p1) + 256 * (p1 + p2) + 65536 * (p2 + p3) + 16777216 * p3 := by
    unfold u4
    have f1 : (us (u3 (u2 (u1 x))) 8).toBitVec.toNat = p1 + 256 * p2 + 65536 * p3 := by rw [us_n _ 8 8 (by decide), t3]; omega
    rw [ad_n _ _ (by rw [t3, f1]; omega), t3, f1]
    omega
  have t5 : (u5 (u4 (u3 (u2 (u1 x))))).toBitVec.toNat = (p0 + p1 + p2 + p3) + 256 * (p1 + p2 + p3) + 65536 * (p2 + p3) + 16777216 * p3 := by
    unfold u5
    have f1 : (us (u4 (u3 (u2 (u1 x)))) 16).toBitVec.toNat = (p2 + p3) + 256 * p3 := by rw [us_n _ 16 16 (by decide), t4]; omega
    rw [ad_n _ _ (by rw [t4, f1]; omega), t4, f1]
    omega
  have h := pk_and (u5 (u4 (u3 (u2 (u1 x))))) (m := 63) 6 (by decide)
  rw [h, t5, cnt_pop, e2]
  exact congrArg nI (by omega)
theorem e_bits {x : Int32} {σ : pw_Mem} {K : Int32 → pw_Mem → Prop} (h : K (nI (cnt x 32)) σ) : R_J6_bitCount_0f7a4 x σ K := by
  unfold R_J6_bitCount_0f7a4
  rw [← bits_n x] at h
  exact h
