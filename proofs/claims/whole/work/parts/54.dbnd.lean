/-! depths: their bounds, and how they grow with the frames -/
theorem nI_m5 {i : Nat} (h : i < 2 ^ 31) : ¬ nI i = -5 := fun e => nI_pos h (by rw [e]; decide)
theorem nI_m4 {i : Nat} (h : i < 2 ^ 31) : ¬ nI i = -4 := fun e => nI_pos h (by rw [e]; decide)
theorem gre_nI {i j : Nat} (hi : i < 2 ^ 31) (hj : j < 2 ^ 31) : gre (nI i) (nI j) = nI (max i j) := by
  unfold gre
  rw [if_neg (nI_m5 hi), if_neg (nI_m5 hj)]
  by_cases h : i ≤ j
  · rw [if_pos ((nI_leI hi hj).mpr h), Nat.max_eq_right h]
  · rw [if_neg (fun z => h ((nI_leI hi hj).mp z)), Nat.max_eq_left (by omega)]
theorem gre_5l (b : Int32) : gre (-5) b = -5 := by unfold gre; rw [if_pos rfl]
theorem gre_5r (a : Int32) : gre a (-5) = -5 := by
  unfold gre
  by_cases h : a = -5
  · rw [if_pos h]
  · rw [if_neg h, if_pos rfl]
theorem pls_nI {i j : Nat} (hi : i < 2 ^ 31) (hj : j < 2 ^ 31) : pls (nI i) (nI j) = nI (i + j) := by
  unfold pls
  rw [if_neg (nI_m5 hi), if_neg (nI_m5 hj), nI_add]
theorem pls_5l (b : Int32) : pls (-5) b = -5 := by unfold pls; rw [if_pos rfl]
theorem pls_5r (a : Int32) : pls a (-5) = -5 := by
  unfold pls
  by_cases h : a = -5
  · rw [if_pos h]
  · rw [if_neg h, if_pos rfl]
theorem nI_mul (a b : Nat) : nI a * nI b = nI (a * b) := (Int32.ofNat_mul a b).symm
/-- both endless, or the first no greater than the second, and the second no greater than B -/
def GL (B : Nat) (a b : Int32) : Prop := (a = -5 ∧ b = -5) ∨ ∃ i j : Nat, i ≤ j ∧ j ≤ B ∧ a = nI i ∧ b = nI j
theorem GL.mono {B C : Nat} {a b : Int32} (h : GL B a b) (hc : B ≤ C) : GL C a b := by
  rcases h with h | ⟨i, j, h1, h2, h3⟩
  · exact Or.inl h
  · exact Or.inr ⟨i, j, h1, by omega, h3⟩
theorem GL.gre {B : Nat} {a b c d : Int32} (hB : B < 2 ^ 31) (h : GL B a b) (h' : GL B c d) : GL B (gre a c) (gre b d) := by
  rcases h with ⟨h1, h2⟩ | ⟨i, j, h1, h2, h3, h4⟩
  · subst h1 h2; rw [gre_5l, gre_5l]; exact Or.inl ⟨rfl, rfl⟩
  · rcases h' with ⟨h5, h6⟩ | ⟨i', j', h5, h6, h7, h8⟩
    · subst h5 h6; rw [gre_5r, gre_5r]; exact Or.inl ⟨rfl, rfl⟩
    · subst h3 h4 h7 h8
      rw [gre_nI (by omega) (by omega), gre_nI (by omega) (by omega)]
      exact Or.inr ⟨_, _, by omega, by omega, rfl, rfl⟩
theorem GL.pls {A B : Nat} {a b c d : Int32} (hB : A + B < 2 ^ 31) (h : GL A a b) (h' : GL B c d) : GL (A + B) (pls a c) (pls b d) := by
  rcases h with ⟨h1, h2⟩ | ⟨i, j, h1, h2, h3, h4⟩
  · subst h1 h2; rw [pls_5l, pls_5l]; exact Or.inl ⟨rfl, rfl⟩
  · rcases h' with ⟨h5, h6⟩ | ⟨i', j', h5, h6, h7, h8⟩
    · subst h5 h6; rw [pls_5r, pls_5r]; exact Or.inl ⟨rfl, rfl⟩
    · subst h3 h4 h7 h8
      rw [pls_nI (by omega) (by omega), pls_nI (by omega) (by omega)]
      exact Or.inr ⟨_, _, by omega, by omega, rfl, rfl⟩
theorem GL.zero (B : Nat) : GL B 0 0 := Or.inr ⟨0, 0, Nat.le_refl _, Nat.zero_le _, nI_0.symm, nI_0.symm⟩
theorem gto_GL {B : Nat} (hB : B < 2 ^ 31) {f' f : Rows} {s : Int32} : ∀ k, (∀ j, j < k → bt s j = true → GL B (f' j) (f j)) → GL B (gto f' s k) (gto f s k) := by
  intro k
  induction k with
  | zero => intro _; exact GL.zero B
  | succ k ih =>
    intro h
    have e1 : gto f' s (k + 1) = if bt s k then gre (gto f' s k) (f' k) else gto f' s k := rfl
    have e2 : gto f s (k + 1) = if bt s k then gre (gto f s k) (f k) else gto f s k := rfl
    have h1 := ih (fun j hj => h j (by omega))
    rw [e1, e2]
    by_cases hb1 : bt s k = true
    · rw [if_pos hb1, if_pos hb1]; exact GL.gre hB h1 (h k (by omega) hb1)
    · rw [if_neg hb1, if_neg hb1]; exact h1
/-- what r looks at -/
def Dp (n : Nat) (P T : Rows) (r j : Nat) : Prop := ∃ k, k < n ∧ bt (gT n P T r) k = true ∧ (bt (P k) j = true ∨ bt (T k) j = true) ∧ bt (gT n P T r) j = false
section DB
variable {n : Nat} {P T : Rows}
theorem dp_R {r k j : Nat} (hj : j < 32) (hk : k < n) (hk2 : bt (gT n P T r) k = true) (h : bt ((P k ||| T k) &&& (gT n P T r ^^^ (-1))) j = true) : Dp n P T r j := by
  rw [b_and, Bool.and_eq_true, bt_not hj, Bool.not_eq_true'] at h
  exact ⟨k, hk, hk2, bt_or1.mp h.1, h.2⟩
theorem dp_P (hb : Bd n P T) (hn : n ≤ 20) {r k j : Nat} (hr : r < n) (hg : ¬ bt (gG n P T) r = true) (hk : k < n) (hk2 : bt (gT n P T r) k = true) (h : bt (P k) j = true) : Dp n P T r j := by
  refine ⟨k, hk, hk2, Or.inl h, ?_⟩
  cases z : bt (gT n P T r) j with
  | false => rfl
  | true =>
    refine absurd ((gG_bt hb hn hr).mpr ⟨k, hk, hk2, fun q => ?_⟩) hg
    have : bt (P k &&& gT n P T r) j = true := by rw [b_and, h, z]; rfl
    rw [q, b_0] at this
    cases this
theorem dp_T (hb : Bd n P T) (hn : n ≤ 20) {r k j : Nat} (hj : j < 32) (hr : r < n) (hk : k < n) (hk2 : bt (gT n P T r) k = true) (h : bt (T k &&& (gT n P T k ^^^ (-1))) j = true) : Dp n P T r j := by
  rw [b_and, Bool.and_eq_true, bt_not hj, Bool.not_eq_true', gT_eq hb hn hr hk2] at h
  exact ⟨k, hk, hk2, Or.inr h.1, h.2⟩
theorem dp_qn (hb : Bd n P T) (hn : n ≤ 20) {r j : Nat} (hr : r < n) (h : Dp n P T r j) : qn n P T j < qn n P T r := by
  obtain ⟨k, _, h2, h3, h4⟩ := h
  exact qn_out hb hn hr h2 h3 (by rw [h4]; decide)
theorem dp_bd (hb : Bd n P T) {r j : Nat} (h : Dp n P T r j) : j < n := by
  obtain ⟨k, h1, h2, h3, h4⟩ := h
  exact hb k j h1 h3
theorem rhs_cd (hb : Bd n P T) (hn : n ≤ 20) {fr t f g : Rows} {r : Nat} (hr : r < n) (h : ∀ j, j < n → Dp n P T r j → f j = g j) : rhs n P T fr t f r = rhs n P T fr t g r := by
  unfold rhs
  by_cases hg : bt (gG n P T) r = true
  · rw [if_pos hg, if_pos hg]
    unfold dRg
    rw [drg_cg (f := f) (g := g) n (fun k hk hk2 => gto_cg n (fun j hj hj2 => h j hj (dp_R (by omega) hk hk2 hj2)))]
  · rw [if_neg hg, if_neg hg]
    refine dTl_cg n (fun k hk hk2 => ?_)
    unfold dIt
    rw [gto_cg n (fun j hj hj2 => h j hj (dp_P hb hn hr hg hk hk2 hj2)), gto_cg n (fun j hj hj2 => h j hj (dp_T hb hn (by omega) hr hk hk2 hj2))]
variable {fr' fr t f' f : Rows} {B : Nat}
theorem drg_GL (hn : n ≤ 20) (hB : B < 2 ^ 30) (hfr : ∀ j, j < n → ∃ a b, a ≤ b ∧ b ≤ 500 ∧ fr' j = nI a ∧ fr j = nI b) (ht : ∀ j, j < n → ∃ m, m ≤ 20 ∧ t j = nI m) {s : Int32} (h : ∀ k, k < n → bt s k = true → GL B (gto f' ((P k ||| T k) &&& (s ^^^ (-1))) n) (gto f ((P k ||| T k) &&& (s ^^^ (-1))) n)) : ∀ k, k ≤ n → (drg n P T fr' t f' s k = none ∧ drg n P T fr t f s k = none) ∨ ∃ q' q, drg n P T fr' t f' s k = some q' ∧ drg n P T fr t f s k = some q ∧ (∃ i j, i ≤ j ∧ j ≤ 10000 * k ∧ q'.1 = nI i ∧ q.1 = nI j) ∧ GL B q'.2 q.2 := by
  intro k
  induction k with
  | zero => intro _; exact Or.inr ⟨_, _, rfl, rfl, ⟨0, 0, Nat.le_refl _, Nat.zero_le _, nI_0.symm, nI_0.symm⟩, GL.zero B⟩
  | succ k ih =>
    intro hk
    have e1 : drg n P T fr' t f' s (k + 1) = (match drg n P T fr' t f' s k with
      | none => none
      | some q => if bt s k then (if t k = 0 then none else some (q.1 + fr' k * t k, gre q.2 (gto f' ((P k ||| T k) &&& (s ^^^ (-1))) n))) else some q) := rfl
    have e2 : drg n P T fr t f s (k + 1) = (match drg n P T fr t f s k with
      | none => none
      | some q => if bt s k then (if t k = 0 then none else some (q.1 + fr k * t k, gre q.2 (gto f ((P k ||| T k) &&& (s ^^^ (-1))) n))) else some q) := rfl
    rw [e1, e2]
    rcases ih (by omega) with ⟨h1, h2⟩ | ⟨q', q, h1, h2, ⟨i, j, h3, h4, h5, h6⟩, h7⟩
    · rw [h1, h2]; exact Or.inl ⟨rfl, rfl⟩
    · rw [h1, h2]
      by_cases hb1 : bt s k = true
      · by_cases h0 : t k = 0
        · left
          constructor
          · show (if bt s k then (if t k = 0 then none else some (q'.1 + fr' k * t k, gre q'.2 (gto f' ((P k ||| T k) &&& (s ^^^ (-1))) n))) else some q') = none
            rw [if_pos hb1, if_pos h0]
          · show (if bt s k then (if t k = 0 then none else some (q.1 + fr k * t k, gre q.2 (gto f ((P k ||| T k) &&& (s ^^^ (-1))) n))) else some q) = none
            rw [if_pos hb1, if_pos h0]
        · right
          refine ⟨(q'.1 + fr' k * t k, gre q'.2 (gto f' ((P k ||| T k) &&& (s ^^^ (-1))) n)), (q.1 + fr k * t k, gre q.2 (gto f ((P k ||| T k) &&& (s ^^^ (-1))) n)), ?_, ?_, ?_, GL.gre (by omega) h7 (h k (by omega) hb1)⟩
          · show (if bt s k then (if t k = 0 then none else some (q'.1 + fr' k * t k, gre q'.2 (gto f' ((P k ||| T k) &&& (s ^^^ (-1))) n))) else some q') = _
            rw [if_pos hb1, if_neg h0]
          · show (if bt s k then (if t k = 0 then none else some (q.1 + fr k * t k, gre q.2 (gto f ((P k ||| T k) &&& (s ^^^ (-1))) n))) else some q) = _
            rw [if_pos hb1, if_neg h0]
          · obtain ⟨a, b, a1, a2, a3, a4⟩ := hfr k (by omega)
            obtain ⟨m, m1, m2⟩ := ht k (by omega)
            have g1 : a * m ≤ b * m := Nat.mul_le_mul_right m a1
            have g2 : b * m ≤ 500 * 20 := Nat.mul_le_mul a2 m1
            refine ⟨i + a * m, j + b * m, by omega, by omega, ?_, ?_⟩
            · show q'.1 + fr' k * t k = _
              rw [h5, a3, m2, nI_mul, nI_add]
            · show q.1 + fr k * t k = _
              rw [h6, a4, m2, nI_mul, nI_add]
      · right
        refine ⟨q', q, ?_, ?_, ⟨i, j, h3, by omega, h5, h6⟩, h7⟩
        · show (if bt s k then (if t k = 0 then none else some (q'.1 + fr' k * t k, gre q'.2 (gto f' ((P k ||| T k) &&& (s ^^^ (-1))) n))) else some q') = _
          rw [if_neg hb1]
        · show (if bt s k then (if t k = 0 then none else some (q.1 + fr k * t k, gre q.2 (gto f ((P k ||| T k) &&& (s ^^^ (-1))) n))) else some q) = _
          rw [if_neg hb1]
theorem dTl_gto {n : Nat} {P T G fr f : Rows} {s : Int32} : ∀ k, dTl n P T G fr f s k = gto (dIt n P T G fr f) s k := by
  intro k
  induction k with
  | zero => rfl
  | succ k ih =>
    have e1 : dTl n P T G fr f s (k + 1) = if bt s k then gre (dTl n P T G fr f s k) (dIt n P T G fr f k) else dTl n P T G fr f s k := rfl
    have e2 : gto (dIt n P T G fr f) s (k + 1) = if bt s k then gre (gto (dIt n P T G fr f) s k) (dIt n P T G fr f k) else gto (dIt n P T G fr f) s k := rfl
    rw [e1, e2, ih]
theorem rhs_GL (hb : Bd n P T) (hn : n ≤ 20) (hB : B < 2 ^ 30) (hfr : ∀ j, j < n → ∃ a b, a ≤ b ∧ b ≤ 500 ∧ fr' j = nI a ∧ fr j = nI b) (ht : ∀ j, j < n → ∃ m, m ≤ 20 ∧ t j = nI m) {r : Nat} (hr : r < n) (h : ∀ j, j < n → Dp n P T r j → GL B (f' j) (f j)) : GL (200000 + B) (rhs n P T fr' t f' r) (rhs n P T fr t f r) := by
  unfold rhs
  by_cases hg : bt (gG n P T) r = true
  · rw [if_pos hg, if_pos hg]
    unfold dRg
    rcases drg_GL (P := P) (T := T) (f' := f') (f := f) hn hB hfr ht (s := gT n P T r) (fun k hk hk2 => gto_GL (by omega) n (fun j hj hj2 => h j hj (dp_R (by omega) hk hk2 hj2))) n (Nat.le_refl _) with ⟨h1, h2⟩ | ⟨q', q, h1, h2, ⟨i, j, h3, h4, h5, h6⟩, h7⟩
    · rw [h1, h2]; exact Or.inl ⟨rfl, rfl⟩
    · rw [h1, h2]
      show GL _ (pls q'.1 q'.2) (pls q.1 q.2)
      refine GL.pls (by omega) (Or.inr ⟨i, j, h3, by omega, h5, h6⟩) h7
  · rw [if_neg hg, if_neg hg, dTl_gto, dTl_gto]
    refine gto_GL (by omega) n (fun k hk hk2 => ?_)
    unfold dIt
    obtain ⟨a, b, a1, a2, a3, a4⟩ := hfr k hk
    have g1 : GL B (gto f' (P k) n) (gto f (P k) n) := gto_GL (by omega) n (fun j hj hj2 => h j hj (dp_P hb hn hr hg hk hk2 hj2))
    have g2 : GL B (gto f' (T k &&& (gT n P T k ^^^ (-1))) n) (gto f (T k &&& (gT n P T k ^^^ (-1))) n) := gto_GL (by omega) n (fun j hj hj2 => h j hj (dp_T hb hn (by omega) hr hk hk2 hj2))
    have g3 : GL 500 (fr' k) (fr k) := Or.inr ⟨a, b, a1, a2, a3, a4⟩
    exact GL.gre (by omega) ((GL.pls (by omega) g3 g1).mono (by omega)) (g2.mono (by omega))
/-- two solutions, the first over frames no greater -/
theorem DE_GL (hb : Bd n P T) (hn : n ≤ 20) (hfr : ∀ j, j < n → ∃ a b, a ≤ b ∧ b ≤ 500 ∧ fr' j = nI a ∧ fr j = nI b) (ht : ∀ j, j < n → ∃ m, m ≤ 20 ∧ t j = nI m) (h1 : DE n P T fr' t f') (h2 : DE n P T fr t f) : ∀ m, m ≤ 32 → ∀ r, r < n → qn n P T r ≤ m → GL (200000 * (m + 1)) (f' r) (f r) := by
  intro m
  induction m with
  | zero =>
    intro _ r hr hq
    rw [h1 r hr, h2 r hr]
    have := rhs_GL (B := 0) (fr' := fr') (fr := fr) (t := t) (f' := f') (f := f) hb hn (by omega) hfr ht hr (fun j hj hj2 => by have := dp_qn hb hn hr hj2; omega)
    exact this.mono (by omega)
  | succ m ih =>
    intro hm r hr hq
    rw [h1 r hr, h2 r hr]
    have := rhs_GL (B := 200000 * (m + 1)) (fr' := fr') (fr := fr) (t := t) (f' := f') (f := f) hb hn (by omega) hfr ht hr (fun j hj hj2 => ih (by omega) j hj (by have := dp_qn hb hn hr hj2; omega))
    exact this.mono (by omega)
theorem cnt_k {x : Int32} : ∀ k, cnt x k ≤ k := by
  intro k
  induction k with
  | zero => exact Nat.le_refl _
  | succ k ih =>
    have e : cnt x (k + 1) = cnt x k + (if bt x k then 1 else 0) := rfl
    rw [e]
    by_cases h : bt x k = true
    · rw [if_pos h]; omega
    · rw [if_neg h]; omega
theorem qn_n (hb : Bd n P T) (hn : n ≤ 20) {r : Nat} (hr : r < n) : qn n P T r ≤ n := by
  unfold qn
  rw [cnt_hi (n := n) (fun s hs => ?_) n 32 (Nat.le_refl _) (by omega)]
  · exact cnt_k n
  · rcases (sr_bt hn hr).mp hs with h | h
    · exact gR_bd hb hr h
    · omega
theorem DE_le (hb : Bd n P T) (hn : n ≤ 20) (hfr : ∀ j, j < n → ∃ a b, a ≤ b ∧ b ≤ 500 ∧ fr' j = nI a ∧ fr j = nI b) (ht : ∀ j, j < n → ∃ m, m ≤ 20 ∧ t j = nI m) (h1 : DE n P T fr' t f') (h2 : DE n P T fr t f) {r : Nat} (hr : r < n) : GL 4200000 (f' r) (f r) :=
  (DE_GL hb hn hfr ht h1 h2 20 (by omega) r hr (by have := qn_n hb hn hr; omega)).mono (by omega)
end DB
