/-! the class's depths: what each of its little methods answers -/
def gre (a b : Int32) : Int32 := if a = -5 then -5 else if b = -5 then -5 else if a ≤ b then b else a
def pls (a b : Int32) : Int32 := if a = -5 then -5 else if b = -5 then -5 else a + b
/-- the greatest of a set, below k -/
def gto (f : Rows) (s : Int32) : Nat → Int32
  | 0 => 0
  | k + 1 => if bt s k then gre (gto f s k) (f k) else gto f s k
def fro (u : Int32) (F : Rows) : Rows := fun r => if nI r = u then 0 else F r
def dIt (n : Nat) (P T G fr f : Rows) (r : Nat) : Int32 := gre (pls (fr r) (gto f (P r) n)) (gto f (T r &&& (G r ^^^ (-1))) n)
def dTl (n : Nat) (P T G fr f : Rows) (s : Int32) : Nat → Int32
  | 0 => 0
  | k + 1 => if bt s k then gre (dTl n P T G fr f s k) (dIt n P T G fr f k) else dTl n P T G fr f s k
def drg (n : Nat) (P T fr t f : Rows) (s : Int32) : Nat → Option (Int32 × Int32)
  | 0 => some (0, 0)
  | k + 1 => match drg n P T fr t f s k with
    | none => none
    | some q => if bt s k then (if t k = 0 then none else some (q.1 + fr k * t k, gre q.2 (gto f ((P k ||| T k) &&& (s ^^^ (-1))) n))) else some q
def dRg (n : Nat) (P T fr t f : Rows) (s : Int32) : Int32 := match drg n P T fr t f s n with
  | none => -5
  | some q => pls q.1 q.2
theorem drg_none {n : Nat} {P T fr t f : Rows} {s : Int32} {i : Nat} (h : drg n P T fr t f s i = none) : ∀ j, i ≤ j → drg n P T fr t f s j = none := by
  intro j
  induction j with
  | zero => intro hj; have e : i = 0 := by omega
            subst e; exact h
  | succ j ih =>
    intro hj
    by_cases e : i = j + 1
    · subst e; exact h
    · have e2 : drg n P T fr t f s (j + 1) = (match drg n P T fr t f s j with
        | none => none
        | some q => if bt s j then (if t j = 0 then none else some (q.1 + fr j * t j, gre q.2 (gto f ((P j ||| T j) &&& (s ^^^ (-1))) n))) else some q) := rfl
      rw [e2, ih (by omega)]
section DEP
variable {σ : pw_Mem} {K : Int32 → pw_Mem → Prop} {n : Nat}
theorem e_gre {a b : Int32} (h : K (gre a b) σ) : R_X10_greater a b σ K := by
  unfold R_X10_greater
  unfold gre at h
  refine ⟨fun q => ?_, fun q => ⟨fun q2 => ⟨fun q3 => ?_, fun q3 => ?_⟩, fun q2 => ?_⟩⟩
  · rw [if_pos q] at h; exact h
  · rw [if_neg q, if_neg q2, if_pos q3] at h; exact h
  · rw [if_neg q, if_neg q2, if_neg q3] at h; exact h
  · rw [if_neg q, if_pos q2] at h; exact h
theorem e_pls {a b : Int32} (h : K (pls a b) σ) : R_X10_plus a b σ K := by
  unfold R_X10_plus
  unfold pls at h
  refine ⟨fun q => ?_, fun q => ⟨fun q2 => ?_, fun q2 => ?_⟩⟩
  · rw [if_pos q] at h; exact h
  · rw [if_neg q, if_neg q2] at h; exact h
  · rw [if_neg q, if_pos q2] at h; exact h
theorem e_fro {r : Nat} (hr : r < 20) (h : K (fro (σ 20 2) (σ 2) r) σ) : R_X1_frameOf (nI r) σ K := by
  unfold R_X1_frameOf
  unfold fro at h
  refine ⟨fun q => ⟨vp_in_nI hr (by decide), ?_⟩, fun q => ?_⟩
  · rw [if_neg q] at h; rw [cl_nI (by omega)]; exact h
  · rw [if_pos q] at h; exact h
theorem e_gtoL {KX : Int32 → Int32 → Int32 → pw_Mem → Prop} {s : Int32} (hn : n ≤ 20) (h0 : σ 1 2 = nI n) (hX : KX s (gto (σ 21) s n) (nI n) σ) : ∀ (k i : Nat), i + k = n → R_X1_greatestOf_L4 K KX (k + 1) s (gto (σ 21) s i) (nI i) σ := by
  intro k
  induction k with
  | zero =>
    intro i hi
    have e : i = n := by omega
    subst e
    unfold R_X1_greatestOf_L4
    rw [h0]
    exact ⟨fun _ => hX, fun z => absurd (nI_le (Nat.le_refl _) (by omega)) z⟩
  | succ k ih =>
    intro i hi
    have h2 := ih (i + 1) (by omega)
    have e : gto (σ 21) s (i + 1) = if bt s i then gre (gto (σ 21) s i) (σ 21 i) else gto (σ 21) s i := rfl
    rw [e] at h2
    unfold R_X1_greatestOf_L4
    rw [h0, nI_1]
    refine ⟨fun z => absurd ((nI_leI (by omega) (by omega)).mp z) (by omega), fun _ => ?_⟩
    refine e_holds (by omega) (fun hb1 => ⟨fun q => absurd q n01, fun _ => ⟨vp_in_nI (by omega) (by decide), ?_⟩⟩) (fun hb1 => ⟨fun _ => ?_, fun q => absurd rfl q⟩)
    · rw [if_pos hb1] at h2
      rw [cl_nI (by omega)]
      exact e_gre h2
    · rw [if_neg (by rw [hb1]; decide)] at h2; exact h2
theorem e_gto {s : Int32} (hn : n ≤ 20) (h0 : σ 1 2 = nI n) (h : K (gto (σ 21) s n) σ) : R_X1_greatestOf s σ K := ⟨n + 1, e_gtoL hn h0 h n 0 (by omega)⟩
theorem e_dIt {r : Nat} (hr : r < 20) (hn : n ≤ 20) (h0 : σ 1 2 = nI n) (h : K (dIt n (σ 15) (σ 16) (σ 18) (fro (σ 20 2) (σ 2)) (σ 21) r) σ) : R_X1_depthOfItself (nI r) σ K := by
  have hin : vp_in (nI r) 20 := vp_in_nI hr (by decide)
  unfold R_X1_depthOfItself
  refine e_fro hr ⟨hin, e_gto hn h0 (e_pls ⟨hin, hin, e_gto hn h0 (e_gre ?_)⟩)⟩
  rw [cl_nI (by omega)]
  exact h
theorem e_dTlL {KX : Int32 → Int32 → Int32 → pw_Mem → Prop} {s : Int32} (hn : n ≤ 20) (h0 : σ 1 2 = nI n) (hX : KX s (dTl n (σ 15) (σ 16) (σ 18) (fro (σ 20 2) (σ 2)) (σ 21) s n) (nI n) σ) : ∀ (k i : Nat), i + k = n → R_X1_depthOfTails_L4 K KX (k + 1) s (dTl n (σ 15) (σ 16) (σ 18) (fro (σ 20 2) (σ 2)) (σ 21) s i) (nI i) σ := by
  intro k
  induction k with
  | zero =>
    intro i hi
    have e : i = n := by omega
    subst e
    unfold R_X1_depthOfTails_L4
    rw [h0]
    exact ⟨fun _ => hX, fun z => absurd (nI_le (Nat.le_refl _) (by omega)) z⟩
  | succ k ih =>
    intro i hi
    have h2 := ih (i + 1) (by omega)
    have e : dTl n (σ 15) (σ 16) (σ 18) (fro (σ 20 2) (σ 2)) (σ 21) s (i + 1) = if bt s i then gre (dTl n (σ 15) (σ 16) (σ 18) (fro (σ 20 2) (σ 2)) (σ 21) s i) (dIt n (σ 15) (σ 16) (σ 18) (fro (σ 20 2) (σ 2)) (σ 21) i) else dTl n (σ 15) (σ 16) (σ 18) (fro (σ 20 2) (σ 2)) (σ 21) s i := rfl
    rw [e] at h2
    unfold R_X1_depthOfTails_L4
    rw [h0, nI_1]
    refine ⟨fun z => absurd ((nI_leI (by omega) (by omega)).mp z) (by omega), fun _ => ?_⟩
    refine e_holds (by omega) (fun hb1 => ⟨fun q => absurd q n01, fun _ => ?_⟩) (fun hb1 => ⟨fun _ => ?_, fun q => absurd rfl q⟩)
    · rw [if_pos hb1] at h2
      exact e_dIt (by omega) hn h0 (e_gre h2)
    · rw [if_neg (by rw [hb1]; decide)] at h2; exact h2
theorem e_dTl {s : Int32} (hn : n ≤ 20) (h0 : σ 1 2 = nI n) (h : K (dTl n (σ 15) (σ 16) (σ 18) (fro (σ 20 2) (σ 2)) (σ 21) s n) σ) : R_X1_depthOfTails s σ K := ⟨n + 1, e_dTlL hn h0 h n 0 (by omega)⟩
theorem e_dRgL {KX : Int32 → Int32 → Int32 → Int32 → pw_Mem → Prop} {s : Int32} (hn : n ≤ 20) (h0 : σ 1 2 = nI n) (hN : drg n (σ 15) (σ 16) (fro (σ 20 2) (σ 2)) (σ 3) (σ 21) s n = none → K (-5) σ) (hX : ∀ q, drg n (σ 15) (σ 16) (fro (σ 20 2) (σ 2)) (σ 3) (σ 21) s n = some q → KX s q.1 q.2 (nI n) σ) : ∀ (k i : Nat) (q : Int32 × Int32), i + k = n → drg n (σ 15) (σ 16) (fro (σ 20 2) (σ 2)) (σ 3) (σ 21) s i = some q → R_X1_depthOfRing_L7 K KX (k + 1) s q.1 q.2 (nI i) σ := by
  intro k
  induction k with
  | zero =>
    intro i q hi hq
    have e : i = n := by omega
    subst e
    unfold R_X1_depthOfRing_L7
    rw [h0]
    exact ⟨fun _ => hX q hq, fun z => absurd (nI_le (Nat.le_refl _) (by omega)) z⟩
  | succ k ih =>
    intro i q hi hq
    have hin : vp_in (nI i) 20 := vp_in_nI (by omega) (by decide)
    have e : drg n (σ 15) (σ 16) (fro (σ 20 2) (σ 2)) (σ 3) (σ 21) s (i + 1) = (match drg n (σ 15) (σ 16) (fro (σ 20 2) (σ 2)) (σ 3) (σ 21) s i with
      | none => none
      | some q => if bt s i then (if σ 3 i = 0 then none else some (q.1 + fro (σ 20 2) (σ 2) i * σ 3 i, gre q.2 (gto (σ 21) ((σ 15 i ||| σ 16 i) &&& (s ^^^ (-1))) n))) else some q) := rfl
    rw [hq] at e
    unfold R_X1_depthOfRing_L7
    rw [h0, nI_1]
    refine ⟨fun z => absurd ((nI_leI (by omega) (by omega)).mp z) (by omega), fun _ => ?_⟩
    refine e_holds (by omega) (fun hb1 => ⟨fun q => absurd q n01, fun _ => ⟨hin, fun q3 => ?_, fun q3 => ?_⟩⟩) (fun hb1 => ⟨fun _ => ?_, fun q => absurd rfl q⟩)
    · rw [cl_nI (by omega)] at q3
      refine e_fro (by omega) ⟨hin, hin, hin, e_gto hn h0 (e_gre ?_)⟩
      rw [cl_nI (by omega)]
      have e : drg n (σ 15) (σ 16) (fro (σ 20 2) (σ 2)) (σ 3) (σ 21) s (i + 1) = some (q.1 + fro (σ 20 2) (σ 2) i * σ 3 i, gre q.2 (gto (σ 21) ((σ 15 i ||| σ 16 i) &&& (s ^^^ (-1))) n)) := by
        rw [e]; simp only [hb1, if_true, q3, if_false]
      exact ih (i + 1) (q.1 + fro (σ 20 2) (σ 2) i * σ 3 i, gre q.2 (gto (σ 21) ((σ 15 i ||| σ 16 i) &&& (s ^^^ (-1))) n)) (by omega) e
    · rw [cl_nI (by omega)] at q3
      have e : drg n (σ 15) (σ 16) (fro (σ 20 2) (σ 2)) (σ 3) (σ 21) s (i + 1) = none := by
        rw [e]; simp only [hb1, if_true, q3]
      exact hN (drg_none e n (by omega))
    · have e : drg n (σ 15) (σ 16) (fro (σ 20 2) (σ 2)) (σ 3) (σ 21) s (i + 1) = some q := by
        rw [e]; simp [hb1]
      exact ih (i + 1) q (by omega) e
theorem e_dRg {s : Int32} (hn : n ≤ 20) (h0 : σ 1 2 = nI n) (h : K (dRg n (σ 15) (σ 16) (fro (σ 20 2) (σ 2)) (σ 3) (σ 21) s) σ) : R_X1_depthOfRing s σ K := by
  unfold dRg at h
  refine ⟨n + 1, e_dRgL hn h0 (fun e => ?_) (fun q e => e_pls ?_) n 0 (0, 0) (by omega) rfl⟩
  · rw [e] at h; exact h
  · rw [e] at h; exact h
end DEP
/-- found behind a spreading -/
theorem e_sprL {K : pw_Mem → Prop} {KX : Int32 → Int32 → Int32 → pw_Mem → Prop} {s v : Int32} {n : Nat} {σ0 : pw_Mem} (hn : n ≤ 20) (h0 : σ0 1 2 = nI n) (hX : ∀ τ : pw_Mem, (∀ k, ¬ k = 21 → τ k = σ0 k) → (∀ r, τ 21 r = if r < n ∧ bt s r = true then v else σ0 21 r) → KX s v (nI n) τ) : ∀ (k i : Nat) (σ : pw_Mem), i + k = n → (∀ k, ¬ k = 21 → σ k = σ0 k) → (∀ r, σ 21 r = if r < i ∧ bt s r = true then v else σ0 21 r) → R_X1_spread_L2 K KX (k + 1) s v (nI i) σ := by
  intro k
  induction k with
  | zero =>
    intro i σ hi hs hd
    have e : i = n := by omega
    subst e
    unfold R_X1_spread_L2
    rw [hs 1 (by decide), h0]
    exact ⟨fun _ => hX σ hs hd, fun z => absurd (nI_le (Nat.le_refl _) (by omega)) z⟩
  | succ k ih =>
    intro i σ hi hs hd
    unfold R_X1_spread_L2
    rw [hs 1 (by decide), h0, nI_1]
    refine ⟨fun z => absurd ((nI_leI (by omega) (by omega)).mp z) (by omega), fun _ => ?_⟩
    refine e_holds (by omega) (fun hb1 => ⟨fun q => absurd q n01, fun _ => ⟨vp_in_nI (by omega) (by decide), ?_⟩⟩) (fun hb1 => ⟨fun _ => ?_, fun q => absurd rfl q⟩)
    · rintro _ rfl
      rw [cl_nI (by omega)]
      refine ih (i + 1) _ (by omega) (fun c hc => by rw [pw_r hc, hs c hc]) (fun r => ?_)
      rw [pw_s]
      by_cases e : r = i
      · subst e; rw [upd_s, if_pos ⟨by omega, hb1⟩]
      · rw [upd_n e, hd r]
        by_cases e2 : r < i ∧ bt s r = true
        · rw [if_pos e2, if_pos ⟨by omega, e2.2⟩]
        · rw [if_neg e2, if_neg (fun z => e2 ⟨by omega, z.2⟩)]
    · refine ih (i + 1) σ (by omega) hs (fun r => ?_)
      rw [hd r]
      by_cases e : r = i
      · subst e
        rw [if_neg (fun z => by omega), if_neg (fun z => by rw [hb1] at z; exact absurd z.2 (by decide))]
      · by_cases e2 : r < i ∧ bt s r = true
        · rw [if_pos e2, if_pos ⟨by omega, e2.2⟩]
        · rw [if_neg e2, if_neg (fun z => e2 ⟨by omega, z.2⟩)]
theorem e_spr {K : pw_Mem → Prop} {s v : Int32} {n : Nat} {σ : pw_Mem} (hn : n ≤ 20) (h0 : σ 1 2 = nI n) (hX : ∀ τ : pw_Mem, (∀ k, ¬ k = 21 → τ k = σ k) → (∀ r, τ 21 r = if r < n ∧ bt s r = true then v else σ 21 r) → K τ) : R_X1_spread s v σ K :=
  ⟨n + 1, e_sprL hn h0 hX n 0 σ (by omega) (fun _ _ => rfl) (fun r => by rw [if_neg (fun z => by omega)])⟩
