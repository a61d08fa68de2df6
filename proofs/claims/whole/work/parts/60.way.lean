/-! way -/
/-- the first that has p, of k from i -/
def fs (p : Nat → Bool) : Nat → Nat → Int32
  | 0, _ => -4
  | k + 1, i => if p i then nI i else fs p k (i + 1)
theorem fs_s (p : Nat → Bool) (k i : Nat) : fs p (k + 1) i = if p i then nI i else fs p k (i + 1) := rfl
theorem fs_cg {p q : Nat → Bool} : ∀ k i, (∀ j, i ≤ j → j < i + k → p j = q j) → fs p k i = fs q k i := by
  intro k
  induction k with
  | zero => intro i _; rfl
  | succ k ih =>
    intro i h
    rw [fs_s, fs_s, h i (Nat.le_refl _) (by omega), ih (i + 1) (fun j h1 h2 => h j (by omega) (by omega))]
theorem fs_or {p : Nat → Bool} : ∀ k i, fs p k i = -4 ∨ ∃ j, j < i + k ∧ p j = true ∧ fs p k i = nI j := by
  intro k
  induction k with
  | zero => intro i; exact Or.inl rfl
  | succ k ih =>
    intro i
    rw [fs_s]
    by_cases h : p i = true
    · rw [if_pos h]; exact Or.inr ⟨i, by omega, h, rfl⟩
    · rw [if_neg h]
      rcases ih (i + 1) with h1 | ⟨j, h1, h2⟩
      · exact Or.inl h1
      · exact Or.inr ⟨j, by omega, h2⟩
theorem fs_no {p : Nat → Bool} : ∀ k i, i + k < 2 ^ 31 → fs p k i = -4 → ∀ j, i ≤ j → j < i + k → p j = false := by
  intro k
  induction k with
  | zero => intro i _ _ j h1 h2; omega
  | succ k ih =>
    intro i hb h j h1 h2
    rw [fs_s] at h
    cases e : p i with
    | true => rw [e, if_pos rfl] at h; exact absurd h (nI_m4 (by omega))
    | false =>
      rw [e, if_neg (by decide)] at h
      by_cases e2 : j = i
      · subst e2; exact e
      · exact ih (i + 1) (by omega) h j (by omega) (by omega)
def cp (p : Nat → Bool) : Nat → Nat
  | 0 => 0
  | k + 1 => cp p k + (if p k then 1 else 0)
theorem cp_sub {p q : Nat → Bool} : ∀ k, (∀ s, s < k → p s = true → q s = true) → cp p k ≤ cp q k := by
  intro k
  induction k with
  | zero => intro _; exact Nat.le_refl _
  | succ k ih =>
    intro h
    have h1 := ih (fun s hs => h s (by omega))
    have e1 : cp p (k + 1) = cp p k + (if p k then 1 else 0) := rfl
    have e2 : cp q (k + 1) = cp q k + (if q k then 1 else 0) := rfl
    rw [e1, e2]
    by_cases e : p k = true
    · rw [if_pos e, if_pos (h k (by omega) e)]; omega
    · rw [if_neg e]; omega
theorem cp_slt {p q : Nat → Bool} : ∀ k, (∀ s, s < k → p s = true → q s = true) → (∃ s, s < k ∧ q s = true ∧ ¬ p s = true) → cp p k < cp q k := by
  intro k
  induction k with
  | zero => rintro _ ⟨s, hs, _⟩; omega
  | succ k ih =>
    rintro h ⟨s, hs, h1, h2⟩
    have h3 := cp_sub k (fun s hs => h s (by omega))
    have e1 : cp p (k + 1) = cp p k + (if p k then 1 else 0) := rfl
    have e2 : cp q (k + 1) = cp q k + (if q k then 1 else 0) := rfl
    rw [e1, e2]
    by_cases e : s = k
    · subst e; rw [if_pos h1, if_neg h2]; omega
    · have h4 := ih (fun s hs => h s (by omega)) ⟨s, by omega, h1, h2⟩
      by_cases e3 : p k = true
      · rw [if_pos e3, if_pos (h k (by omega) e3)]; omega
      · rw [if_neg e3]; omega
theorem cp_k {p : Nat → Bool} : ∀ k, cp p k ≤ k := by
  intro k
  induction k with
  | zero => exact Nat.le_refl _
  | succ k ih =>
    have e1 : cp p (k + 1) = cp p k + (if p k then 1 else 0) := rfl
    rw [e1]
    by_cases e : p k = true
    · rw [if_pos e]; omega
    · rw [if_neg e]; omega
/-- what follows on the way -/
def nxw (n : Nat) (P T G fr f : Rows) (r : Nat) : Int32 :=
  if f r ≤ dIt n P T G fr f r then
    (if fs (fun j => bt (P r) j && decide (f j = f r - fr r)) n 0 = -4 then fs (fun j => bt (T r &&& (G r ^^^ (-1))) j && decide (f j = f r)) n 0
     else fs (fun j => bt (P r) j && decide (f j = f r - fr r)) n 0)
  else fs (fun j => bt (G r) j && decide (dIt n P T G fr f j = f r)) n 0
section EW
variable {n : Nat} {σ : pw_Mem} {K : Int32 → pw_Mem → Prop}
theorem e_hasL {KX : Int32 → Int32 → Int32 → pw_Mem → Prop} {s d : Int32} {p : Nat → Bool} (hp : ∀ j, p j = (bt s j && decide (σ 21 j = d))) (hn : n ≤ 20) (h0 : σ 1 2 = nI n) (hK : ∀ i, i < n → fs p n 0 = nI i → K (nI i) σ) (hX : fs p n 0 = -4 → KX s d (nI n) σ) : ∀ (k i : Nat), i + k = n → fs p k i = fs p n 0 → R_X1_leastThatHas_L2 K KX (k + 1) s d (nI i) σ := by
  intro k
  induction k with
  | zero =>
    intro i hi hv
    have e : i = n := by omega
    subst e
    unfold R_X1_leastThatHas_L2
    rw [h0]
    exact ⟨fun _ => hX hv.symm, fun z => absurd (nI_le (Nat.le_refl _) (by omega)) z⟩
  | succ k ih =>
    intro i hi hv
    rw [fs_s, hp] at hv
    have h2 := ih (i + 1) (by omega)
    unfold R_X1_leastThatHas_L2
    rw [h0, nI_1]
    refine ⟨fun z => absurd ((nI_leI (by omega) (by omega)).mp z) (by omega), fun _ => ?_⟩
    refine e_holds (by omega) (fun hb1 => ⟨fun q => absurd q n01, fun _ => ⟨vp_in_nI (by omega) (by decide), ?_⟩⟩) (fun hb1 => ⟨fun _ => ?_, fun q => absurd rfl q⟩)
    · rw [cl_nI (by omega)]
      rw [hb1, Bool.true_and] at hv
      refine ⟨fun z => h2 ?_, fun z => hK i (by omega) ?_⟩
      · rw [if_neg (by rw [decide_eq_true_eq]; exact z)] at hv; exact hv
      · rw [if_pos (by rw [decide_eq_true_eq]; exact z)] at hv; exact hv.symm
    · rw [hb1, Bool.false_and, if_neg (by decide)] at hv
      exact h2 hv
theorem e_lhas {s d : Int32} (hn : n ≤ 20) (h0 : σ 1 2 = nI n) (h : K (fs (fun j => bt s j && decide (σ 21 j = d)) n 0) σ) : R_X1_leastThatHas s d σ K :=
  ⟨n + 1, e_hasL (p := fun j => bt s j && decide (σ 21 j = d)) (fun _ => rfl) hn h0 (fun i _ e => by rw [e] at h; exact h) (fun e => by rw [e] at h; exact h) n 0 (by omega) rfl⟩
theorem e_telL {KX : Int32 → Int32 → Int32 → pw_Mem → Prop} {s d : Int32} {p : Nat → Bool} (hp : ∀ j, p j = (bt s j && decide (dIt n (σ 15) (σ 16) (σ 18) (fro (σ 20 2) (σ 2)) (σ 21) j = d))) (hn : n ≤ 20) (h0 : σ 1 2 = nI n) (hK : ∀ i, i < n → fs p n 0 = nI i → K (nI i) σ) (hX : fs p n 0 = -4 → KX s d (nI n) σ) : ∀ (k i : Nat), i + k = n → fs p k i = fs p n 0 → R_X1_leastThatTells_L2 K KX (k + 1) s d (nI i) σ := by
  intro k
  induction k with
  | zero =>
    intro i hi hv
    have e : i = n := by omega
    subst e
    unfold R_X1_leastThatTells_L2
    rw [h0]
    exact ⟨fun _ => hX hv.symm, fun z => absurd (nI_le (Nat.le_refl _) (by omega)) z⟩
  | succ k ih =>
    intro i hi hv
    rw [fs_s, hp] at hv
    have h2 := ih (i + 1) (by omega)
    unfold R_X1_leastThatTells_L2
    rw [h0, nI_1]
    refine ⟨fun z => absurd ((nI_leI (by omega) (by omega)).mp z) (by omega), fun _ => ?_⟩
    refine e_holds (by omega) (fun hb1 => ⟨fun q => absurd q n01, fun _ => e_dIt (by omega) hn h0 ?_⟩) (fun hb1 => ⟨fun _ => ?_, fun q => absurd rfl q⟩)
    · rw [hb1, Bool.true_and] at hv
      refine ⟨fun z => h2 ?_, fun z => hK i (by omega) ?_⟩
      · rw [if_neg (by rw [decide_eq_true_eq]; exact z)] at hv; exact hv
      · rw [if_pos (by rw [decide_eq_true_eq]; exact z)] at hv; exact hv.symm
    · rw [hb1, Bool.false_and, if_neg (by decide)] at hv
      exact h2 hv
theorem e_tel {s d : Int32} (hn : n ≤ 20) (h0 : σ 1 2 = nI n) (h : K (fs (fun j => bt s j && decide (dIt n (σ 15) (σ 16) (σ 18) (fro (σ 20 2) (σ 2)) (σ 21) j = d)) n 0) σ) : R_X1_leastThatTells s d σ K :=
  ⟨n + 1, e_telL (p := fun j => bt s j && decide (dIt n (σ 15) (σ 16) (σ 18) (fro (σ 20 2) (σ 2)) (σ 21) j = d)) (fun _ => rfl) hn h0 (fun i _ e => by rw [e] at h; exact h) (fun e => by rw [e] at h; exact h) n 0 (by omega) rfl⟩
theorem e_nxw {r : Nat} (hn : n ≤ 20) (hr : r < n) (h0 : σ 1 2 = nI n) (h : K (nxw n (σ 15) (σ 16) (σ 18) (fro (σ 20 2) (σ 2)) (σ 21) r) σ) : R_X1_nextOnWay (nI r) σ K := by
  have hin : vp_in (nI r) 20 := vp_in_nI (by omega) (by decide)
  unfold nxw at h
  unfold R_X1_nextOnWay
  refine ⟨hin, e_dIt (by omega) hn h0 ?_⟩
  rw [cl_nI (by omega)]
  refine ⟨fun z => ⟨hin, e_fro (by omega) (e_lhas hn h0 ⟨fun z2 => ⟨hin, hin, e_lhas hn h0 ?_⟩, fun z2 => ?_⟩)⟩, fun z => ⟨hin, e_tel hn h0 ?_⟩⟩
  · rw [if_pos z, if_pos z2] at h; exact h
  · rw [if_pos z, if_neg z2] at h; exact h
  · rw [if_neg z] at h; exact h
end EW
theorem nxw_rw {n : Nat} {P P' T T' G G' fr fr' f f' : Rows} (hP : ∀ a, a < n → P' a = P a) (hT : ∀ a, a < n → T' a = T a) (hG : ∀ a, a < n → G' a = G a) (hF : ∀ a, a < n → fr' a = fr a) (hf : ∀ a, a < n → f' a = f a) {r : Nat} (hr : r < n) : nxw n P' T' G' fr' f' r = nxw n P T G fr f r := by
  have hd : ∀ a, a < n → dIt n P' T' G' fr' f' a = dIt n P T G fr f a := fun a ha => by
    unfold dIt
    rw [hP a ha, hT a ha, hG a ha, hF a ha, gto_cg n (fun j hj _ => hf j hj), gto_cg n (fun j hj _ => hf j hj)]
  unfold nxw
  rw [hd r hr, hf r hr, hP r hr, hT r hr, hG r hr, hF r hr, fs_cg n 0 (fun j _ hj => by rw [hf j (by omega)]), fs_cg n 0 (p := fun j => bt (T r &&& (G r ^^^ (-1))) j && decide (f' j = f r)) (fun j _ hj => by rw [hf j (by omega)]), fs_cg n 0 (p := fun j => bt (G r) j && decide (dIt n P' T' G' fr' f' j = f r)) (fun j _ hj => by rw [hd j (by omega)])]
section MW
variable {n : Nat} {σ : pw_Mem} {K : Int32 → pw_Mem → Prop}
theorem add_iff (a b c : Int32) : a + b = c ↔ b = c - a := by
  constructor
  · intro h; rw [← h, Int32.add_comm, Int32.add_sub_cancel]
  · intro h; rw [h, Int32.add_comm, Int32.sub_add_cancel]
theorem m_n62 {KX : Int32 → Int32 → pw_Mem → Prop} {r : Nat} {p : Nat → Bool} (hp : ∀ j, p j = (bt (σ 58 r) j && decide (σ 62 j = σ 62 r - σ 50 r))) (hr : r < n) (hn : n ≤ 20) (h0 : σ 49 0 = nI n) (hK : ∀ i, i < n → fs p n 0 = nI i → K (nI i) σ) (hX : fs p n 0 = -4 → KX (nI r) (nI n) σ) : ∀ (k i : Nat), i + k = n → fs p k i = fs p n 0 → R_X11_nextOf_L62 K KX (k + 1) (nI r) (nI i) σ := by
  have hir : vp_in (nI r) 20 := vp_in_nI (by omega) (by decide)
  intro k
  induction k with
  | zero =>
    intro i hi hv
    have e : i = n := by omega
    subst e
    unfold R_X11_nextOf_L62
    rw [h0]
    exact ⟨fun _ => hX hv.symm, fun z => absurd (nI_le (Nat.le_refl _) (by omega)) z⟩
  | succ k ih =>
    intro i hi hv
    rw [fs_s, hp] at hv
    have h2 := ih (i + 1) (by omega)
    have hii : vp_in (nI i) 20 := vp_in_nI (by omega) (by decide)
    unfold R_X11_nextOf_L62
    rw [h0, nI_1, cl_nI (show r < 2 ^ 31 by omega), cl_nI (show i < 2 ^ 31 by omega)]
    refine ⟨fun z => absurd ((nI_leI (by omega) (by omega)).mp z) (by omega), fun _ => ⟨hir, fun z => h2 ?_, fun z => ⟨hir, hii, hir, fun y => h2 ?_, fun y => hK i (by omega) ?_⟩⟩⟩
    · cases e : bt (σ 58 r) i with
      | true => exact absurd (ybit (by omega) e) z
      | false => rw [e, Bool.false_and, if_neg (by decide)] at hv; exact hv
    all_goals
      have e : bt (σ 58 r) i = true := by
        cases e : bt (σ 58 r) i with
        | true => rfl
        | false => exact absurd z (nbit (by omega) e)
      rw [e, Bool.true_and] at hv
      rw [add_iff] at y
    · rw [if_neg (by rw [decide_eq_true_eq]; exact y)] at hv; exact hv
    · rw [if_pos (by rw [decide_eq_true_eq]; exact y)] at hv; exact hv.symm
theorem m_n116 {KX : Int32 → Int32 → pw_Mem → Prop} {r : Nat} {p : Nat → Bool} (hp : ∀ j, p j = (bt (σ 59 r &&& (σ 61 r ^^^ (-1))) j && decide (σ 62 j = σ 62 r))) (hr : r < n) (hn : n ≤ 20) (h0 : σ 49 0 = nI n) (hK : ∀ i, i < n → fs p n 0 = nI i → K (nI i) σ) (hX : fs p n 0 = -4 → KX (nI r) (nI n) σ) : ∀ (k i : Nat), i + k = n → fs p k i = fs p n 0 → R_X11_nextOf_L116 K KX (k + 1) (nI r) (nI i) σ := by
  have hir : vp_in (nI r) 20 := vp_in_nI (by omega) (by decide)
  intro k
  induction k with
  | zero =>
    intro i hi hv
    have e : i = n := by omega
    subst e
    unfold R_X11_nextOf_L116
    rw [h0]
    exact ⟨fun _ => hX hv.symm, fun z => absurd (nI_le (Nat.le_refl _) (by omega)) z⟩
  | succ k ih =>
    intro i hi hv
    rw [fs_s, hp] at hv
    have h2 := ih (i + 1) (by omega)
    have hii : vp_in (nI i) 20 := vp_in_nI (by omega) (by decide)
    unfold R_X11_nextOf_L116
    rw [h0, nI_1, cl_nI (show r < 2 ^ 31 by omega), cl_nI (show i < 2 ^ 31 by omega)]
    refine ⟨fun z => absurd ((nI_leI (by omega) (by omega)).mp z) (by omega), fun _ => ⟨hir, hir, fun z => h2 ?_, fun z => ⟨hii, hir, fun y => h2 ?_, fun y => hK i (by omega) ?_⟩⟩⟩
    · cases e : bt (σ 59 r &&& (σ 61 r ^^^ (-1))) i with
      | true => exact absurd (ybit (by omega) e) z
      | false => rw [e, Bool.false_and, if_neg (by decide)] at hv; exact hv
    all_goals
      have e : bt (σ 59 r &&& (σ 61 r ^^^ (-1))) i = true := by
        cases e : bt (σ 59 r &&& (σ 61 r ^^^ (-1))) i with
        | true => rfl
        | false => exact absurd z (nbit (by omega) e)
      rw [e, Bool.true_and] at hv
    · rw [if_neg (by rw [decide_eq_true_eq]; exact y)] at hv; exact hv
    · rw [if_pos (by rw [decide_eq_true_eq]; exact y)] at hv; exact hv.symm
theorem m_n16 {KX : Int32 → Int32 → pw_Mem → Prop} {r : Nat} {p : Nat → Bool} (hp : ∀ j, j < n → p j = (bt (σ 61 r) j && decide (ow n (σ 58) (σ 59) (σ 61) (σ 50) (σ 62) j = σ 62 r))) (hr : r < n) (hn : n ≤ 20) (h0 : σ 49 0 = nI n) (hK : ∀ i, i < n → fs p n 0 = nI i → K (nI i) σ) (hX : ¬ fs p n 0 = -4) : ∀ (k i : Nat), i + k = n → fs p k i = fs p n 0 → R_X11_nextOf_L16 K KX (k + 1) (nI r) (nI i) σ := by
  have hir : vp_in (nI r) 20 := vp_in_nI (by omega) (by decide)
  intro k
  induction k with
  | zero =>
    intro i hi hv
    exact absurd hv.symm hX
  | succ k ih =>
    intro i hi hv
    rw [fs_s, hp i (by omega)] at hv
    have h2 := ih (i + 1) (by omega)
    have hii : vp_in (nI i) 20 := vp_in_nI (by omega) (by decide)
    unfold R_X11_nextOf_L16
    rw [h0, nI_1, cl_nI (show r < 2 ^ 31 by omega)]
    refine ⟨fun z => absurd ((nI_leI (by omega) (by omega)).mp z) (by omega), fun _ => ⟨hir, fun z => h2 ?_, fun z => m_own (by omega) hn h0 ⟨hir, fun y => h2 ?_, fun y => hK i (by omega) ?_⟩⟩⟩
    · cases e : bt (σ 61 r) i with
      | true => exact absurd (ybit (by omega) e) z
      | false => rw [e, Bool.false_and, if_neg (by decide)] at hv; exact hv
    all_goals
      have e : bt (σ 61 r) i = true := by
        cases e : bt (σ 61 r) i with
        | true => rfl
        | false => exact absurd z (nbit (by omega) e)
      rw [e, Bool.true_and] at hv
    · rw [if_neg (by rw [decide_eq_true_eq]; exact y)] at hv; exact hv
    · rw [if_pos (by rw [decide_eq_true_eq]; exact y)] at hv; exact hv.symm
theorem m_nxw {r : Nat} (hn : n ≤ 20) (hr : r < n) (h0 : σ 49 0 = nI n) (ho : ∀ k, k < n → ow n (σ 58) (σ 59) (σ 61) (σ 50) (σ 62) k = dIt n (σ 58) (σ 59) (σ 61) (σ 50) (σ 62) k) (ht : ¬ σ 62 r ≤ dIt n (σ 58) (σ 59) (σ 61) (σ 50) (σ 62) r → ∃ k, k < n ∧ bt (σ 61 r) k = true ∧ dIt n (σ 58) (σ 59) (σ 61) (σ 50) (σ 62) k = σ 62 r) (h : K (nxw n (σ 58) (σ 59) (σ 61) (σ 50) (σ 62) r) σ) : R_X11_nextOf (nI r) σ K := by
  have hir : vp_in (nI r) 20 := vp_in_nI (by omega) (by decide)
  unfold nxw at h
  unfold R_X11_nextOf
  refine m_own (by omega) hn h0 ⟨hir, ?_⟩
  rw [cl_nI (by omega), ho r hr]
  refine ⟨fun z => ?_, fun z => ?_⟩
  · rw [if_pos z] at h
    refine ⟨n + 1, m_n62 (p := fun j => bt (σ 58 r) j && decide (σ 62 j = σ 62 r - σ 50 r)) (fun _ => rfl) hr hn h0 (fun i hi e => ?_) (fun e => ⟨n + 1, m_n116 (p := fun j => bt (σ 59 r &&& (σ 61 r ^^^ (-1))) j && decide (σ 62 j = σ 62 r)) (fun _ => rfl) hr hn h0 (fun i hi e2 => ?_) (fun e2 => ?_) n 0 (by omega) rfl⟩) n 0 (by omega) rfl⟩
    · rw [e, if_neg (nI_m4 (by omega))] at h; exact h
    · rw [if_pos e, e2] at h; exact h
    · rw [if_pos e, e2] at h; exact h
  · rw [if_neg z] at h
    obtain ⟨k, hk, hk1, hk2⟩ := ht z
    refine ⟨n + 1, m_n16 (p := fun j => bt (σ 61 r) j && decide (dIt n (σ 58) (σ 59) (σ 61) (σ 50) (σ 62) j = σ 62 r)) (fun j hj => by rw [ho j hj]) hr hn h0 (fun i hi e => ?_) (fun e => ?_) n 0 (by omega) rfl⟩
    · rw [e] at h; exact h
    · have := fs_no n 0 (by omega) e k (by omega) (by omega)
      rw [hk1, hk2, decide_eq_true rfl] at this
      exact absurd this (by decide)
end MW
