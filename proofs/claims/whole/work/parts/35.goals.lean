/-! goals: both sides lay the least closed sets -/
theorem l8 {i : Nat} (h : i ≤ 8) : (8 : Int32) ≤ nI i ↔ 8 ≤ i := nI_leI (a := 8) (by decide) (by omega)
theorem bt_or1 {x y : Int32} {r : Nat} : bt (x ||| y) r = true ↔ bt x r = true ∨ bt y r = true := by rw [b_or]; simp
theorem un_bt (g : Rows) (x : Int32) (r : Nat) : ∀ k, bt (un g x k) r = true ↔ ∃ q, q < k ∧ bt x q = true ∧ bt (g q) r = true := by
  intro k
  induction k with
  | zero => simp [un, b_0]
  | succ k ih =>
    unfold un
    by_cases h : bt x k = true
    · rw [if_pos h, bt_or1, ih]
      constructor
      · rintro (⟨q, h1, h2⟩ | h1)
        · exact ⟨q, by omega, h2⟩
        · exact ⟨k, by omega, h, h1⟩
      · rintro ⟨q, h1, h2, h3⟩
        by_cases e : q = k
        · subst e; exact Or.inr h3
        · exact Or.inl ⟨q, by omega, h2, h3⟩
    · rw [if_neg h, ih]
      constructor
      · rintro ⟨q, h1, h2⟩
        exact ⟨q, by omega, h2⟩
      · rintro ⟨q, h1, h2, h3⟩
        by_cases e : q = k
        · subst e; exact absurd h2 h
        · exact ⟨q, by omega, h2, h3⟩
/-- one pass, many passes -/
def sp1 (T S : Rows) : Nat → Rows → Rows
  | 0, G => G
  | p + 1, G => upd (sp1 T S p G) p (sp1 T S p G p ||| (T p ||| un (sp1 T S p G) (S p) 8))
def sp (T S : Rows) : Nat → Rows → Rows
  | 0, G => G
  | k + 1, G => sp1 T S 8 (sp T S k G)
theorem sp1_hi {T S G : Rows} : ∀ k j, k ≤ j → sp1 T S k G j = G j := by
  intro k
  induction k with
  | zero => intro j _; rfl
  | succ k ih => intro j hj; unfold sp1; rw [upd_n (by omega)]; exact ih j (by omega)
theorem gq_ne {S G : Rows} {p : Nat} : ∀ k j, ¬ j = p → gq S p k G j = G j := by
  intro k
  induction k with
  | zero => intro j _; rfl
  | succ k ih => intro j hj; unfold gq; rw [upd_n hj]; exact ih j hj
theorem gq_bt {S G : Rows} {p r : Nat} : ∀ k, bt (gq S p k G p) r = true ↔ (bt (G p) r = true ∨ ∃ q, q < k ∧ bt (S p) q = true ∧ bt (G q) r = true) := by
  intro k
  induction k with
  | zero => simp [gq]
  | succ k ih =>
    unfold gq
    rw [upd_s, bt_or1, ih]
    by_cases h : bt (S p) k = true
    · rw [if_pos h]
      have e : bt (gq S p k G k) r = true → bt (G k) r = true ∨ (bt (G p) r = true ∨ ∃ q, q < k ∧ bt (S p) q = true ∧ bt (G q) r = true) := fun q => by
        by_cases e : k = p
        · subst e; exact Or.inr (ih.mp q)
        · rw [gq_ne k k e] at q; exact Or.inl q
      constructor
      · rintro ((h1 | ⟨q, h1, h2⟩) | h1)
        · exact Or.inl h1
        · exact Or.inr ⟨q, by omega, h2⟩
        · rcases e h1 with h2 | h2 | ⟨q, h2, h3⟩
          · exact Or.inr ⟨k, by omega, h, h2⟩
          · exact Or.inl h2
          · exact Or.inr ⟨q, by omega, h3⟩
      · rintro (h1 | ⟨q, h1, h2, h3⟩)
        · exact Or.inl (Or.inl h1)
        · by_cases e2 : q = k
          · subst e2
            by_cases e3 : q = p
            · subst e3; exact Or.inl (Or.inl h3)
            · exact Or.inr (by rw [gq_ne q q e3]; exact h3)
          · exact Or.inl (Or.inr ⟨q, by omega, h2, h3⟩)
    · rw [if_neg h]
      constructor
      · rintro ((h1 | ⟨q, h1, h2⟩) | h1)
        · exact Or.inl h1
        · exact Or.inr ⟨q, by omega, h2⟩
        · rw [b_0] at h1; cases h1
      · rintro (h1 | ⟨q, h1, h2, h3⟩)
        · exact Or.inl (Or.inl h1)
        · by_cases e2 : q = k
          · subst e2; exact absurd h2 h
          · exact Or.inl (Or.inr ⟨q, by omega, h2, h3⟩)
theorem gq_sp (S G : Rows) (p : Nat) : gq S p 8 G = upd G p (G p ||| ((fun _ => 0 : Rows) p ||| un G (S p) 8)) := by
  funext j
  by_cases e : j = p
  · subst e
    rw [upd_s]
    apply b_ext
    intro r _
    have h1 := gq_bt (S := S) (G := G) (p := j) (r := r) 8
    have h2 : bt (G j ||| ((fun _ => 0 : Rows) j ||| un G (S j) 8)) r = true ↔ (bt (G j) r = true ∨ ∃ q, q < 8 ∧ bt (S j) q = true ∧ bt (G q) r = true) := by
      rw [bt_or1, bt_or1, un_bt]
      have : ¬ bt 0 r = true := by rw [b_0]; decide
      simp [this]
    exact Bool.eq_iff_iff.mpr (h1.trans h2.symm)
  · rw [gq_ne 8 j e, upd_n e]
theorem gp_sp (S : Rows) : ∀ k G, gp S k G = sp1 (fun _ => 0) S k G := by
  intro k
  induction k with
  | zero => intro G; rfl
  | succ k ih => intro G; unfold gp sp1; rw [ih G, gq_sp]
theorem gr_sp (S : Rows) : ∀ k G, gr S k G = sp (fun _ => 0) S k G := by
  intro k
  induction k with
  | zero => intro G; rfl
  | succ k ih => intro G; unfold gr sp; rw [ih G, gp_sp]
/-- a pass grows -/
theorem sp1_inf {T S G : Rows} {r : Nat} : ∀ k p, bt (G p) r = true → bt (sp1 T S k G p) r = true := by
  intro k
  induction k with
  | zero => intro p h; exact h
  | succ k ih =>
    intro p h
    unfold sp1
    by_cases e : p = k
    · subst e; rw [upd_s, bt_or1]; exact Or.inl (ih p h)
    · rw [upd_n e]; exact ih p h
theorem sp1_T {T S G : Rows} {r : Nat} : ∀ k p, p < k → bt (T p) r = true → bt (sp1 T S k G p) r = true := by
  intro k
  induction k with
  | zero => intro p hp; omega
  | succ k ih =>
    intro p hp h
    unfold sp1
    by_cases e : p = k
    · subst e; rw [upd_s, bt_or1, bt_or1]; exact Or.inr (Or.inl h)
    · rw [upd_n e]; exact ih p (by omega) h
theorem sp1_S {T S G : Rows} {r : Nat} : ∀ k p q, p < k → q < 8 → bt (S p) q = true → bt (G q) r = true → bt (sp1 T S k G p) r = true := by
  intro k
  induction k with
  | zero => intro p q hp; omega
  | succ k ih =>
    intro p q hp hq h1 h2
    unfold sp1
    by_cases e : p = k
    · subst e; rw [upd_s, bt_or1, bt_or1, un_bt]; exact Or.inr (Or.inr ⟨q, hq, h1, sp1_inf p q h2⟩)
    · rw [upd_n e]; exact ih p q (by omega) hq h1 h2
def Clo (T S : Rows) (r : Nat) (Z : Nat → Prop) : Prop := (∀ p, p < 8 → bt (T p) r = true → Z p) ∧ ∀ p q, p < 8 → q < 8 → bt (S p) q = true → Z q → Z p
theorem sp1_sd {T S G : Rows} {r : Nat} {Z : Nat → Prop} (hZ : Clo T S r Z) (hG : ∀ p, p < 8 → bt (G p) r = true → Z p) : ∀ k, k ≤ 8 → ∀ p, p < 8 → bt (sp1 T S k G p) r = true → Z p := by
  intro k
  induction k with
  | zero => intro _; exact hG
  | succ k ih =>
    intro hk p hp h
    unfold sp1 at h
    by_cases e : p = k
    · subst e
      rw [upd_s, bt_or1, bt_or1, un_bt] at h
      rcases h with h | h | ⟨q, h1, h2, h3⟩
      · exact ih (by omega) p hp h
      · exact hZ.1 p hp h
      · exact hZ.2 p q hp h1 h2 (ih (by omega) q h1 h3)
    · rw [upd_n e] at h; exact ih (by omega) p hp h
theorem sp_sd {T S G : Rows} {r : Nat} {Z : Nat → Prop} (hZ : Clo T S r Z) (hG : ∀ p, p < 8 → bt (G p) r = true → Z p) : ∀ k p, p < 8 → bt (sp T S k G p) r = true → Z p := by
  intro k
  induction k with
  | zero => exact hG
  | succ k ih => exact sp1_sd hZ ih 8 (Nat.le_refl _)
theorem sp_inf {T S G : Rows} {r : Nat} : ∀ k p, bt (G p) r = true → bt (sp T S k G p) r = true := by
  intro k
  induction k with
  | zero => intro p h; exact h
  | succ k ih => intro p h; exact sp1_inf 8 p (ih p h)
theorem sp1_cg {T S G H : Rows} {r : Nat} (h : ∀ p, p < 8 → (bt (G p) r = true ↔ bt (H p) r = true)) : ∀ k, k ≤ 8 → ∀ p, p < 8 → (bt (sp1 T S k G p) r = true ↔ bt (sp1 T S k H p) r = true) := by
  intro k
  induction k with
  | zero => intro _; exact h
  | succ k ih =>
    intro hk p hp
    unfold sp1
    by_cases e : p = k
    · subst e
      rw [upd_s, upd_s, bt_or1, bt_or1, bt_or1, bt_or1, un_bt, un_bt, ih (by omega) p hp]
      refine or_congr Iff.rfl (or_congr Iff.rfl ⟨?_, ?_⟩)
      · rintro ⟨q, h1, h2, h3⟩; exact ⟨q, h1, h2, (ih (by omega) q h1).mp h3⟩
      · rintro ⟨q, h1, h2, h3⟩; exact ⟨q, h1, h2, (ih (by omega) q h1).mpr h3⟩
    · rw [upd_n e, upd_n e]; exact ih (by omega) p hp
/-- how many of the first k rows have the bit -/
def cn (G : Rows) (r : Nat) : Nat → Nat
  | 0 => 0
  | k + 1 => cn G r k + (if bt (G k) r then 1 else 0)
theorem cn_le {G H : Rows} {r : Nat} : ∀ k, (∀ p, p < k → bt (G p) r = true → bt (H p) r = true) → cn G r k ≤ cn H r k := by
  intro k
  induction k with
  | zero => intro _; exact Nat.le_refl _
  | succ k ih =>
    intro h
    have h1 := ih (fun p hp => h p (by omega))
    unfold cn
    by_cases e : bt (G k) r = true
    · rw [if_pos e, if_pos (h k (by omega) e)]; omega
    · rw [if_neg e]; omega
theorem cn_lt {G H : Rows} {r : Nat} : ∀ k, (∀ p, p < k → bt (G p) r = true → bt (H p) r = true) → (∃ p, p < k ∧ bt (H p) r = true ∧ ¬ bt (G p) r = true) → cn G r k < cn H r k := by
  intro k
  induction k with
  | zero => rintro _ ⟨p, hp, _⟩; omega
  | succ k ih =>
    rintro h ⟨p, hp, h1, h2⟩
    have h3 := cn_le k (fun p hp => h p (by omega))
    unfold cn
    by_cases e : p = k
    · subst e; rw [if_pos h1, if_neg h2]; omega
    · have h4 := ih (fun p hp => h p (by omega)) ⟨p, by omega, h1, h2⟩
      by_cases e2 : bt (G k) r = true
      · rw [if_pos e2, if_pos (h k (by omega) e2)]; omega
      · rw [if_neg e2]; omega
theorem cn_all {G : Rows} {r : Nat} : ∀ k, k ≤ cn G r k → ∀ p, p < k → bt (G p) r = true := by
  have up : ∀ k, cn G r k ≤ k := by
    intro k
    induction k with
    | zero => exact Nat.le_refl _
    | succ k ih => unfold cn; split <;> omega
  intro k
  induction k with
  | zero => intro _ p hp; omega
  | succ k ih =>
    intro h p hp
    unfold cn at h
    have := up k
    by_cases e : bt (G k) r = true
    · by_cases e2 : p = k
      · subst e2; exact e
      · exact ih (by rw [if_pos e] at h; omega) p (by omega)
    · rw [if_neg e] at h; omega
theorem sp_fix {T S G : Rows} {r : Nat} : ∀ k, (∀ p, p < 8 → (bt (sp1 T S 8 (sp T S k G) p) r = true ↔ bt (sp T S k G p) r = true)) ∨ k ≤ cn (sp T S k G) r 8 := by
  intro k
  induction k with
  | zero => exact Or.inr (Nat.zero_le _)
  | succ k ih =>
    have e : sp T S (k + 1) G = sp1 T S 8 (sp T S k G) := rfl
    by_cases hs : ∀ p, p < 8 → (bt (sp1 T S 8 (sp T S k G) p) r = true ↔ bt (sp T S k G p) r = true)
    · left
      intro p hp
      rw [e]
      exact (sp1_cg hs 8 (Nat.le_refl _) p hp)
    · rcases ih with ih | ih
      · exact absurd ih hs
      · right
        rw [e]
        have h1 : ∃ p, p < 8 ∧ bt (sp1 T S 8 (sp T S k G) p) r = true ∧ ¬ bt (sp T S k G p) r = true := by
          refine Classical.byContradiction fun hn => hs fun p hp => ⟨fun q => ?_, fun q => sp1_inf 8 p q⟩
          exact Classical.byContradiction fun z => hn ⟨p, hp, q, z⟩
        have := cn_lt (G := sp T S k G) (H := sp1 T S 8 (sp T S k G)) 8 (fun p _ => sp1_inf (T := T) (S := S) 8 p) h1
        omega
theorem sp_st {T S G : Rows} {r : Nat} (p : Nat) (hp : p < 8) : bt (sp1 T S 8 (sp T S 8 G) p) r = true ↔ bt (sp T S 8 G p) r = true := by
  rcases sp_fix (T := T) (S := S) (G := G) (r := r) 8 with h | h
  · exact h p hp
  · exact ⟨fun _ => cn_all 8 h p hp, fun q => sp1_inf 8 p q⟩
theorem sp_clo {T S G : Rows} {r : Nat} : Clo T S r (fun p => bt (sp T S 8 G p) r = true) :=
  ⟨fun p hp h => (sp_st p hp).mp (sp1_T 8 p hp h), fun p q hp hq h1 h2 => (sp_st p hp).mp (sp1_S 8 p q hp hq h1 h2)⟩
theorem gl_clo {T S : Rows} {r : Nat} : Clo T S r (fun p => bt (gl T S p) r = true) := by
  unfold gl
  rw [gr_sp]
  exact ⟨fun p _ h => sp_inf 8 p h, (sp_clo (T := fun _ => 0) (S := S) (G := T) (r := r)).2⟩
theorem gl_sd {T S : Rows} {r : Nat} {Z : Nat → Prop} (hZ : Clo T S r Z) : ∀ p, p < 8 → bt (gl T S p) r = true → Z p := by
  unfold gl
  rw [gr_sp]
  exact sp_sd (T := fun _ => 0) ⟨(fun p _ h => absurd (b_0 r ▸ h) (by decide)), hZ.2⟩ hZ.1 8
theorem sp_gl {T S T' S' G : Rows} (hT : ∀ p r, p < 8 → bt (T p) r = true → bt (T' p) r = true) (hS : ∀ p q, p < 8 → bt (S p) q = true → bt (S' p) q = true) (hG : ∀ p, p < 8 → G p = gl T S p) : ∀ p, p < 8 → sp T' S' 8 G p = gl T' S' p := by
  intro p hp
  apply b_ext
  intro r _
  refine Bool.eq_iff_iff.mpr ⟨fun h => ?_, fun h => ?_⟩
  · refine sp_sd (Z := fun p => bt (gl T' S' p) r = true) gl_clo (fun p hp h => ?_) 8 p hp h
    rw [hG p hp] at h
    exact gl_sd ⟨fun p hp h => gl_clo.1 p hp (hT p r hp h), fun p q hp hq h1 h2 => gl_clo.2 p q hp hq (hS p q hp h1) h2⟩ p hp h
  · exact gl_sd (sp_clo (T := T') (S := S') (G := G) (r := r)) p hp h
theorem gq_cg {S S' G H : Rows} {p : Nat} (hp : p < 8) (hs : S' p = S p) (h : ∀ j, j < 8 → G j = H j) : ∀ k, k ≤ 8 → ∀ j, j < 8 → gq S' p k G j = gq S p k H j := by
  intro k
  induction k with
  | zero => intro _; exact h
  | succ k ih =>
    intro hk j hj
    unfold gq
    rw [hs, ih (by omega) p hp, ih (by omega) k (by omega)]
    by_cases e : j = p
    · subst e; rw [upd_s, upd_s]
    · rw [upd_n e, upd_n e]; exact ih (by omega) j hj
theorem gp_cg {S S' G H : Rows} (hs : ∀ p, p < 8 → S' p = S p) (h : ∀ j, j < 8 → G j = H j) : ∀ k, k ≤ 8 → ∀ j, j < 8 → gp S' k G j = gp S k H j := by
  intro k
  induction k with
  | zero => intro _; exact h
  | succ k ih => intro hk; exact gq_cg (by omega) (hs k (by omega)) (ih (by omega)) 8 (Nat.le_refl _)
theorem gr_cg {S S' G H : Rows} (hs : ∀ p, p < 8 → S' p = S p) (h : ∀ j, j < 8 → G j = H j) : ∀ k, ∀ j, j < 8 → gr S' k G j = gr S k H j := by
  intro k
  induction k with
  | zero => exact h
  | succ k ih => exact gp_cg hs ih 8 (Nat.le_refl _)
theorem gl_cg {T T' S S' : Rows} (ht : ∀ p, p < 8 → T' p = T p) (hs : ∀ p, p < 8 → S' p = S p) : ∀ p, p < 8 → gl T' S' p = gl T S p := gr_cg hs ht 8
/-! the programs -/
theorem e_unionL {K : Int32 → pw_Mem → Prop} {KX : Int32 → Int32 → Int32 → pw_Mem → Prop} {x : Int32} {σ : pw_Mem} (h : KX x (un (σ 7) x 8) 8 σ) : ∀ (k i : Nat), i + k = 8 → R_X4_unionOf_L4 K KX (k + 1) x (un (σ 7) x i) (nI i) σ := by
  intro k
  induction k with
  | zero =>
    intro i hi
    have e : i = 8 := by omega
    subst e
    unfold R_X4_unionOf_L4
    exact ⟨fun _ => h, fun q => absurd ((l8 (by omega)).mpr (by omega)) q⟩
  | succ k ih =>
    intro i hi
    unfold R_X4_unionOf_L4
    refine ⟨fun q => absurd ((l8 (by omega)).mp q) (by omega), fun _ => ?_⟩
    have h2 := ih (i + 1) (by omega)
    unfold un at h2
    rw [nI_1]
    refine e_holds (by omega) (fun hb1 => ⟨fun q => absurd q n01, fun _ => ⟨vp_in_nI (by omega) (by decide), ?_⟩⟩) (fun hb1 => ⟨fun _ => ?_, fun q => absurd rfl q⟩)
    · rw [if_pos hb1] at h2
      rw [cl_nI (by omega)]
      exact h2
    · rw [if_neg (by rw [hb1]; decide)] at h2
      exact h2
theorem e_unionOf {K : Int32 → pw_Mem → Prop} {x : Int32} {σ : pw_Mem} (h : K (un (σ 7) x 8) σ) : R_X4_unionOf x σ K :=
  ⟨9, e_unionL h 8 0 rfl⟩
theorem e_spL {K : pw_Mem → Prop} {KX : Int32 → Int32 → pw_Mem → Prop} {l1 : Int32} {G : Rows} : ∀ (k i : Nat) (σ : pw_Mem), i + k = 8 → σ 7 = sp1 (σ 5) (σ 6) i G → (∀ τ : pw_Mem, (∀ c, ¬ c = 7 → τ c = σ c) → τ 7 = sp1 (σ 5) (σ 6) 8 G → KX l1 8 τ) → R_X4_spreadGoals_L10 K KX (k + 1) l1 (nI i) σ := by
  intro k
  induction k with
  | zero =>
    intro i σ hi h7 h
    have e : i = 8 := by omega
    subst e
    unfold R_X4_spreadGoals_L10
    exact ⟨fun _ => h σ (fun _ _ => rfl) h7, fun q => absurd ((l8 (by omega)).mpr (by omega)) q⟩
  | succ k ih =>
    intro i σ hi h7 h
    have hin : vp_in (nI i) 8 := vp_in_nI (by omega) (by decide)
    unfold R_X4_spreadGoals_L10
    refine ⟨fun q => absurd ((l8 (by omega)).mp q) (by omega), fun _ => ⟨hin, hin, hin, ?_⟩⟩
    rw [cl_nI (by omega), nI_1]
    refine e_unionOf ⟨hin, ?_⟩
    rintro _ rfl
    refine ih (i + 1) _ (by omega) ?_ (fun τ h1 h2 => h τ (fun c hc => by rw [h1 c hc, pw_r hc]) ?_)
    · rw [pw_s, pw_r (by decide), pw_r (by decide), h7]
      rfl
    · rw [h2, pw_r (by decide), pw_r (by decide)]
theorem e_spR {K : pw_Mem → Prop} {KX : Int32 → pw_Mem → Prop} {G : Rows} : ∀ (k i : Nat) (σ : pw_Mem), i + k = 8 → σ 7 = sp (σ 5) (σ 6) i G → (∀ τ : pw_Mem, (∀ c, ¬ c = 7 → τ c = σ c) → τ 7 = sp (σ 5) (σ 6) 8 G → KX 8 τ) → R_X4_spreadGoals_L2 K KX (k + 1) (nI i) σ := by
  intro k
  induction k with
  | zero =>
    intro i σ hi h7 h
    have e : i = 8 := by omega
    subst e
    unfold R_X4_spreadGoals_L2
    exact ⟨fun _ => h σ (fun _ _ => rfl) h7, fun q => absurd ((l8 (by omega)).mpr (by omega)) q⟩
  | succ k ih =>
    intro i σ hi h7 h
    unfold R_X4_spreadGoals_L2
    refine ⟨fun q => absurd ((l8 (by omega)).mp q) (by omega), fun _ => ⟨9, e_spL (G := σ 7) 8 0 σ rfl rfl (fun τ h1 h2 => ?_)⟩⟩
    rw [nI_1]
    refine ih (i + 1) τ (by omega) ?_ (fun ρ p1 p2 => h ρ (fun c hc => by rw [p1 c hc, h1 c hc]) ?_)
    · rw [h2, h1 5 (by decide), h1 6 (by decide), h7]
      rfl
    · rw [p2, h1 5 (by decide), h1 6 (by decide)]
theorem e_spread {K : pw_Mem → Prop} {σ : pw_Mem} (h : ∀ τ : pw_Mem, (∀ c, ¬ c = 7 → τ c = σ c) → τ 7 = sp (σ 5) (σ 6) 8 (σ 7) → K τ) : R_X4_spreadGoals σ K :=
  ⟨9, e_spR (G := σ 7) 8 0 σ rfl rfl h⟩
theorem m_lg1 {K : pw_Mem → Prop} {KX : Int32 → pw_Mem → Prop} : ∀ (k i : Nat) (σ : pw_Mem), i + k = 8 → (∀ j, j < i → σ 57 j = σ 55 j) → (∀ τ : pw_Mem, (∀ c, ¬ c = 57 → τ c = σ c) → (∀ j, j < 8 → τ 57 j = σ 55 j) → KX 8 τ) → R_X11_layGoals_L2 K KX (k + 1) (nI i) σ := by
  intro k
  induction k with
  | zero =>
    intro i σ hi h7 h
    have e : i = 8 := by omega
    subst e
    unfold R_X11_layGoals_L2
    exact ⟨fun _ => h σ (fun _ _ => rfl) h7, fun q => absurd ((l8 (by omega)).mpr (by omega)) q⟩
  | succ k ih =>
    intro i σ hi h7 h
    have hin : vp_in (nI i) 8 := vp_in_nI (by omega) (by decide)
    unfold R_X11_layGoals_L2
    refine ⟨fun q => absurd ((l8 (by omega)).mp q) (by omega), fun _ => ⟨hin, hin, ?_⟩⟩
    rw [cl_nI (by omega), nI_1]
    rintro _ rfl
    refine ih (i + 1) _ (by omega) (fun j hj => ?_) (fun τ h1 h2 => h τ (fun c hc => by rw [h1 c hc, pw_r hc]) (fun j hj => by rw [h2 j hj, pw_r (by decide)]))
    rw [pw_s, pw_r (by decide)]
    by_cases e : j = i
    · subst e; rw [upd_s]
    · rw [upd_n e]; exact h7 j (by omega)
theorem m_lgq {K : pw_Mem → Prop} {KX : Int32 → Int32 → Int32 → pw_Mem → Prop} {l1 : Int32} {p : Nat} (hp : p < 8) {G : Rows} : ∀ (k i : Nat) (σ : pw_Mem), i + k = 8 → σ 57 = gq (σ 56) p i G → (∀ τ : pw_Mem, (∀ c, ¬ c = 57 → τ c = σ c) → τ 57 = gq (σ 56) p 8 G → KX l1 (nI p) 8 τ) → R_X11_layGoals_L44 K KX (k + 1) l1 (nI p) (nI i) σ := by
  intro k
  induction k with
  | zero =>
    intro i σ hi h7 h
    have e : i = 8 := by omega
    subst e
    unfold R_X11_layGoals_L44
    exact ⟨fun _ => h σ (fun _ _ => rfl) h7, fun q => absurd ((l8 (by omega)).mpr (by omega)) q⟩
  | succ k ih =>
    intro i σ hi h7 h
    have hin : vp_in (nI i) 8 := vp_in_nI (by omega) (by decide)
    have hin2 : vp_in (nI p) 8 := vp_in_nI (by omega) (by decide)
    unfold R_X11_layGoals_L44
    refine ⟨fun q => absurd ((l8 (by omega)).mp q) (by omega), fun _ => ⟨hin2, hin2, ?_⟩⟩
    rw [cl_nI (by omega), cl_nI (by omega), nI_1, hb0 _ (show i < 32 by omega)]
    have nxt : ∀ v, v = (if bt (σ 56 p) i then σ 57 i else 0) → ∀ τ, τ = pw_up σ 57 p (σ 57 p ||| v) → R_X11_layGoals_L44 K KX (k + 1) l1 (nI p) (nI (i + 1)) τ := by
      rintro v hv _ rfl
      refine ih (i + 1) _ (by omega) ?_ (fun τ h1 h2 => h τ (fun c hc => by rw [h1 c hc, pw_r hc]) (by rw [h2, pw_r (by decide)]))
      rw [pw_s, pw_r (by decide), hv, h7]
      rfl
    by_cases hb1 : bt (σ 56 p) i = true
    · rw [if_pos hb1]
      exact ⟨fun q => absurd rfl q, fun _ => ⟨hin, hin2, fun τ hτ => nxt _ (by rw [if_pos hb1]) τ hτ⟩⟩
    · rw [if_neg hb1]
      exact ⟨fun _ => ⟨hin2, fun τ hτ => nxt _ (by rw [if_neg hb1]) τ hτ⟩, fun q => absurd q (by decide)⟩
theorem m_lgp {K : pw_Mem → Prop} {KX : Int32 → Int32 → pw_Mem → Prop} {l1 : Int32} {G : Rows} : ∀ (k i : Nat) (σ : pw_Mem), i + k = 8 → σ 57 = gp (σ 56) i G → (∀ τ : pw_Mem, (∀ c, ¬ c = 57 → τ c = σ c) → τ 57 = gp (σ 56) 8 G → KX l1 8 τ) → R_X11_layGoals_L36 K KX (k + 1) l1 (nI i) σ := by
  intro k
  induction k with
  | zero =>
    intro i σ hi h7 h
    have e : i = 8 := by omega
    subst e
    unfold R_X11_layGoals_L36
    exact ⟨fun _ => h σ (fun _ _ => rfl) h7, fun q => absurd ((l8 (by omega)).mpr (by omega)) q⟩
  | succ k ih =>
    intro i σ hi h7 h
    unfold R_X11_layGoals_L36
    refine ⟨fun q => absurd ((l8 (by omega)).mp q) (by omega), fun _ => ⟨9, m_lgq (p := i) (by omega) (G := σ 57) 8 0 σ rfl rfl (fun τ h1 h2 => ?_)⟩⟩
    rw [nI_1]
    refine ih (i + 1) τ (by omega) ?_ (fun ρ p1 p2 => h ρ (fun c hc => by rw [p1 c hc, h1 c hc]) (by rw [p2, h1 56 (by decide)]))
    rw [h2, h1 56 (by decide), h7]
    rfl
theorem m_lgr {K : pw_Mem → Prop} {KX : Int32 → pw_Mem → Prop} {G : Rows} : ∀ (k i : Nat) (σ : pw_Mem), i + k = 8 → σ 57 = gr (σ 56) i G → (∀ τ : pw_Mem, (∀ c, ¬ c = 57 → τ c = σ c) → τ 57 = gr (σ 56) 8 G → KX 8 τ) → R_X11_layGoals_L28 K KX (k + 1) (nI i) σ := by
  intro k
  induction k with
  | zero =>
    intro i σ hi h7 h
    have e : i = 8 := by omega
    subst e
    unfold R_X11_layGoals_L28
    exact ⟨fun _ => h σ (fun _ _ => rfl) h7, fun q => absurd ((l8 (by omega)).mpr (by omega)) q⟩
  | succ k ih =>
    intro i σ hi h7 h
    unfold R_X11_layGoals_L28
    refine ⟨fun q => absurd ((l8 (by omega)).mp q) (by omega), fun _ => ⟨9, m_lgp (G := σ 57) 8 0 σ rfl rfl (fun τ h1 h2 => ?_)⟩⟩
    rw [nI_1]
    refine ih (i + 1) τ (by omega) ?_ (fun ρ p1 p2 => h ρ (fun c hc => by rw [p1 c hc, h1 c hc]) (by rw [p2, h1 56 (by decide)]))
    rw [h2, h1 56 (by decide), h7]
    rfl
theorem m_layGoals {K : pw_Mem → Prop} {σ : pw_Mem} (h : ∀ τ : pw_Mem, (∀ c, ¬ c = 57 → τ c = σ c) → (∀ p, p < 8 → τ 57 p = gl (σ 55) (σ 56) p) → K τ) : R_X11_layGoals σ K := by
  refine ⟨9, m_lg1 8 0 σ rfl (fun j hj => by omega) (fun τ h1 h2 => ⟨9, m_lgr (G := τ 57) 8 0 τ rfl rfl (fun ρ p1 p2 => h ρ (fun c hc => by rw [p1 c hc, h1 c hc]) (fun p hp => ?_))⟩)⟩
  rw [p2, h1 56 (by decide)]
  exact gr_cg (fun _ _ => rfl) h2 8 p hp
