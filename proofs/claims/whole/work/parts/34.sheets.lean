/-! sheets: made, laid -/
theorem l60 {i : Nat} (h : i ≤ 60) : (60 : Int32) ≤ nI i ↔ 60 ≤ i := nI_leI (a := 60) (by decide) (by omega)
theorem ix60 (s i : Nat) : (60 * nI s) + nI i = nI (60 * s + i) := by
  have h := pk_mul 60 s
  have e : (60 : Int32) = nI 60 := rfl
  rw [e, h, nI_add]
theorem I_s1.oth {k s : Nat} {la le v w : Int32} {ce la' le' ce' ce2 : Rows} (h : I_s1 k la le ce la' le' ce') (hk : ¬ k = s) (hc : ∀ i, i < 60 → ce2 (60 * k + i) = ce' (60 * k + i)) : I_s1 k la le ce (upd la' s v) (upd le' s w) ce2 := by
  obtain ⟨h1, h2⟩ := h
  refine ⟨?_, fun i hi => by rw [hc i hi]; exact h2 i hi⟩
  rw [upd_n hk, upd_n hk]
  exact h1
theorem I_s1.oth2 {k : Nat} {la le : Int32} {ce la' le' ce' ce2 : Rows} (h : I_s1 k la le ce la' le' ce') (hc : ∀ i, i < 60 → ce2 (60 * k + i) = ce' (60 * k + i)) : I_s1 k la le ce la' le' ce2 :=
  ⟨h.1, fun i hi => by rw [hc i hi]; exact h.2 i hi⟩
theorem m_sheetL {K : Int32 → pw_Mem → Prop} {KX : Int32 → Int32 → Int32 → Int32 → pw_Mem → Prop} {l2 l3 : Int32} {s : Nat} (hs : s < 4) : ∀ (k i : Nat) (σ : pw_Mem), i + k = 60 → (∀ τ, (∀ c, ¬ c = 76 → τ c = σ c) → (∀ j, i ≤ j → j < 60 → τ 76 (60 * s + j) = 0) → (∀ j, j < 60 * s + i ∨ 60 * s + 60 ≤ j → τ 76 j = σ 76 j) → KX (nI s) l2 l3 60 τ) → R_X11_sheet_L56 K KX (k + 1) (nI s) l2 l3 (nI i) σ := by
  intro k
  induction k with
  | zero =>
    intro i σ hi h
    have e : i = 60 := by omega
    subst e
    unfold R_X11_sheet_L56
    refine ⟨fun _ => h σ (fun _ _ => rfl) (fun j h1 h2 => by omega) (fun _ _ => rfl), fun q => absurd ((l60 (by omega)).mpr (by omega)) q⟩
  | succ k ih =>
    intro i σ hi h
    unfold R_X11_sheet_L56
    refine ⟨fun q => absurd ((l60 (by omega)).mp q) (by omega), fun _ => ?_⟩
    rw [ix60]
    refine ⟨vp_in_nI (by omega) (by decide), ?_⟩
    rintro _ rfl
    rw [cl_nI (by omega), nI_1]
    refine ih (i + 1) _ (by omega) (fun τ h1 h2 h3 => h τ (fun c hc => by rw [h1 c hc, pw_r hc]) (fun j hj hj2 => ?_) (fun j hj => ?_))
    · by_cases e : j = i
      · subst e
        rw [h3 (60 * s + j) (by omega), pw_s, upd_s]
      · exact h2 j (by omega) hj2
    · rw [h3 j (by omega), pw_s, upd_n (by omega)]
theorem m_sheet {K : Int32 → pw_Mem → Prop} {s m len : Nat} {σ : pw_Mem} (hs : s < 4) (hm : m < 3) (hl : len ≤ 60) (h : ∀ ρ : pw_Mem, (∀ k, ¬ k = 74 → ¬ k = 75 → ¬ k = 76 → ρ k = σ k) → ρ 74 = upd (σ 74) s (nI m) → ρ 75 = upd (σ 75) s (nI len) → (∀ i, i < 60 → ρ 76 (60 * s + i) = 0) → (∀ j, j < 60 * s ∨ 60 * s + 60 ≤ j → ρ 76 j = σ 76 j) → K 1 ρ) : R_X11_sheet (nI s) (nI m) (nI len) σ K := by
  unfold R_X11_sheet
  refine e_rgM 3 rfl (by decide) (fun _ => ⟨fun q => absurd q n01, fun _ => ?_⟩) (fun h9 => absurd ⟨s, by omega, rfl⟩ h9)
  refine e_rgM 2 rfl (by decide) (fun _ => ⟨fun q => absurd q n01, fun _ => ⟨fun _ => ⟨fun _ => ⟨vp_in_nI hs (by decide), ?_⟩, fun q => absurd (nI_pos' (by omega)) q⟩, fun q => ?_⟩⟩) (fun h9 => absurd ⟨m, by omega, rfl⟩ h9)
  · rintro _ rfl
    refine ⟨vp_in_nI hs (by decide), ?_⟩
    rintro _ rfl
    rw [cl_nI (by omega)]
    refine ⟨61, m_sheetL hs 60 0 _ rfl (fun τ h1 h2 h3 => h τ (fun k k1 k2 k3 => ?_) ?_ ?_ (fun i hi => h2 i (Nat.zero_le _) hi) (fun j hj => ?_))⟩
    · rw [h1 k k3, pw_r k2, pw_r k1]
    · rw [h1 74 (by decide), pw_r (by decide), pw_s]
    · rw [h1 75 (by decide), pw_s, pw_r (by decide)]
    · rw [h3 j (by omega), pw_r (by decide), pw_r (by decide)]
  · exact absurd ((nI_leI (b := 60) (by omega) (by decide)).mpr hl) q
theorem e_makeL41 {K : pw_Mem → Prop} {KX : Int32 → Int32 → Int32 → pw_Mem → Prop} {l1 l2 : Int32} : ∀ (k i : Nat) (σ : pw_Mem), i + k = 60 → (∀ τ, (∀ c, ¬ c = 42 → τ c = σ c) → (∀ j, i ≤ j → j < 60 → τ 42 j = 0) → (∀ j, j < i → τ 42 j = σ 42 j) → KX l1 l2 60 τ) → R_X7_makeNew_at41_L12 K KX (k + 1) l1 l2 (nI i) σ := by
  intro k
  induction k with
  | zero =>
    intro i σ hi h
    have e : i = 60 := by omega
    subst e
    unfold R_X7_makeNew_at41_L12
    refine ⟨fun _ => h σ (fun _ _ => rfl) (fun j h1 h2 => by omega) (fun _ _ => rfl), fun q => absurd ((l60 (by omega)).mpr (by omega)) q⟩
  | succ k ih =>
    intro i σ hi h
    unfold R_X7_makeNew_at41_L12
    refine ⟨fun q => absurd ((l60 (by omega)).mp q) (by omega), fun _ => ⟨vp_in_nI (by omega) (by decide), ?_⟩⟩
    rintro _ rfl
    rw [cl_nI (by omega), nI_1]
    refine ih (i + 1) _ (by omega) (fun τ h1 h2 h3 => h τ (fun c hc => by rw [h1 c hc, pw_r hc]) (fun j hj hj2 => ?_) (fun j hj => ?_))
    · by_cases e : j = i
      · subst e
        rw [h3 j (by omega), pw_s, upd_s]
      · exact h2 j (by omega) hj2
    · rw [h3 j (by omega), pw_s, upd_n (by omega)]
theorem e_make41 {K : pw_Mem → Prop} {a b : Int32} {σ : pw_Mem} (h : ∀ τ : pw_Mem, (∀ k, ¬ k = 41 → ¬ k = 42 → τ k = σ k) → τ 41 = upd (upd (σ 41) 1 a) 2 b → (∀ i, i < 60 → τ 42 i = 0) → K τ) : R_X7_makeNew_at41 a b σ K := by
  unfold R_X7_makeNew_at41
  rintro _ rfl _ rfl
  refine ⟨61, e_makeL41 60 0 _ rfl (fun τ h1 h2 _ => h τ (fun k k1 k2 => ?_) ?_ (fun i hi => h2 i (Nat.zero_le _) hi))⟩
  · rw [h1 k k2, pw_r k1, pw_r k1]
  · rw [h1 41 (by decide), pw_s, pw_s]
theorem e_makeL43 {K : pw_Mem → Prop} {KX : Int32 → Int32 → Int32 → pw_Mem → Prop} {l1 l2 : Int32} : ∀ (k i : Nat) (σ : pw_Mem), i + k = 60 → (∀ τ, (∀ c, ¬ c = 44 → τ c = σ c) → (∀ j, i ≤ j → j < 60 → τ 44 j = 0) → (∀ j, j < i → τ 44 j = σ 44 j) → KX l1 l2 60 τ) → R_X7_makeNew_at43_L12 K KX (k + 1) l1 l2 (nI i) σ := by
  intro k
  induction k with
  | zero =>
    intro i σ hi h
    have e : i = 60 := by omega
    subst e
    unfold R_X7_makeNew_at43_L12
    refine ⟨fun _ => h σ (fun _ _ => rfl) (fun j h1 h2 => by omega) (fun _ _ => rfl), fun q => absurd ((l60 (by omega)).mpr (by omega)) q⟩
  | succ k ih =>
    intro i σ hi h
    unfold R_X7_makeNew_at43_L12
    refine ⟨fun q => absurd ((l60 (by omega)).mp q) (by omega), fun _ => ⟨vp_in_nI (by omega) (by decide), ?_⟩⟩
    rintro _ rfl
    rw [cl_nI (by omega), nI_1]
    refine ih (i + 1) _ (by omega) (fun τ h1 h2 h3 => h τ (fun c hc => by rw [h1 c hc, pw_r hc]) (fun j hj hj2 => ?_) (fun j hj => ?_))
    · by_cases e : j = i
      · subst e
        rw [h3 j (by omega), pw_s, upd_s]
      · exact h2 j (by omega) hj2
    · rw [h3 j (by omega), pw_s, upd_n (by omega)]
theorem e_make43 {K : pw_Mem → Prop} {a b : Int32} {σ : pw_Mem} (h : ∀ τ : pw_Mem, (∀ k, ¬ k = 43 → ¬ k = 44 → τ k = σ k) → τ 43 = upd (upd (σ 43) 1 a) 2 b → (∀ i, i < 60 → τ 44 i = 0) → K τ) : R_X7_makeNew_at43 a b σ K := by
  unfold R_X7_makeNew_at43
  rintro _ rfl _ rfl
  refine ⟨61, e_makeL43 60 0 _ rfl (fun τ h1 h2 _ => h τ (fun k k1 k2 => ?_) ?_ (fun i hi => h2 i (Nat.zero_le _) hi))⟩
  · rw [h1 k k2, pw_r k1, pw_r k1]
  · rw [h1 43 (by decide), pw_s, pw_s]
theorem e_makeL45 {K : pw_Mem → Prop} {KX : Int32 → Int32 → Int32 → pw_Mem → Prop} {l1 l2 : Int32} : ∀ (k i : Nat) (σ : pw_Mem), i + k = 60 → (∀ τ, (∀ c, ¬ c = 46 → τ c = σ c) → (∀ j, i ≤ j → j < 60 → τ 46 j = 0) → (∀ j, j < i → τ 46 j = σ 46 j) → KX l1 l2 60 τ) → R_X7_makeNew_at45_L12 K KX (k + 1) l1 l2 (nI i) σ := by
  intro k
  induction k with
  | zero =>
    intro i σ hi h
    have e : i = 60 := by omega
    subst e
    unfold R_X7_makeNew_at45_L12
    refine ⟨fun _ => h σ (fun _ _ => rfl) (fun j h1 h2 => by omega) (fun _ _ => rfl), fun q => absurd ((l60 (by omega)).mpr (by omega)) q⟩
  | succ k ih =>
    intro i σ hi h
    unfold R_X7_makeNew_at45_L12
    refine ⟨fun q => absurd ((l60 (by omega)).mp q) (by omega), fun _ => ⟨vp_in_nI (by omega) (by decide), ?_⟩⟩
    rintro _ rfl
    rw [cl_nI (by omega), nI_1]
    refine ih (i + 1) _ (by omega) (fun τ h1 h2 h3 => h τ (fun c hc => by rw [h1 c hc, pw_r hc]) (fun j hj hj2 => ?_) (fun j hj => ?_))
    · by_cases e : j = i
      · subst e
        rw [h3 j (by omega), pw_s, upd_s]
      · exact h2 j (by omega) hj2
    · rw [h3 j (by omega), pw_s, upd_n (by omega)]
theorem e_make45 {K : pw_Mem → Prop} {a b : Int32} {σ : pw_Mem} (h : ∀ τ : pw_Mem, (∀ k, ¬ k = 45 → ¬ k = 46 → τ k = σ k) → τ 45 = upd (upd (σ 45) 1 a) 2 b → (∀ i, i < 60 → τ 46 i = 0) → K τ) : R_X7_makeNew_at45 a b σ K := by
  unfold R_X7_makeNew_at45
  rintro _ rfl _ rfl
  refine ⟨61, e_makeL45 60 0 _ rfl (fun τ h1 h2 _ => h τ (fun k k1 k2 => ?_) ?_ (fun i hi => h2 i (Nat.zero_le _) hi))⟩
  · rw [h1 k k2, pw_r k1, pw_r k1]
  · rw [h1 45 (by decide), pw_s, pw_s]
theorem e_makeL47 {K : pw_Mem → Prop} {KX : Int32 → Int32 → Int32 → pw_Mem → Prop} {l1 l2 : Int32} : ∀ (k i : Nat) (σ : pw_Mem), i + k = 60 → (∀ τ, (∀ c, ¬ c = 48 → τ c = σ c) → (∀ j, i ≤ j → j < 60 → τ 48 j = 0) → (∀ j, j < i → τ 48 j = σ 48 j) → KX l1 l2 60 τ) → R_X7_makeNew_at47_L12 K KX (k + 1) l1 l2 (nI i) σ := by
  intro k
  induction k with
  | zero =>
    intro i σ hi h
    have e : i = 60 := by omega
    subst e
    unfold R_X7_makeNew_at47_L12
    refine ⟨fun _ => h σ (fun _ _ => rfl) (fun j h1 h2 => by omega) (fun _ _ => rfl), fun q => absurd ((l60 (by omega)).mpr (by omega)) q⟩
  | succ k ih =>
    intro i σ hi h
    unfold R_X7_makeNew_at47_L12
    refine ⟨fun q => absurd ((l60 (by omega)).mp q) (by omega), fun _ => ⟨vp_in_nI (by omega) (by decide), ?_⟩⟩
    rintro _ rfl
    rw [cl_nI (by omega), nI_1]
    refine ih (i + 1) _ (by omega) (fun τ h1 h2 h3 => h τ (fun c hc => by rw [h1 c hc, pw_r hc]) (fun j hj hj2 => ?_) (fun j hj => ?_))
    · by_cases e : j = i
      · subst e
        rw [h3 j (by omega), pw_s, upd_s]
      · exact h2 j (by omega) hj2
    · rw [h3 j (by omega), pw_s, upd_n (by omega)]
theorem e_make47 {K : pw_Mem → Prop} {a b : Int32} {σ : pw_Mem} (h : ∀ τ : pw_Mem, (∀ k, ¬ k = 47 → ¬ k = 48 → τ k = σ k) → τ 47 = upd (upd (σ 47) 1 a) 2 b → (∀ i, i < 60 → τ 48 i = 0) → K τ) : R_X7_makeNew_at47 a b σ K := by
  unfold R_X7_makeNew_at47
  rintro _ rfl _ rfl
  refine ⟨61, e_makeL47 60 0 _ rfl (fun τ h1 h2 _ => h τ (fun k k1 k2 => ?_) ?_ (fun i hi => h2 i (Nat.zero_le _) hi))⟩
  · rw [h1 k k2, pw_r k1, pw_r k1]
  · rw [h1 47 (by decide), pw_s, pw_s]
theorem o_sheet {a b e : Int32} {σ : pw_Mem} (h : Inv σ) : R_X10_sheet a b e σ (fun x τ => R_X11_sheet a b e τ (fun y ρ => Nx x y ρ)) := by
  have hI := h
  obtain ⟨n, c, ni, nt, hrt, hcl, hpt, hit, htk, hsh, hrn, ⟨hs0, hs1, hs2, hs3⟩, hgr⟩ := h
  unfold R_X10_sheet
  refine e_isS (fun hv => ⟨fun q => absurd q n01, fun _ => ?_⟩) (fun hv => ⟨fun _ => ?_, fun q => absurd rfl q⟩)
  · refine e_isL (fun hu => ⟨fun q => absurd q n01, fun _ => ⟨fun q1 => ⟨fun q2 => ?_, fun q2 => ?_⟩, fun q1 => ?_⟩⟩) (fun hu => ⟨fun _ => ?_, fun q => absurd rfl q⟩)
    · obtain ⟨len, hl, rfl⟩ := nI_of2 (M := 60) (n := 60) rfl (fun z => absurd q2 (Int32.not_le.mpr z)) q1
      obtain ⟨s, hs, rfl⟩ := hv
      obtain ⟨m, hm, rfl⟩ := hu
      match s, hs with
      | 0, hs =>
        refine ⟨Or.inl rfl, fun _ => ?_, fun q => absurd q (by decide), fun q => absurd q (by decide), fun q => absurd q (by decide)⟩
        refine e_make41 (fun τ t1 t2 t3 => m_sheet (s := 0) (by decide) hm hl (fun ρ p1 p2 p3 p4 p5 => ⟨rfl, n, c, ni, nt, ?_⟩))
        have all : ∀ k, ¬ k = 74 → ¬ k = 75 → ¬ k = 76 → ¬ k = 41 → ¬ k = 42 → ρ k = σ k := fun k k1 k2 k3 k4 k5 => (p1 k k1 k2 k3).trans (t1 k k4 k5)
        unfold Inv4
        rw [p2, p3, p1 41 (by decide) (by decide) (by decide), p1 42 (by decide) (by decide) (by decide), t2, t1 74 (by decide) (by decide), t1 75 (by decide) (by decide)]
        simp only [all 1 (by decide) (by decide) (by decide) (by decide) (by decide), all 2 (by decide) (by decide) (by decide) (by decide) (by decide), all 3 (by decide) (by decide) (by decide) (by decide) (by decide), all 49 (by decide) (by decide) (by decide) (by decide) (by decide), all 50 (by decide) (by decide) (by decide) (by decide) (by decide), all 51 (by decide) (by decide) (by decide) (by decide) (by decide), all 8 (by decide) (by decide) (by decide) (by decide) (by decide), all 10 (by decide) (by decide) (by decide) (by decide) (by decide), all 11 (by decide) (by decide) (by decide) (by decide) (by decide), all 12 (by decide) (by decide) (by decide) (by decide) (by decide), all 13 (by decide) (by decide) (by decide) (by decide) (by decide), all 52 (by decide) (by decide) (by decide) (by decide) (by decide), all 53 (by decide) (by decide) (by decide) (by decide) (by decide), all 54 (by decide) (by decide) (by decide) (by decide) (by decide), all 5 (by decide) (by decide) (by decide) (by decide) (by decide), all 6 (by decide) (by decide) (by decide) (by decide) (by decide), all 7 (by decide) (by decide) (by decide) (by decide) (by decide), all 55 (by decide) (by decide) (by decide) (by decide) (by decide), all 56 (by decide) (by decide) (by decide) (by decide) (by decide), all 22 (by decide) (by decide) (by decide) (by decide) (by decide), all 23 (by decide) (by decide) (by decide) (by decide) (by decide), all 24 (by decide) (by decide) (by decide) (by decide) (by decide), all 25 (by decide) (by decide) (by decide) (by decide) (by decide), all 63 (by decide) (by decide) (by decide) (by decide) (by decide), all 64 (by decide) (by decide) (by decide) (by decide) (by decide), all 65 (by decide) (by decide) (by decide) (by decide) (by decide), all 26 (by decide) (by decide) (by decide) (by decide) (by decide), all 27 (by decide) (by decide) (by decide) (by decide) (by decide), all 28 (by decide) (by decide) (by decide) (by decide) (by decide), all 29 (by decide) (by decide) (by decide) (by decide) (by decide), all 30 (by decide) (by decide) (by decide) (by decide) (by decide), all 66 (by decide) (by decide) (by decide) (by decide) (by decide), all 67 (by decide) (by decide) (by decide) (by decide) (by decide), all 68 (by decide) (by decide) (by decide) (by decide) (by decide), all 69 (by decide) (by decide) (by decide) (by decide) (by decide), all 35 (by decide) (by decide) (by decide) (by decide) (by decide), all 36 (by decide) (by decide) (by decide) (by decide) (by decide), all 37 (by decide) (by decide) (by decide) (by decide) (by decide), all 38 (by decide) (by decide) (by decide) (by decide) (by decide), all 39 (by decide) (by decide) (by decide) (by decide) (by decide), all 72 (by decide) (by decide) (by decide) (by decide) (by decide), all 73 (by decide) (by decide) (by decide) (by decide) (by decide), all 14 (by decide) (by decide) (by decide) (by decide) (by decide), all 15 (by decide) (by decide) (by decide) (by decide) (by decide), all 16 (by decide) (by decide) (by decide) (by decide) (by decide), all 17 (by decide) (by decide) (by decide) (by decide) (by decide), all 18 (by decide) (by decide) (by decide) (by decide) (by decide), all 19 (by decide) (by decide) (by decide) (by decide) (by decide), all 43 (by decide) (by decide) (by decide) (by decide) (by decide), all 44 (by decide) (by decide) (by decide) (by decide) (by decide), all 45 (by decide) (by decide) (by decide) (by decide) (by decide), all 46 (by decide) (by decide) (by decide) (by decide) (by decide), all 47 (by decide) (by decide) (by decide) (by decide) (by decide), all 48 (by decide) (by decide) (by decide) (by decide) (by decide)]
        have c76 : ∀ k i, ¬ k = 0 → i < 60 → ρ 76 (60 * k + i) = σ 76 (60 * k + i) := fun k i hk hi => by rw [p5 _ (by omega), t1 76 (by decide) (by decide)]
        have hnew : I_s1 0 (upd (upd (σ 41) 1 (nI m)) 2 (nI len) 1) (upd (upd (σ 41) 1 (nI m)) 2 (nI len) 2) (τ 42) (upd (σ 74) 0 (nI m)) (upd (σ 75) 0 (nI len)) (ρ 76) := ⟨Or.inr ⟨len, m, hl, hm, upd_s _ _ _, upd_s _ _ _, by rw [upd_n (by decide), upd_s], upd_s _ _ _⟩, fun i hi => by rw [t3 i hi, p4 i hi]⟩
        exact ⟨hrt, hcl, hpt, hit, htk, hsh, hrn, ⟨hnew, hs1.oth (by decide) (fun i hi => c76 1 i (by decide) hi), hs2.oth (by decide) (fun i hi => c76 2 i (by decide) hi), hs3.oth (by decide) (fun i hi => c76 3 i (by decide) hi)⟩, hgr⟩
      | 1, hs =>
        refine ⟨Or.inr (Or.inl rfl), fun q => absurd q (by decide), fun _ => ?_, fun q => absurd q (by decide), fun q => absurd q (by decide)⟩
        refine e_make43 (fun τ t1 t2 t3 => m_sheet (s := 1) (by decide) hm hl (fun ρ p1 p2 p3 p4 p5 => ⟨rfl, n, c, ni, nt, ?_⟩))
        have all : ∀ k, ¬ k = 74 → ¬ k = 75 → ¬ k = 76 → ¬ k = 43 → ¬ k = 44 → ρ k = σ k := fun k k1 k2 k3 k4 k5 => (p1 k k1 k2 k3).trans (t1 k k4 k5)
        unfold Inv4
        rw [p2, p3, p1 43 (by decide) (by decide) (by decide), p1 44 (by decide) (by decide) (by decide), t2, t1 74 (by decide) (by decide), t1 75 (by decide) (by decide)]
        simp only [all 1 (by decide) (by decide) (by decide) (by decide) (by decide), all 2 (by decide) (by decide) (by decide) (by decide) (by decide), all 3 (by decide) (by decide) (by decide) (by decide) (by decide), all 49 (by decide) (by decide) (by decide) (by decide) (by decide), all 50 (by decide) (by decide) (by decide) (by decide) (by decide), all 51 (by decide) (by decide) (by decide) (by decide) (by decide), all 8 (by decide) (by decide) (by decide) (by decide) (by decide), all 10 (by decide) (by decide) (by decide) (by decide) (by decide), all 11 (by decide) (by decide) (by decide) (by decide) (by decide), all 12 (by decide) (by decide) (by decide) (by decide) (by decide), all 13 (by decide) (by decide) (by decide) (by decide) (by decide), all 52 (by decide) (by decide) (by decide) (by decide) (by decide), all 53 (by decide) (by decide) (by decide) (by decide) (by decide), all 54 (by decide) (by decide) (by decide) (by decide) (by decide), all 5 (by decide) (by decide) (by decide) (by decide) (by decide), all 6 (by decide) (by decide) (by decide) (by decide) (by decide), all 7 (by decide) (by decide) (by decide) (by decide) (by decide), all 55 (by decide) (by decide) (by decide) (by decide) (by decide), all 56 (by decide) (by decide) (by decide) (by decide) (by decide), all 22 (by decide) (by decide) (by decide) (by decide) (by decide), all 23 (by decide) (by decide) (by decide) (by decide) (by decide), all 24 (by decide) (by decide) (by decide) (by decide) (by decide), all 25 (by decide) (by decide) (by decide) (by decide) (by decide), all 63 (by decide) (by decide) (by decide) (by decide) (by decide), all 64 (by decide) (by decide) (by decide) (by decide) (by decide), all 65 (by decide) (by decide) (by decide) (by decide) (by decide), all 26 (by decide) (by decide) (by decide) (by decide) (by decide), all 27 (by decide) (by decide) (by decide) (by decide) (by decide), all 28 (by decide) (by decide) (by decide) (by decide) (by decide), all 29 (by decide) (by decide) (by decide) (by decide) (by decide), all 30 (by decide) (by decide) (by decide) (by decide) (by decide), all 66 (by decide) (by decide) (by decide) (by decide) (by decide), all 67 (by decide) (by decide) (by decide) (by decide) (by decide), all 68 (by decide) (by decide) (by decide) (by decide) (by decide), all 69 (by decide) (by decide) (by decide) (by decide) (by decide), all 35 (by decide) (by decide) (by decide) (by decide) (by decide), all 36 (by decide) (by decide) (by decide) (by decide) (by decide), all 37 (by decide) (by decide) (by decide) (by decide) (by decide), all 38 (by decide) (by decide) (by decide) (by decide) (by decide), all 39 (by decide) (by decide) (by decide) (by decide) (by decide), all 72 (by decide) (by decide) (by decide) (by decide) (by decide), all 73 (by decide) (by decide) (by decide) (by decide) (by decide), all 14 (by decide) (by decide) (by decide) (by decide) (by decide), all 15 (by decide) (by decide) (by decide) (by decide) (by decide), all 16 (by decide) (by decide) (by decide) (by decide) (by decide), all 17 (by decide) (by decide) (by decide) (by decide) (by decide), all 18 (by decide) (by decide) (by decide) (by decide) (by decide), all 19 (by decide) (by decide) (by decide) (by decide) (by decide), all 41 (by decide) (by decide) (by decide) (by decide) (by decide), all 42 (by decide) (by decide) (by decide) (by decide) (by decide), all 45 (by decide) (by decide) (by decide) (by decide) (by decide), all 46 (by decide) (by decide) (by decide) (by decide) (by decide), all 47 (by decide) (by decide) (by decide) (by decide) (by decide), all 48 (by decide) (by decide) (by decide) (by decide) (by decide)]
        have c76 : ∀ k i, ¬ k = 1 → i < 60 → ρ 76 (60 * k + i) = σ 76 (60 * k + i) := fun k i hk hi => by rw [p5 _ (by omega), t1 76 (by decide) (by decide)]
        have hnew : I_s1 1 (upd (upd (σ 43) 1 (nI m)) 2 (nI len) 1) (upd (upd (σ 43) 1 (nI m)) 2 (nI len) 2) (τ 44) (upd (σ 74) 1 (nI m)) (upd (σ 75) 1 (nI len)) (ρ 76) := ⟨Or.inr ⟨len, m, hl, hm, upd_s _ _ _, upd_s _ _ _, by rw [upd_n (by decide), upd_s], upd_s _ _ _⟩, fun i hi => by rw [t3 i hi, p4 i hi]⟩
        exact ⟨hrt, hcl, hpt, hit, htk, hsh, hrn, ⟨hs0.oth (by decide) (fun i hi => c76 0 i (by decide) hi), hnew, hs2.oth (by decide) (fun i hi => c76 2 i (by decide) hi), hs3.oth (by decide) (fun i hi => c76 3 i (by decide) hi)⟩, hgr⟩
      | 2, hs =>
        refine ⟨Or.inr (Or.inr (Or.inl rfl)), fun q => absurd q (by decide), fun q => absurd q (by decide), fun _ => ?_, fun q => absurd q (by decide)⟩
        refine e_make45 (fun τ t1 t2 t3 => m_sheet (s := 2) (by decide) hm hl (fun ρ p1 p2 p3 p4 p5 => ⟨rfl, n, c, ni, nt, ?_⟩))
        have all : ∀ k, ¬ k = 74 → ¬ k = 75 → ¬ k = 76 → ¬ k = 45 → ¬ k = 46 → ρ k = σ k := fun k k1 k2 k3 k4 k5 => (p1 k k1 k2 k3).trans (t1 k k4 k5)
        unfold Inv4
        rw [p2, p3, p1 45 (by decide) (by decide) (by decide), p1 46 (by decide) (by decide) (by decide), t2, t1 74 (by decide) (by decide), t1 75 (by decide) (by decide)]
        simp only [all 1 (by decide) (by decide) (by decide) (by decide) (by decide), all 2 (by decide) (by decide) (by decide) (by decide) (by decide), all 3 (by decide) (by decide) (by decide) (by decide) (by decide), all 49 (by decide) (by decide) (by decide) (by decide) (by decide), all 50 (by decide) (by decide) (by decide) (by decide) (by decide), all 51 (by decide) (by decide) (by decide) (by decide) (by decide), all 8 (by decide) (by decide) (by decide) (by decide) (by decide), all 10 (by decide) (by decide) (by decide) (by decide) (by decide), all 11 (by decide) (by decide) (by decide) (by decide) (by decide), all 12 (by decide) (by decide) (by decide) (by decide) (by decide), all 13 (by decide) (by decide) (by decide) (by decide) (by decide), all 52 (by decide) (by decide) (by decide) (by decide) (by decide), all 53 (by decide) (by decide) (by decide) (by decide) (by decide), all 54 (by decide) (by decide) (by decide) (by decide) (by decide), all 5 (by decide) (by decide) (by decide) (by decide) (by decide), all 6 (by decide) (by decide) (by decide) (by decide) (by decide), all 7 (by decide) (by decide) (by decide) (by decide) (by decide), all 55 (by decide) (by decide) (by decide) (by decide) (by decide), all 56 (by decide) (by decide) (by decide) (by decide) (by decide), all 22 (by decide) (by decide) (by decide) (by decide) (by decide), all 23 (by decide) (by decide) (by decide) (by decide) (by decide), all 24 (by decide) (by decide) (by decide) (by decide) (by decide), all 25 (by decide) (by decide) (by decide) (by decide) (by decide), all 63 (by decide) (by decide) (by decide) (by decide) (by decide), all 64 (by decide) (by decide) (by decide) (by decide) (by decide), all 65 (by decide) (by decide) (by decide) (by decide) (by decide), all 26 (by decide) (by decide) (by decide) (by decide) (by decide), all 27 (by decide) (by decide) (by decide) (by decide) (by decide), all 28 (by decide) (by decide) (by decide) (by decide) (by decide), all 29 (by decide) (by decide) (by decide) (by decide) (by decide), all 30 (by decide) (by decide) (by decide) (by decide) (by decide), all 66 (by decide) (by decide) (by decide) (by decide) (by decide), all 67 (by decide) (by decide) (by decide) (by decide) (by decide), all 68 (by decide) (by decide) (by decide) (by decide) (by decide), all 69 (by decide) (by decide) (by decide) (by decide) (by decide), all 35 (by decide) (by decide) (by decide) (by decide) (by decide), all 36 (by decide) (by decide) (by decide) (by decide) (by decide), all 37 (by decide) (by decide) (by decide) (by decide) (by decide), all 38 (by decide) (by decide) (by decide) (by decide) (by decide), all 39 (by decide) (by decide) (by decide) (by decide) (by decide), all 72 (by decide) (by decide) (by decide) (by decide) (by decide), all 73 (by decide) (by decide) (by decide) (by decide) (by decide), all 14 (by decide) (by decide) (by decide) (by decide) (by decide), all 15 (by decide) (by decide) (by decide) (by decide) (by decide), all 16 (by decide) (by decide) (by decide) (by decide) (by decide), all 17 (by decide) (by decide) (by decide) (by decide) (by decide), all 18 (by decide) (by decide) (by decide) (by decide) (by decide), all 19 (by decide) (by decide) (by decide) (by decide) (by decide), all 41 (by decide) (by decide) (by decide) (by decide) (by decide), all 42 (by decide) (by decide) (by decide) (by decide) (by decide), all 43 (by decide) (by decide) (by decide) (by decide) (by decide), all 44 (by decide) (by decide) (by decide) (by decide) (by decide), all 47 (by decide) (by decide) (by decide) (by decide) (by decide), all 48 (by decide) (by decide) (by decide) (by decide) (by decide)]
        have c76 : ∀ k i, ¬ k = 2 → i < 60 → ρ 76 (60 * k + i) = σ 76 (60 * k + i) := fun k i hk hi => by rw [p5 _ (by omega), t1 76 (by decide) (by decide)]
        have hnew : I_s1 2 (upd (upd (σ 45) 1 (nI m)) 2 (nI len) 1) (upd (upd (σ 45) 1 (nI m)) 2 (nI len) 2) (τ 46) (upd (σ 74) 2 (nI m)) (upd (σ 75) 2 (nI len)) (ρ 76) := ⟨Or.inr ⟨len, m, hl, hm, upd_s _ _ _, upd_s _ _ _, by rw [upd_n (by decide), upd_s], upd_s _ _ _⟩, fun i hi => by rw [t3 i hi, p4 i hi]⟩
        exact ⟨hrt, hcl, hpt, hit, htk, hsh, hrn, ⟨hs0.oth (by decide) (fun i hi => c76 0 i (by decide) hi), hs1.oth (by decide) (fun i hi => c76 1 i (by decide) hi), hnew, hs3.oth (by decide) (fun i hi => c76 3 i (by decide) hi)⟩, hgr⟩
      | 3, hs =>
        refine ⟨Or.inr (Or.inr (Or.inr rfl)), fun q => absurd q (by decide), fun q => absurd q (by decide), fun q => absurd q (by decide), fun _ => ?_⟩
        refine e_make47 (fun τ t1 t2 t3 => m_sheet (s := 3) (by decide) hm hl (fun ρ p1 p2 p3 p4 p5 => ⟨rfl, n, c, ni, nt, ?_⟩))
        have all : ∀ k, ¬ k = 74 → ¬ k = 75 → ¬ k = 76 → ¬ k = 47 → ¬ k = 48 → ρ k = σ k := fun k k1 k2 k3 k4 k5 => (p1 k k1 k2 k3).trans (t1 k k4 k5)
        unfold Inv4
        rw [p2, p3, p1 47 (by decide) (by decide) (by decide), p1 48 (by decide) (by decide) (by decide), t2, t1 74 (by decide) (by decide), t1 75 (by decide) (by decide)]
        simp only [all 1 (by decide) (by decide) (by decide) (by decide) (by decide), all 2 (by decide) (by decide) (by decide) (by decide) (by decide), all 3 (by decide) (by decide) (by decide) (by decide) (by decide), all 49 (by decide) (by decide) (by decide) (by decide) (by decide), all 50 (by decide) (by decide) (by decide) (by decide) (by decide), all 51 (by decide) (by decide) (by decide) (by decide) (by decide), all 8 (by decide) (by decide) (by decide) (by decide) (by decide), all 10 (by decide) (by decide) (by decide) (by decide) (by decide), all 11 (by decide) (by decide) (by decide) (by decide) (by decide), all 12 (by decide) (by decide) (by decide) (by decide) (by decide), all 13 (by decide) (by decide) (by decide) (by decide) (by decide), all 52 (by decide) (by decide) (by decide) (by decide) (by decide), all 53 (by decide) (by decide) (by decide) (by decide) (by decide), all 54 (by decide) (by decide) (by decide) (by decide) (by decide), all 5 (by decide) (by decide) (by decide) (by decide) (by decide), all 6 (by decide) (by decide) (by decide) (by decide) (by decide), all 7 (by decide) (by decide) (by decide) (by decide) (by decide), all 55 (by decide) (by decide) (by decide) (by decide) (by decide), all 56 (by decide) (by decide) (by decide) (by decide) (by decide), all 22 (by decide) (by decide) (by decide) (by decide) (by decide), all 23 (by decide) (by decide) (by decide) (by decide) (by decide), all 24 (by decide) (by decide) (by decide) (by decide) (by decide), all 25 (by decide) (by decide) (by decide) (by decide) (by decide), all 63 (by decide) (by decide) (by decide) (by decide) (by decide), all 64 (by decide) (by decide) (by decide) (by decide) (by decide), all 65 (by decide) (by decide) (by decide) (by decide) (by decide), all 26 (by decide) (by decide) (by decide) (by decide) (by decide), all 27 (by decide) (by decide) (by decide) (by decide) (by decide), all 28 (by decide) (by decide) (by decide) (by decide) (by decide), all 29 (by decide) (by decide) (by decide) (by decide) (by decide), all 30 (by decide) (by decide) (by decide) (by decide) (by decide), all 66 (by decide) (by decide) (by decide) (by decide) (by decide), all 67 (by decide) (by decide) (by decide) (by decide) (by decide), all 68 (by decide) (by decide) (by decide) (by decide) (by decide), all 69 (by decide) (by decide) (by decide) (by decide) (by decide), all 35 (by decide) (by decide) (by decide) (by decide) (by decide), all 36 (by decide) (by decide) (by decide) (by decide) (by decide), all 37 (by decide) (by decide) (by decide) (by decide) (by decide), all 38 (by decide) (by decide) (by decide) (by decide) (by decide), all 39 (by decide) (by decide) (by decide) (by decide) (by decide), all 72 (by decide) (by decide) (by decide) (by decide) (by decide), all 73 (by decide) (by decide) (by decide) (by decide) (by decide), all 14 (by decide) (by decide) (by decide) (by decide) (by decide), all 15 (by decide) (by decide) (by decide) (by decide) (by decide), all 16 (by decide) (by decide) (by decide) (by decide) (by decide), all 17 (by decide) (by decide) (by decide) (by decide) (by decide), all 18 (by decide) (by decide) (by decide) (by decide) (by decide), all 19 (by decide) (by decide) (by decide) (by decide) (by decide), all 41 (by decide) (by decide) (by decide) (by decide) (by decide), all 42 (by decide) (by decide) (by decide) (by decide) (by decide), all 43 (by decide) (by decide) (by decide) (by decide) (by decide), all 44 (by decide) (by decide) (by decide) (by decide) (by decide), all 45 (by decide) (by decide) (by decide) (by decide) (by decide), all 46 (by decide) (by decide) (by decide) (by decide) (by decide)]
        have c76 : ∀ k i, ¬ k = 3 → i < 60 → ρ 76 (60 * k + i) = σ 76 (60 * k + i) := fun k i hk hi => by rw [p5 _ (by omega), t1 76 (by decide) (by decide)]
        have hnew : I_s1 3 (upd (upd (σ 47) 1 (nI m)) 2 (nI len) 1) (upd (upd (σ 47) 1 (nI m)) 2 (nI len) 2) (τ 48) (upd (σ 74) 3 (nI m)) (upd (σ 75) 3 (nI len)) (ρ 76) := ⟨Or.inr ⟨len, m, hl, hm, upd_s _ _ _, upd_s _ _ _, by rw [upd_n (by decide), upd_s], upd_s _ _ _⟩, fun i hi => by rw [t3 i hi, p4 i hi]⟩
        exact ⟨hrt, hcl, hpt, hit, htk, hsh, hrn, ⟨hs0.oth (by decide) (fun i hi => c76 0 i (by decide) hi), hs1.oth (by decide) (fun i hi => c76 1 i (by decide) hi), hs2.oth (by decide) (fun i hi => c76 2 i (by decide) hi), hnew⟩, hgr⟩
    · unfold R_X11_sheet
      refine e_rgM 3 rfl (by decide) (fun _ => ⟨fun q => absurd q n01, fun _ => ?_⟩) (fun h9 => absurd hv h9)
      exact e_rgM 2 rfl (by decide) (fun _ => ⟨fun q => absurd q n01, fun _ => ⟨fun _ => ⟨fun q => absurd q q2, fun _ => ⟨rfl, hI⟩⟩, fun q => absurd q1 q⟩⟩) (fun h9 => absurd hu h9)
    · unfold R_X11_sheet
      refine e_rgM 3 rfl (by decide) (fun _ => ⟨fun q => absurd q n01, fun _ => ?_⟩) (fun h9 => absurd hv h9)
      exact e_rgM 2 rfl (by decide) (fun _ => ⟨fun q => absurd q n01, fun _ => ⟨fun q => absurd q q1, fun _ => ⟨rfl, hI⟩⟩⟩) (fun h9 => absurd hu h9)
    · unfold R_X11_sheet
      refine e_rgM 3 rfl (by decide) (fun _ => ⟨fun q => absurd q n01, fun _ => ?_⟩) (fun h9 => absurd hv h9)
      exact e_rgM 2 rfl (by decide) (fun h9 => absurd h9 hu) (fun _ => ⟨fun _ => ⟨rfl, hI⟩, fun q => absurd rfl q⟩)
  · unfold R_X11_sheet
    exact e_rgM 3 rfl (by decide) (fun h9 => absurd h9 hv) (fun _ => ⟨fun _ => ⟨rfl, hI⟩, fun q => absurd rfl q⟩)
theorem sx8 (x : Int32) : (x <<< ((24 : Int32) &&& 31)) >>> ((24 : Int32) &&& 31) = x.toInt8.toInt32 := by
  apply b_ext
  intro i hi
  have e : ∀ i, i < 32 → bt x.toInt8.toInt32 i = if i < 8 then bt x i else bt x 7 := by
    intro i hi
    unfold bt
    have tr : ∀ j, j < 8 → (BitVec.signExtend 8 x.toBitVec).getLsbD j = x.toBitVec.getLsbD j := fun j hj => by
      rw [BitVec.getLsbD_signExtend, if_pos (show j < 32 by omega), decide_eq_true hj, Bool.true_and]
    rw [Int8.toBitVec_toInt32, Int32.toBitVec_toInt8, BitVec.getLsbD_signExtend, BitVec.msb_eq_getLsbD_last, decide_eq_true hi, Bool.true_and]
    by_cases h : i < 8
    · rw [if_pos h, if_pos h, tr i h]
    · rw [if_neg h, if_neg h]
      exact tr 7 (by decide)
  rw [e i hi, show ((24 : Int32) &&& 31) = (nI 24 &&& 31) from rfl, b_sshr 24 (by decide) _ hi]
  by_cases h : i < 8
  · rw [if_pos (by omega), b_shl 24 (by decide) _ (by omega), if_pos h, show 24 + i - 24 = i by omega]
    simp
  · rw [if_neg (by omega), b_shl 24 (by decide) _ (by decide), if_neg h]
    simp
theorem sx16 (x : Int32) : (x <<< ((16 : Int32) &&& 31)) >>> ((16 : Int32) &&& 31) = x.toInt16.toInt32 := by
  apply b_ext
  intro i hi
  have e : ∀ i, i < 32 → bt x.toInt16.toInt32 i = if i < 16 then bt x i else bt x 15 := by
    intro i hi
    unfold bt
    have tr : ∀ j, j < 16 → (BitVec.signExtend 16 x.toBitVec).getLsbD j = x.toBitVec.getLsbD j := fun j hj => by
      rw [BitVec.getLsbD_signExtend, if_pos (show j < 32 by omega), decide_eq_true hj, Bool.true_and]
    rw [Int16.toBitVec_toInt32, Int32.toBitVec_toInt16, BitVec.getLsbD_signExtend, BitVec.msb_eq_getLsbD_last, decide_eq_true hi, Bool.true_and]
    by_cases h : i < 16
    · rw [if_pos h, if_pos h, tr i h]
    · rw [if_neg h, if_neg h]
      exact tr 15 (by decide)
  rw [e i hi, show ((16 : Int32) &&& 31) = (nI 16 &&& 31) from rfl, b_sshr 16 (by decide) _ hi]
  by_cases h : i < 16
  · rw [if_pos (by omega), b_shl 16 (by decide) _ (by omega), if_pos h, show 16 + i - 16 = i by omega]
    simp
  · rw [if_neg (by omega), b_shl 16 (by decide) _ (by decide), if_neg h]
    simp
/-- what a cell becomes -/
def nar (m : Nat) (v : Int32) : Int32 := if m = 0 then v.toInt8.toInt32 else if m = 1 then v.toInt16.toInt32 else v
theorem m_lay {K : Int32 → pw_Mem → Prop} {s m len : Nat} {a2 v : Int32} {σ : pw_Mem} (hs : s < 4) (hm : m < 3) (hl : len ≤ 60) (h74 : σ 74 s = nI m) (h75 : σ 75 s = nI len) (h1 : ∀ i, i < len → a2 = nI i → ∀ ρ, ρ = pw_up σ 76 (60 * s + i) (nar m v) → K 1 ρ) (h0 : ¬ ok a2 len → K (-12) σ) : R_X11_lay (nI s) a2 v σ K := by
  have hin : vp_in (nI s) 4 := vp_in_nI hs (by decide)
  unfold R_X11_lay
  rw [cl_nI (by omega)]
  refine e_rgM 3 rfl (by decide) (fun _ => ⟨fun _ => ⟨hin, fun _ => ⟨hin, ?_⟩, fun q => ?_⟩, fun q => absurd q n01⟩) (fun h9 => absurd ⟨s, by omega, rfl⟩ h9)
  · rw [h75]
    have e := rgn (a := a2) (n := len) (by omega)
    rw [← l64 a2, ← l64 (nI len - 1)] at e
    refine e_in (fun h => ⟨fun _ => ⟨hin, ?_⟩, fun q => absurd q n01⟩) (fun h => ⟨fun q => absurd rfl q, fun _ => h0 (fun z => h (e.mpr z))⟩)
    obtain ⟨i, hi, rfl⟩ := e.mp h
    have hin2 : vp_in (60 * nI s + nI i) 240 := by rw [ix60]; exact vp_in_nI (by omega) (by decide)
    rw [h74]
    have ee : Int32.toNatClampNeg (60 * nI s + nI i) = 60 * s + i := by rw [ix60]; exact cl_nI (by omega)
    rw [ee]
    match m, hm with
    | 0, _ =>
      refine ⟨fun q => absurd rfl q, fun _ => ⟨hin2, ?_⟩⟩
      rintro _ rfl
      exact h1 i hi rfl _ (by rw [sx8]; rfl)
    | 1, _ =>
      refine ⟨fun _ => ⟨hin, fun q => absurd rfl q, fun _ => ⟨hin2, ?_⟩⟩, fun q => absurd q (by decide)⟩
      rintro _ rfl
      exact h1 i hi rfl _ (by rw [sx16]; rfl)
    | 2, _ =>
      refine ⟨fun _ => ⟨hin, fun _ => ⟨hin2, ?_⟩, fun q => absurd q (by decide)⟩, fun q => absurd q (by decide)⟩
      rintro _ rfl
      exact h1 i hi rfl _ rfl
  · rw [h74] at q
    match m, hm with
    | 0, _ => exact absurd q (by decide)
    | 1, _ => exact absurd q (by decide)
    | 2, _ => exact absurd q (by decide)
theorem m_lay0 {K : Int32 → pw_Mem → Prop} {s : Nat} {a2 v : Int32} {σ : pw_Mem} (hs : s < 4) (h74 : σ 74 s = -4) (h0 : K (-11) σ) : R_X11_lay (nI s) a2 v σ K := by
  have hin : vp_in (nI s) 4 := vp_in_nI hs (by decide)
  unfold R_X11_lay
  rw [cl_nI (by omega)]
  exact e_rgM 3 rfl (by decide) (fun _ => ⟨fun _ => ⟨hin, fun q => absurd h74 q, fun _ => h0⟩, fun q => absurd q n01⟩) (fun h9 => absurd ⟨s, by omega, rfl⟩ h9)
theorem nlm1 {n : Nat} (h : n ≤ 60) : ¬ nI n = -1 := fun q => by
  have h1 := congrArg Int32.toInt q
  rw [nI_toInt (by omega)] at h1
  have h2 : (-1 : Int32).toInt = -1 := by decide
  omega
theorem o_lay {a b v : Int32} {σ : pw_Mem} (h : Inv σ) : R_X10_lay a b v σ (fun x τ => R_X11_lay a b v τ (fun y ρ => Nx x y ρ)) := by
  have hI := h
  obtain ⟨n, c, ni, nt, hrt, hcl, hpt, hit, htk, hsh, hrn, ⟨hs0, hs1, hs2, hs3⟩, hgr⟩ := h
  unfold R_X10_lay
  refine e_isS (fun hv => ⟨fun _ => ?_, fun q => absurd q n01⟩) (fun hv => ⟨fun q => absurd rfl q, fun _ => ?_⟩)
  · obtain ⟨s, hs, rfl⟩ := hv
    match s, hs with
    | 0, hs =>
      refine ⟨Or.inl rfl, fun _ => ?_, fun q => absurd q (by decide), fun q => absurd q (by decide), fun q => absurd q (by decide)⟩
      unfold R_X7_isNothing_at41
      rcases hs0.1 with hz | ⟨len, m, hl, hm, z1, z2, z3, z4⟩
      · exact ⟨fun q => absurd hz.1 q, fun _ => ⟨fun q => absurd q n01, fun _ => m_lay0 (s := 0) (by decide) hz.2 ⟨rfl, hI⟩⟩⟩
      · refine ⟨fun _ => ⟨fun _ => ?_, fun q => absurd rfl q⟩, fun q => absurd (z1.symm.trans q) (nlm1 hl)⟩
        rw [z1]
        have e := rgn (a := b) (n := len) (by omega)
        refine e_within (fun h => ⟨fun _ => ?_, fun q => absurd q n01⟩) (fun h => ⟨fun q => absurd rfl q, fun _ => ?_⟩)
        · obtain ⟨i, hi, rfl⟩ := e.mp h
          have hin : vp_in (nI i) 60 := vp_in_nI (by omega) (by decide)
          have fin : ∀ τ, τ = pw_up σ 42 i (nar m v) → R_X11_lay (nI 0) (nI i) v τ (fun y ρ => Nx 1 y ρ) := by
            rintro _ rfl
            refine m_lay (s := 0) (m := m) (len := len) (by decide) hm hl (by rw [pw_r (by decide)]; exact z4) (by rw [pw_r (by decide)]; exact z2) (fun i2 hi2 e2 ρ hρ => ?_) (fun h9 => absurd ⟨i, hi, rfl⟩ h9)
            have e3 : i2 = i := ((nI_eq (by omega) (by omega)).mp e2).symm
            subst e3
            subst hρ
            refine ⟨rfl, n, c, ni, nt, ?_⟩
            unfold Inv4
            simp (config := { decide := true }) only [pw_r, pw_s, not_false_eq_true]
            have hnew : I_s1 0 (σ 41 1) (σ 41 2) (upd (σ 42) i2 (nar m v)) (σ 74) (σ 75) (upd (σ 76) (60 * 0 + i2) (nar m v)) := ⟨hs0.1, fun i9 hi9 => by
              by_cases e9 : i9 = i2
              · subst e9; rw [upd_s, upd_s]
              · rw [upd_n e9, upd_n (by omega)]; exact hs0.2 i9 hi9⟩
            exact ⟨hrt, hcl, hpt, hit, htk, hsh, hrn, ⟨hnew, hs1.oth2 (fun i9 hi9 => upd_n (by omega)), hs2.oth2 (fun i9 hi9 => upd_n (by omega)), hs3.oth2 (fun i9 hi9 => upd_n (by omega))⟩, hgr⟩
          unfold R_X7_put_at41
          rw [z3, cl_nI (by omega)]
          match m, hm with
          | 0, _ =>
            refine ⟨fun q => absurd rfl q, fun _ => ⟨hin, ?_⟩⟩
            rintro _ rfl
            exact fin _ rfl
          | 1, _ =>
            refine ⟨fun _ => ⟨fun q => absurd rfl q, fun _ => ⟨hin, ?_⟩⟩, fun q => absurd q (by decide)⟩
            rintro _ rfl
            exact fin _ rfl
          | 2, _ =>
            refine ⟨fun _ => ⟨fun _ => ⟨hin, ?_⟩, fun q => absurd q (by decide)⟩, fun q => absurd q (by decide)⟩
            rintro _ rfl
            exact fin _ rfl
        · exact m_lay (s := 0) (m := m) (len := len) (by decide) hm hl z4 z2 (fun i hi e2 _ _ => absurd (e.mpr ⟨i, hi, e2⟩) h) (fun _ => ⟨rfl, hI⟩)
    | 1, hs =>
      refine ⟨Or.inr (Or.inl rfl), fun q => absurd q (by decide), fun _ => ?_, fun q => absurd q (by decide), fun q => absurd q (by decide)⟩
      unfold R_X7_isNothing_at43
      rcases hs1.1 with hz | ⟨len, m, hl, hm, z1, z2, z3, z4⟩
      · exact ⟨fun q => absurd hz.1 q, fun _ => ⟨fun q => absurd q n01, fun _ => m_lay0 (s := 1) (by decide) hz.2 ⟨rfl, hI⟩⟩⟩
      · refine ⟨fun _ => ⟨fun _ => ?_, fun q => absurd rfl q⟩, fun q => absurd (z1.symm.trans q) (nlm1 hl)⟩
        rw [z1]
        have e := rgn (a := b) (n := len) (by omega)
        refine e_within (fun h => ⟨fun _ => ?_, fun q => absurd q n01⟩) (fun h => ⟨fun q => absurd rfl q, fun _ => ?_⟩)
        · obtain ⟨i, hi, rfl⟩ := e.mp h
          have hin : vp_in (nI i) 60 := vp_in_nI (by omega) (by decide)
          have fin : ∀ τ, τ = pw_up σ 44 i (nar m v) → R_X11_lay (nI 1) (nI i) v τ (fun y ρ => Nx 1 y ρ) := by
            rintro _ rfl
            refine m_lay (s := 1) (m := m) (len := len) (by decide) hm hl (by rw [pw_r (by decide)]; exact z4) (by rw [pw_r (by decide)]; exact z2) (fun i2 hi2 e2 ρ hρ => ?_) (fun h9 => absurd ⟨i, hi, rfl⟩ h9)
            have e3 : i2 = i := ((nI_eq (by omega) (by omega)).mp e2).symm
            subst e3
            subst hρ
            refine ⟨rfl, n, c, ni, nt, ?_⟩
            unfold Inv4
            simp (config := { decide := true }) only [pw_r, pw_s, not_false_eq_true]
            have hnew : I_s1 1 (σ 43 1) (σ 43 2) (upd (σ 44) i2 (nar m v)) (σ 74) (σ 75) (upd (σ 76) (60 * 1 + i2) (nar m v)) := ⟨hs1.1, fun i9 hi9 => by
              by_cases e9 : i9 = i2
              · subst e9; rw [upd_s, upd_s]
              · rw [upd_n e9, upd_n (by omega)]; exact hs1.2 i9 hi9⟩
            exact ⟨hrt, hcl, hpt, hit, htk, hsh, hrn, ⟨hs0.oth2 (fun i9 hi9 => upd_n (by omega)), hnew, hs2.oth2 (fun i9 hi9 => upd_n (by omega)), hs3.oth2 (fun i9 hi9 => upd_n (by omega))⟩, hgr⟩
          unfold R_X7_put_at43
          rw [z3, cl_nI (by omega)]
          match m, hm with
          | 0, _ =>
            refine ⟨fun q => absurd rfl q, fun _ => ⟨hin, ?_⟩⟩
            rintro _ rfl
            exact fin _ rfl
          | 1, _ =>
            refine ⟨fun _ => ⟨fun q => absurd rfl q, fun _ => ⟨hin, ?_⟩⟩, fun q => absurd q (by decide)⟩
            rintro _ rfl
            exact fin _ rfl
          | 2, _ =>
            refine ⟨fun _ => ⟨fun _ => ⟨hin, ?_⟩, fun q => absurd q (by decide)⟩, fun q => absurd q (by decide)⟩
            rintro _ rfl
            exact fin _ rfl
        · exact m_lay (s := 1) (m := m) (len := len) (by decide) hm hl z4 z2 (fun i hi e2 _ _ => absurd (e.mpr ⟨i, hi, e2⟩) h) (fun _ => ⟨rfl, hI⟩)
    | 2, hs =>
      refine ⟨Or.inr (Or.inr (Or.inl rfl)), fun q => absurd q (by decide), fun q => absurd q (by decide), fun _ => ?_, fun q => absurd q (by decide)⟩
      unfold R_X7_isNothing_at45
      rcases hs2.1 with hz | ⟨len, m, hl, hm, z1, z2, z3, z4⟩
      · exact ⟨fun q => absurd hz.1 q, fun _ => ⟨fun q => absurd q n01, fun _ => m_lay0 (s := 2) (by decide) hz.2 ⟨rfl, hI⟩⟩⟩
      · refine ⟨fun _ => ⟨fun _ => ?_, fun q => absurd rfl q⟩, fun q => absurd (z1.symm.trans q) (nlm1 hl)⟩
        rw [z1]
        have e := rgn (a := b) (n := len) (by omega)
        refine e_within (fun h => ⟨fun _ => ?_, fun q => absurd q n01⟩) (fun h => ⟨fun q => absurd rfl q, fun _ => ?_⟩)
        · obtain ⟨i, hi, rfl⟩ := e.mp h
          have hin : vp_in (nI i) 60 := vp_in_nI (by omega) (by decide)
          have fin : ∀ τ, τ = pw_up σ 46 i (nar m v) → R_X11_lay (nI 2) (nI i) v τ (fun y ρ => Nx 1 y ρ) := by
            rintro _ rfl
            refine m_lay (s := 2) (m := m) (len := len) (by decide) hm hl (by rw [pw_r (by decide)]; exact z4) (by rw [pw_r (by decide)]; exact z2) (fun i2 hi2 e2 ρ hρ => ?_) (fun h9 => absurd ⟨i, hi, rfl⟩ h9)
            have e3 : i2 = i := ((nI_eq (by omega) (by omega)).mp e2).symm
            subst e3
            subst hρ
            refine ⟨rfl, n, c, ni, nt, ?_⟩
            unfold Inv4
            simp (config := { decide := true }) only [pw_r, pw_s, not_false_eq_true]
            have hnew : I_s1 2 (σ 45 1) (σ 45 2) (upd (σ 46) i2 (nar m v)) (σ 74) (σ 75) (upd (σ 76) (60 * 2 + i2) (nar m v)) := ⟨hs2.1, fun i9 hi9 => by
              by_cases e9 : i9 = i2
              · subst e9; rw [upd_s, upd_s]
              · rw [upd_n e9, upd_n (by omega)]; exact hs2.2 i9 hi9⟩
            exact ⟨hrt, hcl, hpt, hit, htk, hsh, hrn, ⟨hs0.oth2 (fun i9 hi9 => upd_n (by omega)), hs1.oth2 (fun i9 hi9 => upd_n (by omega)), hnew, hs3.oth2 (fun i9 hi9 => upd_n (by omega))⟩, hgr⟩
          unfold R_X7_put_at45
          rw [z3, cl_nI (by omega)]
          match m, hm with
          | 0, _ =>
            refine ⟨fun q => absurd rfl q, fun _ => ⟨hin, ?_⟩⟩
            rintro _ rfl
            exact fin _ rfl
          | 1, _ =>
            refine ⟨fun _ => ⟨fun q => absurd rfl q, fun _ => ⟨hin, ?_⟩⟩, fun q => absurd q (by decide)⟩
            rintro _ rfl
            exact fin _ rfl
          | 2, _ =>
            refine ⟨fun _ => ⟨fun _ => ⟨hin, ?_⟩, fun q => absurd q (by decide)⟩, fun q => absurd q (by decide)⟩
            rintro _ rfl
            exact fin _ rfl
        · exact m_lay (s := 2) (m := m) (len := len) (by decide) hm hl z4 z2 (fun i hi e2 _ _ => absurd (e.mpr ⟨i, hi, e2⟩) h) (fun _ => ⟨rfl, hI⟩)
    | 3, hs =>
      refine ⟨Or.inr (Or.inr (Or.inr rfl)), fun q => absurd q (by decide), fun q => absurd q (by decide), fun q => absurd q (by decide), fun _ => ?_⟩
      unfold R_X7_isNothing_at47
      rcases hs3.1 with hz | ⟨len, m, hl, hm, z1, z2, z3, z4⟩
      · exact ⟨fun q => absurd hz.1 q, fun _ => ⟨fun q => absurd q n01, fun _ => m_lay0 (s := 3) (by decide) hz.2 ⟨rfl, hI⟩⟩⟩
      · refine ⟨fun _ => ⟨fun _ => ?_, fun q => absurd rfl q⟩, fun q => absurd (z1.symm.trans q) (nlm1 hl)⟩
        rw [z1]
        have e := rgn (a := b) (n := len) (by omega)
        refine e_within (fun h => ⟨fun _ => ?_, fun q => absurd q n01⟩) (fun h => ⟨fun q => absurd rfl q, fun _ => ?_⟩)
        · obtain ⟨i, hi, rfl⟩ := e.mp h
          have hin : vp_in (nI i) 60 := vp_in_nI (by omega) (by decide)
          have fin : ∀ τ, τ = pw_up σ 48 i (nar m v) → R_X11_lay (nI 3) (nI i) v τ (fun y ρ => Nx 1 y ρ) := by
            rintro _ rfl
            refine m_lay (s := 3) (m := m) (len := len) (by decide) hm hl (by rw [pw_r (by decide)]; exact z4) (by rw [pw_r (by decide)]; exact z2) (fun i2 hi2 e2 ρ hρ => ?_) (fun h9 => absurd ⟨i, hi, rfl⟩ h9)
            have e3 : i2 = i := ((nI_eq (by omega) (by omega)).mp e2).symm
            subst e3
            subst hρ
            refine ⟨rfl, n, c, ni, nt, ?_⟩
            unfold Inv4
            simp (config := { decide := true }) only [pw_r, pw_s, not_false_eq_true]
            have hnew : I_s1 3 (σ 47 1) (σ 47 2) (upd (σ 48) i2 (nar m v)) (σ 74) (σ 75) (upd (σ 76) (60 * 3 + i2) (nar m v)) := ⟨hs3.1, fun i9 hi9 => by
              by_cases e9 : i9 = i2
              · subst e9; rw [upd_s, upd_s]
              · rw [upd_n e9, upd_n (by omega)]; exact hs3.2 i9 hi9⟩
            exact ⟨hrt, hcl, hpt, hit, htk, hsh, hrn, ⟨hs0.oth2 (fun i9 hi9 => upd_n (by omega)), hs1.oth2 (fun i9 hi9 => upd_n (by omega)), hs2.oth2 (fun i9 hi9 => upd_n (by omega)), hnew⟩, hgr⟩
          unfold R_X7_put_at47
          rw [z3, cl_nI (by omega)]
          match m, hm with
          | 0, _ =>
            refine ⟨fun q => absurd rfl q, fun _ => ⟨hin, ?_⟩⟩
            rintro _ rfl
            exact fin _ rfl
          | 1, _ =>
            refine ⟨fun _ => ⟨fun q => absurd rfl q, fun _ => ⟨hin, ?_⟩⟩, fun q => absurd q (by decide)⟩
            rintro _ rfl
            exact fin _ rfl
          | 2, _ =>
            refine ⟨fun _ => ⟨fun _ => ⟨hin, ?_⟩, fun q => absurd q (by decide)⟩, fun q => absurd q (by decide)⟩
            rintro _ rfl
            exact fin _ rfl
        · exact m_lay (s := 3) (m := m) (len := len) (by decide) hm hl z4 z2 (fun i hi e2 _ _ => absurd (e.mpr ⟨i, hi, e2⟩) h) (fun _ => ⟨rfl, hI⟩)
  · unfold R_X11_lay
    exact e_rgM 3 rfl (by decide) (fun h9 => absurd h9 hv) (fun _ => ⟨fun q => absurd rfl q, fun _ => ⟨rfl, hI⟩⟩)
