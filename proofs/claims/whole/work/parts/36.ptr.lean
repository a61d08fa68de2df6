/-! take, flow, goals -/
theorem bt_one {i j : Nat} (hi : i < 32) (hj : j < 32) : bt (one j) i = decide (i = j) := by
  unfold one
  rw [b_shl j hj 1 hi]
  have e1 : bt 1 (i - j) = decide (i - j = 0) := (by decide +kernel : ∀ k, k < 32 → bt 1 k = decide (k = 0)) (i - j) (by omega)
  rw [e1]
  by_cases h : i = j
  · subst h; simp
  · simp [h]; omega
theorem bt_set {x : Int32} {i j : Nat} (hj : j < 32) : bt (x ||| one j) i = true ↔ (bt x i = true ∨ i = j) := by
  rw [bt_or1]
  by_cases hi : i < 32
  · rw [bt_one hi hj]; simp
  · rw [b_big (show 32 ≤ i by omega)]
    have : ¬ i = j := by omega
    simp [this]
    exact b_big (show 32 ≤ i by omega)
theorem nbit {x : Int32} {i : Nat} (hi : i < 32) (h : bt x i = false) : ¬ ((x >>> (nI i &&& 31)) &&& 1) = 1 := by
  rw [hb0 x hi, h]
  decide
theorem ybit {x : Int32} {i : Nat} (hi : i < 32) (h : bt x i = true) : ((x >>> (nI i &&& 31)) &&& 1) = 1 := by
  rw [hb0 x hi, h]
  rfl
theorem o_take {a b : Int32} {σ : pw_Mem} (h : Inv σ) : R_X10_take a b σ (fun x τ => R_X11_take a b τ (fun y ρ => Nx x y ρ)) := by
  have hI := h
  obtain ⟨n, c, ni, nt, hrt, hcl, hpt, hit, htk, hsh, hrn, hst, hgr⟩ := h
  have hrt' := hrt
  obtain ⟨r1, r2, r3, r4, r5, r6⟩ := hrt
  unfold R_X10_take
  refine e_isP (fun hv => ⟨fun q => absurd q n01, fun _ => ?_⟩) (fun hv => ⟨fun _ => ?_, fun q => absurd rfl q⟩)
  · refine e_isR r2 r1 (fun hu => ⟨fun _ => ?_, fun q => absurd q n01⟩) (fun hu => ⟨fun q => absurd rfl q, fun _ => ?_⟩)
    · have hv0 := hv
      have hu0 := hu
      obtain ⟨p, hp, rfl⟩ := hv
      obtain ⟨r, hr, rfl⟩ := hu
      have hin : vp_in (nI p) 8 := vp_in_nI hp (by decide)
      refine ⟨hin, ?_⟩
      rw [cl_nI (by omega)]
      refine e_holds (by omega) (fun hb1 => ⟨fun q => absurd q n01, fun _ => ?_⟩) (fun hb1 => ⟨fun _ => ?_, fun q => absurd rfl q⟩)
      · unfold R_X11_take
        refine e_isPM (fun _ => ⟨fun q => absurd q n01, fun _ => ?_⟩) (fun h9 => absurd hv0 h9)
        refine e_isM r3 r1 (fun _ => ⟨fun _ => ⟨hin, ?_⟩, fun q => absurd q n01⟩) (fun h9 => absurd hu0 h9)
        rw [cl_nI (by omega), (hpt p hp).1]
        exact ⟨fun q => absurd (ybit (by omega) hb1) q, fun _ => ⟨rfl, hI⟩⟩
      · unfold R_X4_addTaken
        refine ⟨hin, hin, ?_⟩
        rw [cl_nI (by omega)]
        rintro _ rfl
        refine e_spread (fun τ t1 t2 => ?_)
        unfold R_X2_outdate
        rintro _ rfl
        unfold R_X11_take
        refine e_isPM (fun _ => ⟨fun q => absurd q n01, fun _ => ?_⟩) (fun h9 => absurd hv0 h9)
        refine e_isM (n := n) (by rw [pw_r (by decide), t1 49 (by decide), pw_r (by decide)]; exact r3) r1 (fun _ => ⟨fun _ => ⟨hin, ?_⟩, fun q => absurd q n01⟩) (fun h9 => absurd hu0 h9)
        rw [cl_nI (by omega), pw_r (by decide : ¬ 55 = 14), t1 55 (by decide), pw_r (by decide : ¬ 55 = 5), (hpt p hp).1]
        refine ⟨fun _ => ⟨hin, hin, ?_⟩, fun q => absurd q (nbit (by omega) hb1)⟩
        intro ρ hρ
        have all : ∀ k, ¬ k = 5 → ¬ k = 7 → ¬ k = 14 → ¬ k = 55 → ρ k = σ k := fun k k1 k2 k3 k4 => by rw [hρ, pw_r k4, pw_r k3, t1 k k2, pw_r k1]
        have e5 : ρ 5 = upd (σ 5) p (σ 5 p ||| one r) := by rw [hρ, pw_r (by decide), pw_r (by decide), t1 5 (by decide), pw_s]; rfl
        have e55 : ρ 55 = upd (σ 55) p (σ 5 p ||| one r) := by rw [hρ, pw_s, pw_r (by decide), t1 55 (by decide), pw_r (by decide)]; rfl
        have e7 : ρ 7 = sp (ρ 5) (σ 6) 8 (σ 7) := by rw [hρ, pw_r (by decide), pw_r (by decide), t2, pw_r (by decide : ¬ 6 = 5), pw_r (by decide : ¬ 7 = 5), pw_r (by decide : ¬ 5 = 55), pw_r (by decide : ¬ 5 = 14), t1 5 (by decide)]
        have e14 : ρ 14 = upd (τ 14) 3 1 := by rw [hρ, pw_r (by decide), pw_s]
        refine ⟨rfl, n, c, ni, nt, ?_⟩
        unfold Inv4
        simp only [all 1 (by decide) (by decide) (by decide) (by decide), all 2 (by decide) (by decide) (by decide) (by decide), all 3 (by decide) (by decide) (by decide) (by decide), all 49 (by decide) (by decide) (by decide) (by decide), all 50 (by decide) (by decide) (by decide) (by decide), all 51 (by decide) (by decide) (by decide) (by decide), all 8 (by decide) (by decide) (by decide) (by decide), all 10 (by decide) (by decide) (by decide) (by decide), all 11 (by decide) (by decide) (by decide) (by decide), all 12 (by decide) (by decide) (by decide) (by decide), all 13 (by decide) (by decide) (by decide) (by decide), all 52 (by decide) (by decide) (by decide) (by decide), all 53 (by decide) (by decide) (by decide) (by decide), all 54 (by decide) (by decide) (by decide) (by decide), all 6 (by decide) (by decide) (by decide) (by decide), all 56 (by decide) (by decide) (by decide) (by decide), all 22 (by decide) (by decide) (by decide) (by decide), all 23 (by decide) (by decide) (by decide) (by decide), all 24 (by decide) (by decide) (by decide) (by decide), all 25 (by decide) (by decide) (by decide) (by decide), all 63 (by decide) (by decide) (by decide) (by decide), all 64 (by decide) (by decide) (by decide) (by decide), all 65 (by decide) (by decide) (by decide) (by decide), all 26 (by decide) (by decide) (by decide) (by decide), all 27 (by decide) (by decide) (by decide) (by decide), all 28 (by decide) (by decide) (by decide) (by decide), all 29 (by decide) (by decide) (by decide) (by decide), all 30 (by decide) (by decide) (by decide) (by decide), all 66 (by decide) (by decide) (by decide) (by decide), all 67 (by decide) (by decide) (by decide) (by decide), all 68 (by decide) (by decide) (by decide) (by decide), all 69 (by decide) (by decide) (by decide) (by decide), all 35 (by decide) (by decide) (by decide) (by decide), all 36 (by decide) (by decide) (by decide) (by decide), all 37 (by decide) (by decide) (by decide) (by decide), all 38 (by decide) (by decide) (by decide) (by decide), all 39 (by decide) (by decide) (by decide) (by decide), all 72 (by decide) (by decide) (by decide) (by decide), all 73 (by decide) (by decide) (by decide) (by decide), all 41 (by decide) (by decide) (by decide) (by decide), all 42 (by decide) (by decide) (by decide) (by decide), all 43 (by decide) (by decide) (by decide) (by decide), all 44 (by decide) (by decide) (by decide) (by decide), all 45 (by decide) (by decide) (by decide) (by decide), all 46 (by decide) (by decide) (by decide) (by decide), all 47 (by decide) (by decide) (by decide) (by decide), all 48 (by decide) (by decide) (by decide) (by decide), all 74 (by decide) (by decide) (by decide) (by decide), all 75 (by decide) (by decide) (by decide) (by decide), all 76 (by decide) (by decide) (by decide) (by decide), all 15 (by decide) (by decide) (by decide) (by decide), all 16 (by decide) (by decide) (by decide) (by decide), all 17 (by decide) (by decide) (by decide) (by decide), all 18 (by decide) (by decide) (by decide) (by decide), all 19 (by decide) (by decide) (by decide) (by decide)]
        refine ⟨hrt', hcl, fun j hj => ?_, hit, htk, hsh, hrn, hst, I_gr.old (by rw [e14, upd_s])⟩
        refine ⟨?_, (hpt j hj).2.1, ?_, (hpt j hj).2.2.2.1, ?_⟩
        · rw [e5, e55]
          by_cases e : j = p
          · subst e; rw [upd_s, upd_s]
          · rw [upd_n e, upd_n e]; exact (hpt j hj).1
        · intro s hs
          rw [e5] at hs
          by_cases e : j = p
          · subst e
            rw [upd_s, bt_set (by omega)] at hs
            rcases hs with hs | hs
            · exact (hpt j hj).2.2.1 s hs
            · omega
          · rw [upd_n e] at hs; exact (hpt j hj).2.2.1 s hs
        · rw [e7]
          refine sp_gl (T := σ 5) (S := σ 6) (fun j s hj hs => ?_) (fun _ _ _ h => h) (fun j hj => (hpt j hj).2.2.2.2) j hj
          rw [e5]
          by_cases e : j = p
          · subst e; rw [upd_s, bt_set (by omega)]; exact Or.inl hs
          · rw [upd_n e]; exact hs
    · unfold R_X11_take
      refine e_isPM (fun _ => ⟨fun q => absurd q n01, fun _ => ?_⟩) (fun h9 => absurd hv h9)
      exact e_isM r3 r1 (fun h9 => absurd h9 hu) (fun _ => ⟨fun q => absurd rfl q, fun _ => ⟨rfl, hI⟩⟩)
  · unfold R_X11_take
    exact e_isPM (fun h9 => absurd h9 hv) (fun _ => ⟨fun _ => ⟨rfl, hI⟩, fun q => absurd rfl q⟩)
theorem o_flow {a b : Int32} {σ : pw_Mem} (h : Inv σ) : R_X10_flow a b σ (fun x τ => R_X11_flow a b τ (fun y ρ => Nx x y ρ)) := by
  have hI := h
  obtain ⟨n, c, ni, nt, hrt, hcl, hpt, hit, htk, hsh, hrn, hst, hgr⟩ := h
  unfold R_X10_flow
  refine e_isP (fun hv => ⟨fun q => absurd q n01, fun _ => ?_⟩) (fun hv => ⟨fun _ => ?_, fun q => absurd rfl q⟩)
  · refine e_isP (fun hu => ⟨fun _ => ⟨fun hab => ?_, fun hab => ?_⟩, fun q => absurd q n01⟩) (fun hu => ⟨fun q => absurd rfl q, fun _ => ?_⟩)
    · unfold R_X11_flow
      refine e_isPM (fun _ => ⟨fun q => absurd q n01, fun _ => ?_⟩) (fun h9 => absurd hv h9)
      exact e_isPM (fun _ => ⟨fun _ => ⟨fun _ => ⟨rfl, hI⟩, fun q => absurd hab q⟩, fun q => absurd q n01⟩) (fun h9 => absurd hu h9)
    · have hv0 := hv
      have hu0 := hu
      obtain ⟨p, hp, rfl⟩ := hv
      obtain ⟨r, hr, rfl⟩ := hu
      have hin : vp_in (nI p) 8 := vp_in_nI hp (by decide)
      refine ⟨hin, ?_⟩
      rw [cl_nI (by omega)]
      refine e_holds (by omega) (fun hb1 => ⟨fun q => absurd q n01, fun _ => ?_⟩) (fun hb1 => ⟨fun _ => ?_, fun q => absurd rfl q⟩)
      · unfold R_X11_flow
        refine e_isPM (fun _ => ⟨fun q => absurd q n01, fun _ => ?_⟩) (fun h9 => absurd hv0 h9)
        refine e_isPM (fun _ => ⟨fun _ => ⟨fun q => absurd q hab, fun _ => ⟨hin, ?_⟩⟩, fun q => absurd q n01⟩) (fun h9 => absurd hu0 h9)
        rw [cl_nI (by omega), (hpt p hp).2.1]
        exact ⟨fun q => absurd (ybit (by omega) hb1) q, fun _ => ⟨rfl, hI⟩⟩
      · unfold R_X4_addSource
        refine ⟨hin, hin, ?_⟩
        rw [cl_nI (by omega)]
        rintro _ rfl
        refine e_spread (fun τ t1 t2 => ?_)
        unfold R_X2_outdate
        rintro _ rfl
        unfold R_X11_flow
        refine e_isPM (fun _ => ⟨fun q => absurd q n01, fun _ => ?_⟩) (fun h9 => absurd hv0 h9)
        refine e_isPM (fun _ => ⟨fun _ => ⟨fun q => absurd q hab, fun _ => ⟨hin, ?_⟩⟩, fun q => absurd q n01⟩) (fun h9 => absurd hu0 h9)
        rw [cl_nI (by omega), pw_r (by decide : ¬ 56 = 14), t1 56 (by decide), pw_r (by decide : ¬ 56 = 6), (hpt p hp).2.1]
        refine ⟨fun _ => ⟨hin, hin, ?_⟩, fun q => absurd q (nbit (by omega) hb1)⟩
        intro ρ hρ
        have all : ∀ k, ¬ k = 6 → ¬ k = 7 → ¬ k = 14 → ¬ k = 56 → ρ k = σ k := fun k k1 k2 k3 k4 => by rw [hρ, pw_r k4, pw_r k3, t1 k k2, pw_r k1]
        have e5 : ρ 6 = upd (σ 6) p (σ 6 p ||| one r) := by rw [hρ, pw_r (by decide), pw_r (by decide), t1 6 (by decide), pw_s]; rfl
        have e55 : ρ 56 = upd (σ 56) p (σ 6 p ||| one r) := by rw [hρ, pw_s, pw_r (by decide), t1 56 (by decide), pw_r (by decide)]; rfl
        have e7 : ρ 7 = sp (σ 5) (ρ 6) 8 (σ 7) := by rw [hρ, pw_r (by decide), pw_r (by decide), t2, pw_r (by decide : ¬ 5 = 6), pw_r (by decide : ¬ 7 = 6), pw_r (by decide : ¬ 6 = 56), pw_r (by decide : ¬ 6 = 14), t1 6 (by decide)]
        have e14 : ρ 14 = upd (τ 14) 3 1 := by rw [hρ, pw_r (by decide), pw_s]
        refine ⟨rfl, n, c, ni, nt, ?_⟩
        unfold Inv4
        simp only [all 1 (by decide) (by decide) (by decide) (by decide), all 2 (by decide) (by decide) (by decide) (by decide), all 3 (by decide) (by decide) (by decide) (by decide), all 49 (by decide) (by decide) (by decide) (by decide), all 50 (by decide) (by decide) (by decide) (by decide), all 51 (by decide) (by decide) (by decide) (by decide), all 8 (by decide) (by decide) (by decide) (by decide), all 10 (by decide) (by decide) (by decide) (by decide), all 11 (by decide) (by decide) (by decide) (by decide), all 12 (by decide) (by decide) (by decide) (by decide), all 13 (by decide) (by decide) (by decide) (by decide), all 52 (by decide) (by decide) (by decide) (by decide), all 53 (by decide) (by decide) (by decide) (by decide), all 54 (by decide) (by decide) (by decide) (by decide), all 5 (by decide) (by decide) (by decide) (by decide), all 55 (by decide) (by decide) (by decide) (by decide), all 22 (by decide) (by decide) (by decide) (by decide), all 23 (by decide) (by decide) (by decide) (by decide), all 24 (by decide) (by decide) (by decide) (by decide), all 25 (by decide) (by decide) (by decide) (by decide), all 63 (by decide) (by decide) (by decide) (by decide), all 64 (by decide) (by decide) (by decide) (by decide), all 65 (by decide) (by decide) (by decide) (by decide), all 26 (by decide) (by decide) (by decide) (by decide), all 27 (by decide) (by decide) (by decide) (by decide), all 28 (by decide) (by decide) (by decide) (by decide), all 29 (by decide) (by decide) (by decide) (by decide), all 30 (by decide) (by decide) (by decide) (by decide), all 66 (by decide) (by decide) (by decide) (by decide), all 67 (by decide) (by decide) (by decide) (by decide), all 68 (by decide) (by decide) (by decide) (by decide), all 69 (by decide) (by decide) (by decide) (by decide), all 35 (by decide) (by decide) (by decide) (by decide), all 36 (by decide) (by decide) (by decide) (by decide), all 37 (by decide) (by decide) (by decide) (by decide), all 38 (by decide) (by decide) (by decide) (by decide), all 39 (by decide) (by decide) (by decide) (by decide), all 72 (by decide) (by decide) (by decide) (by decide), all 73 (by decide) (by decide) (by decide) (by decide), all 41 (by decide) (by decide) (by decide) (by decide), all 42 (by decide) (by decide) (by decide) (by decide), all 43 (by decide) (by decide) (by decide) (by decide), all 44 (by decide) (by decide) (by decide) (by decide), all 45 (by decide) (by decide) (by decide) (by decide), all 46 (by decide) (by decide) (by decide) (by decide), all 47 (by decide) (by decide) (by decide) (by decide), all 48 (by decide) (by decide) (by decide) (by decide), all 74 (by decide) (by decide) (by decide) (by decide), all 75 (by decide) (by decide) (by decide) (by decide), all 76 (by decide) (by decide) (by decide) (by decide), all 15 (by decide) (by decide) (by decide) (by decide), all 16 (by decide) (by decide) (by decide) (by decide), all 17 (by decide) (by decide) (by decide) (by decide), all 18 (by decide) (by decide) (by decide) (by decide), all 19 (by decide) (by decide) (by decide) (by decide)]
        refine ⟨hrt, hcl, fun j hj => ?_, hit, htk, hsh, hrn, hst, I_gr.old (by rw [e14, upd_s])⟩
        refine ⟨(hpt j hj).1, ?_, (hpt j hj).2.2.1, ?_, ?_⟩
        · rw [e5, e55]
          by_cases e : j = p
          · subst e; rw [upd_s, upd_s]
          · rw [upd_n e, upd_n e]; exact (hpt j hj).2.1
        · intro s hs
          rw [e5] at hs
          by_cases e : j = p
          · subst e
            rw [upd_s, bt_set (by omega)] at hs
            rcases hs with hs | hs
            · exact (hpt j hj).2.2.2.1 s hs
            · omega
          · rw [upd_n e] at hs; exact (hpt j hj).2.2.2.1 s hs
        · rw [e7]
          refine sp_gl (T := σ 5) (S := σ 6) (fun _ _ _ h => h) (fun j s hj hs => ?_) (fun j hj => (hpt j hj).2.2.2.2) j hj
          rw [e5]
          by_cases e : j = p
          · subst e; rw [upd_s, bt_set (by omega)]; exact Or.inl hs
          · rw [upd_n e]; exact hs
    · unfold R_X11_flow
      refine e_isPM (fun _ => ⟨fun q => absurd q n01, fun _ => ?_⟩) (fun h9 => absurd hv h9)
      exact e_isPM (fun h9 => absurd h9 hu) (fun _ => ⟨fun q => absurd rfl q, fun _ => ⟨rfl, hI⟩⟩)
  · unfold R_X11_flow
    exact e_isPM (fun h9 => absurd h9 hv) (fun _ => ⟨fun _ => ⟨rfl, hI⟩, fun q => absurd rfl q⟩)
/-- rows that Inv doesn't look at -/
theorem Inv4.cg {n c ni nt : Nat} {σ ρ : pw_Mem} (h : Inv4 n c ni nt σ) (hs : ∀ k, ¬ (14 ≤ k ∧ k ≤ 21) → ¬ (31 ≤ k ∧ k ≤ 34) → ¬ (57 ≤ k ∧ k ≤ 62) → ¬ k = 70 → ¬ k = 71 → ¬ k = 49 → ρ k = σ k) (h49 : ∀ j, ¬ j = 26 → ρ 49 j = σ 49 j) (hg : I_gr n (ρ 14) (ρ 15) (ρ 16) (ρ 17) (ρ 18) (ρ 19) (plR (σ 10) (σ 12) (σ 7)) (plR (σ 11) (σ 13) (σ 7))) : Inv4 n c ni nt ρ := by
  have all : ∀ k, ¬ (14 ≤ k ∧ k ≤ 21) → ¬ (31 ≤ k ∧ k ≤ 34) → ¬ (57 ≤ k ∧ k ≤ 62) → ¬ k = 70 → ¬ k = 71 → ¬ k = 49 → ρ k = σ k := hs
  obtain ⟨hrt, hcl, hpt, hit, htk, hsh, hrn, hst, hgr⟩ := h
  unfold Inv4
  rw [h49 0 (by decide), h49 3 (by decide), h49 15 (by decide), h49 19 (by decide)]
  simp only [all 1 (by decide) (by decide) (by decide) (by decide) (by decide) (by decide), all 2 (by decide) (by decide) (by decide) (by decide) (by decide) (by decide), all 3 (by decide) (by decide) (by decide) (by decide) (by decide) (by decide), all 50 (by decide) (by decide) (by decide) (by decide) (by decide) (by decide), all 51 (by decide) (by decide) (by decide) (by decide) (by decide) (by decide), all 8 (by decide) (by decide) (by decide) (by decide) (by decide) (by decide), all 10 (by decide) (by decide) (by decide) (by decide) (by decide) (by decide), all 11 (by decide) (by decide) (by decide) (by decide) (by decide) (by decide), all 12 (by decide) (by decide) (by decide) (by decide) (by decide) (by decide), all 13 (by decide) (by decide) (by decide) (by decide) (by decide) (by decide), all 52 (by decide) (by decide) (by decide) (by decide) (by decide) (by decide), all 53 (by decide) (by decide) (by decide) (by decide) (by decide) (by decide), all 54 (by decide) (by decide) (by decide) (by decide) (by decide) (by decide), all 5 (by decide) (by decide) (by decide) (by decide) (by decide) (by decide), all 6 (by decide) (by decide) (by decide) (by decide) (by decide) (by decide), all 7 (by decide) (by decide) (by decide) (by decide) (by decide) (by decide), all 55 (by decide) (by decide) (by decide) (by decide) (by decide) (by decide), all 56 (by decide) (by decide) (by decide) (by decide) (by decide) (by decide), all 22 (by decide) (by decide) (by decide) (by decide) (by decide) (by decide), all 23 (by decide) (by decide) (by decide) (by decide) (by decide) (by decide), all 24 (by decide) (by decide) (by decide) (by decide) (by decide) (by decide), all 25 (by decide) (by decide) (by decide) (by decide) (by decide) (by decide), all 63 (by decide) (by decide) (by decide) (by decide) (by decide) (by decide), all 64 (by decide) (by decide) (by decide) (by decide) (by decide) (by decide), all 65 (by decide) (by decide) (by decide) (by decide) (by decide) (by decide), all 26 (by decide) (by decide) (by decide) (by decide) (by decide) (by decide), all 27 (by decide) (by decide) (by decide) (by decide) (by decide) (by decide), all 28 (by decide) (by decide) (by decide) (by decide) (by decide) (by decide), all 29 (by decide) (by decide) (by decide) (by decide) (by decide) (by decide), all 30 (by decide) (by decide) (by decide) (by decide) (by decide) (by decide), all 66 (by decide) (by decide) (by decide) (by decide) (by decide) (by decide), all 67 (by decide) (by decide) (by decide) (by decide) (by decide) (by decide), all 68 (by decide) (by decide) (by decide) (by decide) (by decide) (by decide), all 69 (by decide) (by decide) (by decide) (by decide) (by decide) (by decide), all 35 (by decide) (by decide) (by decide) (by decide) (by decide) (by decide), all 36 (by decide) (by decide) (by decide) (by decide) (by decide) (by decide), all 37 (by decide) (by decide) (by decide) (by decide) (by decide) (by decide), all 38 (by decide) (by decide) (by decide) (by decide) (by decide) (by decide), all 39 (by decide) (by decide) (by decide) (by decide) (by decide) (by decide), all 72 (by decide) (by decide) (by decide) (by decide) (by decide) (by decide), all 73 (by decide) (by decide) (by decide) (by decide) (by decide) (by decide), all 41 (by decide) (by decide) (by decide) (by decide) (by decide) (by decide), all 42 (by decide) (by decide) (by decide) (by decide) (by decide) (by decide), all 43 (by decide) (by decide) (by decide) (by decide) (by decide) (by decide), all 44 (by decide) (by decide) (by decide) (by decide) (by decide) (by decide), all 45 (by decide) (by decide) (by decide) (by decide) (by decide) (by decide), all 46 (by decide) (by decide) (by decide) (by decide) (by decide) (by decide), all 47 (by decide) (by decide) (by decide) (by decide) (by decide) (by decide), all 48 (by decide) (by decide) (by decide) (by decide) (by decide) (by decide), all 74 (by decide) (by decide) (by decide) (by decide) (by decide) (by decide), all 75 (by decide) (by decide) (by decide) (by decide) (by decide) (by decide), all 76 (by decide) (by decide) (by decide) (by decide) (by decide) (by decide)]
  refine ⟨hrt, hcl, hpt, hit, htk, hsh, ?_, hst, hg⟩
  obtain ⟨g, q1, q2, q3, q4, q5, q6, q7, q8, q9⟩ := hrn
  refine ⟨g, q1, q2, ?_, q4, ?_, ?_, ?_, ?_, ?_⟩
  · rw [h49 28 (by decide)]; exact q3
  · rw [h49 32 (by decide)]; exact q5
  · rw [h49 33 (by decide)]; exact q6
  · rw [h49 34 (by decide)]; exact q7
  · rw [h49 35 (by decide)]; exact q8
  · rw [h49 27 (by decide), h49 31 (by decide)]; exact q9
theorem o_goals {a : Int32} {σ : pw_Mem} (h : Inv σ) : R_X10_goals a σ (fun x τ => R_X11_goals a τ (fun y ρ => Nx x y ρ)) := by
  have hI := h
  obtain ⟨n, c, ni, nt, h4⟩ := h
  have hpt := h4.2.2.1
  have hgr := h4.2.2.2.2.2.2.2.2
  unfold R_X10_goals
  refine e_isP (fun hv => ⟨fun q => absurd q n01, fun _ => ?_⟩) (fun hv => ⟨fun _ => ?_, fun q => absurd rfl q⟩)
  · have hv0 := hv
    obtain ⟨p, hp, rfl⟩ := hv
    have hin : vp_in (nI p) 8 := vp_in_nI hp (by decide)
    refine ⟨hin, ?_⟩
    unfold R_X11_goals
    refine e_isPM (fun _ => ⟨fun _ => ?_, fun q => absurd q n01⟩) (fun h9 => absurd hv0 h9)
    refine m_layGoals (fun τ t1 t2 => ⟨hin, ?_, n, c, ni, nt, h4.cg (fun k _ _ k3 _ _ _ => t1 k (by omega)) (fun j _ => by rw [t1 49 (by decide)]) ?_⟩)
    · rw [cl_nI (by omega), t2 p hp, (hpt p hp).2.2.2.2]
      exact (gl_cg (fun q hq => (hpt q hq).1) (fun q hq => (hpt q hq).2.1) p hp).symm
    · rw [t1 14 (by decide), t1 15 (by decide), t1 16 (by decide), t1 17 (by decide), t1 18 (by decide), t1 19 (by decide)]
      exact hgr
  · unfold R_X11_goals
    exact e_isPM (fun h9 => absurd h9 hv) (fun _ => ⟨fun q => absurd rfl q, fun _ => ⟨rfl, hI⟩⟩)
