/-! routine, frame, turns -/
theorem nlt20 {n : Nat} (h : n ≤ 20) : nI n < 20 ↔ n < 20 := nI_ltI (b := 20) (by omega) (by omega)
theorem neq20 {n : Nat} (h : n ≤ 20) : nI n = 20 ↔ n = 20 := nI_eq (b := 20) (by omega) (by omega)
theorem o_routine {a : Int32} {σ : pw_Mem} (h : Inv σ) : R_X10_routine a σ (fun x τ => R_X11_routine a τ (fun y ρ => Nx x y ρ)) := by
  obtain ⟨n, c, ni, nt, hrt, hcl, hpt, hit, htk, hsh, hrn, hst, hgr⟩ := h
  obtain ⟨r1, r2, r3, r4, r5, r6⟩ := hrt
  unfold R_X10_routine
  refine e_rg 500 rfl (by decide) (fun hv => ⟨fun _ => ⟨fun q => ?_, fun q => ?_⟩, fun q => absurd q n01⟩) (fun hv => ⟨fun q => absurd rfl q, fun _ => ?_⟩)
  · rw [r2, nlt20 r1] at q
    unfold R_X2_outdate
    rintro _ rfl
    unfold R_X5_add
    simp only [pw_r (show ¬ 1 = 14 by decide), r2]
    refine ⟨vp_in_nI q (by decide), ?_⟩
    rintro _ rfl _ rfl
    unfold R_X11_routine
    refine e_rgM 500 rfl (by decide) (fun _ => ⟨fun _ => ⟨fun q2 => ?_, fun q2 => ?_⟩, fun q => absurd q n01⟩) (fun h9 => absurd hv h9)
    · simp (config := { decide := true }) only [pw_r, pw_s, not_false_eq_true, cl_nI (show n < 2 ^ 31 by omega), r2, r3, upd_s, upd_n]
      refine ⟨vp_in_nI q (by decide), ?_⟩
      rintro _ rfl
      simp (config := { decide := true }) only [pw_r, pw_s, not_false_eq_true, cl_nI (show n < 2 ^ 31 by omega), r2, r3, upd_s, upd_n]
      refine ⟨vp_in_nI q (by decide), ?_⟩
      rintro _ rfl _ rfl
      simp (config := { decide := true }) only [pw_r, pw_s, not_false_eq_true, cl_nI (show n < 2 ^ 31 by omega), r2, r3, upd_s, upd_n]
      refine ⟨rfl, n + 1, c, ni, nt, ?_⟩
      unfold Inv4
      simp (config := { decide := true }) only [pw_r, pw_s, not_false_eq_true, cl_nI (show n < 2 ^ 31 by omega), r2, r3, upd_s, upd_n]
      refine ⟨⟨by omega, nI_1 n, nI_1 n, fun i hi => ?_, fun i hi => ?_, fun i h1 h2 => r6 i (by omega) h2⟩, hcl.up (by omega), hpt.up (by omega), hit.up (by omega), htk.up (by omega), hsh, (hrn.up (by omega)).oth (by decide), hst, I_gr.old (upd_s _ _ _)⟩
      · by_cases e : i = n
        · subst e; rw [upd_s, upd_s]; exact ⟨hv, rfl⟩
        · rw [upd_n e, upd_n e]; exact r4 i (by omega)
      · by_cases e : i = n
        · subst e; rw [upd_s, r6 i (Nat.le_refl _) (by omega)]; exact ⟨⟨0, by decide, rfl⟩, rfl⟩
        · rw [upd_n e]; exact r5 i (by omega)
    · exfalso
      simp (config := { decide := true }) only [pw_r, not_false_eq_true, r3, neq20 r1] at q2
      omega
  · rw [r2, nlt20 r1] at q
    unfold R_X11_routine
    refine e_rgM 500 rfl (by decide) (fun _ => ⟨fun _ => ⟨fun q2 => ?_, fun q2 => ⟨rfl, n, c, ni, nt, ⟨r1, r2, r3, r4, r5, r6⟩, hcl, hpt, hit, htk, hsh, hrn, hst, hgr⟩⟩, fun q => absurd q n01⟩) (fun h9 => absurd hv h9)
    rw [r3, neq20 r1] at q2
    omega
  · unfold R_X11_routine
    exact e_rgM 500 rfl (by decide) (fun h9 => absurd h9 hv) (fun _ => ⟨fun q => absurd rfl q, fun _ => ⟨rfl, n, c, ni, nt, ⟨r1, r2, r3, r4, r5, r6⟩, hcl, hpt, hit, htk, hsh, hrn, hst, hgr⟩⟩)
theorem o_frame {a b : Int32} {σ : pw_Mem} (h : Inv σ) : R_X10_frame a b σ (fun x τ => R_X11_frame a b τ (fun y ρ => Nx x y ρ)) := by
  have hI := h
  obtain ⟨n, c, ni, nt, hrt, hcl, hpt, hit, htk, hsh, hrn, hst, hgr⟩ := h
  obtain ⟨r1, r2, r3, r4, r5, r6⟩ := hrt
  unfold R_X10_frame
  refine e_isR r2 r1 (fun hv => ⟨fun q => absurd q n01, fun _ => ?_⟩) (fun hv => ⟨fun _ => ?_, fun q => absurd rfl q⟩)
  · refine e_rg 500 rfl (by decide) (fun hw => ⟨fun _ => ⟨ok_in hv r1 (by decide), ok_in hv r1 (by decide), ?_⟩, fun q => absurd q n01⟩) (fun hw => ⟨fun q => absurd rfl q, fun _ => ?_⟩)
    · rintro _ rfl
      unfold R_X11_frame
      refine e_isM (n := n) (by rw [pw_r (by decide)]; exact r3) r1 (fun _ => ⟨fun q => absurd q n01, fun _ => ?_⟩) (fun h9 => absurd hv h9)
      refine e_rgM 500 rfl (by decide) (fun _ => ⟨fun _ => ⟨ok_in hv r1 (by decide), ok_in hv r1 (by decide), ?_⟩, fun q => absurd q n01⟩) (fun h9 => absurd hw h9)
      rintro _ rfl
      obtain ⟨j, hj, rfl⟩ := hv
      rw [cl_nI (by omega)]
      simp (config := { decide := true }) only [pw_r, not_false_eq_true]
      refine ⟨(r4 j hj).2.symm, n, c, ni, nt, ?_⟩
      unfold Inv4
      simp (config := { decide := true }) only [pw_r, pw_s, not_false_eq_true]
      refine ⟨⟨r1, r2, r3, fun i hi => ?_, r5, r6⟩, hcl, hpt, hit, htk, hsh, hrn, hst, hgr⟩
      by_cases e : i = j
      · subst e; rw [upd_s, upd_s]; exact ⟨hw, rfl⟩
      · rw [upd_n e, upd_n e]; exact r4 i hi
    · unfold R_X11_frame
      refine e_isM r3 r1 (fun _ => ⟨fun q => absurd q n01, fun _ => ?_⟩) (fun h9 => absurd hv h9)
      exact e_rgM 500 rfl (by decide) (fun h9 => absurd h9 hw) (fun _ => ⟨fun q => absurd rfl q, fun _ => ⟨rfl, hI⟩⟩)
  · unfold R_X11_frame
    exact e_isM r3 r1 (fun h9 => absurd h9 hv) (fun _ => ⟨fun _ => ⟨rfl, hI⟩, fun q => absurd rfl q⟩)
theorem o_turns {a b : Int32} {σ : pw_Mem} (h : Inv σ) : R_X10_turns a b σ (fun x τ => R_X11_turns a b τ (fun y ρ => Nx x y ρ)) := by
  have hI := h
  obtain ⟨n, c, ni, nt, hrt, hcl, hpt, hit, htk, hsh, hrn, hst, hgr⟩ := h
  obtain ⟨r1, r2, r3, r4, r5, r6⟩ := hrt
  unfold R_X10_turns
  refine e_isR r2 r1 (fun hv => ⟨fun q => absurd q n01, fun _ => ?_⟩) (fun hv => ⟨fun _ => ?_, fun q => absurd rfl q⟩)
  · refine e_rg 20 rfl (by decide) (fun hw => ⟨fun _ => ⟨ok_in hv r1 (by decide), ok_in hv r1 (by decide), ?_⟩, fun q => absurd q n01⟩) (fun hw => ⟨fun q => absurd rfl q, fun _ => ?_⟩)
    · rintro _ rfl
      unfold R_X11_turns
      refine e_isM (n := n) (by rw [pw_r (by decide)]; exact r3) r1 (fun _ => ⟨fun q => absurd q n01, fun _ => ?_⟩) (fun h9 => absurd hv h9)
      refine e_rgM 20 rfl (by decide) (fun _ => ⟨fun _ => ⟨ok_in hv r1 (by decide), ok_in hv r1 (by decide), ?_⟩, fun q => absurd q n01⟩) (fun h9 => absurd hw h9)
      rintro _ rfl
      obtain ⟨j, hj, rfl⟩ := hv
      rw [cl_nI (by omega)]
      simp (config := { decide := true }) only [pw_r, not_false_eq_true]
      refine ⟨(r5 j hj).2.symm, n, c, ni, nt, ?_⟩
      unfold Inv4
      simp (config := { decide := true }) only [pw_r, pw_s, not_false_eq_true]
      refine ⟨⟨r1, r2, r3, r4, fun i hi => ?_, fun i h1 h2 => by rw [upd_n (by omega)]; exact r6 i h1 h2⟩, hcl, hpt, hit, htk, hsh, hrn, hst, hgr⟩
      by_cases e : i = j
      · subst e; rw [upd_s, upd_s]; exact ⟨hw, rfl⟩
      · rw [upd_n e, upd_n e]; exact r5 i hi
    · unfold R_X11_turns
      refine e_isM r3 r1 (fun _ => ⟨fun q => absurd q n01, fun _ => ?_⟩) (fun h9 => absurd hv h9)
      exact e_rgM 20 rfl (by decide) (fun h9 => absurd h9 hw) (fun _ => ⟨fun q => absurd rfl q, fun _ => ⟨rfl, hI⟩⟩)
  · unfold R_X11_turns
    exact e_isM r3 r1 (fun h9 => absurd h9 hv) (fun _ => ⟨fun _ => ⟨rfl, hI⟩, fun q => absurd rfl q⟩)
