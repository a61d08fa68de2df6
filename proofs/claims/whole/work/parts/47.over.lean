/-! over -/
theorem o_over {a : Int32} {σ : pw_Mem} (h : Inv σ) : R_X10_over a σ (fun x τ => R_X11_over a τ (fun y ρ => Nx x y ρ)) := by
  have hI := h
  obtain ⟨n, c, ni, nt, h4⟩ := h
  obtain ⟨r1, r2, r3, r4, r5, r6⟩ := h4.1
  obtain ⟨g, q1, q2, q3, -⟩ := h4.2.2.2.2.2.2.1
  unfold R_X10_over
  refine e_isR r2 r1 (fun hv => ⟨fun _ => ⟨fun z => ?_, fun z => ?_⟩, fun q => absurd q n01⟩) (fun hv => ⟨fun q => absurd rfl q, fun _ => ?_⟩)
  · rw [q2] at z
    have hg0 : g ≠ 0 := fun e => z (by rw [e]; rfl)
    have hv0 := hv
    obtain ⟨r, hr, rfl⟩ := hv
    refine refr h4 (fun τ t1 h5 t3 => ?_)
    obtain ⟨g1, -, -⟩ := h5.gr t3
    obtain ⟨s1, s2, s3, s4, s5, s6⟩ := h5.1
    obtain ⟨g', p1, p2, p3, p4, p5, p6, p7, p8, p9⟩ := h5.2.2.2.2.2.2.1
    have eg : g' = g := nI_inj (by omega) (by omega) (by rw [← p2, t1 37 (by decide), q2])
    subst eg
    have p9x : ok (τ 37 7) n ∧ τ 49 27 = 1 ∧ τ 49 31 = τ 37 7 := p9.elim (fun h => absurd h.2.2 hg0) id
    obtain ⟨m, rfl⟩ : ∃ m, g' = m + 1 := ⟨g' - 1, by omega⟩
    unfold R_X9_onTop
    rw [p2, nI_pred]
    refine ⟨vp_in_nI (by omega) (by decide), ?_⟩
    rw [cl_nI (by omega)]
    obtain ⟨⟨w, hw, ew⟩, p42, p43⟩ := p4 m (by omega)
    rw [ew]
    refine ⟨vp_in_nI (by omega) (by decide), ?_⟩
    rw [cl_nI (by omega), (g1 w hw).2.1]
    obtain ⟨⟨t, ht, et⟩, et'⟩ := s5 r hr
    have hm40 : m < 40 := by omega
    have md : ∀ (τ0 : pw_Mem) (v : Int32), (∀ k, ¬ k = 37 → τ0 k = τ k) → (∀ j, ¬ j = 5 → τ0 37 j = τ 37 j) → τ0 37 5 = τ 37 5 + v → v = (if bt (Tt τ w) r then 0 else 1) → R_X9_pop τ0 (fun τ2 => R_X10_pushMarked (nI r) τ2 (fun x10 τ9 => R_X11_over (nI r) τ9 (fun y ρ => Nx x10 y ρ))) := by
      intro τ0 v w1 w2 w3 u4
      unfold R_X9_pop
      rintro _ rfl
      rw [w2 2 (by decide), p2, nI_pred, pw_s, upd_s]
      refine ⟨vp_in_nI (by omega) (by decide), ?_⟩
      intro τ2 hτ2
      rw [upd_n (by decide), pw_r (by decide : ¬ 39 = 37), cl_nI (by omega), w1 39 (by decide), w2 3 (by decide)] at hτ2
      have u1 : ∀ k, ¬ k = 37 → τ2 k = τ k := fun k hk => by rw [hτ2, pw_r hk, pw_r hk, w1 k hk]
      have u37 : ∀ j, ¬ j = 2 → ¬ j = 3 → ¬ j = 5 → τ2 37 j = τ 37 j := fun j j1 j2 j3 => by rw [hτ2, pw_s, pw_s, upd_n j2, upd_n j1, w2 j j3]
      have u372 : τ2 37 2 = nI m := by rw [hτ2, pw_s, pw_s, upd_n (by decide), upd_s]
      have u373 : τ2 37 3 = τ 37 3 - τ 39 m := by rw [hτ2, pw_s, upd_s]
      have u3 : τ2 37 5 = τ 37 5 + v := by rw [hτ2, pw_s, pw_s, upd_n (by decide), upd_n (by decide), w3]
      refine e_pushM (t := t) (h := m) (by omega) hm40 (by omega) u372 (by rw [u1 3 (by decide)]; exact et) (fun μ a1 a2 a3 a4 a5 a6 a7 a8 a9 => ?_)
      have moth : ∀ k, ¬ k = 37 → ¬ k = 38 → ¬ k = 39 → μ k = τ k := fun k k1 k2 k3 => by rw [a1 k k1 k2 k3, u1 k k1]
      -- the state that layNet sees: Inv4 holds for τ; net rows come from rows that didn't change
      unfold R_X11_over
      refine e_isM (n := n) (by rw [moth 49 (by decide) (by decide) (by decide)]; exact s3) s1 (fun _ => ⟨fun _ => ⟨fun _ => ?_, fun e => ?_⟩, fun q => absurd q n01⟩) (fun h9 => absurd hv0 h9)
      · refine m_layNet (n := n) (c := c) s1 (by rw [moth 49 (by decide) (by decide) (by decide)]; exact s3) ?_ ?_ (fun ρ b1 b2 => ?_)
        · rw [moth 8 (by decide) (by decide) (by decide), moth 10 (by decide) (by decide) (by decide), moth 11 (by decide) (by decide) (by decide), moth 12 (by decide) (by decide) (by decide), moth 13 (by decide) (by decide) (by decide), moth 49 (by decide) (by decide) (by decide), moth 52 (by decide) (by decide) (by decide), moth 53 (by decide) (by decide) (by decide), moth 54 (by decide) (by decide) (by decide)]
          exact h5.2.1
        · rw [moth 5 (by decide) (by decide) (by decide), moth 6 (by decide) (by decide) (by decide), moth 7 (by decide) (by decide) (by decide), moth 55 (by decide) (by decide) (by decide), moth 56 (by decide) (by decide) (by decide)]
          exact h5.2.2.1
        · have c49 : ρ 49 = τ 49 := by rw [b1 49 (by decide), moth 49 (by decide) (by decide) (by decide)]
          have c72 : ρ 72 = τ 72 := by rw [b1 72 (by decide), moth 72 (by decide) (by decide) (by decide)]
          have c58 : ρ 59 w = Tt τ w := by
            rw [(b2 w hw).2.1, moth 11 (by decide) (by decide) (by decide), moth 13 (by decide) (by decide) (by decide), moth 7 (by decide) (by decide) (by decide)]
          rw [c49, p3, nI_pred, cl_nI (by omega), c72, p42, ew, cl_nI (show w < 2 ^ 31 by omega), c58]
          refine ⟨vp_in_nI (by omega) (by decide), vp_in_nI (by omega) (by decide), ?_⟩
          have c73 : ρ 73 = τ 73 := by rw [b1 73 (by decide), moth 73 (by decide) (by decide) (by decide)]
          have fin : ∀ v2, v2 = (if bt (Tt τ w) r then 0 else 1) → ∀ ρ2, ρ2 = pw_up ρ 49 34 (τ 49 34 + v2) → R_X11_pull ρ2 (fun τ5 => R_X11_put (nI r) τ5 (fun τ6 => Nx (μ 37 3) (τ6 49 32) τ6)) := by
            rintro v2 hv2 _ rfl
            unfold R_X11_pull
            rintro _ rfl
            rw [pw_s, pw_s, upd_s, upd_n (by decide), c49, p3, nI_pred]
            refine ⟨vp_in_nI (by omega) (by decide), ?_⟩
            intro ρ3 hρ3
            rw [pw_r (by decide : ¬ 73 = 49), pw_r (by decide : ¬ 73 = 49), c73, cl_nI (show m < 2 ^ 31 by omega), upd_n (by decide), upd_n (by decide)] at hρ3
            have d49 : ∀ j, ¬ j = 34 → ¬ j = 28 → ¬ j = 32 → ρ3 49 j = τ 49 j := fun j j1 j2 j3 => by rw [hρ3, pw_s, pw_s, pw_s, upd_n j3, upd_n j2, upd_n j1, c49]
            have d28 : ρ3 49 28 = nI m := by rw [hρ3, pw_s, pw_s, upd_n (by decide), upd_s]
            have d32 : ρ3 49 32 = τ 49 32 - τ 73 m := by rw [hρ3, pw_s, upd_s]
            have d34 : ρ3 49 34 = τ 49 34 + v2 := by rw [hρ3, pw_s, pw_s, pw_s, upd_n (by decide), upd_n (by decide), upd_s]
            have doth : ∀ k, ¬ k = 49 → ρ3 k = ρ k := fun k hk => by rw [hρ3, pw_r hk, pw_r hk, pw_r hk]
            refine m_put (t := t) (h := m) (by omega) hm40 (by omega) d28 (by rw [doth 51 (by decide), b1 51 (by decide), moth 51 (by decide) (by decide) (by decide), et', et]) (fun κ f1 f2 f3 f4 f5 f6 f7 f8 => ?_)
            have z50 : ρ3 50 = τ 50 := by rw [doth 50 (by decide), b1 50 (by decide), moth 50 (by decide) (by decide) (by decide)]
            have z72 : ρ3 72 = τ 72 := by rw [doth 72 (by decide), c72]
            have z73 : ρ3 73 = τ 73 := by rw [doth 73 (by decide), c73]
            rw [z72] at f2 f8
            rw [z73, z50] at f3
            rw [z50] at f6 f7
            rw [d32] at f6 f7
            rw [d49 33 (by decide) (by decide) (by decide)] at f7
            rw [d49 35 (by decide) (by decide) (by decide)] at f8
            rw [u1 38 (by decide)] at a2 a8
            rw [u1 39 (by decide), u1 2 (by decide)] at a3
            rw [u1 2 (by decide)] at a5 a6
            rw [u373] at a5 a6
            rw [u37 4 (by decide) (by decide) (by decide)] at a6
            rw [u37 6 (by decide) (by decide) (by decide)] at a8
            rw [u37 7 (by decide) (by decide) (by decide)] at a9
            refine ⟨by rw [a5, f6, p5, (s4 r hr).2, p43], n, c, ni, nt, ?_⟩
            have koth : ∀ k, ¬ k = 49 → ¬ k = 72 → ¬ k = 73 → ¬ (57 ≤ k ∧ k ≤ 61) → κ k = μ k := fun k k1 k2 k3 k4 => by rw [f1 k k1 k2 k3, doth k k1, b1 k k4]
            have hκ : Inv4 n c ni nt (fun k => if k = 37 then τ 37 else if k = 38 then τ 38 else if k = 39 then τ 39 else if k = 49 then τ 49 else if k = 72 then τ 72 else if k = 73 then τ 73 else κ k) := by
              refine h5.cg (fun k k1 k2 k3 k4 k5 k6 => ?_) (fun j _ => rfl) ?_
              · show (if k = 37 then _ else _) = _
                by_cases e1 : k = 37
                · rw [if_pos e1, e1]
                · rw [if_neg e1]
                  by_cases e2 : k = 38
                  · rw [if_pos e2, e2]
                  · rw [if_neg e2]
                    by_cases e3 : k = 39
                    · rw [if_pos e3, e3]
                    · rw [if_neg e3, if_neg k6]
                      by_cases e5 : k = 72
                      · rw [if_pos e5, e5]
                      · rw [if_neg e5]
                        by_cases e6 : k = 73
                        · rw [if_pos e6, e6]
                        · rw [if_neg e6, koth k k6 e5 e6 (by omega), moth k e1 e2 e3]
              · have := h5.2.2.2.2.2.2.2.2
                have e14 : ∀ k, 14 ≤ k → k ≤ 19 → κ k = τ k := fun k k1 k2 => by rw [koth k (by omega) (by omega) (by omega) (by omega), moth k (by omega) (by omega) (by omega)]
                show I_gr n (κ 14) (κ 15) (κ 16) (κ 17) (κ 18) (κ 19) _ _
                rw [e14 14 (by decide) (by decide), e14 15 (by decide) (by decide), e14 16 (by decide) (by decide), e14 17 (by decide) (by decide), e14 18 (by decide) (by decide), e14 19 (by decide) (by decide)]
                exact this
            refine hκ.run (fun k k1 k2 k3 => ?_) (fun j hj => ?_) ?_
            · show κ k = (if k = 37 then _ else _)
              rw [if_neg (by omega), if_neg (by omega), if_neg (by omega), if_neg (by omega), if_neg (by omega), if_neg (by omega)]
            · show κ 49 j = τ 49 j
              rw [f4 j (by omega) (by omega) (by omega) (by omega), d49 j (by omega) (by omega) (by omega)]
            · rw [koth 37 (by decide) (by decide) (by decide) (by decide), koth 38 (by decide) (by decide) (by decide) (by decide), koth 39 (by decide) (by decide) (by decide) (by decide)]
              refine I_rn.push (t := t) (σ := fun k j => if k = 37 ∧ j = 3 then τ 37 3 - τ 39 m else if k = 49 ∧ j = 32 then τ 49 32 - τ 73 m else τ k j) (s5 := τ 37 5 + v) (s34 := τ 49 34 + v2) (μ := μ) hr hm40 (by rw [u4, hv2, p7]) (fun i hi => p4 i (by omega)) (by show τ 49 32 - τ 73 m = τ 37 3 - τ 39 m; rw [p5, p43]) p6 p8 p9x (s4 r hr).2 a2 a3 a4 a5 a6 (by rw [a7, u3]) a8 a9 f2 f3 f5 f6 f7 ?_ f8 ?_ ?_
              · rw [f4 34 (by decide) (by decide) (by decide) (by decide), d34]
              · rw [f4 27 (by decide) (by decide) (by decide) (by decide), d49 27 (by decide) (by decide) (by decide)]; rfl
              · rw [f4 31 (by decide) (by decide) (by decide) (by decide), d49 31 (by decide) (by decide) (by decide)]; rfl
          cases hb1 : bt (Tt τ w) r with
          | true => exact ⟨fun q => absurd (ybit (by omega) hb1) q, fun _ => fun ρ2 hρ2 => fin 0 (by rw [hb1]; rfl) ρ2 hρ2⟩
          | false => exact ⟨fun _ => fun ρ2 hρ2 => fin 1 (by rw [hb1]; rfl) ρ2 hρ2, fun q => absurd q (nbit (by omega) hb1)⟩
      · rw [moth 49 (by decide) (by decide) (by decide), p3] at e
        exact absurd e z
    unfold R_X9_markStep
    refine e_holds (by omega) (fun hb1 => ⟨fun _ => ?_, fun q => absurd q n01⟩) (fun hb1 => ⟨fun q => absurd rfl q, fun _ => ?_⟩)
    · exact md τ 0 (fun _ _ => rfl) (fun _ _ => rfl) (Int32.add_zero _).symm (by rw [hb1]; rfl)
    · rintro _ rfl
      exact md _ 1 (fun k hk => pw_r hk) (fun j hj => by rw [pw_s, upd_n hj]) (by rw [pw_s, upd_s]) (by rw [hb1]; rfl)
  · rw [q2] at z
    show R_X11_over a σ (fun y ρ => Nx (-2) y ρ)
    unfold R_X11_over
    refine e_isM r3 r1 (fun _ => ⟨fun _ => ⟨fun e => ?_, fun _ => ⟨rfl, hI⟩⟩, fun q => absurd q n01⟩) (fun h9 => absurd hv h9)
    rw [q3] at e; exact absurd z e
  · show R_X11_over a σ (fun y ρ => Nx (-1) y ρ)
    unfold R_X11_over
    exact e_isM r3 r1 (fun h9 => absurd h9 hv) (fun _ => ⟨fun q => absurd rfl q, fun _ => ⟨rfl, hI⟩⟩)
