/-! endless, enter, over -/
theorem lst_first {x : Int32} {i : Nat} (hi : i < 20) (h0 : ∀ j, j < i → bt x j = false) (h1 : bt x i = true) : lst x 20 0 = i := by
  obtain ⟨g1, g2⟩ := lst_lt hi h1
  refine Nat.le_antisymm g1 (Nat.le_of_not_lt fun q => ?_)
  rw [h0 _ q] at g2
  cases g2
theorem lst_none {x : Int32} (h0 : ∀ j, j < 20 → bt x j = false) : lst x 20 0 = 20 := by
  obtain ⟨h1, h2, h3, h4⟩ := lst_spec (x := x) 20 0
  refine Nat.le_antisymm (by omega) (Nat.le_of_not_lt fun q => ?_)
  have := h1 (by omega)
  rw [h0 _ q] at this
  cases this
def wt (t : Rows) : Nat → Int32
  | 0 => 0
  | k + 1 => if t k = 0 then wt t k ||| one k else wt t k
theorem wt_bt {t : Rows} {r : Nat} : ∀ k, k ≤ 32 → (bt (wt t k) r = true ↔ (r < k ∧ t r = 0)) := by
  intro k
  induction k with
  | zero =>
    intro _
    refine ⟨fun h => absurd h (by show ¬ bt 0 r = true; rw [b_0]; decide), fun h => absurd h.1 (Nat.not_lt_zero _)⟩
  | succ k ih =>
    intro hk
    have ih := ih (by omega)
    show bt (if t k = 0 then wt t k ||| one k else wt t k) r = true ↔ _
    by_cases e : t k = 0
    · rw [if_pos e, bt_set (by omega), ih]
      constructor
      · rintro (h | h)
        · exact ⟨by omega, h.2⟩
        · subst h; exact ⟨by omega, e⟩
      · rintro ⟨h1, h2⟩
        by_cases e2 : r = k
        · exact Or.inr e2
        · exact Or.inl ⟨by omega, h2⟩
    · rw [if_neg e, ih]
      constructor
      · rintro ⟨h1, h2⟩; exact ⟨by omega, h2⟩
      · rintro ⟨h1, h2⟩
        by_cases e2 : r = k
        · subst e2; exact absurd h2 e
        · exact ⟨by omega, h2⟩
theorem e_woL {K : Int32 → pw_Mem → Prop} {KX : Int32 → Int32 → pw_Mem → Prop} {n : Nat} {σ : pw_Mem} (hn : n ≤ 20) (h0 : σ 1 2 = nI n) (hX : KX (wt (σ 3) n) (nI n) σ) : ∀ (k i : Nat), i + k = n → R_X5_withoutTurns_L4 K KX (k + 1) (wt (σ 3) i) (nI i) σ := by
  intro k
  induction k with
  | zero =>
    intro i hi
    have e : i = n := by omega
    subst e
    unfold R_X5_withoutTurns_L4
    rw [h0]
    exact ⟨fun _ => hX, fun z => absurd (nI_le (Nat.le_refl i) (by omega)) z⟩
  | succ k ih =>
    intro i hi
    have h2 := ih (i + 1) (by omega)
    have e : wt (σ 3) (i + 1) = if σ 3 i = 0 then wt (σ 3) i ||| one i else wt (σ 3) i := rfl
    rw [e] at h2
    unfold R_X5_withoutTurns_L4
    rw [h0, cl_nI (by omega), nI_1]
    refine ⟨fun z => absurd ((nI_leI (by omega) (by omega)).mp z) (by omega), fun _ => ⟨vp_in_nI (by omega) (by decide), fun q => ?_, fun q => ?_⟩⟩
    · rw [if_neg q] at h2; exact h2
    · rw [if_pos q] at h2; exact h2
theorem m_endL {K : Int32 → pw_Mem → Prop} {KX : Int32 → Int32 → pw_Mem → Prop} {n c ni nt r : Nat} {σ : pw_Mem} {X : Int32} (h4 : Inv4 n c ni nt σ) (hN : Net n σ) (hr : r < n) (hx : ∀ k, k < n → (bt X k = true ↔ ((k = r ∨ bt (gR n (Pp σ) (Tt σ) r) k = true) ∧ bt (gG n (Pp σ) (Tt σ)) k = true ∧ σ 51 k = 0))) (h1 : ∀ i, i < n → (∀ j, j < i → bt X j = false) → bt X i = true → K (nI i) σ) (hX : (∀ j, j < n → bt X j = false) → KX (nI r) (nI n) σ) : ∀ (k i : Nat), i + k = n → (∀ j, j < i → bt X j = false) → R_X11_endless_L16 K KX (k + 1) (nI r) (nI i) σ := by
  have hn := h4.1.1
  intro k
  induction k with
  | zero =>
    intro i hi hf
    have e : i = n := by omega
    subst e
    unfold R_X11_endless_L16
    rw [h4.1.2.2.1]
    exact ⟨fun _ => hX hf, fun z => absurd (nI_le (Nat.le_refl i) (by omega)) z⟩
  | succ k ih =>
    intro i hi hf
    have hin : vp_in (nI i) 20 := vp_in_nI (by omega) (by decide)
    have hin2 : vp_in (nI r) 20 := vp_in_nI (by omega) (by decide)
    have hi2 : i < n := by omega
    have nxt : ¬ bt X i = true → R_X11_endless_L16 K KX (k + 1) (nI r) (nI i + 1) σ := fun z => by
      rw [nI_1]
      refine ih (i + 1) (by omega) (fun j hj => ?_)
      by_cases e : j = i
      · subst e
        cases hh : bt X j with
        | true => exact absurd hh z
        | false => rfl
      · exact hf j (by omega)
    have ring : (i = r ∨ bt (gR n (Pp σ) (Tt σ) r) i = true) → R_X11_isRing (nI i) σ (fun x5 τ4 => ((x5 = 0 → R_X11_endless_L16 K KX (k + 1) (nI r) (nI i + 1) τ4) ∧ (¬ x5 = 0 → vp_in (nI i) 20 ∧ ((¬ (τ4 51 (Int32.toNatClampNeg (nI i))) = 0 → R_X11_endless_L16 K KX (k + 1) (nI r) (nI i + 1) τ4) ∧ ((τ4 51 (Int32.toNatClampNeg (nI i))) = 0 → K (nI i) τ4))))) := fun hor => by
      refine m_isRing h4 hN hi2 (fun hg => ⟨fun q => absurd q n01, fun _ => ⟨hin, fun q => ?_, fun q => ?_⟩⟩) (fun hg => ⟨fun _ => nxt (fun z => ?_), fun q => absurd rfl q⟩)
      · rw [cl_nI (by omega)] at q
        exact nxt (fun z => q ((hx i hi2).mp z).2.2)
      · rw [cl_nI (by omega)] at q
        exact h1 i hi2 hf ((hx i hi2).mpr ⟨hor, hg, q⟩)
      · have := ((hx i hi2).mp z).2.1
        rw [hg] at this; cases this
    unfold R_X11_endless_L16
    rw [h4.1.2.2.1]
    refine ⟨fun z => absurd ((nI_leI (by omega) (by omega)).mp z) (by omega), fun _ => ⟨fun q => ?_, fun q => ⟨hin2, fun q2 => nxt (fun z => ?_), fun q2 => ?_⟩⟩⟩
    · exact ring (Or.inl (nI_inj (by omega) (by omega) q))
    · rcases ((hx i hi2).mp z).1 with e | e
      · exact q (by rw [e])
      · rw [cl_nI (by omega), (hN r hr).2.2.1] at q2
        exact q2 (ybit (by omega) e)
    · rw [cl_nI (show r < 2 ^ 31 by omega), (hN r hr).2.2.1] at q2
      refine ring (Or.inr ?_)
      cases hh : bt (gR n (Pp σ) (Tt σ) r) i with
      | true => rfl
      | false => exact absurd q2 (nbit (by omega) hh)
theorem o_endless {a : Int32} {σ : pw_Mem} (h : Inv σ) : R_X10_endless a σ (fun x τ => R_X11_endless a τ (fun y ρ => Nx x y ρ)) := by
  have hI := h
  obtain ⟨n, c, ni, nt, h4⟩ := h
  obtain ⟨r1, r2, r3, r4, r5, r6⟩ := h4.1
  unfold R_X10_endless
  refine e_isR r2 r1 (fun hv => ⟨fun _ => ?_, fun q => absurd q n01⟩) (fun hv => ⟨fun q => absurd rfl q, fun _ => ?_⟩)
  · refine refr h4 (fun τ t1 h5 t3 => ?_)
    have hv0 := hv
    obtain ⟨r, hr, rfl⟩ := hv
    have hin : vp_in (nI r) 20 := vp_in_nI (by omega) (by decide)
    obtain ⟨g1, g2, g3⟩ := h5.gr t3
    have hbd := h5.bd
    obtain ⟨s1, s2, s3, s4, s5, s6⟩ := h5.1
    unfold R_X2_selfAndReached
    refine ⟨hin, ⟨n + 1, e_woL s1 s2 ?_ n 0 (by omega)⟩⟩
    rw [cl_nI (by omega), (g1 r hr).2.2.1, g2]
    show R_X10_leastOf ((gR n (Pp τ) (Tt τ) r ||| one r) &&& gG n (Pp τ) (Tt τ) &&& wt (τ 3) n) τ _
    generalize hXe : (gR n (Pp τ) (Tt τ) r ||| one r) &&& gG n (Pp τ) (Tt τ) &&& wt (τ 3) n = X
    have hXb : ∀ k, bt X k = true ↔ ((bt (gR n (Pp τ) (Tt τ) r) k = true ∨ k = r) ∧ bt (gG n (Pp τ) (Tt τ)) k = true ∧ k < n ∧ τ 3 k = 0) := fun k => by
      rw [← hXe, b_and, b_and, Bool.and_eq_true, Bool.and_eq_true, bt_set (by omega), wt_bt n (by omega)]
      constructor
      · rintro ⟨⟨h1, h2⟩, h3⟩; exact ⟨h1, h2, h3⟩
      · rintro ⟨h1, h2, h3⟩; exact ⟨⟨h1, h2⟩, h3⟩
    have md : ∀ x : Int32, x = (if lst X 20 0 < 20 then nI (lst X 20 0) else -4) → R_X11_endless (nI r) τ (fun y ρ => Nx x y ρ) := by
      intro x hx
      unfold R_X11_endless
      refine e_isM s3 s1 (fun _ => ⟨fun _ => ?_, fun q => absurd q n01⟩) (fun h9 => absurd hv0 h9)
      refine layn h5 (fun ρ p1 p2 p3 => ?_)
      obtain ⟨eP, eT⟩ := Pp_cg p1
      refine ⟨n + 1, m_endL (X := X) p2 p3 hr (fun k hk => ?_) (fun i hi hf hb1 => ⟨?_, n, c, ni, nt, p2⟩) (fun hf => ⟨?_, n, c, ni, nt, p2⟩) n 0 (by omega) (fun j hj => by omega)⟩
      · rw [hXb, eP, eT, p1 51 (by decide), (s5 k hk).2]
        constructor
        · rintro ⟨h1, h2, h3, h6⟩; exact ⟨h1.elim Or.inr Or.inl, h2, h6⟩
        · rintro ⟨h1, h2, h3⟩; exact ⟨h1.elim Or.inr Or.inl, h2, hk, h3⟩
      · have := lst_first (by omega) hf hb1
        rw [hx, this, if_pos (by omega)]
      · have := lst_none (x := X) (fun j hj => by
          by_cases e : j < n
          · exact hf j e
          · cases hh : bt X j with
            | false => rfl
            | true => exact absurd ((hXb j).mp hh).2.2.1 e)
        rw [hx, this, if_neg (by decide)]
    exact e_least (fun hl => md _ (by rw [if_pos hl])) (fun hl => md _ (by rw [hl, if_neg (by decide)]))
  · unfold R_X11_endless
    exact e_isM r3 r1 (fun h9 => absurd h9 hv) (fun _ => ⟨fun q => absurd rfl q, fun _ => ⟨rfl, hI⟩⟩)
/-- the run's rows behind a push on both sides -/
theorem I_rn.push {n h r t : Nat} {σ τ μ ρ : pw_Mem} {s5 s34 : Int32} (hr : r < n) (hh : h < 40) (e5 : s34 = s5)
    (q4 : ∀ i, i < h → ok (σ 38 i) n ∧ σ 72 i = σ 38 i ∧ σ 73 i = σ 39 i) (q5 : σ 49 32 = σ 37 3) (q6 : σ 49 33 = σ 37 4) (q8 : σ 49 35 = σ 37 6) (q9 : ok (σ 37 7) n ∧ σ 49 27 = 1 ∧ σ 49 31 = σ 37 7) (fr : σ 50 r = σ 2 r)
    (a2 : τ 38 = upd (σ 38) h (nI r)) (a3 : τ 39 = upd (σ 39) h (σ 2 r)) (a4 : τ 37 2 = nI (h + 1)) (a5 : τ 37 3 = σ 37 3 + σ 2 r) (a6 : τ 37 4 = mx (σ 37 4) (σ 37 3 + σ 2 r)) (a7 : τ 37 5 = s5) (a8 : τ 37 6 = σ 37 6 + ofn t (oc (σ 38) (nI r) h)) (a9 : τ 37 7 = σ 37 7)
    (b2 : ρ 72 = upd (σ 72) h (nI r)) (b3 : ρ 73 = upd (σ 73) h (σ 50 r)) (b4 : ρ 49 28 = nI (h + 1)) (b5 : ρ 49 32 = σ 49 32 + σ 50 r) (b6 : ρ 49 33 = mx (σ 49 33) (σ 49 32 + σ 50 r)) (b7 : ρ 49 34 = s34) (b8 : ρ 49 35 = σ 49 35 + ofn t (oc (σ 72) (nI r) h)) (b9 : ρ 49 27 = σ 49 27) (b10 : ρ 49 31 = σ 49 31) : I_rn n (τ 37) (τ 38) (τ 39) (ρ 49) (ρ 72) (ρ 73) := by
  refine ⟨h + 1, by omega, a4, b4, fun i hi => ?_, ?_, ?_, ?_, ?_, Or.inr ⟨?_, ?_, ?_⟩⟩
  · rw [a2, a3, b2, b3, fr]
    by_cases e : i = h
    · subst e; rw [upd_s, upd_s, upd_s, upd_s]; exact ⟨⟨r, hr, rfl⟩, rfl, rfl⟩
    · rw [upd_n e, upd_n e, upd_n e, upd_n e]; exact q4 i (by omega)
  · rw [b5, a5, q5, fr]
  · rw [b6, a6, q5, q6, fr]
  · rw [b7, a7, e5]
  · rw [b8, a8, q8, oc_cg (f := σ 72) (g := σ 38) h (fun i hi => (q4 i hi).2.1)]
  · rw [a9]; exact q9.1
  · rw [b9]; exact q9.2.1
  · rw [b10, a9]; exact q9.2.2
theorem o_enter {a : Int32} {σ : pw_Mem} (h : Inv σ) : R_X10_enter a σ (fun x τ => R_X11_enter a τ (fun y ρ => Nx x y ρ)) := by
  have hI := h
  obtain ⟨n, c, ni, nt, h4⟩ := h
  obtain ⟨r1, r2, r3, r4, r5, r6⟩ := h4.1
  obtain ⟨g, q1, q2, q3, -⟩ := h4.2.2.2.2.2.2.1
  unfold R_X10_enter
  refine e_isR r2 r1 (fun hv => ⟨fun _ => ⟨fun z => ⟨fun z2 => ?_, fun z2 => ?_⟩, fun z => ?_⟩, fun q => absurd q n01⟩) (fun hv => ⟨fun q => absurd rfl q, fun _ => ?_⟩)
  · rw [q2] at z z2
    have hg40 := (nltk 40 q1 (by decide)).mp z2
    have hg0 : g ≠ 0 := fun e => z (by rw [e]; rfl)
    have hv0 := hv
    obtain ⟨r, hr, rfl⟩ := hv
    refine refr h4 (fun τ t1 h5 t3 => ?_)
    obtain ⟨g1, -, -⟩ := h5.gr t3
    obtain ⟨s1, s2, s3, s4, s5, s6⟩ := h5.1
    obtain ⟨g', p1, p2, p3, p4, p5, p6, p7, p8, p9⟩ := h5.2.2.2.2.2.2.1
    have eg : g' = g := nI_inj (by omega) (by omega) (by rw [← p2, t1 37 (by decide), q2])
    subst eg
    have p9x : ok (τ 37 7) n ∧ τ 49 27 = 1 ∧ τ 49 31 = τ 37 7 := p9.elim (fun h => absurd h.2.2 hg0) id
    obtain ⟨m, rfl⟩ : ∃ m, g' = m + 1 := ⟨g' - 1, by omega⟩
    unfold R_X9_onTop
    rw [p2, nI_pred]
    refine ⟨vp_in_nI (by omega) (by decide), ?_⟩
    rw [cl_nI (by omega)]
    obtain ⟨⟨w, hw, ew⟩, p42, p43⟩ := p4 m (by omega)
    rw [ew]
    refine ⟨vp_in_nI (by omega) (by decide), ?_⟩
    rw [cl_nI (by omega), (g1 w hw).1]
    obtain ⟨⟨t, ht, et⟩, et'⟩ := s5 r hr
    have md : ∀ (τ2 : pw_Mem) (v : Int32), (∀ k, ¬ k = 37 → τ2 k = τ k) → (∀ j, ¬ j = 5 → τ2 37 j = τ 37 j) → τ2 37 5 = τ 37 5 + v → v = (if bt (Pp τ w) r then 0 else 1) → R_X10_pushMarked (nI r) τ2 (fun x10 τ9 => R_X11_enter (nI r) τ9 (fun y ρ => Nx x10 y ρ)) := by
      intro τ2 v u1 u2 u3 u4
      refine e_pushM (t := t) (h := m + 1) (by omega) hg40 (by omega) (by rw [u2 2 (by decide)]; exact p2) (by rw [u1 3 (by decide)]; exact et) (fun μ a1 a2 a3 a4 a5 a6 a7 a8 a9 => ?_)
      have moth : ∀ k, ¬ k = 37 → ¬ k = 38 → ¬ k = 39 → μ k = τ k := fun k k1 k2 k3 => by rw [a1 k k1 k2 k3, u1 k k1]
      -- the state that layNet sees: Inv4 holds for τ; net rows come from rows that didn't change
      unfold R_X11_enter
      refine e_isM (n := n) (by rw [moth 49 (by decide) (by decide) (by decide)]; exact s3) s1 (fun _ => ⟨fun _ => ⟨fun _ => ⟨fun _ => ?_, fun e => ?_⟩, fun e => ?_⟩, fun q => absurd q n01⟩) (fun h9 => absurd hv0 h9)
      · refine m_layNet (n := n) (c := c) s1 (by rw [moth 49 (by decide) (by decide) (by decide)]; exact s3) ?_ ?_ (fun ρ b1 b2 => ?_)
        · rw [moth 8 (by decide) (by decide) (by decide), moth 10 (by decide) (by decide) (by decide), moth 11 (by decide) (by decide) (by decide), moth 12 (by decide) (by decide) (by decide), moth 13 (by decide) (by decide) (by decide), moth 49 (by decide) (by decide) (by decide), moth 52 (by decide) (by decide) (by decide), moth 53 (by decide) (by decide) (by decide), moth 54 (by decide) (by decide) (by decide)]
          exact h5.2.1
        · rw [moth 5 (by decide) (by decide) (by decide), moth 6 (by decide) (by decide) (by decide), moth 7 (by decide) (by decide) (by decide), moth 55 (by decide) (by decide) (by decide), moth 56 (by decide) (by decide) (by decide)]
          exact h5.2.2.1
        · have c49 : ρ 49 = τ 49 := by rw [b1 49 (by decide), moth 49 (by decide) (by decide) (by decide)]
          have c72 : ρ 72 = τ 72 := by rw [b1 72 (by decide), moth 72 (by decide) (by decide) (by decide)]
          have c58 : ρ 58 w = Pp τ w := by
            rw [(b2 w hw).1, moth 10 (by decide) (by decide) (by decide), moth 12 (by decide) (by decide) (by decide), moth 7 (by decide) (by decide) (by decide)]
          rw [c49, p3, nI_pred, cl_nI (by omega), c72, p42, ew, cl_nI (show w < 2 ^ 31 by omega), c58]
          refine ⟨vp_in_nI (by omega) (by decide), vp_in_nI (by omega) (by decide), ?_⟩
          have fin : ∀ v2, v2 = (if bt (Pp τ w) r then 0 else 1) → ∀ ρ2, ρ2 = pw_up ρ 49 34 (τ 49 34 + v2) → R_X11_put (nI r) ρ2 (fun τ5 => Nx (μ 37 3) (τ5 49 32) τ5) := by
            rintro v2 hv2 _ rfl
            have d49 : ∀ j, ¬ j = 34 → pw_up ρ 49 34 (τ 49 34 + v2) 49 j = τ 49 j := fun j hj => by rw [pw_s, upd_n hj, c49]
            refine m_put (t := t) (h := m + 1) (by omega) hg40 (by omega) (by rw [d49 28 (by decide)]; exact p3) (by rw [pw_r (by decide), b1 51 (by decide), moth 51 (by decide) (by decide) (by decide), et', et]) (fun κ f1 f2 f3 f4 f5 f6 f7 f8 => ?_)
            have z50 : pw_up ρ 49 34 (τ 49 34 + v2) 50 = τ 50 := by rw [pw_r (by decide), b1 50 (by decide), moth 50 (by decide) (by decide) (by decide)]
            have z72 : pw_up ρ 49 34 (τ 49 34 + v2) 72 = τ 72 := by rw [pw_r (by decide), c72]
            have z73 : pw_up ρ 49 34 (τ 49 34 + v2) 73 = τ 73 := by rw [pw_r (by decide), b1 73 (by decide), moth 73 (by decide) (by decide) (by decide)]
            rw [z72] at f2 f8
            rw [z73, z50] at f3
            rw [z50] at f6 f7
            rw [d49 32 (by decide)] at f6 f7
            rw [d49 33 (by decide)] at f7
            rw [d49 35 (by decide)] at f8
            rw [u1 38 (by decide)] at a2 a8
            rw [u1 39 (by decide), u1 2 (by decide)] at a3
            rw [u1 2 (by decide)] at a5 a6
            rw [u2 3 (by decide)] at a5 a6
            rw [u2 4 (by decide)] at a6
            rw [u2 6 (by decide)] at a8
            rw [u2 7 (by decide)] at a9
            refine ⟨by rw [a5, f6, p5, (s4 r hr).2], n, c, ni, nt, ?_⟩
            have koth : ∀ k, ¬ k = 49 → ¬ k = 72 → ¬ k = 73 → ¬ (57 ≤ k ∧ k ≤ 61) → κ k = μ k := fun k k1 k2 k3 k4 => by rw [f1 k k1 k2 k3, pw_r k1, b1 k k4]
            have hκ : Inv4 n c ni nt (fun k => if k = 37 then τ 37 else if k = 38 then τ 38 else if k = 39 then τ 39 else if k = 49 then τ 49 else if k = 72 then τ 72 else if k = 73 then τ 73 else κ k) := by
              refine h5.cg (fun k k1 k2 k3 k4 k5 k6 => ?_) (fun j _ => rfl) ?_
              · show (if k = 37 then _ else _) = _
                by_cases e1 : k = 37
                · rw [if_pos e1, e1]
                · rw [if_neg e1]
                  by_cases e2 : k = 38
                  · rw [if_pos e2, e2]
                  · rw [if_neg e2]
                    by_cases e3 : k = 39
                    · rw [if_pos e3, e3]
                    · rw [if_neg e3, if_neg k6]
                      by_cases e5 : k = 72
                      · rw [if_pos e5, e5]
                      · rw [if_neg e5]
                        by_cases e6 : k = 73
                        · rw [if_pos e6, e6]
                        · rw [if_neg e6, koth k k6 e5 e6 (by omega), moth k e1 e2 e3]
              · have := h5.2.2.2.2.2.2.2.2
                have e14 : ∀ k, 14 ≤ k → k ≤ 19 → κ k = τ k := fun k k1 k2 => by rw [koth k (by omega) (by omega) (by omega) (by omega), moth k (by omega) (by omega) (by omega)]
                show I_gr n (κ 14) (κ 15) (κ 16) (κ 17) (κ 18) (κ 19) _ _
                rw [e14 14 (by decide) (by decide), e14 15 (by decide) (by decide), e14 16 (by decide) (by decide), e14 17 (by decide) (by decide), e14 18 (by decide) (by decide), e14 19 (by decide) (by decide)]
                exact this
            refine hκ.run (fun k k1 k2 k3 => ?_) (fun j hj => ?_) ?_
            · show κ k = (if k = 37 then _ else _)
              rw [if_neg (by omega), if_neg (by omega), if_neg (by omega), if_neg (by omega), if_neg (by omega), if_neg (by omega)]
            · show κ 49 j = τ 49 j
              rw [f4 j (by omega) (by omega) (by omega) (by omega), d49 j (by omega)]
            · rw [koth 37 (by decide) (by decide) (by decide) (by decide), koth 38 (by decide) (by decide) (by decide) (by decide), koth 39 (by decide) (by decide) (by decide) (by decide)]
              refine I_rn.push (t := t) (σ := τ) (s5 := τ 37 5 + v) (s34 := τ 49 34 + v2) (μ := μ) hr hg40 (by rw [u4, hv2, p7]) p4 p5 p6 p8 p9x (s4 r hr).2 a2 a3 a4 a5 a6 (by rw [a7, u3]) a8 a9 f2 f3 f5 f6 f7 ?_ f8 ?_ ?_
              · rw [f4 34 (by decide) (by decide) (by decide) (by decide), pw_s, upd_s]
              · rw [f4 27 (by decide) (by decide) (by decide) (by decide), d49 27 (by decide)]
              · rw [f4 31 (by decide) (by decide) (by decide) (by decide), d49 31 (by decide)]
          cases hb1 : bt (Pp τ w) r with
          | true => exact ⟨fun q => absurd (ybit (by omega) hb1) q, fun _ => fun ρ2 hρ2 => fin 0 (by rw [hb1]; rfl) ρ2 hρ2⟩
          | false => exact ⟨fun _ => fun ρ2 hρ2 => fin 1 (by rw [hb1]; rfl) ρ2 hρ2, fun q => absurd q (nbit (by omega) hb1)⟩
      · rw [moth 49 (by decide) (by decide) (by decide), p3] at e
        have := (neqk 40 (by omega) (by decide)).mp e
        omega
      · rw [moth 49 (by decide) (by decide) (by decide), p3] at e
        exact absurd e z
    unfold R_X9_markStep
    refine e_holds (by omega) (fun hb1 => ⟨fun _ => ?_, fun q => absurd q n01⟩) (fun hb1 => ⟨fun q => absurd rfl q, fun _ => ?_⟩)
    · exact md τ 0 (fun _ _ => rfl) (fun _ _ => rfl) (Int32.add_zero _).symm (by rw [hb1]; rfl)
    · rintro _ rfl
      exact md _ 1 (fun k hk => pw_r hk) (fun j hj => by rw [pw_s, upd_n hj]) (by rw [pw_s, upd_s]) (by rw [hb1]; rfl)
  · rw [q2] at z z2
    have hge : ¬ g < 40 := fun e => z2 ((nltk 40 q1 (by decide)).mpr e)
    show R_X11_enter a σ (fun y ρ => Nx (-3) y ρ)
    unfold R_X11_enter
    refine e_isM r3 r1 (fun _ => ⟨fun _ => ⟨fun _ => ⟨fun e => ?_, fun _ => ⟨rfl, hI⟩⟩, fun e => ?_⟩, fun q => absurd q n01⟩) (fun h9 => absurd hv h9)
    · rw [q3] at e
      exact absurd ((neqk 40 q1 (by decide)).mpr (by omega)) e
    · rw [q3] at e; exact absurd e z
  · rw [q2] at z
    show R_X11_enter a σ (fun y ρ => Nx (-2) y ρ)
    unfold R_X11_enter
    refine e_isM r3 r1 (fun _ => ⟨fun _ => ⟨fun e => ?_, fun _ => ⟨rfl, hI⟩⟩, fun q => absurd q n01⟩) (fun h9 => absurd hv h9)
    rw [q3] at e; exact absurd z e
  · show R_X11_enter a σ (fun y ρ => Nx (-1) y ρ)
    unfold R_X11_enter
    exact e_isM r3 r1 (fun h9 => absurd h9 hv) (fun _ => ⟨fun q => absurd rfl q, fun _ => ⟨rfl, hI⟩⟩)
