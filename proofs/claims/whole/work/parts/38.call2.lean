/-! call and cut -/
theorem nI_inj {i j : Nat} (hi : i < 2 ^ 31) (hj : j < 2 ^ 31) (h : nI i = nI j) : i = j := (nI_eq hi hj).mp h
theorem jb {n j t : Nat} (hn : n ≤ 20) (h1 : t < 2 → j < n) (h2 : 2 ≤ t → j < 8) : j < 32 := by
  by_cases z : t < 2
  · have := h1 z; omega
  · have := h2 (by omega); omega
theorem trip {n a1 a2 b1 b2 t1 t2 : Nat} {x y z : Int32} (hn : n ≤ 20) (h1 : a1 < n) (h2 : a2 < n) (ht1 : t1 < 4) (ht2 : t2 < 4) (ha1 : x = nI a1) (ha2 : x = nI a2) (hb1 : y = nI b1) (hb2 : y = nI b2) (hz1 : z = nI t1) (hz2 : z = nI t2) (j1 : b1 < 32) (j2 : b2 < 32) : (a1, b1, t1) = (a2, b2, t2) := by
  have e1 : a1 = a2 := nI_inj (by omega) (by omega) (ha1.symm.trans ha2)
  have e2 : b1 = b2 := nI_inj (by omega) (by omega) (hb1.symm.trans hb2)
  have e3 : t1 = t2 := nI_inj (by omega) (by omega) (hz1.symm.trans hz2)
  rw [e1, e2, e3]
/-- Inv4 behind a change of the calls alone -/
theorem Inv4.cls {n c c2 ni nt : Nat} {σ ρ : pw_Mem} {E : Nat → Nat × Nat × Nat} (h : Inv4 n c ni nt σ) (hs : ∀ k, ¬ k = 8 → ¬ (10 ≤ k ∧ k ≤ 13) → ¬ k = 14 → ¬ k = 49 → ¬ (52 ≤ k ∧ k ≤ 54) → ρ k = σ k) (h8 : ρ 8 1 = nI c2) (h14 : ρ 14 3 = 1) (h49 : ∀ j, ¬ j = 3 → ρ 49 j = σ 49 j) (h493 : ρ 49 3 = nI c2) (hc : c2 ≤ 60) (hE : I_ce n c2 (fun t => ρ (10 + t)) (ρ 52) (ρ 53) (ρ 54) E) : Inv4 n c2 ni nt ρ := by
  have all : ∀ k, ¬ k = 8 → ¬ (10 ≤ k ∧ k ≤ 13) → ¬ k = 14 → ¬ k = 49 → ¬ (52 ≤ k ∧ k ≤ 54) → ρ k = σ k := hs
  obtain ⟨hrt, hcl, hpt, hit, htk, hsh, hrn, hst, hgr⟩ := h
  refine ⟨?_, hE.cl hc h8 h493, ?_, ?_, ?_, ?_, ?_, ?_, I_gr.old h14⟩
  · rw [h49 0 (by decide)]; simp only [all 1 (by decide) (by decide) (by decide) (by decide) (by decide), all 2 (by decide) (by decide) (by decide) (by decide) (by decide), all 3 (by decide) (by decide) (by decide) (by decide) (by decide), all 50 (by decide) (by decide) (by decide) (by decide) (by decide), all 51 (by decide) (by decide) (by decide) (by decide) (by decide)]; exact hrt
  · simp only [all 5 (by decide) (by decide) (by decide) (by decide) (by decide), all 6 (by decide) (by decide) (by decide) (by decide) (by decide), all 7 (by decide) (by decide) (by decide) (by decide) (by decide), all 55 (by decide) (by decide) (by decide) (by decide) (by decide), all 56 (by decide) (by decide) (by decide) (by decide) (by decide)]; exact hpt
  · rw [h49 15 (by decide)]; simp only [all 22 (by decide) (by decide) (by decide) (by decide) (by decide), all 23 (by decide) (by decide) (by decide) (by decide) (by decide), all 24 (by decide) (by decide) (by decide) (by decide) (by decide), all 25 (by decide) (by decide) (by decide) (by decide) (by decide), all 63 (by decide) (by decide) (by decide) (by decide) (by decide), all 64 (by decide) (by decide) (by decide) (by decide) (by decide), all 65 (by decide) (by decide) (by decide) (by decide) (by decide)]; exact hit
  · rw [h49 19 (by decide)]; simp only [all 26 (by decide) (by decide) (by decide) (by decide) (by decide), all 27 (by decide) (by decide) (by decide) (by decide) (by decide), all 28 (by decide) (by decide) (by decide) (by decide) (by decide), all 29 (by decide) (by decide) (by decide) (by decide) (by decide), all 30 (by decide) (by decide) (by decide) (by decide) (by decide), all 66 (by decide) (by decide) (by decide) (by decide) (by decide), all 67 (by decide) (by decide) (by decide) (by decide) (by decide), all 68 (by decide) (by decide) (by decide) (by decide) (by decide), all 69 (by decide) (by decide) (by decide) (by decide) (by decide)]; exact htk
  · simp only [all 35 (by decide) (by decide) (by decide) (by decide) (by decide), all 36 (by decide) (by decide) (by decide) (by decide) (by decide)]; exact hsh
  · obtain ⟨g, q1, q2, q3, q4, q5, q6, q7, q8, q9⟩ := hrn
    simp only [all 37 (by decide) (by decide) (by decide) (by decide) (by decide), all 38 (by decide) (by decide) (by decide) (by decide) (by decide), all 39 (by decide) (by decide) (by decide) (by decide) (by decide), all 72 (by decide) (by decide) (by decide) (by decide) (by decide), all 73 (by decide) (by decide) (by decide) (by decide) (by decide)]
    refine ⟨g, q1, q2, ?_, q4, ?_, ?_, ?_, ?_, ?_⟩
    · rw [h49 28 (by decide)]; exact q3
    · rw [h49 32 (by decide)]; exact q5
    · rw [h49 33 (by decide)]; exact q6
    · rw [h49 34 (by decide)]; exact q7
    · rw [h49 35 (by decide)]; exact q8
    · rw [h49 27 (by decide), h49 31 (by decide)]; exact q9
  · simp only [all 41 (by decide) (by decide) (by decide) (by decide) (by decide), all 42 (by decide) (by decide) (by decide) (by decide) (by decide), all 43 (by decide) (by decide) (by decide) (by decide) (by decide), all 44 (by decide) (by decide) (by decide) (by decide) (by decide), all 45 (by decide) (by decide) (by decide) (by decide) (by decide), all 46 (by decide) (by decide) (by decide) (by decide) (by decide), all 47 (by decide) (by decide) (by decide) (by decide) (by decide), all 48 (by decide) (by decide) (by decide) (by decide) (by decide), all 74 (by decide) (by decide) (by decide) (by decide) (by decide), all 75 (by decide) (by decide) (by decide) (by decide) (by decide), all 76 (by decide) (by decide) (by decide) (by decide) (by decide)]; exact hst
theorem o_call {a b p tl : Int32} {σ : pw_Mem} (h : Inv σ) : R_X10_call a b p tl σ (fun x τ => R_X11_call a b p tl τ (fun y ρ => Nx x y ρ)) := by
  have hI := h
  obtain ⟨n, c, ni, nt, h4⟩ := h
  have h4' := h4
  obtain ⟨⟨r1, r2, r3, r4, r5, r6⟩, hcl, -⟩ := h4
  obtain ⟨hc, hs8, hs49, E, hE⟩ := hcl.e
  unfold R_X10_call
  refine e_kind (fun t ht _ het => ?_)
  have mod : ∀ (τ : pw_Mem) (x : Int32), R_X11_called a b (nI t) τ (fun y ρ => Nx x y ρ) → R_X11_call a b p tl τ (fun y ρ => Nx x y ρ) := fun τ x hh => by
    unfold R_X11_call
    refine m_sort ?_
    rw [← het]
    exact hh
  refine e_ref hE r1 r2 hc hs8 (fun hv => ⟨fun q => absurd q (by decide), fun _ => mod _ _ ?_⟩) (fun i j t2 hi ht2 ea eb es j1 j2 hex => ⟨fun q => absurd q (by decide), fun _ => mod _ _ ?_⟩) (fun i j t2 hi ht2 ea eb es j1 j2 hno h60 => ⟨fun q => absurd q (by decide), fun _ => mod _ _ ?_⟩) (fun i j t2 hi ht2 ea eb es j1 j2 hno h60 => ⟨fun _ => ?_, fun q => absurd rfl q⟩)
  · exact m_called hE r1 r3 hc hs49 (fun _ => ⟨rfl, hI⟩) (fun i j t hi ht e1 e2 e3 j1 j2 _ => absurd ⟨i, j, t, hi, ht, e1, e2, e3, j1, j2⟩ hv) (fun i j t hi ht e1 e2 e3 j1 j2 _ _ => absurd ⟨i, j, t, hi, ht, e1, e2, e3, j1, j2⟩ hv) (fun i j t hi ht e1 e2 e3 j1 j2 _ _ => absurd ⟨i, j, t, hi, ht, e1, e2, e3, j1, j2⟩ hv)
  · have key : ∀ i' j' t', i' < n → t' < 4 → a = nI i' → b = nI j' → nI t = nI t' → (t' < 2 → j' < n) → (2 ≤ t' → j' < 8) → (i', j', t') = (i, j, t2) := fun i' j' t' g1 g2 g3 g4 g5 g6 g7 => trip r1 g1 hi g2 ht2 g3 ea g4 eb g5 es (jb r1 g6 g7) (jb r1 j1 j2)
    refine m_called hE r1 r3 hc hs49 (fun hv => absurd ⟨i, j, t2, hi, ht2, ea, eb, es, j1, j2⟩ hv) (fun _ _ _ _ _ _ _ _ _ _ _ => ⟨rfl, hI⟩) (fun i' j' t' g1 g2 g3 g4 g5 g6 g7 hno _ => ?_) (fun i' j' t' g1 g2 g3 g4 g5 g6 g7 hno _ => ?_)
    · obtain ⟨k, hk, he⟩ := hex
      exact absurd (he.trans (key i' j' t' g1 g2 g3 g4 g5 g6 g7).symm) (hno k hk)
    · obtain ⟨k, hk, he⟩ := hex
      exact absurd (he.trans (key i' j' t' g1 g2 g3 g4 g5 g6 g7).symm) (hno k hk)
  · have key : ∀ i' j' t', i' < n → t' < 4 → a = nI i' → b = nI j' → nI t = nI t' → (t' < 2 → j' < n) → (2 ≤ t' → j' < 8) → (i', j', t') = (i, j, t2) := fun i' j' t' g1 g2 g3 g4 g5 g6 g7 => trip r1 g1 hi g2 ht2 g3 ea g4 eb g5 es (jb r1 g6 g7) (jb r1 j1 j2)
    refine m_called hE r1 r3 hc hs49 (fun hv => absurd ⟨i, j, t2, hi, ht2, ea, eb, es, j1, j2⟩ hv) (fun i' j' t' g1 g2 g3 g4 g5 g6 g7 hex => ?_) (fun _ _ _ _ _ _ _ _ _ _ _ _ => ⟨rfl, hI⟩) (fun i' j' t' g1 g2 g3 g4 g5 g6 g7 hno _ => by omega)
    obtain ⟨k, hk, he⟩ := hex
    exact absurd (he.trans (key i' j' t' g1 g2 g3 g4 g5 g6 g7)) (hno k hk)
  · have e3 : t2 = t := nI_inj (by omega) (by omega) es.symm
    subst e3
    subst ea
    subst eb
    refine e_add (by omega) ht2 (fun τ hτ => ?_)
    unfold R_X2_outdate
    intro τ2 hτ2
    have t8 : τ2 8 1 = nI (c + 1) := by rw [hτ2, pw_r (by decide), hτ, pw_s, upd_s, hs8, nI_1]
    have tne : ∀ k, ¬ k = 8 → ¬ k = 10 + t2 → ¬ k = 14 → τ2 k = σ k := fun k k1 k2 k3 => by rw [hτ2, pw_r k3, hτ, pw_r k1, pw_r k2]
    have t10 : τ2 (10 + t2) = upd (σ (10 + t2)) i (σ (10 + t2) i ||| one j) := by rw [hτ2, pw_r (by omega), hτ, pw_r (by omega), pw_s]
    have t14 : τ2 14 3 = 1 := by rw [hτ2, pw_s, upd_s]
    rw [t8]
    refine mod _ _ ?_
    have hE2 : I_ce n c (fun t => σ (10 + t)) (τ2 52) (τ2 53) (τ2 54) E := by
      rw [tne 52 (by decide) (by omega) (by decide), tne 53 (by decide) (by omega) (by decide), tne 54 (by decide) (by omega) (by decide)]
      exact hE
    have tk : ∀ i' j' t', i' < n → t' < 4 → nI i = nI i' → nI j = nI j' → nI t2 = nI t' → (t' < 2 → j' < n) → (2 ≤ t' → j' < 8) → (i', j', t') = (i, j, t2) := fun i' j' t' g1 g2 g3 g4 g5 g6 g7 => trip r1 g1 hi g2 ht2 g3 rfl g4 rfl g5 rfl (jb r1 g6 g7) (jb r1 j1 j2)
    refine m_called hE2 r1 (by rw [tne 49 (by decide) (by omega) (by decide)]; exact r3) hc (by rw [tne 49 (by decide) (by omega) (by decide)]; exact hs49) (fun hv => absurd ⟨i, j, t2, hi, ht2, rfl, rfl, rfl, j1, j2⟩ hv) (fun i' j' t' g1 g2 g3 g4 g5 g6 g7 hex => ?_) (fun i' j' t' g1 g2 g3 g4 g5 g6 g7 _ h6 => by omega) (fun i' j' t' g1 g2 g3 g4 g5 g6 g7 _ _ ρ hρ => ⟨rfl, n, c + 1, ni, nt, ?_⟩)
    · obtain ⟨k, hk, he⟩ := hex
      exact absurd (he.trans (tk i' j' t' g1 g2 g3 g4 g5 g6 g7)) (hno k hk)
    · have e9 := tk i' j' t' g1 g2 g3 g4 g5 g6 g7
      cases e9
      have pne : ∀ k, ¬ k = 52 → ¬ k = 53 → ¬ k = 54 → ¬ k = 49 → ρ k = τ2 k := fun k k1 k2 k3 k4 => by rw [hρ, pw_r k4, pw_r k3, pw_r k2, pw_r k1]
      have hadd := hE2.add (cs' := fun u => ρ (10 + u)) r1 hi ht2 j1 j2 hno (fun u hu => ?_)
      · refine h4'.cls (E := fun k => if k = c then (i, j, t2) else E k) (fun k k1 k2 k3 k4 k5 => ?_) ?_ ?_ (fun q hq => ?_) ?_ (by omega) ?_
        · rw [pne k (by omega) (by omega) (by omega) k4, tne k k1 (by omega) k3]
        · rw [pne 8 (by decide) (by decide) (by decide) (by decide)]; exact t8
        · rw [pne 14 (by decide) (by decide) (by decide) (by decide)]; exact t14
        · rw [hρ, pw_s, upd_n hq, pw_r (by decide), pw_r (by decide), pw_r (by decide), tne 49 (by decide) (by omega) (by decide)]
        · rw [hρ, pw_s, upd_s]
        · have e52 : ρ 52 = upd (τ2 52) c (nI i) := by rw [hρ, pw_r (by decide), pw_r (by decide), pw_r (by decide), pw_s]
          have e53 : ρ 53 = upd (τ2 53) c (nI j) := by rw [hρ, pw_r (by decide), pw_r (by decide), pw_s, pw_r (by decide)]
          have e54 : ρ 54 = upd (τ2 54) c (nI t2) := by rw [hρ, pw_r (by decide), pw_s, pw_r (by decide), pw_r (by decide)]
          rw [e52, e53, e54]
          exact hadd
      · show ρ (10 + u) = _
        rw [pne (10 + u) (by omega) (by omega) (by omega) (by omega)]
        by_cases e : u = t2
        · subst e; rw [if_pos rfl]; exact t10
        · rw [if_neg e]; exact tne (10 + u) (by omega) (by omega) (by omega)
/-- the reference's cut() -/
theorem m_cut {K : Int32 → pw_Mem → Prop} {n c t : Nat} {a b p tl : Int32} {cs : Nat → Rows} {E : Nat → Nat × Nat × Nat} {σ : pw_Mem} (h : I_ce n c cs (σ 52) (σ 53) (σ 54) E) (hn : n ≤ 20) (h0 : σ 49 0 = nI n) (hc : c ≤ 60) (hs : σ 49 3 = nI c) (ht : t < 4) (htp : 2 ≤ t ↔ ¬ p = 0) (het : t = (if p = 0 then 0 else 2) + (if tl = 0 then 0 else 1))
    (hbad : ¬ vc n a b (nI t) → K (-1) σ) (hst : ∀ i j, i < n → a = nI i → b = nI j → (t < 2 → j < n) → (2 ≤ t → j < 8) → (∀ k, k < c → ¬ E k = (i, j, t)) → K (-2) σ)
    (hok : ∀ i j k, i < n → a = nI i → b = nI j → (t < 2 → j < n) → (2 ≤ t → j < 8) → k < c → E k = (i, j, t) → ∀ ρ, ρ = pw_up (pw_up (pw_up (pw_up σ 49 3 (nI (c - 1))) 52 k (σ 52 (c - 1))) 53 k (σ 53 (c - 1))) 54 k (σ 54 (c - 1)) → K (nI (c - 1)) ρ) : R_X11_cut a b p tl σ K := by
  unfold R_X11_cut
  refine e_isM h0 hn (fun hv => ⟨fun q => absurd q n01, fun _ => ?_⟩) (fun hv => ⟨fun _ => hbad (fun ⟨i, j, t, g1, g2, g3, _⟩ => hv ⟨i, g1, g3⟩), fun q => absurd rfl q⟩)
  obtain ⟨i, hi, rfl⟩ := hv
  have core : ∀ j, b = nI j → (t < 2 → j < n) → (2 ≤ t → j < 8) → R_X11_sortOf p tl σ (fun x6 τ5 => R_X11_find (nI i) b x6 τ5 (fun x8 τ7 => ((¬ x8 = (-4) → ∀ τ9, τ9 = pw_up τ7 49 3 ((τ7 49 3) - 1) → vp_in (τ9 49 3) 60 ∧ vp_in x8 60 ∧ ∀ τ10, τ10 = pw_up τ9 52 (Int32.toNatClampNeg x8) (τ9 52 (Int32.toNatClampNeg (τ9 49 3))) → vp_in (τ10 49 3) 60 ∧ vp_in x8 60 ∧ ∀ τ11, τ11 = pw_up τ10 53 (Int32.toNatClampNeg x8) (τ10 53 (Int32.toNatClampNeg (τ10 49 3))) → vp_in (τ11 49 3) 60 ∧ vp_in x8 60 ∧ ∀ τ12, τ12 = pw_up τ11 54 (Int32.toNatClampNeg x8) (τ11 54 (Int32.toNatClampNeg (τ11 49 3))) → K (τ12 49 3) τ12) ∧ (x8 = (-4) → K (-2) τ7)))) := by
    rintro j rfl hj1 hj2
    refine m_sort ?_
    rw [← het]
    refine m_find h hn hc hs (by omega) (jb hn hj1 hj2) ht (fun k hk he => ⟨fun _ => ?_, fun q => absurd q (nm4 (by omega))⟩) (fun hno => ⟨fun q => absurd rfl q, fun _ => hst i j hi rfl rfl hj1 hj2 hno⟩)
    have e1 : nI c - 1 = nI (c - 1) := by
      obtain ⟨c', rfl⟩ : ∃ c', c = c' + 1 := ⟨c - 1, by omega⟩
      exact nI_pred c'
    have hin : vp_in (nI (c - 1)) 60 := vp_in_nI (by omega) (by decide)
    have hin2 : vp_in (nI k) 60 := vp_in_nI (by omega) (by decide)
    rintro _ rfl
    rw [hs, e1, pw_s, upd_s]
    refine ⟨hin, hin2, ?_⟩
    rintro _ rfl
    rw [pw_r (by decide : ¬ 49 = 52), pw_s, upd_s]
    refine ⟨hin, hin2, ?_⟩
    rintro _ rfl
    rw [pw_r (by decide : ¬ 49 = 53), pw_r (by decide : ¬ 49 = 52), pw_s, upd_s]
    refine ⟨hin, hin2, ?_⟩
    rintro _ rfl
    rw [pw_r (by decide : ¬ 49 = 54), pw_r (by decide : ¬ 49 = 53), pw_r (by decide : ¬ 49 = 52), pw_s, upd_s]
    refine hok i j k hi rfl rfl hj1 hj2 hk he _ ?_
    simp (config := { decide := true }) only [cl_nI (show k < 2 ^ 31 by omega), cl_nI (show c - 1 < 2 ^ 31 by omega), pw_r, not_false_eq_true]
  refine ⟨fun q => ?_, fun q => ?_⟩
  · have q2 : ¬ 2 ≤ t := fun z => htp.mp z q
    refine e_isM h0 hn (fun hb1 => ⟨fun _ => ?_, fun q => absurd q n01⟩) (fun hb1 => ⟨fun q => absurd rfl q, fun _ => hbad (fun ⟨i2, j, t2, g1, g2, g3, g4, g5, g6, g7⟩ => hb1 ?_)⟩)
    · obtain ⟨j, hj, e⟩ := hb1
      exact core j e (fun _ => hj) (fun z => by omega)
    · have e : t2 = t := nI_inj (by omega) (by omega) g5.symm
      subst e
      exact ⟨j, g6 (by omega), g4⟩
  · have q2 : 2 ≤ t := htp.mpr q
    refine e_isPM (fun hb1 => ⟨fun q => absurd q n01, fun _ => ?_⟩) (fun hb1 => ⟨fun _ => hbad (fun ⟨i2, j, t2, g1, g2, g3, g4, g5, g6, g7⟩ => hb1 ?_), fun q => absurd rfl q⟩)
    · obtain ⟨j, hj, e⟩ := hb1
      exact core j e (fun z => by omega) (fun _ => hj)
    · have e : t2 = t := nI_inj (by omega) (by omega) g5.symm
      subst e
      exact ⟨j, g7 q2, g4⟩
theorem o_cut {a b p tl : Int32} {σ : pw_Mem} (h : Inv σ) : R_X10_cut a b p tl σ (fun x τ => R_X11_cut a b p tl τ (fun y ρ => Nx x y ρ)) := by
  have hI := h
  obtain ⟨n, c, ni, nt, h4⟩ := h
  have h4' := h4
  obtain ⟨⟨r1, r2, r3, r4, r5, r6⟩, hcl, -⟩ := h4
  obtain ⟨hc, hs8, hs49, E, hE⟩ := hcl.e
  unfold R_X10_cut
  refine e_kind (fun t ht htp het => ?_)
  refine e_can r2 r1 (fun hv => ⟨fun _ => ?_, fun q => absurd q n01⟩) (fun hv => ⟨fun q => absurd rfl q, fun _ => ?_⟩)
  · have hv0 := hv
    obtain ⟨i, j, t2, hi, ht2, rfl, rfl, es, j1, j2⟩ := hv
    have e3 : t2 = t := nI_inj (by omega) (by omega) es.symm
    subst e3
    have bb := hE.2.2 t2 i j ht2 (by omega) (jb r1 j1 j2)
    have tk : ∀ i' j', i' < n → nI i = nI i' → nI j = nI j' → (t2 < 2 → j' < n) → (2 ≤ t2 → j' < 8) → (i', j', t2) = (i, j, t2) := fun i' j' g1 g3 g4 g6 g7 => trip r1 g1 hi ht2 ht2 g3 rfl g4 rfl (rfl : nI t2 = nI t2) rfl (jb r1 g6 g7) (jb r1 j1 j2)
    refine e_has (by omega) (jb r1 j1 j2) ht2 (fun q => ⟨fun _ => ?_, fun q => absurd q n01⟩) (fun q => ⟨fun q => absurd rfl q, fun _ => ?_⟩)
    · obtain ⟨k0, hk0, he0⟩ := bb.mp q
      have c1 : nI c - 1 = nI (c - 1) := by
        obtain ⟨c', rfl⟩ : ∃ c', c = c' + 1 := ⟨c - 1, by omega⟩
        exact nI_pred c'
      refine e_remove (by omega) ht2 (fun τ hτ => ?_)
      unfold R_X2_outdate
      intro τ2 hτ2
      have t8 : τ2 8 1 = nI (c - 1) := by rw [hτ2, pw_r (by decide), hτ, pw_s, upd_s, hs8, c1]
      have tne : ∀ k, ¬ k = 8 → ¬ k = 10 + t2 → ¬ k = 14 → τ2 k = σ k := fun k k1 k2 k3 => by rw [hτ2, pw_r k3, hτ, pw_r k1, pw_r k2]
      have t10 : τ2 (10 + t2) = upd (σ (10 + t2)) i (σ (10 + t2) i &&& (one j ^^^ (-1))) := by rw [hτ2, pw_r (by omega), hτ, pw_r (by omega), pw_s]
      have t14 : τ2 14 3 = 1 := by rw [hτ2, pw_s, upd_s]
      rw [t8]
      have hE2 : I_ce n c (fun t => σ (10 + t)) (τ2 52) (τ2 53) (τ2 54) E := by
        rw [tne 52 (by decide) (by omega) (by decide), tne 53 (by decide) (by omega) (by decide), tne 54 (by decide) (by omega) (by decide)]
        exact hE
      refine m_cut hE2 r1 (by rw [tne 49 (by decide) (by omega) (by decide)]; exact r3) hc (by rw [tne 49 (by decide) (by omega) (by decide)]; exact hs49) ht2 htp het (fun hv => absurd hv0 hv) (fun i' j' g1 g3 g4 g6 g7 hno => ?_) (fun i' j' k g1 g3 g4 g6 g7 hk he ρ hρ => ⟨rfl, n, c - 1, ni, nt, ?_⟩)
      · exact absurd (he0.trans (tk i' j' g1 g3 g4 g6 g7).symm) (hno k0 hk0)
      · have e9 := tk i' j' g1 g3 g4 g6 g7
        cases e9
        have pne : ∀ k', ¬ k' = 52 → ¬ k' = 53 → ¬ k' = 54 → ¬ k' = 49 → ρ k' = τ2 k' := fun k' k1 k2 k3 k4 => by rw [hρ, pw_r k3, pw_r k2, pw_r k1, pw_r k4]
        obtain ⟨c', rfl⟩ : ∃ c', c = c' + 1 := ⟨c - 1, by omega⟩
        rw [show c' + 1 - 1 = c' from rfl] at hρ t8 ⊢
        have hdel := hE2.del (cs' := fun u => ρ (10 + u)) r1 hk he (fun u hu => ?_)
        · refine h4'.cls (E := fun k' => if k' = k then E c' else E k') (fun k k1 k2 k3 k4 k5 => ?_) ?_ ?_ (fun q hq => ?_) ?_ (by omega) ?_
          · rw [pne k (by omega) (by omega) (by omega) k4, tne k k1 (by omega) k3]
          · rw [pne 8 (by decide) (by decide) (by decide) (by decide)]; exact t8
          · rw [pne 14 (by decide) (by decide) (by decide) (by decide)]; exact t14
          · rw [hρ, pw_r (by decide), pw_r (by decide), pw_r (by decide), pw_s, upd_n hq, tne 49 (by decide) (by omega) (by decide)]
          · rw [hρ, pw_r (by decide), pw_r (by decide), pw_r (by decide), pw_s, upd_s]
          · have e52 : ρ 52 = upd (τ2 52) k (τ2 52 c') := by rw [hρ, pw_r (by decide), pw_r (by decide), pw_s, pw_r (by decide)]
            have e53 : ρ 53 = upd (τ2 53) k (τ2 53 c') := by rw [hρ, pw_r (by decide), pw_s, pw_r (by decide), pw_r (by decide)]
            have e54 : ρ 54 = upd (τ2 54) k (τ2 54 c') := by rw [hρ, pw_s, pw_r (by decide), pw_r (by decide), pw_r (by decide)]
            rw [e52, e53, e54]
            exact hdel
        · show ρ (10 + u) = _
          rw [pne (10 + u) (by omega) (by omega) (by omega) (by omega)]
          by_cases e : u = t2
          · subst e; rw [if_pos rfl]; exact t10
          · rw [if_neg e]; exact tne (10 + u) (by omega) (by omega) (by omega)
    · refine m_cut hE r1 r3 hc hs49 ht2 htp het (fun hv => absurd hv0 hv) (fun _ _ _ _ _ _ _ _ => ⟨rfl, hI⟩) (fun i' j' k g1 g3 g4 g6 g7 hk he ρ hρ => ?_)
      have e9 := tk i' j' g1 g3 g4 g6 g7
      cases e9
      have := bb.mpr ⟨k, hk, he⟩
      rw [q] at this
      cases this
  · exact m_cut hE r1 r3 hc hs49 ht htp het (fun _ => ⟨rfl, hI⟩) (fun i j g1 g3 g4 g6 g7 _ => absurd ⟨i, j, t, g1, ht, g3, g4, rfl, g6, g7⟩ hv) (fun i j k g1 g3 g4 g6 g7 _ _ _ _ => absurd ⟨i, j, t, g1, ht, g3, g4, rfl, g6, g7⟩ hv)
