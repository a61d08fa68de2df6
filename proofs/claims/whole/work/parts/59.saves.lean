/-! saves, best -/
section SV
variable {n c ni nt t : Nat} {σ : pw_Mem}
theorem tot_off2 {m : Nat} {σ ρ : pw_Mem} {f : Rows} {t : Nat} (h : ∀ k, ¬ (14 ≤ k ∧ k ≤ 21) → ρ k = σ k) : tot m ρ f t = tot m σ f t := by
  unfold tot; rw [h 27 (by decide), h 23 (by decide), h 24 (by decide), h 25 (by decide), h 28 (by decide)]
theorem e_wo {K : Int32 → pw_Mem → Prop} {u : Int32} (h4 : Inv4 n c ni nt σ) (ht : t < nt) (hX : ∀ τ : pw_Mem, (∀ k, ¬ (14 ≤ k ∧ k ≤ 21) → τ k = σ k) → Inv4 n c ni nt τ → ∀ f, isD n u σ f → K (tot ni σ f t) τ) : R_X10_totalWithout (nI t) u σ K := by
  unfold R_X10_totalWithout
  refine measd h4 (fun τ t1 h5 _ _ hd => e_tot h5.1.1 h5.2.2.2.1 h5.2.2.2.2.1 ht ?_)
  have h := hX τ t1 h5 (τ 21) (isD.off2 (fun k hk => (t1 k hk).symm) hd)
  rw [← tot_off2 t1] at h
  exact h
theorem Inv4.o62 {ρ : pw_Mem} (h4 : Inv4 n c ni nt σ) (t1 : ∀ k, ¬ (57 ≤ k ∧ k ≤ 62) → ρ k = σ k) : Inv4 n c ni nt ρ :=
  h4.cg (fun k _ _ k3 _ _ _ => t1 k (by omega)) (fun j _ => by rw [t1 49 (by decide)]) (by
    rw [t1 14 (by decide), t1 15 (by decide), t1 16 (by decide), t1 17 (by decide), t1 18 (by decide), t1 19 (by decide)]
    exact h4.2.2.2.2.2.2.2.2)
theorem m_saves {K : Int32 → pw_Mem → Prop} {r : Nat} (h4 : Inv4 n c ni nt σ) (ht : t < nt) (hr : r < n) (h5 : ∀ ρ : pw_Mem, (∀ k, ¬ (57 ≤ k ∧ k ≤ 62) → ρ k = σ k) → ∀ f, isD n (-1) σ f → tot ni σ f t = -5 → K (-5) ρ) (hX : ∀ ρ : pw_Mem, (∀ k, ¬ (57 ≤ k ∧ k ≤ 62) → ρ k = σ k) → ∀ f g, isD n (-1) σ f → isD n (nI r) σ g → ¬ tot ni σ f t = -5 → K (tot ni σ f t - tot ni σ g t) ρ) : R_X11_savesOf (nI t) (nI r) σ K := by
  have hn := h4.1.1
  have hin : vp_in (nI r) 20 := vp_in_nI (by omega) (by decide)
  unfold R_X11_savesOf
  refine layd0 h4 (fun ρ p1 p2 _ p4 => ?_)
  have p5 : isD n (-1) σ (ρ 62) := isD.off (fun k hk => (p1 k hk).symm) p4
  refine m_tot hn p2.2.2.2.1 p2.2.2.2.2.1 ht (fun r hr => p4.gl p2 hr) ?_
  rw [tot_off p1, cl_nI (by omega)]
  refine ⟨fun z => ⟨hin, hin, ?_⟩, fun z => h5 ρ p1 _ p5 z⟩
  intro τ hτ
  have u1 : ∀ k, ¬ k = 50 → τ k = ρ k := fun k hk => by rw [hτ, pw_r hk]
  have u2 : τ 50 = upd (ρ 50) r 0 := by rw [hτ, pw_s]
  have eP : Pp τ = Pp ρ ∧ Tt τ = Tt ρ := by
    unfold Pp Tt
    rw [u1 10 (by decide), u1 11 (by decide), u1 12 (by decide), u1 13 (by decide), u1 7 (by decide)]
    exact ⟨rfl, rfl⟩
  refine m_layD (c := c) hn (by rw [u1 49 (by decide)]; exact p2.1.2.2.1) ?_ ?_ ?_ (fun j hj => ?_) (fun j hj => ?_) (fun w w1 _ w3 => ?_)
  · rw [u1 8 (by decide), u1 10 (by decide), u1 11 (by decide), u1 12 (by decide), u1 13 (by decide), u1 49 (by decide), u1 52 (by decide), u1 53 (by decide), u1 54 (by decide)]
    exact p2.2.1
  · rw [u1 5 (by decide), u1 6 (by decide), u1 7 (by decide), u1 55 (by decide), u1 56 (by decide)]
    exact p2.2.2.1
  · rw [eP.1, eP.2]; exact p2.bd
  · rw [u2]
    by_cases e : j = r
    · subst e; rw [upd_s]; exact ⟨0, by omega, nI_0.symm⟩
    · rw [upd_n e]; exact p2.fr j hj
  · rw [u1 51 (by decide)]; exact p2.tr j hj
  · have x1 : ∀ k, ¬ (57 ≤ k ∧ k ≤ 62) → ¬ k = 50 → w k = ρ k := fun k h1 h2 => by rw [w1 k h1, u1 k h2]
    have x2 : w 50 = upd (ρ 50) r 0 := by rw [w1 50 (by decide), u2]
    have x3 : isD n (nI r) ρ (w 62) := by
      have eP2 : Pp w = Pp ρ ∧ Tt w = Tt ρ := by
        unfold Pp Tt
        rw [x1 10 (by decide) (by decide), x1 11 (by decide) (by decide), x1 12 (by decide) (by decide), x1 13 (by decide) (by decide), x1 7 (by decide) (by decide)]
        exact ⟨rfl, rfl⟩
      rw [eP2.1, eP2.2, x2, x1 51 (by decide) (by decide)] at w3
      refine DE_ft (fun j hj => ?_) (fun j hj => (p2.1.2.2.2.2.1 j hj).2) w3
      rw [fro_one (by omega) (by omega)]
      by_cases e : j = r
      · subst e; rw [upd_s, upd_s]
      · rw [upd_n e, upd_n e]; exact (p2.1.2.2.2.1 j hj).2
    have x4 : isD n (nI r) σ (w 62) := isD.off (fun k hk => (p1 k hk).symm) x3
    have y1 : Iit n ni w := by
      unfold Iit
      rw [x1 22 (by decide) (by decide), x1 23 (by decide) (by decide), x1 24 (by decide) (by decide), x1 25 (by decide) (by decide), x1 49 (by decide) (by decide), x1 63 (by decide) (by decide), x1 64 (by decide) (by decide), x1 65 (by decide) (by decide)]
      exact p2.2.2.2.1
    have y2 : Itk n nt w := by
      unfold Itk
      rw [x1 26 (by decide) (by decide), x1 27 (by decide) (by decide), x1 28 (by decide) (by decide), x1 29 (by decide) (by decide), x1 30 (by decide) (by decide), x1 49 (by decide) (by decide), x1 66 (by decide) (by decide), x1 67 (by decide) (by decide), x1 68 (by decide) (by decide), x1 69 (by decide) (by decide)]
      exact p2.2.2.2.2.1
    have y3 : tot ni w (w 62) t = tot ni σ (w 62) t := by
      rw [← tot_off p1]
      unfold tot
      rw [x1 27 (by decide) (by decide), x1 23 (by decide) (by decide), x1 24 (by decide) (by decide), x1 25 (by decide) (by decide), x1 28 (by decide) (by decide)]
    refine m_tot hn y1 y2 ht (fun j hj => (x3.le p2 p4 hj).self) ⟨hin, ?_⟩
    rw [y3]
    intro v hv
    refine hX v (fun k hk => ?_) _ _ p5 x4 z
    rw [hv]
    by_cases e : k = 50
    · subst e
      rw [pw_s, x2, ← p1 50 (by decide)]
      funext j
      by_cases e : j = r
      · subst e; rw [upd_s]
      · rw [upd_n e, upd_n e]
    · rw [pw_r e, x1 k hk e, p1 k hk]
end SV
theorem o_saves {a b : Int32} {σ : pw_Mem} (h : Inv σ) : R_X10_saves a b σ (fun x τ => R_X11_saves a b τ (fun y ρ => Nx x y ρ)) := by
  have hI := h
  obtain ⟨n, c, ni, nt, h4⟩ := h
  have hn := h4.1.1
  have hk := h4.2.2.2.2.1
  unfold R_X10_saves
  refine e_isT hk.2.1 hk.1 (fun hv => ⟨fun q => absurd q n01, fun _ => ?_⟩) (fun hv => ⟨fun _ => ?_, fun q => absurd rfl q⟩)
  · have hv0 := hv
    obtain ⟨t, ht, rfl⟩ := hv
    refine e_isR h4.1.2.1 hn (fun hw => ⟨fun _ => ?_, fun q => absurd q n01⟩) (fun hw => ⟨fun q => absurd rfl q, fun _ => ?_⟩)
    · have hw0 := hw
      obtain ⟨r, hr, rfl⟩ := hw
      refine e_wo h4 ht (fun τ t1 h5 f hf => ⟨fun z => ?_, fun z => ?_⟩)
      · refine e_wo h5 ht (fun w w1 h6 g hg => ?_)
        have hk6 := h6.2.2.2.2.1
        unfold R_X11_saves
        refine e_isTM hk6.2.2.1 hk6.1 (fun _ => ⟨fun q => absurd q n01, fun _ => ?_⟩) (fun h9 => absurd hv0 h9)
        refine e_isM h6.1.2.2.1 hn (fun _ => ⟨fun q => absurd q n01, fun _ => ?_⟩) (fun h9 => absurd hw0 h9)
        have e1 : ∀ f', isD n (-1) w f' → tot ni w f' t = tot ni σ f t := fun f' hf' => by
          rw [tot_off2 w1, tot_off2 t1]
          exact tot_cg hn h4.2.2.2.1 hk ht (fun r hr => (isD.off2 (fun k hk => (t1 k hk).symm) (isD.off2 (fun k hk => (w1 k hk).symm) hf')).eq h4 hf hr)
        have e2 : ∀ g', isD n (nI r) w g' → tot ni w g' t = tot ni τ g t := fun g' hg' => by
          rw [tot_off2 w1]
          exact tot_cg hn h5.2.2.2.1 h5.2.2.2.2.1 ht (fun r hr => (isD.off2 (fun k hk => (w1 k hk).symm) hg').eq h5 hg hr)
        refine m_saves h6 ht hr (fun ρ p1 f' hf' y => ?_) (fun ρ p1 f' g' hf' hg' y => ⟨?_, n, c, ni, nt, h6.o62 p1⟩)
        · rw [e1 f' hf'] at y; exact absurd y z
        · rw [e1 f' hf', e2 g' hg']
      · have hk5 := h5.2.2.2.2.1
        unfold R_X11_saves
        refine e_isTM hk5.2.2.1 hk5.1 (fun _ => ⟨fun q => absurd q n01, fun _ => ?_⟩) (fun h9 => absurd hv0 h9)
        refine e_isM h5.1.2.2.1 hn (fun _ => ⟨fun q => absurd q n01, fun _ => ?_⟩) (fun h9 => absurd hw0 h9)
        have e1 : ∀ f', isD n (-1) τ f' → tot ni τ f' t = tot ni σ f t := fun f' hf' => by
          rw [tot_off2 t1]
          exact tot_cg hn h4.2.2.2.1 hk ht (fun r hr => (isD.off2 (fun k hk => (t1 k hk).symm) hf').eq h4 hf hr)
        refine m_saves h5 ht hr (fun ρ p1 f' hf' y => ⟨rfl, n, c, ni, nt, h5.o62 p1⟩) (fun ρ p1 f' g' hf' hg' y => ?_)
        rw [e1 f' hf'] at y; exact absurd z y
    · unfold R_X11_saves
      refine e_isTM hk.2.2.1 hk.1 (fun _ => ⟨fun q => absurd q n01, fun _ => ?_⟩) (fun h9 => absurd hv0 h9)
      exact e_isM h4.1.2.2.1 hn (fun h9 => absurd h9 hw) (fun _ => ⟨fun _ => ⟨rfl, hI⟩, fun q => absurd rfl q⟩)
  · unfold R_X11_saves
    exact e_isTM hk.2.2.1 hk.1 (fun h9 => absurd h9 hv) (fun _ => ⟨fun _ => ⟨rfl, hI⟩, fun q => absurd rfl q⟩)
/-- the least total and its routine, after i of them -/
def BS (tv : Nat → Int32 → Prop) (W : Int32) : Nat → Int32 → Int32 → Prop
  | 0, l, f => l = W ∧ f = -4
  | i + 1, l, f => ∃ l0 f0 x, BS tv W i l0 f0 ∧ tv i x ∧ ((l0 ≤ x ∧ l = l0 ∧ f = f0) ∨ (¬ l0 ≤ x ∧ l = x ∧ f = nI i))
theorem BS_eq {tv : Nat → Int32 → Prop} {W : Int32} (hu : ∀ i x y, tv i x → tv i y → x = y) : ∀ i l f l' f', BS tv W i l f → BS tv W i l' f' → l = l' ∧ f = f' := by
  intro i
  induction i with
  | zero => rintro l f l' f' ⟨h1, h2⟩ ⟨h3, h4⟩; exact ⟨h1.trans h3.symm, h2.trans h4.symm⟩
  | succ i ih =>
    rintro l f l' f' ⟨l0, f0, x, h1, h2, h3⟩ ⟨l0', f0', x', h1', h2', h3'⟩
    obtain ⟨e1, e2⟩ := ih _ _ _ _ h1 h1'
    have e3 := hu _ _ _ h2 h2'
    subst e1 e2 e3
    rcases h3 with ⟨a, b, d⟩ | ⟨a, b, d⟩
    · rcases h3' with ⟨a', b', d'⟩ | ⟨a', b', d'⟩
      · exact ⟨b.trans b'.symm, d.trans d'.symm⟩
      · exact absurd a a'
    · rcases h3' with ⟨a', b', d'⟩ | ⟨a', b', d'⟩
      · exact absurd a' a
      · exact ⟨b.trans b'.symm, d.trans d'.symm⟩
def tvv (n ni t : Nat) (σ0 : pw_Mem) (r : Nat) (x : Int32) : Prop := r < n ∧ ∃ g, isD n (nI r) σ0 g ∧ x = tot ni σ0 g t
section BE
variable {n c ni nt t : Nat} {σ0 : pw_Mem}
theorem tvv_u (h4 : Inv4 n c ni nt σ0) (ht : t < nt) : ∀ i x y, tvv n ni t σ0 i x → tvv n ni t σ0 i y → x = y := by
  rintro i x y ⟨_, g, h1, rfl⟩ ⟨_, g', h2, rfl⟩
  exact tot_cg h4.1.1 h4.2.2.2.1 h4.2.2.2.2.1 ht (fun r hr => h1.eq h4 h2 hr)
theorem e_bestL {K : Int32 → pw_Mem → Prop} {KX : Int32 → Int32 → Int32 → Int32 → Int32 → pw_Mem → Prop} {W l2 : Int32} (ht : t < nt) (hX : ∀ (τ : pw_Mem) l f, (∀ k, ¬ (14 ≤ k ∧ k ≤ 21) → τ k = σ0 k) → Inv4 n c ni nt τ → BS (tvv n ni t σ0) W n l f → KX (nI t) l2 l f (nI n) τ) : ∀ (k i : Nat) (σ : pw_Mem) (l f : Int32), i + k = n → (∀ k, ¬ (14 ≤ k ∧ k ≤ 21) → σ k = σ0 k) → Inv4 n c ni nt σ → BS (tvv n ni t σ0) W i l f → R_X10_best_L35 K KX (k + 1) (nI t) l2 l f (nI i) σ := by
  intro k
  induction k with
  | zero =>
    intro i σ l f hi hs h4 hB
    have e : i = n := by omega
    subst e
    have hn := h4.1.1
    unfold R_X10_best_L35
    rw [h4.1.2.1]
    exact ⟨fun _ => hX σ l f hs h4 hB, fun z => absurd (nI_le (Nat.le_refl _) (by omega)) z⟩
  | succ k ih =>
    intro i σ l f hi hs h4 hB
    have hn := h4.1.1
    unfold R_X10_best_L35
    rw [h4.1.2.1, nI_1]
    refine ⟨fun z => absurd ((nI_leI (by omega) (by omega)).mp z) (by omega), fun _ => e_wo h4 ht (fun τ t1 h5 g hg => ?_)⟩
    have hs2 : ∀ k, ¬ (14 ≤ k ∧ k ≤ 21) → τ k = σ0 k := fun k hk => (t1 k hk).trans (hs k hk)
    have htv : tvv n ni t σ0 i (tot ni σ g t) := ⟨by omega, g, isD.off2 (fun k hk => (hs k hk).symm) hg, tot_off2 hs⟩
    exact ⟨fun z => ih (i + 1) τ l f (by omega) hs2 h5 ⟨l, f, _, hB, htv, Or.inl ⟨z, rfl, rfl⟩⟩, fun z => ih (i + 1) τ _ _ (by omega) hs2 h5 ⟨l, f, _, hB, htv, Or.inr ⟨z, rfl, rfl⟩⟩⟩
theorem m_bestL {K : Int32 → pw_Mem → Prop} {KX : Int32 → Int32 → Int32 → Int32 → pw_Mem → Prop} {b : Nat} {f0 : Rows} (h0 : Inv4 n c ni nt σ0) (ht : t < nt) (hf0 : isD n (-1) σ0 f0) (hW : tot ni σ0 f0 t = nI b) (hb : b < 2 ^ 31) (hX : ∀ (ρ : pw_Mem) l f, l ≤ b → (∀ k, ¬ (57 ≤ k ∧ k ≤ 62) → ρ k = σ0 k) → BS (tvv n ni t σ0) (nI b) n (nI l) f → KX (nI t) f (nI (b - l)) (nI n) ρ) : ∀ (k i : Nat) (σ : pw_Mem) (l : Nat) (f : Int32), i + k = n → l ≤ b → (∀ k, ¬ (57 ≤ k ∧ k ≤ 62) → σ k = σ0 k) → BS (tvv n ni t σ0) (nI b) i (nI l) f → R_X11_best_L18 K KX (k + 1) (nI t) f (nI (b - l)) (nI i) σ := by
  have hn := h0.1.1
  intro k
  induction k with
  | zero =>
    intro i σ l f hi hl hs hB
    have e : i = n := by omega
    subst e
    unfold R_X11_best_L18
    rw [(h0.o62 hs).1.2.2.1]
    exact ⟨fun _ => hX σ l f hl hs hB, fun z => absurd (nI_le (Nat.le_refl _) (by omega)) z⟩
  | succ k ih =>
    intro i σ l f hi hl hs hB
    have h4 := h0.o62 hs
    have hi2 : i < n := by omega
    have e1 : ∀ f', isD n (-1) σ f' → tot ni σ f' t = nI b := fun f' hf' => by
      rw [tot_off hs, ← hW]
      exact tot_cg hn h0.2.2.2.1 h0.2.2.2.2.1 ht (fun r hr => (isD.off (fun k hk => (hs k hk).symm) hf').eq h0 hf0 hr)
    unfold R_X11_best_L18
    rw [h4.1.2.2.1, nI_1]
    refine ⟨fun z => absurd ((nI_leI (by omega) (by omega)).mp z) (by omega), fun _ => m_saves h4 ht hi2 (fun ρ p1 f' hf' y => ?_) (fun ρ p1 f' g' hf' hg' y => ?_)⟩
    · rw [e1 f' hf'] at y; exact absurd y (nI_m5 hb)
    · have hs2 : ∀ k, ¬ (57 ≤ k ∧ k ≤ 62) → ρ k = σ0 k := fun k hk => (p1 k hk).trans (hs k hk)
      have hg0 : isD n (nI i) σ0 g' := isD.off (fun k hk => (hs k hk).symm) hg'
      have hgl := tot_GL hn h0.2.2.2.1 h0.2.2.2.2.1 ht (fun r hr => hg0.le h0 hf0 hr)
      rw [hW, ← tot_off hs] at hgl
      rw [e1 f' hf']
      rcases hgl with ⟨_, w⟩ | ⟨x, b', w1, w2, w3, w4⟩
      · exact absurd w (nI_m5 hb)
      · have eb : b = b' := nI_inj hb (by omega) w4
        subst eb
        have htv : tvv n ni t σ0 i (nI x) := ⟨hi2, g', hg0, by rw [← w3, tot_off hs]⟩
        have es : nI b - nI x = nI (b - x) := by
          have : nI b = nI (b - x) + nI x := by rw [nI_add]; congr 1; omega
          rw [this, Int32.add_sub_cancel]
        rw [w3, es]
        refine ⟨fun _ => ⟨fun z => ?_, fun z => ?_⟩, fun z => absurd z (nI_m5 (by omega))⟩
        · have z2 := (nI_leI (by omega) (by omega)).mp z
          exact ih (i + 1) ρ l f (by omega) hl hs2 ⟨_, _, _, hB, htv, Or.inl ⟨nI_le (by omega) (by omega), rfl, rfl⟩⟩
        · have z2 : ¬ b - x ≤ b - l := fun y => z (nI_le y (by omega))
          exact ih (i + 1) ρ x (nI i) (by omega) w1 hs2 ⟨_, _, _, hB, htv, Or.inr ⟨fun y => by have := (nI_leI (by omega) (by omega)).mp y; omega, rfl, rfl⟩⟩
end BE
theorem o_best {a : Int32} {σ : pw_Mem} (h : Inv σ) : R_X10_best a σ (fun x τ => R_X11_best a τ (fun y ρ => Nx x y ρ)) := by
  have hI := h
  obtain ⟨n, c, ni, nt, h4⟩ := h
  have hn := h4.1.1
  have hk := h4.2.2.2.2.1
  unfold R_X10_best
  refine e_isT hk.2.1 hk.1 (fun hv => ⟨fun _ => ?_, fun q => absurd q n01⟩) (fun hv => ⟨fun q => absurd rfl q, fun _ => ?_⟩)
  · have hv0 := hv
    obtain ⟨t, ht, rfl⟩ := hv
    have hn0 : 0 < n := by
      obtain ⟨⟨j, hj, _⟩, _⟩ := hk.2.2.2.1 t ht
      omega
    refine e_wo h4 ht (fun τ t1 h5 f hf => ⟨fun z => ?_, fun z => ?_⟩)
    · have hf5 : isD n (-1) τ f := isD.off2 t1 hf
      refine ⟨n + 1, e_bestL (σ0 := τ) (W := tot ni σ f t) ht (fun w l g w1 h6 hB => ?_) n 0 τ _ _ (by omega) (fun _ _ => rfl) h5 ⟨rfl, rfl⟩⟩
      have hk6 := h6.2.2.2.2.1
      rcases tot_GL hn h4.2.2.2.1 hk ht (fun r hr => hf.gl h4 hr) with ⟨w, _⟩ | ⟨b, _, b1, b2, b3, _⟩
      · exact absurd w z
      · have hb : b < 2 ^ 31 := by omega
        rw [b3] at hB
        have hBw : ∀ i l f, BS (tvv n ni t w) (nI b) i l f → BS (tvv n ni t τ) (nI b) i l f := by
          intro i
          induction i with
          | zero => rintro l f ⟨q1, q2⟩; exact ⟨q1, q2⟩
          | succ i ih =>
            rintro l f ⟨l0, f0, x, q1, ⟨q2, g2, q3, q4⟩, q5⟩
            exact ⟨l0, f0, x, ih _ _ q1, ⟨q2, g2, isD.off2 (fun k hk => (w1 k hk).symm) q3, by rw [q4, tot_off2 w1]⟩, q5⟩
        unfold R_X11_best
        refine e_isTM hk6.2.2.1 hk6.1 (fun _ => ⟨fun _ => ?_, fun q => absurd q n01⟩) (fun h9 => absurd hv0 h9)
        refine ⟨n + 1, ?_⟩
        have hm := m_bestL (K := fun y ρ => Nx g y ρ) (KX := fun y5 y6 y7 y8 τ9 => Nx g y6 τ9) (b := b) (f0 := f) h6 ht (isD.off2 w1 hf5) (by rw [tot_off2 w1, tot_off2 t1, b3]) hb (fun ρ l' g' hl' p1 hB' => ⟨?_, n, c, ni, nt, h6.o62 p1⟩) n 0 w b (-4) (by omega) (Nat.le_refl _) (fun _ _ => rfl) ⟨rfl, rfl⟩
        · rw [Nat.sub_self] at hm; exact hm
        · exact (BS_eq (tvv_u h5 ht) n _ _ _ _ hB (hBw n _ _ hB')).2
    · have hk5 := h5.2.2.2.2.1
      unfold R_X11_best
      refine e_isTM hk5.2.2.1 hk5.1 (fun _ => ⟨fun _ => ⟨n + 1, ?_⟩, fun q => absurd q n01⟩) (fun h9 => absurd hv0 h9)
      unfold R_X11_best_L18
      rw [h5.1.2.2.1]
      have e1 : ∀ f', isD n (-1) τ f' → tot ni τ f' t = tot ni σ f t := fun f' hf' => by
        rw [tot_off2 t1]
        exact tot_cg hn h4.2.2.2.1 hk ht (fun r hr => (isD.off2 (fun k hk => (t1 k hk).symm) hf').eq h4 hf hr)
      refine ⟨fun y => absurd ((nI_leI (b := 0) (by omega) (by decide)).mp y) (by omega), fun _ => m_saves (r := 0) h5 ht hn0 (fun ρ p1 f' hf' y => ⟨fun q => absurd rfl q, fun _ => ⟨rfl, n, c, ni, nt, h5.o62 p1⟩⟩) (fun ρ p1 f' g' hf' hg' y => ?_)⟩
      rw [e1 f' hf'] at y; exact absurd z y
  · unfold R_X11_best
    exact e_isTM hk.2.2.1 hk.1 (fun h9 => absurd h9 hv) (fun _ => ⟨fun q => absurd rfl q, fun _ => ⟨rfl, hI⟩⟩)
