/-! calls: which may be, which are there; told and cut -/
def vc (n : Nat) (a b s : Int32) : Prop := ∃ i j t, i < n ∧ t < 4 ∧ a = nI i ∧ b = nI j ∧ s = nI t ∧ (t < 2 → j < n) ∧ (2 ≤ t → j < 8)
theorem and2 {t : Nat} (h : t < 4) : (nI t &&& 2) = 0 ↔ t < 2 := by
  match t, h with
  | 0, _ => exact ⟨fun _ => by decide, fun _ => rfl⟩
  | 1, _ => exact ⟨fun _ => by decide, fun _ => rfl⟩
  | 2, _ => exact ⟨fun q => absurd q (by decide), fun q => absurd q (by decide)⟩
  | 3, _ => exact ⟨fun q => absurd q (by decide), fun q => absurd q (by decide)⟩
theorem e_can {n : Nat} {a b s : Int32} {σ : pw_Mem} {K : Int32 → pw_Mem → Prop} (hn : σ 1 2 = nI n) (hl : n ≤ 20) (h1 : vc n a b s → K 1 σ) (h0 : ¬ vc n a b s → K 0 σ) : R_X10_canBeCall a b s σ K := by
  unfold R_X10_canBeCall
  refine e_isR hn hl (fun hv => ⟨fun q => absurd q n01, fun _ => ?_⟩) (fun hv => ⟨fun _ => h0 (fun ⟨i, j, t, g1, g2, g3, _⟩ => hv ⟨i, g1, g3⟩), fun q => absurd rfl q⟩)
  refine e_rg 3 rfl (by decide) (fun hu => ⟨fun _ => ?_, fun q => absurd q n01⟩) (fun hu => ⟨fun q => absurd rfl q, fun _ => h0 (fun ⟨i, j, t, g1, g2, g3, g4, g5, _⟩ => hu ⟨t, g2, g5⟩)⟩)
  obtain ⟨i, hi, rfl⟩ := hv
  obtain ⟨t, ht, rfl⟩ := hu
  refine ⟨fun q => ?_, fun q => ?_⟩
  · have q2 := (and2 ht).mp q
    refine e_isR hn hl (fun hb1 => ⟨rfl, h1 ?_⟩) (fun hb1 => ⟨rfl, h0 (fun ⟨i2, j, t2, g1, g2, g3, g4, g5, g6, g7⟩ => hb1 ?_)⟩)
    · obtain ⟨j, hj, rfl⟩ := hb1
      exact ⟨i, j, t, hi, ht, rfl, rfl, rfl, fun _ => hj, fun z => by omega⟩
    · have e : t2 = t := ((nI_eq (by omega) (by omega)).mp g5).symm
      subst e
      exact ⟨j, g6 q2, g4⟩
  · have q2 : ¬ t < 2 := fun z => q ((and2 ht).mpr z)
    refine e_isP (fun hb1 => ⟨rfl, h1 ?_⟩) (fun hb1 => ⟨rfl, h0 (fun ⟨i2, j, t2, g1, g2, g3, g4, g5, g6, g7⟩ => hb1 ?_)⟩)
    · obtain ⟨j, hj, rfl⟩ := hb1
      exact ⟨i, j, t, hi, ht, rfl, rfl, rfl, fun z => by omega, fun _ => hj⟩
    · have e : t2 = t := ((nI_eq (by omega) (by omega)).mp g5).symm
      subst e
      exact ⟨j, g7 (by omega), g4⟩
theorem e_has {i j t : Nat} {σ : pw_Mem} {K : Int32 → pw_Mem → Prop} (hi : i < 20) (hj : j < 32) (ht : t < 4) (h1 : bt (σ (10 + t) i) j = true → K 1 σ) (h0 : bt (σ (10 + t) i) j = false → K 0 σ) : R_X0_has (nI i) (nI j) (nI t) σ K := by
  have hin : vp_in (nI i) 20 := vp_in_nI hi (by decide)
  have go : ∀ r, r = 10 + t → vp_in (nI i) 20 ∧ R_X10_holds (σ r (Int32.toNatClampNeg (nI i))) (nI j) σ (fun x τ => narrow .boolean (.int x) = .int x ∧ K x τ) := by
    rintro _ rfl
    rw [cl_nI (by omega)]
    exact ⟨hin, e_holds hj (fun q => ⟨rfl, h1 q⟩) (fun q => ⟨rfl, h0 q⟩)⟩
  unfold R_X0_has
  match t, ht with
  | 0, _ => exact ⟨Or.inl rfl, fun _ => go _ rfl, fun q => absurd q (by decide), fun q => absurd q (by decide), fun q => absurd q (by decide)⟩
  | 1, _ => exact ⟨Or.inr (Or.inl rfl), fun q => absurd q (by decide), fun _ => go _ rfl, fun q => absurd q (by decide), fun q => absurd q (by decide)⟩
  | 2, _ => exact ⟨Or.inr (Or.inr (Or.inl rfl)), fun q => absurd q (by decide), fun q => absurd q (by decide), fun _ => go _ rfl, fun q => absurd q (by decide)⟩
  | 3, _ => exact ⟨Or.inr (Or.inr (Or.inr rfl)), fun q => absurd q (by decide), fun q => absurd q (by decide), fun q => absurd q (by decide), fun _ => go _ rfl⟩
theorem e_add {i j t : Nat} {σ : pw_Mem} {K : pw_Mem → Prop} (hi : i < 20) (ht : t < 4) (h : ∀ τ, τ = pw_up (pw_up σ (10 + t) i (σ (10 + t) i ||| one j)) 8 1 (σ 8 1 + 1) → K τ) : R_X0_add (nI i) (nI j) (nI t) σ K := by
  have hin : vp_in (nI i) 20 := vp_in_nI hi (by decide)
  unfold R_X0_add
  rw [cl_nI (by omega)]
  match t, ht with
  | 0, _ => exact ⟨Or.inl rfl, fun _ => ⟨hin, hin, fun τ1 e1 τ2 e2 => h τ2 (by rw [e2, e1, pw_r (by decide)]; rfl)⟩, fun q => absurd q (by decide), fun q => absurd q (by decide), fun q => absurd q (by decide)⟩
  | 1, _ => exact ⟨Or.inr (Or.inl rfl), fun q => absurd q (by decide), fun _ => ⟨hin, hin, fun τ1 e1 τ2 e2 => h τ2 (by rw [e2, e1, pw_r (by decide)]; rfl)⟩, fun q => absurd q (by decide), fun q => absurd q (by decide)⟩
  | 2, _ => exact ⟨Or.inr (Or.inr (Or.inl rfl)), fun q => absurd q (by decide), fun q => absurd q (by decide), fun _ => ⟨hin, hin, fun τ1 e1 τ2 e2 => h τ2 (by rw [e2, e1, pw_r (by decide)]; rfl)⟩, fun q => absurd q (by decide)⟩
  | 3, _ => exact ⟨Or.inr (Or.inr (Or.inr rfl)), fun q => absurd q (by decide), fun q => absurd q (by decide), fun q => absurd q (by decide), fun _ => ⟨hin, hin, fun τ1 e1 τ2 e2 => h τ2 (by rw [e2, e1, pw_r (by decide)]; rfl)⟩⟩
theorem e_remove {i j t : Nat} {σ : pw_Mem} {K : pw_Mem → Prop} (hi : i < 20) (ht : t < 4) (h : ∀ τ, τ = pw_up (pw_up σ (10 + t) i (σ (10 + t) i &&& (one j ^^^ (-1)))) 8 1 (σ 8 1 - 1) → K τ) : R_X0_remove (nI i) (nI j) (nI t) σ K := by
  have hin : vp_in (nI i) 20 := vp_in_nI hi (by decide)
  unfold R_X0_remove
  rw [cl_nI (by omega)]
  match t, ht with
  | 0, _ => exact ⟨Or.inl rfl, fun _ => ⟨hin, hin, fun τ1 e1 τ2 e2 => h τ2 (by rw [e2, e1, pw_r (by decide)]; rfl)⟩, fun q => absurd q (by decide), fun q => absurd q (by decide), fun q => absurd q (by decide)⟩
  | 1, _ => exact ⟨Or.inr (Or.inl rfl), fun q => absurd q (by decide), fun _ => ⟨hin, hin, fun τ1 e1 τ2 e2 => h τ2 (by rw [e2, e1, pw_r (by decide)]; rfl)⟩, fun q => absurd q (by decide), fun q => absurd q (by decide)⟩
  | 2, _ => exact ⟨Or.inr (Or.inr (Or.inl rfl)), fun q => absurd q (by decide), fun q => absurd q (by decide), fun _ => ⟨hin, hin, fun τ1 e1 τ2 e2 => h τ2 (by rw [e2, e1, pw_r (by decide)]; rfl)⟩, fun q => absurd q (by decide)⟩
  | 3, _ => exact ⟨Or.inr (Or.inr (Or.inr rfl)), fun q => absurd q (by decide), fun q => absurd q (by decide), fun q => absurd q (by decide), fun _ => ⟨hin, hin, fun τ1 e1 τ2 e2 => h τ2 (by rw [e2, e1, pw_r (by decide)]; rfl)⟩⟩
/-- the calls, with their list -/
def I_ce (n c : Nat) (cs : Nat → Rows) (fr to so : Rows) (E : Nat → Nat × Nat × Nat) : Prop := (∀ k, k < c → (E k).1 < n ∧ (E k).2.2 < 4 ∧ ((E k).2.2 < 2 → (E k).2.1 < n) ∧ (2 ≤ (E k).2.2 → (E k).2.1 < 8) ∧ fr k = nI (E k).1 ∧ to k = nI (E k).2.1 ∧ so k = nI (E k).2.2) ∧ (∀ k k', k < c → k' < c → E k = E k' → k = k') ∧ ∀ t a b, t < 4 → a < 20 → b < 32 → (bt (cs t a) b = true ↔ ∃ k, k < c ∧ E k = (a, b, t))
theorem I_cl.e {n c : Nat} {s s' : Int32} {ρ : pw_Mem} {fr to so : Rows} (h : I_cl n c s (ρ 10) (ρ 11) (ρ 12) (ρ 13) s' fr to so) : c ≤ 60 ∧ s = nI c ∧ s' = nI c ∧ ∃ E, I_ce n c (fun t => ρ (10 + t)) fr to so E := by
  obtain ⟨h1, h2, h3, E, h4, h5, h6⟩ := h
  refine ⟨h1, h2, h3, E, h4, h5, fun t a b ht ha hb => ?_⟩
  obtain ⟨g0, g1, g2, g3⟩ := h6 a b ha hb
  match t, ht with
  | 0, _ => exact g0
  | 1, _ => exact g1
  | 2, _ => exact g2
  | 3, _ => exact g3
theorem I_ce.cl {n c : Nat} {s s' : Int32} {ρ : pw_Mem} {fr to so : Rows} {E : Nat → Nat × Nat × Nat} (h : I_ce n c (fun t => ρ (10 + t)) fr to so E) (h1 : c ≤ 60) (h2 : s = nI c) (h3 : s' = nI c) : I_cl n c s (ρ 10) (ρ 11) (ρ 12) (ρ 13) s' fr to so :=
  ⟨h1, h2, h3, E, h.1, h.2.1, fun a b ha hb => ⟨h.2.2 0 a b (by decide) ha hb, h.2.2 1 a b (by decide) ha hb, h.2.2 2 a b (by decide) ha hb, h.2.2 3 a b (by decide) ha hb⟩⟩
theorem I_ce.add {n c i j t : Nat} {cs cs' : Nat → Rows} {fr to so : Rows} {E : Nat → Nat × Nat × Nat} (h : I_ce n c cs fr to so E) (hn : n ≤ 20) (hi : i < n) (ht : t < 4) (hj1 : t < 2 → j < n) (hj2 : 2 ≤ t → j < 8) (hno : ∀ k, k < c → ¬ E k = (i, j, t)) (hcs : ∀ u, u < 4 → cs' u = if u = t then upd (cs t) i (cs t i ||| one j) else cs u) : I_ce n (c + 1) cs' (upd fr c (nI i)) (upd to c (nI j)) (upd so c (nI t)) (fun k => if k = c then (i, j, t) else E k) := by
  obtain ⟨h1, h2, h3⟩ := h
  have hj : j < 32 := by
    by_cases z : t < 2
    · have := hj1 z; omega
    · have := hj2 (by omega); omega
  refine ⟨fun k hk => ?_, fun k k' hk hk' he => ?_, fun u a b hu ha hb => ?_⟩
  · by_cases e : k = c
    · subst e
      simp only [if_true, upd_s]
      exact ⟨hi, ht, hj1, hj2, trivial, trivial, trivial⟩
    · simp only [if_neg e, upd_n e]
      exact h1 k (by omega)
  · by_cases e : k = c <;> by_cases e' : k' = c
    · omega
    · simp only [if_pos e, if_neg e'] at he
      exact absurd he.symm (hno k' (by omega))
    · simp only [if_neg e, if_pos e'] at he
      exact absurd he (hno k (by omega))
    · simp only [if_neg e, if_neg e'] at he
      exact h2 k k' (by omega) (by omega) he
  · have base := h3 u a b hu ha hb
    have ex : (∃ k, k < c + 1 ∧ (if k = c then (i, j, t) else E k) = (a, b, u)) ↔ ((∃ k, k < c ∧ E k = (a, b, u)) ∨ (i = a ∧ j = b ∧ t = u)) := by
      constructor
      · rintro ⟨k, hk, he⟩
        by_cases e : k = c
        · rw [if_pos e] at he
          cases he
          exact Or.inr ⟨rfl, rfl, rfl⟩
        · rw [if_neg e] at he
          exact Or.inl ⟨k, by omega, he⟩
      · rintro (⟨k, hk, he⟩ | ⟨rfl, rfl, rfl⟩)
        · exact ⟨k, by omega, by rw [if_neg (by omega)]; exact he⟩
        · exact ⟨c, by omega, by rw [if_pos rfl]⟩
    rw [ex, hcs u hu]
    by_cases e1 : u = t
    · rw [if_pos e1]
      subst e1
      by_cases e2 : a = i
      · subst e2
        rw [upd_s, bt_set hj, base]
        constructor
        · rintro (q | q)
          · exact Or.inl q
          · exact Or.inr ⟨rfl, q.symm, rfl⟩
        · rintro (q | q)
          · exact Or.inl q
          · exact Or.inr q.2.1.symm
      · rw [upd_n e2, base]
        exact ⟨Or.inl, fun q => q.elim id (fun q => absurd q.1.symm e2)⟩
    · rw [if_neg e1, base]
      exact ⟨Or.inl, fun q => q.elim id (fun q => absurd q.2.2.symm e1)⟩
theorem bt_clr {x : Int32} {i j : Nat} (hi : i < 32) (hj : j < 32) : bt (x &&& (one j ^^^ (-1))) i = true ↔ (bt x i = true ∧ ¬ i = j) := by
  rw [b_and, b_xor, b_m1 i hi, bt_one hi hj]
  by_cases h : i = j <;> simp [h]
theorem I_ce.del {n c i j t k0 : Nat} {cs cs' : Nat → Rows} {fr to so : Rows} {E : Nat → Nat × Nat × Nat} (h : I_ce n (c + 1) cs fr to so E) (hn : n ≤ 20) (hk0 : k0 < c + 1) (he : E k0 = (i, j, t)) (hcs : ∀ u, u < 4 → cs' u = if u = t then upd (cs t) i (cs t i &&& (one j ^^^ (-1))) else cs u) : I_ce n c cs' (upd fr k0 (fr c)) (upd to k0 (to c)) (upd so k0 (so c)) (fun k => if k = k0 then E c else E k) := by
  obtain ⟨h1, h2, h3⟩ := h
  have hv := h1 k0 hk0
  rw [he] at hv
  obtain ⟨hi, ht, hj1, hj2, -⟩ := hv
  have hj1 : t < 2 → j < n := hj1
  have hj2 : 2 ≤ t → j < 8 := hj2
  have hj : j < 32 := by
    by_cases z : t < 2
    · have := hj1 z; omega
    · have := hj2 (by omega); omega
  refine ⟨fun k hk => ?_, fun k k' hk hk' hee => ?_, fun u a b hu ha hb => ?_⟩
  · by_cases e : k = k0
    · subst e
      simp only [if_true, upd_s]
      exact h1 c (by omega)
    · simp only [if_neg e, upd_n e]
      exact h1 k (by omega)
  · by_cases e : k = k0 <;> by_cases e' : k' = k0
    · omega
    · simp only [if_pos e, if_neg e'] at hee
      have := h2 c k' (by omega) (by omega) hee
      omega
    · simp only [if_neg e, if_pos e'] at hee
      have := h2 k c (by omega) (by omega) hee
      omega
    · simp only [if_neg e, if_neg e'] at hee
      exact h2 k k' (by omega) (by omega) hee
  · have base := h3 u a b hu ha hb
    have ex : (∃ k, k < c ∧ (if k = k0 then E c else E k) = (a, b, u)) ↔ ((∃ k, k < c + 1 ∧ E k = (a, b, u)) ∧ ¬ (a = i ∧ b = j ∧ u = t)) := by
      constructor
      · rintro ⟨k, hk, hee⟩
        by_cases e : k = k0
        · rw [if_pos e] at hee
          refine ⟨⟨c, by omega, hee⟩, fun q => ?_⟩
          obtain ⟨rfl, rfl, rfl⟩ := q
          have := h2 c k0 (by omega) hk0 (hee.trans he.symm)
          omega
        · rw [if_neg e] at hee
          refine ⟨⟨k, by omega, hee⟩, fun q => ?_⟩
          obtain ⟨rfl, rfl, rfl⟩ := q
          exact e (h2 k k0 (by omega) hk0 (hee.trans he.symm))
      · rintro ⟨⟨k, hk, hee⟩, hne⟩
        by_cases e : k = k0
        · subst e
          rw [he] at hee
          cases hee
          exact absurd ⟨rfl, rfl, rfl⟩ hne
        · by_cases e2 : k = c
          · subst e2
            exact ⟨k0, by omega, by rw [if_pos rfl]; exact hee⟩
          · exact ⟨k, by omega, by rw [if_neg e]; exact hee⟩
    rw [ex, hcs u hu]
    by_cases e1 : u = t
    · rw [if_pos e1]
      subst e1
      by_cases e2 : a = i
      · subst e2
        rw [upd_s, bt_clr hb hj, base]
        exact ⟨fun q => ⟨q.1, fun z => q.2 z.2.1⟩, fun q => ⟨q.1, fun z => q.2 ⟨rfl, z, rfl⟩⟩⟩
      · rw [upd_n e2, base]
        exact ⟨fun q => ⟨q, fun z => e2 z.1⟩, fun q => q.1⟩
    · rw [if_neg e1, base]
      exact ⟨fun q => ⟨q, fun z => e1 z.2.2⟩, fun q => q.1⟩
/-! the reference finds -/
theorem m_findL {K : Int32 → pw_Mem → Prop} {KX : Int32 → Int32 → Int32 → Int32 → pw_Mem → Prop} {n c i j t : Nat} {cs : Nat → Rows} {E : Nat → Nat × Nat × Nat} {σ : pw_Mem} (h : I_ce n c cs (σ 52) (σ 53) (σ 54) E) (hn : n ≤ 20) (hc : c ≤ 60) (hs : σ 49 3 = nI c) (hi : i < 20) (hj : j < 32) (ht : t < 4) (h1 : ∀ k, k < c → E k = (i, j, t) → K (nI k) σ) (h0 : (∀ k, k < c → ¬ E k = (i, j, t)) → KX (nI i) (nI j) (nI t) (nI c) σ) : ∀ (k q : Nat), q + k = c → (∀ p, p < q → ¬ E p = (i, j, t)) → R_X11_find_L3 K KX (k + 1) (nI i) (nI j) (nI t) (nI q) σ := by
  intro k
  induction k with
  | zero =>
    intro q hq hp
    have e : q = c := by omega
    subst e
    unfold R_X11_find_L3
    rw [hs]
    exact ⟨fun _ => h0 hp, fun z => absurd (nI_le (Nat.le_refl q) (by omega)) z⟩
  | succ k ih =>
    intro q hq hp
    have hin : vp_in (nI q) 60 := vp_in_nI (by omega) (by decide)
    obtain ⟨g1, g2, g3, g4, g5, g6, g7⟩ := h.1 q (by omega)
    have hb2 : (E q).2.1 < 32 := by
      by_cases z : (E q).2.2 < 2
      · have := g3 z; omega
      · have := g4 (by omega); omega
    have nxt : ¬ E q = (i, j, t) → R_X11_find_L3 K KX (k + 1) (nI i) (nI j) (nI t) (nI q + 1) σ := fun z => by
      rw [nI_1]
      refine ih (q + 1) (by omega) (fun p hp2 => ?_)
      by_cases e : p = q
      · subst e; exact z
      · exact hp p (by omega)
    unfold R_X11_find_L3
    rw [hs, cl_nI (by omega), g5, g6, g7]
    refine ⟨fun z => absurd ((nI_leI (by omega) (by omega)).mp z) (by omega), fun _ => ⟨hin, fun z => nxt (fun e => z (by rw [e])), fun z => ⟨hin, fun z2 => nxt (fun e => z2 (by rw [e])), fun z2 => ⟨hin, fun z3 => nxt (fun e => z3 (by rw [e])), fun z3 => h1 q (by omega) ?_⟩⟩⟩⟩
    have e1 := (nI_eq (by omega) (by omega)).mp z
    have e2 := (nI_eq (by omega) (by omega)).mp z2
    have e3 := (nI_eq (by omega) (by omega)).mp z3
    rw [← e1, ← e2, ← e3]
theorem m_find {K : Int32 → pw_Mem → Prop} {n c i j t : Nat} {cs : Nat → Rows} {E : Nat → Nat × Nat × Nat} {σ : pw_Mem} (h : I_ce n c cs (σ 52) (σ 53) (σ 54) E) (hn : n ≤ 20) (hc : c ≤ 60) (hs : σ 49 3 = nI c) (hi : i < 20) (hj : j < 32) (ht : t < 4) (h1 : ∀ k, k < c → E k = (i, j, t) → K (nI k) σ) (h0 : (∀ k, k < c → ¬ E k = (i, j, t)) → K (-4) σ) : R_X11_find (nI i) (nI j) (nI t) σ K :=
  ⟨c + 1, m_findL h hn hc hs hi hj ht h1 h0 c 0 (by omega) (fun p hp => by omega)⟩
theorem nm4 {n : Nat} (h : n < 2 ^ 31) : ¬ nI n = -4 := fun q => by
  have h1 := congrArg Int32.toInt q
  rw [nI_toInt h] at h1
  have h2 : (-4 : Int32).toInt = -4 := by decide
  omega
theorem le1 {t : Nat} (h : t < 4) : nI t ≤ 1 ↔ t < 2 := by
  have := nI_leI (a := t) (b := 1) (by omega) (by decide)
  exact ⟨fun q => by have := this.mp q; omega, fun q => this.mpr (by omega)⟩
/-- the reference's called(): which of the four answers, and what it writes -/
theorem m_called {K : Int32 → pw_Mem → Prop} {n c : Nat} {a b s : Int32} {cs : Nat → Rows} {E : Nat → Nat × Nat × Nat} {σ : pw_Mem} (h : I_ce n c cs (σ 52) (σ 53) (σ 54) E) (hn : n ≤ 20) (h0 : σ 49 0 = nI n) (hc : c ≤ 60) (hs : σ 49 3 = nI c)
    (hbad : ¬ vc n a b s → K (-1) σ) (hst : ∀ i j t, i < n → t < 4 → a = nI i → b = nI j → s = nI t → (t < 2 → j < n) → (2 ≤ t → j < 8) → (∃ k, k < c ∧ E k = (i, j, t)) → K (-2) σ) (hfull : ∀ i j t, i < n → t < 4 → a = nI i → b = nI j → s = nI t → (t < 2 → j < n) → (2 ≤ t → j < 8) → (∀ k, k < c → ¬ E k = (i, j, t)) → c = 60 → K (-3) σ)
    (hok : ∀ i j t, i < n → t < 4 → a = nI i → b = nI j → s = nI t → (t < 2 → j < n) → (2 ≤ t → j < 8) → (∀ k, k < c → ¬ E k = (i, j, t)) → c < 60 → ∀ ρ, ρ = pw_up (pw_up (pw_up (pw_up σ 52 c (nI i)) 53 c (nI j)) 54 c (nI t)) 49 3 (nI (c + 1)) → K (nI (c + 1)) ρ) : R_X11_called a b s σ K := by
  unfold R_X11_called
  refine e_rgM 3 rfl (by decide) (fun hu => ⟨fun q => absurd q n01, fun _ => ?_⟩) (fun hu => ⟨fun _ => hbad (fun ⟨i, j, t, g1, g2, g3, g4, g5, _⟩ => hu ⟨t, g2, g5⟩), fun q => absurd rfl q⟩)
  refine e_isM h0 hn (fun hv => ⟨fun q => absurd q n01, fun _ => ?_⟩) (fun hv => ⟨fun _ => hbad (fun ⟨i, j, t, g1, g2, g3, _⟩ => hv ⟨i, g1, g3⟩), fun q => absurd rfl q⟩)
  obtain ⟨i, hi, rfl⟩ := hv
  obtain ⟨t, ht, rfl⟩ := hu
  have core : ∀ j, b = nI j → (t < 2 → j < n) → (2 ≤ t → j < 8) → R_X11_find (nI i) b (nI t) σ (fun x8 τ7 => ((x8 = (-4) → ((¬ (τ7 49 3) = 60 → vp_in (τ7 49 3) 60 ∧ ∀ τ9, τ9 = pw_up τ7 52 (Int32.toNatClampNeg (τ7 49 3)) (nI i) → vp_in (τ9 49 3) 60 ∧ ∀ τ10, τ10 = pw_up τ9 53 (Int32.toNatClampNeg (τ9 49 3)) b → vp_in (τ10 49 3) 60 ∧ ∀ τ11, τ11 = pw_up τ10 54 (Int32.toNatClampNeg (τ10 49 3)) (nI t) → ∀ τ12, τ12 = pw_up τ11 49 3 ((τ11 49 3) + 1) → K (τ12 49 3) τ12) ∧ ((τ7 49 3) = 60 → K (-3) τ7))) ∧ (¬ x8 = (-4) → K (-2) τ7))) := by
    rintro j rfl hj1 hj2
    have hj : j < 32 := by
      by_cases z : t < 2
      · have := hj1 z; omega
      · have := hj2 (by omega); omega
    refine m_find h hn hc hs (by omega) hj ht (fun k hk he => ⟨fun q => absurd q (nm4 (by omega)), fun _ => hst i j t hi ht rfl rfl rfl hj1 hj2 ⟨k, hk, he⟩⟩) (fun hno => ⟨fun _ => ⟨fun q => ?_, fun q => ?_⟩, fun q => absurd rfl q⟩)
    · rw [hs] at q
      have hlt : c < 60 := by
        have : ¬ c = 60 := fun z => q ((neqk 60 hc (by decide)).mpr z)
        omega
      rw [hs]
      refine ⟨vp_in_nI hlt (by decide), ?_⟩
      rintro _ rfl
      rw [pw_r (by decide), hs]
      refine ⟨vp_in_nI hlt (by decide), ?_⟩
      rintro _ rfl
      rw [pw_r (by decide), pw_r (by decide), hs]
      refine ⟨vp_in_nI hlt (by decide), ?_⟩
      rintro _ rfl _ rfl
      rw [pw_s, upd_s, pw_r (by decide), pw_r (by decide), pw_r (by decide), hs, nI_1]
      refine hok i j t hi ht rfl rfl rfl hj1 hj2 hno hlt _ ?_
      rw [cl_nI (by omega)]
    · rw [hs] at q
      exact hfull i j t hi ht rfl rfl rfl hj1 hj2 hno ((neqk 60 hc (by decide)).mp q)
  refine ⟨fun q => ?_, fun q => ?_⟩
  · have q2 := (le1 ht).mp q
    refine e_isM h0 hn (fun hb1 => ⟨fun _ => ?_, fun q => absurd q n01⟩) (fun hb1 => ⟨fun q => absurd rfl q, fun _ => hbad (fun ⟨i2, j, t2, g1, g2, g3, g4, g5, g6, g7⟩ => hb1 ?_)⟩)
    · obtain ⟨j, hj, e⟩ := hb1
      exact core j e (fun _ => hj) (fun z => by omega)
    · have e : t2 = t := ((nI_eq (by omega) (by omega)).mp g5).symm
      subst e
      exact ⟨j, g6 q2, g4⟩
  · have q2 : ¬ t < 2 := fun z => q ((le1 ht).mpr z)
    refine e_isPM (fun hb1 => ⟨fun q => absurd q n01, fun _ => ?_⟩) (fun hb1 => ⟨fun _ => hbad (fun ⟨i2, j, t2, g1, g2, g3, g4, g5, g6, g7⟩ => hb1 ?_), fun q => absurd rfl q⟩)
    · obtain ⟨j, hj, e⟩ := hb1
      exact core j e (fun z => by omega) (fun _ => hj)
    · have e : t2 = t := ((nI_eq (by omega) (by omega)).mp g5).symm
      subst e
      exact ⟨j, g7 (by omega), g4⟩
/-- the class's refusal -/
theorem e_ref {K : Int32 → pw_Mem → Prop} {n c : Nat} {a b s : Int32} {fr to so : Rows} {E : Nat → Nat × Nat × Nat} {σ : pw_Mem} (h : I_ce n c (fun t => σ (10 + t)) fr to so E) (hn : n ≤ 20) (h0 : σ 1 2 = nI n) (hc : c ≤ 60) (hs : σ 8 1 = nI c)
    (hbad : ¬ vc n a b s → K (-1) σ) (hst : ∀ i j t, i < n → t < 4 → a = nI i → b = nI j → s = nI t → (t < 2 → j < n) → (2 ≤ t → j < 8) → (∃ k, k < c ∧ E k = (i, j, t)) → K (-2) σ) (hfull : ∀ i j t, i < n → t < 4 → a = nI i → b = nI j → s = nI t → (t < 2 → j < n) → (2 ≤ t → j < 8) → (∀ k, k < c → ¬ E k = (i, j, t)) → c = 60 → K (-3) σ)
    (hok : ∀ i j t, i < n → t < 4 → a = nI i → b = nI j → s = nI t → (t < 2 → j < n) → (2 ≤ t → j < 8) → (∀ k, k < c → ¬ E k = (i, j, t)) → c < 60 → K 0 σ) : R_X10_refusalOfCall a b s σ K := by
  unfold R_X10_refusalOfCall
  refine e_can h0 hn (fun hv => ⟨fun _ => ?_, fun q => absurd q n01⟩) (fun hv => ⟨fun q => absurd rfl q, fun _ => hbad hv⟩)
  obtain ⟨i, j, t, hi, ht, rfl, rfl, rfl, hj1, hj2⟩ := hv
  have hj : j < 32 := by
    by_cases z : t < 2
    · have := hj1 z; omega
    · have := hj2 (by omega); omega
  have bb := h.2.2 t i j ht (by omega) hj
  refine e_has (by omega) hj ht (fun q => ⟨fun q => absurd q n01, fun _ => hst i j t hi ht rfl rfl rfl hj1 hj2 (bb.mp q)⟩) (fun q => ?_)
  have hno : ∀ k, k < c → ¬ E k = (i, j, t) := fun k hk he => by
    have q9 : bt (σ (10 + t) i) j = true := bb.mpr ⟨k, hk, he⟩
    rw [q] at q9
    cases q9
  rw [hs]
  refine ⟨fun _ => ⟨fun q2 => hok i j t hi ht rfl rfl rfl hj1 hj2 hno ((nltk 60 hc (by decide)).mp q2), fun q2 => hfull i j t hi ht rfl rfl rfl hj1 hj2 hno ?_⟩, fun q => absurd rfl q⟩
  have : ¬ c < 60 := fun z => q2 ((nltk 60 hc (by decide)).mpr z)
  omega
theorem e_kind {a b : Int32} {σ : pw_Mem} {K : Int32 → pw_Mem → Prop} (h : ∀ t, t < 4 → (2 ≤ t ↔ ¬ a = 0) → t = (if a = 0 then 0 else 2) + (if b = 0 then 0 else 1) → K (nI t) σ) : R_X10_kindOf a b σ K := by
  unfold R_X10_kindOf
  refine ⟨fun q => ⟨fun q2 => h 0 (by decide) (by simp [q]) (by simp [q, q2]), fun q2 => h 1 (by decide) (by simp [q]) (by simp [q, q2])⟩, fun q => ⟨fun q2 => h 2 (by decide) (by simp [q]) (by simp [q, q2]), fun q2 => h 3 (by decide) (by simp [q]) (by simp [q, q2])⟩⟩
theorem m_sort {a b : Int32} {σ : pw_Mem} {K : Int32 → pw_Mem → Prop} (h : K (nI ((if a = 0 then 0 else 2) + (if b = 0 then 0 else 1))) σ) : R_X11_sortOf a b σ K := by
  unfold R_X11_sortOf
  refine ⟨fun q => ⟨fun q2 => ?_, fun q2 => ?_⟩, fun q => ⟨fun q2 => ?_, fun q2 => ?_⟩⟩
  all_goals (simp only [q, q2, if_true, if_false] at h; exact h)
