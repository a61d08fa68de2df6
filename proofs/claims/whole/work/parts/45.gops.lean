/-! about, endless, count, enter, over -/
abbrev Pp (σ : pw_Mem) : Rows := plR (σ 10) (σ 12) (σ 7)
abbrev Tt (σ : pw_Mem) : Rows := plR (σ 11) (σ 13) (σ 7)
theorem refr {n c ni nt : Nat} {σ : pw_Mem} {K : pw_Mem → Prop} (h4 : Inv4 n c ni nt σ) (hX : ∀ τ : pw_Mem, (∀ k, ¬ (14 ≤ k ∧ k ≤ 19) → τ k = σ k) → Inv4 n c ni nt τ → τ 14 3 = 0 → K τ) : R_X2_refresh σ K :=
  e_refresh h4.1.1 h4.1.2.1 h4.2.2.2.2.2.2.2.2 (fun τ t1 t2 t3 => hX τ t1 (h4.cg (fun k k1 _ _ _ _ _ => t1 k (by omega)) (fun j _ => by rw [t1 49 (by decide)]) t3) t2)
theorem layn {n c ni nt : Nat} {σ : pw_Mem} {K : pw_Mem → Prop} (h4 : Inv4 n c ni nt σ) (hX : ∀ ρ : pw_Mem, (∀ k, ¬ (57 ≤ k ∧ k ≤ 61) → ρ k = σ k) → Inv4 n c ni nt ρ → (∀ a, a < n → ρ 58 a = Pp ρ a ∧ ρ 59 a = Tt ρ a ∧ ρ 60 a = gR n (Pp ρ) (Tt ρ) a ∧ ρ 61 a = gT n (Pp ρ) (Tt ρ) a) → K ρ) : R_X11_layNet σ K :=
  m_layNet h4.1.1 h4.1.2.2.1 h4.2.1 h4.2.2.1 (fun ρ t1 t2 => hX ρ t1 (h4.cg (fun k _ _ k3 _ _ _ => t1 k (by omega)) (fun j _ => by rw [t1 49 (by decide)]) (by
    rw [t1 14 (by decide), t1 15 (by decide), t1 16 (by decide), t1 17 (by decide), t1 18 (by decide), t1 19 (by decide)]
    exact h4.2.2.2.2.2.2.2.2)) (by
    unfold Pp Tt
    rw [t1 10 (by decide), t1 11 (by decide), t1 12 (by decide), t1 13 (by decide), t1 7 (by decide)]
    exact t2))
/-- a fresh graph's rows -/
theorem Inv4.gr {n c ni nt : Nat} {τ : pw_Mem} (h4 : Inv4 n c ni nt τ) (h : τ 14 3 = 0) : (∀ a, a < n → τ 15 a = Pp τ a ∧ τ 16 a = Tt τ a ∧ τ 17 a = gR n (Pp τ) (Tt τ) a ∧ τ 18 a = gT n (Pp τ) (Tt τ) a) ∧ τ 14 8 = gG n (Pp τ) (Tt τ) ∧ Lay2 (ldl n (Pp τ) (Tt τ)) (τ 14 10) (τ 19) := by
  obtain ⟨h1, h2, h3, h5⟩ := h4.2.2.2.2.2.2.2.2.2 h
  exact ⟨h1, h2, h3, h5⟩
def irf (P : Rows) (G : Int32) : Nat → Bool
  | 0 => false
  | k + 1 => irf P G k || (bt G k && !(decide (P k &&& G = 0)))
theorem irf_t {P : Rows} {G : Int32} : ∀ k, irf P G k = true ↔ ∃ j, j < k ∧ bt G j = true ∧ ¬ (P j &&& G) = 0 := by
  intro k
  induction k with
  | zero => exact ⟨fun h => Bool.noConfusion h, fun ⟨j, hj, _⟩ => absurd hj (Nat.not_lt_zero _)⟩
  | succ k ih =>
    show (irf P G k || (bt G k && !(decide (P k &&& G = 0)))) = true ↔ _
    rw [Bool.or_eq_true, ih, Bool.and_eq_true, Bool.not_eq_true', decide_eq_false_iff_not]
    constructor
    · rintro (⟨j, h1, h2⟩ | h)
      · exact ⟨j, by omega, h2⟩
      · exact ⟨k, by omega, h⟩
    · rintro ⟨j, h1, h2⟩
      by_cases e : j = k
      · subst e; exact Or.inr h2
      · exact Or.inl ⟨j, by omega, h2⟩
theorem m_isRingL {K : Int32 → pw_Mem → Prop} {KX : Int32 → Int32 → Int32 → pw_Mem → Prop} {n r : Nat} {σ : pw_Mem} (hn : n ≤ 20) (hr : r < n) (h0 : σ 49 0 = nI n) (hX : KX (nI r) (if irf (σ 58) (σ 61 r) n then 1 else 0) (nI n) σ) : ∀ (k i : Nat), i + k = n → R_X11_isRing_L4 K KX (k + 1) (nI r) (if irf (σ 58) (σ 61 r) i then 1 else 0) (nI i) σ := by
  intro k
  induction k with
  | zero =>
    intro i hi
    have e : i = n := by omega
    subst e
    unfold R_X11_isRing_L4
    rw [h0]
    exact ⟨fun _ => hX, fun z => absurd (nI_le (Nat.le_refl i) (by omega)) z⟩
  | succ k ih =>
    intro i hi
    have hin : vp_in (nI i) 20 := vp_in_nI (by omega) (by decide)
    have hin2 : vp_in (nI r) 20 := vp_in_nI (by omega) (by decide)
    have h2 := ih (i + 1) (by omega)
    have e : irf (σ 58) (σ 61 r) (i + 1) = (irf (σ 58) (σ 61 r) i || (bt (σ 61 r) i && !(decide (σ 58 i &&& σ 61 r = 0)))) := rfl
    rw [e] at h2
    unfold R_X11_isRing_L4
    rw [h0, cl_nI (show r < 2 ^ 31 by omega), cl_nI (show i < 2 ^ 31 by omega), nI_1]
    refine ⟨fun z => absurd ((nI_leI (by omega) (by omega)).mp z) (by omega), fun _ => ⟨fun q => ?_, fun q => ⟨hin2, fun q2 => ?_, fun q2 => ⟨hin, hin2, fun q3 => ?_, fun q3 => ?_⟩⟩⟩⟩
    · cases hh : irf (σ 58) (σ 61 r) i with
      | true => rw [hh] at h2; exact h2
      | false => rw [hh] at q; exact absurd rfl q
    · cases hh : irf (σ 58) (σ 61 r) i with
      | true => rw [hh] at q; exact absurd q (by decide)
      | false =>
        have hb1 : bt (σ 61 r) i = false := by
          cases e : bt (σ 61 r) i with
          | false => rfl
          | true => exact absurd (ybit (by omega) e) q2
        rw [hh, hb1] at h2
        exact h2
    · cases hh : irf (σ 58) (σ 61 r) i with
      | true => rw [hh] at q; exact absurd q (by decide)
      | false =>
        rw [hh, decide_eq_true q3] at h2
        have e9 : (false || (bt (σ 61 r) i && !true)) = false := by cases bt (σ 61 r) i <;> rfl
        rw [e9] at h2
        exact h2
    · have hb1 : bt (σ 61 r) i = true := by
        cases e : bt (σ 61 r) i with
        | true => rfl
        | false => exact absurd q2 (nbit (by omega) e)
      rw [hb1, decide_eq_false q3] at h2
      have e9 : (irf (σ 58) (σ 61 r) i || (true && !false)) = true := by cases irf (σ 58) (σ 61 r) i <;> rfl
      rw [e9] at h2
      exact h2
/-- the net's rows stand in the reference's cells -/
def Net (n : Nat) (ρ : pw_Mem) : Prop := ∀ a, a < n → ρ 58 a = Pp ρ a ∧ ρ 59 a = Tt ρ a ∧ ρ 60 a = gR n (Pp ρ) (Tt ρ) a ∧ ρ 61 a = gT n (Pp ρ) (Tt ρ) a
theorem m_isRing {K : Int32 → pw_Mem → Prop} {n c ni nt r : Nat} {σ : pw_Mem} (h4 : Inv4 n c ni nt σ) (hN : Net n σ) (hr : r < n) (h1 : bt (gG n (Pp σ) (Tt σ)) r = true → K 1 σ) (h0 : bt (gG n (Pp σ) (Tt σ)) r = false → K 0 σ) : R_X11_isRing (nI r) σ K := by
  have hn := h4.1.1
  refine ⟨n + 1, m_isRingL hn hr h4.1.2.2.1 ?_ n 0 (by omega)⟩
  have key : irf (σ 58) (σ 61 r) n = bt (gG n (Pp σ) (Tt σ)) r := by
    refine Bool.eq_iff_iff.mpr ?_
    rw [irf_t, gG_bt h4.bd hn hr]
    constructor
    · rintro ⟨j, hj, g1, g2⟩
      rw [(hN r hr).2.2.2] at g1 g2
      rw [(hN j hj).1] at g2
      exact ⟨j, hj, g1, g2⟩
    · rintro ⟨j, hj, g1, g2⟩
      rw [(hN r hr).2.2.2]
      exact ⟨j, hj, g1, by rw [(hN j hj).1]; exact g2⟩
  rw [key]
  cases hh : bt (gG n (Pp σ) (Tt σ)) r with
  | true => exact ⟨rfl, h1 hh⟩
  | false => exact ⟨rfl, h0 hh⟩
theorem m_leastL {K : Int32 → pw_Mem → Prop} {KX : Int32 → Int32 → pw_Mem → Prop} {x : Int32} {σ : pw_Mem} (hbx : bt x (lst x 20 0) = true) (hl : lst x 20 0 < 20) (hX : KX x (nI (lst x 20 0)) σ) : ∀ (k i : Nat), i + k = lst x 20 0 → R_X11_leastOf_L2 K KX (k + 1) x (nI i) σ := by
  intro k
  induction k with
  | zero =>
    intro i hi
    have e : i = lst x 20 0 := by omega
    subst e
    unfold R_X11_leastOf_L2
    refine ⟨fun _ => hX, fun q => ?_⟩
    have q2 := (hb x (show lst x 20 0 < 32 by omega)).mp q
    rw [hbx] at q2; cases q2
  | succ k ih =>
    intro i hi
    unfold R_X11_leastOf_L2
    have hf : bt x i = false := (lst_spec (x := x) 20 0).2.1 i (Nat.zero_le _) (by omega)
    refine ⟨fun q => absurd ((hb x (show i < 32 by omega)).mpr hf) q, fun _ => ?_⟩
    rw [nI_1]
    exact ih (i + 1) (by omega)
theorem m_least {K : Int32 → pw_Mem → Prop} {x : Int32} {σ : pw_Mem} {j : Nat} (hj : j < 20) (hb : bt x j = true) (hX : K (nI (lst x 20 0)) σ) : R_X11_leastOf x σ K := by
  obtain ⟨h1, h2⟩ := lst_lt hj hb
  exact ⟨lst x 20 0 + 1, m_leastL h2 (by omega) hX (lst x 20 0) 0 (by omega)⟩
theorem m_sizeL {K : Int32 → pw_Mem → Prop} {KX : Int32 → Int32 → Int32 → pw_Mem → Prop} {x : Int32} {σ : pw_Mem} (hX : KX x (nI (cnt x 20)) 20 σ) : ∀ (k i : Nat), i + k = 20 → R_X11_sizeOf_L4 K KX (k + 1) x (nI (cnt x i)) (nI i) σ := by
  intro k
  induction k with
  | zero =>
    intro i hi
    have e : i = 20 := by omega
    subst e
    unfold R_X11_sizeOf_L4
    exact ⟨fun _ => hX, fun z => absurd (show (20 : Int32) ≤ nI 20 by decide) z⟩
  | succ k ih =>
    intro i hi
    unfold R_X11_sizeOf_L4
    refine ⟨fun q => absurd ((nI_leI (a := 20) (by decide) (by omega)).mp q) (by omega), fun _ => ?_⟩
    have h2 := ih (i + 1) (by omega)
    have e : cnt x (i + 1) = cnt x i + (if bt x i then 1 else 0) := rfl
    rw [e] at h2
    rw [hb0 x (by omega), nI_1]
    by_cases hb1 : bt x i = true
    · rw [if_pos hb1] at h2 ⊢; rw [nI_1]; exact h2
    · rw [if_neg hb1] at h2 ⊢; rw [Int32.add_zero]; exact h2
theorem m_size {K : Int32 → pw_Mem → Prop} {x : Int32} {σ : pw_Mem} (hX : K (nI (cnt x 20)) σ) : R_X11_sizeOf x σ K := ⟨21, m_sizeL hX 20 0 rfl⟩
theorem e_manyL {K : Int32 → pw_Mem → Prop} {KX : Int32 → Int32 → Int32 → pw_Mem → Prop} {n r : Nat} {σ : pw_Mem} (hn : n ≤ 20) (hr : r < 32) (h0 : σ 1 2 = nI n) (hX : KX (nI r) (nI (cn (σ 17) r n)) (nI n) σ) : ∀ (k i : Nat), i + k = n → R_X2_howManyReach_L4 K KX (k + 1) (nI r) (nI (cn (σ 17) r i)) (nI i) σ := by
  intro k
  induction k with
  | zero =>
    intro i hi
    have e : i = n := by omega
    subst e
    unfold R_X2_howManyReach_L4
    rw [h0]
    exact ⟨fun _ => hX, fun z => absurd (nI_le (Nat.le_refl i) (by omega)) z⟩
  | succ k ih =>
    intro i hi
    unfold R_X2_howManyReach_L4
    have h2 := ih (i + 1) (by omega)
    have e : cn (σ 17) r (i + 1) = cn (σ 17) r i + (if bt (σ 17 i) r then 1 else 0) := rfl
    rw [e] at h2
    rw [h0, cl_nI (by omega), nI_1, nI_1]
    refine ⟨fun z => absurd ((nI_leI (by omega) (by omega)).mp z) (by omega), fun _ => ⟨vp_in_nI (by omega) (by decide), ?_⟩⟩
    refine e_holds hr (fun hb1 => ⟨fun q => absurd q n01, fun _ => ?_⟩) (fun hb1 => ⟨fun _ => ?_, fun q => absurd rfl q⟩)
    · rw [if_pos hb1] at h2; exact h2
    · rw [if_neg (by rw [hb1]; decide)] at h2; exact h2
theorem m_aboutL {K : Int32 → pw_Mem → Prop} {KX : Int32 → Int32 → Int32 → Int32 → pw_Mem → Prop} {n r : Nat} {l2 : Int32} {σ : pw_Mem} (hn : n ≤ 20) (hr : r < 32) (h0 : σ 49 0 = nI n) (hX : KX (nI r) l2 (nI (cn (σ 60) r n)) (nI n) σ) : ∀ (k i : Nat), i + k = n → R_X11_about_L31 K KX (k + 1) (nI r) l2 (nI (cn (σ 60) r i)) (nI i) σ := by
  intro k
  induction k with
  | zero =>
    intro i hi
    have e : i = n := by omega
    subst e
    unfold R_X11_about_L31
    rw [h0]
    exact ⟨fun _ => hX, fun z => absurd (nI_le (Nat.le_refl i) (by omega)) z⟩
  | succ k ih =>
    intro i hi
    unfold R_X11_about_L31
    have h2 := ih (i + 1) (by omega)
    have e : cn (σ 60) r (i + 1) = cn (σ 60) r i + (if bt (σ 60 i) r then 1 else 0) := rfl
    rw [e] at h2
    rw [h0, cl_nI (by omega), nI_1, hb0 _ hr]
    refine ⟨fun z => absurd ((nI_leI (by omega) (by omega)).mp z) (by omega), fun _ => ⟨vp_in_nI (by omega) (by decide), ?_⟩⟩
    by_cases hb1 : bt (σ 60 i) r = true
    · rw [if_pos hb1] at h2 ⊢; rw [nI_1]; exact h2
    · rw [if_neg hb1] at h2 ⊢; rw [Int32.add_zero]; exact h2
theorem cn_cg {F G : Rows} {r : Nat} : ∀ k, (∀ i, i < k → F i = G i) → cn F r k = cn G r k := by
  intro k
  induction k with
  | zero => intro _; rfl
  | succ k ih => intro h; unfold cn; rw [ih (fun i hi => h i (by omega)), h k (by omega)]
theorem sw6 (a : Int32) : (a = nI 0 ∨ a = nI 1 ∨ a = nI 2 ∨ a = nI 3 ∨ a = nI 4 ∨ a = nI 5) ∨ ∀ c : Nat, c ≤ 5 → ¬ a = nI c := by
  by_cases h : ∃ c : Nat, c ≤ 5 ∧ a = nI c
  · left
    obtain ⟨c, hc, rfl⟩ := h
    match c, hc with
    | 0, _ => exact Or.inl rfl
    | 1, _ => exact Or.inr (Or.inl rfl)
    | 2, _ => exact Or.inr (Or.inr (Or.inl rfl))
    | 3, _ => exact Or.inr (Or.inr (Or.inr (Or.inl rfl)))
    | 4, _ => exact Or.inr (Or.inr (Or.inr (Or.inr (Or.inl rfl))))
    | 5, _ => exact Or.inr (Or.inr (Or.inr (Or.inr (Or.inr rfl))))
  · right
    exact fun c hc e => h ⟨c, hc, e⟩
theorem Pp_cg {σ τ : pw_Mem} (h : ∀ k, ¬ (57 ≤ k ∧ k ≤ 61) → τ k = σ k) : Pp τ = Pp σ ∧ Tt τ = Tt σ := by
  unfold Pp Tt
  rw [h 10 (by decide), h 11 (by decide), h 12 (by decide), h 13 (by decide), h 7 (by decide)]
  exact ⟨rfl, rfl⟩
theorem o_about {a b : Int32} {σ : pw_Mem} (h : Inv σ) : R_X10_about a b σ (fun x τ => R_X11_about a b τ (fun y ρ => Nx x y ρ)) := by
  have hI := h
  obtain ⟨n, c, ni, nt, h4⟩ := h
  obtain ⟨r1, r2, r3, r4, r5, r6⟩ := h4.1
  unfold R_X10_about
  refine e_isR r2 r1 (fun hv => ⟨fun _ => ?_, fun q => absurd q n01⟩) (fun hv => ⟨fun q => absurd rfl q, fun _ => ?_⟩)
  · refine refr h4 (fun τ t1 h5 t3 => ?_)
    have hv0 := hv
    obtain ⟨r, hr, rfl⟩ := hv
    have hin : vp_in (nI r) 20 := vp_in_nI (by omega) (by decide)
    obtain ⟨g1, g2, g3⟩ := h5.gr t3
    have hbd := h5.bd
    obtain ⟨s1, s2, s3, s4, s5, s6⟩ := h5.1
    have md : ∀ (v : Nat) (x : Int32), v ≤ 5 → b = nI v → (∀ ρ : pw_Mem, (∀ k, ¬ (57 ≤ k ∧ k ≤ 61) → ρ k = τ k) → Inv4 n c ni nt ρ → Net n ρ → (fun y7 => ((¬ y7 = 0 → ((¬ y7 = 1 → ((¬ y7 = 2 → ((¬ y7 = 3 → ((¬ y7 = 4 → Nx x (nI (cn (ρ 60) r n)) ρ) ∧ (y7 = 4 → vp_in (nI r) 20 ∧ R_X11_sizeOf (ρ 60 (Int32.toNatClampNeg (nI r))) ρ (fun y ρ => Nx x y ρ)))) ∧ (y7 = 3 → vp_in (nI r) 20 ∧ R_X11_leastOf (ρ 61 (Int32.toNatClampNeg (nI r))) ρ (fun y ρ => Nx x y ρ)))) ∧ (y7 = 2 → R_X11_isRing (nI r) ρ (fun x16 τ15 => ((x16 = 0 → Nx x 0 τ15) ∧ (¬ x16 = 0 → Nx x 1 τ15)))))) ∧ (y7 = 1 → vp_in (nI r) 20 ∧ Nx x (ρ 51 (Int32.toNatClampNeg (nI r))) ρ))) ∧ (y7 = 0 → vp_in (nI r) 20 ∧ Nx x (ρ 50 (Int32.toNatClampNeg (nI r))) ρ))) b) → R_X11_about (nI r) b τ (fun y ρ => Nx x y ρ) := by
      intro v x hv5 hb hK
      unfold R_X11_about
      refine e_isM s3 s1 (fun _ => ⟨fun q => absurd q n01, fun _ => ?_⟩) (fun h9 => absurd hv0 h9)
      refine e_rgM 5 rfl (by decide) (fun _ => ⟨fun _ => ?_, fun q => absurd q n01⟩) (fun h9 => absurd ⟨v, by omega, hb⟩ h9)
      refine layn h5 (fun ρ p1 p2 p3 => ⟨n + 1, m_aboutL s1 (by omega) p2.1.2.2.1 ?_ n 0 (by omega)⟩)
      exact hK ρ p1 p2 p3
    refine ⟨sw6 b, fun e => ⟨hin, ?_⟩, fun e => ⟨hin, ?_⟩, fun e => ?_, fun e => ⟨hin, ?_⟩, fun e => ⟨hin, ?_⟩, fun e => ?_, fun e => ?_⟩
    · refine md 0 _ (by decide) e (fun ρ p1 p2 p3 => ?_)
      subst e
      refine ⟨fun q => absurd rfl q, fun _ => ⟨hin, ?_, n, c, ni, nt, p2⟩⟩
      rw [cl_nI (by omega), p1 50 (by decide)]; exact ((s4 r hr).2).symm
    · refine md 1 _ (by decide) e (fun ρ p1 p2 p3 => ?_)
      subst e
      refine ⟨fun _ => ⟨fun q => absurd rfl q, fun _ => ⟨hin, ?_, n, c, ni, nt, p2⟩⟩, fun q => absurd q (by decide)⟩
      rw [cl_nI (by omega), p1 51 (by decide)]; exact ((s5 r hr).2).symm
    · rw [g2]
      have go : ∀ x : Int32, x = (if bt (gG n (Pp τ) (Tt τ)) r then 1 else 0) → R_X11_about (nI r) b τ (fun y ρ => Nx x y ρ) := by
        intro x hx
        refine md 2 _ (by decide) e (fun ρ p1 p2 p3 => ?_)
        subst e
        obtain ⟨eP, eT⟩ := Pp_cg p1
        refine ⟨fun _ => ⟨fun _ => ⟨fun q => absurd rfl q, fun _ => ?_⟩, fun q => absurd q (by decide)⟩, fun q => absurd q (by decide)⟩
        refine m_isRing p2 p3 hr (fun hb1 => ⟨fun q => absurd q n01, fun _ => ⟨?_, n, c, ni, nt, p2⟩⟩) (fun hb1 => ⟨fun _ => ⟨?_, n, c, ni, nt, p2⟩, fun q => absurd rfl q⟩)
        · rw [eP, eT] at hb1; rw [hx, hb1]; rfl
        · rw [eP, eT] at hb1; rw [hx, hb1]; rfl
      refine e_holds (by omega) (fun hb1 => ⟨fun q => absurd q n01, fun _ => go 1 (by rw [hb1]; rfl)⟩) (fun hb1 => ⟨fun _ => go 0 (by rw [hb1]; rfl), fun q => absurd rfl q⟩)
    · rw [cl_nI (by omega), (g1 r hr).2.2.2]
      have hself := gT_self (P := Pp τ) (T := Tt τ) s1 hr
      refine e_least (fun _ => ?_) (fun q => by have := (lst_lt (show r < 20 by omega) hself).1; omega)
      refine md 3 _ (by decide) e (fun ρ p1 p2 p3 => ?_)
      subst e
      obtain ⟨eP, eT⟩ := Pp_cg p1
      refine ⟨fun _ => ⟨fun _ => ⟨fun _ => ⟨fun q => absurd rfl q, fun _ => ⟨hin, ?_⟩⟩, fun q => absurd q (by decide)⟩, fun q => absurd q (by decide)⟩, fun q => absurd q (by decide)⟩
      rw [cl_nI (by omega), (p3 r hr).2.2.2, eP, eT]
      exact m_least (show r < 20 by omega) hself ⟨rfl, n, c, ni, nt, p2⟩
    · rw [cl_nI (by omega), (g1 r hr).2.2.1]
      refine e_bits ?_
      refine md 4 _ (by decide) e (fun ρ p1 p2 p3 => ?_)
      subst e
      obtain ⟨eP, eT⟩ := Pp_cg p1
      refine ⟨fun _ => ⟨fun _ => ⟨fun _ => ⟨fun _ => ⟨fun q => absurd rfl q, fun _ => ⟨hin, ?_⟩⟩, fun q => absurd q (by decide)⟩, fun q => absurd q (by decide)⟩, fun q => absurd q (by decide)⟩, fun q => absurd q (by decide)⟩
      rw [cl_nI (by omega), (p3 r hr).2.2.1, eP, eT]
      refine m_size ⟨?_, n, c, ni, nt, p2⟩
      rw [cnt_hi (fun s hs => gR_bd hbd hr hs) 20 32 s1 (by decide)]
    · refine ⟨n + 1, e_manyL s1 (by omega) s2 ?_ n 0 (by omega)⟩
      refine md 5 _ (by decide) e (fun ρ p1 p2 p3 => ?_)
      subst e
      obtain ⟨eP, eT⟩ := Pp_cg p1
      refine ⟨fun _ => ⟨fun _ => ⟨fun _ => ⟨fun _ => ⟨fun _ => ⟨?_, n, c, ni, nt, p2⟩, fun q => absurd q (by decide)⟩, fun q => absurd q (by decide)⟩, fun q => absurd q (by decide)⟩, fun q => absurd q (by decide)⟩, fun q => absurd q (by decide)⟩
      rw [cn_cg n (fun i hi => (g1 i hi).2.2.1), cn_cg n (fun i hi => (p3 i hi).2.2.1), eP, eT]
    · unfold R_X11_about
      refine e_isM s3 s1 (fun _ => ⟨fun q => absurd q n01, fun _ => ?_⟩) (fun h9 => absurd hv0 h9)
      exact e_rgM 5 rfl (by decide) (fun ⟨j, hj, ej⟩ => absurd ej (e j (by omega))) (fun _ => ⟨fun q => absurd rfl q, fun _ => ⟨rfl, n, c, ni, nt, h5⟩⟩)
  · unfold R_X11_about
    exact e_isM r3 r1 (fun h9 => absurd h9 hv) (fun _ => ⟨fun _ => ⟨rfl, hI⟩, fun q => absurd rfl q⟩)
