/-! scan: the reference, and both -/
theorem I_ce.ecg {n c : Nat} {cs : Nat → Rows} {fr to so : Rows} {E E' : Nat → Nat × Nat × Nat} (h : I_ce n c cs fr to so E) (he : ∀ k, k < c → E' k = E k) : I_ce n c cs fr to so E' := by
  obtain ⟨h1, h2, h3⟩ := h
  refine ⟨fun k hk => by rw [he k hk]; exact h1 k hk, fun k k' hk hk' e => h2 k k' hk hk' (by rw [← he k hk, ← he k' hk']; exact e), fun t a b ht ha hb => ?_⟩
  rw [h3 t a b ht ha hb]
  exact ⟨fun ⟨k, k1, k2⟩ => ⟨k, k1, by rw [he k k1]; exact k2⟩, fun ⟨k, k1, k2⟩ => ⟨k, k1, by rw [← he k k1]; exact k2⟩⟩
theorem ee_lt {S : Sc} {k : Nat} (h : k < S.c) : S.ee k = S.E k := by unfold Sc.ee EE; rw [if_pos h]
theorem add64 (x y : Int32) : (Int32.toInt64 x + Int32.toInt64 y).toInt = x.toInt + y.toInt := by
  rw [Int64.toInt_add, l64, l64]
  have h1 := Int32.toInt_lt x
  have h2 := Int32.toInt_lt y
  have h3 := Int32.le_toInt x
  have h4 := Int32.le_toInt y
  exact Int.bmod_eq_of_le (by omega) (by omega)
theorem fits_i {L j : Nat} {f : Int32} (hL : L ≤ 60) : fits L f j ↔ (0 ≤ f.toInt ∧ f.toInt + 3 * (j + 1) ≤ L) := by
  constructor
  · rintro ⟨F, rfl, h⟩
    rw [nI_toInt (by omega)]; omega
  · rintro ⟨h2, h3⟩
    have h4 : ¬ f < 0 := fun z => by
      have z2 := Int32.lt_iff_toInt_lt.mp z
      have e : (0 : Int32).toInt = 0 := by decide
      omega
    obtain ⟨F, hF, rfl⟩ := nI_of h4
    rw [nI_toInt hF] at h3
    exact ⟨F, rfl, by omega⟩
theorem i3 {j : Nat} (hj : j < 100) : (3 * nI j).toInt = 3 * (j : Int) := by
  rw [tri, nI_toInt (by omega)]; omega
/-- rows that the reference's scan doesn't touch -/
def Sq (c : Nat) (τ σ : pw_Mem) : Prop := (∀ k, ¬ k = 49 → ¬ (52 ≤ k ∧ k ≤ 54) → τ k = σ k) ∧ (∀ q, ¬ q = 3 → τ 49 q = σ 49 q) ∧ ∀ k, k < c → τ 52 k = σ 52 k ∧ τ 53 k = σ 53 k ∧ τ 54 k = σ 54 k
theorem m_scanL {S : Sc} {s m : Nat} {l2 : Int32} {σ0 : pw_Mem} {K : Int32 → pw_Mem → Prop} {KX : Int32 → Int32 → Int32 → Int32 → Int32 → Int32 → pw_Mem → Prop} (hs : s < 4) (hm : m ≤ 20) (hn : S.n ≤ 20) (h0 : σ0 49 0 = nI S.n) (hL : σ0 75 s = nI S.L) (h60 : S.L ≤ 60) (hce : ∀ i, i < 60 → S.cl i = σ0 76 (60 * s + i))
    (hX : (∀ q, q < m → S.okk q) → ∀ ρ : pw_Mem, Sq S.c ρ σ0 → ρ 49 3 = nI (S.c + m) → (∃ cs, I_ce S.n (S.c + m) cs (ρ 52) (ρ 53) (ρ 54) S.ee) → KX (nI s) l2 S.f (nI m) (nI S.c) (nI m) ρ)
    (hF : ∀ j x, j < m → (∀ q, q < j → S.okk q) → S.flt j x → ∀ ρ : pw_Mem, Sq S.c ρ σ0 → ρ 49 3 = nI S.c → K x ρ) : ∀ (k j : Nat) (σ : pw_Mem), j + k = m → (∀ q, q < j → S.okk q) → S.c + j ≤ 60 → Sq S.c σ σ0 → σ 49 3 = nI (S.c + j) → (∃ cs, I_ce S.n (S.c + j) cs (σ 52) (σ 53) (σ 54) S.ee) → R_X11_scan_L77 K KX (k + 1) (nI s) l2 S.f (nI m) (nI S.c) (nI j) σ := by
  intro k
  induction k with
  | zero =>
    intro j σ hj hokk hc hq h3 hI
    have e : j = m := by omega
    subst e
    unfold R_X11_scan_L77
    exact ⟨fun _ => hX hokk σ hq h3 hI, fun z => absurd (nI_le (Nat.le_refl _) (by omega)) z⟩
  | succ k ih =>
    intro j σ hj hokk hc hq h3 hI
    obtain ⟨cs, hI⟩ := hI
    have hin : vp_in (nI s) 4 := vp_in_nI hs (by decide)
    have back : ∀ x, S.flt j x → ∀ ρ, ρ = pw_up σ 49 3 (nI S.c) → K x ρ := fun x hx ρ hρ => by
      refine hF j x (by omega) hokk hx ρ ⟨fun k k1 k2 => by rw [hρ, pw_r k1]; exact hq.1 k k1 k2, fun q hq1 => by rw [hρ, pw_s, upd_n hq1]; exact hq.2.1 q hq1, fun k hk => ?_⟩ (by rw [hρ, pw_s, upd_s])
      rw [hρ, pw_r (by decide), pw_r (by decide), pw_r (by decide)]
      exact hq.2.2 k hk
    have hfi : ((0 : Int64).toInt ≤ (Int32.toInt64 S.f + Int32.toInt64 (3 * nI j)).toInt ∧ (Int32.toInt64 S.f + Int32.toInt64 (3 * nI j)).toInt ≤ (Int32.toInt64 (nI S.L - 3)).toInt) ↔ fits S.L S.f j := by
      have e3 : (nI S.L - 3).toInt = (S.L : Int) - 3 := sub_i (M := 3) (by omega) (by decide)
      have ez : (0 : Int64).toInt = 0 := by decide
      rw [add64, l64, i3 (by omega), e3, ez, fits_i h60]
      have hpos : j = 0 ∨ 0 ≤ S.f.toInt := by
        by_cases e : j = 0
        · exact Or.inl e
        · exact Or.inr ((fits_i h60).mp (hokk 0 (by omega)).1).1
      omega
    unfold R_X11_scan_L77
    rw [cl_nI (show s < 2 ^ 31 by omega), hq.1 75 (by decide) (by decide), hL]
    refine ⟨fun z => absurd ((nI_leI (by omega) (by omega)).mp z) (by omega), fun _ => ⟨hin, ?_⟩⟩
    refine e_in (fun h => ⟨fun _ => ?_, fun q => absurd q n01⟩) (fun h => ⟨fun q => absurd rfl q, fun _ => ⟨fun q => absurd q (by decide), fun _ => back (-12) (Or.inl ⟨rfl, fun q => h (hfi.mpr q)⟩)⟩⟩)
    have hfit0 := hfi.mp h
    have hfit := hfit0
    obtain ⟨F, eF, hF2⟩ := hfit
    have eSF : S.F = F := by unfold Sc.F; rw [eF, cl_nI (by omega)]
    have e0 : Int64.toInt32 (Int32.toInt64 (nI F) + Int32.toInt64 (3 * nI j)) = nI (F + 3 * j) := by
      rw [Int64.toInt32_add, Int32.toInt32_toInt64, Int32.toInt32_toInt64, tri, nI_add]
    have e1 : nI (60 * s + (F + 3 * j)) + 1 = nI (60 * s + (F + 3 * j + 1)) := nI_1 _
    have e2 : nI (60 * s + (F + 3 * j)) + 2 = nI (60 * s + (F + 3 * j + 2)) := nI_add _ 2
    rw [eF, e0, ix60, e1, e2, cl_nI (by omega), cl_nI (by omega), cl_nI (by omega), hq.1 76 (by decide) (by decide), ← hce _ (by omega), ← hce _ (by omega), ← hce _ (by omega), ← eSF]
    rw [← eSF] at hF2
    refine ⟨vp_in_nI (by omega) (by decide), vp_in_nI (by omega) (by decide), vp_in_nI (by omega) (by decide), ?_⟩
    rw [eSF, ← eF]
    rw [eSF] at hF2
    have hvv : S.vv j ↔ vc S.n (S.cl (F + 3 * j)) (S.cl (F + 3 * j + 1)) (S.cl (F + 3 * j + 2)) := by unfold Sc.vv; rw [eSF]
    refine m_called hI hn (by rw [hq.2.1 0 (by decide)]; exact h0) hc h3 (fun hv => ⟨fun q => absurd q (by decide), fun _ => ⟨fun q => absurd q (by decide), fun _ => back (-21) (Or.inr (Or.inl ⟨rfl, hfit0, fun q => hv (hvv.mp q)⟩))⟩⟩) (fun i b t hi ht ea eb es j1 j2 hex => ⟨fun q => absurd q (by decide), fun _ => ⟨fun q => absurd q (by decide), fun _ => back (-22) (Or.inr (Or.inr (Or.inl ⟨rfl, hfit0, hvv.mpr ⟨i, b, t, hi, ht, ea, eb, es, j1, j2⟩, ?_⟩)))⟩⟩) (fun i b t hi ht ea eb es j1 j2 hno h6 => ⟨fun q => absurd q (by decide), fun _ => ⟨fun q => absurd q (by decide), fun _ => back (-23) (Or.inr (Or.inr (Or.inr ⟨rfl, hfit0, hvv.mpr ⟨i, b, t, hi, ht, ea, eb, es, j1, j2⟩, ?_, h6⟩)))⟩⟩) (fun i b t hi ht ea eb es j1 j2 hno h6 ρ hρ => ⟨fun _ => ⟨fun _ => ?_, fun q => absurd (Int32.le_refl _) q⟩, fun q => absurd (z_le (by omega)) q⟩)
    · have := jb hn j1 j2
      rw [eSF, ent_eq ea eb es (by omega) (by omega) (by omega)]; exact hex
    · have := jb hn j1 j2
      rw [eSF, ent_eq ea eb es (by omega) (by omega) (by omega)]; exact hno
    · have hb32 := jb hn j1 j2
      have ee := ent_eq ea eb es (by omega) (by omega) (by omega)
      have hokj : S.okk j := ⟨hfit0, hvv.mpr ⟨i, b, t, hi, ht, ea, eb, es, j1, j2⟩, by rw [eSF, ee]; exact hno, h6⟩
      have p49 : ∀ q, ¬ q = 3 → ρ 49 q = σ 49 q := fun q hq => by rw [hρ, pw_s, upd_n hq, pw_r (by decide), pw_r (by decide), pw_r (by decide)]
      have p52 : ρ 52 = upd (σ 52) (S.c + j) (nI i) := by rw [hρ, pw_r (by decide), pw_r (by decide), pw_r (by decide), pw_s]
      have p53 : ρ 53 = upd (σ 53) (S.c + j) (nI b) := by rw [hρ, pw_r (by decide), pw_r (by decide), pw_s, pw_r (by decide)]
      have p54 : ρ 54 = upd (σ 54) (S.c + j) (nI t) := by rw [hρ, pw_r (by decide), pw_s, pw_r (by decide), pw_r (by decide)]
      rw [nI_1]
      refine ih (j + 1) ρ (by omega) (fun q hq => ?_) (by omega) ⟨fun k k1 k2 => ?_, fun q hq1 => (p49 q hq1).trans (hq.2.1 q hq1), fun k hk => ?_⟩ ?_ ?_
      · by_cases e : q = j
        · subst e; exact hokj
        · exact hokk q (by omega)
      · rw [hρ, pw_r k1, pw_r (by omega), pw_r (by omega), pw_r (by omega)]; exact hq.1 k k1 k2
      · rw [p52, p53, p54, upd_n (by omega), upd_n (by omega), upd_n (by omega)]; exact hq.2.2 k hk
      · rw [hρ, pw_s, upd_s]; rfl
      · have hadd := hI.add (cs' := fun u => if u = t then upd (cs t) i (cs t i ||| one b) else cs u) hn hi ht j1 j2 hno (fun u hu => rfl)
        have eE : (fun k => if k = S.c + j then (i, b, t) else S.ee k) = S.ee := by
          funext k
          by_cases ek : k = S.c + j
          · rw [if_pos ek, ek]
            unfold Sc.ee EE
            rw [if_neg (by omega), Nat.add_sub_cancel_left, eSF, ee]
          · rw [if_neg ek]
        rw [eE] at hadd
        rw [p52, p53, p54]
        exact ⟨_, hadd⟩
theorem m_scan {S : Sc} {s m m2 : Nat} {τ : pw_Mem} {cs : Nat → Rows} {K : Int32 → pw_Mem → Prop} (hs : s < 4) (hm : m ≤ 20) (hm2 : m2 < 3) (hn : S.n ≤ 20) (hc : S.c ≤ 60) (h0 : τ 49 0 = nI S.n) (h3 : τ 49 3 = nI S.c) (h74 : τ 74 s = nI m2) (hL : τ 75 s = nI S.L) (h60 : S.L ≤ 60) (hce : ∀ i, i < 60 → S.cl i = τ 76 (60 * s + i)) (hI : I_ce S.n S.c cs (τ 52) (τ 53) (τ 54) S.E)
    (hX : (∀ q, q < m → S.okk q) → ∀ ρ : pw_Mem, Sq S.c ρ τ → ρ 49 3 = nI (S.c + m) → (∃ cs, I_ce S.n (S.c + m) cs (ρ 52) (ρ 53) (ρ 54) S.ee) → K (nI (S.c + m)) ρ)
    (hF : ∀ j x, j < m → (∀ q, q < j → S.okk q) → S.flt j x → ∀ ρ : pw_Mem, Sq S.c ρ τ → ρ 49 3 = nI S.c → K x ρ) : R_X11_scan (nI s) (nI m2) S.f (nI m) τ K := by
  have hin : vp_in (nI s) 4 := vp_in_nI hs (by decide)
  unfold R_X11_scan
  refine e_rgM 3 rfl (by decide) (fun _ => ⟨fun q => absurd q n01, fun _ => ?_⟩) (fun h9 => absurd ⟨s, by omega, rfl⟩ h9)
  refine e_rgM 2 rfl (by decide) (fun _ => ⟨fun q => absurd q n01, fun _ => ?_⟩) (fun h9 => absurd ⟨m2, by omega, rfl⟩ h9)
  refine e_rgM 20 rfl (by decide) (fun _ => ⟨fun _ => ⟨hin, ?_⟩, fun q => absurd q n01⟩) (fun h9 => absurd ⟨m, by omega, rfl⟩ h9)
  rw [cl_nI (by omega), h74, h3]
  refine ⟨fun _ => ⟨m + 1, m_scanL hs hm hn h0 hL h60 hce (fun hok ρ p1 p2 p3 => ?_) hF m 0 τ (by omega) (fun q hq => absurd hq (Nat.not_lt_zero _)) (by omega) ⟨fun _ _ _ => rfl, fun _ _ => rfl, fun _ _ => ⟨rfl, rfl, rfl⟩⟩ h3 ⟨cs, hI.ecg (fun k hk => ee_lt hk)⟩⟩, fun z => absurd rfl z⟩
  rw [p2]
  exact hX hok ρ p1 p2 p3
theorem m_scan0 {s m m2 : Nat} {f : Int32} {τ : pw_Mem} {K : Int32 → pw_Mem → Prop} (hs : s < 4) (hm : m ≤ 20) (hm2 : m2 < 3) (h : ¬ τ 74 s = nI m2 ∧ (¬ τ 74 s = -4 → K (-13) τ) ∧ (τ 74 s = -4 → K (-11) τ)) : R_X11_scan (nI s) (nI m2) f (nI m) τ K := by
  have hin : vp_in (nI s) 4 := vp_in_nI hs (by decide)
  unfold R_X11_scan
  refine e_rgM 3 rfl (by decide) (fun _ => ⟨fun q => absurd q n01, fun _ => ?_⟩) (fun h9 => absurd ⟨s, by omega, rfl⟩ h9)
  refine e_rgM 2 rfl (by decide) (fun _ => ⟨fun q => absurd q n01, fun _ => ?_⟩) (fun h9 => absurd ⟨m2, by omega, rfl⟩ h9)
  refine e_rgM 20 rfl (by decide) (fun _ => ⟨fun _ => ⟨hin, ?_⟩, fun q => absurd q n01⟩) (fun h9 => absurd ⟨m, by omega, rfl⟩ h9)
  rw [cl_nI (by omega)]
  exact ⟨fun z => absurd z h.1, fun _ => ⟨hin, h.2⟩⟩
theorem g_scan {n c ni nt s la ce m m2 : Nat} {f : Int32} {σ : pw_Mem} (h4 : Inv4 n c ni nt σ) (hs : s < 4) (hm : m ≤ 20) (hm2 : m2 < 3) (hce8 : ¬ ce = 8) (hce10 : ¬ (10 ≤ ce ∧ ce ≤ 14)) (hla8 : ¬ la = 8) (hla10 : ¬ (10 ≤ la ∧ la ≤ 14)) (hs1 : I_s1 s (σ la 1) (σ la 2) (σ ce) (σ 74) (σ 75) (σ 76)) {K : Int32 → pw_Mem → Prop} (hK : K = fun x τ => R_X11_scan (nI s) (nI m2) f (nI m) τ (fun y ρ => Nx x y ρ)) {Lp : Nat → Int32 → pw_Mem → Prop} {Rm : Int32 → pw_Mem → (pw_Mem → Prop) → Prop} {Lr : (pw_Mem → Prop) → Int32 → Nat → Int32 → pw_Mem → Prop}
    (hu : ∀ (k : Nat) (l6 : Int32) (σ : pw_Mem), ((nI m ≤ l6 → K (σ 8 1) σ) ∧ (¬ nI m ≤ l6 → gAdd la ce f l6 σ (fun x11 τ10 => ((x11 = 0 → Lp k (l6 + 1) τ10) ∧ (¬ x11 = 0 → Rm l6 τ10 (fun τ12 => K x11 τ12)))))) → Lp (k + 1) l6 σ)
    (hur : ∀ (K' : pw_Mem → Prop) (l3 : Int32) (k : Nat) (l4 : Int32) (σ : pw_Mem), ((l3 ≤ l4 → K' σ) ∧ (¬ l3 ≤ l4 → vp_in (f + (3 * l4)) 60 ∧ vp_in ((f + (3 * l4)) + 1) 60 ∧ vp_in ((f + (3 * l4)) + 2) 60 ∧ R_X0_remove (σ ce (Int32.toNatClampNeg (f + (3 * l4)))) (σ ce (Int32.toNatClampNeg ((f + (3 * l4)) + 1))) (σ ce (Int32.toNatClampNeg ((f + (3 * l4)) + 2))) σ (fun τ1 => Lr K' l3 k (l4 + 1) τ1))) → Lr K' l3 (k + 1) l4 σ)
    (hrm : ∀ (K' : pw_Mem → Prop) (l3 : Int32) (σ : pw_Mem), (∃ k, Lr K' l3 k 0 σ) → Rm l3 σ K') : (¬ σ la 2 = -1 → ((σ la 1 = nI m2 → ∀ τ, τ = pw_up σ 14 3 1 → ∃ k, Lp k 0 τ) ∧ (¬ σ la 1 = nI m2 → K (-13) σ))) ∧ (σ la 2 = -1 → K (-11) σ) := by
  have h4' := h4
  obtain ⟨⟨r1, r2, r3, _⟩, hcl, _⟩ := h4'
  obtain ⟨hc, hs8, hs49, E, hE⟩ := hcl.e
  rcases hs1.1 with hz | ⟨len, lm, hl, hlm, z1, z2, z3, z4⟩
  · refine ⟨fun q => absurd hz.1 q, fun _ => ?_⟩
    rw [hK]
    refine m_scan0 hs hm hm2 ⟨fun q => ?_, fun q => absurd hz.2 q, fun _ => ⟨rfl, n, c, ni, nt, h4⟩⟩
    rw [hz.2] at q
    exact nm4 (by omega) q.symm
  · refine ⟨fun _ => ⟨fun q => ?_, fun q => ?_⟩, fun q => absurd (z1.symm.trans q) (nlm1 hl)⟩
    · rw [z3] at q
      intro τ hτ
      have u1 : ∀ k, ¬ k = 14 → τ k = σ k := fun k hk => by rw [hτ, pw_r hk]
      have u14 : τ 14 3 = 1 := by rw [hτ, pw_s, upd_s]
      obtain ⟨S, hS⟩ : ∃ S : Sc, S = (n, c, len, f, σ ce, E) := ⟨_, rfl⟩
      have sn : S.n = n := by rw [hS]; rfl
      have sc : S.c = c := by rw [hS]; rfl
      have sL : S.L = len := by rw [hS]; rfl
      have sf : S.f = f := by rw [hS]; rfl
      have scl : S.cl = σ ce := by rw [hS]; rfl
      have sE : S.E = E := by rw [hS]; rfl
      have inv : ∀ (c2 : Nat) (E2 : Nat → Nat × Nat × Nat) (w ρ : pw_Mem), (∀ k, ¬ k = 8 → ¬ (10 ≤ k ∧ k ≤ 13) → w k = τ k) → Sq c ρ w → w 8 1 = nI c2 → ρ 49 3 = nI c2 → c2 ≤ 60 → I_ce n c2 (fun t => ρ (10 + t)) (ρ 52) (ρ 53) (ρ 54) E2 → Inv ρ := by
        intro c2 E2 w ρ w1 hq w8 h3 hc2 hE2
        refine ⟨n, c2, ni, nt, h4.cls (fun k k1 k2 k3 k4 k5 => ?_) ?_ ?_ (fun j hj => ?_) h3 hc2 hE2⟩
        · rw [hq.1 k k4 k5, w1 k k1 k2, u1 k k3]
        · rw [hq.1 8 (by decide) (by decide)]; exact w8
        · rw [hq.1 14 (by decide) (by decide), w1 14 (by decide) (by decide)]; exact u14
        · rw [hq.2.1 j hj, w1 49 (by decide) (by decide), u1 49 (by decide)]
      have base : ∀ w : pw_Mem, (∀ k, ¬ k = 8 → ¬ (10 ≤ k ∧ k ≤ 13) → w k = τ k) → w 49 0 = nI S.n ∧ w 49 3 = nI S.c ∧ w 74 s = nI m2 ∧ w 75 s = nI S.L ∧ (∀ i, i < 60 → S.cl i = w 76 (60 * s + i)) ∧ I_ce S.n S.c (fun t => σ (10 + t)) (w 52) (w 53) (w 54) S.E := by
        intro w w1
        rw [w1 49 (by decide) (by decide), w1 74 (by decide) (by decide), w1 75 (by decide) (by decide), w1 76 (by decide) (by decide), w1 52 (by decide) (by decide), w1 53 (by decide) (by decide), w1 54 (by decide) (by decide), u1 49 (by decide), u1 74 (by decide), u1 75 (by decide), u1 76 (by decide), u1 52 (by decide), u1 53 (by decide), u1 54 (by decide), sn, sc, sL, scl, sE]
        exact ⟨r3, hs49, by rw [z4, q], z2, hs1.2, hE⟩
      refine ⟨m + 1, g_scanL (S := S) (la := la) (ce := ce) (m := m) (τ0 := τ) (K := K) (KX := fun l6 σ => K (σ 8 1) σ) (Rm := Rm) (Lp := Lp) (by rw [sn]; exact r1) (by rw [u1 1 (by decide), sn]; exact r2) (by rw [u1 la (by omega), sL]; exact z1) (by rw [sL]; exact hl) (by rw [u1 ce (by omega), scl]) hce8 (by omega) hla8 (by omega) hm (by rw [sf]; exact hu) (fun j w K' hj hcj hok hinj w1 w8 hb hK' => ?_) (fun hok w w1 w8 hI => ?_) (fun j x hj hok hx w w1 w8 hb => ?_) m 0 τ (by omega) (fun q hq => absurd hq (Nat.not_lt_zero _)) (by rw [sc]; exact hc) (fun _ _ _ => rfl) (by rw [u1 8 (by decide), sc]; exact hs8) ⟨τ 52, τ 53, τ 54, ?_⟩⟩
      · refine hrm K' (nI j) w ⟨j + 1, g_remL (S := S) (ce := ce) (j := j) (τ0 := τ) (KX := fun _ σ => K' σ) (Lp := fun k l4 σ => Lr K' (nI j) k l4 σ) (by rw [sn]; exact r1) (by rw [u1 ce (by omega), scl]) hce8 (by omega) (by rw [sL]; exact hl) hcj hj hok hinj (by rw [sf]; exact hur K' (nI j)) (fun ρ p1 p2 p3 => hK' ρ p1 p2 p3) j 0 w (by omega) w1 w8 hb⟩
      · obtain ⟨b1, b2, b3, b4, b5, b6⟩ := base w w1
        obtain ⟨fr, to, so, hI⟩ := hI
        have hcm : S.c + m ≤ 60 := by
          rcases Nat.eq_zero_or_pos m with e | e
          · subst e; rw [sc]; exact hc
          · have := (hok (m - 1) (by omega)).2.2.2; omega
        show K (w 8 1) w
        rw [w8, hK, ← sf]
        refine m_scan hs hm hm2 (by rw [sn]; exact r1) (by rw [sc]; exact hc) b1 b2 b3 b4 (by rw [sL]; exact hl) b5 b6 (fun _ ρ p1 p2 p3 => ⟨rfl, ?_⟩) (fun j x hj hok2 hx => absurd hx (fun hx => Sc.no (hok j hj) hx))
        obtain ⟨cs2, p3⟩ := p3
        rw [sc] at p1
        refine inv (S.c + m) S.ee w ρ w1 p1 w8 p2 hcm ?_
        rw [← sn]
        refine ⟨p3.1, p3.2.1, fun t a b ht ha hb => ?_⟩
        show bt (ρ (10 + t) a) b = true ↔ _
        rw [p1.1 (10 + t) (by omega) (by omega)]
        exact hI.2.2 t a b ht ha hb
      · obtain ⟨b1, b2, b3, b4, b5, b6⟩ := base w w1
        rw [hK, ← sf]
        refine m_scan hs hm hm2 (by rw [sn]; exact r1) (by rw [sc]; exact hc) b1 b2 b3 b4 (by rw [sL]; exact hl) b5 b6 (fun hok2 => absurd (hok2 j hj) (fun h => Sc.no h hx)) (fun j2 y hj2 hok2 hy ρ p1 p2 => ?_)
        have ej : j2 = j := by
          rcases Nat.lt_trichotomy j2 j with e | e | e
          · exact absurd hy (fun h => Sc.no (hok j2 e) h)
          · exact e
          · exact absurd hx (fun h => Sc.no (hok2 j e) h)
        subst ej
        refine ⟨Sc.one hx hy, ?_⟩
        rw [sc] at p1
        refine inv S.c S.E w ρ w1 p1 w8 p2 (by rw [sc]; exact hc) ?_
        rw [← sn]
        refine ⟨fun k hk => ?_, b6.2.1, fun t a b ht ha hb2 => ?_⟩
        · rw [sc] at hk
          obtain ⟨e1, e2, e3⟩ := p1.2.2 k hk
          rw [e1, e2, e3]
          exact b6.1 k (by rw [sc]; exact hk)
        · show bt (ρ (10 + t) a) b = true ↔ _
          rw [p1.1 (10 + t) (by omega) (by omega), hb t a b ht ha hb2]
          constructor
          · rintro ⟨k, k1, k2⟩
            have k3 : k < S.c := by omega
            rw [ee_lt k3] at k2
            exact ⟨k, k3, k2⟩
          · rintro ⟨k, k1, k2⟩
            exact ⟨k, Or.inl k1, by rw [ee_lt k1]; exact k2⟩
      · rw [u1 52 (by decide), u1 53 (by decide), u1 54 (by decide)]
        have hE3 : I_ce S.n (S.c + 0) (fun t => τ (10 + t)) (σ 52) (σ 53) (σ 54) S.ee := by
          rw [sn, Nat.add_zero]
          have e1 : I_ce n S.c (fun t => τ (10 + t)) (σ 52) (σ 53) (σ 54) E := by
            rw [sc]
            refine ⟨hE.1, hE.2.1, fun t a b ht ha hb => ?_⟩
            show bt (τ (10 + t) a) b = true ↔ _
            rw [u1 (10 + t) (by omega)]
            exact hE.2.2 t a b ht ha hb
          exact e1.ecg (fun k hk => by rw [ee_lt hk, sE])
        exact hE3
    · rw [hK]
      refine m_scan0 hs hm hm2 ⟨fun y => q (by rw [z3, ← z4]; exact y), fun _ => ⟨rfl, n, c, ni, nt, h4⟩, fun y => ?_⟩
      rw [z4] at y
      exact absurd y (nm4 (by omega))
theorem o_scan {a b f e : Int32} {σ : pw_Mem} (h : Inv σ) : R_X10_scan a b f e σ (fun x τ => R_X11_scan a b f e τ (fun y ρ => Nx x y ρ)) := by
  have hI := h
  obtain ⟨n, c, ni, nt, h4⟩ := h
  obtain ⟨hs0, hs1, hs2, hs3⟩ := h4.2.2.2.2.2.2.2.1
  unfold R_X10_scan
  refine e_isS (fun hv => ⟨fun q => absurd q n01, fun _ => ?_⟩) (fun hv => ⟨fun _ => ?_, fun q => absurd rfl q⟩)
  · refine e_isL (fun hw => ⟨fun q => absurd q n01, fun _ => ?_⟩) (fun hw => ⟨fun _ => ?_, fun q => absurd rfl q⟩)
    · refine e_rg 20 rfl (by decide) (fun hz => ⟨fun _ => ?_, fun q => absurd q n01⟩) (fun hz => ⟨fun q => absurd rfl q, fun _ => ?_⟩)
      · obtain ⟨s, hs, rfl⟩ := hv
        obtain ⟨m2, hm2, rfl⟩ := hw
        obtain ⟨m, hm, rfl⟩ := hz
        match s, hs with
        | 0, hs =>
          refine ⟨Or.inl rfl, fun _ => ?_, fun q => absurd q (by decide), fun q => absurd q (by decide), fun q => absurd q (by decide)⟩
          have core := g_scan (la := 41) (ce := 42) (f := f) (m := m) (m2 := m2) (s := 0) h4 hs (by omega) hm2 (by decide) (by decide) (by decide) (by decide) hs0 rfl (Lp := fun k l6 σ => R_X10_scan_L68 (fun x τ => R_X11_scan (nI 0) (nI m2) f (nI m) τ (fun y ρ => Nx x y ρ)) (fun y13 y14 y15 y16 y17 τ18 => R_X11_scan (nI 0) (nI m2) f (nI m) τ18 (fun y ρ => Nx (τ18 8 1) y ρ)) k (nI 0) (nI m2) f (nI m) l6 σ) (Rm := fun l3 σ K' => R_X10_removeFromSheet_at0_41 f l3 σ K') (Lr := fun K' l3 k l4 σ => R_X10_removeFromSheet_at0_41_L3 K' (fun y2 y3 y4 τ5 => K' τ5) k f l3 l4 σ) (fun k l6 σ hh => by
            show R_X10_scan_L68 _ _ (k + 1) _ _ _ _ _ _
            unfold R_X10_scan_L68
            exact hh) (fun K' l3 k l4 σ hh => by
            show R_X10_removeFromSheet_at0_41_L3 _ _ (k + 1) _ _ _ _
            unfold R_X10_removeFromSheet_at0_41_L3
            exact hh) (fun K' l3 σ hh => hh)
          unfold R_X7_isNothing_at41
          exact ⟨fun q => ⟨fun _ => core.1 q, fun z => absurd rfl z⟩, fun q => ⟨fun z => absurd z n01, fun _ => core.2 q⟩⟩
        | 1, hs =>
          refine ⟨Or.inr (Or.inl rfl), fun q => absurd q (by decide), fun _ => ?_, fun q => absurd q (by decide), fun q => absurd q (by decide)⟩
          have core := g_scan (la := 43) (ce := 44) (f := f) (m := m) (m2 := m2) (s := 1) h4 hs (by omega) hm2 (by decide) (by decide) (by decide) (by decide) hs1 rfl (Lp := fun k l6 σ => R_X10_scan_L68v1 (fun x τ => R_X11_scan (nI 1) (nI m2) f (nI m) τ (fun y ρ => Nx x y ρ)) (fun y13 y14 y15 y16 y17 τ18 => R_X11_scan (nI 1) (nI m2) f (nI m) τ18 (fun y ρ => Nx (τ18 8 1) y ρ)) k (nI 1) (nI m2) f (nI m) l6 σ) (Rm := fun l3 σ K' => R_X10_removeFromSheet_at0_43 f l3 σ K') (Lr := fun K' l3 k l4 σ => R_X10_removeFromSheet_at0_43_L3 K' (fun y2 y3 y4 τ5 => K' τ5) k f l3 l4 σ) (fun k l6 σ hh => by
            show R_X10_scan_L68v1 _ _ (k + 1) _ _ _ _ _ _
            unfold R_X10_scan_L68v1
            exact hh) (fun K' l3 k l4 σ hh => by
            show R_X10_removeFromSheet_at0_43_L3 _ _ (k + 1) _ _ _ _
            unfold R_X10_removeFromSheet_at0_43_L3
            exact hh) (fun K' l3 σ hh => hh)
          unfold R_X7_isNothing_at43
          exact ⟨fun q => ⟨fun _ => core.1 q, fun z => absurd rfl z⟩, fun q => ⟨fun z => absurd z n01, fun _ => core.2 q⟩⟩
        | 2, hs =>
          refine ⟨Or.inr (Or.inr (Or.inl rfl)), fun q => absurd q (by decide), fun q => absurd q (by decide), fun _ => ?_, fun q => absurd q (by decide)⟩
          have core := g_scan (la := 45) (ce := 46) (f := f) (m := m) (m2 := m2) (s := 2) h4 hs (by omega) hm2 (by decide) (by decide) (by decide) (by decide) hs2 rfl (Lp := fun k l6 σ => R_X10_scan_L68v2 (fun x τ => R_X11_scan (nI 2) (nI m2) f (nI m) τ (fun y ρ => Nx x y ρ)) (fun y13 y14 y15 y16 y17 τ18 => R_X11_scan (nI 2) (nI m2) f (nI m) τ18 (fun y ρ => Nx (τ18 8 1) y ρ)) k (nI 2) (nI m2) f (nI m) l6 σ) (Rm := fun l3 σ K' => R_X10_removeFromSheet_at0_45 f l3 σ K') (Lr := fun K' l3 k l4 σ => R_X10_removeFromSheet_at0_45_L3 K' (fun y2 y3 y4 τ5 => K' τ5) k f l3 l4 σ) (fun k l6 σ hh => by
            show R_X10_scan_L68v2 _ _ (k + 1) _ _ _ _ _ _
            unfold R_X10_scan_L68v2
            exact hh) (fun K' l3 k l4 σ hh => by
            show R_X10_removeFromSheet_at0_45_L3 _ _ (k + 1) _ _ _ _
            unfold R_X10_removeFromSheet_at0_45_L3
            exact hh) (fun K' l3 σ hh => hh)
          unfold R_X7_isNothing_at45
          exact ⟨fun q => ⟨fun _ => core.1 q, fun z => absurd rfl z⟩, fun q => ⟨fun z => absurd z n01, fun _ => core.2 q⟩⟩
        | 3, hs =>
          refine ⟨Or.inr (Or.inr (Or.inr rfl)), fun q => absurd q (by decide), fun q => absurd q (by decide), fun q => absurd q (by decide), fun _ => ?_⟩
          have core := g_scan (la := 47) (ce := 48) (f := f) (m := m) (m2 := m2) (s := 3) h4 hs (by omega) hm2 (by decide) (by decide) (by decide) (by decide) hs3 rfl (Lp := fun k l6 σ => R_X10_scan_L68v3 (fun x τ => R_X11_scan (nI 3) (nI m2) f (nI m) τ (fun y ρ => Nx x y ρ)) (fun y13 y14 y15 y16 y17 τ18 => R_X11_scan (nI 3) (nI m2) f (nI m) τ18 (fun y ρ => Nx (τ18 8 1) y ρ)) k (nI 3) (nI m2) f (nI m) l6 σ) (Rm := fun l3 σ K' => R_X10_removeFromSheet_at0_47 f l3 σ K') (Lr := fun K' l3 k l4 σ => R_X10_removeFromSheet_at0_47_L3 K' (fun y2 y3 y4 τ5 => K' τ5) k f l3 l4 σ) (fun k l6 σ hh => by
            show R_X10_scan_L68v3 _ _ (k + 1) _ _ _ _ _ _
            unfold R_X10_scan_L68v3
            exact hh) (fun K' l3 k l4 σ hh => by
            show R_X10_removeFromSheet_at0_47_L3 _ _ (k + 1) _ _ _ _
            unfold R_X10_removeFromSheet_at0_47_L3
            exact hh) (fun K' l3 σ hh => hh)
          unfold R_X7_isNothing_at47
          exact ⟨fun q => ⟨fun _ => core.1 q, fun z => absurd rfl z⟩, fun q => ⟨fun z => absurd z n01, fun _ => core.2 q⟩⟩
      · unfold R_X11_scan
        refine e_rgM 3 rfl (by decide) (fun _ => ⟨fun q => absurd q n01, fun _ => ?_⟩) (fun h9 => absurd hv h9)
        refine e_rgM 2 rfl (by decide) (fun _ => ⟨fun q => absurd q n01, fun _ => ?_⟩) (fun h9 => absurd hw h9)
        exact e_rgM 20 rfl (by decide) (fun h9 => absurd h9 hz) (fun _ => ⟨fun q => absurd rfl q, fun _ => ⟨rfl, hI⟩⟩)
    · unfold R_X11_scan
      refine e_rgM 3 rfl (by decide) (fun _ => ⟨fun q => absurd q n01, fun _ => ?_⟩) (fun h9 => absurd hv h9)
      exact e_rgM 2 rfl (by decide) (fun h9 => absurd h9 hw) (fun _ => ⟨fun _ => ⟨rfl, hI⟩, fun q => absurd rfl q⟩)
  · unfold R_X11_scan
    exact e_rgM 3 rfl (by decide) (fun h9 => absurd h9 hv) (fun _ => ⟨fun _ => ⟨rfl, hI⟩, fun q => absurd rfl q⟩)
