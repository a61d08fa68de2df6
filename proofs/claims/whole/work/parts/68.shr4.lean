/-! shared and group: the operations -/
def Rr (ni nt : Nat) (σ : pw_Mem) (f : Rows) (u : Nat) : Nat := if u < nt then Int32.toNatClampNeg (tot ni σ f u) + Int32.toNatClampNeg (σ 29 u) else 0
section OSH
variable {n c ni nt : Nat}
theorem Rr_eq {σ : pw_Mem} {f : Rows} (hn : n ≤ 20) (hi : Iit n ni σ) (hk : Itk n nt σ) (hf : ∀ r, r < n → GL 4200000 (f r) (f r)) {u : Nat} (hu : u < nt) (h5 : ¬ tot ni σ f u = -5) : tot ni σ f u = nI (Int32.toNatClampNeg (tot ni σ f u)) ∧ σ 29 u = nI (Int32.toNatClampNeg (σ 29 u)) ∧ pls (tot ni σ f u) (σ 29 u) = nI (Rr ni nt σ f u) ∧ Rr ni nt σ f u = Int32.toNatClampNeg (tot ni σ f u) + Int32.toNatClampNeg (σ 29 u) ∧ Rr ni nt σ f u ≤ 40000000 := by
  obtain ⟨_, _, _, _, ⟨g, hg, eg⟩, _⟩ := hk.2.2.2.1 u hu
  unfold Rr
  rw [if_pos hu]
  rcases tot_GL hn hi hk hu hf with ⟨w, _⟩ | ⟨x, _, x1, x2, x3, _⟩
  · exact absurd w h5
  · rw [x3, eg, cl_nI (by omega), cl_nI (by omega), pls_nI (by omega) (by omega)]
    exact ⟨rfl, rfl, rfl, rfl, by omega⟩
theorem e_roomL {K : Int32 → pw_Mem → Prop} {KX : Int32 → pw_Mem → Prop} {σ0 : pw_Mem} (hn : n ≤ 20) (hi : Iit n ni σ0) (hk : Itk n nt σ0) (hgl : ∀ r, r < n → GL 4200000 (σ0 21 r) (σ0 21 r)) (h5 : ∀ τ : pw_Mem, (∀ k, ¬ k = 32 → τ k = σ0 k) → (∃ t, t < nt ∧ tot ni σ0 (σ0 21) t = -5) → K (-5) τ) (hX : ∀ τ : pw_Mem, (∀ k, ¬ k = 32 → τ k = σ0 k) → (∀ t, t < nt → ¬ tot ni σ0 (σ0 21) t = -5 ∧ τ 32 t = pls (tot ni σ0 (σ0 21) t) (σ0 29 t)) → KX (nI nt) τ) : ∀ (k i : Nat) (σ : pw_Mem), i + k = nt → (∀ k, ¬ k = 32 → σ k = σ0 k) → (∀ t, t < i → ¬ tot ni σ0 (σ0 21) t = -5 ∧ σ 32 t = pls (tot ni σ0 (σ0 21) t) (σ0 29 t)) → R_X10_shareRooms_L10 K KX (k + 1) (nI i) σ := by
  have h6 := hk.1
  intro k
  induction k with
  | zero =>
    intro i σ hi2 hs hv
    have e : i = nt := by omega
    subst e
    unfold R_X10_shareRooms_L10
    rw [hs 26 (by decide), hk.2.1]
    exact ⟨fun _ => hX σ hs hv, fun z => absurd (nI_le (Nat.le_refl _) (by omega)) z⟩
  | succ k ih =>
    intro i σ hi2 hs hv
    have hin : vp_in (nI i) 6 := vp_in_nI (by omega) (by decide)
    have y1 : Iit n ni σ := by
      unfold Iit
      rw [hs 22 (by decide), hs 23 (by decide), hs 24 (by decide), hs 25 (by decide), hs 49 (by decide), hs 63 (by decide), hs 64 (by decide), hs 65 (by decide)]
      exact hi
    have y2 : Itk n nt σ := by
      unfold Itk
      rw [hs 26 (by decide), hs 27 (by decide), hs 28 (by decide), hs 29 (by decide), hs 30 (by decide), hs 49 (by decide), hs 66 (by decide), hs 67 (by decide), hs 68 (by decide), hs 69 (by decide)]
      exact hk
    have y3 : tot ni σ (σ 21) i = tot ni σ0 (σ0 21) i := by
      unfold tot
      rw [hs 21 (by decide), hs 27 (by decide), hs 23 (by decide), hs 24 (by decide), hs 25 (by decide), hs 28 (by decide)]
    obtain ⟨_, _, _, _, ⟨g, hg, eg⟩, _⟩ := hk.2.2.2.1 i (by omega)
    unfold R_X10_shareRooms_L10 R_X10_roomAsMeasured
    rw [hs 26 (by decide), hk.2.1]
    refine ⟨fun z => absurd ((nI_leI (by omega) (by omega)).mp z) (by omega), fun _ => e_tot hn y1 y2 (by omega) ⟨hin, e_pls ?_⟩⟩
    rw [y3, cl_nI (by omega), hs 29 (by decide)]
    refine ⟨fun z => ⟨hin, ?_⟩, fun z => h5 σ hs ⟨i, by omega, ?_⟩⟩
    · intro τ hτ
      rw [nI_1]
      refine ih (i + 1) τ (by omega) (fun k hk2 => by rw [hτ, pw_r hk2]; exact hs k hk2) (fun t ht => ?_)
      by_cases e : t = i
      · subst e
        refine ⟨fun q => z (by rw [q, pls_5l]), by rw [hτ, pw_s, upd_s]⟩
      · rw [hτ, pw_s, upd_n e]; exact hv t (by omega)
    · rcases tot_GL (f := σ0 21) (f' := σ0 21) hn hi hk (show i < nt by omega) hgl with ⟨w, _⟩ | ⟨x, _, x1, x2, x3, _⟩
      · exact w
      · rw [x3, eg, pls_nI (by omega) (by omega)] at z
        exact absurd z (nI_m5 (by omega))
theorem e_share {K : Int32 → pw_Mem → Prop} {σ : pw_Mem} (h4 : Inv4 n c ni nt σ) (h5 : ∀ τ : pw_Mem, Inv4 n c ni nt τ → ∀ f, isD n (-1) τ f → (∃ t, t < nt ∧ tot ni τ f t = -5) → K (-5) τ) (hX : ∀ τ : pw_Mem, Inv4 n c ni nt τ → ∀ f, isD n (-1) τ f → (∀ t, t < nt → ¬ tot ni τ f t = -5) → ∀ s l, (enL nt 0 []).foldl (stp nt (Rr ni nt τ f) (τ 30)) none = some (s, l) → s < 2 ^ 30 → (∀ u, u < nt → τ 33 u = nI (ga l u)) → K (nI s) τ) : R_X10_shareRooms σ K := by
  have hn := h4.1.1
  unfold R_X10_shareRooms
  refine measd h4 (fun τ t1 h6 _ _ hd => ?_)
  have hi := h6.2.2.2.1
  have hk := h6.2.2.2.2.1
  have hN := hk.1
  have hgl : ∀ r, r < n → GL 4200000 (τ 21 r) (τ 21 r) := fun r hr => hd.gl h6 hr
  refine ⟨nt + 1, e_roomL hn hi hk hgl (fun w w1 w2 => ?_) (fun w w1 w2 => ?_) nt 0 τ (by omega) (fun _ _ => rfl) (fun t ht => absurd ht (Nat.not_lt_zero _))⟩
  · have h7 : Inv4 n c ni nt w := h6.shr (fun k hk => w1 k (by omega)) (by rw [w1 35 (by decide), w1 36 (by decide)]; exact h6.2.2.2.2.2.1)
    refine h5 w h7 (τ 21) (hd.cg (w1 2 (by decide)) (w1 3 (by decide)) (w1 7 (by decide)) (w1 10 (by decide)) (w1 11 (by decide)) (w1 12 (by decide)) (w1 13 (by decide))) ?_
    obtain ⟨t, ht, et⟩ := w2
    refine ⟨t, ht, ?_⟩
    unfold tot
    rw [w1 27 (by decide), w1 23 (by decide), w1 24 (by decide), w1 25 (by decide), w1 28 (by decide)]
    exact et
  · unfold R_X6_divide
    intro w0 hw0
    have u1 : ∀ k, ¬ k = 31 → ¬ k = 32 → w0 k = τ k := fun k k1 k2 => by rw [hw0, pw_r k1, w1 k k2]
    have u5 : w0 31 5 = 1 := by rw [hw0, pw_s, upd_s]
    have h32 : ∀ u, u < nt → w0 32 u = nI (Rr ni nt τ (τ 21) u) := fun u hu => by
      rw [hw0, pw_r (by decide), (w2 u hu).2]
      exact (Rr_eq hn hi hk hgl hu (w2 u hu).1).2.2.1
    refine ⟨nt + 1, e_divL (R := Rr ni nt τ (τ 21)) hN nt 0 w0 (by omega) (by rw [u1 26 (by decide) (by decide)]; exact hk.2.1) h32 (u5.trans (show (1 : Int32) = nI 1 by decide)) (fun w' hw' hw5 => ?_)⟩
    have v1 : ∀ k, ¬ k = 31 → ¬ k = 32 → w' k = τ k := fun k k1 k2 => by rw [hw' k k1, u1 k k1 k2]
    have etot : ∀ (ρ : pw_Mem), (∀ k, ¬ (31 ≤ k ∧ k ≤ 36) → ρ k = τ k) → ∀ u, tot ni ρ (τ 21) u = tot ni τ (τ 21) u := fun ρ hρ u => by
      unfold tot
      rw [hρ 27 (by decide), hρ 23 (by decide), hρ 24 (by decide), hρ 25 (by decide), hρ 28 (by decide)]
    have hRr : ∀ u, u < nt → Rr ni nt τ (τ 21) u ≤ 40000000 := fun u hu => (Rr_eq hn hi hk hgl hu (w2 u hu).1).2.2.2.2
    have hP : PSt nt (Rr ni nt τ (τ 21)) (τ 30) [] none w' := by
      refine ⟨by rw [v1 26 (by decide) (by decide)]; exact hk.2.1, fun u hu => ⟨by rw [v1 30 (by decide) (by decide)], ?_⟩, fun u hu => absurd hu (Nat.not_lt_zero _), fun g hg => ?_, Or.inl ⟨rfl, hw5⟩⟩
      · rw [hw' 32 (by decide)]
        exact h32 u hu
      · obtain ⟨g1, g2⟩ := h6.2.2.2.2.2.1 g hg
        rw [v1 36 (by decide) (by decide), v1 35 (by decide) (by decide), g1, g2]
        exact ⟨nI_0.symm, rfl⟩
    refine e_place hN hRr nt [] 0 none w' 7 _ 0 0 0 nI_0.symm nI_0.symm nI_0.symm (Nat.zero_add _) (Nat.le_refl _) (by omega) (fun u hu => absurd hu (Nat.not_lt_zero _)) (fun t u ht => absurd ht (Nat.not_lt_zero _)) hP (fun ρ p1 p2 => ?_)
    have q1 : ∀ k, ¬ (31 ≤ k ∧ k ≤ 36) → ρ k = τ k := fun k hk => by rw [p1 k hk, v1 k (by omega) (by omega)]
    have h7 : Inv4 n c ni nt ρ := h6.shr q1 (fun g hg => by
      obtain ⟨g1, g2⟩ := p2.2.2.2.1 g hg
      rw [g1, g2]
      exact ⟨rfl, nI_0⟩)
    have eR : Rr ni nt ρ (τ 21) = Rr ni nt τ (τ 21) := by
      funext u
      unfold Rr
      rw [etot ρ q1, q1 29 (by decide)]
    obtain ⟨s, l, es⟩ := en_some hN (Rr ni nt τ (τ 21)) (τ 30)
    have hb := p2.2.2.2.2
    rw [es] at hb
    rcases hb with ⟨e1, _⟩ | ⟨s', l', e1, e2, e3, e4⟩
    · cases e1
    · cases e1
      rw [e3]
      refine hX ρ h7 (τ 21) (hd.cg (q1 2 (by decide)) (q1 3 (by decide)) (q1 7 (by decide)) (q1 10 (by decide)) (q1 11 (by decide)) (q1 12 (by decide)) (q1 13 (by decide))) (fun t ht => by rw [etot ρ q1]; exact (w2 t ht).1) s l (by rw [eR, q1 30 (by decide)]; exact es) e2 e4
theorem Inv4.o71 {σ ρ : pw_Mem} (h4 : Inv4 n c ni nt σ) (t1 : Sh ρ σ) : Inv4 n c ni nt ρ :=
  h4.cg (fun k _ _ _ k1 k2 k3 => t1.1 k k3 k1 k2) t1.2 (by
    rw [t1.1 14 (by decide) (by decide) (by decide), t1.1 15 (by decide) (by decide) (by decide), t1.1 16 (by decide) (by decide) (by decide), t1.1 17 (by decide) (by decide) (by decide), t1.1 18 (by decide) (by decide) (by decide), t1.1 19 (by decide) (by decide) (by decide)]
    exact h4.2.2.2.2.2.2.2.2)
theorem m_share {K : Int32 → pw_Mem → Prop} {σ : pw_Mem} {f : Rows} (h4 : Inv4 n c ni nt σ) (hf : isD n (-1) σ f) (h5 : ∀ ρ : pw_Mem, Inv4 n c ni nt ρ → (∃ t, t < nt ∧ tot ni σ f t = -5) → K 0 ρ) (hX : ∀ ρ : pw_Mem, Inv4 n c ni nt ρ → (∀ t, t < nt → ¬ tot ni σ f t = -5) → ∀ s l, (enL nt 0 []).foldl (stp nt (Rr ni nt σ f) (σ 30)) none = some (s, l) → ρ 49 26 = nI s → (∀ u, u < nt → ρ 71 u = nI (ga l u)) → K 1 ρ) : R_X11_share σ K := by
  have hn := h4.1.1
  unfold R_X11_share
  refine layd0 h4 (fun ρ0 p1 p2 p3 p4 => ?_)
  have hi := p2.2.2.2.1
  have hk := p2.2.2.2.2.1
  have hN := hk.1
  have hgl : ∀ r, r < n → GL 4200000 (ρ0 62 r) (ρ0 62 r) := fun r hr => p4.gl p2 hr
  have hglf : ∀ r, r < n → GL 4200000 (f r) (f r) := fun r hr => hf.gl h4 hr
  have et : ∀ t, t < nt → tot ni ρ0 (ρ0 62) t = tot ni σ f t := fun t ht => by
    rw [tot_off p1]
    exact tot_cg hn h4.2.2.2.1 h4.2.2.2.2.1 ht (fun r hr => p4.eq p2 (hf.off p1) hr)
  have hT : ∀ (w : pw_Mem) (t : Nat) (K : Int32 → pw_Mem → Prop), Sh w ρ0 → t < nt → K (tot ni σ f t) w → R_X11_totalOf (nI t) w K := by
    intro w t K hw ht hK
    have y1 : Iit n ni w := by
      unfold Iit
      rw [hw.1 22 (by decide) (by decide) (by decide), hw.1 23 (by decide) (by decide) (by decide), hw.1 24 (by decide) (by decide) (by decide), hw.1 25 (by decide) (by decide) (by decide), hw.2 15 (by decide), hw.1 63 (by decide) (by decide) (by decide), hw.1 64 (by decide) (by decide) (by decide), hw.1 65 (by decide) (by decide) (by decide)]
      exact hi
    have y2 : Itk n nt w := by
      unfold Itk
      rw [hw.1 26 (by decide) (by decide) (by decide), hw.1 27 (by decide) (by decide) (by decide), hw.1 28 (by decide) (by decide) (by decide), hw.1 29 (by decide) (by decide) (by decide), hw.1 30 (by decide) (by decide) (by decide), hw.2 19 (by decide), hw.1 66 (by decide) (by decide) (by decide), hw.1 67 (by decide) (by decide) (by decide), hw.1 68 (by decide) (by decide) (by decide), hw.1 69 (by decide) (by decide) (by decide)]
      exact hk
    have y3 : tot ni w (w 62) t = tot ni σ f t := by
      rw [← et t ht]
      unfold tot
      rw [hw.1 62 (by decide) (by decide) (by decide), hw.1 27 (by decide) (by decide) (by decide), hw.1 23 (by decide) (by decide) (by decide), hw.1 24 (by decide) (by decide) (by decide), hw.1 25 (by decide) (by decide) (by decide), hw.1 28 (by decide) (by decide) (by decide)]
    refine m_tot hn y1 y2 ht (fun r hr => by rw [hw.1 62 (by decide) (by decide) (by decide)]; exact hgl r hr) ?_
    rw [y3]
    exact hK
  have ref : Sh ρ0 ρ0 := ⟨fun _ _ _ _ => rfl, fun _ _ => rfl⟩
  refine ⟨nt + 1, m_s6 (Tv := fun t => tot ni σ f t) hN hk.2.2.1 hT (fun w hw h => h5 w (p2.o71 hw) h) (fun hv w hw h70 => ?_) nt 0 ρ0 (by omega) ref (fun u hu => absurd hu (Nat.not_lt_zero _)) (fun t ht => absurd ht (Nat.not_lt_zero _))⟩
  intro w' hw'
  have hw2 : Sh w' ρ0 := ⟨fun k k1 k2 k3 => by rw [hw', pw_r k1]; exact hw.1 k k1 k2 k3, fun j hj => by rw [hw', pw_s, upd_n hj]; exact hw.2 j hj⟩
  have hRe := fun u (hu : u < nt) => Rr_eq (σ := σ) (f := f) hn h4.2.2.2.1 h4.2.2.2.2.1 hglf hu (hv u hu)
  have hc := chk_all nt hN
  have hh := fst_all nt hN
  have ho := en_ok hN
  obtain ⟨s, l, es⟩ := en_some hN (Rr ni nt σ f) (σ 30)
  cases eL : enL nt 0 [] with
  | nil => rw [eL] at hh; cases hh
  | cons l0 L =>
    rw [eL] at hh hc ho es
    have e0 : l0 = List.replicate nt 0 := Option.some.inj hh
    refine ⟨L.length + 1 + 1, m_s47 (N := nt) (σ0 := ρ0) (T := fun t => Int32.toNatClampNeg (tot ni σ f t)) (gd := fun t => Int32.toNatClampNeg (σ 29 t)) (R := Rr ni nt σ f) (A := σ 30) hN hk.2.2.1 (fun i hi => ?_) (fun w t K hw ht hK => hT w t K hw ht (by rw [(hRe t ht).1]; exact hK)) (fun t ht => ?_) (fun t ht => (hRe t ht).2.2.2) L none l0 w' hc ho hw2 (fun u hu => ?_) (Or.inl ⟨rfl, by rw [hw', pw_s, upd_s]⟩) (fun v hv1 hv2 => ?_)⟩
    · rw [hk.2.2.2.2 i (by omega), p1 30 (by decide)]
    · rw [(hk.2.2.2.1 t ht).2.2.2.2.2, p1 29 (by decide)]
      exact (hRe t ht).2.1
    · rw [hw', pw_r (by decide), h70 u hu, e0, ga_rep]; exact nI_0.symm
    · rw [es] at hv2
      rcases hv2 with ⟨e1, _⟩ | ⟨s', l', e1, e2, e3, e4⟩
      · cases e1
      · cases e1
        exact hX v (p2.o71 hv1) hv s l (by rw [eL]; exact es) e3 e4
end OSH
theorem o_shared {σ : pw_Mem} (h : Inv σ) : R_X10_shared σ (fun x τ => R_X11_shared τ (fun y ρ => Nx x y ρ)) := by
  obtain ⟨n, c, ni, nt, h4⟩ := h
  unfold R_X10_shared
  refine e_share h4 (fun τ h6 f hf he => ?_) (fun τ h6 f hf hv s l es e2 e4 => ?_)
  · unfold R_X11_shared
    refine m_share h6 hf (fun ρ h7 _ => ⟨fun _ => ⟨rfl, n, c, ni, nt, h7⟩, fun z => absurd rfl z⟩) (fun ρ h7 hv => ?_)
    obtain ⟨t, ht, et⟩ := he
    exact absurd et (hv t ht)
  · unfold R_X11_shared
    refine m_share h6 hf (fun ρ h7 he => ?_) (fun ρ h7 hv s' l' es' e3' e4' => ⟨fun z => absurd z n01, fun _ => ⟨?_, n, c, ni, nt, h7⟩⟩)
    · obtain ⟨t, ht, et⟩ := he
      exact absurd et (hv t ht)
    · rw [es] at es'
      cases es'
      exact e3'.symm
theorem o_group {a : Int32} {σ : pw_Mem} (h : Inv σ) : R_X10_group a σ (fun x τ => R_X11_group a τ (fun y ρ => Nx x y ρ)) := by
  have hI := h
  obtain ⟨n, c, ni, nt, h4⟩ := h
  have hk := h4.2.2.2.2.1
  unfold R_X10_group
  refine e_isT hk.2.1 hk.1 (fun hv => ⟨fun _ => ?_, fun q => absurd q n01⟩) (fun hv => ⟨fun q => absurd rfl q, fun _ => ?_⟩)
  · have hv0 := hv
    obtain ⟨t, ht, rfl⟩ := hv
    have ht6 : t < 6 := Nat.lt_of_lt_of_le ht hk.1
    have hin : vp_in (nI t) 6 := vp_in_nI ht6 (by decide)
    refine e_share h4 (fun τ h6 f hf he => ⟨fun z => absurd rfl z, fun _ => ?_⟩) (fun τ h6 f hf hv s l es e2 e4 => ⟨fun _ => ⟨hin, ?_⟩, fun z => absurd z (nI_m5 (by omega))⟩)
    · have hk6 := h6.2.2.2.2.1
      unfold R_X11_group
      refine e_isTM hk6.2.2.1 hk6.1 (fun _ => ⟨fun _ => ?_, fun q => absurd q n01⟩) (fun h9 => absurd hv0 h9)
      refine m_share h6 hf (fun ρ h7 _ => ⟨fun _ => ⟨rfl, n, c, ni, nt, h7⟩, fun z => absurd rfl z⟩) (fun ρ h7 hv => ?_)
      obtain ⟨t, ht, et⟩ := he
      exact absurd et (hv t ht)
    · have hk6 := h6.2.2.2.2.1
      rw [cl_nI (by omega)]
      unfold R_X11_group
      refine e_isTM hk6.2.2.1 hk6.1 (fun _ => ⟨fun _ => ?_, fun q => absurd q n01⟩) (fun h9 => absurd hv0 h9)
      refine m_share h6 hf (fun ρ h7 he => ?_) (fun ρ h7 hv s' l' es' e3' e4' => ⟨fun z => absurd z n01, fun _ => ⟨hin, ?_, n, c, ni, nt, h7⟩⟩)
      · obtain ⟨t, ht, et⟩ := he
        exact absurd et (hv t ht)
      · rw [es] at es'
        cases es'
        rw [cl_nI (by omega), e4 t ht, e4' t ht]
  · unfold R_X11_group
    exact e_isTM hk.2.2.1 hk.1 (fun h9 => absurd h9 hv) (fun _ => ⟨fun q => absurd rfl q, fun _ => ⟨rfl, hI⟩⟩)
