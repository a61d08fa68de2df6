/-! the reference lays the depths -/
theorem upd_id (f : Rows) (k : Nat) {v : Int32} (h : v = f k) : upd f k v = f := by
  funext j
  by_cases e : j = k
  · subst e; rw [upd_s, h]
  · rw [upd_n e]
section RW
variable {n : Nat} {P P' T T' G G' fr t f : Rows}
theorem oU_rw (hP : ∀ a, a < n → P' a = P a) (hT : ∀ a, a < n → T' a = T a) {s : Int32} : ∀ k, k ≤ n → oU P' T' s k = oU P T s k := by
  intro k
  induction k with
  | zero => intro _; rfl
  | succ k ih =>
    intro hk
    have e1 : oU P' T' s (k + 1) = if bt s k then oU P' T' s k ||| (P' k ||| T' k) else oU P' T' s k := rfl
    have e2 : oU P T s (k + 1) = if bt s k then oU P T s k ||| (P k ||| T k) else oU P T s k := rfl
    rw [e1, e2, ih (by omega), hP k (by omega), hT k (by omega)]
theorem ow_rw (hP : ∀ a, a < n → P' a = P a) (hT : ∀ a, a < n → T' a = T a) (hG : ∀ a, a < n → G' a = G a) {k : Nat} (hk : k < n) : ow n P' T' G' fr f k = ow n P T G fr f k := by
  unfold ow
  rw [hP k hk, hT k hk, hG k hk]
theorem rk_rw (hP : ∀ a, a < n → P' a = P a) (hT : ∀ a, a < n → T' a = T a) (hG : ∀ a, a < n → G' a = G a) {g : Bool} {r : Nat} (hr : r < n) : rk n P' T' G' fr t f g r = rk n P T G fr t f g r := by
  unfold rk rkR
  rw [hG r hr, oU_rw hP hT n (Nat.le_refl _), gN_cg (f := ow n P' T' G' fr f) (g := ow n P T G fr f) n (fun k hk _ => ow_rw hP hT hG hk)]
end RW
section LD
variable {n : Nat} {P T fr t : Rows}
/-- what is known so far is right -/
def VD (n : Nat) (P T fr t f : Rows) : Prop := ∀ r, r < n → f r = -4 ∨ (GL (200000 * (qn n P T r + 1)) (f r) (f r) ∧ (∀ j, j < n → Dp n P T r j → ¬ f j = -4) ∧ f r = rhs n P T fr t f r)
theorem GL4 {B : Nat} {a b : Int32} (hB : B < 2 ^ 31) (h : GL B a b) : ¬ b = -4 := by
  rcases h with h | ⟨i, j, h1, h2, h3, h4⟩
  · rw [h.2]; decide
  · rw [h4]; exact nI_m4 (by omega)
theorem VD.gl {f : Rows} (hV : VD n P T fr t f) (hb : Bd n P T) (hn : n ≤ 20) {r : Nat} (hr : r < n) (hk : ∀ j, j < n → Dp n P T r j → ¬ f j = -4) : ∀ j, j < n → Dp n P T r j → ¬ f j = -4 ∧ GL (200000 * qn n P T r) (f j) (f j) := by
  intro j hj hd
  refine ⟨hk j hj hd, ?_⟩
  rcases hV j hj with h | h
  · exact absurd h (hk j hj hd)
  · exact h.1.mono (by have := dp_qn hb hn hr hd; omega)
theorem VD.rkn {f : Rows} (hV : VD n P T fr t f) (hb : Bd n P T) (hn : n ≤ 20) (hfr : ∀ j, j < n → ∃ b, b ≤ 500 ∧ fr j = nI b) (ht : ∀ j, j < n → ∃ m, m ≤ 20 ∧ t j = nI m) {r : Nat} (hr : r < n) (hk : ∀ j, j < n → Dp n P T r j → ¬ f j = -4) : rk n P T (gT n P T) fr t f (bt (gG n P T) r) r = rhs n P T fr t f r ∧ GL (200000 * (qn n P T r + 1)) (rhs n P T fr t f r) (rhs n P T fr t f r) := by
  have hq := qn_n hb hn hr
  have h1 := VD.gl hV hb hn hr hk
  refine ⟨rk_rhs hb hn (by omega) hfr ht hr h1, ?_⟩
  have h2 := rhs_GL (fr' := fr) (fr := fr) (t := t) (f' := f) (f := f) hb hn (by omega) (fun j hj => by
    obtain ⟨b, b1, b2⟩ := hfr j hj
    exact ⟨b, b, Nat.le_refl _, b1, b2, b2⟩) ht hr (fun j hj hd => (h1 j hj hd).2)
  exact h2.mono (by omega)
theorem VD.step {f : Rows} (hV : VD n P T fr t f) (hb : Bd n P T) (hn : n ≤ 20) (hfr : ∀ j, j < n → ∃ b, b ≤ 500 ∧ fr j = nI b) (ht : ∀ j, j < n → ∃ m, m ≤ 20 ∧ t j = nI m) {r : Nat} (hr : r < n) (h4 : f r = -4) {v : Int32} (hv : v = rk n P T (gT n P T) fr t f (bt (gG n P T) r) r) : VD n P T fr t (upd f r v) := by
  by_cases e : v = -4
  · rw [upd_id f r (by rw [e, h4])]; exact hV
  · have hk := rk_kn hb hn hr (by rw [← hv]; exact e)
    obtain ⟨e1, e2⟩ := VD.rkn hV hb hn hfr ht hr hk
    have hne : ∀ s j, (∀ j, j < n → Dp n P T s j → ¬ f j = -4) → j < n → Dp n P T s j → ¬ j = r := fun s j hs hj hd q => by
      subst q; exact hs j hj hd h4
    intro s hs
    by_cases es : s = r
    · subst es
      right
      rw [upd_s, hv, e1]
      refine ⟨e2, fun j hj hd => ?_, ?_⟩
      · rw [upd_n (hne s j hk hj hd)]; exact hk j hj hd
      · exact rhs_cd hb hn hs (fun j hj hd => by rw [upd_n (hne s j hk hj hd)])
    · rw [upd_n es]
      rcases hV s hs with h | ⟨h1, h2, h3⟩
      · exact Or.inl h
      · right
        refine ⟨h1, fun j hj hd => ?_, ?_⟩
        · rw [upd_n (hne s j h2 hj hd)]; exact h2 j hj hd
        · rw [← rhs_cd (f := f) hb hn hs (fun j hj hd => by rw [upd_n (hne s j h2 hj hd)])]
          exact h3
end LD
section LDM
variable {n : Nat} {σ0 : pw_Mem} {K : pw_Mem → Prop}
theorem m_ld38 {KX : Int32 → Int32 → pw_Mem → Prop} {l1 : Int32} {m : Nat} (hn : n ≤ 20) (h0 : σ0 49 0 = nI n) (hb : Bd n (Pp σ0) (Tt σ0)) (hN : Net n σ0) (hfr : ∀ j, j < n → ∃ b, b ≤ 500 ∧ σ0 50 j = nI b) (ht : ∀ j, j < n → ∃ m, m ≤ 20 ∧ σ0 51 j = nI m) (hX : ∀ τ : pw_Mem, (∀ k, ¬ k = 62 → τ k = σ0 k) → VD n (Pp σ0) (Tt σ0) (σ0 50) (σ0 51) (τ 62) → (∀ r, r < n → qn n (Pp σ0) (Tt σ0) r ≤ m + 1 → ¬ τ 62 r = -4) → KX l1 (nI n) τ) : ∀ (k i : Nat) (σ : pw_Mem), i + k = n → (∀ k, ¬ k = 62 → σ k = σ0 k) → VD n (Pp σ0) (Tt σ0) (σ0 50) (σ0 51) (σ 62) → (∀ r, r < n → (qn n (Pp σ0) (Tt σ0) r ≤ m ∨ (r < i ∧ qn n (Pp σ0) (Tt σ0) r ≤ m + 1)) → ¬ σ 62 r = -4) → R_X11_layDepths_L38 K KX (k + 1) l1 (nI i) σ := by
  intro k
  induction k with
  | zero =>
    intro i σ hi hs hV hQ
    have e : i = n := by omega
    subst e
    unfold R_X11_layDepths_L38
    rw [hs 49 (by decide), h0]
    exact ⟨fun _ => hX σ hs hV (fun r hr hq => hQ r hr (Or.inr ⟨hr, hq⟩)), fun z => absurd (nI_le (Nat.le_refl _) (by omega)) z⟩
  | succ k ih =>
    intro i σ hi hs hV hQ
    have hin : vp_in (nI i) 20 := vp_in_nI (by omega) (by decide)
    have hir : i < n := by omega
    unfold R_X11_layDepths_L38
    rw [hs 49 (by decide), h0, cl_nI (by omega), nI_1]
    refine ⟨fun z => absurd ((nI_leI (by omega) (by omega)).mp z) (by omega), fun _ => ⟨hin, fun q => ⟨hin, hin, fun τ5 hτ => ?_⟩, fun q => ?_⟩⟩
    · have e : τ5 62 = σ 62 := by rw [hτ, pw_s]; exact upd_id _ _ rfl
      refine ih (i + 1) τ5 (by omega) (fun k hk => by rw [hτ, pw_r hk, hs k hk]) (by rw [e]; exact hV) (fun r hr hq => ?_)
      rw [e]
      by_cases er : r = i
      · subst er; exact q
      · exact hQ r hr (by rcases hq with hq | hq; exact Or.inl hq; exact Or.inr ⟨by omega, hq.2⟩)
    · have eP : Pp σ = Pp σ0 ∧ Tt σ = Tt σ0 := by
        unfold Pp Tt
        rw [hs 10 (by decide), hs 11 (by decide), hs 12 (by decide), hs 13 (by decide), hs 7 (by decide)]
        exact ⟨rfl, rfl⟩
      have hNσ : Net n σ := by
        unfold Net
        rw [eP.1, eP.2, hs 58 (by decide), hs 59 (by decide), hs 60 (by decide), hs 61 (by decide)]
        exact hN
      refine m_reck hn (by rw [hs 49 (by decide)]; exact h0) (by rw [eP.1, eP.2]; exact hb) hNσ hir ⟨hin, fun τ8 hτ => ?_⟩
      rw [eP.1, eP.2, hs 58 (by decide), hs 59 (by decide), hs 61 (by decide), hs 50 (by decide), hs 51 (by decide), rk_rw (fun a ha => (hN a ha).1) (fun a ha => (hN a ha).2.1) (fun a ha => (hN a ha).2.2.2) hir] at hτ
      have e : τ8 62 = upd (σ 62) i (rk n (Pp σ0) (Tt σ0) (gT n (Pp σ0) (Tt σ0)) (σ0 50) (σ0 51) (σ 62) (bt (gG n (Pp σ0) (Tt σ0)) i) i) := by rw [hτ, pw_s]
      refine ih (i + 1) τ8 (by omega) (fun k hk => by rw [hτ, pw_r hk, hs k hk]) (by rw [e]; exact VD.step hV hb hn hfr ht hir q rfl) (fun r hr hq => ?_)
      rw [e]
      by_cases er : r = i
      · subst er
        rw [upd_s]
        have hq2 : qn n (Pp σ0) (Tt σ0) r ≤ m + 1 := by rcases hq with hq | hq <;> omega
        have := VD.rkn hV hb hn hfr ht hir (fun j hj hd => hQ j hj (Or.inl (by have := dp_qn hb hn hir hd; omega)))
        rw [this.1]
        exact GL4 (by have := qn_n hb hn hir; omega) this.2
      · rw [upd_n er]
        exact hQ r hr (by rcases hq with hq | hq; exact Or.inl hq; exact Or.inr ⟨by omega, hq.2⟩)
theorem m_ld28 {KX : Int32 → pw_Mem → Prop} (hn : n ≤ 20) (h0 : σ0 49 0 = nI n) (hb : Bd n (Pp σ0) (Tt σ0)) (hN : Net n σ0) (hfr : ∀ j, j < n → ∃ b, b ≤ 500 ∧ σ0 50 j = nI b) (ht : ∀ j, j < n → ∃ m, m ≤ 20 ∧ σ0 51 j = nI m) (hX : ∀ τ : pw_Mem, (∀ k, ¬ k = 62 → τ k = σ0 k) → VD n (Pp σ0) (Tt σ0) (σ0 50) (σ0 51) (τ 62) → (∀ r, r < n → ¬ τ 62 r = -4) → KX (nI n) τ) : ∀ (k i : Nat) (σ : pw_Mem), i + k = n → (∀ k, ¬ k = 62 → σ k = σ0 k) → VD n (Pp σ0) (Tt σ0) (σ0 50) (σ0 51) (σ 62) → (∀ r, r < n → qn n (Pp σ0) (Tt σ0) r ≤ i → ¬ σ 62 r = -4) → R_X11_layDepths_L28 K KX (k + 1) (nI i) σ := by
  intro k
  induction k with
  | zero =>
    intro i σ hi hs hV hQ
    have e : i = n := by omega
    subst e
    unfold R_X11_layDepths_L28
    rw [hs 49 (by decide), h0]
    exact ⟨fun _ => hX σ hs hV (fun r hr => hQ r hr (qn_n hb hn hr)), fun z => absurd (nI_le (Nat.le_refl _) (by omega)) z⟩
  | succ k ih =>
    intro i σ hi hs hV hQ
    unfold R_X11_layDepths_L28
    rw [hs 49 (by decide), h0]
    refine ⟨fun z => absurd ((nI_leI (by omega) (by omega)).mp z) (by omega), fun _ => ⟨n + 1, m_ld38 (m := i) hn h0 hb hN hfr ht (fun τ t1 t2 t3 => ?_) n 0 σ (by omega) hs hV (fun r hr hq => hQ r hr (by rcases hq with hq | hq; exact hq; omega))⟩⟩
    rw [nI_1]
    exact ih (i + 1) τ (by omega) t1 t2 t3
theorem m_ld6 {KX : Int32 → pw_Mem → Prop} (hX : ∀ τ : pw_Mem, (∀ k, ¬ k = 62 → τ k = σ0 k) → (∀ a, a < 20 → τ 62 a = -4) → KX 20 τ) : ∀ (k i : Nat) (σ : pw_Mem), i + k = 20 → (∀ k, ¬ k = 62 → σ k = σ0 k) → (∀ a, a < i → σ 62 a = -4) → R_X11_layDepths_L6 K KX (k + 1) (nI i) σ := by
  intro k
  induction k with
  | zero =>
    intro i σ hi hs ha
    have e : i = 20 := by omega
    subst e
    unfold R_X11_layDepths_L6
    exact ⟨fun _ => hX σ hs ha, fun z => absurd (Int32.le_refl _) z⟩
  | succ k ih =>
    intro i σ hi hs ha
    unfold R_X11_layDepths_L6
    rw [cl_nI (by omega), nI_1]
    refine ⟨fun z => absurd ((nI_leI (a := 20) (by omega) (by omega)).mp z) (by omega), fun _ => ⟨vp_in_nI (by omega) (by decide), fun τ hτ => ih (i + 1) τ (by omega) (fun k hk => by rw [hτ, pw_r hk, hs k hk]) (fun a hh => ?_)⟩⟩
    rw [hτ, pw_s]
    by_cases e : a = i
    · subst e; rw [upd_s]
    · rw [upd_n e]; exact ha a (by omega)
/-- layDepths: behind it the equations hold -/
theorem m_layD {c : Nat} {σ : pw_Mem} (hn : n ≤ 20) (h0 : σ 49 0 = nI n) (hcl : I_cl n c (σ 8 1) (σ 10) (σ 11) (σ 12) (σ 13) (σ 49 3) (σ 52) (σ 53) (σ 54)) (hpt : I_pt n (σ 5) (σ 6) (σ 7) (σ 55) (σ 56)) (hb : Bd n (Pp σ) (Tt σ)) (hfr : ∀ j, j < n → ∃ b, b ≤ 500 ∧ σ 50 j = nI b) (ht : ∀ j, j < n → ∃ m, m ≤ 20 ∧ σ 51 j = nI m) (hX : ∀ ρ : pw_Mem, (∀ k, ¬ (57 ≤ k ∧ k ≤ 62) → ρ k = σ k) → Net n ρ → DE n (Pp ρ) (Tt ρ) (ρ 50) (ρ 51) (ρ 62) → K ρ) : R_X11_layDepths σ K := by
  unfold R_X11_layDepths
  refine m_layNet hn h0 hcl hpt (fun τ1 a1 a2 => ⟨21, m_ld6 (σ0 := τ1) (fun τ2 b1 b2 => ?_) 20 0 τ1 rfl (fun _ _ => rfl) (fun a ha => by omega)⟩)
  have eP : ∀ τ : pw_Mem, (∀ k, ¬ k = 62 → τ k = τ1 k) → Pp τ = Pp σ ∧ Tt τ = Tt σ := fun τ h => by
    unfold Pp Tt
    rw [h 10 (by decide), h 11 (by decide), h 12 (by decide), h 13 (by decide), h 7 (by decide), a1 10 (by decide), a1 11 (by decide), a1 12 (by decide), a1 13 (by decide), a1 7 (by decide)]
    exact ⟨rfl, rfl⟩
  have hNt : ∀ τ : pw_Mem, (∀ k, ¬ k = 62 → τ k = τ1 k) → Net n τ := fun τ h => by
    unfold Net
    rw [(eP τ h).1, (eP τ h).2, h 58 (by decide), h 59 (by decide), h 60 (by decide), h 61 (by decide)]
    exact a2
  have f50 : τ2 50 = σ 50 := by rw [b1 50 (by decide), a1 50 (by decide)]
  have f51 : τ2 51 = σ 51 := by rw [b1 51 (by decide), a1 51 (by decide)]
  refine ⟨n + 1, m_ld28 (σ0 := τ2) hn (by rw [b1 49 (by decide), a1 49 (by decide)]; exact h0) (by rw [(eP τ2 b1).1, (eP τ2 b1).2]; exact hb) (hNt τ2 b1) (by rw [f50]; exact hfr) (by rw [f51]; exact ht) (fun τ3 c1 c2 c3 => ?_) n 0 τ2 (by omega) (fun _ _ => rfl) (fun r hr => Or.inl (b2 r (by omega))) (fun r hr hq => ?_)⟩
  · have d1 : ∀ k, ¬ k = 62 → τ3 k = τ1 k := fun k hk => by rw [c1 k hk, b1 k hk]
    refine hX τ3 (fun k hk => by rw [d1 k (by omega), a1 k (by omega)]) (hNt τ3 d1) (fun r hr => ?_)
    rw [(eP τ2 b1).1, (eP τ2 b1).2] at c2
    rw [(eP τ3 d1).1, (eP τ3 d1).2, c1 50 (by decide), c1 51 (by decide)]
    rcases c2 r hr with h | h
    · exact absurd h (c3 r hr)
    · exact h.2.2
  · exfalso
    have : 0 < qn n (Pp τ2) (Tt τ2) r := by
      unfold qn
      have := cnt_slt (x := 0) (y := gR n (Pp τ2) (Tt τ2) r ||| one r) 32 (fun s _ hs => by rw [b_0] at hs; cases hs) ⟨r, by omega, (sr_bt hn hr).mpr (Or.inr rfl), by rw [b_0]; decide⟩
      omega
    omega
end LDM
theorem Inv4.fr {n c ni nt : Nat} {σ : pw_Mem} (h : Inv4 n c ni nt σ) : ∀ j, j < n → ∃ b, b ≤ 500 ∧ σ 50 j = nI b := fun j hj => by
  obtain ⟨⟨b, b1, b2⟩, e⟩ := h.1.2.2.2.1 j hj
  exact ⟨b, by omega, by rw [e, b2]⟩
theorem Inv4.tr {n c ni nt : Nat} {σ : pw_Mem} (h : Inv4 n c ni nt σ) : ∀ j, j < n → ∃ m, m ≤ 20 ∧ σ 51 j = nI m := fun j hj => by
  obtain ⟨⟨b, b1, b2⟩, e⟩ := h.1.2.2.2.2.1 j hj
  exact ⟨b, by omega, by rw [e, b2]⟩
theorem layd {n c ni nt : Nat} {σ : pw_Mem} {K : pw_Mem → Prop} (h4 : Inv4 n c ni nt σ) (hX : ∀ ρ : pw_Mem, (∀ k, ¬ (57 ≤ k ∧ k ≤ 62) → ρ k = σ k) → Inv4 n c ni nt ρ → Net n ρ → DE n (Pp ρ) (Tt ρ) (ρ 50) (ρ 51) (ρ 62) → K ρ) : R_X11_layDepths σ K :=
  m_layD h4.1.1 h4.1.2.2.1 h4.2.1 h4.2.2.1 h4.bd h4.fr h4.tr (fun ρ t1 t2 t3 => hX ρ t1 (h4.cg (fun k _ _ k3 _ _ _ => t1 k (by omega)) (fun j _ => by rw [t1 49 (by decide)]) (by
    rw [t1 14 (by decide), t1 15 (by decide), t1 16 (by decide), t1 17 (by decide), t1 18 (by decide), t1 19 (by decide)]
    exact h4.2.2.2.2.2.2.2.2)) t2 t3)
