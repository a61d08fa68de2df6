/-! the reference's net -/
def lnR (E : Nat → Nat × Nat × Nat) (G : Rows) (s : Nat) : Nat → Rows
  | 0 => fun _ => 0
  | k + 1 => if (E k).2.2 = s then upd (lnR E G s k) (E k).1 (lnR E G s k (E k).1 ||| one (E k).2.1) else if (E k).2.2 = s + 2 then upd (lnR E G s k) (E k).1 (lnR E G s k (E k).1 ||| G (E k).2.1) else lnR E G s k
theorem lnR_s (E : Nat → Nat × Nat × Nat) (G : Rows) (s k : Nat) : lnR E G s (k + 1) = if (E k).2.2 = s then upd (lnR E G s k) (E k).1 (lnR E G s k (E k).1 ||| one (E k).2.1) else if (E k).2.2 = s + 2 then upd (lnR E G s k) (E k).1 (lnR E G s k (E k).1 ||| G (E k).2.1) else lnR E G s k := rfl
theorem lnR_bt {E : Nat → Nat × Nat × Nat} {G : Rows} {s a r : Nat} (hr : r < 32) : ∀ c, (∀ k, k < c → (E k).2.1 < 32) → (bt (lnR E G s c a) r = true ↔ ∃ k, k < c ∧ (E k).1 = a ∧ (((E k).2.2 = s ∧ (E k).2.1 = r) ∨ ((E k).2.2 = s + 2 ∧ bt (G (E k).2.1) r = true))) := by
  intro c
  induction c with
  | zero =>
    intro _
    refine ⟨fun h => absurd h (by show ¬ bt 0 r = true; rw [b_0]; decide), fun ⟨k, hk, _⟩ => by omega⟩
  | succ c ih =>
    intro hb
    have ih := ih (fun k hk => hb k (by omega))
    have ex : (∃ k, k < c + 1 ∧ (E k).1 = a ∧ (((E k).2.2 = s ∧ (E k).2.1 = r) ∨ ((E k).2.2 = s + 2 ∧ bt (G (E k).2.1) r = true))) ↔ ((∃ k, k < c ∧ (E k).1 = a ∧ (((E k).2.2 = s ∧ (E k).2.1 = r) ∨ ((E k).2.2 = s + 2 ∧ bt (G (E k).2.1) r = true))) ∨ ((E c).1 = a ∧ (((E c).2.2 = s ∧ (E c).2.1 = r) ∨ ((E c).2.2 = s + 2 ∧ bt (G (E c).2.1) r = true)))) := by
      constructor
      · rintro ⟨k, hk, h⟩
        by_cases e : k = c
        · subst e; exact Or.inr h
        · exact Or.inl ⟨k, by omega, h⟩
      · rintro (⟨k, hk, h⟩ | h)
        · exact ⟨k, by omega, h⟩
        · exact ⟨c, by omega, h⟩
    rw [ex, ← ih]
    rw [lnR_s]
    by_cases e1 : (E c).2.2 = s
    · rw [if_pos e1]
      by_cases e2 : a = (E c).1
      · subst e2
        rw [upd_s, bt_set (hb c (by omega))]
        constructor
        · rintro (h | h)
          · exact Or.inl h
          · exact Or.inr ⟨rfl, Or.inl ⟨e1, h.symm⟩⟩
        · rintro (h | ⟨_, h | h⟩)
          · exact Or.inl h
          · exact Or.inr h.2.symm
          · omega
      · rw [upd_n e2]
        exact ⟨Or.inl, fun h => h.elim id (fun h => absurd h.1.symm e2)⟩
    · rw [if_neg e1]
      by_cases e3 : (E c).2.2 = s + 2
      · rw [if_pos e3]
        by_cases e2 : a = (E c).1
        · subst e2
          rw [upd_s, bt_or1]
          constructor
          · rintro (h | h)
            · exact Or.inl h
            · exact Or.inr ⟨rfl, Or.inr ⟨e3, h⟩⟩
          · rintro (h | ⟨_, h | h⟩)
            · exact Or.inl h
            · exact absurd h.1 e1
            · exact Or.inr h.2
        · rw [upd_n e2]
          exact ⟨Or.inl, fun h => h.elim id (fun h => absurd h.1.symm e2)⟩
      · rw [if_neg e3]
        exact ⟨Or.inl, fun h => h.elim id (fun h => h.2.elim (fun h => absurd h.1 e1) (fun h => absurd h.1 e3))⟩
theorem lnR_pl {n c : Nat} {cs : Nat → Rows} {fr to so G G' : Rows} {E : Nat → Nat × Nat × Nat} (h : I_ce n c cs fr to so E) (hn : n ≤ 20) (hG : ∀ p, p < 8 → G' p = G p) {s a : Nat} (hs : s < 2) (ha : a < n) : lnR E G' s c a = plR (cs s) (cs (s + 2)) G a := by
  have hb : ∀ k, k < c → (E k).2.1 < 32 := fun k hk => jb hn (h.1 k hk).2.2.1 (h.1 k hk).2.2.2.1
  apply b_ext
  intro r hr
  refine Bool.eq_iff_iff.mpr ?_
  rw [lnR_bt hr c hb]
  show _ ↔ bt (cs s a ||| un G (cs (s + 2) a) 8) r = true
  rw [bt_or1, un_bt]
  constructor
  · rintro ⟨k, hk, e1, ⟨e2, e3⟩ | ⟨e2, e3⟩⟩
    · left
      rw [h.2.2 s a r (by omega) (by omega) hr]
      exact ⟨k, hk, by rw [← e1, ← e2, ← e3]⟩
    · right
      have h8 := (h.1 k hk).2.2.2.1 (by omega)
      refine ⟨(E k).2.1, h8, ?_, by rw [← hG _ h8]; exact e3⟩
      rw [h.2.2 (s + 2) a _ (by omega) (by omega) (by omega)]
      exact ⟨k, hk, by rw [← e1, ← e2]⟩
  · rintro (hb1 | ⟨q, hq, hb1, hb2⟩)
    · rw [h.2.2 s a r (by omega) (by omega) hr] at hb1
      obtain ⟨k, hk, e⟩ := hb1
      exact ⟨k, hk, by rw [e], Or.inl ⟨by rw [e], by rw [e]⟩⟩
    · rw [h.2.2 (s + 2) a q (by omega) (by omega) (by omega)] at hb1
      obtain ⟨k, hk, e⟩ := hb1
      exact ⟨k, hk, by rw [e], Or.inr ⟨by rw [e], by rw [e, hG q hq]; exact hb2⟩⟩
section NET
variable {n c : Nat} {σ0 : pw_Mem}
theorem m_net6 {K : pw_Mem → Prop} {KX : Int32 → pw_Mem → Prop} (hX : ∀ τ : pw_Mem, (∀ k, ¬ k = 58 → ¬ k = 59 → τ k = σ0 k) → (∀ a, a < 20 → τ 58 a = 0 ∧ τ 59 a = 0) → KX 20 τ) : ∀ (k i : Nat) (σ : pw_Mem), i + k = 20 → (∀ k, ¬ k = 58 → ¬ k = 59 → σ k = σ0 k) → (∀ a, a < i → σ 58 a = 0 ∧ σ 59 a = 0) → R_X11_layNet_L6 K KX (k + 1) (nI i) σ := by
  intro k
  induction k with
  | zero =>
    intro i σ hi hs hd
    have e : i = 20 := by omega
    subst e
    unfold R_X11_layNet_L6
    exact ⟨fun _ => hX σ hs hd, fun z => absurd (show (20 : Int32) ≤ nI 20 by decide) z⟩
  | succ k ih =>
    intro i σ hi hs hd
    have hin : vp_in (nI i) 20 := vp_in_nI (by omega) (by decide)
    unfold R_X11_layNet_L6
    refine ⟨fun q => absurd ((nI_leI (a := 20) (by decide) (by omega)).mp q) (by omega), fun _ => ⟨hin, ?_⟩⟩
    rintro _ rfl
    refine ⟨hin, ?_⟩
    rintro _ rfl
    rw [cl_nI (by omega), nI_1]
    refine ih (i + 1) _ (by omega) (fun c c1 c2 => by rw [pw_r c2, pw_r c1, hs c c1 c2]) (fun a ha => ?_)
    rw [pw_s, pw_r (by decide : ¬ 58 = 59), pw_s, pw_r (by decide : ¬ 59 = 58)]
    by_cases e : a = i
    · subst e; rw [upd_s, upd_s]; exact ⟨rfl, rfl⟩
    · rw [upd_n e, upd_n e]; exact hd a (by omega)
theorem m_net34 {K : pw_Mem → Prop} {KX : Int32 → pw_Mem → Prop} {cs : Nat → Rows} {E : Nat → Nat × Nat × Nat} (h : I_ce n c cs (σ0 52) (σ0 53) (σ0 54) E) (hn : n ≤ 20) (hc : c ≤ 60) (h3 : σ0 49 3 = nI c) (hX : ∀ τ : pw_Mem, (∀ k, ¬ k = 58 → ¬ k = 59 → τ k = σ0 k) → (∀ a, a < 20 → τ 58 a = lnR E (σ0 57) 0 c a ∧ τ 59 a = lnR E (σ0 57) 1 c a) → KX (nI c) τ) : ∀ (k i : Nat) (σ : pw_Mem), i + k = c → (∀ k, ¬ k = 58 → ¬ k = 59 → σ k = σ0 k) → (∀ a, a < 20 → σ 58 a = lnR E (σ0 57) 0 i a ∧ σ 59 a = lnR E (σ0 57) 1 i a) → R_X11_layNet_L34 K KX (k + 1) (nI i) σ := by
  intro k
  induction k with
  | zero =>
    intro i σ hi hs hd
    have e : i = c := by omega
    subst e
    unfold R_X11_layNet_L34
    rw [hs 49 (by decide) (by decide), h3]
    exact ⟨fun _ => hX σ hs hd, fun z => absurd (nI_le (Nat.le_refl i) (by omega)) z⟩
  | succ k ih =>
    intro i σ hi hs hd
    have hin : vp_in (nI i) 60 := vp_in_nI (by omega) (by decide)
    obtain ⟨g1, g2, g3, g4, g5, g6, g7⟩ := h.1 i (by omega)
    have hbl : (E i).2.1 < 32 := jb hn g3 g4
    have hfr : vp_in (nI (E i).1) 20 := vp_in_nI (by omega) (by decide)
    unfold R_X11_layNet_L34
    rw [hs 49 (by decide) (by decide), h3, cl_nI (show i < 2 ^ 31 by omega), nI_1, hs 52 (by decide) (by decide), hs 53 (by decide) (by decide), hs 54 (by decide) (by decide), hs 57 (by decide) (by decide), g5, g6, g7, cl_nI (show (E i).1 < 2 ^ 31 by omega), cl_nI (show (E i).2.1 < 2 ^ 31 by omega)]
    have nP : ∀ v, v = (if (E i).2.2 = 0 then one (E i).2.1 else σ0 57 (E i).2.1) → ((E i).2.2 = 0 ∨ (E i).2.2 = 2) → ∀ τ, τ = pw_up σ 58 (E i).1 (σ 58 (E i).1 ||| v) → R_X11_layNet_L34 K KX (k + 1) (nI (i + 1)) τ := by
      rintro v hv h02 _ rfl
      refine ih (i + 1) _ (by omega) (fun c c1 c2 => by rw [pw_r c1, hs c c1 c2]) (fun a ha => ?_)
      rw [pw_s, pw_r (by decide : ¬ 59 = 58)]
      have hT : lnR E (σ0 57) 1 (i + 1) a = lnR E (σ0 57) 1 i a := by
        rw [lnR_s, if_neg (by omega), if_neg (by omega)]
      rw [hT]
      refine ⟨?_, (hd a ha).2⟩
      rw [lnR_s]
      rcases h02 with e | e
      · rw [if_pos e, hv, if_pos e]
        by_cases e2 : a = (E i).1
        · subst e2; rw [upd_s, upd_s, (hd _ ha).1]
        · rw [upd_n e2, upd_n e2]; exact (hd a ha).1
      · rw [if_neg (by omega), if_pos (by omega), hv, if_neg (by omega)]
        by_cases e2 : a = (E i).1
        · subst e2; rw [upd_s, upd_s, (hd _ ha).1]
        · rw [upd_n e2, upd_n e2]; exact (hd a ha).1
    have nT : ∀ v, v = (if (E i).2.2 = 1 then one (E i).2.1 else σ0 57 (E i).2.1) → ((E i).2.2 = 1 ∨ (E i).2.2 = 3) → ∀ τ, τ = pw_up σ 59 (E i).1 (σ 59 (E i).1 ||| v) → R_X11_layNet_L34 K KX (k + 1) (nI (i + 1)) τ := by
      rintro v hv h02 _ rfl
      refine ih (i + 1) _ (by omega) (fun c c1 c2 => by rw [pw_r c2, hs c c1 c2]) (fun a ha => ?_)
      rw [pw_s, pw_r (by decide : ¬ 58 = 59)]
      have hT : lnR E (σ0 57) 0 (i + 1) a = lnR E (σ0 57) 0 i a := by
        rw [lnR_s, if_neg (by omega), if_neg (by omega)]
      rw [hT]
      refine ⟨(hd a ha).1, ?_⟩
      rw [lnR_s]
      rcases h02 with e | e
      · rw [if_pos e, hv, if_pos e]
        by_cases e2 : a = (E i).1
        · subst e2; rw [upd_s, upd_s, (hd _ ha).2]
        · rw [upd_n e2, upd_n e2]; exact (hd a ha).2
      · rw [if_neg (by omega), if_pos (by omega), hv, if_neg (by omega)]
        by_cases e2 : a = (E i).1
        · subst e2; rw [upd_s, upd_s, (hd _ ha).2]
        · rw [upd_n e2, upd_n e2]; exact (hd a ha).2
    refine ⟨fun z => absurd ((nI_leI (by omega) (by omega)).mp z) (by omega), fun _ => ⟨hin, ?_⟩⟩
    generalize hsv : (E i).2.2 = sv at *
    match sv, g2 with
    | 0, _ => exact ⟨fun _ => ⟨hin, hin, fun q => absurd (show (nI 0 - nI 0 / 2 * 2) = 0 by decide) q, fun _ => ⟨hin, hfr, hfr, fun τ hτ => nP _ (by rw [if_pos rfl]; rfl) (Or.inl rfl) τ hτ⟩⟩, fun q => absurd (show nI 0 ≤ 1 by decide) q⟩
    | 1, _ => exact ⟨fun _ => ⟨hin, hin, fun _ => ⟨hin, hfr, hfr, fun τ hτ => nT _ (by rw [if_pos rfl]; rfl) (Or.inl rfl) τ hτ⟩, fun q => absurd q (show ¬ (nI 1 - nI 1 / 2 * 2) = 0 by decide)⟩, fun q => absurd (show nI 1 ≤ 1 by decide) q⟩
    | 2, _ => exact ⟨fun q => absurd q (show ¬ nI 2 ≤ 1 by decide), fun _ => ⟨hin, vp_in_nI (g4 (by decide)) (by decide), hin, fun q => absurd (show (nI 2 - nI 2 / 2 * 2) = 0 by decide) q, fun _ => ⟨hin, hfr, hfr, fun τ hτ => nP _ (by rw [if_neg (by decide)]) (Or.inr rfl) τ hτ⟩⟩⟩
    | 3, _ => exact ⟨fun q => absurd q (show ¬ nI 3 ≤ 1 by decide), fun _ => ⟨hin, vp_in_nI (g4 (by decide)) (by decide), hin, fun _ => ⟨hin, hfr, hfr, fun τ hτ => nT _ (by rw [if_neg (by decide)]) (Or.inr rfl) τ hτ⟩, fun q => absurd q (show ¬ (nI 3 - nI 3 / 2 * 2) = 0 by decide)⟩⟩
theorem m_net127 {K : pw_Mem → Prop} {KX : Int32 → pw_Mem → Prop} (hn : n ≤ 20) (h0 : σ0 49 0 = nI n) (hX : ∀ τ : pw_Mem, (∀ k, ¬ k = 60 → τ k = σ0 k) → (∀ a, a < n → τ 60 a = (σ0 58 a ||| σ0 59 a)) → KX (nI n) τ) : ∀ (k i : Nat) (σ : pw_Mem), i + k = n → (∀ k, ¬ k = 60 → σ k = σ0 k) → (∀ a, a < i → σ 60 a = (σ0 58 a ||| σ0 59 a)) → R_X11_layNet_L127 K KX (k + 1) (nI i) σ := by
  intro k
  induction k with
  | zero =>
    intro i σ hi hs hd
    have e : i = n := by omega
    subst e
    unfold R_X11_layNet_L127
    rw [hs 49 (by decide), h0]
    exact ⟨fun _ => hX σ hs hd, fun z => absurd (nI_le (Nat.le_refl i) (by omega)) z⟩
  | succ k ih =>
    intro i σ hi hs hd
    have hin : vp_in (nI i) 20 := vp_in_nI (by omega) (by decide)
    unfold R_X11_layNet_L127
    rw [hs 49 (by decide), h0, cl_nI (by omega), nI_1]
    refine ⟨fun z => absurd ((nI_leI (by omega) (by omega)).mp z) (by omega), fun _ => ⟨hin, hin, hin, ?_⟩⟩
    rintro _ rfl
    refine ih (i + 1) _ (by omega) (fun c hc => by rw [pw_r hc, hs c hc]) (fun a ha => ?_)
    rw [pw_s, hs 58 (by decide), hs 59 (by decide)]
    by_cases e : a = i
    · subst e; rw [upd_s]
    · rw [upd_n e]; exact hd a (by omega)
theorem upd_or0 (F : Rows) (a : Nat) : upd F a (F a ||| 0) = F := by
  funext j
  by_cases e : j = a
  · subst e; rw [upd_s, Int32.or_zero]
  · rw [upd_n e]
theorem m_net172 {K : pw_Mem → Prop} {KX : Int32 → Int32 → pw_Mem → Prop} {b : Nat} (hb : b < n) (hn : n ≤ 20) (h0 : σ0 49 0 = nI n) {R : Rows} (hX : ∀ τ : pw_Mem, (∀ k, ¬ k = 60 → τ k = σ0 k) → τ 60 = cr1 b n R → KX (nI b) (nI n) τ) : ∀ (k i : Nat) (σ : pw_Mem), i + k = n → (∀ k, ¬ k = 60 → σ k = σ0 k) → σ 60 = cr1 b i R → R_X11_layNet_L172 K KX (k + 1) (nI b) (nI i) σ := by
  intro k
  induction k with
  | zero =>
    intro i σ hi hs hd
    have e : i = n := by omega
    subst e
    unfold R_X11_layNet_L172
    rw [hs 49 (by decide), h0]
    exact ⟨fun _ => hX σ hs hd, fun z => absurd (nI_le (Nat.le_refl i) (by omega)) z⟩
  | succ k ih =>
    intro i σ hi hs hd
    have hin : vp_in (nI i) 20 := vp_in_nI (by omega) (by decide)
    have hin2 : vp_in (nI b) 20 := vp_in_nI (by omega) (by decide)
    unfold R_X11_layNet_L172
    rw [hs 49 (by decide), h0, cl_nI (by omega), cl_nI (by omega), nI_1]
    refine ⟨fun z => absurd ((nI_leI (by omega) (by omega)).mp z) (by omega), fun _ => ⟨hin, hin, fun q => ⟨hin, ?_⟩, fun q => ⟨hin2, hin, ?_⟩⟩⟩
    · rintro _ rfl
      refine ih (i + 1) _ (by omega) (fun c hc => by rw [pw_r hc, hs c hc]) ?_
      have hb1 : ¬ bt (cr1 b i R i) b = true := fun z => q (by rw [hd]; exact ybit (by omega) z)
      rw [pw_s, upd_or0, hd]
      show _ = (if bt (cr1 b i R i) b then _ else _)
      rw [if_neg hb1]
    · rintro _ rfl
      refine ih (i + 1) _ (by omega) (fun c hc => by rw [pw_r hc, hs c hc]) ?_
      have hb1 : bt (cr1 b i R i) b = true := by
        cases e : bt (cr1 b i R i) b with
        | true => rfl
        | false => rw [hd] at q; exact absurd q (nbit (by omega) e)
      rw [pw_s, hd]
      show _ = (if bt (cr1 b i R i) b then _ else _)
      rw [if_pos hb1]
theorem m_net162 {K : pw_Mem → Prop} {KX : Int32 → pw_Mem → Prop} (hn : n ≤ 20) (h0 : σ0 49 0 = nI n) {R : Rows} (hX : ∀ τ : pw_Mem, (∀ k, ¬ k = 60 → τ k = σ0 k) → τ 60 = cr n n R → KX (nI n) τ) : ∀ (k i : Nat) (σ : pw_Mem), i + k = n → (∀ k, ¬ k = 60 → σ k = σ0 k) → σ 60 = cr n i R → R_X11_layNet_L162 K KX (k + 1) (nI i) σ := by
  intro k
  induction k with
  | zero =>
    intro i σ hi hs hd
    have e : i = n := by omega
    subst e
    unfold R_X11_layNet_L162
    rw [hs 49 (by decide), h0]
    exact ⟨fun _ => hX σ hs hd, fun z => absurd (nI_le (Nat.le_refl i) (by omega)) z⟩
  | succ k ih =>
    intro i σ hi hs hd
    unfold R_X11_layNet_L162
    rw [hs 49 (by decide), h0]
    refine ⟨fun z => absurd ((nI_leI (by omega) (by omega)).mp z) (by omega), fun _ => ⟨n + 1, ?_⟩⟩
    refine m_net172 (n := n) (σ0 := σ) (b := i) (by omega) hn (by rw [hs 49 (by decide)]; exact h0) (R := cr n i R) (fun τ t1 t2 => ?_) n 0 σ (by omega) (fun _ _ => rfl) hd
    rw [nI_1]
    exact ih (i + 1) τ (by omega) (fun c hc => by rw [t1 c hc, hs c hc]) t2
theorem m_net246 {K : pw_Mem → Prop} {KX : Int32 → Int32 → pw_Mem → Prop} {a : Nat} (ha : a < n) (hn : n ≤ 20) (h0 : σ0 49 0 = nI n) {F : Rows} (hX : ∀ τ : pw_Mem, (∀ k, ¬ k = 61 → τ k = σ0 k) → τ 61 = upd F a (tgf (σ0 60) a n) → KX (nI a) (nI n) τ) : ∀ (k i : Nat) (σ : pw_Mem), i + k = n → (∀ k, ¬ k = 61 → σ k = σ0 k) → σ 61 = upd F a (tgf (σ0 60) a i) → R_X11_layNet_L246 K KX (k + 1) (nI a) (nI i) σ := by
  intro k
  induction k with
  | zero =>
    intro i σ hi hs hd
    have e : i = n := by omega
    subst e
    unfold R_X11_layNet_L246
    rw [hs 49 (by decide), h0]
    exact ⟨fun _ => hX σ hs hd, fun z => absurd (nI_le (Nat.le_refl i) (by omega)) z⟩
  | succ k ih =>
    intro i σ hi hs hd
    have hin : vp_in (nI i) 20 := vp_in_nI (by omega) (by decide)
    have hin2 : vp_in (nI a) 20 := vp_in_nI (by omega) (by decide)
    unfold R_X11_layNet_L246
    rw [hs 49 (by decide), h0, cl_nI (by omega), cl_nI (by omega), nI_1, hs 60 (by decide)]
    have no : ¬ (bt (σ0 60 a) i = true ∧ bt (σ0 60 i) a = true) → ∀ τ, τ = pw_up σ 61 a (σ 61 a ||| 0) → R_X11_layNet_L246 K KX (k + 1) (nI a) (nI (i + 1)) τ := by
      rintro z _ rfl
      refine ih (i + 1) _ (by omega) (fun c hc => by rw [pw_r hc, hs c hc]) ?_
      rw [pw_s, upd_or0, hd]
      show _ = upd F a (if bt (σ0 60 a) i = true ∧ bt (σ0 60 i) a = true then _ else _)
      rw [if_neg z]
    refine ⟨fun z => absurd ((nI_leI (by omega) (by omega)).mp z) (by omega), fun _ => ⟨hin2, hin2, fun q => ⟨hin2, fun τ hτ => no (fun z => q (ybit (by omega) z.1)) τ hτ⟩, fun q => ⟨hin, fun q2 => ⟨hin2, fun τ hτ => no (fun z => q2 (ybit (by omega) z.2)) τ hτ⟩, fun q2 => ⟨hin2, ?_⟩⟩⟩⟩
    have hb1 : bt (σ0 60 a) i = true := by
      cases e : bt (σ0 60 a) i with
      | true => rfl
      | false => exact absurd q (nbit (by omega) e)
    have hb2 : bt (σ0 60 i) a = true := by
      cases e : bt (σ0 60 i) a with
      | true => rfl
      | false => exact absurd q2 (nbit (by omega) e)
    rintro _ rfl
    refine ih (i + 1) _ (by omega) (fun c hc => by rw [pw_r hc, hs c hc]) ?_
    rw [pw_s, hd, upd_s]
    show _ = upd F a (if bt (σ0 60 a) i = true ∧ bt (σ0 60 i) a = true then tgf (σ0 60) a i ||| one i else _)
    rw [if_pos ⟨hb1, hb2⟩]
    funext j
    by_cases e : j = a
    · subst e; rw [upd_s, upd_s]; rfl
    · rw [upd_n e, upd_n e, upd_n e]
theorem m_net227 {K : pw_Mem → Prop} {KX : Int32 → pw_Mem → Prop} (hn : n ≤ 20) (h0 : σ0 49 0 = nI n) (hX : ∀ τ : pw_Mem, (∀ k, ¬ k = 61 → τ k = σ0 k) → (∀ a, a < n → τ 61 a = tgf (σ0 60) a n) → KX (nI n) τ) : ∀ (k i : Nat) (σ : pw_Mem), i + k = n → (∀ k, ¬ k = 61 → σ k = σ0 k) → (∀ a, a < i → σ 61 a = tgf (σ0 60) a n) → R_X11_layNet_L227 K KX (k + 1) (nI i) σ := by
  intro k
  induction k with
  | zero =>
    intro i σ hi hs hd
    have e : i = n := by omega
    subst e
    unfold R_X11_layNet_L227
    rw [hs 49 (by decide), h0]
    exact ⟨fun _ => hX σ hs hd, fun z => absurd (nI_le (Nat.le_refl i) (by omega)) z⟩
  | succ k ih =>
    intro i σ hi hs hd
    unfold R_X11_layNet_L227
    rw [hs 49 (by decide), h0, cl_nI (by omega)]
    refine ⟨fun z => absurd ((nI_leI (by omega) (by omega)).mp z) (by omega), fun _ => ⟨vp_in_nI (by omega) (by decide), ?_⟩⟩
    rintro _ rfl
    refine ⟨n + 1, m_net246 (n := n) (σ0 := pw_up σ 61 i (1 <<< (nI i &&& 31))) (a := i) (by omega) hn (by rw [pw_r (by decide), hs 49 (by decide)]; exact h0) (F := σ 61) (fun τ t1 t2 => ?_) n 0 _ (by omega) (fun _ _ => rfl) (by rw [pw_s]; rfl)⟩
    rw [nI_1]
    refine ih (i + 1) τ (by omega) (fun c hc => by rw [t1 c hc, pw_r hc, hs c hc]) (fun a ha => ?_)
    rw [t2, pw_r (by decide), hs 60 (by decide)]
    by_cases e : a = i
    · subst e; rw [upd_s]
    · rw [upd_n e]; exact hd a (by omega)
end NET
/-- layNet: the same rows as the class's -/
theorem m_layNet {n c : Nat} {σ : pw_Mem} {K : pw_Mem → Prop} (hn : n ≤ 20) (h0 : σ 49 0 = nI n) (hcl : I_cl n c (σ 8 1) (σ 10) (σ 11) (σ 12) (σ 13) (σ 49 3) (σ 52) (σ 53) (σ 54)) (hpt : I_pt n (σ 5) (σ 6) (σ 7) (σ 55) (σ 56)) (hX : ∀ τ : pw_Mem, (∀ k, ¬ (57 ≤ k ∧ k ≤ 61) → τ k = σ k) → (∀ a, a < n → τ 58 a = plR (σ 10) (σ 12) (σ 7) a ∧ τ 59 a = plR (σ 11) (σ 13) (σ 7) a ∧ τ 60 a = gR n (plR (σ 10) (σ 12) (σ 7)) (plR (σ 11) (σ 13) (σ 7)) a ∧ τ 61 a = gT n (plR (σ 10) (σ 12) (σ 7)) (plR (σ 11) (σ 13) (σ 7)) a) → K τ) : R_X11_layNet σ K := by
  obtain ⟨hc, -, hs49, E, hE⟩ := hcl.e
  unfold R_X11_layNet
  refine m_layGoals (fun τ1 a1 a2 => ⟨21, m_net6 (σ0 := τ1) (fun τ2 b1 b2 => ?_) 20 0 τ1 rfl (fun _ _ _ => rfl) (fun a ha => by omega)⟩)
  have hE2 : I_ce n c (fun t => σ (10 + t)) (τ2 52) (τ2 53) (τ2 54) E := by
    rw [b1 52 (by decide) (by decide), b1 53 (by decide) (by decide), b1 54 (by decide) (by decide), a1 52 (by decide), a1 53 (by decide), a1 54 (by decide)]
    exact hE
  refine ⟨c + 1, m_net34 (n := n) (c := c) (σ0 := τ2) hE2 hn hc (by rw [b1 49 (by decide) (by decide), a1 49 (by decide)]; exact hs49) (fun τ3 c1 c2 => ?_) c 0 τ2 (by omega) (fun _ _ _ => rfl) b2⟩
  refine ⟨n + 1, m_net127 (n := n) (σ0 := τ3) hn (by rw [c1 49 (by decide) (by decide), b1 49 (by decide) (by decide), a1 49 (by decide)]; exact h0) (fun τ4 d1 d2 => ?_) n 0 τ3 (by omega) (fun _ _ => rfl) (fun a ha => by omega)⟩
  refine ⟨n + 1, m_net162 (n := n) (σ0 := τ4) hn (by rw [d1 49 (by decide), c1 49 (by decide) (by decide), b1 49 (by decide) (by decide), a1 49 (by decide)]; exact h0) (R := τ4 60) (fun τ5 f1 f2 => ?_) n 0 τ4 (by omega) (fun _ _ => rfl) rfl⟩
  refine ⟨n + 1, m_net227 (n := n) (σ0 := τ5) hn (by rw [f1 49 (by decide), d1 49 (by decide), c1 49 (by decide) (by decide), b1 49 (by decide) (by decide), a1 49 (by decide)]; exact h0) (fun τ6 g1 g2 => ?_) n 0 τ5 (by omega) (fun _ _ => rfl) (fun a ha => by omega)⟩
  have hG : ∀ p, p < 8 → τ2 57 p = σ 7 p := fun p hp => by
    rw [b1 57 (by decide) (by decide), a2 p hp, (hpt p hp).2.2.2.2]
    exact gl_cg (fun q hq => (hpt q hq).1) (fun q hq => (hpt q hq).2.1) p hp
  have e58 : ∀ a, a < n → τ3 58 a = plR (σ 10) (σ 12) (σ 7) a := fun a ha => by
    rw [(c2 a (by omega)).1]; exact lnR_pl hE2 hn hG (by decide) ha
  have e59 : ∀ a, a < n → τ3 59 a = plR (σ 11) (σ 13) (σ 7) a := fun a ha => by
    rw [(c2 a (by omega)).2]; exact lnR_pl hE2 hn hG (by decide) ha
  have e60 : ∀ a, a < n → τ5 60 a = gR n (plR (σ 10) (σ 12) (σ 7)) (plR (σ 11) (σ 13) (σ 7)) a := fun a ha => by
    rw [f2]
    refine cr_cg (fun a ha => ?_) n (Nat.le_refl _) a ha
    rw [d2 a ha, e58 a ha, e59 a ha]
  refine hX τ6 (fun k hk => ?_) (fun a ha => ⟨?_, ?_, ?_, ?_⟩)
  · rw [g1 k (by omega), f1 k (by omega), d1 k (by omega), c1 k (by omega) (by omega), b1 k (by omega) (by omega), a1 k (by omega)]
  · rw [g1 58 (by decide), f1 58 (by decide), d1 58 (by decide)]; exact e58 a ha
  · rw [g1 59 (by decide), f1 59 (by decide), d1 59 (by decide)]; exact e59 a ha
  · rw [g1 60 (by decide)]; exact e60 a ha
  · rw [g2 a ha]; exact tgf_cg ha e60 n (Nat.le_refl _)
