/-! the class's graph, drawn anew -/
theorem e_lstL {K : Int32 → pw_Mem → Prop} {KX : Int32 → Int32 → pw_Mem → Prop} {x : Int32} {σ : pw_Mem} (h1 : lst x 20 0 < 20 → K (nI (lst x 20 0)) σ) (h0 : lst x 20 0 = 20 → KX x 20 σ) : ∀ (k i : Nat), i + k = 20 → lst x 20 0 = lst x k i → R_X10_leastOf_L2 K KX (k + 1) x (nI i) σ := by
  intro k
  induction k with
  | zero =>
    intro i hi hl
    have e : i = 20 := by omega
    subst e
    unfold R_X10_leastOf_L2
    exact ⟨fun _ => h0 hl, fun q => absurd (show (20 : Int32) ≤ nI 20 by decide) q⟩
  | succ k ih =>
    intro i hi hl
    unfold R_X10_leastOf_L2
    refine ⟨fun q => absurd ((nI_leI (a := 20) (by decide) (by omega)).mp q) (by omega), fun _ => ?_⟩
    have hl : lst x 20 0 = (if bt x i then i else lst x k (i + 1)) := hl
    refine e_holds (by omega) (fun hb1 => ⟨fun q => absurd q n01, fun _ => ?_⟩) (fun hb1 => ⟨fun _ => ?_, fun q => absurd rfl q⟩)
    · rw [if_pos hb1] at hl
      have := h1 (by omega)
      rw [hl] at this
      exact this
    · rw [if_neg (by rw [hb1]; decide)] at hl
      rw [nI_1]
      exact ih (i + 1) (by omega) hl
theorem lst_le (x : Int32) : ∀ k i, lst x k i ≤ i + k := by
  intro k
  induction k with
  | zero => intro i; exact Nat.le_refl _
  | succ k ih =>
    intro i
    have := ih (i + 1)
    unfold lst
    split <;> omega
theorem e_least {K : Int32 → pw_Mem → Prop} {x : Int32} {σ : pw_Mem} (h1 : lst x 20 0 < 20 → K (nI (lst x 20 0)) σ) (h0 : lst x 20 0 = 20 → K (-4) σ) : R_X10_leastOf x σ K :=
  ⟨21, e_lstL h1 h0 20 0 rfl rfl⟩
section GRA
variable {n : Nat} {σ0 : pw_Mem}
theorem e_drawL {K : pw_Mem → Prop} {KX : Int32 → pw_Mem → Prop} (hn : n ≤ 20) (h0 : σ0 1 2 = nI n) (hX : ∀ τ : pw_Mem, (∀ k, ¬ (15 ≤ k ∧ k ≤ 17) → τ k = σ0 k) → (∀ a, a < n → τ 15 a = plR (σ0 10) (σ0 12) (σ0 7) a ∧ τ 16 a = plR (σ0 11) (σ0 13) (σ0 7) a ∧ τ 17 a = (plR (σ0 10) (σ0 12) (σ0 7) a ||| plR (σ0 11) (σ0 13) (σ0 7) a)) → KX (nI n) τ) : ∀ (k i : Nat) (σ : pw_Mem), i + k = n → (∀ k, ¬ (15 ≤ k ∧ k ≤ 17) → σ k = σ0 k) → (∀ a, a < i → σ 15 a = plR (σ0 10) (σ0 12) (σ0 7) a ∧ σ 16 a = plR (σ0 11) (σ0 13) (σ0 7) a ∧ σ 17 a = (plR (σ0 10) (σ0 12) (σ0 7) a ||| plR (σ0 11) (σ0 13) (σ0 7) a)) → R_X2_drawCalls_L18 K KX (k + 1) (nI i) σ := by
  intro k
  induction k with
  | zero =>
    intro i σ hi hs hd
    have e : i = n := by omega
    subst e
    unfold R_X2_drawCalls_L18
    rw [hs 1 (by decide), h0]
    exact ⟨fun _ => hX σ hs hd, fun z => absurd (nI_le (Nat.le_refl i) (by omega)) z⟩
  | succ k ih =>
    intro i σ hi hs hd
    have hin : vp_in (nI i) 20 := vp_in_nI (by omega) (by decide)
    unfold R_X2_drawCalls_L18
    rw [hs 1 (by decide), h0, cl_nI (by omega), nI_1]
    refine ⟨fun z => absurd ((nI_leI (by omega) (by omega)).mp z) (by omega), fun _ => ⟨hin, hin, e_unionOf ⟨hin, ?_⟩⟩⟩
    rintro _ rfl
    refine ⟨hin, hin, e_unionOf ⟨hin, ?_⟩⟩
    rintro _ rfl
    refine ⟨hin, hin, hin, ?_⟩
    intro τ hτ
    have e15 : τ 15 = upd (σ 15) i (plR (σ0 10) (σ0 12) (σ0 7) i) := by
      rw [hτ]; simp (config := { decide := true }) only [pw_r, pw_s, not_false_eq_true]
      rw [hs 10 (by decide), hs 12 (by decide), hs 7 (by decide)]; rfl
    have e16 : τ 16 = upd (σ 16) i (plR (σ0 11) (σ0 13) (σ0 7) i) := by
      rw [hτ]; simp (config := { decide := true }) only [pw_r, pw_s, not_false_eq_true]
      rw [hs 11 (by decide), hs 13 (by decide), hs 7 (by decide)]; rfl
    have e17 : τ 17 = upd (σ 17) i (plR (σ0 10) (σ0 12) (σ0 7) i ||| plR (σ0 11) (σ0 13) (σ0 7) i) := by
      rw [hτ]; simp (config := { decide := true }) only [pw_r, pw_s, not_false_eq_true, upd_s]
      rw [hs 10 (by decide), hs 12 (by decide), hs 7 (by decide), hs 11 (by decide), hs 13 (by decide)]; rfl
    refine ih (i + 1) τ (by omega) (fun c hc => by rw [hτ, pw_r (by omega), pw_r (by omega), pw_r (by omega), hs c hc]) (fun a ha => ?_)
    rw [e15, e16, e17]
    by_cases e : a = i
    · subst e; rw [upd_s, upd_s, upd_s]; exact ⟨rfl, rfl, rfl⟩
    · rw [upd_n e, upd_n e, upd_n e]; exact hd a (by omega)
theorem e_draw {K : pw_Mem → Prop} (hn : n ≤ 20) (h0 : σ0 1 2 = nI n) (hX : ∀ τ : pw_Mem, (∀ k, ¬ (15 ≤ k ∧ k ≤ 17) → τ k = σ0 k) → (∀ a, a < n → τ 15 a = plR (σ0 10) (σ0 12) (σ0 7) a ∧ τ 16 a = plR (σ0 11) (σ0 13) (σ0 7) a ∧ τ 17 a = (plR (σ0 10) (σ0 12) (σ0 7) a ||| plR (σ0 11) (σ0 13) (σ0 7) a)) → K τ) : R_X2_drawCalls σ0 K :=
  ⟨n + 1, e_drawL hn h0 hX n 0 σ0 (by omega) (fun _ _ => rfl) (fun a ha => by omega)⟩
theorem e_close1 {K : pw_Mem → Prop} {KX : Int32 → Int32 → pw_Mem → Prop} {b : Nat} (hb : b < n) (hn : n ≤ 20) (h0 : σ0 1 2 = nI n) {R : Rows} (hX : ∀ τ : pw_Mem, (∀ k, ¬ k = 17 → τ k = σ0 k) → τ 17 = cr1 b n R → KX (nI b) (nI n) τ) : ∀ (k i : Nat) (σ : pw_Mem), i + k = n → (∀ k, ¬ k = 17 → σ k = σ0 k) → σ 17 = cr1 b i R → R_X2_closeReach_L15 K KX (k + 1) (nI b) (nI i) σ := by
  intro k
  induction k with
  | zero =>
    intro i σ hi hs hd
    have e : i = n := by omega
    subst e
    unfold R_X2_closeReach_L15
    rw [hs 1 (by decide), h0]
    exact ⟨fun _ => hX σ hs hd, fun z => absurd (nI_le (Nat.le_refl i) (by omega)) z⟩
  | succ k ih =>
    intro i σ hi hs hd
    have hin : vp_in (nI i) 20 := vp_in_nI (by omega) (by decide)
    have hin2 : vp_in (nI b) 20 := vp_in_nI (by omega) (by decide)
    unfold R_X2_closeReach_L15
    rw [hs 1 (by decide), h0, cl_nI (by omega), cl_nI (by omega), nI_1]
    refine ⟨fun z => absurd ((nI_leI (by omega) (by omega)).mp z) (by omega), fun _ => ⟨hin, ?_⟩⟩
    refine e_holds (by omega) (fun hb1 => ⟨fun q => absurd q n01, fun _ => ⟨hin, hin2, hin, ?_⟩⟩) (fun hb1 => ⟨fun _ => ?_, fun q => absurd rfl q⟩)
    · rintro _ rfl
      refine ih (i + 1) _ (by omega) (fun c hc => by rw [pw_r hc, hs c hc]) ?_
      rw [pw_s, hd]
      rw [hd] at hb1
      show _ = (if bt (cr1 b i R i) b then _ else _)
      rw [if_pos hb1]
    · refine ih (i + 1) _ (by omega) hs ?_
      rw [hd] at hb1
      show _ = (if bt (cr1 b i R i) b then _ else _)
      rw [if_neg (by rw [hb1]; decide), hd]
theorem e_close2 {K : pw_Mem → Prop} {KX : Int32 → pw_Mem → Prop} (hn : n ≤ 20) (h0 : σ0 1 2 = nI n) {R : Rows} (hX : ∀ τ : pw_Mem, (∀ k, ¬ k = 17 → τ k = σ0 k) → τ 17 = cr n n R → KX (nI n) τ) : ∀ (k i : Nat) (σ : pw_Mem), i + k = n → (∀ k, ¬ k = 17 → σ k = σ0 k) → σ 17 = cr n i R → R_X2_closeReach_L2 K KX (k + 1) (nI i) σ := by
  intro k
  induction k with
  | zero =>
    intro i σ hi hs hd
    have e : i = n := by omega
    subst e
    unfold R_X2_closeReach_L2
    rw [hs 1 (by decide), h0]
    exact ⟨fun _ => hX σ hs hd, fun z => absurd (nI_le (Nat.le_refl i) (by omega)) z⟩
  | succ k ih =>
    intro i σ hi hs hd
    unfold R_X2_closeReach_L2
    rw [hs 1 (by decide), h0]
    refine ⟨fun z => absurd ((nI_leI (by omega) (by omega)).mp z) (by omega), fun _ => ⟨n + 1, ?_⟩⟩
    refine e_close1 (n := n) (σ0 := σ) (b := i) (by omega) hn (by rw [hs 1 (by decide)]; exact h0) (R := cr n i R) (fun τ t1 t2 => ?_) n 0 σ (by omega) (fun _ _ => rfl) hd
    rw [nI_1]
    exact ih (i + 1) τ (by omega) (fun c hc => by rw [t1 c hc, hs c hc]) t2
theorem e_close {K : pw_Mem → Prop} (hn : n ≤ 20) (h0 : σ0 1 2 = nI n) (hX : ∀ τ : pw_Mem, (∀ k, ¬ k = 17 → τ k = σ0 k) → τ 17 = cr n n (σ0 17) → K τ) : R_X2_closeReach σ0 K :=
  ⟨n + 1, e_close2 hn h0 hX n 0 σ0 (by omega) (fun _ _ => rfl) rfl⟩
theorem e_gath1 {K : pw_Mem → Prop} {KX : Int32 → Int32 → pw_Mem → Prop} {a : Nat} (ha : a < n) (hn : n ≤ 20) (h0 : σ0 1 2 = nI n) {F : Rows} (hX : ∀ τ : pw_Mem, (∀ k, ¬ k = 18 → τ k = σ0 k) → τ 18 = upd F a (tgf (σ0 17) a n) → KX (nI a) (nI n) τ) : ∀ (k i : Nat) (σ : pw_Mem), i + k = n → (∀ k, ¬ k = 18 → σ k = σ0 k) → σ 18 = upd F a (tgf (σ0 17) a i) → R_X2_gatherTogether_L24 K KX (k + 1) (nI a) (nI i) σ := by
  intro k
  induction k with
  | zero =>
    intro i σ hi hs hd
    have e : i = n := by omega
    subst e
    unfold R_X2_gatherTogether_L24
    rw [hs 1 (by decide), h0]
    exact ⟨fun _ => hX σ hs hd, fun z => absurd (nI_le (Nat.le_refl i) (by omega)) z⟩
  | succ k ih =>
    intro i σ hi hs hd
    have hin : vp_in (nI i) 20 := vp_in_nI (by omega) (by decide)
    have hin2 : vp_in (nI a) 20 := vp_in_nI (by omega) (by decide)
    unfold R_X2_gatherTogether_L24
    rw [hs 1 (by decide), h0, cl_nI (by omega), cl_nI (by omega), nI_1, hs 17 (by decide)]
    have no : ¬ (bt (σ0 17 a) i = true ∧ bt (σ0 17 i) a = true) → R_X2_gatherTogether_L24 K KX (k + 1) (nI a) (nI (i + 1)) σ := fun z => by
      refine ih (i + 1) _ (by omega) hs ?_
      rw [hd]
      show _ = upd F a (if bt (σ0 17 a) i = true ∧ bt (σ0 17 i) a = true then _ else _)
      rw [if_neg z]
    refine ⟨fun z => absurd ((nI_leI (by omega) (by omega)).mp z) (by omega), fun _ => ⟨hin2, ?_⟩⟩
    refine e_holds (by omega) (fun hb1 => ⟨fun q => absurd q n01, fun _ => ⟨hin, ?_⟩⟩) (fun hb1 => ⟨fun _ => no (fun z => by rw [hb1] at z; exact absurd z.1 (by decide)), fun q => absurd rfl q⟩)
    rw [hs 17 (by decide)]
    refine e_holds (by omega) (fun hb2 => ⟨fun q => absurd q n01, fun _ => ⟨hin2, hin2, ?_⟩⟩) (fun hb2 => ⟨fun _ => no (fun z => by rw [hb2] at z; exact absurd z.2 (by decide)), fun q => absurd rfl q⟩)
    rintro _ rfl
    refine ih (i + 1) _ (by omega) (fun c hc => by rw [pw_r hc, hs c hc]) ?_
    rw [pw_s, hd, upd_s]
    show _ = upd F a (if bt (σ0 17 a) i = true ∧ bt (σ0 17 i) a = true then tgf (σ0 17) a i ||| one i else _)
    rw [if_pos ⟨hb1, hb2⟩]
    funext j
    by_cases e : j = a
    · subst e; rw [upd_s, upd_s]; rfl
    · rw [upd_n e, upd_n e, upd_n e]
theorem e_gath2 {K : pw_Mem → Prop} {KX : Int32 → pw_Mem → Prop} (hn : n ≤ 20) (h0 : σ0 1 2 = nI n) (hX : ∀ τ : pw_Mem, (∀ k, ¬ k = 18 → τ k = σ0 k) → (∀ a, a < n → τ 18 a = tgf (σ0 17) a n) → KX (nI n) τ) : ∀ (k i : Nat) (σ : pw_Mem), i + k = n → (∀ k, ¬ k = 18 → σ k = σ0 k) → (∀ a, a < i → σ 18 a = tgf (σ0 17) a n) → R_X2_gatherTogether_L2 K KX (k + 1) (nI i) σ := by
  intro k
  induction k with
  | zero =>
    intro i σ hi hs hd
    have e : i = n := by omega
    subst e
    unfold R_X2_gatherTogether_L2
    rw [hs 1 (by decide), h0]
    exact ⟨fun _ => hX σ hs hd, fun z => absurd (nI_le (Nat.le_refl i) (by omega)) z⟩
  | succ k ih =>
    intro i σ hi hs hd
    unfold R_X2_gatherTogether_L2
    rw [hs 1 (by decide), h0, cl_nI (by omega)]
    refine ⟨fun z => absurd ((nI_leI (by omega) (by omega)).mp z) (by omega), fun _ => ⟨vp_in_nI (by omega) (by decide), ?_⟩⟩
    rintro _ rfl
    refine ⟨n + 1, e_gath1 (n := n) (σ0 := pw_up σ 18 i (1 <<< (nI i &&& 31))) (a := i) (by omega) hn (by rw [pw_r (by decide), hs 1 (by decide)]; exact h0) (F := σ 18) (fun τ t1 t2 => ?_) n 0 _ (by omega) (fun _ _ => rfl) (by rw [pw_s]; rfl)⟩
    rw [nI_1]
    refine ih (i + 1) τ (by omega) (fun c hc => by rw [t1 c hc, pw_r hc, hs c hc]) (fun a ha => ?_)
    rw [t2, pw_r (by decide), hs 17 (by decide)]
    by_cases e : a = i
    · subst e; rw [upd_s]
    · rw [upd_n e]; exact hd a (by omega)
theorem e_gath {K : pw_Mem → Prop} (hn : n ≤ 20) (h0 : σ0 1 2 = nI n) (hX : ∀ τ : pw_Mem, (∀ k, ¬ k = 18 → τ k = σ0 k) → (∀ a, a < n → τ 18 a = tgf (σ0 17) a n) → K τ) : R_X2_gatherTogether σ0 K :=
  ⟨n + 1, e_gath2 hn h0 hX n 0 σ0 (by omega) (fun _ _ => rfl) (fun a ha => by omega)⟩
theorem e_markL {K : pw_Mem → Prop} {KX : Int32 → pw_Mem → Prop} (hn : n ≤ 20) (h0 : σ0 1 2 = nI n) (hX : ∀ τ : pw_Mem, (∀ k, ¬ k = 14 → τ k = σ0 k) → (∀ j, ¬ j = 8 → τ 14 j = σ0 14 j) → τ 14 8 = rgf (σ0 15) (σ0 18) n → KX (nI n) τ) : ∀ (k i : Nat) (σ : pw_Mem), i + k = n → (∀ k, ¬ k = 14 → σ k = σ0 k) → (∀ j, ¬ j = 8 → σ 14 j = σ0 14 j) → σ 14 8 = rgf (σ0 15) (σ0 18) i → R_X2_markRings_L7 K KX (k + 1) (nI i) σ := by
  intro k
  induction k with
  | zero =>
    intro i σ hi hs hj hd
    have e : i = n := by omega
    subst e
    unfold R_X2_markRings_L7
    rw [hs 1 (by decide), h0]
    exact ⟨fun _ => hX σ hs hj hd, fun z => absurd (nI_le (Nat.le_refl i) (by omega)) z⟩
  | succ k ih =>
    intro i σ hi hs hj hd
    have hin : vp_in (nI i) 20 := vp_in_nI (by omega) (by decide)
    unfold R_X2_markRings_L7
    rw [hs 1 (by decide), h0, cl_nI (by omega), nI_1, hs 15 (by decide), hs 18 (by decide)]
    refine ⟨fun z => absurd ((nI_leI (by omega) (by omega)).mp z) (by omega), fun _ => ⟨hin, hin, fun q => ?_, fun q => ⟨hin, ?_⟩⟩⟩
    · refine ih (i + 1) σ (by omega) hs hj ?_
      rw [hd]
      show _ = (if σ0 15 i &&& σ0 18 i = 0 then _ else _)
      rw [if_pos q]
    · rintro _ rfl
      refine ih (i + 1) _ (by omega) (fun c hc => by rw [pw_r hc, hs c hc]) (fun j hj2 => by rw [pw_s, upd_n hj2, hj j hj2]) ?_
      rw [pw_s, upd_s, hd]
      show _ = (if σ0 15 i &&& σ0 18 i = 0 then _ else _)
      rw [if_neg q]
theorem e_mark {K : pw_Mem → Prop} (hn : n ≤ 20) (h0 : σ0 1 2 = nI n) (hX : ∀ τ : pw_Mem, (∀ k, ¬ k = 14 → τ k = σ0 k) → (∀ j, ¬ j = 8 → τ 14 j = σ0 14 j) → τ 14 8 = rgf (σ0 15) (σ0 18) n → K τ) : R_X2_markRings σ0 K := by
  unfold R_X2_markRings
  rintro _ rfl
  refine ⟨n + 1, e_markL (n := n) (σ0 := pw_up σ0 14 8 0) hn (by rw [pw_r (by decide)]; exact h0) (fun τ t1 t2 t3 => hX τ (fun k hk => by rw [t1 k hk, pw_r hk]) (fun j hj => by rw [t2 j hj, pw_s, upd_n hj]) (by rw [t3, pw_r (by decide), pw_r (by decide)])) n 0 _ (by omega) (fun _ _ => rfl) (fun _ _ => rfl) (by rw [pw_s, upd_s]; rfl)⟩
end GRA
