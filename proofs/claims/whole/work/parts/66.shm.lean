/-! shared and group: the reference -/
theorem pr_i {h : Nat} (hh : h < 2 ^ 30) : (nI h - 1).toInt = (h : Int) - 1 := sub_i (M := 1) hh (by decide)
theorem le_pr {x h : Nat} (hx : x < 2 ^ 30) (hh : h < 2 ^ 30) : nI x ≤ nI h - 1 ↔ x + 1 ≤ h := by
  rw [Int32.le_iff_toInt_le, pr_i hh, nI_toInt (by omega)]
  omega
section NX
variable {N : Nat} {K : Int32 → pw_Mem → Prop}
theorem hiN_b {a : Nat → Nat} {B : Nat} (ha : ∀ i, a i < B) : ∀ k, hiN a k ≤ B := by
  intro k
  induction k with
  | zero => exact Nat.zero_le _
  | succ k ih =>
    have e : hiN a (k + 1) = if a k + 1 ≤ hiN a k then hiN a k else a k + 1 := rfl
    have := ha k
    rw [e]
    by_cases h : a k + 1 ≤ hiN a k
    · rw [if_pos h]; exact ih
    · rw [if_neg h]; omega
theorem m_hiL {KX : Int32 → Int32 → Int32 → pw_Mem → Prop} {σ : pw_Mem} {a : Nat → Nat} {t : Nat} (ht : t ≤ 6) (ha : ∀ i, a i < 100) (hs : ∀ i, i < t → σ 70 i = nI (a i)) (hX : KX (nI t) (nI (hiN a t) - 1) (nI t) σ) : ∀ (k i : Nat), i + k = t → R_X11_highest_L4 K KX (k + 1) (nI t) (nI (hiN a i) - 1) (nI i) σ := by
  intro k
  induction k with
  | zero =>
    intro i hi
    have e : i = t := by omega
    subst e
    unfold R_X11_highest_L4
    exact ⟨fun _ => hX, fun z => absurd (nI_le (Nat.le_refl _) (by omega)) z⟩
  | succ k ih =>
    intro i hi
    have h2 := ih (i + 1) (by omega)
    have hin : vp_in (nI i) 6 := vp_in_nI (by omega) (by decide)
    have hb1 := hiN_b ha i
    have hb2 := ha i
    have e : hiN a (i + 1) = if a i + 1 ≤ hiN a i then hiN a i else a i + 1 := rfl
    rw [e] at h2
    unfold R_X11_highest_L4
    rw [cl_nI (by omega), hs i (by omega), nI_1]
    refine ⟨fun z => absurd ((nI_leI (by omega) (by omega)).mp z) (by omega), fun _ => ⟨hin, fun z => ?_, fun z => ⟨hin, ?_⟩⟩⟩
    · rw [if_pos ((le_pr (by omega) (by omega)).mp z)] at h2; exact h2
    · rw [if_neg (fun y => z ((le_pr (by omega) (by omega)).mpr y)), nI_pred] at h2; exact h2
theorem m_hi {σ : pw_Mem} {a : Nat → Nat} {t : Nat} (ht : t ≤ 6) (ha : ∀ i, a i < 100) (hs : ∀ i, i < t → σ 70 i = nI (a i)) (hX : K (nI (hiN a t) - 1) σ) : R_X11_highest (nI t) σ K := ⟨t + 1, m_hiL ht ha hs hX t 0 (by omega)⟩
theorem tf_lt {a : Nat → Nat} {t : Nat} : ∀ k, tf a k = some t → t < k := by
  intro k
  induction k with
  | zero => intro h; cases h
  | succ k ih =>
    intro h
    have e : tf a (k + 1) = if hiN a k ≤ a k then tf a k else some k := rfl
    rw [e] at h
    by_cases q : hiN a k ≤ a k
    · rw [if_pos q] at h; have := ih h; omega
    · rw [if_neg q] at h; cases h; omega
theorem m_nw7 {KX : Int32 → pw_Mem → Prop} {σ : pw_Mem} {a : Nat → Nat} (hN : N ≤ 6) (ha : ∀ i, a i < 100) (hs : ∀ i, i < N → σ 70 i = nI (a i)) : ∀ k, k ≤ N → (tf a k = none → KX (-1) σ) → (∀ t, tf a k = some t → KX (nI t) σ) → R_X11_nextWay_L7 K KX (k + 1) (nI k - 1) σ := by
  intro k
  induction k with
  | zero =>
    intro _ h1 _
    unfold R_X11_nextWay_L7
    exact ⟨fun _ => h1 rfl, fun z => absurd (show nI 0 - 1 < 0 by decide) z⟩
  | succ k ih =>
    intro hk h1 h2
    have e : tf a (k + 1) = if hiN a k ≤ a k then tf a k else some k := rfl
    have hb1 := hiN_b ha k
    have hb2 := ha k
    unfold R_X11_nextWay_L7
    rw [nI_pred, cl_nI (by omega), hs k (by omega)]
    refine ⟨fun z => absurd z (nI_pos (by omega)), fun _ => ⟨vp_in_nI (by omega) (by decide), m_hi (by omega) ha (fun i hi => hs i (by omega)) ⟨fun z => ?_, fun z => ?_⟩⟩⟩
    · have := (le_pr (by omega) (by omega)).mp z
      rw [if_neg (by omega)] at e
      exact h2 k e
    · have : ¬ a k + 1 ≤ hiN a k := fun y => z ((le_pr (by omega) (by omega)).mpr y)
      rw [if_pos (by omega)] at e
      rw [e] at h1 h2
      have h3 := ih (by omega) h1 h2
      rw [Int32.sub_eq_add_neg] at h3
      exact h3
theorem m_nw51 {KX : Int32 → Int32 → pw_Mem → Prop} {l1 : Int32} (hN : N ≤ 6) : ∀ (k i : Nat) (σ : pw_Mem), i + k = N → σ 49 19 = nI N → (∀ τ : pw_Mem, (∀ c, ¬ c = 70 → τ c = σ c) → (∀ u, i ≤ u → u < N → τ 70 u = 0) → (∀ u, u < i → τ 70 u = σ 70 u) → KX l1 (nI N) τ) → R_X11_nextWay_L51 K KX (k + 1) l1 (nI i) σ := by
  intro k
  induction k with
  | zero =>
    intro i σ hi h0 h
    have e : i = N := by omega
    subst e
    unfold R_X11_nextWay_L51
    rw [h0]
    exact ⟨fun _ => h σ (fun _ _ => rfl) (fun u h1 h2 => by omega) (fun _ _ => rfl), fun z => absurd (nI_le (Nat.le_refl _) (by omega)) z⟩
  | succ k ih =>
    intro i σ hi h0 h
    unfold R_X11_nextWay_L51
    rw [h0]
    refine ⟨fun z => absurd ((nI_leI (by omega) (by omega)).mp z) (by omega), fun _ => ⟨vp_in_nI (by omega) (by decide), ?_⟩⟩
    rintro _ rfl
    rw [cl_nI (by omega), nI_1]
    refine ih (i + 1) _ (by omega) (by rw [pw_r (by decide)]; exact h0) (fun τ h1 h2 h3 => h τ (fun c hc => by rw [h1 c hc, pw_r hc]) (fun u hu hu2 => ?_) (fun u hu => ?_))
    · by_cases e : u = i
      · subst e
        rw [h3 u (by omega), pw_s, upd_s]
      · exact h2 u (by omega) hu2
    · rw [h3 u (by omega), pw_s, upd_n (by omega)]
theorem nx_ga {l : List Nat} {t x m u : Nat} (ht : t < l.length) : ga (l.take t ++ [x] ++ List.replicate m 0) u = if u < t then ga l u else if u = t then x else 0 := by
  have e1 : (l.take t).length = t := by rw [List.length_take]; omega
  have e2 : (l.take t ++ [x]).length = t + 1 := by rw [List.length_append, List.length_singleton, e1]
  by_cases h : u < t + 1
  · have e3 : ga (l.take t ++ [x] ++ List.replicate m 0) u = ga (l.take t ++ [x]) u := by
      unfold ga
      rw [List.getD_eq_getElem?_getD, List.getD_eq_getElem?_getD, List.getElem?_append_left (by rw [e2]; exact h)]
    rw [e3]
    by_cases h2 : u < t
    · rw [if_pos h2, ga_lt (by rw [e1]; exact h2)]
      unfold ga
      rw [List.getD_eq_getElem?_getD, List.getD_eq_getElem?_getD, List.getElem?_take_of_lt h2]
    · have h3 : u = t := by omega
      rw [if_neg h2, if_pos h3, h3]
      have e4 := ga_eq (pre := l.take t) (g := x)
      rw [e1] at e4
      exact e4
  · rw [if_neg (by omega), if_neg (by omega)]
    unfold ga
    rw [List.getD_eq_getElem?_getD, List.getElem?_append_right (by rw [e2]; omega), List.getElem?_replicate]
    by_cases h2 : u - (l.take t ++ [x]).length < m
    · rw [if_pos h2]; rfl
    · rw [if_neg h2]; rfl
/-- the reference's next way -/
theorem m_next {σ : pw_Mem} {l : List Nat} (hN : N ≤ 6) (h0 : σ 49 19 = nI N) (hl : l.length = N) (ha : ∀ i, ga l i < 100) (hs : ∀ i, i < N → σ 70 i = nI (ga l i)) (h1 : nxA N l = none → K 0 σ) (h2 : ∀ l', nxA N l = some l' → ∀ τ : pw_Mem, (∀ c, ¬ c = 70 → τ c = σ c) → (∀ u, u < N → τ 70 u = nI (ga l' u)) → K 1 τ) : R_X11_nextWay σ K := by
  unfold R_X11_nextWay
  rw [h0]
  refine ⟨N + 1, m_nw7 hN ha hs N (Nat.le_refl _) (fun e => ⟨fun z => absurd z (by decide), fun _ => h1 ?_⟩) (fun t e => ⟨fun _ => ?_, fun z => absurd (z_le (by have := tf_lt N e; omega)) z⟩)⟩
  · unfold nxA; rw [e]
  · have ht := tf_lt N e
    have hin : vp_in (nI t) 6 := vp_in_nI (by omega) (by decide)
    refine ⟨hin, hin, ?_⟩
    intro τ hτ
    rw [cl_nI (by omega), hs t ht, nI_1] at hτ
    rw [nI_1]
    refine ⟨N - (t + 1) + 1, m_nw51 hN (N - (t + 1)) (t + 1) τ (by omega) (by rw [hτ, pw_r (by decide)]; exact h0) (fun ρ p1 p2 p3 => h2 (l.take t ++ [ga l t + 1] ++ List.replicate (N - 1 - t) 0) (by unfold nxA; rw [e]) ρ (fun c hc => by rw [p1 c hc, hτ, pw_r hc]) (fun u hu => ?_))⟩
    rw [nx_ga (by omega)]
    by_cases q : u < t
    · rw [if_pos q, p3 u (by omega), hτ, pw_s, upd_n (by omega)]; exact hs u hu
    · rw [if_neg q]
      by_cases q2 : u = t
      · subst q2; rw [if_pos rfl, p3 u (by omega), hτ, pw_s, upd_s]
      · rw [if_neg q2, p2 u (by omega) hu]; exact nI_0.symm
end NX
section SUM
variable {N : Nat} {K : Int32 → pw_Mem → Prop} {σ : pw_Mem} {a T gd R : Nat → Nat} {A : Rows}
theorem m_s69 {KX : Int32 → Int32 → Int32 → Int32 → Int32 → Int32 → pw_Mem → Prop} {l1 l3 l5 : Int32} {g t : Nat} (hN : N ≤ 6) (ht : t < N) (hg : a t = g) (ha : ∀ i, a i < 100) (hs : ∀ i, i < N → σ 70 i = nI (a i) ∧ σ 69 i = A i) (h4 : ¬ vd A a N → K (-4) σ) (hX : (∀ v, v < t → a v = g → bt (A t) v = true) → KX l1 (nI g) l3 (nI t) l5 (nI t) σ) : ∀ (k u : Nat), u + k = t → (∀ v, v < u → a v = g → bt (A t) v = true) → R_X11_sumOf_L69 K KX (k + 1) l1 (nI g) l3 (nI t) l5 (nI u) σ := by
  intro k
  induction k with
  | zero =>
    intro u hu hv
    have e : u = t := by omega
    subst e
    unfold R_X11_sumOf_L69
    exact ⟨fun _ => hX hv, fun z => absurd (nI_le (Nat.le_refl _) (by omega)) z⟩
  | succ k ih =>
    intro u hu hv
    have h2 := ih (u + 1) (by omega)
    have hb1 := ha u
    have hb2 := ha t
    unfold R_X11_sumOf_L69
    rw [cl_nI (show u < 2 ^ 31 by omega), cl_nI (show t < 2 ^ 31 by omega), (hs u (by omega)).1, (hs t ht).2, nI_1]
    refine ⟨fun z => absurd ((nI_leI (by omega) (by omega)).mp z) (by omega), fun _ => ⟨vp_in_nI (by omega) (by decide), fun z => h2 (fun v hv1 hv2 => ?_), fun z => ⟨vp_in_nI (by omega) (by decide), fun y => h2 (fun v hv1 hv2 => ?_), fun y => h4 (fun hvd => ?_)⟩⟩⟩
    · by_cases e : v = u
      · subst e; exact absurd (by rw [hv2]) z
      · exact hv v (by omega) hv2
    · by_cases e : v = u
      · subst e
        cases e2 : bt (A t) v with
        | true => rfl
        | false => exact absurd ((hb _ (by omega)).mpr e2) y
      · exact hv v (by omega) hv2
    · have e1 := nI_inj (by omega) (by omega) z
      have e2 := hvd t u ht (by omega) (e1.trans hg.symm)
      rw [(hb _ (by omega)).mp y] at e2
      cases e2
theorem m_s17 {KX : Int32 → Int32 → Int32 → Int32 → pw_Mem → Prop} {l1 : Int32} {g : Nat} (hN : N ≤ 6) (h0 : σ 49 19 = nI N) (ha : ∀ i, a i < 100) (hg : g < 100) (hs : ∀ i, i < N → σ 70 i = nI (a i) ∧ σ 69 i = A i) (hT : ∀ t (K : Int32 → pw_Mem → Prop), t < N → K (nI (T t)) σ → R_X11_totalOf (nI t) σ K) (hG : ∀ t, t < N → σ 68 t = nI (gd t)) (hR : ∀ t, t < N → R t = T t + gd t ∧ R t ≤ 40000000) (h4 : ¬ vd A a N → K (-4) σ) (hX : (∀ t, t < N → a t = g → ∀ v, v < t → a v = g → bt (A t) v = true) → KX l1 (nI g) (nI (wd R a g N)) (nI N) σ) : ∀ (k t : Nat), t + k = N → (∀ t', t' < t → a t' = g → ∀ v, v < t' → a v = g → bt (A t') v = true) → R_X11_sumOf_L17 K KX (k + 1) l1 (nI g) (nI (wd R a g t)) (nI t) σ := by
  intro k
  induction k with
  | zero =>
    intro t ht hv
    have e : t = N := by omega
    subst e
    unfold R_X11_sumOf_L17
    rw [h0]
    exact ⟨fun _ => hX hv, fun z => absurd (nI_le (Nat.le_refl _) (by omega)) z⟩
  | succ k ih =>
    intro t ht hv
    have h2 := ih (t + 1) (by omega)
    have hb1 := ha t
    have htN : t < N := by omega
    have hin : vp_in (nI t) 6 := vp_in_nI (by omega) (by decide)
    have hw : wd R a g t ≤ 40000000 := wd_le (fun i hi => (hR i (by omega)).2)
    have e : wd R a g (t + 1) = if a t = g then (if wd R a g t ≤ R t then R t else wd R a g t) else wd R a g t := rfl
    obtain ⟨r1, r2⟩ := hR t htN
    unfold R_X11_sumOf_L17
    rw [cl_nI (show t < 2 ^ 31 by omega), (hs t htN).1, h0]
    refine ⟨fun z => absurd ((nI_leI (by omega) (by omega)).mp z) (by omega), fun _ => ⟨hin, fun z => ?_, fun z => hT t _ htN ⟨hin, ?_⟩⟩⟩
    · have ne : ¬ a t = g := fun q => z (by rw [q])
      rw [e, if_neg ne] at h2
      rw [nI_1]
      refine h2 (fun t' h1 h3 => ?_)
      by_cases e2 : t' = t
      · subst e2; exact absurd h3 ne
      · exact hv t' (by omega) h3
    · have eg := nI_inj (by omega) (by omega) z
      rw [e, if_pos eg] at h2
      have nx : (∀ v, v < t → a v = g → bt (A t) v = true) → ∀ t', t' < t + 1 → a t' = g → ∀ v, v < t' → a v = g → bt (A t') v = true := fun h3 t' h1 h5 => by
        by_cases e2 : t' = t
        · subst e2; exact h3
        · exact hv t' (by omega) h5
      rw [hG t htN, nI_add, ← r1]
      refine ⟨fun y => ⟨t + 1, m_s69 hN htN eg ha hs h4 (fun h3 => ?_) t 0 (by omega) (fun v hv => absurd hv (Nat.not_lt_zero _))⟩, fun y => ⟨t + 1, m_s69 hN htN eg ha hs h4 (fun h3 => ?_) t 0 (by omega) (fun v hv => absurd hv (Nat.not_lt_zero _))⟩⟩
      · have y2 := (nI_leI (by omega) (by omega)).mp y
        have h6 := h2 (nx h3)
        have e3 : (if wd R a g t ≤ R t then R t else wd R a g t) = wd R a g t := by
          by_cases q : wd R a g t ≤ R t
          · rw [if_pos q]; omega
          · rw [if_neg q]
        rw [e3] at h6
        show R_X11_sumOf_L17 K KX (k + 1) l1 (nI g) (nI (wd R a g t)) (nI t + 1) σ
        rw [nI_1]
        exact h6
      · have y2 : ¬ R t ≤ wd R a g t := fun q => y (nI_le q (by omega))
        have h6 := h2 (nx h3)
        rw [if_pos (by omega)] at h6
        show R_X11_sumOf_L17 K KX (k + 1) l1 (nI g) (nI (R t)) (nI t + 1) σ
        rw [nI_1]
        exact h6
theorem m_s4 {KX : Int32 → Int32 → pw_Mem → Prop} (hN : N ≤ 6) (h0 : σ 49 19 = nI N) (ha : ∀ i, a i < 100) (hs : ∀ i, i < N → σ 70 i = nI (a i) ∧ σ 69 i = A i) (hT : ∀ t (K : Int32 → pw_Mem → Prop), t < N → K (nI (T t)) σ → R_X11_totalOf (nI t) σ K) (hG : ∀ t, t < N → σ 68 t = nI (gd t)) (hR : ∀ t, t < N → R t = T t + gd t ∧ R t ≤ 40000000) (h4 : ¬ vd A a N → K (-4) σ) (hX : (∀ g, g < N → ∀ t, t < N → a t = g → ∀ v, v < t → a v = g → bt (A t) v = true) → KX (nI (sm R a N N)) (nI N) σ) : ∀ (k g : Nat), g + k = N → (∀ g', g' < g → ∀ t, t < N → a t = g' → ∀ v, v < t → a v = g' → bt (A t) v = true) → R_X11_sumOf_L4 K KX (k + 1) (nI (sm R a N g)) (nI g) σ := by
  intro k
  induction k with
  | zero =>
    intro g hg hv
    have e : g = N := by omega
    subst e
    unfold R_X11_sumOf_L4
    rw [h0]
    exact ⟨fun _ => hX hv, fun z => absurd (nI_le (Nat.le_refl _) (by omega)) z⟩
  | succ k ih =>
    intro g hg hv
    have h2 := ih (g + 1) (by omega)
    have e : sm R a N (g + 1) = sm R a N g + wd R a g N := rfl
    rw [e, ← nI_add] at h2
    unfold R_X11_sumOf_L4
    rw [h0]
    refine ⟨fun z => absurd ((nI_leI (by omega) (by omega)).mp z) (by omega), fun _ => ⟨N + 1, m_s17 hN h0 ha (by omega) hs hT hG hR h4 (fun h3 => ?_) N 0 (by omega) (fun t ht => absurd ht (Nat.not_lt_zero _))⟩⟩
    show R_X11_sumOf_L4 K KX (k + 1) (nI (sm R a N g) + nI (wd R a g N)) (nI g + 1) σ
    rw [nI_1]
    refine h2 (fun g' hg' => ?_)
    by_cases e2 : g' = g
    · subst e2; exact h3
    · exact hv g' (by omega)
theorem m_sum (hN : N ≤ 6) (h0 : σ 49 19 = nI N) (ha : ∀ i, a i < 100) (haN : ∀ i, i < N → a i < N) (hs : ∀ i, i < N → σ 70 i = nI (a i) ∧ σ 69 i = A i) (hT : ∀ t (K : Int32 → pw_Mem → Prop), t < N → K (nI (T t)) σ → R_X11_totalOf (nI t) σ K) (hG : ∀ t, t < N → σ 68 t = nI (gd t)) (hR : ∀ t, t < N → R t = T t + gd t ∧ R t ≤ 40000000) (h4 : ¬ vd A a N → K (-4) σ) (hX : vd A a N → K (nI (sm R a N 6)) σ) : R_X11_sumOf σ K := by
  refine ⟨N + 1, m_s4 hN h0 ha hs hT hG hR h4 (fun h => ?_) N 0 (by omega) (fun g hg => absurd hg (Nat.not_lt_zero _))⟩
  have e := sm_N (R := R) haN (6 - N)
  rw [show N + (6 - N) = 6 by omega] at e
  rw [← e]
  exact hX (fun t u ht hu he => h (a t) (haN t ht) t ht rfl u hu he)
end SUM
