/-! shared and group: both -/
theorem m_s86 {N : Nat} {K : Int32 → pw_Mem → Prop} {KX : Int32 → Int32 → Int32 → pw_Mem → Prop} {l1 l2 : Int32} (hN : N ≤ 6) : ∀ (k i : Nat) (σ : pw_Mem), i + k = N → σ 49 19 = nI N → (∀ τ : pw_Mem, (∀ c, ¬ c = 71 → τ c = σ c) → (∀ u, i ≤ u → u < N → τ 71 u = σ 70 u) → (∀ u, u < i → τ 71 u = σ 71 u) → KX l1 l2 (nI N) τ) → R_X11_share_L86 K KX (k + 1) l1 l2 (nI i) σ := by
  intro k
  induction k with
  | zero =>
    intro i σ hi h0 h
    have e : i = N := by omega
    subst e
    unfold R_X11_share_L86
    rw [h0]
    exact ⟨fun _ => h σ (fun _ _ => rfl) (fun u h1 h2 => by omega) (fun _ _ => rfl), fun z => absurd (nI_le (Nat.le_refl _) (by omega)) z⟩
  | succ k ih =>
    intro i σ hi h0 h
    have hin : vp_in (nI i) 6 := vp_in_nI (by omega) (by decide)
    unfold R_X11_share_L86
    rw [h0]
    refine ⟨fun z => absurd ((nI_leI (by omega) (by omega)).mp z) (by omega), fun _ => ⟨hin, hin, ?_⟩⟩
    rintro _ rfl
    rw [cl_nI (by omega), nI_1]
    refine ih (i + 1) _ (by omega) (by rw [pw_r (by decide)]; exact h0) (fun τ h1 h2 h3 => h τ (fun c hc => by rw [h1 c hc, pw_r hc]) (fun u hu hu2 => ?_) (fun u hu => ?_))
    · by_cases e : u = i
      · subst e
        rw [h3 u (by omega), pw_s, upd_s]
      · rw [h2 u (by omega) hu2, pw_r (by decide)]
    · rw [h3 u (by omega), pw_s, upd_n (by omega)]
/-- what the reference keeps of the best -/
def bsm (N : Nat) (o : Option (Nat × List Nat)) (v : Int32) (k : Rows) : Prop := (o = none ∧ v = -4) ∨ ∃ s l, o = some (s, l) ∧ s < 2 ^ 30 ∧ v = nI s ∧ ∀ u, u < N → k u = nI (ga l u)
def Sh (σ σ0 : pw_Mem) : Prop := (∀ k, ¬ k = 49 → ¬ k = 70 → ¬ k = 71 → σ k = σ0 k) ∧ ∀ j, ¬ j = 26 → σ 49 j = σ0 49 j
section SHL
variable {N : Nat} {T gd R : Nat → Nat} {A : Rows} {σ0 : pw_Mem} {K : Int32 → pw_Mem → Prop}
theorem m_s47s {KX : Int32 → pw_Mem → Prop} {n : Nat} {o : Option (Nat × List Nat)} {l : List Nat} {σ : pw_Mem} (hN : N ≤ 6) (h0 : σ0 49 19 = nI N) (hA : ∀ i, i < N → σ0 69 i = A i) (hT : ∀ σ t (K : Int32 → pw_Mem → Prop), Sh σ σ0 → t < N → K (nI (T t)) σ → R_X11_totalOf (nI t) σ K) (hG : ∀ t, t < N → σ0 68 t = nI (gd t)) (hR : ∀ t, t < N → R t = T t + gd t ∧ R t ≤ 40000000) (hm : l.length = N ∧ (∀ u, ga l u < 100) ∧ ∀ u, u < N → ga l u < N) (hs : Sh σ σ0) (h70 : ∀ u, u < N → σ 70 u = nI (ga l u)) (hb : bsm N o (σ 49 26) (σ 71)) (cont : ∀ τ : pw_Mem, Sh τ σ0 → (∀ u, u < N → τ 70 u = nI (ga l u)) → bsm N (stp N R A o l) (τ 49 26) (τ 71) → R_X11_nextWay τ (fun x τ' => R_X11_share_L47 K KX n x τ')) : R_X11_share_L47 K KX (n + 1) 1 σ := by
  have hS := sm_s (N := N) (R := R) (a := ga l) (fun u hu => (hR u hu).2) (k := N) (Nat.le_refl _)
  have keepIt : ∀ τ : pw_Mem, τ = pw_up σ 49 26 (nI (sm R (ga l) N 6)) → stp N R A o l = some (sm R (ga l) N 6, l) → ∀ (l1 x9 : Int32), ∃ n20, R_X11_share_L86 K (fun y14 y15 y16 τ17 => R_X11_nextWay τ17 (fun x19 τ18 => R_X11_share_L47 K KX n x19 τ18)) n20 l1 x9 0 τ := by
    intro τ hτ hst l1 x9
    refine ⟨N + 1, m_s86 hN N 0 τ (by omega) (by rw [hτ, pw_s, upd_n (by decide), hs.2 19 (by decide)]; exact h0) (fun ρ p1 p2 _ => cont ρ ⟨fun k k1 k2 k3 => by rw [p1 k k3, hτ, pw_r k1]; exact hs.1 k k1 k2 k3, fun j hj => by rw [p1 49 (by decide), hτ, pw_s, upd_n hj]; exact hs.2 j hj⟩ (fun u hu => by rw [p1 70 (by decide), hτ, pw_r (by decide)]; exact h70 u hu) ?_)⟩
    rw [hst]
    refine Or.inr ⟨_, _, rfl, by omega, by rw [p1 49 (by decide), hτ, pw_s, upd_s], fun u hu => ?_⟩
    rw [p2 u (Nat.zero_le _) hu, hτ, pw_r (by decide)]
    exact h70 u hu
  unfold R_X11_share_L47
  refine ⟨fun z => absurd z n01, fun _ => m_sum (N := N) (a := ga l) (T := T) (gd := gd) (R := R) (A := A) hN (by rw [hs.2 19 (by decide)]; exact h0) hm.2.1 hm.2.2 (fun i hi => ⟨h70 i hi, by rw [hs.1 69 (by decide) (by decide) (by decide)]; exact hA i hi⟩) (fun t K ht hK => hT σ t K hs ht hK) (fun t ht => by rw [hs.1 68 (by decide) (by decide) (by decide)]; exact hG t ht) hR (fun hv => ⟨fun _ => cont σ hs h70 ?_, fun z => absurd rfl z⟩) (fun hv => ⟨fun z => absurd z (nI_m4 (by omega)), fun _ => ⟨fun z => ?_, fun z => ⟨fun y => cont σ hs h70 ?_, fun y => ?_⟩⟩⟩)⟩
  · rw [stp_no (fun h1 _ => hv ((vdB_t N).mp h1))]; exact hb
  · intro τ hτ
    rcases hb with ⟨e1, e2⟩ | ⟨s, l', e1, e2, e3, e4⟩
    · exact keepIt τ hτ (stp_ok hv (by rw [e1]; rfl)) _ _
    · rw [e3] at z; exact absurd z (nI_m4 (by omega))
  · rcases hb with ⟨e1, e2⟩ | ⟨s, l', e1, e2, e3, e4⟩
    · exact absurd e2 z
    · rw [stp_no (fun _ h2 => ?_)]
      · exact Or.inr ⟨s, l', e1, e2, e3, e4⟩
      · rw [e1] at h2
        have h3 : sm R (ga l) N 6 < s := of_decide_eq_true h2
        rw [e3] at y
        have := (nI_leI (by omega) (by omega)).mp y
        omega
  · intro τ hτ
    rcases hb with ⟨e1, e2⟩ | ⟨s, l', e1, e2, e3, e4⟩
    · exact absurd e2 z
    · refine keepIt τ hτ (stp_ok hv ?_) _ _
      rw [e1]
      rw [e3] at y
      exact decide_eq_true (Nat.lt_of_not_le (fun q => y (nI_le q (by omega))))
theorem m_s47 {KX : Int32 → pw_Mem → Prop} (hN : N ≤ 6) (h0 : σ0 49 19 = nI N) (hA : ∀ i, i < N → σ0 69 i = A i) (hT : ∀ σ t (K : Int32 → pw_Mem → Prop), Sh σ σ0 → t < N → K (nI (T t)) σ → R_X11_totalOf (nI t) σ K) (hG : ∀ t, t < N → σ0 68 t = nI (gd t)) (hR : ∀ t, t < N → R t = T t + gd t ∧ R t ≤ 40000000) : ∀ (L : List (List Nat)) (o : Option (Nat × List Nat)) (l : List Nat) (σ : pw_Mem), chk N (l :: L) = true → (∀ m, m ∈ l :: L → m.length = N ∧ (∀ u, ga m u < 100) ∧ ∀ u, u < N → ga m u < N) → Sh σ σ0 → (∀ u, u < N → σ 70 u = nI (ga l u)) → bsm N o (σ 49 26) (σ 71) → (∀ τ : pw_Mem, Sh τ σ0 → bsm N ((l :: L).foldl (stp N R A) o) (τ 49 26) (τ 71) → KX 0 τ) → R_X11_share_L47 K KX (L.length + 1 + 1) 1 σ := by
  intro L
  induction L with
  | nil =>
    intro o l σ hc hm hs h70 hb hK
    have e : chk N [l] = ((nxA N l == none) && true) := rfl
    rw [e, Bool.and_true, beq_iff_eq] at hc
    have hml := hm l (List.mem_cons_self)
    refine m_s47s hN h0 hA hT hG hR hml hs h70 hb (fun τ t1 t2 t3 => m_next hN (by rw [t1.2 19 (by decide)]; exact h0) hml.1 hml.2.1 t2 (fun _ => ?_) (fun l' h' => ?_))
    · show R_X11_share_L47 K KX (0 + 1) 0 τ
      unfold R_X11_share_L47
      exact ⟨fun _ => hK τ t1 t3, fun z => absurd rfl z⟩
    · rw [hc] at h'; cases h'
  | cons b L ih =>
    intro o l σ hc hm hs h70 hb hK
    have e : chk N (l :: b :: L) = ((nxA N l == some b) && chk N (b :: L)) := rfl
    rw [e, Bool.and_eq_true, beq_iff_eq] at hc
    have hml := hm l (List.mem_cons_self)
    refine m_s47s hN h0 hA hT hG hR hml hs h70 hb (fun τ t1 t2 t3 => m_next hN (by rw [t1.2 19 (by decide)]; exact h0) hml.1 hml.2.1 t2 (fun h' => ?_) (fun l' h' ρ p1 p2 => ?_))
    · rw [hc.1] at h'; cases h'
    · rw [hc.1] at h'
      cases h'
      refine ih (stp N R A o l) b ρ hc.2 (fun m hmm => hm m (List.mem_cons_of_mem _ hmm)) ⟨fun k k1 k2 k3 => by rw [p1 k k2]; exact t1.1 k k1 k2 k3, fun j hj => by rw [p1 49 (by decide)]; exact t1.2 j hj⟩ p2 (by rw [p1 49 (by decide), p1 71 (by decide)]; exact t3) hK
theorem m_s6 {KX : Int32 → pw_Mem → Prop} {Tv : Nat → Int32} (hN : N ≤ 6) (h0 : σ0 49 19 = nI N) (hT : ∀ σ t (K : Int32 → pw_Mem → Prop), Sh σ σ0 → t < N → K (Tv t) σ → R_X11_totalOf (nI t) σ K) (h5 : ∀ τ : pw_Mem, Sh τ σ0 → (∃ t, t < N ∧ Tv t = -5) → K 0 τ) (hX : (∀ t, t < N → ¬ Tv t = -5) → ∀ τ : pw_Mem, Sh τ σ0 → (∀ u, u < N → τ 70 u = 0) → KX (nI N) τ) : ∀ (k i : Nat) (σ : pw_Mem), i + k = N → Sh σ σ0 → (∀ u, u < i → σ 70 u = 0) → (∀ t, t < i → ¬ Tv t = -5) → R_X11_share_L6 K KX (k + 1) (nI i) σ := by
  intro k
  induction k with
  | zero =>
    intro i σ hi hs h70 hv
    have e : i = N := by omega
    subst e
    unfold R_X11_share_L6
    rw [hs.2 19 (by decide), h0]
    exact ⟨fun _ => hX hv σ hs h70, fun z => absurd (nI_le (Nat.le_refl _) (by omega)) z⟩
  | succ k ih =>
    intro i σ hi hs h70 hv
    unfold R_X11_share_L6
    rw [hs.2 19 (by decide), h0]
    refine ⟨fun z => absurd ((nI_leI (by omega) (by omega)).mp z) (by omega), fun _ => ⟨vp_in_nI (by omega) (by decide), ?_⟩⟩
    intro τ hτ
    rw [cl_nI (by omega)] at hτ
    have hs2 : Sh τ σ0 := ⟨fun k k1 k2 k3 => by rw [hτ, pw_r k2]; exact hs.1 k k1 k2 k3, fun j hj => by rw [hτ, pw_r (by decide)]; exact hs.2 j hj⟩
    refine hT τ i _ hs2 (by omega) ⟨fun z => ?_, fun z => h5 τ hs2 ⟨i, by omega, z⟩⟩
    rw [nI_1]
    refine ih (i + 1) τ (by omega) hs2 (fun u hu => ?_) (fun t ht => ?_)
    · by_cases e : u = i
      · subst e; rw [hτ, pw_s, upd_s]
      · rw [hτ, pw_s, upd_n e]; exact h70 u (by omega)
    · by_cases e : t = i
      · subst e; exact z
      · exact hv t (by omega)
end SHL
theorem en_ok {N : Nat} (hN : N ≤ 6) : ∀ m, m ∈ enL N 0 [] → m.length = N ∧ (∀ u, ga m u < 100) ∧ ∀ u, u < N → ga m u < N := by
  intro m hm
  have h := List.all_eq_true.mp (len_all N hN) m hm
  rw [Bool.and_eq_true, beq_iff_eq] at h
  have h2 := List.all_eq_true.mp h.2
  have key : ∀ u, u < N → ga m u < N := fun u hu => by
    have hu2 : u < m.length := by omega
    unfold ga
    rw [List.getD_eq_getElem?_getD, List.getElem?_eq_getElem hu2]
    exact of_decide_eq_true (h2 _ (List.getElem_mem hu2))
  refine ⟨h.1, fun u => ?_, key⟩
  by_cases hu : u < N
  · have := key u hu; omega
  · unfold ga
    rw [List.getD_eq_getElem?_getD, List.getElem?_eq_none (by omega)]
    decide
theorem ga_rep (N u : Nat) : ga (List.replicate N 0) u = 0 := by
  unfold ga
  rw [List.getD_eq_getElem?_getD, List.getElem?_replicate]
  by_cases h : u < N
  · rw [if_pos h]; rfl
  · rw [if_neg h]; rfl
theorem ga_rng {N u : Nat} (h : u < N) : ga (List.range N) u = u := by
  unfold ga
  rw [List.getD_eq_getElem?_getD, List.getElem?_range h]
  rfl
theorem fold_some {N : Nat} {R : Nat → Nat} {A : Rows} : ∀ (L : List (List Nat)) (o : Option (Nat × List Nat)), ((∃ q, o = some q) ∨ ∃ l, l ∈ L ∧ vd A (ga l) N) → ∃ q, L.foldl (stp N R A) o = some q := by
  intro L
  induction L with
  | nil =>
    rintro o (h | ⟨l, h, _⟩)
    · exact h
    · cases h
  | cons l L ih =>
    rintro o h
    rw [List.foldl_cons]
    refine ih _ ?_
    have some1 : (∃ q, o = some q) → ∃ q, stp N R A o l = some q := by
      rintro ⟨q, rfl⟩
      unfold stp
      by_cases z : (vdB A (ga l) N && lss (some q) (sm R (ga l) N 6)) = true
      · rw [if_pos z]; exact ⟨_, rfl⟩
      · rw [if_neg z]; exact ⟨_, rfl⟩
    rcases h with h | ⟨l', h1, h2⟩
    · exact Or.inl (some1 h)
    · rcases List.mem_cons.mp h1 with e | e
      · subst e
        left
        cases o with
        | none => exact ⟨_, stp_ok h2 rfl⟩
        | some q => exact some1 ⟨q, rfl⟩
      · exact Or.inr ⟨l', e, h2⟩
theorem en_some {N : Nat} (hN : N ≤ 6) (R : Nat → Nat) (A : Rows) : ∃ s l, (enL N 0 []).foldl (stp N R A) none = some (s, l) := by
  obtain ⟨⟨s, l⟩, h⟩ := fold_some (N := N) (R := R) (A := A) (enL N 0 []) none (Or.inr ⟨List.range N, List.contains_iff_mem.mp (sep_all N hN), fun t u ht hu he => by
    rw [ga_rng (by omega), ga_rng ht] at he
    omega⟩)
  exact ⟨s, l, h⟩
