/-! the class measures -/
theorem fl_mem {p : Nat → Bool} {r : Nat} : ∀ k, r ∈ fl p k ↔ (r < k ∧ p r = true) := by
  intro k
  induction k with
  | zero => exact ⟨fun h => absurd h List.not_mem_nil, fun h => absurd h.1 (Nat.not_lt_zero _)⟩
  | succ k ih =>
    have e : fl p (k + 1) = if p k then fl p k ++ [k] else fl p k := rfl
    rw [e]
    by_cases hp : p k = true
    · rw [if_pos hp, List.mem_append, ih, List.mem_singleton]
      constructor
      · rintro (h | h)
        · exact ⟨by omega, h.2⟩
        · subst h; exact ⟨by omega, hp⟩
      · rintro ⟨h1, h2⟩
        by_cases e2 : r = k
        · exact Or.inr e2
        · exact Or.inl ⟨by omega, h2⟩
    · rw [if_neg hp, ih]
      constructor
      · rintro ⟨h1, h2⟩; exact ⟨by omega, h2⟩
      · rintro ⟨h1, h2⟩
        by_cases e2 : r = k
        · subst e2; exact absurd h2 hp
        · exact ⟨by omega, h2⟩
theorem ll_in {Q : Nat → Nat → Bool} {n r : Nat} : ∀ c, r ∈ ll Q n c ↔ (r < n ∧ qs Q c r = true) := by
  intro c
  induction c with
  | zero => exact ⟨fun h => absurd h List.not_mem_nil, fun h => Bool.noConfusion h.2⟩
  | succ c ih =>
    have e : ll Q n (c + 1) = ll Q n c ++ fl (Q (c + 1)) n := rfl
    have e2 : qs Q (c + 1) r = (qs Q c r || Q (c + 1) r) := rfl
    rw [e, List.mem_append, ih, fl_mem, e2, Bool.or_eq_true]
    constructor
    · rintro (h | h)
      · exact ⟨h.1, Or.inl h.2⟩
      · exact ⟨h.1, Or.inr h.2⟩
    · rintro ⟨h1, h2 | h2⟩
      · exact Or.inl ⟨h1, h2⟩
      · exact Or.inr ⟨h1, h2⟩
theorem ll_ord {g : Nat → Prop} {q : Nat → Nat} {Q : Nat → Nat → Bool} {n : Nat} (h : Qd g q Q) : ∀ (c i j x y : Nat), i ≤ j → (ll Q n c)[i]? = some x → (ll Q n c)[j]? = some y → q x ≤ q y := by
  intro c
  induction c with
  | zero => intro i j x y _ h1; simp [ll] at h1
  | succ c ih =>
    intro i j x y hij h1 h2
    have e : ll Q n (c + 1) = ll Q n c ++ fl (Q (c + 1)) n := rfl
    have up : ∀ z, z ∈ ll Q n (c + 1) → q z ≤ c + 1 := fun z hz => qs_d h (c + 1) z ((ll_in (c + 1)).mp hz).2
    by_cases hj : j < (ll Q n c).length
    · rw [e, List.getElem?_append_left (by omega)] at h1
      rw [e, List.getElem?_append_left hj] at h2
      exact ih i j x y hij h1 h2
    · have hx := up x (List.mem_of_getElem? h1)
      rw [e, List.getElem?_append_right (by omega)] at h2
      have hy := ((h _ _).mp ((fl_mem n).mp (List.mem_of_getElem? h2)).2).2
      omega
section ROWS
variable {n : Nat} {P P' T T' G G' fr t f : Rows}
theorem dIt_rw (hP : ∀ a, a < n → P' a = P a) (hT : ∀ a, a < n → T' a = T a) (hG : ∀ a, a < n → G' a = G a) {r : Nat} (hr : r < n) : dIt n P' T' G' fr f r = dIt n P T G fr f r := by
  unfold dIt; rw [hP r hr, hT r hr, hG r hr]
theorem dTl_rw (hP : ∀ a, a < n → P' a = P a) (hT : ∀ a, a < n → T' a = T a) (hG : ∀ a, a < n → G' a = G a) {s : Int32} : ∀ k, k ≤ n → dTl n P' T' G' fr f s k = dTl n P T G fr f s k := by
  intro k
  induction k with
  | zero => intro _; rfl
  | succ k ih =>
    intro hk
    have e1 : dTl n P' T' G' fr f s (k + 1) = if bt s k then gre (dTl n P' T' G' fr f s k) (dIt n P' T' G' fr f k) else dTl n P' T' G' fr f s k := rfl
    have e2 : dTl n P T G fr f s (k + 1) = if bt s k then gre (dTl n P T G fr f s k) (dIt n P T G fr f k) else dTl n P T G fr f s k := rfl
    rw [e1, e2, ih (by omega), dIt_rw hP hT hG (by omega)]
theorem drg_rw (hP : ∀ a, a < n → P' a = P a) (hT : ∀ a, a < n → T' a = T a) {s : Int32} : ∀ k, k ≤ n → drg n P' T' fr t f s k = drg n P T fr t f s k := by
  intro k
  induction k with
  | zero => intro _; rfl
  | succ k ih =>
    intro hk
    have e1 : drg n P' T' fr t f s (k + 1) = (match drg n P' T' fr t f s k with
      | none => none
      | some q => if bt s k then (if t k = 0 then none else some (q.1 + fr k * t k, gre q.2 (gto f ((P' k ||| T' k) &&& (s ^^^ (-1))) n))) else some q) := rfl
    have e2 : drg n P T fr t f s (k + 1) = (match drg n P T fr t f s k with
      | none => none
      | some q => if bt s k then (if t k = 0 then none else some (q.1 + fr k * t k, gre q.2 (gto f ((P k ||| T k) &&& (s ^^^ (-1))) n))) else some q) := rfl
    rw [e1, e2, ih (by omega), hP k (by omega), hT k (by omega)]
end ROWS
/-- the rows that measure() doesn't touch, but found -/
def Ms (n : Nat) (u : Int32) (τ : pw_Mem) : Prop := τ 1 2 = nI n ∧ n ≤ 20 ∧ Bd n (Pp τ) (Tt τ) ∧ (∀ a, a < n → τ 15 a = Pp τ a ∧ τ 16 a = Tt τ a ∧ τ 17 a = gR n (Pp τ) (Tt τ) a ∧ τ 18 a = gT n (Pp τ) (Tt τ) a) ∧ τ 14 8 = gG n (Pp τ) (Tt τ) ∧ Lay2 (ldl n (Pp τ) (Tt τ)) (τ 14 10) (τ 19) ∧ τ 20 2 = u
theorem Ms.cg {n : Nat} {u : Int32} {τ ρ : pw_Mem} (h : Ms n u τ) (hs : ∀ k, ¬ k = 21 → ρ k = τ k) : Ms n u ρ := by
  unfold Ms Pp Tt
  rw [hs 1 (by decide), hs 10 (by decide), hs 11 (by decide), hs 12 (by decide), hs 13 (by decide), hs 7 (by decide), hs 15 (by decide), hs 16 (by decide), hs 17 (by decide), hs 18 (by decide), hs 14 (by decide), hs 19 (by decide), hs 20 (by decide)]
  exact h
theorem e_measL {K : pw_Mem → Prop} {KX : Int32 → Int32 → pw_Mem → Prop} {n : Nat} {u l1 : Int32} {τ0 : pw_Mem} (h0 : Ms n u τ0) (hX : ∀ τ : pw_Mem, (∀ k, ¬ k = 21 → τ k = τ0 k) → (∀ k x r : Nat, (ldl n (Pp τ0) (Tt τ0))[k]? = some x → bt (gT n (Pp τ0) (Tt τ0) x) r = true → τ 21 r = rhs n (Pp τ0) (Tt τ0) (fro u (τ0 2)) (τ0 3) (τ 21) r) → KX l1 (nI (ldl n (Pp τ0) (Tt τ0)).length) τ) : ∀ (k i : Nat) (σ : pw_Mem), i + k = (ldl n (Pp τ0) (Tt τ0)).length → (∀ k, ¬ k = 21 → σ k = τ0 k) → (∀ k x r : Nat, k < i → (ldl n (Pp τ0) (Tt τ0))[k]? = some x → bt (gT n (Pp τ0) (Tt τ0) x) r = true → σ 21 r = rhs n (Pp τ0) (Tt τ0) (fro u (τ0 2)) (τ0 3) (σ 21) r) → R_X1_measure_L14 K KX (k + 1) l1 (nI i) σ := by
  obtain ⟨m1, hn, hb, mr, mg, ml, mu⟩ := h0
  have hlen := ldl_len (n := n) (P := Pp τ0) (T := Tt τ0)
  intro k
  induction k with
  | zero =>
    intro i σ hi hs hd
    have e : i = (ldl n (Pp τ0) (Tt τ0)).length := by omega
    subst e
    unfold R_X1_measure_L14
    rw [hs 14 (by decide), ml.1]
    refine ⟨fun _ => hX σ hs (fun k x r hk hr => hd k x r (List.getElem?_eq_some_iff.mp hk).1 hk hr), fun z => absurd (nI_le (Nat.le_refl _) (by omega)) z⟩
  | succ k ih =>
    intro i σ hi hs hd
    have hx : (ldl n (Pp τ0) (Tt τ0))[i]? = some (ldl n (Pp τ0) (Tt τ0))[i] := List.getElem?_eq_getElem (by omega)
    generalize (ldl n (Pp τ0) (Tt τ0))[i] = x at hx
    have hxn : x < n := ll_mem n i x hx
    unfold R_X1_measure_L14
    rw [hs 14 (by decide), ml.1, hs 19 (by decide), hs 18 (by decide), cl_nI (show i < 2 ^ 31 by omega), ml.2 i x hx, cl_nI (show x < 2 ^ 31 by omega), nI_1, mg, (mr x hxn).2.2.2]
    refine ⟨fun z => absurd ((nI_leI (by omega) (by omega)).mp z) (by omega), fun _ => ⟨vp_in_nI (by omega) (by decide), vp_in_nI (by omega) (by decide), ?_⟩⟩
    have h12 : σ 1 2 = nI n := by rw [hs 1 (by decide)]; exact m1
    have nxt : ∀ v, v = rhs n (Pp τ0) (Tt τ0) (fro u (τ0 2)) (τ0 3) (σ 21) x → R_X1_spread (gT n (Pp τ0) (Tt τ0) x) v σ (fun τ7 => R_X1_measure_L14 K KX (k + 1) l1 (nI (i + 1)) τ7) := by
      intro v hv
      refine e_spr hn h12 (fun τ t1 t2 => ih (i + 1) τ (by omega) (fun c hc => by rw [t1 c hc, hs c hc]) (fun k9 y r hk9 hy hr => ?_))
      have hyn : y < n := ll_mem n k9 y hy
      have hrn := gT_bd hn hyn hr
      have ord : qn n (Pp τ0) (Tt τ0) y ≤ qn n (Pp τ0) (Tt τ0) x := ll_ord (isLd_d n (Pp τ0) (Tt τ0)) n k9 i y x (by omega) hy hx
      have qr : qn n (Pp τ0) (Tt τ0) r = qn n (Pp τ0) (Tt τ0) y := qn_eq hb hn hyn hr
      have same : rhs n (Pp τ0) (Tt τ0) (fro u (τ0 2)) (τ0 3) (τ 21) r = rhs n (Pp τ0) (Tt τ0) (fro u (τ0 2)) (τ0 3) (σ 21) r := rhs_cg hb hn hrn (fun j hj hj2 => by
        rw [t2 j, if_neg]
        intro z
        have := qn_eq hb hn hxn z.2
        omega)
      rw [same, t2 r]
      by_cases e : bt (gT n (Pp τ0) (Tt τ0) x) r = true
      · rw [if_pos ⟨hrn, e⟩, hv]
        unfold rhs
        rw [gG_eq hb hn hxn e, gT_eq hb hn hxn e]
      · rw [if_neg (fun z => e z.2)]
        have hk2 : k9 < i := by
          rcases Nat.lt_or_ge k9 i with h | h
          · exact h
          · have e3 : k9 = i := by omega
            subst e3
            rw [hx] at hy
            cases hy
            exact absurd hr e
        exact hd k9 y r hk2 hy hr
    have f2 : fro (σ 20 2) (σ 2) = fro u (τ0 2) := by rw [hs 20 (by decide), hs 2 (by decide), mu]
    refine e_holds (by omega) (fun hb1 => ⟨fun q => absurd q n01, fun _ => e_dRg hn h12 (nxt _ ?_)⟩) (fun hb1 => ⟨fun _ => e_dTl hn h12 (nxt _ ?_), fun q => absurd rfl q⟩)
    · unfold rhs dRg
      rw [if_pos hb1, f2, hs 3 (by decide), hs 15 (by decide), hs 16 (by decide), drg_rw (fun a ha => (mr a ha).1) (fun a ha => (mr a ha).2.1) n (Nat.le_refl _)]
    · unfold rhs
      rw [if_neg (by rw [hb1]; decide), f2, hs 15 (by decide), hs 16 (by decide), hs 18 (by decide), dTl_rw (fun a ha => (mr a ha).1) (fun a ha => (mr a ha).2.1) (fun a ha => (mr a ha).2.2.2) n (Nat.le_refl _)]
/-- measure: the depths of all routines, one of them unframed or none -/
theorem e_measure {K : pw_Mem → Prop} {n c ni nt : Nat} {u : Int32} {σ : pw_Mem} (h4 : Inv4 n c ni nt σ) (hX : ∀ τ : pw_Mem, (∀ k, ¬ (14 ≤ k ∧ k ≤ 21) → τ k = σ k) → Inv4 n c ni nt τ → τ 14 3 = 0 → τ 20 2 = u → DE n (Pp τ) (Tt τ) (fro u (τ 2)) (τ 3) (τ 21) → K τ) : R_X1_measure u σ K := by
  unfold R_X1_measure
  refine refr h4 (fun τ t1 h5 t3 => ?_)
  intro τ2 hτ2
  have u1 : ∀ k, ¬ k = 20 → τ2 k = τ k := fun k hk => by rw [hτ2, pw_r hk]
  have u2 : τ2 20 2 = u := by rw [hτ2, pw_s, upd_s]
  obtain ⟨g1, g2, g3⟩ := h5.gr t3
  have hb := h5.bd
  have hn := h5.1.1
  have hM : Ms n u τ2 := by
    unfold Ms Pp Tt
    rw [u1 1 (by decide), u1 10 (by decide), u1 11 (by decide), u1 12 (by decide), u1 13 (by decide), u1 7 (by decide), u1 15 (by decide), u1 16 (by decide), u1 17 (by decide), u1 18 (by decide), u1 14 (by decide), u1 19 (by decide)]
    exact ⟨h5.1.2.1, hn, hb, g1, g2, g3, u2⟩
  refine ⟨_, e_measL hM (fun ρ r1 r2 => ?_) _ 0 τ2 (Nat.zero_add _) (fun _ _ => rfl) (fun k x r hk => absurd hk (Nat.not_lt_zero _))⟩
  have eP : Pp ρ = Pp τ2 ∧ Tt ρ = Tt τ2 := by
    unfold Pp Tt
    rw [r1 10 (by decide), r1 11 (by decide), r1 12 (by decide), r1 13 (by decide), r1 7 (by decide)]
    exact ⟨rfl, rfl⟩
  have hb2 := hM.2.2.1
  refine hX ρ (fun k hk => ?_) ?_ ?_ ?_ ?_
  · rw [r1 k (by omega), u1 k (by omega), t1 k (by omega)]
  · refine h5.cg (fun k k1 _ _ _ _ _ => by rw [r1 k (by omega), u1 k (by omega)]) (fun j _ => by rw [r1 49 (by decide), u1 49 (by decide)]) ?_
    rw [r1 14 (by decide), r1 15 (by decide), r1 16 (by decide), r1 17 (by decide), r1 18 (by decide), r1 19 (by decide), u1 14 (by decide), u1 15 (by decide), u1 16 (by decide), u1 17 (by decide), u1 18 (by decide), u1 19 (by decide)]
    exact h5.2.2.2.2.2.2.2.2
  · rw [r1 14 (by decide), u1 14 (by decide)]; exact t3
  · rw [r1 20 (by decide)]; exact u2
  · rw [eP.1, eP.2, r1 2 (by decide), r1 3 (by decide)]
    intro r hr
    have hself := gT_self (P := Pp τ2) (T := Tt τ2) hn hr
    obtain ⟨q1, q2⟩ := lst_lt (show r < 20 by omega) hself
    have hl := gT_bd hn hr q2
    have hlead : lst (gT n (Pp τ2) (Tt τ2) (lst (gT n (Pp τ2) (Tt τ2) r) 20 0)) 20 0 = lst (gT n (Pp τ2) (Tt τ2) r) 20 0 := by rw [gT_eq hb2 hn hr q2]
    have hin : lst (gT n (Pp τ2) (Tt τ2) r) 20 0 ∈ ldl n (Pp τ2) (Tt τ2) := by
      refine (ll_in n).mpr ⟨hl, ?_⟩
      rw [led hb2 hn hl]
      exact decide_eq_true hlead
    obtain ⟨k, hk⟩ := List.getElem?_of_mem hin
    exact r2 k _ r hk (gT_sym hb2 hn hr q2)
