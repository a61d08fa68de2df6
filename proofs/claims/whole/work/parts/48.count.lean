/-! count -/
def kc (p : Nat → Bool) (l : List Nat) : Nat → Nat
  | 0 => 0
  | i + 1 => kc p l i + (match l[i]? with
    | some x => if p x then 1 else 0
    | none => 0)
theorem kc_s (p : Nat → Bool) (l : List Nat) (i : Nat) : kc p l (i + 1) = kc p l i + (match l[i]? with
    | some x => if p x then 1 else 0
    | none => 0) := rfl
theorem kc_pre {p : Nat → Bool} {l m : List Nat} : ∀ i, i ≤ l.length → kc p (l ++ m) i = kc p l i := by
  intro i
  induction i with
  | zero => intro _; rfl
  | succ i ih => intro h; rw [kc_s, kc_s, ih (by omega), List.getElem?_append_left (by omega)]
theorem kc_app {p : Nat → Bool} {l m : List Nat} : ∀ j, kc p (l ++ m) (l.length + j) = kc p l l.length + kc p m j := by
  intro j
  induction j with
  | zero => exact kc_pre _ (Nat.le_refl _)
  | succ j ih =>
    rw [← Nat.add_assoc, kc_s, kc_s, ih, List.getElem?_append_right (by omega), show l.length + j - l.length = j by omega]
    omega
theorem kc_fl {p q : Nat → Bool} : ∀ k, kc p (fl q k) (fl q k).length = ct (fun r => q r && p r) k := by
  intro k
  induction k with
  | zero => rfl
  | succ k ih =>
    have e2 : ct (fun r => q r && p r) (k + 1) = ct (fun r => q r && p r) k + (if (q k && p k) then 1 else 0) := rfl
    have e : fl q (k + 1) = if q k then fl q k ++ [k] else fl q k := rfl
    rw [e2, e]
    by_cases h : q k = true
    · have e3 : kc p [k] [k].length = if p k then 1 else 0 := by show 0 + (if p k then 1 else 0) = _; omega
      rw [if_pos h, List.length_append, kc_app, ih, h, e3, Bool.true_and]
    · have h2 : q k = false := by cases hh : q k with
        | true => exact absurd hh h
        | false => rfl
      rw [if_neg h, ih, h2]
      rfl
theorem kc_ll {g : Nat → Prop} {q : Nat → Nat} {Q : Nat → Nat → Bool} {p : Nat → Bool} {n : Nat} (h : Qd g q Q) : ∀ c, kc p (ll Q n c) (ll Q n c).length = ct (fun r => qs Q c r && p r) n := by
  intro c
  induction c with
  | zero =>
    have : ∀ n, ct (fun r => qs Q 0 r && p r) n = 0 := by
      intro n
      induction n with
      | zero => rfl
      | succ n ih => show ct _ n + 0 = 0; rw [ih]
    rw [this]; rfl
  | succ c ih =>
    have e : ll Q n (c + 1) = ll Q n c ++ fl (Q (c + 1)) n := rfl
    rw [e, List.length_append, kc_app, ih, kc_fl]
    refine (ct_or (fun k => ?_) (fun k hk => ?_) n).symm
    · show ((qs Q c k || Q (c + 1) k) && p k) = true ↔ _
      cases qs Q c k <;> cases Q (c + 1) k <;> cases p k <;> simp
    · rw [Bool.and_eq_true, Bool.and_eq_true] at hk
      have e1 := qs_d h c k hk.1.1
      have e2 := ((h _ _).mp hk.2.1).2
      omega
theorem ct_cg {p q : Nat → Bool} : ∀ k, (∀ i, i < k → p i = q i) → ct p k = ct q k := by
  intro k
  induction k with
  | zero => intro _; rfl
  | succ k ih => intro h; unfold ct; rw [ih (fun i hi => h i (by omega)), h k (by omega)]
theorem qs_t {Q : Nat → Nat → Bool} {r : Nat} : ∀ c, qs Q c r = true ↔ ∃ k, k < c ∧ Q (k + 1) r = true := by
  intro c
  induction c with
  | zero => exact ⟨fun h => Bool.noConfusion h, fun ⟨k, hk, _⟩ => absurd hk (Nat.not_lt_zero _)⟩
  | succ c ih =>
    show (qs Q c r || Q (c + 1) r) = true ↔ _
    rw [Bool.or_eq_true, ih]
    constructor
    · rintro (⟨k, h1, h2⟩ | h)
      · exact ⟨k, by omega, h2⟩
      · exact ⟨c, by omega, h⟩
    · rintro ⟨k, h1, h2⟩
      by_cases e : k = c
      · subst e; exact Or.inr h2
      · exact Or.inl ⟨k, by omega, h2⟩
theorem cnt_pos {x : Int32} {r : Nat} (h : bt x r = true) : ∀ k, r < k → 1 ≤ cnt x k := by
  intro k
  induction k with
  | zero => intro h; omega
  | succ k ih =>
    intro hk
    have e : cnt x (k + 1) = cnt x k + (if bt x k then 1 else 0) := rfl
    rw [e]
    by_cases e2 : r = k
    · subst e2; rw [if_pos h]; omega
    · have := ih (by omega); omega
theorem isLd_d (n : Nat) (P T : Rows) : Qd (fun r => lst (gT n P T r) 20 0 = r) (fun r => cnt (gR n P T r ||| one r) 32) (isLd n P T) := fun c r => by simp [isLd]
/-- a routine counted with what it reaches: between 1 and n -/
theorem cnt_in {n : Nat} {P T : Rows} (hb : Bd n P T) (hn : n ≤ 20) {r : Nat} (hr : r < n) : 1 ≤ cnt (gR n P T r ||| one r) 32 ∧ cnt (gR n P T r ||| one r) 32 ≤ n := by
  have hs : bt (gR n P T r ||| one r) r = true := (bt_set (by omega)).mpr (Or.inr rfl)
  refine ⟨cnt_pos hs 32 (by omega), ?_⟩
  rw [cnt_hi (n := n) (fun s h => ((bt_set (by omega)).mp h).elim (gR_bd hb hr) (fun e => by omega)) n 32 (Nat.le_refl _) (by omega)]
  exact cnt_le _ n
theorem led {n : Nat} {P T : Rows} (hb : Bd n P T) (hn : n ≤ 20) {r : Nat} (hr : r < n) : qs (isLd n P T) n r = decide (lst (gT n P T r) 20 0 = r) := by
  refine Bool.eq_iff_iff.mpr ?_
  rw [qs_t, decide_eq_true_iff]
  constructor
  · rintro ⟨k, -, h⟩
    exact ((isLd_d n P T _ _).mp h).1
  · intro h
    obtain ⟨h1, h2⟩ := cnt_in hb hn hr
    exact ⟨cnt (gR n P T r ||| one r) 32 - 1, by omega, (isLd_d n P T _ _).mpr ⟨h, show cnt (gR n P T r ||| one r) 32 = cnt (gR n P T r ||| one r) 32 - 1 + 1 by omega⟩⟩
theorem ll_mem {Q : Nat → Nat → Bool} {n : Nat} : ∀ (c i x : Nat), (ll Q n c)[i]? = some x → x < n := by
  have hf : ∀ (p : Nat → Bool) (k i x : Nat), (fl p k)[i]? = some x → x < k := by
    intro p k
    induction k with
    | zero => intro i x h; simp [fl] at h
    | succ k ih =>
      intro i x h
      have e : fl p (k + 1) = if p k then fl p k ++ [k] else fl p k := rfl
      rw [e] at h
      by_cases hp : p k = true
      · rw [if_pos hp] at h
        rcases List.mem_append.mp (List.mem_of_getElem? h) with hm | hm
        · obtain ⟨j, hj⟩ := List.getElem?_of_mem hm
          have := ih j x hj
          omega
        · have := List.mem_singleton.mp hm
          omega
      · rw [if_neg hp] at h
        have := ih i x h
        omega
  intro c
  induction c with
  | zero => intro i x h; simp [ll] at h
  | succ c ih =>
    intro i x h
    have e : ll Q n (c + 1) = ll Q n c ++ fl (Q (c + 1)) n := rfl
    rw [e] at h
    rcases List.mem_append.mp (List.mem_of_getElem? h) with hm | hm
    · obtain ⟨j, hj⟩ := List.getElem?_of_mem hm
      exact ih j x hj
    · obtain ⟨j, hj⟩ := List.getElem?_of_mem hm
      exact hf _ n j x hj
theorem ldl_len {n : Nat} {P T : Rows} : (ldl n P T).length ≤ n := by
  unfold ldl
  rw [ll_len (isLd_d n P T)]
  exact ct_le _ n
theorem e_ringsL {K : Int32 → pw_Mem → Prop} {KX : Int32 → Int32 → pw_Mem → Prop} {n : Nat} {l : List Nat} {σ : pw_Mem} (hn : n ≤ 20) (hl : l.length ≤ n) (hm : ∀ i x : Nat, l[i]? = some x → x < n) (hL : Lay2 l (σ 14 10) (σ 19)) (hX : KX (nI (kc (fun r => bt (σ 14 8) r) l l.length)) (nI l.length) σ) : ∀ (k i : Nat), i + k = l.length → R_X2_howManyRings_L4 K KX (k + 1) (nI (kc (fun r => bt (σ 14 8) r) l i)) (nI i) σ := by
  intro k
  induction k with
  | zero =>
    intro i hi
    have e : i = l.length := by omega
    subst e
    unfold R_X2_howManyRings_L4
    rw [hL.1]
    exact ⟨fun _ => hX, fun z => absurd (nI_le (Nat.le_refl _) (by omega)) z⟩
  | succ k ih =>
    intro i hi
    have h2 := ih (i + 1) (by omega)
    have hx : l[i]? = some l[i] := List.getElem?_eq_getElem (by omega)
    rw [kc_s, hx] at h2
    have hxn := hm i _ hx
    unfold R_X2_howManyRings_L4
    rw [hL.1, cl_nI (by omega), hL.2 i _ hx, nI_1, nI_1]
    refine ⟨fun z => absurd ((nI_leI (by omega) (by omega)).mp z) (by omega), fun _ => ⟨vp_in_nI (by omega) (by decide), ?_⟩⟩
    refine e_holds (by omega) (fun hb1 => ⟨fun q => absurd q n01, fun _ => ?_⟩) (fun hb1 => ⟨fun _ => ?_, fun q => absurd rfl q⟩)
    · simp only [hb1, if_true] at h2; exact h2
    · simp only [hb1] at h2; exact h2
theorem m_countL {K : Int32 → pw_Mem → Prop} {KX : Int32 → Int32 → Int32 → pw_Mem → Prop} {n c ni nt : Nat} {l1 : Int32} {σ : pw_Mem} (h4 : Inv4 n c ni nt σ) (hN : Net n σ) (hX : KX l1 (nI (ct (fun r => decide (lst (gT n (Pp σ) (Tt σ) r) 20 0 = r) && bt (gG n (Pp σ) (Tt σ)) r) n)) (nI n) σ) : ∀ (k i : Nat), i + k = n → R_X11_count_L68 K KX (k + 1) l1 (nI (ct (fun r => decide (lst (gT n (Pp σ) (Tt σ) r) 20 0 = r) && bt (gG n (Pp σ) (Tt σ)) r) i)) (nI i) σ := by
  have hn := h4.1.1
  intro k
  induction k with
  | zero =>
    intro i hi
    have e : i = n := by omega
    subst e
    unfold R_X11_count_L68
    rw [h4.1.2.2.1]
    exact ⟨fun _ => hX, fun z => absurd (nI_le (Nat.le_refl _) (by omega)) z⟩
  | succ k ih =>
    intro i hi
    have hi2 : i < n := by omega
    have h2 := ih (i + 1) (by omega)
    have e : ct (fun r => decide (lst (gT n (Pp σ) (Tt σ) r) 20 0 = r) && bt (gG n (Pp σ) (Tt σ)) r) (i + 1) = ct (fun r => decide (lst (gT n (Pp σ) (Tt σ) r) 20 0 = r) && bt (gG n (Pp σ) (Tt σ)) r) i + (if (decide (lst (gT n (Pp σ) (Tt σ) i) 20 0 = i) && bt (gG n (Pp σ) (Tt σ)) i) then 1 else 0) := rfl
    rw [e] at h2
    unfold R_X11_count_L68
    rw [h4.1.2.2.1, nI_1, nI_1, Int32.add_zero]
    refine ⟨fun z => absurd ((nI_leI (by omega) (by omega)).mp z) (by omega), fun _ => ?_⟩
    refine m_isRing h4 hN hi2 (fun hg => ⟨fun q => absurd q n01, fun _ => ⟨vp_in_nI (by omega) (by decide), ?_⟩⟩) (fun hg => ⟨fun _ => ?_, fun q => absurd rfl q⟩)
    · rw [cl_nI (by omega), (hN i hi2).2.2.2]
      have hself := gT_self (P := Pp σ) (T := Tt σ) hn hi2
      have hl := (lst_lt (show i < 20 by omega) hself).1
      refine m_least (show i < 20 by omega) hself ⟨fun q => ?_, fun q => ?_⟩
      · rw [decide_eq_false (fun z => q (by rw [z])), hg] at h2
        exact h2
      · rw [decide_eq_true (nI_inj (by omega) (by omega) q), hg] at h2
        exact h2
    · rw [hg, Bool.and_false] at h2
      exact h2
theorem o_count {a : Int32} {σ : pw_Mem} (h : Inv σ) : R_X10_count a σ (fun x τ => R_X11_count a τ (fun y ρ => Nx x y ρ)) := by
  have hI := h
  obtain ⟨n, c, ni, nt, h4⟩ := h
  have h4' := h4
  obtain ⟨⟨r1, r2, r3, r4, r5, r6⟩, hcl, hpt, hit, htk, hsh, hrn, hst, hgr⟩ := h4
  have ne : ∀ {i j : Nat}, i ≤ 5 → j ≤ 5 → ¬ i = j → ¬ nI i = nI j := fun h1 h2 h3 e => h3 (nI_inj (by omega) (by omega) e)
  unfold R_X10_count
  refine ⟨sw6 a, fun e => ?_, fun e => ?_, fun e => ?_, fun e => ?_, fun e => ?_, fun e => ?_, fun e => ?_⟩
  · subst e
    unfold R_X11_count
    exact ⟨sw6 _, fun _ => ⟨by rw [r2, r3], hI⟩, fun q => absurd q (by decide), fun q => absurd q (by decide), fun q => absurd q (by decide), fun q => absurd q (by decide), fun q => absurd q (by decide), fun q => absurd rfl (q 0 (by decide))⟩
  · subst e
    unfold R_X11_count
    exact ⟨sw6 _, fun q => absurd q (by decide), fun _ => ⟨by rw [hcl.2.1, hcl.2.2.1], hI⟩, fun q => absurd q (by decide), fun q => absurd q (by decide), fun q => absurd q (by decide), fun q => absurd q (by decide), fun q => absurd rfl (q 1 (by decide))⟩
  · subst e
    unfold R_X11_count
    exact ⟨sw6 _, fun q => absurd q (by decide), fun q => absurd q (by decide), fun _ => ⟨by rw [hit.2.1, hit.2.2.1], hI⟩, fun q => absurd q (by decide), fun q => absurd q (by decide), fun q => absurd q (by decide), fun q => absurd rfl (q 2 (by decide))⟩
  · subst e
    unfold R_X11_count
    exact ⟨sw6 _, fun q => absurd q (by decide), fun q => absurd q (by decide), fun q => absurd q (by decide), fun _ => ⟨by rw [htk.2.1, htk.2.2.1], hI⟩, fun q => absurd q (by decide), fun q => absurd q (by decide), fun q => absurd rfl (q 3 (by decide))⟩
  · subst e
    refine refr h4' (fun τ t1 h5 t3 => ?_)
    obtain ⟨g1, g2, g3⟩ := h5.gr t3
    have hbd := h5.bd
    have s1 := h5.1.1
    refine ⟨(ldl n (Pp τ) (Tt τ)).length + 1, e_ringsL s1 ldl_len (fun i x h => ll_mem n i x h) g3 ?_ _ 0 (Nat.zero_add _)⟩
    show R_X11_count (nI 4) τ _
    unfold R_X11_count
    refine ⟨sw6 _, fun q => absurd q (by decide), fun q => absurd q (by decide), fun q => absurd q (by decide), fun q => absurd q (by decide), fun _ => ?_, fun q => absurd q (by decide), fun q => absurd rfl (q 4 (by decide))⟩
    refine layn h5 (fun ρ p1 p2 p3 => ⟨n + 1, m_countL p2 p3 ⟨?_, n, c, ni, nt, p2⟩ n 0 (by omega)⟩)
    obtain ⟨eP, eT⟩ := Pp_cg p1
    rw [eP, eT, g2]
    have e1 := kc_ll (p := fun r => bt (gG n (Pp τ) (Tt τ)) r) (n := n) (isLd_d n (Pp τ) (Tt τ)) n
    have e2 : ct (fun r => qs (isLd n (Pp τ) (Tt τ)) n r && bt (gG n (Pp τ) (Tt τ)) r) n = ct (fun r => decide (lst (gT n (Pp τ) (Tt τ) r) 20 0 = r) && bt (gG n (Pp τ) (Tt τ)) r) n := ct_cg n (fun i hi => by rw [led hbd s1 hi])
    exact congrArg nI (e1.trans e2)
  · subst e
    have h0 : Int32.toNatClampNeg 0 = 0 := by decide
    unfold R_X7_isNothing_at41
    rcases hst.1.1 with hz | ⟨len, m, hl, hm, z1, z2, z3, z4⟩
    · refine ⟨fun q => absurd hz.1 q, fun _ => ⟨fun q => absurd q n01, fun _ => ?_⟩⟩
      unfold R_X11_count
      refine ⟨sw6 _, fun q => absurd q (by decide), fun q => absurd q (by decide), fun q => absurd q (by decide), fun q => absurd q (by decide), fun q => absurd q (by decide), fun _ => ⟨vi4_0, ?_⟩, fun q => absurd rfl (q 5 (by decide))⟩
      rw [h0]
      exact ⟨fun q => absurd hz.2 q, fun _ => ⟨rfl, hI⟩⟩
    · refine ⟨fun _ => ⟨fun _ => ?_, fun q => absurd rfl q⟩, fun q => absurd (z1.symm.trans q) (nlm1 hl)⟩
      unfold R_X11_count
      refine ⟨sw6 _, fun q => absurd q (by decide), fun q => absurd q (by decide), fun q => absurd q (by decide), fun q => absurd q (by decide), fun q => absurd q (by decide), fun _ => ⟨vi4_0, ?_⟩, fun q => absurd rfl (q 5 (by decide))⟩
      rw [h0, z4]
      exact ⟨fun _ => ⟨vi4_0, by rw [z1, z2], hI⟩, fun q => absurd q (nm4 (by omega))⟩
  · unfold R_X11_count
    exact ⟨Or.inr e, fun q => absurd q (e 0 (by decide)), fun q => absurd q (e 1 (by decide)), fun q => absurd q (e 2 (by decide)), fun q => absurd q (e 3 (by decide)), fun q => absurd q (e 4 (by decide)), fun q => absurd q (e 5 (by decide)), fun _ => ⟨rfl, hI⟩⟩
