/-! shared and group: the class -/
theorem Inv4.shr {n c ni nt : Nat} {σ ρ : pw_Mem} (h : Inv4 n c ni nt σ) (hs : ∀ k, ¬ (31 ≤ k ∧ k ≤ 36) → ρ k = σ k) (hsh2 : I_sh (ρ 35) (ρ 36)) : Inv4 n c ni nt ρ := by
  have all : ∀ k, ¬ (31 ≤ k ∧ k ≤ 36) → True → ρ k = σ k := fun k h _ => hs k h
  obtain ⟨hrt, hcl, hpt, hit, htk, hsh, hrn, hst, hgr⟩ := h
  unfold Inv4
  simp only [all 1 (by decide) (by decide), all 2 (by decide) (by decide), all 3 (by decide) (by decide), all 49 (by decide) (by decide), all 50 (by decide) (by decide), all 51 (by decide) (by decide), all 8 (by decide) (by decide), all 10 (by decide) (by decide), all 11 (by decide) (by decide), all 12 (by decide) (by decide), all 13 (by decide) (by decide), all 52 (by decide) (by decide), all 53 (by decide) (by decide), all 54 (by decide) (by decide), all 5 (by decide) (by decide), all 6 (by decide) (by decide), all 7 (by decide) (by decide), all 55 (by decide) (by decide), all 56 (by decide) (by decide), all 22 (by decide) (by decide), all 23 (by decide) (by decide), all 24 (by decide) (by decide), all 25 (by decide) (by decide), all 63 (by decide) (by decide), all 64 (by decide) (by decide), all 65 (by decide) (by decide), all 26 (by decide) (by decide), all 27 (by decide) (by decide), all 28 (by decide) (by decide), all 29 (by decide) (by decide), all 30 (by decide) (by decide), all 66 (by decide) (by decide), all 67 (by decide) (by decide), all 68 (by decide) (by decide), all 69 (by decide) (by decide), all 37 (by decide) (by decide), all 38 (by decide) (by decide), all 39 (by decide) (by decide), all 72 (by decide) (by decide), all 73 (by decide) (by decide), all 41 (by decide) (by decide), all 42 (by decide) (by decide), all 43 (by decide) (by decide), all 44 (by decide) (by decide), all 45 (by decide) (by decide), all 46 (by decide) (by decide), all 47 (by decide) (by decide), all 48 (by decide) (by decide), all 74 (by decide) (by decide), all 75 (by decide) (by decide), all 76 (by decide) (by decide), all 14 (by decide) (by decide), all 15 (by decide) (by decide), all 16 (by decide) (by decide), all 17 (by decide) (by decide), all 18 (by decide) (by decide), all 19 (by decide) (by decide)]
  exact ⟨hrt, hcl, hpt, hit, htk, hsh2, hrn, hst, hgr⟩
/-- what the class keeps of the best -/
def bst (N : Nat) (R : Nat → Nat) (o : Option (Nat × List Nat)) (v : Int32) (k : Rows) : Prop := (o = none ∧ v = nI (rsm R N)) ∨ ∃ s l, o = some (s, l) ∧ s < 2 ^ 30 ∧ v = nI s ∧ ∀ u, u < N → k u = nI (ga l u)
def PSt (N : Nat) (R : Nat → Nat) (A : Rows) (pre : List Nat) (o : Option (Nat × List Nat)) (σ : pw_Mem) : Prop := σ 26 4 = nI N ∧ (∀ u, u < N → σ 30 u = A u ∧ σ 32 u = nI (R u)) ∧ (∀ u, u < pre.length → σ 34 u = nI (ga pre u)) ∧ (∀ g, g < 6 → σ 36 g = nI (wd R (ga pre) g pre.length) ∧ σ 35 g = mem (ga pre) g pre.length) ∧ bst N R o (σ 31 5) (σ 33)
theorem e_keepL {K : pw_Mem → Prop} {KX : Int32 → Int32 → pw_Mem → Prop} {l1 : Int32} : ∀ (k i : Nat) (σ : pw_Mem), i + k = 6 → (∀ τ : pw_Mem, (∀ c, ¬ c = 33 → τ c = σ c) → (∀ u, i ≤ u → u < 6 → τ 33 u = σ 34 u) → (∀ u, u < i → τ 33 u = σ 33 u) → KX l1 6 τ) → R_X6_keep_L7 K KX (k + 1) l1 (nI i) σ := by
  intro k
  induction k with
  | zero =>
    intro i σ hi h
    have e : i = 6 := by omega
    subst e
    unfold R_X6_keep_L7
    exact ⟨fun _ => h σ (fun _ _ => rfl) (fun u h1 h2 => by omega) (fun _ _ => rfl), fun z => absurd (show (6 : Int32) ≤ nI 6 by decide) z⟩
  | succ k ih =>
    intro i σ hi h
    have hin : vp_in (nI i) 6 := vp_in_nI (by omega) (by decide)
    unfold R_X6_keep_L7
    refine ⟨fun q => absurd ((nI_leI (a := 6) (by decide) (by omega)).mp q) (by omega), fun _ => ⟨hin, hin, ?_⟩⟩
    rintro _ rfl
    rw [cl_nI (by omega), nI_1]
    refine ih (i + 1) _ (by omega) (fun τ h1 h2 h3 => h τ (fun c hc => by rw [h1 c hc, pw_r hc]) (fun u hu hu2 => ?_) (fun u hu => ?_))
    · by_cases e : u = i
      · subst e
        rw [h3 u (by omega), pw_s, upd_s]
      · rw [h2 u (by omega) hu2, pw_r (by decide)]
    · rw [h3 u (by omega), pw_s, upd_n (by omega)]
theorem e_keep {K : pw_Mem → Prop} {v : Int32} {σ : pw_Mem} (h : ∀ τ : pw_Mem, (∀ c, ¬ c = 31 → ¬ c = 33 → τ c = σ c) → τ 31 5 = v → (∀ u, u < 6 → τ 33 u = σ 34 u) → K τ) : R_X6_keep v σ K := by
  unfold R_X6_keep
  rintro _ rfl
  refine ⟨7, e_keepL 6 0 _ rfl (fun τ h1 h2 _ => h τ (fun c c1 c2 => by rw [h1 c c2, pw_r c1]) (by rw [h1 31 (by decide), pw_s, upd_s]) (fun u hu => by rw [h2 u (Nat.zero_le _) hu, pw_r (by decide)]))⟩
theorem shuf {S w w' S' : Nat} (h : S' + w = S + w') : nI S - nI w + nI w' = nI S' := by
  have e : nI S - nI w + nI w' = nI S + nI w' - nI w := by rw [Int32.sub_eq_add_neg, Int32.sub_eq_add_neg, Int32.add_assoc, Int32.add_comm (-nI w), ← Int32.add_assoc]
  rw [e, nI_add, ← h, ← nI_add, Int32.add_sub_cancel]
section PLC
variable {N : Nat} {R : Nat → Nat} {A : Rows}
theorem stp_no {o : Option (Nat × List Nat)} {l : List Nat} (h : vdB A (ga l) N = true → lss o (sm R (ga l) N 6) = true → False) : stp N R A o l = o := by
  unfold stp
  rw [if_neg (fun z => ?_)]
  rw [Bool.and_eq_true] at z
  exact h z.1 z.2
theorem stp_ok {o : Option (Nat × List Nat)} {l : List Nat} (h1 : vd A (ga l) N) (h2 : lss o (sm R (ga l) N 6) = true) : stp N R A o l = some (sm R (ga l) N 6, l) := by
  unfold stp
  rw [(vdB_t N).mpr h1, h2]
  rfl
theorem sm_s (hR : ∀ u, u < N → R u ≤ 40000000) {a : Nat → Nat} {k : Nat} (hk : k ≤ N) : sm R a k 6 ≤ 240000000 := sm_b (B := 40000000) (fun i hi => hR i (by omega)) 6
theorem rsm_s (hN : N ≤ 6) (hR : ∀ u, u < N → R u ≤ 40000000) : rsm R N ≤ 240000001 := by
  have h := rsm_b (R := R) (B := 40000000) N hR
  omega
theorem e_divL {K : Int32 → pw_Mem → Prop} {KX : Int32 → pw_Mem → Prop} (hN : N ≤ 6) : ∀ (k i : Nat) (σ : pw_Mem), i + k = N → σ 26 4 = nI N → (∀ u, u < N → σ 32 u = nI (R u)) → σ 31 5 = nI (rsm R i) → (∀ τ : pw_Mem, (∀ c, ¬ c = 31 → τ c = σ c) → τ 31 5 = nI (rsm R N) → KX (nI N) τ) → R_X6_divide_L7 K KX (k + 1) (nI i) σ := by
  intro k
  induction k with
  | zero =>
    intro i σ hi h26 h32 h5 h
    have e : i = N := by omega
    subst e
    unfold R_X6_divide_L7
    rw [h26]
    exact ⟨fun _ => h σ (fun _ _ => rfl) h5, fun z => absurd (nI_le (Nat.le_refl _) (by omega)) z⟩
  | succ k ih =>
    intro i σ hi h26 h32 h5 h
    have hin : vp_in (nI i) 6 := vp_in_nI (by omega) (by decide)
    have e9 : rsm R (i + 1) = rsm R i + R i := rfl
    unfold R_X6_divide_L7
    rw [h26]
    refine ⟨fun z => absurd ((nI_leI (by omega) (by omega)).mp z) (by omega), fun _ => ⟨hin, ?_⟩⟩
    intro τ hτ
    rw [cl_nI (by omega), h5, h32 i (by omega), nI_add] at hτ
    rw [nI_1]
    exact ih (i + 1) τ (by omega) (by rw [hτ, pw_r (by decide)]; exact h26) (fun u hu => by rw [hτ, pw_r (by decide)]; exact h32 u hu) (by rw [e9, hτ, pw_s, upd_s]) (fun ρ p1 p2 => h ρ (fun c hc => by rw [p1 c hc, hτ, pw_r hc]) p2)
theorem pst_in {pre : List Nat} {o : Option (Nat × List Nat)} {σ τ : pw_Mem} {g : Nat} (hN : N ≤ 6) (ht : pre.length < N) (hP : PSt N R A pre o σ) (hg : g < 6) (hτ : ∀ k, ¬ (34 ≤ k ∧ k ≤ 36) → τ k = σ k) (h36 : τ 36 = upd (σ 36) g (nI (wd R (ga (pre ++ [g])) g (pre.length + 1)))) (h35 : τ 35 = upd (σ 35) g (mem (ga (pre ++ [g])) g (pre.length + 1))) (h34 : τ 34 = upd (σ 34) pre.length (nI g)) : PSt N R A (pre ++ [g]) o τ := by
  obtain ⟨p1, p2, p3, p4, p5⟩ := hP
  have el : (pre ++ [g]).length = pre.length + 1 := by rw [List.length_append, List.length_singleton]
  unfold PSt
  rw [el]
  refine ⟨by rw [hτ 26 (by decide)]; exact p1, fun u hu => by rw [hτ 30 (by decide), hτ 32 (by decide)]; exact p2 u hu, fun u hu => ?_, fun q hq => ?_, by rw [hτ 31 (by decide), hτ 33 (by decide)]; exact p5⟩
  · rw [h34]
    by_cases e : u = pre.length
    · subst e; rw [upd_s, ga_eq]
    · rw [upd_n e, ga_lt (by omega)]; exact p3 u (by omega)
  · rw [h36, h35]
    by_cases e : q = g
    · subst e; rw [upd_s, upd_s]; exact ⟨rfl, rfl⟩
    · rw [upd_n e, upd_n e, wd_o (by rw [ga_eq]; exact fun z => e z.symm), wd_cg pre.length (b := ga pre) (fun i hi => ga_lt hi)]
      have em : mem (ga (pre ++ [g])) q (pre.length + 1) = mem (ga pre) q pre.length := by
        have e1 : mem (ga (pre ++ [g])) q (pre.length + 1) = if ga (pre ++ [g]) pre.length = q then mem (ga (pre ++ [g])) q pre.length ||| one pre.length else mem (ga (pre ++ [g])) q pre.length := rfl
        rw [e1, if_neg (by rw [ga_eq]; exact fun z => e z.symm), mem_cg pre.length (fun i hi => ga_lt hi)]
      rw [em]
      exact p4 q hq
theorem pst_out {pre : List Nat} {o : Option (Nat × List Nat)} {σ τ : pw_Mem} {g : Nat} (hN : N ≤ 6) (ht : pre.length < N) (hP : PSt N R A (pre ++ [g]) o σ) (hg : g < 6) (hτ : ∀ k, ¬ (35 ≤ k ∧ k ≤ 36) → τ k = σ k) (h36 : τ 36 = upd (σ 36) g (nI (wd R (ga pre) g pre.length))) (h35 : τ 35 = upd (σ 35) g (σ 35 g &&& (one pre.length ^^^ (-1)))) : PSt N R A pre o τ := by
  have el : (pre ++ [g]).length = pre.length + 1 := by rw [List.length_append, List.length_singleton]
  unfold PSt at hP
  rw [el] at hP
  obtain ⟨p1, p2, p3, p4, p5⟩ := hP
  refine ⟨by rw [hτ 26 (by decide)]; exact p1, fun u hu => by rw [hτ 30 (by decide), hτ 32 (by decide)]; exact p2 u hu, fun u hu => ?_, fun q hq => ?_, by rw [hτ 31 (by decide), hτ 33 (by decide)]; exact p5⟩
  · rw [hτ 34 (by decide), p3 u (by omega), ga_lt hu]
  · rw [h36, h35]
    by_cases e : q = g
    · subst e
      rw [upd_s, upd_s]
      refine ⟨rfl, ?_⟩
      rw [(p4 q hq).2]
      refine b_ext (fun i hi => ?_)
      have h1 := bt_clr (x := mem (ga (pre ++ [q])) q (pre.length + 1)) (i := i) (j := pre.length) hi (by omega)
      have h2 : bt (mem (ga (pre ++ [q])) q (pre.length + 1) &&& (one pre.length ^^^ (-1))) i = true ↔ bt (mem (ga pre) q pre.length) i = true := by
        rw [h1, mem_bt _ (by omega), mem_bt _ (by omega)]
        constructor
        · rintro ⟨⟨a1, a2⟩, a3⟩
          have : i < pre.length := by omega
          rw [ga_lt this] at a2
          exact ⟨this, a2⟩
        · rintro ⟨a1, a2⟩
          exact ⟨⟨by omega, by rw [ga_lt a1]; exact a2⟩, by omega⟩
      cases e1 : bt (mem (ga pre) q pre.length) i with
      | true => exact h2.mpr e1
      | false =>
        cases e2 : bt (mem (ga (pre ++ [q])) q (pre.length + 1) &&& (one pre.length ^^^ (-1))) i with
        | true => rw [h2.mp e2] at e1; cases e1
        | false => rfl
    · rw [upd_n e, upd_n e]
      obtain ⟨q1, q2⟩ := p4 q hq
      rw [wd_o (by rw [ga_eq]; exact fun z => e z.symm), wd_cg pre.length (b := ga pre) (fun i hi => ga_lt hi)] at q1
      have em : mem (ga (pre ++ [g])) q (pre.length + 1) = mem (ga pre) q pre.length := by
        have e1 : mem (ga (pre ++ [g])) q (pre.length + 1) = if ga (pre ++ [g]) pre.length = q then mem (ga (pre ++ [g])) q pre.length ||| one pre.length else mem (ga (pre ++ [g])) q pre.length := rfl
        rw [e1, if_neg (by rw [ga_eq]; exact fun z => e z.symm), mem_cg pre.length (fun i hi => ga_lt hi)]
      rw [em] at q2
      exact ⟨q1, q2⟩
theorem e_place (hN : N ≤ 6) (hR : ∀ u, u < N → R u ≤ 40000000) : ∀ (k : Nat) (pre : List Nat) (G : Nat) (o : Option (Nat × List Nat)) (σ : pw_Mem) (D : Nat) (K : pw_Mem → Prop) (a2 a3 a4 : Int32), a2 = nI pre.length → a3 = nI G → a4 = nI (sm R (ga pre) pre.length 6) → pre.length + k = N → G ≤ pre.length → k < D → (∀ u, u < pre.length → ga pre u < 6) → vd A (ga pre) pre.length → PSt N R A pre o σ → (∀ τ : pw_Mem, (∀ k, ¬ (31 ≤ k ∧ k ≤ 36) → τ k = σ k) → PSt N R A pre ((enL k G pre).foldl (stp N R A) o) τ → K τ) → R_X6_place_D D a2 a3 a4 σ K := by
  intro k
  induction k with
  | zero =>
    rintro pre G o σ D K a2 a3 a4 rfl rfl rfl hl hG hD hga hv hP hK
    obtain ⟨D, rfl⟩ : ∃ D', D = D' + 1 := ⟨D - 1, by omega⟩
    show R_X6_place (R_X6_place_D D) _ _ _ σ K
    have hl2 : pre.length = N := by omega
    have hS := sm_s (a := ga pre) hR (k := pre.length) (by omega)
    have hB := rsm_s hN hR
    have e : enL 0 G pre = [pre] := rfl
    rw [e, List.foldl_cons, List.foldl_nil] at hK
    have hP0 := hP
    obtain ⟨p1, p2, p3, p4, p5⟩ := hP
    unfold R_X6_place
    refine ⟨fun z => ⟨fun y => ?_, fun _ => ?_⟩, fun z => ?_⟩
    · rw [p1, hl2] at y
      exact absurd ((nI_ltI (by omega) (by omega)).mp y) (by omega)
    · have hless : lss o (sm R (ga pre) N 6) = true := by
        rcases p5 with ⟨e1, _⟩ | ⟨s, l, e1, e2, e3, _⟩
        · rw [e1]; rfl
        · rw [e3] at z
          have := (nI_ltI (by omega) (by omega)).mp z
          rw [hl2] at this
          rw [e1]
          exact decide_eq_true this
      rw [hl2] at hv
      rw [stp_ok hv hless] at hK
      refine e_keep (fun τ t1 t2 t3 => hK τ (fun k hk => t1 k (by omega) (by omega)) ⟨by rw [t1 26 (by decide) (by decide)]; exact p1, fun u hu => by rw [t1 30 (by decide) (by decide), t1 32 (by decide) (by decide)]; exact p2 u hu, fun u hu => by rw [t1 34 (by decide) (by decide)]; exact p3 u hu, fun g hg => by rw [t1 36 (by decide) (by decide), t1 35 (by decide) (by decide)]; exact p4 g hg, Or.inr ⟨_, _, rfl, ?_, ?_, fun u hu => ?_⟩⟩)
      · rw [hl2] at hS; omega
      · rw [t2, hl2]
      · rw [t3 u (by omega), p3 u (by omega)]
    · refine hK σ (fun _ _ => rfl) ?_
      rw [stp_no (fun _ h => ?_)]
      · exact hP0
      · rcases p5 with ⟨e1, e2⟩ | ⟨s, l, e1, e2, e3, _⟩
        · rw [e2] at z
          have h9 := sm_t (R := R) (a := ga pre) (g := 6) N
          exact z (nI_lt (by rw [hl2]; exact h9) (by omega))
        · rw [e1] at h
          have h2 := of_decide_eq_true h
          rw [e3] at z
          rw [← hl2] at h2
          exact z (nI_lt h2 (by omega))
  | succ k ih =>
    rintro pre G o σ D K a2 a3 a4 rfl rfl rfl hl hG hD hga hv hP hK
    obtain ⟨D, rfl⟩ : ∃ D', D = D' + 1 := ⟨D - 1, by omega⟩
    show R_X6_place (R_X6_place_D D) _ _ _ σ K
    have hS := sm_s (a := ga pre) hR (k := pre.length) (by omega)
    have ht : pre.length < N := by omega
    have hN6 : pre.length < 6 := by omega
    have hlt : vp_in (nI pre.length) 6 := vp_in_nI (by omega) (by decide)
    unfold R_X6_place
    refine ⟨fun z => ⟨fun _ => ?_, fun y => ?_⟩, fun z => ?_⟩
    · have loop : ∀ (c g : Nat) (o : Option (Nat × List Nat)) (σ' : pw_Mem), g + c = G + 1 → (∀ k, ¬ (31 ≤ k ∧ k ≤ 36) → σ' k = σ k) → PSt N R A pre o σ' → (∀ τ : pw_Mem, (∀ k, ¬ (31 ≤ k ∧ k ≤ 36) → τ k = σ k) → PSt N R A pre ((enF (fun g => enL k (if G ≤ g then g + 1 else G) (pre ++ [g])) c g).foldl (stp N R A) o) τ → K τ) → R_X6_place_L28 (R_X6_place_D D) K (fun y7 y8 y9 y10 τ11 => K τ11) (c + 1) (nI pre.length) (nI G) (nI (sm R (ga pre) pre.length 6)) (nI g) σ' := by
        intro c
        induction c with
        | zero =>
          intro g o σ' hg hs hP hK
          unfold R_X6_place_L28
          exact ⟨fun _ => hK σ' hs hP, fun z => absurd (nI_lt (show G < g by omega) (by omega)) z⟩
        | succ c ihc =>
          intro g o σ' hg hs hP hK
          have eF : enF (fun g => enL k (if G ≤ g then g + 1 else G) (pre ++ [g])) (c + 1) g = enL k (if G ≤ g then g + 1 else G) (pre ++ [g]) ++ enF (fun g => enL k (if G ≤ g then g + 1 else G) (pre ++ [g])) c (g + 1) := rfl
          rw [eF, List.foldl_append] at hK
          have hg6 : g < 6 := by omega
          have hgi : vp_in (nI g) 6 := vp_in_nI hg6 (by decide)
          have hP0 := hP
          obtain ⟨p1, p2, p3, p4, p5⟩ := hP
          unfold R_X6_place_L28
          rw [cl_nI (show g < 2 ^ 31 by omega), cl_nI (show pre.length < 2 ^ 31 by omega), (p4 g hg6).2, (p4 g hg6).1, (p2 _ ht).1, (p2 _ ht).2]
          refine ⟨fun z => absurd ((nI_ltI (by omega) (by omega)).mp z) (by omega), fun _ => ⟨fun z => absurd ((nI_leI (a := 6) (by decide) (by omega)).mp z) (by omega), fun _ => ⟨hgi, hlt, fun z => ?_, fun z => ⟨hgi, hlt, hgi, ?_⟩⟩⟩⟩
          · rw [nI_1]
            refine ihc (g + 1) o σ' (by omega) hs hP0 (fun τ t1 t2 => hK τ t1 ?_)
            rw [fold_id (o := o) (enL k (if G ≤ g then g + 1 else G) (pre ++ [g])) (fun l hl2 => ?_)]
            · exact t2
            · obtain ⟨l1, l2⟩ := enL_pre _ _ _ _ hl2
              rw [List.length_append, List.length_singleton] at l1 l2
              refine stp_no (fun hv2 _ => z ((mem_ok (by omega)).mpr (fun u hu hgu => ?_)))
              have hv3 := (vdB_t N).mp hv2 pre.length u (by omega) hu
              rw [l2 u (by omega), l2 pre.length (by omega), ga_lt hu, ga_eq] at hv3
              exact hv3 hgu
          · have hok := (mem_ok (show pre.length ≤ 32 by omega)).mp z
            have ew : wd R (ga (pre ++ [g])) g (pre.length + 1) = if wd R (ga pre) g pre.length ≤ R pre.length then R pre.length else wd R (ga pre) g pre.length := by
              have e1 : wd R (ga (pre ++ [g])) g (pre.length + 1) = if ga (pre ++ [g]) pre.length = g then (if wd R (ga (pre ++ [g])) g pre.length ≤ R pre.length then R pre.length else wd R (ga (pre ++ [g])) g pre.length) else wd R (ga (pre ++ [g])) g pre.length := rfl
              rw [e1, if_pos ga_eq, wd_cg pre.length (b := ga pre) (fun i hi => ga_lt hi)]
            have em : mem (ga (pre ++ [g])) g (pre.length + 1) = mem (ga pre) g pre.length ||| one pre.length := by
              have e1 : mem (ga (pre ++ [g])) g (pre.length + 1) = if ga (pre ++ [g]) pre.length = g then mem (ga (pre ++ [g])) g pre.length ||| one pre.length else mem (ga (pre ++ [g])) g pre.length := rfl
              rw [e1, if_pos ga_eq, mem_cg pre.length (fun i hi => ga_lt hi)]
            have hw1 : wd R (ga pre) g pre.length ≤ 40000000 := wd_le (fun i hi => hR i (by omega))
            have hw2 := hR _ ht
            have eif : (if nI (wd R (ga pre) g pre.length) < nI (R pre.length) then nI (R pre.length) else nI (wd R (ga pre) g pre.length)) = nI (wd R (ga (pre ++ [g])) g (pre.length + 1)) := by
              rw [ew]
              by_cases q : wd R (ga pre) g pre.length < R pre.length
              · rw [if_pos (nI_lt q (by omega)), if_pos (by omega)]
              · rw [if_neg (fun y => q ((nI_ltI (by omega) (by omega)).mp y))]
                by_cases q2 : wd R (ga pre) g pre.length ≤ R pre.length
                · rw [if_pos q2]; congr 1; omega
                · rw [if_neg q2]
            rw [eif]
            intro τ1 hτ1
            refine ⟨hgi, hgi, ?_⟩
            intro τ2 hτ2
            refine ⟨hlt, ?_⟩
            intro τ3 hτ3
            have t36 : τ3 36 = upd (σ' 36) g (nI (wd R (ga (pre ++ [g])) g (pre.length + 1))) := by rw [hτ3, pw_r (by decide), hτ2, pw_r (by decide), hτ1, pw_s]
            have t35 : τ3 35 = upd (σ' 35) g (mem (ga (pre ++ [g])) g (pre.length + 1)) := by
              rw [hτ3, pw_r (by decide), hτ2, pw_s, hτ1, pw_r (by decide), (p4 g hg6).2, em]; rfl
            have t34 : τ3 34 = upd (σ' 34) pre.length (nI g) := by rw [hτ3, pw_s, hτ2, pw_r (by decide), hτ1, pw_r (by decide)]
            have tr : ∀ k, ¬ (34 ≤ k ∧ k ≤ 36) → τ3 k = σ' k := fun k hk => by rw [hτ3, pw_r (by omega), hτ2, pw_r (by omega), hτ1, pw_r (by omega)]
            have hP3 := pst_in hN ht hP0 hg6 tr t36 t35 t34
            have el : (pre ++ [g]).length = pre.length + 1 := by rw [List.length_append, List.length_singleton]
            refine ⟨hgi, ih (pre ++ [g]) (if G ≤ g then g + 1 else G) o τ3 D _ _ _ _ (by rw [el, nI_1]) ?_ ?_ (by rw [el]; omega) ?_ (by omega) (fun u hu => ?_) (fun t u ht2 hu hgu => ?_) hP3 (fun τ4 q1 q2 => ?_)⟩
            · rw [nI_1]
              by_cases q : G ≤ g
              · rw [if_pos q, if_pos (nI_lt (by omega) (by omega))]
              · rw [if_neg q, if_neg (fun y => by have := (nI_ltI (by omega) (by omega)).mp y; omega)]
            · rw [t36, upd_s, el]
              have hstep := sm_step (R := R) (a := ga (pre ++ [g])) (k := pre.length) 6 (by rw [ga_eq]; exact hg6)
              rw [ga_eq, wd_cg pre.length (b := ga pre) (fun i hi => ga_lt hi), sm_cg (b := ga pre) (fun i hi => ga_lt hi) 6] at hstep
              exact shuf hstep
            · rw [el]
              by_cases q : G ≤ g
              · rw [if_pos q]; omega
              · rw [if_neg q]; omega
            · rw [el] at hu
              by_cases e : u = pre.length
              · subst e; rw [ga_eq]; exact hg6
              · rw [ga_lt (by omega)]; exact hga u (by omega)
            · rw [el] at ht2
              by_cases e : t = pre.length
              · subst e
                rw [ga_lt hu, ga_eq] at hgu
                exact hok u hu hgu
              · rw [ga_lt (by omega), ga_lt (by omega)] at hgu
                exact hv t u (by omega) hu hgu
            · refine ⟨hgi, hgi, ?_⟩
              intro τ5 hτ5
              refine ⟨hgi, ?_⟩
              intro τ6 hτ6
              rw [nI_1]
              refine ihc (g + 1) _ τ6 (by omega) (fun k hk => ?_) (pst_out hN ht q2 hg6 (fun k hk => ?_) ?_ ?_) (fun τ r1 r2 => hK τ r1 r2)
              · rw [hτ6, pw_r (by omega), hτ5, pw_r (by omega), q1 k hk, tr k (by omega), hs k hk]
              · rw [hτ6, pw_r (by omega), hτ5, pw_r (by omega)]
              · rw [hτ6, pw_s, hτ5, pw_r (by decide)]
              · rw [hτ6, pw_r (by decide), hτ5, pw_s]; rfl
      refine ⟨G + 1 + 1, ?_⟩
      have hloop := loop (G + 1) 0 o σ (by omega) (fun _ _ => rfl) hP hK
      rw [nI_0] at hloop
      exact hloop
    · rw [hP.1] at y
      exact absurd (nI_lt ht (by omega)) y
    · refine hK σ (fun _ _ => rfl) ?_
      rw [fold_id]
      · exact hP
      · intro l hl2
        obtain ⟨l1, l2⟩ := enL_pre _ _ _ _ hl2
        refine stp_no (fun _ h => ?_)
        have hm := sm_mono (R := R) (a := ga l) (k := pre.length) (g := 6) (k + 1)
        rw [sm_cg (a := ga l) (b := ga pre) l2 6, show pre.length + (k + 1) = N from hl] at hm
        have hS2 := sm_s (a := ga l) hR (k := N) (Nat.le_refl _)
        rcases hP.2.2.2.2 with ⟨e1, e2⟩ | ⟨s, l', e1, e2, e3, _⟩
        · rw [e2] at z
          have h9 := sm_t (R := R) (a := ga l) (g := 6) N
          have hB := rsm_s hN hR
          exact z (nI_lt (by omega) (by omega))
        · rw [e1] at h
          have h2 := of_decide_eq_true h
          have h2 : sm R (ga l) N 6 < s := h2
          rw [e3] at z
          exact z (nI_lt (by omega) (by omega))
end PLC
