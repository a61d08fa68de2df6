/-! depth, ran -/
section FT
variable {n : Nat} {P T G fr fr' t t' f : Rows}
theorem drg_ft (hf : ∀ j, j < n → fr' j = fr j) (ht : ∀ j, j < n → t' j = t j) {s : Int32} : ∀ k, k ≤ n → drg n P T fr' t' f s k = drg n P T fr t f s k := by
  intro k
  induction k with
  | zero => intro _; rfl
  | succ k ih =>
    intro hk
    have e1 : drg n P T fr' t' f s (k + 1) = (match drg n P T fr' t' f s k with
      | none => none
      | some q => if bt s k then (if t' k = 0 then none else some (q.1 + fr' k * t' k, gre q.2 (gto f ((P k ||| T k) &&& (s ^^^ (-1))) n))) else some q) := rfl
    have e2 : drg n P T fr t f s (k + 1) = (match drg n P T fr t f s k with
      | none => none
      | some q => if bt s k then (if t k = 0 then none else some (q.1 + fr k * t k, gre q.2 (gto f ((P k ||| T k) &&& (s ^^^ (-1))) n))) else some q) := rfl
    rw [e1, e2, ih (by omega), hf k (by omega), ht k (by omega)]
theorem rhs_ft (hf : ∀ j, j < n → fr' j = fr j) (ht : ∀ j, j < n → t' j = t j) (r : Nat) : rhs n P T fr' t' f r = rhs n P T fr t f r := by
  unfold rhs dRg
  rw [drg_ft hf ht n (Nat.le_refl _), dTl_gto, dTl_gto]
  congr 1
  exact gto_cg n (fun j hj _ => by unfold dIt; rw [hf j hj])
theorem DE_ft (hf : ∀ j, j < n → fr' j = fr j) (ht : ∀ j, j < n → t' j = t j) (h : DE n P T fr' t' f) : DE n P T fr t f := fun r hr => by
  rw [← rhs_ft hf ht r]; exact h r hr
end FT
/-- f are the depths, with u unframed -/
def isD (n : Nat) (u : Int32) (σ : pw_Mem) (f : Rows) : Prop := DE n (Pp σ) (Tt σ) (fro u (σ 2)) (σ 3) f
theorem isD.cg {n : Nat} {u : Int32} {σ ρ : pw_Mem} {f : Rows} (h : isD n u σ f) (h2 : ρ 2 = σ 2) (h3 : ρ 3 = σ 3) (h7 : ρ 7 = σ 7) (h10 : ρ 10 = σ 10) (h11 : ρ 11 = σ 11) (h12 : ρ 12 = σ 12) (h13 : ρ 13 = σ 13) : isD n u ρ f := by
  unfold isD Pp Tt; rw [h2, h3, h7, h10, h11, h12, h13]; exact h
theorem fro_m1 {F : Rows} {j : Nat} (hj : j < 2 ^ 31) : fro (-1) F j = F j := by
  unfold fro; rw [if_neg (fun e => nI_pos hj (by rw [e]; decide))]
theorem fro_one {F : Rows} {j r : Nat} (hj : j < 2 ^ 31) (hr : r < 2 ^ 31) : fro (nI r) F j = upd F r 0 j := by
  unfold fro
  by_cases e : j = r
  · subst e; rw [if_pos rfl, upd_s]
  · rw [if_neg (fun q => e (nI_inj hj hr q)), upd_n e]
section ISD
variable {n c ni nt : Nat} {σ : pw_Mem} {f g : Rows}
theorem isD.eq (h4 : Inv4 n c ni nt σ) {u : Int32} (hf : isD n u σ f) (hg : isD n u σ g) {r : Nat} (hr : r < n) : f r = g r := DE_one h4.bd h4.1.1 hf hg _ r hr (Nat.le_refl _)
theorem fro_le (h4 : Inv4 n c ni nt σ) (u : Int32) : ∀ j, j < n → ∃ a b, a ≤ b ∧ b ≤ 500 ∧ fro u (σ 2) j = nI a ∧ fro (-1) (σ 2) j = nI b := fun j hj => by
  have hn := h4.1.1
  obtain ⟨⟨b, b1, b2⟩, _⟩ := h4.1.2.2.2.1 j hj
  rw [fro_m1 (by omega), b2]
  unfold fro
  by_cases e : nI j = u
  · rw [if_pos e]; exact ⟨0, b, by omega, by omega, nI_0.symm, rfl⟩
  · rw [if_neg e, b2]; exact ⟨b, b, by omega, by omega, rfl, rfl⟩
theorem trn_le (h4 : Inv4 n c ni nt σ) : ∀ j, j < n → ∃ m, m ≤ 20 ∧ σ 3 j = nI m := fun j hj => by
  obtain ⟨⟨b, b1, b2⟩, _⟩ := h4.1.2.2.2.2.1 j hj
  exact ⟨b, by omega, b2⟩
theorem isD.le (h4 : Inv4 n c ni nt σ) {u : Int32} (hf : isD n u σ f) (hg : isD n (-1) σ g) {r : Nat} (hr : r < n) : GL 4200000 (f r) (g r) := DE_le h4.bd h4.1.1 (fro_le h4 u) (trn_le h4) hf hg hr
theorem GL.self {B : Nat} {a b : Int32} (h : GL B a b) : GL B a a := by
  rcases h with ⟨h, _⟩ | ⟨i, j, h1, h2, h3, _⟩
  · exact Or.inl ⟨h, h⟩
  · exact Or.inr ⟨i, i, Nat.le_refl _, by omega, h3, h3⟩
theorem isD.gl (h4 : Inv4 n c ni nt σ) (hf : isD n (-1) σ f) {r : Nat} (hr : r < n) : GL 4200000 (f r) (f r) := isD.le h4 hf hf hr
/-- the reference's depths -/
theorem layd0 {K : pw_Mem → Prop} (h4 : Inv4 n c ni nt σ) (hX : ∀ ρ : pw_Mem, (∀ k, ¬ (57 ≤ k ∧ k ≤ 62) → ρ k = σ k) → Inv4 n c ni nt ρ → Net n ρ → isD n (-1) ρ (ρ 62) → K ρ) : R_X11_layDepths σ K :=
  layd h4 (fun ρ t1 t2 t3 t4 => hX ρ t1 t2 t3 (DE_ft (fun j hj => by have := t2.1.1; rw [fro_m1 (by omega)]; exact (t2.1.2.2.2.1 j hj).2) (fun j hj => (t2.1.2.2.2.2.1 j hj).2) t4))
/-- the class's -/
theorem measd {K : pw_Mem → Prop} {u : Int32} (h4 : Inv4 n c ni nt σ) (hX : ∀ τ : pw_Mem, (∀ k, ¬ (14 ≤ k ∧ k ≤ 21) → τ k = σ k) → Inv4 n c ni nt τ → τ 14 3 = 0 → τ 20 2 = u → isD n u τ (τ 21) → K τ) : R_X1_measure u σ K := e_measure h4 hX
theorem isD.off {ρ : pw_Mem} {u : Int32} (h : ∀ k, ¬ (57 ≤ k ∧ k ≤ 62) → ρ k = σ k) (hf : isD n u σ f) : isD n u ρ f := hf.cg (h 2 (by decide)) (h 3 (by decide)) (h 7 (by decide)) (h 10 (by decide)) (h 11 (by decide)) (h 12 (by decide)) (h 13 (by decide))
theorem isD.off2 {ρ : pw_Mem} {u : Int32} (h : ∀ k, ¬ (14 ≤ k ∧ k ≤ 21) → ρ k = σ k) (hf : isD n u σ f) : isD n u ρ f := hf.cg (h 2 (by decide)) (h 3 (by decide)) (h 7 (by decide)) (h 10 (by decide)) (h 11 (by decide)) (h 12 (by decide)) (h 13 (by decide))
end ISD
theorem o_depth {a : Int32} {σ : pw_Mem} (h : Inv σ) : R_X10_depth a σ (fun x τ => R_X11_depth a τ (fun y ρ => Nx x y ρ)) := by
  have hI := h
  obtain ⟨n, c, ni, nt, h4⟩ := h
  obtain ⟨r1, r2, r3, r4, r5, r6⟩ := h4.1
  unfold R_X10_depth
  refine e_isR r2 r1 (fun hv => ⟨fun _ => ?_, fun q => absurd q n01⟩) (fun hv => ⟨fun q => absurd rfl q, fun _ => ?_⟩)
  · have hv0 := hv
    obtain ⟨r, hr, rfl⟩ := hv
    have hin : vp_in (nI r) 20 := vp_in_nI (by omega) (by decide)
    refine measd h4 (fun τ t1 h5 _ _ hd => ⟨hin, ?_⟩)
    unfold R_X11_depth
    refine e_isM h5.1.2.2.1 r1 (fun _ => ⟨fun _ => ?_, fun q => absurd q n01⟩) (fun h9 => absurd hv0 h9)
    refine layd0 h5 (fun ρ p1 p2 p3 p4 => ⟨hin, ?_, n, c, ni, nt, p2⟩)
    rw [cl_nI (by omega)]
    exact (hd.off p1).eq p2 p4 hr
  · unfold R_X11_depth
    exact e_isM r3 r1 (fun h9 => absurd h9 hv) (fun _ => ⟨fun q => absurd rfl q, fun _ => ⟨rfl, hI⟩⟩)
theorem o_ran {a : Int32} {σ : pw_Mem} (h : Inv σ) : R_X10_ran a σ (fun x τ => R_X11_ran a τ (fun y ρ => Nx x y ρ)) := by
  have hI := h
  obtain ⟨n, c, ni, nt, h4⟩ := h
  have hn := h4.1.1
  unfold R_X10_ran
  refine e_rg 6 rfl (by decide) (fun hv => ⟨fun _ => ?_, fun q => absurd q n01⟩) (fun hv => ⟨fun q => absurd rfl q, fun _ => ?_⟩)
  · obtain ⟨g, g1, g2, g3, g4, g5, g6, g7, g8, g9⟩ := h4.2.2.2.2.2.2.1
    refine ⟨fun q => ?_, fun q => ?_⟩
    · obtain ⟨w1, w2, w3⟩ : ok (σ 37 7) n ∧ σ 49 27 = 1 ∧ σ 49 31 = σ 37 7 := g9.resolve_left (fun z => q z.1)
      have md : ∀ (τ : pw_Mem) (x : Int32), (∀ k, ¬ (14 ≤ k ∧ k ≤ 21) → τ k = σ k) → Inv4 n c ni nt τ → (∀ ρ : pw_Mem, (∀ k, ¬ (57 ≤ k ∧ k ≤ 62) → ρ k = τ k) → Inv4 n c ni nt ρ → isD n (-1) ρ (ρ 62) → ((a = nI 0 → Nx x (ρ 49 32) ρ) ∧ (a = nI 1 → Nx x (ρ 49 33) ρ) ∧ (a = nI 2 → Nx x (ρ 49 28) ρ) ∧ (a = nI 3 → Nx x (ρ 49 34) ρ) ∧ (a = nI 4 → Nx x (ρ 49 35) ρ) ∧ (a = nI 5 → ((¬ (ρ 49 28) = 0 → vp_in ((ρ 49 28) - 1) 40 ∧ Nx x (ρ 72 (Int32.toNatClampNeg ((ρ 49 28) - 1))) ρ) ∧ ((ρ 49 28) = 0 → Nx x (-4) ρ))) ∧ ((∀ c : Nat, c ≤ 5 → ¬ a = nI c) → (((ρ 62 (Int32.toNatClampNeg (ρ 49 31))) = (-5) → Nx x 1 ρ) ∧ (¬ (ρ 62 (Int32.toNatClampNeg (ρ 49 31))) = (-5) → (((ρ 62 (Int32.toNatClampNeg (ρ 49 31))) < (ρ 49 33) → Nx x 0 ρ) ∧ (¬ (ρ 62 (Int32.toNatClampNeg (ρ 49 31))) < (ρ 49 33) → Nx x 1 ρ))))))) → R_X11_ran a τ (fun y ρ => Nx x y ρ) := by
        intro τ x t1 h5 hK
        unfold R_X11_ran
        refine e_rgM 6 rfl (by decide) (fun _ => ⟨fun _ => ⟨fun _ => ?_, fun z => ?_⟩, fun q => absurd q n01⟩) (fun h9 => absurd hv h9)
        · refine layd0 h5 (fun ρ p1 p2 p3 p4 => ⟨?_, sw6 a, hK ρ p1 p2 p4⟩)
          rw [p1 49 (by decide), t1 49 (by decide), w3]
          exact ok_in w1 hn (by decide)
        · rw [t1 49 (by decide), w2] at z
          exact absurd z n01
      have no : ∀ (v w : Nat), v ≤ 5 → w ≤ 5 → ¬ w = v → a = nI v → ¬ a = nI w := fun v w hv hw hne e e2 => hne (nI_inj (by omega) (by omega) (e2.symm.trans e))
      refine ⟨sw6 a, fun e => ?_, fun e => ?_, fun e => ?_, fun e => ?_, fun e => ?_, fun e => ?_, fun e => ?_⟩
      · refine md σ _ (fun _ _ => rfl) h4 (fun ρ p1 p2 p3 => ⟨fun _ => ⟨?_, n, c, ni, nt, p2⟩, fun z => absurd z (no 0 1 (by decide) (by decide) (by decide) e), fun z => absurd z (no 0 2 (by decide) (by decide) (by decide) e), fun z => absurd z (no 0 3 (by decide) (by decide) (by decide) e), fun z => absurd z (no 0 4 (by decide) (by decide) (by decide) e), fun z => absurd z (no 0 5 (by decide) (by decide) (by decide) e), fun z => absurd e (z 0 (by decide))⟩)
        rw [p1 49 (by decide), g5]
      · refine md σ _ (fun _ _ => rfl) h4 (fun ρ p1 p2 p3 => ⟨fun z => absurd z (no 1 0 (by decide) (by decide) (by decide) e), fun _ => ⟨?_, n, c, ni, nt, p2⟩, fun z => absurd z (no 1 2 (by decide) (by decide) (by decide) e), fun z => absurd z (no 1 3 (by decide) (by decide) (by decide) e), fun z => absurd z (no 1 4 (by decide) (by decide) (by decide) e), fun z => absurd z (no 1 5 (by decide) (by decide) (by decide) e), fun z => absurd e (z 1 (by decide))⟩)
        rw [p1 49 (by decide), g6]
      · refine md σ _ (fun _ _ => rfl) h4 (fun ρ p1 p2 p3 => ⟨fun z => absurd z (no 2 0 (by decide) (by decide) (by decide) e), fun z => absurd z (no 2 1 (by decide) (by decide) (by decide) e), fun _ => ⟨?_, n, c, ni, nt, p2⟩, fun z => absurd z (no 2 3 (by decide) (by decide) (by decide) e), fun z => absurd z (no 2 4 (by decide) (by decide) (by decide) e), fun z => absurd z (no 2 5 (by decide) (by decide) (by decide) e), fun z => absurd e (z 2 (by decide))⟩)
        rw [p1 49 (by decide), g3, g2]
      · refine md σ _ (fun _ _ => rfl) h4 (fun ρ p1 p2 p3 => ⟨fun z => absurd z (no 3 0 (by decide) (by decide) (by decide) e), fun z => absurd z (no 3 1 (by decide) (by decide) (by decide) e), fun z => absurd z (no 3 2 (by decide) (by decide) (by decide) e), fun _ => ⟨?_, n, c, ni, nt, p2⟩, fun z => absurd z (no 3 4 (by decide) (by decide) (by decide) e), fun z => absurd z (no 3 5 (by decide) (by decide) (by decide) e), fun z => absurd e (z 3 (by decide))⟩)
        rw [p1 49 (by decide), g7]
      · refine md σ _ (fun _ _ => rfl) h4 (fun ρ p1 p2 p3 => ⟨fun z => absurd z (no 4 0 (by decide) (by decide) (by decide) e), fun z => absurd z (no 4 1 (by decide) (by decide) (by decide) e), fun z => absurd z (no 4 2 (by decide) (by decide) (by decide) e), fun z => absurd z (no 4 3 (by decide) (by decide) (by decide) e), fun _ => ⟨?_, n, c, ni, nt, p2⟩, fun z => absurd z (no 4 5 (by decide) (by decide) (by decide) e), fun z => absurd e (z 4 (by decide))⟩)
        rw [p1 49 (by decide), g8]
      · have go : ∀ x : Int32, ((¬ σ 49 28 = 0 → vp_in (σ 49 28 - 1) 40 ∧ x = σ 72 (Int32.toNatClampNeg (σ 49 28 - 1))) ∧ (σ 49 28 = 0 → x = -4)) → R_X11_ran a σ (fun y ρ => Nx x y ρ) := fun x hx => by
          refine md σ _ (fun _ _ => rfl) h4 (fun ρ p1 p2 p3 => ⟨fun z => absurd z (no 5 0 (by decide) (by decide) (by decide) e), fun z => absurd z (no 5 1 (by decide) (by decide) (by decide) e), fun z => absurd z (no 5 2 (by decide) (by decide) (by decide) e), fun z => absurd z (no 5 3 (by decide) (by decide) (by decide) e), fun z => absurd z (no 5 4 (by decide) (by decide) (by decide) e), fun _ => ?_, fun z => absurd e (z 5 (by decide))⟩)
          rw [p1 49 (by decide), p1 72 (by decide)]
          exact ⟨fun z => ⟨(hx.1 z).1, (hx.1 z).2, n, c, ni, nt, p2⟩, fun z => ⟨hx.2 z, n, c, ni, nt, p2⟩⟩
        have hs : ∀ b, g = b + 1 → nI g - 1 = nI b := fun b e => by rw [e]; exact nI_pred b
        refine ⟨fun z => ?_, fun z => go _ ⟨fun y => absurd (by rw [g3, ← g2]; exact z) y, fun _ => rfl⟩⟩
        rw [g2] at z
        cases g with
        | zero => exact absurd nI_0 z
        | succ b =>
          have hv : vp_in (nI b) 40 := vp_in_nI (by omega) (by decide)
          have hs := hs b rfl
          unfold R_X9_onTop
          rw [g2, hs]
          refine ⟨hv, go _ ⟨fun _ => ?_, fun y => absurd (by rw [← g3]; exact y) z⟩⟩
          rw [g3, hs, cl_nI (by omega)]
          exact ⟨hv, ((g4 b (by omega)).2.1).symm⟩
      · unfold R_X10_stayedWithinDepth
        refine measd h4 (fun τ t1 h5 _ _ hd => ?_)
        obtain ⟨r, hr, er⟩ := w1
        have hin : vp_in (nI r) 20 := vp_in_nI (by omega) (by decide)
        have go : ∀ x : Int32, x = (if τ 21 r = -5 then 1 else if τ 21 r < σ 37 4 then 0 else 1) → R_X11_ran a τ (fun y ρ => Nx x y ρ) := fun x hx => by
          refine md τ _ t1 h5 (fun ρ p1 p2 p3 => ⟨fun z => absurd z (e 0 (by decide)), fun z => absurd z (e 1 (by decide)), fun z => absurd z (e 2 (by decide)), fun z => absurd z (e 3 (by decide)), fun z => absurd z (e 4 (by decide)), fun z => absurd z (e 5 (by decide)), fun _ => ?_⟩)
          have e1 := (hd.off p1).eq p2 p3 hr
          rw [p1 49 (by decide), t1 49 (by decide), w3, er, cl_nI (by omega), ← e1, g6]
          refine ⟨fun z => ⟨?_, n, c, ni, nt, p2⟩, fun z => ⟨fun y => ⟨?_, n, c, ni, nt, p2⟩, fun y => ⟨?_, n, c, ni, nt, p2⟩⟩⟩
          · rw [hx, if_pos z]
          · rw [hx, if_neg z, if_pos y]
          · rw [hx, if_neg z, if_neg y]
        rw [t1 37 (by decide), er, cl_nI (by omega)]
        refine ⟨hin, fun z => ⟨fun q => absurd q n01, fun _ => go _ ?_⟩, fun z => ⟨fun y => ⟨fun _ => go _ ?_, fun q => absurd rfl q⟩, fun y => ⟨fun q => absurd q n01, fun _ => go _ ?_⟩⟩⟩
        · rw [if_pos z]
        · rw [if_neg z, if_pos y]
        · rw [if_neg z, if_neg y]
    · have w : σ 49 27 = 0 := by
        rcases g9 with z | z
        · exact z.2.1
        · obtain ⟨j, hj, e⟩ := z.1
          rw [q] at e
          exact absurd (by rw [← e]; decide) (nI_pos (show j < 2 ^ 31 by omega))
      unfold R_X11_ran
      exact e_rgM 6 rfl (by decide) (fun _ => ⟨fun _ => ⟨fun z => absurd w z, fun _ => ⟨rfl, hI⟩⟩, fun q => absurd q n01⟩) (fun h9 => absurd hv h9)
  · unfold R_X11_ran
    exact e_rgM 6 rfl (by decide) (fun h9 => absurd h9 hv) (fun _ => ⟨fun q => absurd rfl q, fun _ => ⟨rfl, hI⟩⟩)
