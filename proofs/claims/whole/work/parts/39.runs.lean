/-! runs: pushes and pulls on both sides -/
def oc (f : Rows) (v : Int32) : Nat → Nat
  | 0 => 0
  | k + 1 => oc f v k + (if f k = v then 1 else 0)
def mx (a b : Int32) : Int32 := if a < b then b else a
theorem oc_le (f : Rows) (v : Int32) : ∀ k, oc f v k ≤ k := by
  intro k
  induction k with
  | zero => exact Nat.le_refl _
  | succ k ih => unfold oc; split <;> omega
theorem oc_cg {f g : Rows} {v : Int32} : ∀ k, (∀ i, i < k → f i = g i) → oc f v k = oc g v k := by
  intro k
  induction k with
  | zero => intro _; rfl
  | succ k ih => intro h; unfold oc; rw [ih (fun i hi => h i (by omega)), h k (by omega)]
theorem mx_le (a b : Int32) : (if b ≤ a then a else b) = mx a b := by
  unfold mx
  by_cases h : a < b
  · rw [if_pos h, if_neg (Int32.not_le.mpr h)]
  · rw [if_neg h, if_pos (Int32.not_lt.mp h)]
theorem e_push {r h : Nat} {f : Int32} {σ : pw_Mem} {K : pw_Mem → Prop} (hh : h < 40) (h2 : σ 37 2 = nI h) (hK : ∀ τ : pw_Mem, (∀ k, ¬ k = 37 → ¬ k = 38 → ¬ k = 39 → τ k = σ k) → τ 38 = upd (σ 38) h (nI r) → τ 39 = upd (σ 39) h f → (∀ j, ¬ j = 2 → ¬ j = 3 → ¬ j = 4 → τ 37 j = σ 37 j) → τ 37 2 = nI (h + 1) → τ 37 3 = σ 37 3 + f → τ 37 4 = mx (σ 37 4) (σ 37 3 + f) → K τ) : R_X9_push (nI r) f σ K := by
  unfold R_X9_push
  rw [h2]
  refine ⟨vp_in_nI hh (by decide), ?_⟩
  rintro _ rfl
  rw [pw_r (by decide), h2]
  refine ⟨vp_in_nI hh (by decide), ?_⟩
  rintro _ rfl _ rfl _ rfl _ rfl
  rw [cl_nI (by omega)]
  refine hK _ (fun k k1 k2 k3 => ?_) ?_ ?_ (fun j j1 j2 j3 => ?_) ?_ ?_ ?_
  · rw [pw_r k1, pw_r k1, pw_r k1, pw_r k3, pw_r k2]
  · simp (config := { decide := true }) only [pw_r, pw_s, not_false_eq_true]
  · simp (config := { decide := true }) only [pw_r, pw_s, not_false_eq_true]
  · simp (config := { decide := true }) only [pw_r, pw_s, not_false_eq_true, upd_n j1, upd_n j2, upd_n j3]
  · simp (config := { decide := true }) only [pw_r, pw_s, not_false_eq_true, upd_s, upd_n, h2, nI_1]
  · simp (config := { decide := true }) only [pw_r, pw_s, not_false_eq_true, upd_s, upd_n]
  · simp (config := { decide := true }) only [pw_r, pw_s, not_false_eq_true, upd_s, upd_n]; rfl
theorem e_oftenL {K : Int32 → pw_Mem → Prop} {KX : Int32 → Int32 → Int32 → pw_Mem → Prop} {a : Int32} {h : Nat} {σ : pw_Mem} (hh : h ≤ 40) (h2 : σ 37 2 = nI h) (hK : KX a (nI (oc (σ 38) a h)) (nI h) σ) : ∀ (k i : Nat), i + k = h → R_X9_howOften_L4 K KX (k + 1) a (nI (oc (σ 38) a i)) (nI i) σ := by
  intro k
  induction k with
  | zero =>
    intro i hi
    have e : i = h := by omega
    subst e
    unfold R_X9_howOften_L4
    rw [h2]
    exact ⟨fun _ => hK, fun z => absurd (nI_le (Nat.le_refl i) (by omega)) z⟩
  | succ k ih =>
    intro i hi
    have h3 := ih (i + 1) (by omega)
    unfold oc at h3
    unfold R_X9_howOften_L4
    rw [h2, cl_nI (by omega), nI_1, nI_1]
    refine ⟨fun z => absurd ((nI_leI (by omega) (by omega)).mp z) (by omega), fun _ => ⟨vp_in_nI (by omega) (by decide), fun q => ?_, fun q => ?_⟩⟩
    · rw [if_neg q] at h3; exact h3
    · rw [if_pos q] at h3; exact h3
theorem e_often {K : Int32 → pw_Mem → Prop} {a : Int32} {h : Nat} {σ : pw_Mem} (hh : h ≤ 40) (h2 : σ 37 2 = nI h) (hK : K (nI (oc (σ 38) a h)) σ) : R_X9_howOften a σ K :=
  ⟨h + 1, e_oftenL hh h2 hK h 0 (by omega)⟩
/-- one more mark, if it is there as often as its turns -/
def ofn (t o : Nat) : Int32 := if t ≠ 0 ∧ t ≤ o then 1 else 0
theorem e_pushM {r h t : Nat} {σ : pw_Mem} {K : Int32 → pw_Mem → Prop} (hr : r < 20) (hh : h < 40) (ht : t ≤ 20) (h2 : σ 37 2 = nI h) (h3 : σ 3 r = nI t) (hK : ∀ τ : pw_Mem, (∀ k, ¬ k = 37 → ¬ k = 38 → ¬ k = 39 → τ k = σ k) → τ 38 = upd (σ 38) h (nI r) → τ 39 = upd (σ 39) h (σ 2 r) → τ 37 2 = nI (h + 1) → τ 37 3 = σ 37 3 + σ 2 r → τ 37 4 = mx (σ 37 4) (σ 37 3 + σ 2 r) → τ 37 5 = σ 37 5 → τ 37 6 = σ 37 6 + ofn t (oc (σ 38) (nI r) h) → τ 37 7 = σ 37 7 → K (τ 37 3) τ) : R_X10_pushMarked (nI r) σ K := by
  have hin : vp_in (nI r) 20 := vp_in_nI hr (by decide)
  unfold R_X10_pushMarked
  rw [cl_nI (by omega), h3]
  have hoc := oc_le (σ 38) (nI r) h
  refine ⟨hin, fun q => ⟨hin, ?_⟩, fun q => e_often (by omega) h2 ⟨fun q2 => ⟨hin, ?_⟩, fun q2 => ?_⟩⟩
  · refine e_push hh h2 (fun τ a1 a2 a3 a4 a5 a6 a7 => hK τ a1 a2 a3 a5 a6 a7 (a4 5 (by decide) (by decide) (by decide)) ?_ (a4 7 (by decide) (by decide) (by decide)))
    have e : t = 0 := nI_inj (by omega) (by decide) q
    rw [a4 6 (by decide) (by decide) (by decide), ofn, if_neg (by simp [e])]
    exact (Int32.add_zero _).symm
  · refine e_push hh h2 (fun τ a1 a2 a3 a4 a5 a6 a7 => hK τ a1 a2 a3 a5 a6 a7 (a4 5 (by decide) (by decide) (by decide)) ?_ (a4 7 (by decide) (by decide) (by decide)))
    have e := (nI_ltI (by omega) (by omega)).mp q2
    rw [a4 6 (by decide) (by decide) (by decide), ofn, if_neg (by omega)]
    exact (Int32.add_zero _).symm
  · rintro _ rfl
    refine ⟨hin, ?_⟩
    rw [pw_r (by decide)]
    refine e_push hh (by rw [pw_s, upd_n (by decide)]; exact h2) (fun τ a1 a2 a3 a4 a5 a6 a7 => hK τ (fun k k1 k2 k3 => by rw [a1 k k1 k2 k3, pw_r k1]) (by rw [a2, pw_r (by decide)]) (by rw [a3, pw_r (by decide)]) a5 (by rw [a6, pw_s, upd_n (by decide)]) (by rw [a7, pw_s, upd_n (by decide), upd_n (by decide)]) (by rw [a4 5 (by decide) (by decide) (by decide), pw_s, upd_n (by decide)]) ?_ (by rw [a4 7 (by decide) (by decide) (by decide), pw_s, upd_n (by decide)]))
    have e : ¬ oc (σ 38) (nI r) h < t := fun z => q2 ((nI_ltI (by omega) (by omega)).mpr z)
    rw [a4 6 (by decide) (by decide) (by decide), pw_s, upd_s, ofn, if_pos ⟨fun z => q (by rw [z]; rfl), by omega⟩]
theorem m_putL {K : pw_Mem → Prop} {KX : Int32 → Int32 → Int32 → pw_Mem → Prop} {a : Int32} {h : Nat} {σ : pw_Mem} (hh : h ≤ 40) (h2 : σ 49 28 = nI h) (hK : KX a (nI (oc (σ 72) a h)) (nI h) σ) : ∀ (k i : Nat), i + k = h → R_X11_put_L80 K KX (k + 1) a (nI (oc (σ 72) a i)) (nI i) σ := by
  intro k
  induction k with
  | zero =>
    intro i hi
    have e : i = h := by omega
    subst e
    unfold R_X11_put_L80
    rw [h2]
    exact ⟨fun _ => hK, fun z => absurd (nI_le (Nat.le_refl i) (by omega)) z⟩
  | succ k ih =>
    intro i hi
    have h3 := ih (i + 1) (by omega)
    unfold oc at h3
    unfold R_X11_put_L80
    rw [h2, cl_nI (by omega), nI_1, nI_1, Int32.add_zero]
    refine ⟨fun z => absurd ((nI_leI (by omega) (by omega)).mp z) (by omega), fun _ => ⟨vp_in_nI (by omega) (by decide), fun q => ?_, fun q => ?_⟩⟩
    · rw [if_neg q] at h3; exact h3
    · rw [if_pos q] at h3; exact h3
theorem m_put {r h t : Nat} {σ : pw_Mem} {K : pw_Mem → Prop} (hr : r < 20) (hh : h < 40) (ht : t ≤ 20) (h2 : σ 49 28 = nI h) (h3 : σ 51 r = nI t) (hK : ∀ ρ : pw_Mem, (∀ k, ¬ k = 49 → ¬ k = 72 → ¬ k = 73 → ρ k = σ k) → ρ 72 = upd (σ 72) h (nI r) → ρ 73 = upd (σ 73) h (σ 50 r) → (∀ j, ¬ j = 28 → ¬ j = 32 → ¬ j = 33 → ¬ j = 35 → ρ 49 j = σ 49 j) → ρ 49 28 = nI (h + 1) → ρ 49 32 = σ 49 32 + σ 50 r → ρ 49 33 = mx (σ 49 33) (σ 49 32 + σ 50 r) → ρ 49 35 = σ 49 35 + ofn t (oc (σ 72) (nI r) h) → K ρ) : R_X11_put (nI r) σ K := by
  have hin : vp_in (nI r) 20 := vp_in_nI hr (by decide)
  have hin2 : vp_in (nI h) 40 := vp_in_nI hh (by decide)
  have hoc := oc_le (σ 72) (nI r) h
  unfold R_X11_put
  rw [h2]
  refine ⟨hin2, ?_⟩
  rintro _ rfl
  rw [pw_r (by decide : ¬ 49 = 72), h2, cl_nI (show r < 2 ^ 31 by omega), cl_nI (show h < 2 ^ 31 by omega), pw_r (by decide : ¬ 50 = 72)]
  refine ⟨hin, hin2, ?_⟩
  rintro _ rfl
  refine ⟨hin, ?_⟩
  rintro _ rfl
  intro τ4 hτ4
  have e32 : τ4 49 32 = σ 49 32 + σ 50 r := by
    rw [hτ4]; simp (config := { decide := true }) only [pw_r, pw_s, not_false_eq_true, upd_s, upd_n]
  have e33 : τ4 49 33 = σ 49 33 := by
    rw [hτ4]; simp (config := { decide := true }) only [pw_r, pw_s, not_false_eq_true, upd_s, upd_n]
  have e28 : τ4 49 28 = nI (h + 1) := by
    rw [hτ4]; simp (config := { decide := true }) only [pw_r, pw_s, not_false_eq_true, upd_s, upd_n, h2, nI_1]
  have e49 : ∀ j, ¬ j = 28 → ¬ j = 32 → τ4 49 j = σ 49 j := fun j j1 j2 => by
    rw [hτ4]; simp (config := { decide := true }) only [pw_r, pw_s, not_false_eq_true, upd_n j1, upd_n j2]
  have e72 : τ4 72 = upd (σ 72) h (nI r) := by
    rw [hτ4]; simp (config := { decide := true }) only [pw_r, pw_s, not_false_eq_true]
  have e73 : τ4 73 = upd (σ 73) h (σ 50 r) := by
    rw [hτ4]; simp (config := { decide := true }) only [pw_r, pw_s, not_false_eq_true]
  have eoth : ∀ k, ¬ k = 49 → ¬ k = 72 → ¬ k = 73 → τ4 k = σ k := fun k k1 k2 k3 => by
    rw [hτ4, pw_r k1, pw_r k1, pw_r k3, pw_r k2]
  have hoc2 : oc (upd (σ 72) h (nI r)) (nI r) (h + 1) = oc (σ 72) (nI r) h + 1 := by
    show oc (upd (σ 72) h (nI r)) (nI r) h + (if upd (σ 72) h (nI r) h = nI r then 1 else 0) = _
    rw [upd_s, if_pos rfl, oc_cg (f := upd (σ 72) h (nI r)) (g := σ 72) h (fun i hi => upd_n (by omega))]
  have fin : ∀ τ5, τ5 = pw_up τ4 49 33 (mx (σ 49 33) (σ 49 32 + σ 50 r)) → ∃ n, R_X11_put_L80 K (fun y6 y7 y8 τ9 => vp_in y6 20 ∧ (((τ9 51 (Int32.toNatClampNeg y6)) ≤ 0 → ∀ τ10, τ10 = pw_up τ9 49 35 ((τ9 49 35) + 0) → K τ10) ∧ (¬ (τ9 51 (Int32.toNatClampNeg y6)) ≤ 0 → vp_in y6 20 ∧ ((y7 ≤ (τ9 51 (Int32.toNatClampNeg y6)) → ∀ τ11, τ11 = pw_up τ9 49 35 ((τ9 49 35) + 0) → K τ11) ∧ (¬ y7 ≤ (τ9 51 (Int32.toNatClampNeg y6)) → ∀ τ12, τ12 = pw_up τ9 49 35 ((τ9 49 35) + 1) → K τ12))))) n (nI r) 0 0 τ5 := by
    rintro _ rfl
    have last : ∀ w, w = ofn t (oc (σ 72) (nI r) h) → ∀ ρ, ρ = pw_up (pw_up τ4 49 33 (mx (σ 49 33) (σ 49 32 + σ 50 r))) 49 35 ((pw_up τ4 49 33 (mx (σ 49 33) (σ 49 32 + σ 50 r)) 49 35) + w) → K ρ := by
      rintro w hw _ rfl
      refine hK _ (fun k k1 k2 k3 => by rw [pw_r k1, pw_r k1, eoth k k1 k2 k3]) ?_ ?_ (fun j j1 j2 j3 j4 => ?_) ?_ ?_ ?_ ?_
      · rw [pw_r (by decide), pw_r (by decide), e72]
      · rw [pw_r (by decide), pw_r (by decide), e73]
      · rw [pw_s, pw_s, upd_n j4, upd_n j3, e49 j j1 j2]
      · rw [pw_s, pw_s, upd_n (by decide), upd_n (by decide), e28]
      · rw [pw_s, pw_s, upd_n (by decide), upd_n (by decide), e32]
      · rw [pw_s, pw_s, upd_n (by decide), upd_s]
      · rw [pw_s, pw_s, upd_s, upd_n (by decide), e49 35 (by decide) (by decide), hw]
    refine ⟨h + 2, m_putL (h := h + 1) (by omega) (by rw [pw_s, upd_n (by decide), e28]) ⟨hin, ?_⟩ (h + 1) 0 (by omega)⟩
    rw [cl_nI (show r < 2 ^ 31 by omega), pw_r (by decide : ¬ 51 = 49), pw_r (by decide : ¬ 72 = 49), eoth 51 (by decide) (by decide) (by decide), h3, e72, hoc2]
    refine ⟨fun q => fun ρ hρ => last 0 ?_ ρ hρ, fun q => ⟨hin, fun q2 => fun ρ hρ => last 0 ?_ ρ hρ, fun q2 => fun ρ hρ => last 1 ?_ ρ hρ⟩⟩
    · have e : t = 0 := by have := (nI_leI (b := 0) (by omega) (by decide)).mp q; omega
      rw [ofn, if_neg (by simp [e])]
    · have := (nI_leI (by omega) (by omega)).mp q2
      rw [ofn, if_neg (by omega)]
    · have e1 : ¬ t = 0 := fun z => q (by rw [z]; decide)
      have e2 : ¬ oc (σ 72) (nI r) h + 1 ≤ t := fun z => q2 ((nI_leI (by omega) (by omega)).mpr z)
      rw [ofn, if_pos ⟨e1, by omega⟩]
  rw [e32, e33]
  refine ⟨fun q => fun τ5 hτ5 => fin τ5 ?_, fun q => fun τ5 hτ5 => fin τ5 ?_⟩
  · rw [hτ5, ← mx_le, if_pos q]
  · rw [hτ5, ← mx_le, if_neg q]
/-- Inv4 behind a change of the run alone -/
theorem Inv4.run {n c ni nt : Nat} {σ ρ : pw_Mem} (h : Inv4 n c ni nt σ) (hs : ∀ k, ¬ (37 ≤ k ∧ k ≤ 39) → ¬ k = 49 → ¬ (72 ≤ k ∧ k ≤ 73) → ρ k = σ k) (h49 : ∀ j, j < 27 → ρ 49 j = σ 49 j) (hr : I_rn n (ρ 37) (ρ 38) (ρ 39) (ρ 49) (ρ 72) (ρ 73)) : Inv4 n c ni nt ρ := by
  have all : ∀ k, ¬ (37 ≤ k ∧ k ≤ 39) → ¬ k = 49 → ¬ (72 ≤ k ∧ k ≤ 73) → ρ k = σ k := hs
  obtain ⟨hrt, hcl, hpt, hit, htk, hsh, hrn, hst, hgr⟩ := h
  unfold Inv4
  rw [h49 0 (by decide), h49 3 (by decide), h49 15 (by decide), h49 19 (by decide)]
  simp only [all 1 (by decide) (by decide) (by decide), all 2 (by decide) (by decide) (by decide), all 3 (by decide) (by decide) (by decide), all 50 (by decide) (by decide) (by decide), all 51 (by decide) (by decide) (by decide), all 8 (by decide) (by decide) (by decide), all 10 (by decide) (by decide) (by decide), all 11 (by decide) (by decide) (by decide), all 12 (by decide) (by decide) (by decide), all 13 (by decide) (by decide) (by decide), all 52 (by decide) (by decide) (by decide), all 53 (by decide) (by decide) (by decide), all 54 (by decide) (by decide) (by decide), all 5 (by decide) (by decide) (by decide), all 6 (by decide) (by decide) (by decide), all 7 (by decide) (by decide) (by decide), all 55 (by decide) (by decide) (by decide), all 56 (by decide) (by decide) (by decide), all 22 (by decide) (by decide) (by decide), all 23 (by decide) (by decide) (by decide), all 24 (by decide) (by decide) (by decide), all 25 (by decide) (by decide) (by decide), all 63 (by decide) (by decide) (by decide), all 64 (by decide) (by decide) (by decide), all 65 (by decide) (by decide) (by decide), all 26 (by decide) (by decide) (by decide), all 27 (by decide) (by decide) (by decide), all 28 (by decide) (by decide) (by decide), all 29 (by decide) (by decide) (by decide), all 30 (by decide) (by decide) (by decide), all 66 (by decide) (by decide) (by decide), all 67 (by decide) (by decide) (by decide), all 68 (by decide) (by decide) (by decide), all 69 (by decide) (by decide) (by decide), all 35 (by decide) (by decide) (by decide), all 36 (by decide) (by decide) (by decide), all 41 (by decide) (by decide) (by decide), all 42 (by decide) (by decide) (by decide), all 43 (by decide) (by decide) (by decide), all 44 (by decide) (by decide) (by decide), all 45 (by decide) (by decide) (by decide), all 46 (by decide) (by decide) (by decide), all 47 (by decide) (by decide) (by decide), all 48 (by decide) (by decide) (by decide), all 74 (by decide) (by decide) (by decide), all 75 (by decide) (by decide) (by decide), all 76 (by decide) (by decide) (by decide), all 14 (by decide) (by decide) (by decide), all 15 (by decide) (by decide) (by decide), all 16 (by decide) (by decide) (by decide), all 17 (by decide) (by decide) (by decide), all 18 (by decide) (by decide) (by decide), all 19 (by decide) (by decide) (by decide)]
  exact ⟨hrt, hcl, hpt, hit, htk, hsh, hr, hst, hgr⟩
theorem o_leave {σ : pw_Mem} (h : Inv σ) : R_X10_leave σ (fun x τ => R_X11_leave τ (fun y ρ => Nx x y ρ)) := by
  have hI := h
  obtain ⟨n, c, ni, nt, h4⟩ := h
  obtain ⟨g, q1, q2, q3, q4, q5, q6, q7, q8, q9⟩ := h4.2.2.2.2.2.2.1
  unfold R_X10_leave
  rw [q2]
  refine ⟨fun z => ?_, fun z => ?_⟩
  · have hg : g ≠ 0 := fun e => z (by rw [e]; rfl)
    obtain ⟨g', rfl⟩ : ∃ g', g = g' + 1 := ⟨g - 1, by omega⟩
    have hin : vp_in (nI g') 40 := vp_in_nI (by omega) (by decide)
    unfold R_X9_pop
    rintro _ rfl
    rw [q2, pw_s, upd_s, nI_pred]
    refine ⟨hin, ?_⟩
    intro τ hτ
    rw [upd_n (by decide), pw_r (by decide : ¬ 39 = 37), cl_nI (by omega)] at hτ
    have t49 : ∀ k, ¬ k = 37 → τ k = σ k := fun k hk => by rw [hτ, pw_r hk, pw_r hk]
    have t37 : τ 37 3 = σ 37 3 - σ 39 g' := by rw [hτ, pw_s, upd_s]
    unfold R_X11_leave
    rw [t49 49 (by decide), q3]
    refine ⟨fun _ => ?_, fun q => absurd q z⟩
    unfold R_X11_pull
    rintro _ rfl
    rw [t49 49 (by decide), q3, pw_s, upd_s, nI_pred]
    refine ⟨hin, ?_⟩
    intro ρ hρ
    rw [upd_n (by decide), pw_r (by decide : ¬ 73 = 49), cl_nI (by omega), t49 73 (by decide), t49 49 (by decide)] at hρ
    have r49 : ∀ j, ρ 49 j = upd (upd (σ 49) 28 (nI g')) 32 (σ 49 32 - σ 73 g') j := fun j => by rw [hρ, pw_s, pw_s, t49 49 (by decide)]
    have roth : ∀ k, ¬ k = 49 → ρ k = τ k := fun k hk => by rw [hρ, pw_r hk, pw_r hk]
    refine ⟨?_, n, c, ni, nt, h4.run (fun k k1 k2 k3 => by rw [roth k k2, t49 k (by omega)]) (fun j hj => by rw [r49, upd_n (by omega), upd_n (by omega)]) ?_⟩
    · rw [t37, r49, upd_s, q5, (q4 g' (by omega)).2.2]
    · rw [roth 37 (by decide), roth 38 (by decide), roth 39 (by decide), roth 72 (by decide), roth 73 (by decide), t49 38 (by decide), t49 39 (by decide), t49 72 (by decide), t49 73 (by decide)]
      have r37 : ∀ j, τ 37 j = upd (upd (σ 37) 2 (nI g')) 3 (σ 37 3 - σ 39 g') j := fun j => by rw [hτ, pw_s, pw_s]
      refine ⟨g', by omega, ?_, ?_, fun i hi => q4 i (by omega), ?_, ?_, ?_, ?_, ?_⟩
      · rw [r37, upd_n (by decide), upd_s]
      · rw [r49, upd_n (by decide), upd_s]
      · rw [t37, r49, upd_s, q5, (q4 g' (by omega)).2.2]
      · rw [r37, r49, upd_n (by decide), upd_n (by decide), upd_n (by decide), upd_n (by decide)]; exact q6
      · rw [r37, r49, upd_n (by decide), upd_n (by decide), upd_n (by decide), upd_n (by decide)]; exact q7
      · rw [r37, r49, upd_n (by decide), upd_n (by decide), upd_n (by decide), upd_n (by decide)]; exact q8
      · rw [r37, r49, r49, upd_n (by decide), upd_n (by decide), upd_n (by decide), upd_n (by decide), upd_n (by decide), upd_n (by decide)]
        rcases q9 with q9 | q9
        · omega
        · exact Or.inr q9
  · show R_X11_leave σ (fun y ρ => Nx (-2) y ρ)
    unfold R_X11_leave
    rw [q3]
    exact ⟨fun q => absurd z q, fun _ => ⟨rfl, hI⟩⟩
theorem o_run {a : Int32} {σ : pw_Mem} (h : Inv σ) : R_X10_run a σ (fun x τ => R_X11_run a τ (fun y ρ => Nx x y ρ)) := by
  have hI := h
  obtain ⟨n, c, ni, nt, h4⟩ := h
  obtain ⟨r1, r2, r3, r4, r5, r6⟩ := h4.1
  unfold R_X10_run
  refine e_isR r2 r1 (fun hv => ⟨fun _ => ?_, fun q => absurd q n01⟩) (fun hv => ⟨fun q => absurd rfl q, fun _ => ?_⟩)
  · have hv0 := hv
    obtain ⟨r, hr, rfl⟩ := hv
    have hin : vp_in (nI r) 20 := vp_in_nI (by omega) (by decide)
    obtain ⟨⟨t, ht, et⟩, et'⟩ := r5 r hr
    unfold R_X9_begin
    rintro _ rfl _ rfl _ rfl _ rfl _ rfl
    intro τ0 hτ0
    have z37 : ∀ j, τ0 37 j = upd (upd (upd (upd (upd (upd (σ 37) 2 0) 3 0) 4 0) 5 0) 6 0) 7 (nI r) j := fun j => by rw [hτ0]; simp only [pw_s]
    have zoth : ∀ k, ¬ k = 37 → τ0 k = σ k := fun k hk => by rw [hτ0]; simp only [pw_r hk]
    refine ⟨hin, ?_⟩
    rw [cl_nI (by omega), zoth 2 (by decide)]
    refine e_push (h := 0) (by decide) (by rw [z37]; simp (config := { decide := true }) only [upd_s, upd_n, not_false_eq_true]) (fun τ a1 a2 a3 a4 a5 a6 a7 => ?_)
    have y3 : τ0 37 3 = 0 := by rw [z37]; simp (config := { decide := true }) only [upd_s, upd_n, not_false_eq_true]
    have y4 : τ0 37 4 = 0 := by rw [z37]; simp (config := { decide := true }) only [upd_s, upd_n, not_false_eq_true]
    have y5 : τ 37 5 = 0 := by rw [a4 5 (by decide) (by decide) (by decide), z37]; simp (config := { decide := true }) only [upd_s, upd_n, not_false_eq_true]
    have y6 : τ 37 6 = 0 := by rw [a4 6 (by decide) (by decide) (by decide), z37]; simp (config := { decide := true }) only [upd_s, upd_n, not_false_eq_true]
    have y7 : τ 37 7 = nI r := by rw [a4 7 (by decide) (by decide) (by decide), z37]; simp (config := { decide := true }) only [upd_s, upd_n, not_false_eq_true]
    have oth : ∀ k, ¬ k = 37 → ¬ k = 38 → ¬ k = 39 → τ k = σ k := fun k k1 k2 k3 => by rw [a1 k k1 k2 k3, zoth k k1]
    unfold R_X11_run
    refine e_isM (n := n) (by rw [oth 49 (by decide) (by decide) (by decide)]; exact r3) r1 (fun _ => ⟨fun _ => ?_, fun q => absurd q n01⟩) (fun h9 => absurd hv0 h9)
    rintro _ rfl _ rfl _ rfl _ rfl _ rfl _ rfl
    intro μ hμ
    have w49 : ∀ j, μ 49 j = upd (upd (upd (upd (upd (upd (upd (σ 49) 27 1) 28 0) 32 0) 33 0) 34 0) 35 0) 31 (nI r) j := fun j => by rw [hμ]; simp only [pw_s, oth 49 (by decide) (by decide) (by decide)]
    have woth : ∀ k, ¬ k = 49 → μ k = τ k := fun k hk => by rw [hμ]; simp only [pw_r hk]
    refine m_put (r := r) (h := 0) (t := t) (by omega) (by decide) (by omega) (by rw [w49]; simp (config := { decide := true }) only [upd_s, upd_n, not_false_eq_true]) (by rw [woth 51 (by decide), oth 51 (by decide) (by decide) (by decide), et', et]) (fun ρ b1 b2 b3 b4 b5 b6 b7 b8 => ?_)
    have v32 : μ 49 32 = 0 := by rw [w49]; simp (config := { decide := true }) only [upd_s, upd_n, not_false_eq_true]
    have v33 : μ 49 33 = 0 := by rw [w49]; simp (config := { decide := true }) only [upd_s, upd_n, not_false_eq_true]
    have v34 : ρ 49 34 = 0 := by rw [b4 34 (by decide) (by decide) (by decide) (by decide), w49]; simp (config := { decide := true }) only [upd_s, upd_n, not_false_eq_true]
    have v35 : ρ 49 35 = 0 := by
      rw [b8, w49]; simp (config := { decide := true }) only [upd_s, upd_n, not_false_eq_true]
      rw [ofn, if_neg (by unfold oc; omega)]; rfl
    have v27 : ρ 49 27 = 1 := by rw [b4 27 (by decide) (by decide) (by decide) (by decide), w49]; simp (config := { decide := true }) only [upd_s, upd_n, not_false_eq_true]
    have v31 : ρ 49 31 = nI r := by rw [b4 31 (by decide) (by decide) (by decide) (by decide), w49]; simp (config := { decide := true }) only [upd_s, upd_n, not_false_eq_true]
    have f50 : μ 50 r = σ 2 r := by rw [woth 50 (by decide), oth 50 (by decide) (by decide) (by decide)]; exact (r4 r hr).2
    refine ⟨by rw [a6, b6, y3, v32, f50], n, c, ni, nt, h4.run (fun k k1 k2 k3 => ?_) (fun j hj => ?_) ?_⟩
    · rw [b1 k k2 (by omega) (by omega), woth k k2, oth k (by omega) (by omega) (by omega)]
    · rw [b4 j (by omega) (by omega) (by omega) (by omega), w49]
      rw [upd_n (by omega), upd_n (by omega), upd_n (by omega), upd_n (by omega), upd_n (by omega), upd_n (by omega), upd_n (by omega)]
    · rw [b1 37 (by decide) (by decide) (by decide), b1 38 (by decide) (by decide) (by decide), b1 39 (by decide) (by decide) (by decide), woth 37 (by decide), woth 38 (by decide), woth 39 (by decide), b2, b3, a2, a3]
      refine ⟨1, by decide, a5, b5, fun i hi => ?_, ?_, ?_, ?_, ?_, Or.inr ⟨?_, v27, ?_⟩⟩
      · have e : i = 0 := by omega
        subst e
        rw [upd_s, upd_s, upd_s, upd_s]
        exact ⟨hv0, rfl, f50⟩
      · rw [a6, b6, y3, v32, f50]
      · rw [a7, b7, y3, y4, v32, v33, f50]
      · rw [v34, y5]
      · rw [v35, y6]
      · rw [y7]; exact hv0
      · rw [v31, y7]
  · unfold R_X11_run
    exact e_isM r3 r1 (fun h9 => absurd h9 hv) (fun _ => ⟨fun q => absurd rfl q, fun _ => ⟨rfl, hI⟩⟩)
