/-! interrupt, task, apart -/
theorem nltk {n : Nat} (N : Nat) (h : n ≤ N) (hN : N < 2 ^ 31) : nI n < nI N ↔ n < N := nI_ltI (by omega) hN
theorem neqk {n : Nat} (N : Nat) (h : n ≤ N) (hN : N < 2 ^ 31) : nI n = nI N ↔ n = N := nI_eq (by omega) hN
theorem rg17 {a : Int32} : ((1 : Int32).toInt ≤ a.toInt ∧ a.toInt ≤ (7 : Int32).toInt) ↔ (ok a 8 ∧ ¬ a = 0) := by
  rw [rgx 1 7 (show (1 : Int32) = nI 1 from rfl) (show (7 : Int32) = nI 7 from rfl) (by decide) (by decide)]
  constructor
  · rintro ⟨j, h1, h2, rfl⟩
    exact ⟨⟨j, by omega, rfl⟩, nI_ne0 (by omega) (by omega)⟩
  · rintro ⟨⟨j, h1, rfl⟩, h2⟩
    refine ⟨j, Nat.pos_of_ne_zero (fun q => h2 ?_), by omega, rfl⟩
    rw [q]; rfl
section PWF
variable {σ : pw_Mem} {K : Int32 → pw_Mem → Prop} {a : Int32}
theorem e_rg1 (h1 : (ok a 8 ∧ ¬ a = 0) → K 1 σ) (h0 : ¬ (ok a 8 ∧ ¬ a = 0) → K 0 σ) : R_X10_within a 1 7 σ K :=
  e_within (fun h => h1 (rg17.mp h)) (fun h => h0 (fun q => h (rg17.mpr q)))
theorem e_rg1M (h1 : (ok a 8 ∧ ¬ a = 0) → K 1 σ) (h0 : ¬ (ok a 8 ∧ ¬ a = 0) → K 0 σ) : R_X11_in a.toInt64 1 7 σ K := by
  have e := rg17 (a := a)
  rw [← l64 a] at e
  exact e_in (fun h => h1 (e.mp h)) (fun h => h0 (fun q => h (e.mpr q)))
end PWF
theorem o_interrupt {a b e : Int32} {σ : pw_Mem} (h : Inv σ) : R_X10_interrupt a b e σ (fun x τ => R_X11_interrupt a b e τ (fun y ρ => Nx x y ρ)) := by
  have hI := h
  obtain ⟨n, c, ni, nt, hrt, hcl, hpt, hit, htk, hsh, hrn, hst, hgr⟩ := h
  have hrt' := hrt
  obtain ⟨r1, r2, r3, r4, r5, r6⟩ := hrt
  obtain ⟨i1, i2, i3, i4⟩ := hit
  unfold R_X10_interrupt
  refine e_rg1 (fun hu => ⟨fun q => absurd q n01, fun _ => ?_⟩) (fun hu => ⟨fun _ => ?_, fun q => absurd rfl q⟩)
  · refine e_isR r2 r1 (fun hv => ⟨fun q => absurd q n01, fun _ => ?_⟩) (fun hv => ⟨fun _ => ?_, fun q => absurd rfl q⟩)
    · refine e_rg 100 rfl (by decide) (fun hw => ⟨fun _ => ⟨fun q => ?_, fun q => ?_⟩, fun q => absurd q n01⟩) (fun hw => ⟨fun q => absurd rfl q, fun _ => ?_⟩)
      · rw [i2] at q
        have q := (nltk 8 i1 (by decide)).mp q
        unfold R_X3_add
        rw [i2]
        refine ⟨vp_in_nI q (by decide), ?_⟩
        rintro _ rfl
        simp (config := { decide := true }) only [pw_r, pw_s, not_false_eq_true, i2, cl_nI (show ni < 2 ^ 31 by omega)]
        refine ⟨vp_in_nI q (by decide), ?_⟩
        rintro _ rfl
        simp (config := { decide := true }) only [pw_r, pw_s, not_false_eq_true, i2, cl_nI (show ni < 2 ^ 31 by omega)]
        refine ⟨vp_in_nI q (by decide), ?_⟩
        rintro _ rfl _ rfl
        unfold R_X11_interrupt
        refine e_rg1M (fun _ => ⟨fun q => absurd q n01, fun _ => ?_⟩) (fun h9 => absurd hu h9)
        refine e_isM (n := n) (by simp (config := { decide := true }) only [pw_r, not_false_eq_true]; exact r3) r1 (fun _ => ⟨fun q => absurd q n01, fun _ => ?_⟩) (fun h9 => absurd hv h9)
        refine e_rgM 100 rfl (by decide) (fun _ => ⟨fun _ => ⟨fun q2 => ?_, fun q2 => ?_⟩, fun q => absurd q n01⟩) (fun h9 => absurd hw h9)
        · simp (config := { decide := true }) only [pw_r, pw_s, not_false_eq_true, i2, i3, cl_nI (show ni < 2 ^ 31 by omega), upd_s]
          refine ⟨vp_in_nI q (by decide), ?_⟩
          rintro _ rfl
          simp (config := { decide := true }) only [pw_r, pw_s, not_false_eq_true, i2, i3, cl_nI (show ni < 2 ^ 31 by omega), upd_s]
          refine ⟨vp_in_nI q (by decide), ?_⟩
          rintro _ rfl
          simp (config := { decide := true }) only [pw_r, pw_s, not_false_eq_true, i2, i3, cl_nI (show ni < 2 ^ 31 by omega), upd_s]
          refine ⟨vp_in_nI q (by decide), ?_⟩
          rintro _ rfl _ rfl
          simp (config := { decide := true }) only [pw_r, pw_s, not_false_eq_true, i2, i3, cl_nI (show ni < 2 ^ 31 by omega), upd_s]
          refine ⟨rfl, n, c, ni + 1, nt, ?_⟩
          unfold Inv4
          simp (config := { decide := true }) only [pw_r, pw_s, not_false_eq_true, upd_s, upd_n]
          refine ⟨hrt', hcl, hpt, ⟨by omega, by rw [nI_1], by rw [nI_1], fun i hi => ?_⟩, htk, hsh, hrn.oth (by decide), hst, hgr⟩
          by_cases e : i = ni
          · subst e
            simp only [upd_s]
            exact ⟨hu, trivial, hv, trivial, hw, trivial⟩
          · simp only [upd_n e]
            exact i4 i (by omega)
        · exfalso
          simp (config := { decide := true }) only [pw_r, not_false_eq_true, i3] at q2
          have := (neqk 8 i1 (by decide)).mp q2
          omega
      · rw [i2] at q
        have q : ¬ ni < 8 := fun z => q ((nltk 8 i1 (by decide)).mpr z)
        unfold R_X11_interrupt
        refine e_rg1M (fun _ => ⟨fun q => absurd q n01, fun _ => ?_⟩) (fun h9 => absurd hu h9)
        refine e_isM r3 r1 (fun _ => ⟨fun q => absurd q n01, fun _ => ?_⟩) (fun h9 => absurd hv h9)
        refine e_rgM 100 rfl (by decide) (fun _ => ⟨fun _ => ⟨fun q2 => ?_, fun q2 => ⟨rfl, hI⟩⟩, fun q => absurd q n01⟩) (fun h9 => absurd hw h9)
        rw [i3] at q2
        exact absurd ((neqk 8 i1 (by decide)).mpr (by omega)) q2
      · unfold R_X11_interrupt
        refine e_rg1M (fun _ => ⟨fun q => absurd q n01, fun _ => ?_⟩) (fun h9 => absurd hu h9)
        refine e_isM r3 r1 (fun _ => ⟨fun q => absurd q n01, fun _ => ?_⟩) (fun h9 => absurd hv h9)
        exact e_rgM 100 rfl (by decide) (fun h9 => absurd h9 hw) (fun _ => ⟨fun q => absurd rfl q, fun _ => ⟨rfl, hI⟩⟩)
    · unfold R_X11_interrupt
      refine e_rg1M (fun _ => ⟨fun q => absurd q n01, fun _ => ?_⟩) (fun h9 => absurd hu h9)
      exact e_isM r3 r1 (fun h9 => absurd h9 hv) (fun _ => ⟨fun _ => ⟨rfl, hI⟩, fun q => absurd rfl q⟩)
  · unfold R_X11_interrupt
    exact e_rg1M (fun h9 => absurd h9 hu) (fun _ => ⟨fun _ => ⟨rfl, hI⟩, fun q => absurd rfl q⟩)
theorem o_task {a b e : Int32} {σ : pw_Mem} (h : Inv σ) : R_X10_task a b e σ (fun x τ => R_X11_task a b e τ (fun y ρ => Nx x y ρ)) := by
  have hI := h
  obtain ⟨n, c, ni, nt, hrt, hcl, hpt, hit, htk, hsh, hrn, hst, hgr⟩ := h
  have hrt' := hrt
  obtain ⟨r1, r2, r3, r4, r5, r6⟩ := hrt
  obtain ⟨i1, i2, i3, i4, i5⟩ := htk
  unfold R_X10_task
  refine e_isR r2 r1 (fun hv => ⟨fun q => absurd q n01, fun _ => ?_⟩) (fun hv => ⟨fun _ => ?_, fun q => absurd rfl q⟩)
  · refine e_rg 7 rfl (by decide) (fun hu => ⟨fun q => absurd q n01, fun _ => ?_⟩) (fun hu => ⟨fun _ => ?_, fun q => absurd rfl q⟩)
    · refine e_rg 100 rfl (by decide) (fun hw => ⟨fun _ => ⟨fun q => ?_, fun q => ?_⟩, fun q => absurd q n01⟩) (fun hw => ⟨fun q => absurd rfl q, fun _ => ?_⟩)
      · rw [i2] at q
        have q := (nltk 6 i1 (by decide)).mp q
        unfold R_X8_add
        rw [i2]
        refine ⟨vp_in_nI q (by decide), ?_⟩
        rintro _ rfl
        simp (config := { decide := true }) only [pw_r, pw_s, not_false_eq_true, i2, cl_nI (show nt < 2 ^ 31 by omega)]
        refine ⟨vp_in_nI q (by decide), ?_⟩
        rintro _ rfl
        simp (config := { decide := true }) only [pw_r, pw_s, not_false_eq_true, i2, cl_nI (show nt < 2 ^ 31 by omega)]
        refine ⟨vp_in_nI q (by decide), ?_⟩
        rintro _ rfl _ rfl
        unfold R_X11_task
        refine e_isM (n := n) (by simp (config := { decide := true }) only [pw_r, not_false_eq_true]; exact r3) r1 (fun _ => ⟨fun q => absurd q n01, fun _ => ?_⟩) (fun h9 => absurd hv h9)
        refine e_rgM 7 rfl (by decide) (fun _ => ⟨fun q => absurd q n01, fun _ => ?_⟩) (fun h9 => absurd hu h9)
        refine e_rgM 100 rfl (by decide) (fun _ => ⟨fun _ => ⟨fun q2 => ?_, fun q2 => ?_⟩, fun q => absurd q n01⟩) (fun h9 => absurd hw h9)
        · simp (config := { decide := true }) only [pw_r, pw_s, not_false_eq_true, i2, i3, cl_nI (show nt < 2 ^ 31 by omega), upd_s]
          refine ⟨vp_in_nI q (by decide), ?_⟩
          rintro _ rfl
          simp (config := { decide := true }) only [pw_r, pw_s, not_false_eq_true, i2, i3, cl_nI (show nt < 2 ^ 31 by omega), upd_s]
          refine ⟨vp_in_nI q (by decide), ?_⟩
          rintro _ rfl
          simp (config := { decide := true }) only [pw_r, pw_s, not_false_eq_true, i2, i3, cl_nI (show nt < 2 ^ 31 by omega), upd_s]
          refine ⟨vp_in_nI q (by decide), ?_⟩
          rintro _ rfl _ rfl
          simp (config := { decide := true }) only [pw_r, pw_s, not_false_eq_true, i2, i3, cl_nI (show nt < 2 ^ 31 by omega), upd_s]
          refine ⟨rfl, n, c, ni, nt + 1, ?_⟩
          unfold Inv4
          simp (config := { decide := true }) only [pw_r, pw_s, not_false_eq_true, upd_s, upd_n]
          refine ⟨hrt', hcl, hpt, hit, ⟨by omega, by rw [nI_1], by rw [nI_1], fun i hi => ?_, i5⟩, hsh, hrn.oth (by decide), hst, hgr⟩
          by_cases e : i = nt
          · subst e
            simp only [upd_s]
            exact ⟨hv, trivial, hu, trivial, hw, trivial⟩
          · simp only [upd_n e]
            exact i4 i (by omega)
        · exfalso
          simp (config := { decide := true }) only [pw_r, not_false_eq_true, i3] at q2
          have := (neqk 6 i1 (by decide)).mp q2
          omega
      · rw [i2] at q
        have q : ¬ nt < 6 := fun z => q ((nltk 6 i1 (by decide)).mpr z)
        unfold R_X11_task
        refine e_isM r3 r1 (fun _ => ⟨fun q => absurd q n01, fun _ => ?_⟩) (fun h9 => absurd hv h9)
        refine e_rgM 7 rfl (by decide) (fun _ => ⟨fun q => absurd q n01, fun _ => ?_⟩) (fun h9 => absurd hu h9)
        refine e_rgM 100 rfl (by decide) (fun _ => ⟨fun _ => ⟨fun q2 => ?_, fun q2 => ⟨rfl, hI⟩⟩, fun q => absurd q n01⟩) (fun h9 => absurd hw h9)
        rw [i3] at q2
        exact absurd ((neqk 6 i1 (by decide)).mpr (by omega)) q2
      · unfold R_X11_task
        refine e_isM r3 r1 (fun _ => ⟨fun q => absurd q n01, fun _ => ?_⟩) (fun h9 => absurd hv h9)
        refine e_rgM 7 rfl (by decide) (fun _ => ⟨fun q => absurd q n01, fun _ => ?_⟩) (fun h9 => absurd hu h9)
        exact e_rgM 100 rfl (by decide) (fun h9 => absurd h9 hw) (fun _ => ⟨fun q => absurd rfl q, fun _ => ⟨rfl, hI⟩⟩)
    · unfold R_X11_task
      refine e_isM r3 r1 (fun _ => ⟨fun q => absurd q n01, fun _ => ?_⟩) (fun h9 => absurd hv h9)
      exact e_rgM 7 rfl (by decide) (fun h9 => absurd h9 hu) (fun _ => ⟨fun _ => ⟨rfl, hI⟩, fun q => absurd rfl q⟩)
  · unfold R_X11_task
    exact e_isM r3 r1 (fun h9 => absurd h9 hv) (fun _ => ⟨fun _ => ⟨rfl, hI⟩, fun q => absurd rfl q⟩)
/-- the rows of apart behind a setting -/
def apR (f : Rows) (t u : Nat) (on : Int32) : Rows := if on = 0 then upd (upd f t (f t &&& ((1 <<< (nI u &&& 31)) ^^^ (-1)))) u (upd f t (f t &&& ((1 <<< (nI u &&& 31)) ^^^ (-1))) u &&& ((1 <<< (nI t &&& 31)) ^^^ (-1))) else upd (upd f t (f t ||| (1 <<< (nI u &&& 31)))) u (upd f t (f t ||| (1 <<< (nI u &&& 31))) u ||| (1 <<< (nI t &&& 31)))
theorem apR_c {f g : Rows} {t u : Nat} {on : Int32} (ht : t < 6) (hu : u < 6) (h : ∀ i, i < 6 → g i = f i) : ∀ i, i < 6 → apR g t u on i = apR f t u on i := by
  intro i hi
  unfold apR
  by_cases e : on = 0
  · rw [if_pos e, if_pos e]
    simp only [upd]
    by_cases e1 : i = u <;> by_cases e2 : i = t <;> by_cases e3 : u = t <;> simp [e1, e2, e3, h t ht, h u hu, h i hi]
  · rw [if_neg e, if_neg e]
    simp only [upd]
    by_cases e1 : i = u <;> by_cases e2 : i = t <;> by_cases e3 : u = t <;> simp [e1, e2, e3, h t ht, h u hu, h i hi]
theorem o_apart {a b on : Int32} {σ : pw_Mem} (h : Inv σ) : R_X10_apart a b on σ (fun x τ => R_X11_apart a b on τ (fun y ρ => Nx x y ρ)) := by
  have hI := h
  obtain ⟨n, c, ni, nt, hrt, hcl, hpt, hit, htk, hsh, hrn, hst, hgr⟩ := h
  obtain ⟨i1, i2, i3, i4, i5⟩ := htk
  unfold R_X10_apart
  refine e_isT i2 i1 (fun hv => ⟨fun q => absurd q n01, fun _ => ?_⟩) (fun hv => ⟨fun _ => ?_, fun q => absurd rfl q⟩)
  · refine e_isT i2 i1 (fun hu => ⟨fun q => absurd q n01, fun _ => ⟨fun q => ?_, fun q => ?_⟩⟩) (fun hu => ⟨fun _ => ?_, fun q => absurd rfl q⟩)
    · refine ⟨ok_in hv i1 (by decide), ?_⟩
      have hv0 := hv
      have hu0 := hu
      obtain ⟨t, ht, rfl⟩ := hv
      obtain ⟨u, hu, rfl⟩ := hu
      rw [cl_nI (by omega)]
      have key : ∀ (x : Int32), x = (((σ 30 t) >>> (nI u &&& 31)) &&& 1) → R_X8_setApart (nI t) (nI u) on σ (fun τ7 => R_X11_apart (nI t) (nI u) on τ7 (fun y ρ => Nx x y ρ)) := by
        intro x hx
        have hin : vp_in (nI t) 6 := vp_in_nI (by omega) (by decide)
        have hin2 : vp_in (nI u) 6 := vp_in_nI (by omega) (by decide)
        have fin : ∀ τ : pw_Mem, (∀ k, ¬ k = 30 → τ k = σ k) → τ 30 = apR (σ 30) t u on → R_X11_apart (nI t) (nI u) on τ (fun y ρ => Nx x y ρ) := by
          intro τ hτ h30
          have t49 : τ 49 = σ 49 := hτ 49 (by decide)
          have t69 : τ 69 = σ 69 := hτ 69 (by decide)
          unfold R_X11_apart
          refine e_isTM (n := nt) (by rw [t49]; exact i3) i1 (fun _ => ⟨fun q => absurd q n01, fun _ => ?_⟩) (fun h9 => absurd ⟨t, ht, rfl⟩ h9)
          refine e_isTM (n := nt) (by rw [t49]; exact i3) i1 (fun _ => ⟨fun q => absurd q n01, fun _ => ⟨fun _ => ⟨hin, ?_⟩, fun q2 => absurd q2 q⟩⟩) (fun h9 => absurd ⟨u, hu, rfl⟩ h9)
          rw [cl_nI (by omega), cl_nI (by omega), t69]
          have last : ∀ ρ : pw_Mem, (∀ k, ¬ k = 69 → ρ k = τ k) → ρ 69 = apR (σ 69) t u on → Nx x (((σ 69 t) >>> (nI u &&& 31)) &&& 1) ρ := by
            intro ρ hρ h69
            refine ⟨by rw [hx, i5 t (by omega)], n, c, ni, nt, ?_⟩
            have all : ∀ k, ¬ k = 30 → ¬ k = 69 → ρ k = σ k := fun k h1 h2 => (hρ k h2).trans (hτ k h1)
            unfold Inv4
            rw [h69, hρ 30 (by decide), h30]
            simp only [all 1 (by decide) (by decide), all 2 (by decide) (by decide), all 3 (by decide) (by decide), all 49 (by decide) (by decide), all 50 (by decide) (by decide), all 51 (by decide) (by decide), all 8 (by decide) (by decide), all 10 (by decide) (by decide), all 11 (by decide) (by decide), all 12 (by decide) (by decide), all 13 (by decide) (by decide), all 52 (by decide) (by decide), all 53 (by decide) (by decide), all 54 (by decide) (by decide), all 5 (by decide) (by decide), all 6 (by decide) (by decide), all 7 (by decide) (by decide), all 55 (by decide) (by decide), all 56 (by decide) (by decide), all 22 (by decide) (by decide), all 23 (by decide) (by decide), all 24 (by decide) (by decide), all 25 (by decide) (by decide), all 63 (by decide) (by decide), all 64 (by decide) (by decide), all 65 (by decide) (by decide), all 26 (by decide) (by decide), all 27 (by decide) (by decide), all 28 (by decide) (by decide), all 29 (by decide) (by decide), all 66 (by decide) (by decide), all 67 (by decide) (by decide), all 68 (by decide) (by decide), all 35 (by decide) (by decide), all 36 (by decide) (by decide), all 37 (by decide) (by decide), all 38 (by decide) (by decide), all 39 (by decide) (by decide), all 72 (by decide) (by decide), all 73 (by decide) (by decide), all 41 (by decide) (by decide), all 42 (by decide) (by decide), all 43 (by decide) (by decide), all 44 (by decide) (by decide), all 45 (by decide) (by decide), all 46 (by decide) (by decide), all 47 (by decide) (by decide), all 48 (by decide) (by decide), all 74 (by decide) (by decide), all 75 (by decide) (by decide), all 76 (by decide) (by decide), all 14 (by decide) (by decide), all 15 (by decide) (by decide), all 16 (by decide) (by decide), all 17 (by decide) (by decide), all 18 (by decide) (by decide), all 19 (by decide) (by decide)]
            exact ⟨hrt, hcl, hpt, hit, ⟨i1, i2, i3, i4, fun i hi => apR_c (by omega) (by omega) i5 i hi⟩, hsh, hrn, hst, hgr⟩
          refine ⟨fun e0 => ⟨hin, hin, ?_⟩, fun e0 => ⟨hin, hin, ?_⟩⟩
          · rintro _ rfl
            refine ⟨fun _ => ⟨hin2, hin2, ?_⟩, fun q => absurd e0 q⟩
            rintro _ rfl
            refine last _ (fun k hk => ?_) ?_
            · rw [pw_r hk, pw_r hk]
            · rw [pw_s, pw_s, t69, apR, if_pos e0]
          · rintro _ rfl
            refine ⟨fun q => absurd q e0, fun _ => ⟨hin2, hin2, ?_⟩⟩
            rintro _ rfl
            refine last _ (fun k hk => ?_) ?_
            · rw [pw_r hk, pw_r hk]
            · rw [pw_s, pw_s, t69, apR, if_neg e0]
        unfold R_X8_setApart
        rw [cl_nI (by omega), cl_nI (by omega)]
        refine ⟨fun e0 => ⟨hin, hin, ?_⟩, fun e0 => ⟨hin, hin, ?_⟩⟩
        · rintro _ rfl
          refine ⟨hin2, hin2, ?_⟩
          rintro _ rfl
          refine fin _ (fun k hk => ?_) ?_
          · rw [pw_r hk, pw_r hk]
          · rw [pw_s, pw_s, apR, if_pos e0]
        · rintro _ rfl
          refine ⟨hin2, hin2, ?_⟩
          rintro _ rfl
          refine fin _ (fun k hk => ?_) ?_
          · rw [pw_r hk, pw_r hk]
          · rw [pw_s, pw_s, apR, if_neg e0]
      refine e_holds (by omega) (fun hb1 => ⟨fun q => absurd q n01, fun _ => key 1 ?_⟩) (fun hb1 => ⟨fun _ => key 0 ?_, fun q => absurd rfl q⟩)
      · rw [hb0 _ (by omega), hb1]; rfl
      · rw [hb0 _ (by omega), hb1]; rfl
    · unfold R_X11_apart
      refine e_isTM i3 i1 (fun _ => ⟨fun q => absurd q n01, fun _ => ?_⟩) (fun h9 => absurd hv h9)
      exact e_isTM i3 i1 (fun _ => ⟨fun q => absurd q n01, fun _ => ⟨fun q2 => absurd q q2, fun _ => ⟨rfl, hI⟩⟩⟩) (fun h9 => absurd hu h9)
    · unfold R_X11_apart
      refine e_isTM i3 i1 (fun _ => ⟨fun q => absurd q n01, fun _ => ?_⟩) (fun h9 => absurd hv h9)
      exact e_isTM i3 i1 (fun h9 => absurd h9 hu) (fun _ => ⟨fun _ => ⟨rfl, hI⟩, fun q => absurd rfl q⟩)
  · unfold R_X11_apart
    exact e_isTM i3 i1 (fun h9 => absurd h9 hv) (fun _ => ⟨fun _ => ⟨rfl, hI⟩, fun q => absurd rfl q⟩)
