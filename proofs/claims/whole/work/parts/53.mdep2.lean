/-! the reference's own; its greatest beside the class's -/
def ow (n : Nat) (P T G fr f : Rows) (r : Nat) : Int32 := if gN f (P r) n = -4 then -4 else if gN f (T r &&& (G r ^^^ (-1))) n = -4 then -4 else if gN f (P r) n = -5 then -5 else if gN f (T r &&& (G r ^^^ (-1))) n = -5 then -5 else if fr r + gN f (P r) n ≤ gN f (T r &&& (G r ^^^ (-1))) n then gN f (T r &&& (G r ^^^ (-1))) n else fr r + gN f (P r) n
theorem m_own {K : Int32 → pw_Mem → Prop} {n r : Nat} {σ : pw_Mem} (hr : r < 20) (hn : n ≤ 20) (h0 : σ 49 0 = nI n) (h : K (ow n (σ 58) (σ 59) (σ 61) (σ 50) (σ 62) r) σ) : R_X11_own (nI r) σ K := by
  have hin : vp_in (nI r) 20 := vp_in_nI hr (by decide)
  unfold ow at h
  unfold R_X11_own
  rw [cl_nI (by omega)]
  refine ⟨hin, m_gt hn h0 ⟨hin, hin, m_gt hn h0 ⟨fun q1 => ?_, fun q1 => ⟨fun q2 => ⟨fun q3 => ?_, fun q3 => ⟨fun q4 => ⟨hin, fun q5 => ?_, fun q5 => ⟨hin, ?_⟩⟩, fun q4 => ?_⟩⟩, fun q2 => ?_⟩⟩⟩⟩
  · rw [if_pos q1] at h; exact h
  · rw [if_neg q1, if_neg q2, if_pos q3] at h; exact h
  · rw [if_neg q1, if_neg q2, if_neg q3, if_neg q4, if_pos q5] at h; exact h
  · rw [if_neg q1, if_neg q2, if_neg q3, if_neg q4, if_neg q5] at h; exact h
  · rw [if_neg q1, if_neg q2, if_neg q3, if_pos q4] at h; exact h
  · rw [if_neg q1, if_pos q2] at h; exact h
theorem gM_nn (f : Rows) (s : Int32) : ∀ k, 0 ≤ gM f s k := by
  intro k
  induction k with
  | zero => exact Int32.le_refl _
  | succ k ih =>
    show 0 ≤ (if bt s k then (if f k ≤ gM f s k then gM f s k else f k) else gM f s k)
    by_cases h : bt s k = true
    · rw [if_pos h]
      by_cases h2 : f k ≤ gM f s k
      · rw [if_pos h2]; exact ih
      · rw [if_neg h2]
        have h3 := Int32.not_le.mp h2
        have e1 := Int32.le_iff_toInt_le.mp ih
        have e2 := Int32.lt_iff_toInt_lt.mp h3
        exact Int32.le_iff_toInt_le.mpr (by omega)
    · rw [if_neg h]; exact ih
theorem nn_m5 {x : Int32} (h : 0 ≤ x) : ¬ x = -5 := fun e => by
  subst e
  exact absurd h (by decide)
theorem gto_gM (f : Rows) (s : Int32) : ∀ k, gto f s k = (if gE f s k then gM f s k else -5) := by
  intro k
  induction k with
  | zero => rfl
  | succ k ih =>
    have e1 : gto f s (k + 1) = if bt s k then gre (gto f s k) (f k) else gto f s k := rfl
    have e2 : gM f s (k + 1) = if bt s k then (if f k ≤ gM f s k then gM f s k else f k) else gM f s k := rfl
    have e3 : gE f s (k + 1) = if bt s k then (gE f s k && !(decide (f k = -5))) else gE f s k := rfl
    rw [e1, e2, e3]
    by_cases hb1 : bt s k = true
    · rw [if_pos hb1, if_pos hb1, if_pos hb1, ih]
      cases hE : gE f s k with
      | false => rfl
      | true =>
        show gre (gM f s k) (f k) = _
        have hm := nn_m5 (gM_nn f s k)
        unfold gre
        rw [if_neg hm]
        by_cases h5 : f k = -5
        · rw [if_pos h5, decide_eq_true h5]; rfl
        · rw [if_neg h5, decide_eq_false h5]
          show _ = (if f k ≤ gM f s k then gM f s k else f k)
          by_cases h6 : f k ≤ gM f s k
          · rw [if_pos h6]
            by_cases h7 : gM f s k ≤ f k
            · rw [if_pos h7]
              have a1 := Int32.le_iff_toInt_le.mp h6
              have a2 := Int32.le_iff_toInt_le.mp h7
              exact Int32.toInt_inj.mp (by omega)
            · rw [if_neg h7]
          · rw [if_neg h6, if_pos]
            have a1 := Int32.lt_iff_toInt_lt.mp (Int32.not_le.mp h6)
            exact Int32.le_iff_toInt_le.mpr (by omega)
    · rw [if_neg hb1, if_neg hb1, if_neg hb1, ih]
/-- where all is known, the reference's greatest is the class's -/
theorem gN_gto {f : Rows} {s : Int32} {n : Nat} (h : gK f s n = true) : gN f s n = gto f s n := by
  unfold gN
  rw [if_pos h, gto_gM]
theorem gK_t {f : Rows} {s : Int32} : ∀ k, gK f s k = true ↔ ∀ j, j < k → bt s j = true → ¬ f j = -4 := by
  intro k
  induction k with
  | zero => exact ⟨fun _ j hj => absurd hj (Nat.not_lt_zero _), fun _ => rfl⟩
  | succ k ih =>
    have e : gK f s (k + 1) = if bt s k then (gK f s k && !(decide (f k = -4))) else gK f s k := rfl
    rw [e]
    by_cases hb1 : bt s k = true
    · rw [if_pos hb1, Bool.and_eq_true, ih, Bool.not_eq_true', decide_eq_false_iff_not]
      constructor
      · rintro ⟨h1, h2⟩ j hj hj2
        by_cases e : j = k
        · subst e; exact h2
        · exact h1 j (by omega) hj2
      · intro h
        exact ⟨fun j hj => h j (by omega), h k (by omega) hb1⟩
    · rw [if_neg hb1, ih]
      constructor
      · intro h j hj hj2
        by_cases e : j = k
        · subst e; exact absurd hj2 hb1
        · exact h j (by omega) hj2
      · intro h j hj
        exact h j (by omega)
