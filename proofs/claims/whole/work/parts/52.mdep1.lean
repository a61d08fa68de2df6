/-! the reference's greatest -/
def gM (f : Rows) (s : Int32) : Nat → Int32
  | 0 => 0
  | k + 1 => if bt s k then (if f k ≤ gM f s k then gM f s k else f k) else gM f s k
def gK (f : Rows) (s : Int32) : Nat → Bool
  | 0 => true
  | k + 1 => if bt s k then (gK f s k && !(decide (f k = -4))) else gK f s k
def gE (f : Rows) (s : Int32) : Nat → Bool
  | 0 => true
  | k + 1 => if bt s k then (gE f s k && !(decide (f k = -5))) else gE f s k
def gN (f : Rows) (s : Int32) (n : Nat) : Int32 := if gK f s n then (if gE f s n then gM f s n else -5) else -4
def b1 (b : Bool) : Int32 := if b then 1 else 0
theorem b1_0 {b : Bool} (h : b1 b = 0) : b = false := by
  cases b with
  | true => exact absurd h (by decide)
  | false => rfl
theorem b1_1 {b : Bool} (h : ¬ b1 b = 0) : b = true := by
  cases b with
  | true => rfl
  | false => exact absurd rfl h
theorem m_gtL {K : Int32 → pw_Mem → Prop} {KX : Int32 → Int32 → Int32 → Int32 → Int32 → pw_Mem → Prop} {n : Nat} {s : Int32} {σ : pw_Mem} (hn : n ≤ 20) (h0 : σ 49 0 = nI n) (hX : KX s (gM (σ 62) s n) (b1 (gK (σ 62) s n)) (b1 (gE (σ 62) s n)) (nI n) σ) : ∀ (k i : Nat), i + k = n → R_X11_greatest_L10 K KX (k + 1) s (gM (σ 62) s i) (b1 (gK (σ 62) s i)) (b1 (gE (σ 62) s i)) (nI i) σ := by
  intro k
  induction k with
  | zero =>
    intro i hi
    have e : i = n := by omega
    subst e
    unfold R_X11_greatest_L10
    rw [h0]
    exact ⟨fun _ => hX, fun z => absurd (nI_le (Nat.le_refl _) (by omega)) z⟩
  | succ k ih =>
    intro i hi
    have hin : vp_in (nI i) 20 := vp_in_nI (by omega) (by decide)
    have nxt : ∀ a b c, a = gM (σ 62) s (i + 1) → b = b1 (gK (σ 62) s (i + 1)) → c = b1 (gE (σ 62) s (i + 1)) → R_X11_greatest_L10 K KX (k + 1) s a b c (nI (i + 1)) σ := by
      rintro _ _ _ rfl rfl rfl
      exact ih (i + 1) (by omega)
    have eM : gM (σ 62) s (i + 1) = if bt s i then (if σ 62 i ≤ gM (σ 62) s i then gM (σ 62) s i else σ 62 i) else gM (σ 62) s i := rfl
    have eK : gK (σ 62) s (i + 1) = if bt s i then (gK (σ 62) s i && !(decide (σ 62 i = -4))) else gK (σ 62) s i := rfl
    have eE : gE (σ 62) s (i + 1) = if bt s i then (gE (σ 62) s i && !(decide (σ 62 i = -5))) else gE (σ 62) s i := rfl
    unfold R_X11_greatest_L10
    rw [h0, cl_nI (by omega), nI_1]
    refine ⟨fun z => absurd ((nI_leI (by omega) (by omega)).mp z) (by omega), fun _ => ⟨fun q => ?_, fun q => ?_⟩⟩
    · have hb1 : ¬ bt s i = true := fun z => q (ybit (by omega) z)
      exact nxt _ _ _ (by rw [eM, if_neg hb1]) (by rw [eK, if_neg hb1]) (by rw [eE, if_neg hb1])
    · have hb1 : bt s i = true := by
        cases e : bt s i with
        | true => rfl
        | false => exact absurd q (nbit (by omega) e)
      rw [if_pos hb1] at eM eK eE
      have mA : σ 62 i ≤ gM (σ 62) s i → gM (σ 62) s i = gM (σ 62) s (i + 1) := fun z => by rw [eM, if_pos z]
      have mB : ¬ σ 62 i ≤ gM (σ 62) s i → σ 62 i = gM (σ 62) s (i + 1) := fun z => by rw [eM, if_neg z]
      have kA : b1 (gK (σ 62) s i) = 0 → (0 : Int32) = b1 (gK (σ 62) s (i + 1)) := fun z => by rw [eK, b1_0 z]; rfl
      have kB : σ 62 i = -4 → (0 : Int32) = b1 (gK (σ 62) s (i + 1)) := fun z => by rw [eK, decide_eq_true z]; cases gK (σ 62) s i <;> rfl
      have kC : ¬ b1 (gK (σ 62) s i) = 0 → ¬ σ 62 i = -4 → (1 : Int32) = b1 (gK (σ 62) s (i + 1)) := fun z z2 => by rw [eK, b1_1 z, decide_eq_false z2]; rfl
      have eA : b1 (gE (σ 62) s i) = 0 → (0 : Int32) = b1 (gE (σ 62) s (i + 1)) := fun z => by rw [eE, b1_0 z]; rfl
      have eB : σ 62 i = -5 → (0 : Int32) = b1 (gE (σ 62) s (i + 1)) := fun z => by rw [eE, decide_eq_true z]; cases gE (σ 62) s i <;> rfl
      have eC : ¬ b1 (gE (σ 62) s i) = 0 → ¬ σ 62 i = -5 → (1 : Int32) = b1 (gE (σ 62) s (i + 1)) := fun z z2 => by rw [eE, b1_1 z, decide_eq_false z2]; rfl
      exact ⟨fun q5 => ⟨fun q7 => ⟨hin, ⟨fun q9 => nxt _ _ _ (mA q9) (kA q5) (eA q7), fun q9 => ⟨hin, nxt _ _ _ (mB q9) (kA q5) (eA q7)⟩⟩⟩, fun q7 => ⟨hin, ⟨fun q8 => ⟨hin, ⟨fun q9 => nxt _ _ _ (mA q9) (kA q5) (eB q8), fun q9 => ⟨hin, nxt _ _ _ (mB q9) (kA q5) (eB q8)⟩⟩⟩, fun q8 => ⟨hin, ⟨fun q9 => nxt _ _ _ (mA q9) (kA q5) (eC q7 q8), fun q9 => ⟨hin, nxt _ _ _ (mB q9) (kA q5) (eC q7 q8)⟩⟩⟩⟩⟩⟩, fun q5 => ⟨hin, ⟨fun q6 => ⟨fun q7 => ⟨hin, ⟨fun q9 => nxt _ _ _ (mA q9) (kB q6) (eA q7), fun q9 => ⟨hin, nxt _ _ _ (mB q9) (kB q6) (eA q7)⟩⟩⟩, fun q7 => ⟨hin, ⟨fun q8 => ⟨hin, ⟨fun q9 => nxt _ _ _ (mA q9) (kB q6) (eB q8), fun q9 => ⟨hin, nxt _ _ _ (mB q9) (kB q6) (eB q8)⟩⟩⟩, fun q8 => ⟨hin, ⟨fun q9 => nxt _ _ _ (mA q9) (kB q6) (eC q7 q8), fun q9 => ⟨hin, nxt _ _ _ (mB q9) (kB q6) (eC q7 q8)⟩⟩⟩⟩⟩⟩, fun q6 => ⟨fun q7 => ⟨hin, ⟨fun q9 => nxt _ _ _ (mA q9) (kC q5 q6) (eA q7), fun q9 => ⟨hin, nxt _ _ _ (mB q9) (kC q5 q6) (eA q7)⟩⟩⟩, fun q7 => ⟨hin, ⟨fun q8 => ⟨hin, ⟨fun q9 => nxt _ _ _ (mA q9) (kC q5 q6) (eB q8), fun q9 => ⟨hin, nxt _ _ _ (mB q9) (kC q5 q6) (eB q8)⟩⟩⟩, fun q8 => ⟨hin, ⟨fun q9 => nxt _ _ _ (mA q9) (kC q5 q6) (eC q7 q8), fun q9 => ⟨hin, nxt _ _ _ (mB q9) (kC q5 q6) (eC q7 q8)⟩⟩⟩⟩⟩⟩⟩⟩⟩
theorem m_gt {K : Int32 → pw_Mem → Prop} {n : Nat} {s : Int32} {σ : pw_Mem} (hn : n ≤ 20) (h0 : σ 49 0 = nI n) (h : K (gN (σ 62) s n) σ) : R_X11_greatest s σ K := by
  unfold gN at h
  refine ⟨n + 1, m_gtL hn h0 ⟨fun q => ⟨fun q2 => ?_, fun q2 => ?_⟩, fun q => ?_⟩ n 0 (by omega)⟩
  · rw [b1_1 q, b1_0 q2] at h; exact h
  · rw [b1_1 q, b1_1 q2] at h; exact h
  · rw [b1_0 q] at h; exact h
