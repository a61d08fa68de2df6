/-! the reference reckons -/
def oU (P T : Rows) (s : Int32) : Nat → Int32
  | 0 => 0
  | k + 1 => if bt s k then oU P T s k ||| (P k ||| T k) else oU P T s k
def sU (fr t : Rows) (s : Int32) : Nat → Int32
  | 0 => 0
  | k + 1 => if bt s k then sU fr t s k + fr k * t k else sU fr t s k
def eU (t : Rows) (s : Int32) : Nat → Bool
  | 0 => true
  | k + 1 => if bt s k then (eU t s k && !(decide (t k ≤ 0))) else eU t s k
def rkR (n : Nat) (P T fr t f : Rows) (s : Int32) : Int32 := if gN f (oU P T s n &&& (s ^^^ (-1))) n = -4 then -4 else if eU t s n = false then -5 else if gN f (oU P T s n &&& (s ^^^ (-1))) n = -5 then -5 else sU fr t s n + gN f (oU P T s n &&& (s ^^^ (-1))) n
def rk (n : Nat) (P T G fr t f : Rows) (g : Bool) (r : Nat) : Int32 := if g then rkR n P T fr t f (G r) else gN (ow n P T G fr f) (G r) n
theorem m_rkT {K : Int32 → pw_Mem → Prop} {KX : Int32 → Int32 → Int32 → Int32 → Int32 → Int32 → pw_Mem → Prop} {n : Nat} {l1 s : Int32} {σ : pw_Mem} (hn : n ≤ 20) (h0 : σ 49 0 = nI n) {w : Rows} (hw : w = ow n (σ 58) (σ 59) (σ 61) (σ 50) (σ 62)) (hX : KX l1 s (gM w s n) (b1 (gK w s n)) (b1 (gE w s n)) (nI n) σ) : ∀ (k i : Nat), i + k = n → R_X11_reckoned_L168 K KX (k + 1) l1 s (gM w s i) (b1 (gK w s i)) (b1 (gE w s i)) (nI i) σ := by
  intro k
  induction k with
  | zero =>
    intro i hi
    have e : i = n := by omega
    subst e
    unfold R_X11_reckoned_L168
    rw [h0]
    exact ⟨fun _ => hX, fun z => absurd (nI_le (Nat.le_refl _) (by omega)) z⟩
  | succ k ih =>
    intro i hi
    have nxt : ∀ a b c, a = gM w s (i + 1) → b = b1 (gK w s (i + 1)) → c = b1 (gE w s (i + 1)) → R_X11_reckoned_L168 K KX (k + 1) l1 s a b c (nI (i + 1)) σ := by
      rintro _ _ _ rfl rfl rfl
      exact ih (i + 1) (by omega)
    have eM : gM w s (i + 1) = if bt s i then (if w i ≤ gM w s i then gM w s i else w i) else gM w s i := rfl
    have eK : gK w s (i + 1) = if bt s i then (gK w s i && !(decide (w i = -4))) else gK w s i := rfl
    have eE : gE w s (i + 1) = if bt s i then (gE w s i && !(decide (w i = -5))) else gE w s i := rfl
    unfold R_X11_reckoned_L168
    rw [h0, nI_1]
    refine ⟨fun z => absurd ((nI_leI (by omega) (by omega)).mp z) (by omega), fun _ => ⟨fun q => ?_, fun q => ?_⟩⟩
    · have hb1 : ¬ bt s i = true := fun z => q (ybit (by omega) z)
      exact nxt _ _ _ (by rw [eM, if_neg hb1]) (by rw [eK, if_neg hb1]) (by rw [eE, if_neg hb1])
    · have hb1 : bt s i = true := by
        cases e : bt s i with
        | true => rfl
        | false => exact absurd q (nbit (by omega) e)
      rw [if_pos hb1] at eM eK eE
      have mA : w i ≤ gM w s i → gM w s i = gM w s (i + 1) := fun z => by rw [eM, if_pos z]
      have mB : ¬ w i ≤ gM w s i → w i = gM w s (i + 1) := fun z => by rw [eM, if_neg z]
      have kA : b1 (gK w s i) = 0 → (0 : Int32) = b1 (gK w s (i + 1)) := fun z => by rw [eK, b1_0 z]; rfl
      have kB : w i = -4 → (0 : Int32) = b1 (gK w s (i + 1)) := fun z => by rw [eK, decide_eq_true z]; cases gK w s i <;> rfl
      have kC : ¬ b1 (gK w s i) = 0 → ¬ w i = -4 → (1 : Int32) = b1 (gK w s (i + 1)) := fun z z2 => by rw [eK, b1_1 z, decide_eq_false z2]; rfl
      have eA : b1 (gE w s i) = 0 → (0 : Int32) = b1 (gE w s (i + 1)) := fun z => by rw [eE, b1_0 z]; rfl
      have eB : w i = -5 → (0 : Int32) = b1 (gE w s (i + 1)) := fun z => by rw [eE, decide_eq_true z]; cases gE w s i <;> rfl
      have eC : ¬ b1 (gE w s i) = 0 → ¬ w i = -5 → (1 : Int32) = b1 (gE w s (i + 1)) := fun z z2 => by rw [eE, b1_1 z, decide_eq_false z2]; rfl
      refine m_own (by omega) hn h0 ?_
      rw [← hw]
      exact ⟨fun q5 => ⟨fun q7 => ⟨fun q9 => nxt _ _ _ (mA q9) (kA q5) (eA q7), fun q9 => nxt _ _ _ (mB q9) (kA q5) (eA q7)⟩, fun q7 => ⟨fun q8 => ⟨fun q9 => nxt _ _ _ (mA q9) (kA q5) (eB q8), fun q9 => nxt _ _ _ (mB q9) (kA q5) (eB q8)⟩, fun q8 => ⟨fun q9 => nxt _ _ _ (mA q9) (kA q5) (eC q7 q8), fun q9 => nxt _ _ _ (mB q9) (kA q5) (eC q7 q8)⟩⟩⟩, fun q5 => ⟨fun q6 => ⟨fun q7 => ⟨fun q9 => nxt _ _ _ (mA q9) (kB q6) (eA q7), fun q9 => nxt _ _ _ (mB q9) (kB q6) (eA q7)⟩, fun q7 => ⟨fun q8 => ⟨fun q9 => nxt _ _ _ (mA q9) (kB q6) (eB q8), fun q9 => nxt _ _ _ (mB q9) (kB q6) (eB q8)⟩, fun q8 => ⟨fun q9 => nxt _ _ _ (mA q9) (kB q6) (eC q7 q8), fun q9 => nxt _ _ _ (mB q9) (kB q6) (eC q7 q8)⟩⟩⟩, fun q6 => ⟨fun q7 => ⟨fun q9 => nxt _ _ _ (mA q9) (kC q5 q6) (eA q7), fun q9 => nxt _ _ _ (mB q9) (kC q5 q6) (eA q7)⟩, fun q7 => ⟨fun q8 => ⟨fun q9 => nxt _ _ _ (mA q9) (kC q5 q6) (eB q8), fun q9 => nxt _ _ _ (mB q9) (kC q5 q6) (eB q8)⟩, fun q8 => ⟨fun q9 => nxt _ _ _ (mA q9) (kC q5 q6) (eC q7 q8), fun q9 => nxt _ _ _ (mB q9) (kC q5 q6) (eC q7 q8)⟩⟩⟩⟩⟩
theorem m_rkR {K : Int32 → pw_Mem → Prop} {KX : Int32 → Int32 → Int32 → Int32 → Int32 → Int32 → pw_Mem → Prop} {n : Nat} {l1 s : Int32} {σ : pw_Mem} (hn : n ≤ 20) (h0 : σ 49 0 = nI n) (hX : KX l1 s (oU (σ 58) (σ 59) s n) (sU (σ 50) (σ 51) s n) (b1 (eU (σ 51) s n)) (nI n) σ) : ∀ (k i : Nat), i + k = n → R_X11_reckoned_L26 K KX (k + 1) l1 s (oU (σ 58) (σ 59) s i) (sU (σ 50) (σ 51) s i) (b1 (eU (σ 51) s i)) (nI i) σ := by
  intro k
  induction k with
  | zero =>
    intro i hi
    have e : i = n := by omega
    subst e
    unfold R_X11_reckoned_L26
    rw [h0]
    exact ⟨fun _ => hX, fun z => absurd (nI_le (Nat.le_refl _) (by omega)) z⟩
  | succ k ih =>
    intro i hi
    have hin : vp_in (nI i) 20 := vp_in_nI (by omega) (by decide)
    have nxt : ∀ a b c, a = oU (σ 58) (σ 59) s (i + 1) → b = sU (σ 50) (σ 51) s (i + 1) → c = b1 (eU (σ 51) s (i + 1)) → R_X11_reckoned_L26 K KX (k + 1) l1 s a b c (nI (i + 1)) σ := by
      rintro _ _ _ rfl rfl rfl
      exact ih (i + 1) (by omega)
    have eM : oU (σ 58) (σ 59) s (i + 1) = if bt s i then oU (σ 58) (σ 59) s i ||| (σ 58 i ||| σ 59 i) else oU (σ 58) (σ 59) s i := rfl
    have eK : sU (σ 50) (σ 51) s (i + 1) = if bt s i then sU (σ 50) (σ 51) s i + σ 50 i * σ 51 i else sU (σ 50) (σ 51) s i := rfl
    have eE : eU (σ 51) s (i + 1) = if bt s i then (eU (σ 51) s i && !(decide (σ 51 i ≤ 0))) else eU (σ 51) s i := rfl
    unfold R_X11_reckoned_L26
    rw [h0, cl_nI (by omega), nI_1]
    refine ⟨fun z => absurd ((nI_leI (by omega) (by omega)).mp z) (by omega), fun _ => ⟨fun q => ?_, fun q => ?_⟩⟩
    · have hb1 : ¬ bt s i = true := fun z => q (ybit (by omega) z)
      exact nxt _ _ _ (by rw [eM, if_neg hb1]) (by rw [eK, if_neg hb1]) (by rw [eE, if_neg hb1])
    · have hb1 : bt s i = true := by
        cases e : bt s i with
        | true => rfl
        | false => exact absurd q (nbit (by omega) e)
      rw [if_pos hb1] at eM eK eE
      exact ⟨hin, hin, hin, hin, fun q5 => nxt _ _ _ eM.symm eK.symm (by rw [eE, b1_0 q5]; rfl), fun q5 => ⟨hin, fun q6 => nxt _ _ _ eM.symm eK.symm (by rw [eE, decide_eq_true q6]; cases eU (σ 51) s i <;> rfl), fun q6 => nxt _ _ _ eM.symm eK.symm (by rw [eE, b1_1 q5, decide_eq_false q6]; rfl)⟩⟩
theorem m_isRing2 {K : Int32 → pw_Mem → Prop} {n r : Nat} {σ : pw_Mem} (hn : n ≤ 20) (hz : σ 49 0 = nI n) (hb : Bd n (Pp σ) (Tt σ)) (hN : Net n σ) (hr : r < n) (h1 : bt (gG n (Pp σ) (Tt σ)) r = true → K 1 σ) (h0 : bt (gG n (Pp σ) (Tt σ)) r = false → K 0 σ) : R_X11_isRing (nI r) σ K := by
  refine ⟨n + 1, m_isRingL hn hr hz ?_ n 0 (by omega)⟩
  have key : irf (σ 58) (σ 61 r) n = bt (gG n (Pp σ) (Tt σ)) r := by
    refine Bool.eq_iff_iff.mpr ?_
    rw [irf_t, gG_bt hb hn hr]
    constructor
    · rintro ⟨j, hj, g1, g2⟩
      rw [(hN r hr).2.2.2] at g1 g2
      rw [(hN j hj).1] at g2
      exact ⟨j, hj, g1, g2⟩
    · rintro ⟨j, hj, g1, g2⟩
      rw [(hN r hr).2.2.2]
      exact ⟨j, hj, g1, by rw [(hN j hj).1]; exact g2⟩
  rw [key]
  cases hh : bt (gG n (Pp σ) (Tt σ)) r with
  | true => exact ⟨rfl, h1 hh⟩
  | false => exact ⟨rfl, h0 hh⟩
theorem m_reck {K : Int32 → pw_Mem → Prop} {n r : Nat} {σ : pw_Mem} (hn : n ≤ 20) (h0 : σ 49 0 = nI n) (hb : Bd n (Pp σ) (Tt σ)) (hN : Net n σ) (hr : r < n) (h : K (rk n (σ 58) (σ 59) (σ 61) (σ 50) (σ 51) (σ 62) (bt (gG n (Pp σ) (Tt σ)) r) r) σ) : R_X11_reckoned (nI r) σ K := by
  unfold R_X11_reckoned
  rw [cl_nI (by omega)]
  refine ⟨vp_in_nI (by omega) (by decide), m_isRing2 hn h0 hb hN hr (fun hb1 => ⟨fun q => absurd q n01, fun _ => ?_⟩) (fun hb1 => ⟨fun _ => ?_, fun q => absurd rfl q⟩)⟩
  · rw [hb1] at h
    have h2 : K (rkR n (σ 58) (σ 59) (σ 50) (σ 51) (σ 62) (σ 61 r)) σ := h
    unfold rkR at h2
    refine ⟨n + 1, m_rkR hn h0 (m_gt hn h0 ⟨fun q1 => ⟨fun q2 => ?_, fun q2 => ⟨fun q3 => ?_, fun q3 => ?_⟩⟩, fun q1 => ?_⟩) n 0 (by omega)⟩
    · rw [if_neg q1, if_pos (b1_0 q2)] at h2; exact h2
    · rw [if_neg q1, if_neg (by rw [b1_1 q2]; decide), if_neg q3] at h2; exact h2
    · rw [if_neg q1, if_neg (by rw [b1_1 q2]; decide), if_pos q3] at h2; exact h2
    · rw [if_pos q1] at h2; exact h2
  · rw [hb1] at h
    have h2 : K (gN (ow n (σ 58) (σ 59) (σ 61) (σ 50) (σ 62)) (σ 61 r) n) σ := h
    unfold gN at h2
    refine ⟨n + 1, m_rkT hn h0 rfl ⟨fun q => ⟨fun q2 => ?_, fun q2 => ?_⟩, fun q => ?_⟩ n 0 (by omega)⟩
    · rw [b1_1 q, b1_0 q2] at h2; exact h2
    · rw [b1_1 q, b1_1 q2] at h2; exact h2
    · rw [b1_0 q] at h2; exact h2
/-! the same as the equations say -/
theorem gto_nI {B : Nat} (hB : B < 2 ^ 31) {f : Rows} {s : Int32} (n : Nat) (h : ∀ j, j < n → bt s j = true → GL B (f j) (f j)) : gto f s n = -5 ∨ ∃ i, i ≤ B ∧ gto f s n = nI i := by
  rcases gto_GL hB n h with h | ⟨i, j, h1, h2, h3, h4⟩
  · exact Or.inl h.1
  · exact Or.inr ⟨j, h2, h4⟩
theorem gN_4 {f : Rows} {s : Int32} {n : Nat} : gN f s n = -4 ↔ gK f s n = false := by
  unfold gN
  cases gK f s n with
  | false => exact ⟨fun _ => rfl, fun _ => rfl⟩
  | true =>
    refine ⟨fun h => ?_, fun h => Bool.noConfusion h⟩
    rw [if_pos rfl] at h
    cases he : gE f s n with
    | true =>
      rw [he, if_pos rfl] at h
      have := gM_nn f s n
      rw [h] at this
      exact absurd this (by decide)
    | false =>
      rw [he] at h
      have h5 : (-5 : Int32) = -4 := h
      exact absurd h5 (by decide)
/-- a key: endless is the greatest -/
def ky (a : Int32) : Int := if a = -5 then 5000000000 else a.toInt
theorem ky_inj {a b : Int32} (h : ky a = ky b) : a = b := by
  unfold ky at h
  have h1 := Int32.toInt_lt a
  have h2 := Int32.toInt_lt b
  by_cases ha : a = -5
  · rw [if_pos ha] at h
    by_cases hb1 : b = -5
    · rw [ha, hb1]
    · rw [if_neg hb1] at h; omega
  · rw [if_neg ha] at h
    by_cases hb1 : b = -5
    · rw [if_pos hb1] at h; omega
    · rw [if_neg hb1] at h; exact Int32.toInt_inj.mp h
theorem ky_gre (a b : Int32) : ky (gre a b) = max (ky a) (ky b) := by
  have h1 := Int32.toInt_lt a
  have h2 := Int32.toInt_lt b
  by_cases ha : a = -5
  · subst ha
    rw [gre_5l]
    have e : ky (-5) = 5000000000 := rfl
    rw [e]
    unfold ky
    split <;> omega
  · by_cases hb1 : b = -5
    · subst hb1
      rw [gre_5r]
      have e : ky (-5) = 5000000000 := rfl
      rw [e]
      unfold ky
      split <;> omega
    · have e1 : ky a = a.toInt := if_neg ha
      have e2 : ky b = b.toInt := if_neg hb1
      rw [e1, e2]
      unfold gre
      rw [if_neg ha, if_neg hb1]
      by_cases h : a ≤ b
      · rw [if_pos h, e2]
        have := Int32.le_iff_toInt_le.mp h
        omega
      · rw [if_neg h, e1]
        have := Int32.lt_iff_toInt_lt.mp (Int32.not_le.mp h)
        omega
theorem gto_or {f : Rows} {x y : Int32} : ∀ k, gto f (x ||| y) k = gre (gto f x k) (gto f y k) := by
  intro k
  induction k with
  | zero => rfl
  | succ k ih =>
    have e1 : gto f (x ||| y) (k + 1) = if bt (x ||| y) k then gre (gto f (x ||| y) k) (f k) else gto f (x ||| y) k := rfl
    have e2 : gto f x (k + 1) = if bt x k then gre (gto f x k) (f k) else gto f x k := rfl
    have e3 : gto f y (k + 1) = if bt y k then gre (gto f y k) (f k) else gto f y k := rfl
    have ik : ky (gto f (x ||| y) k) = max (ky (gto f x k)) (ky (gto f y k)) := by rw [ih, ky_gre]
    apply ky_inj
    rw [e1, e2, e3, b_or, ky_gre]
    cases bt x k <;> cases bt y k
    · show ky (gto f (x ||| y) k) = max (ky (gto f x k)) (ky (gto f y k))
      exact ik
    · show ky (gre (gto f (x ||| y) k) (f k)) = max (ky (gto f x k)) (ky (gre (gto f y k) (f k)))
      rw [ky_gre, ky_gre]; omega
    · show ky (gre (gto f (x ||| y) k) (f k)) = max (ky (gre (gto f x k) (f k))) (ky (gto f y k))
      rw [ky_gre, ky_gre]; omega
    · show ky (gre (gto f (x ||| y) k) (f k)) = max (ky (gre (gto f x k) (f k))) (ky (gre (gto f y k) (f k)))
      rw [ky_gre, ky_gre, ky_gre]; omega
theorem or_and (x y c : Int32) : (x ||| y) &&& c = (x &&& c) ||| (y &&& c) := b_ext (fun i _ => by
  rw [b_and, b_or, b_or, b_and, b_and]
  cases bt x i <;> cases bt y i <;> cases bt c i <;> rfl)
theorem gto_0 {f : Rows} : ∀ k, gto f 0 k = 0 := by
  intro k
  induction k with
  | zero => rfl
  | succ k ih =>
    have e1 : gto f 0 (k + 1) = if bt 0 k then gre (gto f 0 k) (f k) else gto f 0 k := rfl
    rw [e1, b_0, ih]; rfl
theorem drg_U {n : Nat} {P T fr t f : Rows} {s : Int32} (ht : ∀ j, j < n → ∃ m, m ≤ 20 ∧ t j = nI m) : ∀ k, k ≤ n → drg n P T fr t f s k = if eU t s k then some (sU fr t s k, gto f (oU P T s k &&& (s ^^^ (-1))) n) else none := by
  intro k
  induction k with
  | zero =>
    intro _
    show some ((0 : Int32), (0 : Int32)) = some ((0 : Int32), gto f (0 &&& (s ^^^ (-1))) n)
    have e : (0 : Int32) &&& (s ^^^ (-1)) = 0 := b_ext (fun i _ => by rw [b_and, b_0]; rfl)
    rw [e, gto_0]
  | succ k ih =>
    intro hk
    have e2 : drg n P T fr t f s (k + 1) = (match drg n P T fr t f s k with
      | none => none
      | some q => if bt s k then (if t k = 0 then none else some (q.1 + fr k * t k, gre q.2 (gto f ((P k ||| T k) &&& (s ^^^ (-1))) n))) else some q) := rfl
    have eM : oU P T s (k + 1) = if bt s k then oU P T s k ||| (P k ||| T k) else oU P T s k := rfl
    have eK : sU fr t s (k + 1) = if bt s k then sU fr t s k + fr k * t k else sU fr t s k := rfl
    have eE : eU t s (k + 1) = if bt s k then (eU t s k && !(decide (t k ≤ 0))) else eU t s k := rfl
    obtain ⟨m, m1, m2⟩ := ht k (by omega)
    have hz : t k ≤ 0 ↔ t k = 0 := by
      rw [m2]
      constructor
      · intro z
        rw [← nI_0, nI_leI (by omega) (by omega)] at z
        have : m = 0 := by omega
        rw [this, nI_0]
      · intro z; rw [z]; exact Int32.le_refl _
    rw [e2, ih (by omega), eM, eK, eE]
    by_cases hb1 : bt s k = true
    · rw [if_pos hb1, if_pos hb1, if_pos hb1, or_and (oU P T s k) (P k ||| T k), gto_or (x := oU P T s k &&& (s ^^^ (-1))) (y := (P k ||| T k) &&& (s ^^^ (-1)))]
      cases eU t s k with
      | false => rfl
      | true =>
        show (if bt s k then (if t k = 0 then none else some (sU fr t s k + fr k * t k, gre (gto f (oU P T s k &&& (s ^^^ (-1))) n) (gto f ((P k ||| T k) &&& (s ^^^ (-1))) n))) else some (sU fr t s k, gto f (oU P T s k &&& (s ^^^ (-1))) n)) = _
        rw [if_pos hb1]
        by_cases h0 : t k = 0
        · rw [if_pos h0, decide_eq_true (hz.mpr h0)]; rfl
        · rw [if_neg h0, decide_eq_false (fun z => h0 (hz.mp z))]; rfl
    · rw [if_neg hb1, if_neg hb1, if_neg hb1]
      cases eU t s k with
      | false => rfl
      | true =>
        show (if bt s k then (if t k = 0 then none else some (sU fr t s k + fr k * t k, gre (gto f (oU P T s k &&& (s ^^^ (-1))) n) (gto f ((P k ||| T k) &&& (s ^^^ (-1))) n))) else some (sU fr t s k, gto f (oU P T s k &&& (s ^^^ (-1))) n)) = _
        rw [if_neg hb1]; rfl
theorem sU_nI {n : Nat} {fr t : Rows} {s : Int32} (hfr : ∀ j, j < n → ∃ b, b ≤ 500 ∧ fr j = nI b) (ht : ∀ j, j < n → ∃ m, m ≤ 20 ∧ t j = nI m) : ∀ k, k ≤ n → ∃ i, i ≤ 10000 * k ∧ sU fr t s k = nI i := by
  intro k
  induction k with
  | zero => intro _; exact ⟨0, Nat.le_refl _, nI_0.symm⟩
  | succ k ih =>
    intro hk
    obtain ⟨i, h1, h2⟩ := ih (by omega)
    have eK : sU fr t s (k + 1) = if bt s k then sU fr t s k + fr k * t k else sU fr t s k := rfl
    rw [eK]
    obtain ⟨b, b1, b2⟩ := hfr k (by omega)
    obtain ⟨m, m1, m2⟩ := ht k (by omega)
    have g2 : b * m ≤ 500 * 20 := Nat.mul_le_mul b1 m1
    by_cases hb1 : bt s k = true
    · rw [if_pos hb1, h2, b2, m2, nI_mul, nI_add]; exact ⟨_, by omega, rfl⟩
    · rw [if_neg hb1]; exact ⟨i, by omega, h2⟩
theorem oU_bt {P T : Rows} {s : Int32} {j : Nat} : ∀ k, bt (oU P T s k) j = true ↔ ∃ a, a < k ∧ bt s a = true ∧ (bt (P a) j = true ∨ bt (T a) j = true) := by
  intro k
  induction k with
  | zero => exact ⟨fun h => Bool.noConfusion ((b_0 j).symm.trans h), fun ⟨a, h, _⟩ => absurd h (Nat.not_lt_zero _)⟩
  | succ k ih =>
    have eM : oU P T s (k + 1) = if bt s k then oU P T s k ||| (P k ||| T k) else oU P T s k := rfl
    rw [eM]
    by_cases hb1 : bt s k = true
    · rw [if_pos hb1, bt_or1, ih, bt_or1]
      constructor
      · rintro (⟨a, h1, h2⟩ | h)
        · exact ⟨a, by omega, h2⟩
        · exact ⟨k, by omega, hb1, h⟩
      · rintro ⟨a, h1, h2, h3⟩
        by_cases e : a = k
        · subst e; exact Or.inr h3
        · exact Or.inl ⟨a, by omega, h2, h3⟩
    · rw [if_neg hb1, ih]
      constructor
      · rintro ⟨a, h1, h2⟩; exact ⟨a, by omega, h2⟩
      · rintro ⟨a, h1, h2, h3⟩
        by_cases e : a = k
        · subst e; exact absurd h2 hb1
        · exact ⟨a, by omega, h2, h3⟩
section RK
variable {n : Nat} {P T fr t f : Rows} {B : Nat}
theorem dp_O {r j : Nat} (hj : j < 32) (h : bt (oU P T (gT n P T r) n &&& (gT n P T r ^^^ (-1))) j = true) : Dp n P T r j := by
  rw [b_and, Bool.and_eq_true, bt_not hj, Bool.not_eq_true', oU_bt] at h
  obtain ⟨⟨a, h1, h2, h3⟩, h4⟩ := h
  exact ⟨a, h1, h2, h3, h4⟩
theorem ow_4 {G : Rows} {k : Nat} (h : ¬ ow n P T G fr f k = -4) : gK f (P k) n = true ∧ gK f (T k &&& (G k ^^^ (-1))) n = true := by
  unfold ow at h
  by_cases h1 : gN f (P k) n = -4
  · rw [if_pos h1] at h; exact absurd rfl h
  · rw [if_neg h1] at h
    by_cases h2 : gN f (T k &&& (G k ^^^ (-1))) n = -4
    · rw [if_pos h2] at h; exact absurd rfl h
    · rw [gN_4, Bool.not_eq_false] at h1 h2
      exact ⟨h1, h2⟩
theorem ow_dIt {G : Rows} {k : Nat} (hB : B < 2 ^ 30) (hfr : ∃ b, b ≤ 500 ∧ fr k = nI b) (h1 : ∀ j, j < n → bt (P k) j = true → ¬ f j = -4 ∧ GL B (f j) (f j)) (h2 : ∀ j, j < n → bt (T k &&& (G k ^^^ (-1))) j = true → ¬ f j = -4 ∧ GL B (f j) (f j)) : ow n P T G fr f k = dIt n P T G fr f k ∧ ¬ dIt n P T G fr f k = -4 := by
  have k1 : gK f (P k) n = true := (gK_t n).mpr (fun j hj hj2 => (h1 j hj hj2).1)
  have k2 : gK f (T k &&& (G k ^^^ (-1))) n = true := (gK_t n).mpr (fun j hj hj2 => (h2 j hj hj2).1)
  have n1 := gto_nI (B := B) (by omega) n (fun j hj hj2 => (h1 j hj hj2).2)
  have n2 := gto_nI (B := B) (by omega) n (fun j hj hj2 => (h2 j hj hj2).2)
  unfold ow dIt
  rw [gN_gto k1, gN_gto k2]
  obtain ⟨b, b1, b2⟩ := hfr
  rw [b2]
  have m54 : ¬ (-5 : Int32) = -4 := by decide
  rcases n1 with n1 | ⟨x, x1, x2⟩
  · rw [n1, if_neg m54, pls_5r, gre_5l, if_pos rfl]
    rcases n2 with n2 | ⟨y, y1, y2⟩
    · rw [n2, if_neg m54]; exact ⟨rfl, m54⟩
    · rw [y2, if_neg (nI_m4 (by omega))]; exact ⟨rfl, m54⟩
  · rw [x2, if_neg (nI_m4 (by omega)), if_neg (nI_m5 (by omega)), pls_nI (by omega) (by omega)]
    rcases n2 with n2 | ⟨y, y1, y2⟩
    · rw [n2, if_neg m54, if_pos rfl, gre_5r]; exact ⟨rfl, m54⟩
    · rw [y2, if_neg (nI_m4 (by omega)), if_neg (nI_m5 (by omega)), gre_nI (by omega) (by omega), nI_add]
      refine ⟨?_, nI_m4 (by omega)⟩
      by_cases h : b + x ≤ y
      · rw [if_pos ((nI_leI (by omega) (by omega)).mpr h), Nat.max_eq_right h]
      · rw [if_neg (fun z => h ((nI_leI (by omega) (by omega)).mp z)), Nat.max_eq_left (by omega)]
theorem rk_kn (hb : Bd n P T) (hn : n ≤ 20) {r : Nat} (hr : r < n) (h : ¬ rk n P T (gT n P T) fr t f (bt (gG n P T) r) r = -4) : ∀ j, j < n → Dp n P T r j → ¬ f j = -4 := by
  intro j hj ⟨k, h1, h2, h3, h4⟩
  unfold rk at h
  by_cases hg : bt (gG n P T) r = true
  · rw [if_pos hg] at h
    have h5 : gK f (oU P T (gT n P T r) n &&& (gT n P T r ^^^ (-1))) n = true := by
      cases e : gK f (oU P T (gT n P T r) n &&& (gT n P T r ^^^ (-1))) n with
      | true => rfl
      | false =>
        unfold rkR at h
        rw [if_pos (gN_4.mpr e)] at h
        exact absurd rfl h
    refine (gK_t n).mp h5 j hj ?_
    rw [b_and, Bool.and_eq_true, bt_not (by omega), Bool.not_eq_true', oU_bt]
    exact ⟨⟨k, h1, h2, h3⟩, h4⟩
  · rw [if_neg hg, gN_4, Bool.not_eq_false] at h
    have h6 := ow_4 ((gK_t n).mp h k h1 h2)
    rcases h3 with h3 | h3
    · exact (gK_t n).mp h6.1 j hj h3
    · refine (gK_t n).mp h6.2 j hj ?_
      rw [b_and, Bool.and_eq_true, bt_not (by omega), Bool.not_eq_true', gT_eq hb hn hr h2]
      exact ⟨h3, h4⟩
theorem gN_cg {f g : Rows} {s : Int32} (n : Nat) (h : ∀ j, j < n → bt s j = true → f j = g j) : gN f s n = gN g s n := by
  have e : ∀ k, k ≤ n → gM f s k = gM g s k ∧ gK f s k = gK g s k ∧ gE f s k = gE g s k := by
    intro k
    induction k with
    | zero => intro _; exact ⟨rfl, rfl, rfl⟩
    | succ k ih =>
      intro hk
      obtain ⟨i1, i2, i3⟩ := ih (by omega)
      have a1 : gM f s (k + 1) = if bt s k then (if f k ≤ gM f s k then gM f s k else f k) else gM f s k := rfl
      have a2 : gK f s (k + 1) = if bt s k then (gK f s k && !(decide (f k = -4))) else gK f s k := rfl
      have a3 : gE f s (k + 1) = if bt s k then (gE f s k && !(decide (f k = -5))) else gE f s k := rfl
      have c1 : gM g s (k + 1) = if bt s k then (if g k ≤ gM g s k then gM g s k else g k) else gM g s k := rfl
      have c2 : gK g s (k + 1) = if bt s k then (gK g s k && !(decide (g k = -4))) else gK g s k := rfl
      have c3 : gE g s (k + 1) = if bt s k then (gE g s k && !(decide (g k = -5))) else gE g s k := rfl
      rw [a1, a2, a3, c1, c2, c3, i1, i2, i3]
      by_cases hb1 : bt s k = true
      · rw [h k (by omega) hb1]; exact ⟨rfl, rfl, rfl⟩
      · rw [if_neg hb1, if_neg hb1, if_neg hb1, if_neg hb1, if_neg hb1, if_neg hb1]; exact ⟨rfl, rfl, rfl⟩
  obtain ⟨e1, e2, e3⟩ := e n (Nat.le_refl _)
  unfold gN
  rw [e1, e2, e3]
theorem rk_rhs (hb : Bd n P T) (hn : n ≤ 20) (hB : B < 2 ^ 29) (hfr : ∀ j, j < n → ∃ b, b ≤ 500 ∧ fr j = nI b) (ht : ∀ j, j < n → ∃ m, m ≤ 20 ∧ t j = nI m) {r : Nat} (hr : r < n) (h : ∀ j, j < n → Dp n P T r j → ¬ f j = -4 ∧ GL B (f j) (f j)) : rk n P T (gT n P T) fr t f (bt (gG n P T) r) r = rhs n P T fr t f r := by
  unfold rk rhs
  by_cases hg : bt (gG n P T) r = true
  · rw [if_pos hg, if_pos hg]
    have k1 : gK f (oU P T (gT n P T r) n &&& (gT n P T r ^^^ (-1))) n = true := (gK_t n).mpr (fun j hj hj2 => (h j hj (dp_O (by omega) hj2)).1)
    have n1 := gto_nI (B := B) (by omega) n (fun j hj (hj2 : bt (oU P T (gT n P T r) n &&& (gT n P T r ^^^ (-1))) j = true) => (h j hj (dp_O (by omega) hj2)).2)
    obtain ⟨i, i1, i2⟩ := sU_nI (s := gT n P T r) hfr ht n (Nat.le_refl _)
    unfold rkR dRg
    rw [drg_U ht n (Nat.le_refl _), gN_gto k1, i2]
    have m54 : ¬ (-5 : Int32) = -4 := by decide
    rcases n1 with n1 | ⟨x, x1, x2⟩
    · rw [n1, if_neg m54, if_pos rfl]
      cases eU t (gT n P T r) n with
      | false => rfl
      | true =>
        show (if (true = false) then (-5 : Int32) else -5) = pls (nI i) (-5)
        rw [pls_5r]; rfl
    · rw [x2, if_neg (nI_m4 (by omega)), if_neg (nI_m5 (by omega))]
      cases eU t (gT n P T r) n with
      | false => rfl
      | true =>
        show (if (true = false) then (-5 : Int32) else nI i + nI x) = pls (nI i) (nI x)
        rw [if_neg (by decide), pls_nI (by omega) (by omega), nI_add]
  · rw [if_neg hg, if_neg hg, dTl_gto]
    have e : ∀ k, k < n → bt (gT n P T r) k = true → ow n P T (gT n P T) fr f k = dIt n P T (gT n P T) fr f k ∧ ¬ dIt n P T (gT n P T) fr f k = -4 := fun k hk hk2 =>
      ow_dIt (B := B) (by omega) (hfr k hk) (fun j hj hj2 => h j hj (dp_P hb hn hr hg hk hk2 hj2)) (fun j hj hj2 => h j hj (dp_T hb hn (by omega) hr hk hk2 hj2))
    rw [gN_cg n (fun k hk hk2 => (e k hk hk2).1)]
    exact gN_gto ((gK_t n).mpr (fun k hk hk2 => (e k hk hk2).2))
end RK
