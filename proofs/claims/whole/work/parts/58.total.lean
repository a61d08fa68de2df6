/-! total -/
section TOT
/-- the greatest of the interrupts of a rank, below k -/
def gA (a b c f : Rows) (q : Int32) : Nat → Int32
  | 0 => 0
  | k + 1 => if a k = q then gre (gA a b c f q k) (pls (c k) (f (Int32.toNatClampNeg (b k)))) else gA a b c f q k
def tA (m : Nat) (a b c f : Rows) (r : Nat) : Nat → Int32
  | 0 => 0
  | k + 1 => pls (tA m a b c f r k) (gA a b c f (nI (r + 1 + k)) m)
/-- what stands on top of rank r -/
def tp (m : Nat) (a b c f : Rows) (r : Nat) : Int32 := tA m a b c f r (7 - r)
variable {n m : Nat} {a b c f f' : Rows} {K : Int32 → pw_Mem → Prop} {σ : pw_Mem}
def Ik (n m : Nat) (b c : Rows) : Prop := ∀ i, i < m → ok (b i) n ∧ ok (c i) 101
theorem gA_GL (h : Ik n m b c) (hn : n ≤ 20) (hf : ∀ r, r < n → GL 4200000 (f' r) (f r)) {q : Int32} : ∀ k, k ≤ m → GL 4200100 (gA a b c f' q k) (gA a b c f q k) := by
  intro k
  induction k with
  | zero => intro _; exact GL.zero _
  | succ k ih =>
    intro hk
    have h1 := ih (by omega)
    have e1 : gA a b c f' q (k + 1) = if a k = q then gre (gA a b c f' q k) (pls (c k) (f' (Int32.toNatClampNeg (b k)))) else gA a b c f' q k := rfl
    have e2 : gA a b c f q (k + 1) = if a k = q then gre (gA a b c f q k) (pls (c k) (f (Int32.toNatClampNeg (b k)))) else gA a b c f q k := rfl
    rw [e1, e2]
    by_cases e : a k = q
    · rw [if_pos e, if_pos e]
      obtain ⟨⟨j, hj, ej⟩, ⟨s, hs, es⟩⟩ := h k (by omega)
      rw [ej, cl_nI (by omega), es]
      exact GL.gre (by omega) h1 ((GL.pls (A := 100) (by omega) (Or.inr ⟨s, s, Nat.le_refl _, by omega, rfl, rfl⟩) (hf j hj)).mono (by omega))
    · rw [if_neg e, if_neg e]; exact h1
theorem tA_GL (h : Ik n m b c) (hn : n ≤ 20) (hf : ∀ r, r < n → GL 4200000 (f' r) (f r)) {r : Nat} : ∀ k, k ≤ 7 → GL (4200100 * k) (tA m a b c f' r k) (tA m a b c f r k) := by
  intro k
  induction k with
  | zero => intro _; exact GL.zero _
  | succ k ih => intro hk; exact GL.pls (A := 4200100 * k) (by omega) (ih (by omega)) (gA_GL h hn hf m (Nat.le_refl _))
theorem gA_cg (h : Ik n m b c) (hn : n ≤ 20) (hf : ∀ r, r < n → f' r = f r) {q : Int32} : ∀ k, k ≤ m → gA a b c f' q k = gA a b c f q k := by
  intro k
  induction k with
  | zero => intro _; rfl
  | succ k ih =>
    intro hk
    have e1 : gA a b c f' q (k + 1) = if a k = q then gre (gA a b c f' q k) (pls (c k) (f' (Int32.toNatClampNeg (b k)))) else gA a b c f' q k := rfl
    have e2 : gA a b c f q (k + 1) = if a k = q then gre (gA a b c f q k) (pls (c k) (f (Int32.toNatClampNeg (b k)))) else gA a b c f q k := rfl
    obtain ⟨⟨j, hj, ej⟩, _⟩ := h k (by omega)
    rw [e1, e2, ih (by omega), ej, cl_nI (by omega), hf j hj]
theorem tA_cg (h : Ik n m b c) (hn : n ≤ 20) (hf : ∀ r, r < n → f' r = f r) {r : Nat} : ∀ k, tA m a b c f' r k = tA m a b c f r k := by
  intro k
  induction k with
  | zero => rfl
  | succ k ih =>
    have e1 : tA m a b c f' r (k + 1) = pls (tA m a b c f' r k) (gA a b c f' (nI (r + 1 + k)) m) := rfl
    have e2 : tA m a b c f r (k + 1) = pls (tA m a b c f r k) (gA a b c f (nI (r + 1 + k)) m) := rfl
    rw [e1, e2, ih, gA_cg h hn hf m (Nat.le_refl _)]
theorem gA_5 {q : Int32} {i : Nat} (h : gA a b c f q i = -5) : ∀ k, gA a b c f q (i + k) = -5 := by
  intro k
  induction k with
  | zero => exact h
  | succ k ih =>
    have e1 : gA a b c f q (i + (k + 1)) = if a (i + k) = q then gre (gA a b c f q (i + k)) (pls (c (i + k)) (f (Int32.toNatClampNeg (b (i + k))))) else gA a b c f q (i + k) := rfl
    rw [e1, ih, gre_5l]
    by_cases e : a (i + k) = q
    · rw [if_pos e]
    · rw [if_neg e]
theorem tA_5 {r i : Nat} (h : tA m a b c f r i = -5) : ∀ k, tA m a b c f r (i + k) = -5 := by
  intro k
  induction k with
  | zero => exact h
  | succ k ih =>
    have e1 : tA m a b c f r (i + (k + 1)) = pls (tA m a b c f r (i + k)) (gA a b c f (nI (r + 1 + (i + k))) m) := rfl
    rw [e1, ih, pls_5l]
theorem e_gAL {KX : Int32 → Int32 → Int32 → pw_Mem → Prop} {q : Int32} (hn : n ≤ 20) (hm : m ≤ 8) (h0 : σ 22 3 = nI m) (h : Ik n m (σ 24) (σ 25)) (hX : KX q (gA (σ 23) (σ 24) (σ 25) (σ 21) q m) (nI m) σ) : ∀ (k i : Nat), i + k = m → R_X3_greatestAt_L5 K KX (k + 1) q (gA (σ 23) (σ 24) (σ 25) (σ 21) q i) (nI i) σ := by
  intro k
  induction k with
  | zero =>
    intro i hi
    have e : i = m := by omega
    subst e
    unfold R_X3_greatestAt_L5
    rw [h0]
    exact ⟨fun _ => hX, fun z => absurd (nI_le (Nat.le_refl _) (by omega)) z⟩
  | succ k ih =>
    intro i hi
    have h2 := ih (i + 1) (by omega)
    have e : gA (σ 23) (σ 24) (σ 25) (σ 21) q (i + 1) = if σ 23 i = q then gre (gA (σ 23) (σ 24) (σ 25) (σ 21) q i) (pls (σ 25 i) (σ 21 (Int32.toNatClampNeg (σ 24 i)))) else gA (σ 23) (σ 24) (σ 25) (σ 21) q i := rfl
    rw [e] at h2
    have hin : vp_in (nI i) 8 := vp_in_nI (by omega) (by decide)
    unfold R_X3_greatestAt_L5
    rw [h0, nI_1, cl_nI (by omega)]
    refine ⟨fun z => absurd ((nI_leI (by omega) (by omega)).mp z) (by omega), fun _ => ⟨hin, fun z => ?_, fun z => ⟨hin, hin, ok_in (h i (by omega)).1 hn (by decide), ?_⟩⟩⟩
    · rw [if_neg z] at h2; exact h2
    · rw [if_pos z] at h2; exact e_pls (e_gre h2)
theorem e_gA {q : Int32} (hn : n ≤ 20) (hm : m ≤ 8) (h0 : σ 22 3 = nI m) (h : Ik n m (σ 24) (σ 25)) (hX : K (gA (σ 23) (σ 24) (σ 25) (σ 21) q m) σ) : R_X3_greatestAt q σ K := ⟨m + 1, e_gAL hn hm h0 h hX m 0 (by omega)⟩
theorem e_tAL {KX : Int32 → Int32 → Int32 → pw_Mem → Prop} {r : Nat} (hr : r < 8) (hn : n ≤ 20) (hm : m ≤ 8) (h0 : σ 22 3 = nI m) (h : Ik n m (σ 24) (σ 25)) (hX : KX (nI r) (tp m (σ 23) (σ 24) (σ 25) (σ 21) r) (nI 8) σ) : ∀ (k i : Nat), i + k = 7 - r → R_X3_topAbove_L7 K KX (k + 1) (nI r) (tA m (σ 23) (σ 24) (σ 25) (σ 21) r i) (nI (r + 1 + i)) σ := by
  intro k
  induction k with
  | zero =>
    intro i hi
    have e : i = 7 - r := by omega
    subst e
    unfold R_X3_topAbove_L7
    have e8 : r + 1 + (7 - r) = 8 := by omega
    rw [e8]
    exact ⟨fun _ => hX, fun z => absurd (show (7 : Int32) < nI 8 by decide) z⟩
  | succ k ih =>
    intro i hi
    have h2 := ih (i + 1) (by omega)
    have e : tA m (σ 23) (σ 24) (σ 25) (σ 21) r (i + 1) = pls (tA m (σ 23) (σ 24) (σ 25) (σ 21) r i) (gA (σ 23) (σ 24) (σ 25) (σ 21) (nI (r + 1 + i)) m) := rfl
    rw [e] at h2
    unfold R_X3_topAbove_L7
    refine ⟨fun z => absurd ((nI_ltI (a := 7) (by decide) (by omega)).mp z) (by omega), fun _ => e_gA hn hm h0 h (e_pls ?_)⟩
    rw [nI_1]
    exact h2
theorem e_top {r : Nat} (hr : r < 8) (hn : n ≤ 20) (hm : m ≤ 8) (h0 : σ 22 3 = nI m) (h : Ik n m (σ 24) (σ 25)) (hX : K (tp m (σ 23) (σ 24) (σ 25) (σ 21) r) σ) : R_X3_topAbove (nI r) σ K := by
  refine ⟨7 - r + 1, ?_⟩
  rw [nI_1]
  exact e_tAL hr hn hm h0 h hX (7 - r) 0 (by omega)
theorem m_gAL {KX : Int32 → Int32 → Int32 → Int32 → Int32 → pw_Mem → Prop} {l1 l2 q : Int32} (hn : n ≤ 20) (hm : m ≤ 8) (h0 : σ 49 15 = nI m) (h : Ik n m b c) (ha : ∀ i, i < m → σ 63 i = a i ∧ σ 64 i = b i ∧ σ 65 i = c i) (hf : ∀ r, r < n → GL 4200000 (σ 62 r) (σ 62 r)) (h5 : gA a b c (σ 62) q m = -5 → K (-5) σ) (hX : ¬ gA a b c (σ 62) q m = -5 → KX l1 l2 q (gA a b c (σ 62) q m) (nI m) σ) : ∀ (k i : Nat), i + k = m → ¬ gA a b c (σ 62) q i = -5 → R_X11_top_L23 K KX (k + 1) l1 l2 q (gA a b c (σ 62) q i) (nI i) σ := by
  intro k
  induction k with
  | zero =>
    intro i hi hne
    have e : i = m := by omega
    subst e
    unfold R_X11_top_L23
    rw [h0]
    exact ⟨fun _ => hX hne, fun z => absurd (nI_le (Nat.le_refl _) (by omega)) z⟩
  | succ k ih =>
    intro i hi hne
    have h2 := ih (i + 1) (by omega)
    have e : gA a b c (σ 62) q (i + 1) = if a i = q then gre (gA a b c (σ 62) q i) (pls (c i) (σ 62 (Int32.toNatClampNeg (b i)))) else gA a b c (σ 62) q i := rfl
    have hin : vp_in (nI i) 8 := vp_in_nI (by omega) (by decide)
    obtain ⟨a1, a2, a3⟩ := ha i (by omega)
    obtain ⟨⟨j, hj, ej⟩, ⟨s, hs, es⟩⟩ := h i (by omega)
    have hg := gA_GL (a := a) (q := q) h hn hf i (by omega)
    have hjn : vp_in (nI j) 20 := vp_in_nI (by omega) (by decide)
    unfold R_X11_top_L23
    rw [h0, nI_1, cl_nI (show i < 2 ^ 31 by omega), a1, a2, a3, ej, cl_nI (show j < 2 ^ 31 by omega)]
    refine ⟨fun z => absurd ((nI_leI (by omega) (by omega)).mp z) (by omega), fun _ => ⟨hin, fun z => ?_, fun z => ⟨hin, hjn, fun z2 => ⟨hin, ?_⟩, fun z2 => ?_⟩⟩⟩
    · rw [e, if_neg z] at h2; exact h2 hne
    · rw [ej, cl_nI (show j < 2 ^ 31 by omega), if_pos z] at e
      rcases hf j hj with ⟨w, _⟩ | ⟨v, v', w1, w2, w3, _⟩
      · exact absurd w z2
      · rcases hg with ⟨w, _⟩ | ⟨u, u', w4, w5, w6, _⟩
        · exact absurd w hne
        · rw [w3, es, pls_nI (by omega) (by omega), w6, gre_nI (by omega) (by omega)] at e
          have h3 := h2 (by rw [e]; exact nI_m5 (by omega))
          rw [e] at h3
          rw [w3, es, nI_add, w6]
          refine ⟨fun y => ?_, fun y => ⟨hin, ?_⟩⟩
          · have := (nI_leI (by omega) (by omega)).mp y
            rw [show max u (s + v) = u by omega] at h3
            exact h3
          · have : ¬ s + v ≤ u := fun y2 => y (nI_le y2 (by omega))
            rw [show max u (s + v) = s + v by omega] at h3
            exact h3
    · refine h5 ?_
      rw [ej, cl_nI (show j < 2 ^ 31 by omega), if_pos z, z2, pls_5r, gre_5r] at e
      have := gA_5 e k
      rw [show i + 1 + k = m by omega] at this
      exact this
theorem m_tAL {KX : Int32 → Int32 → Int32 → pw_Mem → Prop} {r : Nat} {l1 : Int32} (hr : r < 8) (hn : n ≤ 20) (hm : m ≤ 8) (h0 : σ 49 15 = nI m) (h : Ik n m b c) (ha : ∀ i, i < m → σ 63 i = a i ∧ σ 64 i = b i ∧ σ 65 i = c i) (hf : ∀ r, r < n → GL 4200000 (σ 62 r) (σ 62 r)) (h5 : tp m a b c (σ 62) r = -5 → K (-5) σ) (hX : KX l1 (tp m a b c (σ 62) r) (nI 8) σ) : ∀ (k i : Nat), i + k = 7 - r → ¬ tA m a b c (σ 62) r i = -5 → R_X11_top_L11 K KX (k + 1) l1 (tA m a b c (σ 62) r i) (nI (r + 1 + i)) σ := by
  intro k
  induction k with
  | zero =>
    intro i hi _
    have e : i = 7 - r := by omega
    subst e
    unfold R_X11_top_L11
    have e8 : r + 1 + (7 - r) = 8 := by omega
    rw [e8]
    exact ⟨fun _ => hX, fun z => absurd (show (8 : Int32) ≤ nI 8 by decide) z⟩
  | succ k ih =>
    intro i hi hne
    have h2 := ih (i + 1) (by omega)
    have e : tA m a b c (σ 62) r (i + 1) = pls (tA m a b c (σ 62) r i) (gA a b c (σ 62) (nI (r + 1 + i)) m) := rfl
    unfold R_X11_top_L11
    refine ⟨fun z => absurd ((nI_leI (a := 8) (by decide) (by omega)).mp z) (by omega), fun _ => ⟨m + 1, m_gAL hn hm h0 h ha hf (fun z => h5 ?_) (fun z => ?_) m 0 (by omega) (show ¬ (0 : Int32) = -5 by decide)⟩⟩
    · rw [z, pls_5r] at e
      have := tA_5 e k
      rw [show i + 1 + k = 7 - r by omega] at this
      exact this
    · rcases tA_GL (a := a) (m := m) (r := r) h hn hf i (by omega) with ⟨w, _⟩ | ⟨v, v', w1, w2, w3, _⟩
      · exact absurd w hne
      · rcases gA_GL (a := a) (q := nI (r + 1 + i)) h hn hf m (Nat.le_refl _) with ⟨w, _⟩ | ⟨u, u', w4, w5, w6, _⟩
        · exact absurd w z
        · rw [w3, w6, pls_nI (by omega) (by omega)] at e
          rw [w3, w6, nI_add, nI_1]
          rw [e] at h2
          exact h2 (nI_m5 (by omega))
theorem m_top {t r : Nat} (ht : t < 6) (hr : r < 8) (h67 : σ 67 t = nI r) (hn : n ≤ 20) (hm : m ≤ 8) (h0 : σ 49 15 = nI m) (h : Ik n m b c) (ha : ∀ i, i < m → σ 63 i = a i ∧ σ 64 i = b i ∧ σ 65 i = c i) (hf : ∀ r, r < n → GL 4200000 (σ 62 r) (σ 62 r)) (hX : K (tp m a b c (σ 62) r) σ) : R_X11_top (nI t) σ K := by
  unfold R_X11_top
  rw [cl_nI (by omega), h67, nI_1]
  exact ⟨vp_in_nI ht (by decide), 7 - r + 1, m_tAL hr hn hm h0 h ha hf (fun e => by rw [e] at hX; exact hX) hX (7 - r) 0 (by omega) (show ¬ (0 : Int32) = -5 by decide)⟩
end TOT
/-- the total of task t, from the depths f -/
def tot (m : Nat) (σ : pw_Mem) (f : Rows) (t : Nat) : Int32 := pls (f (Int32.toNatClampNeg (σ 27 t))) (tp m (σ 23) (σ 24) (σ 25) f (Int32.toNatClampNeg (σ 28 t)))
abbrev Iit (n ni : Nat) (σ : pw_Mem) : Prop := I_it n ni (σ 22 3) (σ 23) (σ 24) (σ 25) (σ 49 15) (σ 63) (σ 64) (σ 65)
abbrev Itk (n nt : Nat) (σ : pw_Mem) : Prop := I_tk n nt (σ 26 4) (σ 27) (σ 28) (σ 29) (σ 30) (σ 49 19) (σ 66) (σ 67) (σ 68) (σ 69)
section TT
variable {n ni nt t : Nat} {σ : pw_Mem} {f f' : Rows} {K : Int32 → pw_Mem → Prop}
theorem I_it.ik (h : Iit n ni σ) : Ik n ni (σ 24) (σ 25) := fun i hi => ⟨(h.2.2.2 i hi).2.2.1, (h.2.2.2 i hi).2.2.2.2.1⟩
theorem tot_cg (hn : n ≤ 20) (hi : Iit n ni σ) (hk : Itk n nt σ) (ht : t < nt) (hf : ∀ r, r < n → f' r = f r) : tot ni σ f' t = tot ni σ f t := by
  obtain ⟨⟨j, hj, ej⟩, _, ⟨r, hr, er⟩, _⟩ := hk.2.2.2.1 t ht
  unfold tot tp
  rw [ej, cl_nI (by omega), hf j hj, tA_cg hi.ik hn hf]
theorem tot_GL (hn : n ≤ 20) (hi : Iit n ni σ) (hk : Itk n nt σ) (ht : t < nt) (hf : ∀ r, r < n → GL 4200000 (f' r) (f r)) : GL 33600700 (tot ni σ f' t) (tot ni σ f t) := by
  obtain ⟨⟨j, hj, ej⟩, _, ⟨r, hr, er⟩, _⟩ := hk.2.2.2.1 t ht
  unfold tot tp
  rw [ej, cl_nI (by omega)]
  exact GL.pls (A := 4200000) (B := 29400700) (by omega) (hf j hj) ((tA_GL hi.ik hn hf _ (by omega)).mono (by omega))
theorem e_tot (hn : n ≤ 20) (hi : Iit n ni σ) (hk : Itk n nt σ) (ht : t < nt) (hX : K (tot ni σ (σ 21) t) σ) : R_X10_totalAsMeasured (nI t) σ K := by
  have h6 := hk.1
  obtain ⟨h1, _, h3, _⟩ := hk.2.2.2.1 t ht
  have hin : vp_in (nI t) 6 := vp_in_nI (by omega) (by decide)
  unfold R_X10_totalAsMeasured
  unfold tot at hX
  rw [cl_nI (by omega)]
  refine ⟨hin, ok_in h1 hn (by decide), hin, ?_⟩
  obtain ⟨r, hr, er⟩ := h3
  rw [er, cl_nI (by omega)] at hX
  rw [er]
  exact e_top hr hn hi.1 hi.2.1 hi.ik (e_pls hX)
theorem m_tot (hn : n ≤ 20) (hi : Iit n ni σ) (hk : Itk n nt σ) (ht : t < nt) (hf : ∀ r, r < n → GL 4200000 (σ 62 r) (σ 62 r)) (hX : K (tot ni σ (σ 62) t) σ) : R_X11_totalOf (nI t) σ K := by
  have h6 := hk.1
  obtain ⟨h1, e1, h3, e3, _⟩ := hk.2.2.2.1 t ht
  have hin : vp_in (nI t) 6 := vp_in_nI (by omega) (by decide)
  unfold R_X11_totalOf
  unfold tot at hX
  rw [cl_nI (by omega), e1]
  refine ⟨hin, ok_in h1 hn (by decide), ?_⟩
  obtain ⟨r, hr, er⟩ := h3
  rw [er, cl_nI (show r < 2 ^ 31 by omega)] at hX
  refine m_top (by omega) hr (by rw [e3, er]) hn hi.1 hi.2.2.1 hi.ik (fun i hh => ⟨(hi.2.2.2 i hh).2.1, (hi.2.2.2 i hh).2.2.2.1, (hi.2.2.2 i hh).2.2.2.2.2⟩) hf ⟨fun z => ?_, fun z => ⟨fun z2 => ?_, fun z2 => ?_⟩⟩
  · rw [z, pls_5l] at hX; exact hX
  · unfold pls at hX; rw [if_neg z, if_neg z2] at hX; exact hX
  · rw [z2, pls_5r] at hX; exact hX
end TT
theorem sw4 (a : Int32) : (a = nI 0 ∨ a = nI 1 ∨ a = nI 2 ∨ a = nI 3) ∨ ∀ c : Nat, c ≤ 3 → ¬ a = nI c := by
  by_cases h : ∃ c : Nat, c ≤ 3 ∧ a = nI c
  · left
    obtain ⟨c, hc, rfl⟩ := h
    match c, hc with
    | 0, _ => exact Or.inl rfl
    | 1, _ => exact Or.inr (Or.inl rfl)
    | 2, _ => exact Or.inr (Or.inr (Or.inl rfl))
    | 3, _ => exact Or.inr (Or.inr (Or.inr rfl))
  · right
    exact fun c hc e => h ⟨c, hc, e⟩
theorem tot_off {m : Nat} {σ ρ : pw_Mem} {f : Rows} {t : Nat} (h : ∀ k, ¬ (57 ≤ k ∧ k ≤ 62) → ρ k = σ k) : tot m ρ f t = tot m σ f t := by
  unfold tot; rw [h 27 (by decide), h 23 (by decide), h 24 (by decide), h 25 (by decide), h 28 (by decide)]
theorem o_total {a b : Int32} {σ : pw_Mem} (h : Inv σ) : R_X10_total a b σ (fun x τ => R_X11_total a b τ (fun y ρ => Nx x y ρ)) := by
  have hI := h
  obtain ⟨n, c, ni, nt, h4⟩ := h
  have hn := h4.1.1
  have hk := h4.2.2.2.2.1
  unfold R_X10_total
  refine e_isT hk.2.1 hk.1 (fun hv => ⟨fun _ => ?_, fun q => absurd q n01⟩) (fun hv => ⟨fun q => absurd rfl q, fun _ => ?_⟩)
  · have hv0 := hv
    obtain ⟨t, ht, rfl⟩ := hv
    have ht6 : t < 6 := Nat.lt_of_lt_of_le ht hk.1
    have hin : vp_in (nI t) 6 := vp_in_nI ht6 (by decide)
    refine measd h4 (fun τ t1 h5 _ _ hd => ?_)
    have hi5 := h5.2.2.2.1
    have hk5 := h5.2.2.2.2.1
    obtain ⟨k1, k2, k3, k4, k5, k6⟩ := hk5.2.2.2.1 t ht
    have md : ∀ (v : Nat) (x : Int32), v ≤ 3 → b = nI v → (∀ ρ : pw_Mem, (∀ k, ¬ (57 ≤ k ∧ k ≤ 62) → ρ k = τ k) → Inv4 n c ni nt ρ → isD n (-1) ρ (ρ 62) → (fun x7 (b : Int32) => ((¬ b = 0 → ((¬ b = 1 → ((b = 2 → Nx x x7 ρ) ∧ (¬ b = 2 → ((¬ x7 = (-5) → vp_in (nI t) 6 ∧ Nx x (x7 + (ρ 68 (Int32.toNatClampNeg (nI t)))) ρ) ∧ (x7 = (-5) → Nx x x7 ρ))))) ∧ (b = 1 → R_X11_top (nI t) ρ (fun y ρ => Nx x y ρ)))) ∧ (b = 0 → vp_in (nI t) 6 ∧ vp_in (ρ 66 (Int32.toNatClampNeg (nI t))) 20 ∧ Nx x (ρ 62 (Int32.toNatClampNeg (ρ 66 (Int32.toNatClampNeg (nI t))))) ρ))) (tot ni τ (τ 21) t) b) → R_X11_total (nI t) b τ (fun y ρ => Nx x y ρ) := by
      intro v x hv3 hb hK
      unfold R_X11_total
      refine e_isTM hk5.2.2.1 hk5.1 (fun _ => ⟨fun q => absurd q n01, fun _ => ?_⟩) (fun h9 => absurd hv0 h9)
      refine e_rgM 3 rfl (by decide) (fun _ => ⟨fun _ => ?_, fun q => absurd q n01⟩) (fun h9 => absurd ⟨v, by omega, hb⟩ h9)
      refine layd0 h5 (fun ρ p1 p2 p3 p4 => ?_)
      refine m_tot hn p2.2.2.2.1 p2.2.2.2.2.1 ht (fun r hr => p4.gl p2 hr) ?_
      have e1 : tot ni ρ (ρ 62) t = tot ni τ (τ 21) t := by
        rw [tot_off p1]
        exact tot_cg hn hi5 hk5 ht (fun r hr => p4.eq p2 (hd.off p1) hr)
      rw [e1]
      exact hK ρ p1 p2 p4
    refine ⟨sw4 b, fun e => ⟨hin, ?_⟩, fun e => ⟨hin, ?_⟩, fun e => ?_, fun e => ?_, fun e => ?_⟩
    · rw [cl_nI (by omega)]
      refine ⟨ok_in k1 hn (by decide), md 0 _ (by decide) e (fun ρ p1 p2 p4 => ?_)⟩
      subst e
      obtain ⟨j, hj, ej⟩ := k1
      refine ⟨fun q => absurd rfl q, fun _ => ⟨hin, ?_, ?_, n, c, ni, nt, p2⟩⟩
      · rw [cl_nI (by omega), p1 66 (by decide), k2, ej]; exact vp_in_nI (by omega) (by decide)
      · rw [cl_nI (by omega), p1 66 (by decide), k2, ej, cl_nI (by omega)]
        exact (hd.off p1).eq p2 p4 hj
    · rw [cl_nI (by omega)]
      obtain ⟨r, hr, er⟩ := k3
      rw [er]
      refine e_top hr hn hi5.1 hi5.2.1 hi5.ik (md 1 _ (by decide) e (fun ρ p1 p2 p4 => ?_))
      subst e
      refine ⟨fun _ => ⟨fun q => absurd rfl q, fun _ => ?_⟩, fun q => absurd q (by decide)⟩
      refine m_top (a := τ 23) (b := τ 24) (c := τ 25) ht6 hr (by rw [p1 67 (by decide), k4, er]) hn hi5.1 (by rw [p1 49 (by decide)]; exact hi5.2.2.1) hi5.ik (fun i hh => ?_) (fun r hr => p4.gl p2 hr) ⟨?_, n, c, ni, nt, p2⟩
      · rw [p1 63 (by decide), p1 64 (by decide), p1 65 (by decide)]
        exact ⟨(hi5.2.2.2 i hh).2.1, (hi5.2.2.2 i hh).2.2.2.1, (hi5.2.2.2 i hh).2.2.2.2.2⟩
      · exact tA_cg hi5.ik hn (fun r hr => (hd.off p1).eq p2 p4 hr) _
    · refine e_tot hn hi5 hk5 ht (md 2 _ (by decide) e (fun ρ p1 p2 p4 => ?_))
      subst e
      exact ⟨fun _ => ⟨fun _ => ⟨fun _ => ⟨rfl, n, c, ni, nt, p2⟩, fun q => absurd rfl q⟩, fun q => absurd q (by decide)⟩, fun q => absurd q (by decide)⟩
    · unfold R_X10_roomAsMeasured
      refine e_tot hn hi5 hk5 ht ⟨hin, e_pls (md 3 _ (by decide) e (fun ρ p1 p2 p4 => ?_))⟩
      subst e
      obtain ⟨g, hg, eg⟩ := k5
      refine ⟨fun _ => ⟨fun _ => ⟨fun q => absurd q (by decide), fun _ => ⟨fun z => ⟨hin, ?_, n, c, ni, nt, p2⟩, fun z => ⟨?_, n, c, ni, nt, p2⟩⟩⟩, fun q => absurd q (by decide)⟩, fun q => absurd q (by decide)⟩
      · rw [cl_nI (by omega), p1 68 (by decide), k6, eg]
        unfold pls
        rw [if_neg z, if_neg (nI_m5 (by omega))]
      · rw [z, pls_5l]
    · unfold R_X11_total
      refine e_isTM hk5.2.2.1 hk5.1 (fun _ => ⟨fun q => absurd q n01, fun _ => ?_⟩) (fun h9 => absurd hv0 h9)
      refine e_rgM 3 rfl (by decide) (fun h9 => ?_) (fun _ => ⟨fun q => absurd rfl q, fun _ => ⟨rfl, n, c, ni, nt, h5⟩⟩)
      obtain ⟨v, hv, ev⟩ := h9
      exact absurd ev (e v (by omega))
  · unfold R_X11_total
    exact e_isTM hk.2.2.1 hk.1 (fun h9 => absurd h9 hv) (fun _ => ⟨fun _ => ⟨rfl, hI⟩, fun q => absurd rfl q⟩)
