/-! way: the way ends, and both walk it -/
def wy (nx : Nat → Int32) (r : Nat) : Nat → Int32
  | 0 => nI r
  | k + 1 => if wy nx r k = -4 then -4 else nx (Int32.toNatClampNeg (wy nx r k))
theorem wy_s (nx : Nat → Int32) (r k : Nat) : wy nx r (k + 1) = if wy nx r k = -4 then -4 else nx (Int32.toNatClampNeg (wy nx r k)) := rfl
theorem wy_4 {nx : Nat → Int32} {r i : Nat} (h : wy nx r i = -4) : ∀ j, wy nx r (i + j) = -4 := by
  intro j
  induction j with
  | zero => exact h
  | succ j ih => rw [show i + (j + 1) = i + j + 1 by omega, wy_s, if_pos ih]
theorem gto_at {g : Rows} {s : Int32} : ∀ k, gto g s k = -5 ∨ gto g s k = 0 ∨ ∃ j, j < k ∧ bt s j = true ∧ gto g s k = g j := by
  intro k
  induction k with
  | zero => exact Or.inr (Or.inl rfl)
  | succ k ih =>
    have e : gto g s (k + 1) = if bt s k then gre (gto g s k) (g k) else gto g s k := rfl
    rw [e]
    by_cases h : bt s k = true
    · rw [if_pos h]
      unfold gre
      by_cases h1 : gto g s k = -5
      · rw [if_pos h1]; exact Or.inl rfl
      · rw [if_neg h1]
        by_cases h2 : g k = -5
        · rw [if_pos h2]; exact Or.inl rfl
        · rw [if_neg h2]
          by_cases h3 : gto g s k ≤ g k
          · rw [if_pos h3]; exact Or.inr (Or.inr ⟨k, by omega, h, rfl⟩)
          · rw [if_neg h3]
            rcases ih with q | q | ⟨j, q1, q2, q3⟩
            · exact Or.inl q
            · exact Or.inr (Or.inl q)
            · exact Or.inr (Or.inr ⟨j, by omega, q2, q3⟩)
    · rw [if_neg h]
      rcases ih with q | q | ⟨j, q1, q2, q3⟩
      · exact Or.inl q
      · exact Or.inr (Or.inl q)
      · exact Or.inr (Or.inr ⟨j, by omega, q2, q3⟩)
theorem gto_5 {g : Rows} {s : Int32} {j : Nat} (hb : bt s j = true) (h5 : g j = -5) : ∀ k, j < k → gto g s k = -5 := by
  intro k
  induction k with
  | zero => intro h; omega
  | succ k ih =>
    intro h
    have e : gto g s (k + 1) = if bt s k then gre (gto g s k) (g k) else gto g s k := rfl
    rw [e]
    by_cases ek : j = k
    · subst ek; rw [if_pos hb, h5, gre_5r]
    · rw [ih (by omega), gre_5l]
      by_cases h2 : bt s k = true
      · rw [if_pos h2]
      · rw [if_neg h2]
theorem m5_le {i : Nat} (hi : i < 2 ^ 31) : (-5 : Int32) ≤ nI i := by
  rw [Int32.le_iff_toInt_le, nI_toInt hi]
  have : (-5 : Int32).toInt = -5 := by decide
  omega
theorem z_le {i : Nat} (hi : i < 2 ^ 31) : (0 : Int32) ≤ nI i := by
  rw [Int32.le_iff_toInt_le, nI_toInt hi]
  have : (0 : Int32).toInt = 0 := by decide
  omega
section WM
variable {n : Nat} {P T fr t f : Rows}
def nrg (n : Nat) (P T : Rows) (r : Nat) : Prop := ∀ s, (s = r ∨ bt (gR n P T r) s = true) → bt (gG n P T) s = false
theorem dIt_gl (hn : n ≤ 20) (hfr : ∀ j, j < n → ∃ b, b ≤ 500 ∧ fr j = nI b) (hgl : ∀ r, r < n → GL 4200000 (f r) (f r)) {G : Rows} {k : Nat} (hk : k < n) : GL 4200500 (dIt n P T G fr f k) (dIt n P T G fr f k) := by
  obtain ⟨b, hb, eb⟩ := hfr k hk
  unfold dIt
  rw [eb]
  exact GL.gre (by omega) ((GL.pls (A := 500) (B := 4200000) (by omega) (Or.inr ⟨b, b, Nat.le_refl _, hb, rfl, rfl⟩) (gto_GL (by omega) n (fun j hj _ => hgl j hj))).mono (by omega)) ((gto_GL (by omega) n (fun j hj _ => hgl j hj)).mono (by omega))
theorem tell (hn : n ≤ 20) (hD : DE n P T fr t f) (hfr : ∀ j, j < n → ∃ b, b ≤ 500 ∧ fr j = nI b) (hgl : ∀ r, r < n → GL 4200000 (f r) (f r)) {r : Nat} (hr : r < n) (hg : bt (gG n P T) r = false) (hl : ¬ f r ≤ dIt n P T (gT n P T) fr f r) : ∃ k, k < n ∧ bt (gT n P T r) k = true ∧ dIt n P T (gT n P T) fr f k = f r := by
  have e := hD r hr
  unfold rhs at e
  rw [hg, if_neg (by decide), dTl_gto] at e
  have hs := gT_self (P := P) (T := T) hn hr
  rcases gto_at (g := dIt n P T (gT n P T) fr f) (s := gT n P T r) n with q | q | ⟨j, q1, q2, q3⟩
  · rw [q] at e
    rw [e] at hl
    rcases dIt_gl (P := P) (T := T) (G := gT n P T) hn hfr hgl hr with ⟨w, _⟩ | ⟨i, _, i1, i2, w, _⟩
    · rw [w] at hl; exact absurd (Int32.le_refl _) hl
    · rw [w] at hl; exact absurd (m5_le (by omega)) hl
  · rw [q] at e
    rw [e] at hl
    rcases dIt_gl (P := P) (T := T) (G := gT n P T) hn hfr hgl hr with ⟨w, _⟩ | ⟨i, _, i1, i2, w, _⟩
    · rw [gto_5 hs w n hr] at q; exact absurd q (by decide)
    · rw [w] at hl; exact absurd (z_le (by omega)) hl
  · exact ⟨j, q1, q2, by rw [e, q3]⟩
theorem f_tog (hb : Bd n P T) (hn : n ≤ 20) (hD : DE n P T fr t f) {r k : Nat} (hr : r < n) (h : bt (gT n P T r) k = true) : f k = f r := by
  rw [hD k (gT_bd hn hr h), hD r hr]
  unfold rhs
  rw [gG_eq hb hn hr h, gT_eq hb hn hr h]
def blw (n : Nat) (P T : Rows) (st : Nat → Bool) (r s : Nat) : Bool := decide (qn n P T s < qn n P T r) || (bt (gT n P T r) s && st s && !(st r))
theorem blw_t {st : Nat → Bool} {r s : Nat} : blw n P T st r s = true ↔ (qn n P T s < qn n P T r ∨ (bt (gT n P T r) s = true ∧ st s = true ∧ st r = false)) := by
  unfold blw
  rw [Bool.or_eq_true, decide_eq_true_eq, Bool.and_eq_true, Bool.and_eq_true, Bool.not_eq_true']
  constructor
  · rintro (h | ⟨⟨h1, h2⟩, h3⟩)
    · exact Or.inl h
    · exact Or.inr ⟨h1, h2, h3⟩
  · rintro (h | ⟨h1, h2, h3⟩)
    · exact Or.inl h
    · exact Or.inr ⟨⟨h1, h2⟩, h3⟩
theorem blw_i {st : Nat → Bool} {r : Nat} : ¬ blw n P T st r r = true := by
  rw [blw_t]
  rintro (h | ⟨_, h1, h2⟩)
  · omega
  · rw [h1] at h2; cases h2
theorem blw_c (hb : Bd n P T) (hn : n ≤ 20) {st : Nat → Bool} {r k : Nat} (hr : r < n) (hk : k < n) (h : blw n P T st r k = true) : cp (blw n P T st k) n < cp (blw n P T st r) n := by
  refine cp_slt n (fun s hs h2 => ?_) ⟨k, hk, h, blw_i⟩
  rw [blw_t] at h h2 ⊢
  rcases h with h | ⟨h3, h4, h5⟩
  · rcases h2 with h2 | ⟨h6, _, _⟩
    · exact Or.inl (by omega)
    · have := qn_eq hb hn hk h6
      exact Or.inl (by omega)
  · have := qn_eq hb hn hr h3
    rcases h2 with h2 | ⟨_, _, h7⟩
    · exact Or.inl (by omega)
    · rw [h4] at h7; cases h7
theorem nrg_s (hb : Bd n P T) (hn : n ≤ 20) {r k : Nat} (hr : r < n) (h : nrg n P T r) (hk : k = r ∨ bt (gR n P T r) k = true) : nrg n P T k := by
  rcases hk with rfl | hk
  · exact h
  · rintro s (rfl | hs)
    · exact h _ (Or.inr hk)
    · exact h _ (Or.inr (gR_tr hb hr hk hs))
theorem wstep (hb : Bd n P T) (hn : n ≤ 20) (hD : DE n P T fr t f) {r : Nat} (hr : r < n) (h : nrg n P T r) : nxw n P T (gT n P T) fr f r = -4 ∨ ∃ k, k < n ∧ nxw n P T (gT n P T) fr f r = nI k ∧ nrg n P T k ∧ blw n P T (fun s => decide (f s ≤ dIt n P T (gT n P T) fr f s)) r k = true := by
  have hg : ¬ bt (gG n P T) r = true := by rw [h r (Or.inl rfl)]; decide
  have hs := gT_self (P := P) (T := T) hn hr
  unfold nxw
  by_cases h1 : f r ≤ dIt n P T (gT n P T) fr f r
  · rw [if_pos h1]
    by_cases h2 : fs (fun j => bt (P r) j && decide (f j = f r - fr r)) n 0 = -4
    · rw [if_pos h2]
      rcases fs_or (p := fun j => bt (T r &&& (gT n P T r ^^^ (-1))) j && decide (f j = f r)) n 0 with q | ⟨k, k1, k2, k3⟩
      · exact Or.inl q
      · have hk : k < n := by omega
        rw [Bool.and_eq_true] at k2
        have k4 := k2.1
        rw [b_and, Bool.and_eq_true] at k4
        refine Or.inr ⟨k, hk, k3, nrg_s hb hn hr h (Or.inr (gR_P hr (Or.inr k4.1))), blw_t.mpr (Or.inl (dp_qn hb hn hr (dp_T hb hn (by omega) hr hr hs k2.1)))⟩
    · rw [if_neg h2]
      rcases fs_or (p := fun j => bt (P r) j && decide (f j = f r - fr r)) n 0 with q | ⟨k, k1, k2, k3⟩
      · exact Or.inl q
      · have hk : k < n := by omega
        rw [Bool.and_eq_true] at k2
        exact Or.inr ⟨k, hk, k3, nrg_s hb hn hr h (Or.inr (gR_P hr (Or.inl k2.1))), blw_t.mpr (Or.inl (dp_qn hb hn hr (dp_P hb hn hr hg hr hs k2.1)))⟩
  · rw [if_neg h1]
    rcases fs_or (p := fun j => bt (gT n P T r) j && decide (dIt n P T (gT n P T) fr f j = f r)) n 0 with q | ⟨k, k1, k2, k3⟩
    · exact Or.inl q
    · have hk : k < n := by omega
      rw [Bool.and_eq_true, decide_eq_true_eq] at k2
      refine Or.inr ⟨k, hk, k3, nrg_s hb hn hr h ?_, blw_t.mpr (Or.inr ⟨k2.1, ?_, ?_⟩)⟩
      · rcases (gT_bt hn hr (by omega)).mp k2.1 with e | e
        · exact Or.inl e
        · exact Or.inr e.2.1
      · rw [decide_eq_true_eq, f_tog hb hn hD hr k2.1, k2.2]; exact Int32.le_refl _
      · rw [decide_eq_false_iff_not]; exact h1
theorem wy_inv (hb : Bd n P T) (hn : n ≤ 20) (hD : DE n P T fr t f) {r : Nat} (hr : r < n) (h : nrg n P T r) {nx : Nat → Int32} (hx : ∀ k, k < n → nx k = nxw n P T (gT n P T) fr f k) : ∀ j, wy nx r j = -4 ∨ ∃ k, k < n ∧ wy nx r j = nI k ∧ nrg n P T k ∧ cp (blw n P T (fun s => decide (f s ≤ dIt n P T (gT n P T) fr f s)) k) n + j < n := by
  intro j
  induction j with
  | zero =>
    refine Or.inr ⟨r, hr, rfl, h, ?_⟩
    have h1 := cp_slt (p := blw n P T (fun s => decide (f s ≤ dIt n P T (gT n P T) fr f s)) r) (q := fun _ => true) n (fun _ _ _ => rfl) ⟨r, hr, rfl, blw_i⟩
    have h2 := cp_k (p := fun _ => true) n
    omega
  | succ j ih =>
    rw [wy_s]
    rcases ih with e | ⟨k, k1, k2, k3, k4⟩
    · rw [if_pos e]; exact Or.inl rfl
    · rw [k2, if_neg (nI_m4 (by omega)), cl_nI (by omega), hx k k1]
      rcases wstep hb hn hD k1 k3 with e | ⟨m, m1, m2, m3, m4⟩
      · exact Or.inl e
      · have := blw_c hb hn k1 m1 m4
        exact Or.inr ⟨m, m1, m2, m3, by omega⟩
theorem wy_20 (hb : Bd n P T) (hn : n ≤ 20) (hD : DE n P T fr t f) {r : Nat} (hr : r < n) (h : nrg n P T r) {nx : Nat → Int32} (hx : ∀ k, k < n → nx k = nxw n P T (gT n P T) fr f k) {j : Nat} (hj : 20 ≤ j) : wy nx r j = -4 := by
  rcases wy_inv hb hn hD hr h hx j with e | ⟨k, k1, k2, k3, k4⟩
  · exact e
  · omega
end WM
theorem e_wayL {K : Int32 → pw_Mem → Prop} {KX : Int32 → Int32 → Int32 → Int32 → Int32 → pw_Mem → Prop} {n m r : Nat} {l1 l2 : Int32} {σ : pw_Mem} {nx : Nat → Int32} (hn : n ≤ 20) (hm : m < 2 ^ 31) (hw : ∀ j, wy nx r j = -4 ∨ ∃ k, k < n ∧ wy nx r j = nI k) (hs : ∀ (k : Nat) (K : Int32 → pw_Mem → Prop), k < n → K (nx k) σ → R_X1_nextOnWay (nI k) σ K) (hX : ∀ j, wy nx r j = wy nx r m → KX l1 l2 (nI m) (wy nx r j) (nI j) σ) : ∀ (k j : Nat), j + k = m → R_X10_way_L64 K KX (k + 1) l1 l2 (nI m) (wy nx r j) (nI j) σ := by
  intro k
  induction k with
  | zero =>
    intro j hj
    have e : j = m := by omega
    subst e
    unfold R_X10_way_L64
    exact ⟨fun _ => hX j rfl, fun z => absurd (nI_le (Nat.le_refl _) (by omega)) z⟩
  | succ k ih =>
    intro j hj
    have h2 := ih (j + 1) (by omega)
    rw [wy_s] at h2
    unfold R_X10_way_L64
    rw [nI_1]
    refine ⟨fun z => absurd ((nI_leI (by omega) (by omega)).mp z) (by omega), fun _ => ⟨fun z => hX j ?_, fun z => ?_⟩⟩
    · have := wy_4 z (k + 1)
      rw [show j + (k + 1) = m by omega] at this
      rw [z, this]
    · rcases hw j with e | ⟨i, i1, i2⟩
      · exact absurd e z
      · rw [if_neg z, i2, cl_nI (by omega)] at h2
        rw [i2]
        exact hs i _ i1 h2
theorem m_wayL {Ok1 : Nat → Prop} {K : Int32 → pw_Mem → Prop} {KX : Int32 → Int32 → Int32 → Int32 → pw_Mem → Prop} {n m r : Nat} {l1 : Int32} {σ : pw_Mem} {nx : Nat → Int32} (hn : n ≤ 20) (hm : m < 2 ^ 31) (hw : ∀ j, wy nx r j = -4 ∨ ∃ k, k < n ∧ wy nx r j = nI k ∧ Ok1 k) (hs : ∀ (k : Nat) (K : Int32 → pw_Mem → Prop), k < n → Ok1 k → K (nx k) σ → R_X11_nextOf (nI k) σ K) (hX : ∀ j, wy nx r j = wy nx r m → KX l1 (nI m) (wy nx r j) (nI j) σ) : ∀ (k j : Nat), j + k = m → R_X11_way_L34 K KX (k + 1) l1 (nI m) (wy nx r j) (nI j) σ := by
  intro k
  induction k with
  | zero =>
    intro j hj
    have e : j = m := by omega
    subst e
    unfold R_X11_way_L34
    exact ⟨fun _ => hX j rfl, fun z => absurd (nI_le (Nat.le_refl _) (by omega)) z⟩
  | succ k ih =>
    intro j hj
    have h2 := ih (j + 1) (by omega)
    rw [wy_s] at h2
    unfold R_X11_way_L34
    rw [nI_1]
    refine ⟨fun z => absurd ((nI_leI (by omega) (by omega)).mp z) (by omega), fun _ => ⟨fun z => hX j ?_, fun z => ?_⟩⟩
    · have := wy_4 z (k + 1)
      rw [show j + (k + 1) = m by omega] at this
      rw [z, this]
    · rcases hw j with e | ⟨i, i1, i2, i3⟩
      · exact absurd e z
      · rw [if_neg z, i2, cl_nI (by omega)] at h2
        rw [i2]
        exact hs i _ i1 i3 h2
theorem m_rrL {K : Int32 → pw_Mem → Prop} {KX : Int32 → Int32 → Int32 → pw_Mem → Prop} {n c ni nt r : Nat} {σ : pw_Mem} (h4 : Inv4 n c ni nt σ) (hN : Net n σ) (hr : r < n) {q : Nat → Bool} (hq : ∀ s, q s = (bt (gR n (Pp σ) (Tt σ) r) s && bt (gG n (Pp σ) (Tt σ)) s)) (hX : ∀ b : Bool, (b = true ↔ bt (gG n (Pp σ) (Tt σ)) r = true ∨ ∃ s, s < n ∧ q s = true) → KX (nI r) (b1 b) (nI n) σ) : ∀ (k i : Nat) (b : Bool), i + k = n → (b = true ↔ bt (gG n (Pp σ) (Tt σ)) r = true ∨ ∃ s, s < i ∧ q s = true) → R_X11_reachesRing_L8 K KX (k + 1) (nI r) (b1 b) (nI i) σ := by
  have hn := h4.1.1
  have hir : vp_in (nI r) 20 := vp_in_nI (by omega) (by decide)
  intro k
  induction k with
  | zero =>
    intro i b hi hb
    have e : i = n := by omega
    subst e
    unfold R_X11_reachesRing_L8
    rw [h4.1.2.2.1]
    exact ⟨fun _ => hX b hb, fun z => absurd (nI_le (Nat.le_refl _) (by omega)) z⟩
  | succ k ih =>
    intro i b hi hb
    have stay : q i = false → b = false → R_X11_reachesRing_L8 K KX (k + 1) (nI r) 0 (nI (i + 1)) σ := fun hqi hb0 => by
      refine ih (i + 1) false (by omega) ⟨fun z => (by cases z), fun z => ?_⟩
      rw [← hb0]
      refine hb.mpr (z.imp id ?_)
      rintro ⟨s, s1, s2⟩
      by_cases e : s = i
      · subst e; rw [hqi] at s2; cases s2
      · exact ⟨s, by omega, s2⟩
    unfold R_X11_reachesRing_L8
    rw [h4.1.2.2.1, nI_1, cl_nI (show r < 2 ^ 31 by omega), (hN r hr).2.2.1]
    refine ⟨fun z => absurd ((nI_leI (by omega) (by omega)).mp z) (by omega), fun _ => ⟨fun z => ?_, fun z => ⟨hir, fun y => ?_, fun y => ?_⟩⟩⟩
    · have hb1 := b1_1 z
      refine ih (i + 1) true (by omega) ⟨fun _ => ?_, fun _ => rfl⟩
      exact (hb.mp hb1).imp id (fun ⟨s, s1, s2⟩ => ⟨s, by omega, s2⟩)
    · have hb0 := b1_0 z
      refine stay ?_ hb0
      rw [hq]
      cases e : bt (gR n (Pp σ) (Tt σ) r) i with
      | true => exact absurd (ybit (by omega) e) y
      | false => rfl
    · have hb0 := b1_0 z
      have e : bt (gR n (Pp σ) (Tt σ) r) i = true := by
        cases e : bt (gR n (Pp σ) (Tt σ) r) i with
        | true => rfl
        | false => exact absurd y (nbit (by omega) e)
      refine m_isRing h4 hN (by omega) (fun hg => ⟨fun q => absurd q n01, fun _ => ?_⟩) (fun hg => ⟨fun _ => ?_, fun q => absurd rfl q⟩)
      · exact ih (i + 1) true (by omega) ⟨fun _ => Or.inr ⟨i, by omega, by rw [hq, e, hg]; rfl⟩, fun _ => rfl⟩
      · exact stay (by rw [hq, hg, Bool.and_false]) hb0
theorem m_rr {K : Int32 → pw_Mem → Prop} {n c ni nt r : Nat} {σ : pw_Mem} (h4 : Inv4 n c ni nt σ) (hN : Net n σ) (hr : r < n) (h1 : ¬ nrg n (Pp σ) (Tt σ) r → K 1 σ) (h0 : nrg n (Pp σ) (Tt σ) r → K 0 σ) : R_X11_reachesRing (nI r) σ K := by
  have hn := h4.1.1
  have hb := h4.bd
  unfold R_X11_reachesRing
  have fin : ∀ b : Bool, (b = true ↔ bt (gG n (Pp σ) (Tt σ)) r = true ∨ ∃ s, s < n ∧ (bt (gR n (Pp σ) (Tt σ) r) s && bt (gG n (Pp σ) (Tt σ)) s) = true) → narrow .boolean (.int (b1 b)) = .int (b1 b) ∧ K (b1 b) σ := fun b hbb => by
    cases b with
    | true =>
      refine ⟨rfl, h1 (fun hh => ?_)⟩
      rcases hbb.mp rfl with z | ⟨s, s1, s2⟩
      · rw [hh r (Or.inl rfl)] at z; cases z
      · rw [Bool.and_eq_true] at s2
        rw [hh s (Or.inr s2.1)] at s2; exact absurd s2.2 (by decide)
    | false =>
      refine ⟨rfl, h0 (fun s hs => ?_)⟩
      cases e : bt (gG n (Pp σ) (Tt σ)) s with
      | false => rfl
      | true =>
        refine absurd (hbb.mpr ?_) (by decide)
        rcases hs with z | z
        · subst z; exact Or.inl e
        · exact Or.inr ⟨s, gR_bd hb hr z, by rw [z, e]; rfl⟩
  refine m_isRing h4 hN hr (fun hg => ⟨n + 1, ?_⟩) (fun hg => ⟨n + 1, ?_⟩)
  · exact m_rrL h4 hN hr (q := fun s => bt (gR n (Pp σ) (Tt σ) r) s && bt (gG n (Pp σ) (Tt σ)) s) (fun _ => rfl) (fun b hb => fin b hb) n 0 true (by omega) ⟨fun _ => Or.inl hg, fun _ => rfl⟩
  · exact m_rrL h4 hN hr (q := fun s => bt (gR n (Pp σ) (Tt σ) r) s && bt (gG n (Pp σ) (Tt σ)) s) (fun _ => rfl) (fun b hb => fin b hb) n 0 false (by omega) ⟨fun z => (by cases z), fun z => by
      rcases z with z | ⟨s, s1, _⟩
      · rw [hg] at z; cases z
      · omega⟩
theorem o_way {a b : Int32} {σ : pw_Mem} (h : Inv σ) : R_X10_way a b σ (fun x τ => R_X11_way a b τ (fun y ρ => Nx x y ρ)) := by
  have hI := h
  obtain ⟨n, c, ni, nt, h4⟩ := h
  obtain ⟨r1, r2, r3, r4, r5, r6⟩ := h4.1
  unfold R_X10_way
  refine e_isR r2 r1 (fun hv => ⟨fun q => absurd q n01, fun _ => ⟨fun hb0 => ?_, fun hb0 => ?_⟩⟩) (fun hv => ⟨fun _ => ?_, fun q => absurd rfl q⟩)
  · refine refr h4 (fun τ t1 h5 t3 => ?_)
    have hv0 := hv
    obtain ⟨r, hr, rfl⟩ := hv
    have hin : vp_in (nI r) 20 := vp_in_nI (by omega) (by decide)
    obtain ⟨m, hm, em⟩ := nI_of (fun z => Int32.not_le.mpr z hb0)
    obtain ⟨g1, g2, g3⟩ := h5.gr t3
    have hbd := h5.bd
    unfold R_X2_selfAndReached
    refine ⟨hin, ?_⟩
    rw [cl_nI (by omega), (g1 r hr).2.2.1]
    show (((gR n (Pp τ) (Tt τ) r ||| one r) &&& τ 14 8 = 0 → _) ∧ (¬ (gR n (Pp τ) (Tt τ) r ||| one r) &&& τ 14 8 = 0 → _))
    rw [g2]
    have hnr : (gR n (Pp τ) (Tt τ) r ||| one r) &&& gG n (Pp τ) (Tt τ) = 0 ↔ nrg n (Pp τ) (Tt τ) r := by
      constructor
      · intro z s hs
        have e : bt ((gR n (Pp τ) (Tt τ) r ||| one r) &&& gG n (Pp τ) (Tt τ)) s = false := by rw [z, b_0]
        rw [b_and] at e
        have e2 : bt (gR n (Pp τ) (Tt τ) r ||| one r) s = true := (bt_set (by omega)).mpr (hs.elim Or.inr Or.inl)
        rw [e2, Bool.true_and] at e
        exact e
      · intro z
        refine b_ext (fun s hs => ?_)
        rw [b_0, b_and]
        cases e : bt (gR n (Pp τ) (Tt τ) r ||| one r) s with
        | false => rfl
        | true => rw [z s (((bt_set (by omega)).mp e).elim Or.inr Or.inl)]; rfl
    refine ⟨fun z => ?_, fun z => ?_⟩
    · have hng := hnr.mp z
      refine measd h5 (fun w w1 h6 w3 w4 hd => ?_)
      obtain ⟨g1, g2, g3⟩ := h6.gr w3
      have ePw : Pp w = Pp τ ∧ Tt w = Tt τ := by
        unfold Pp Tt
        rw [w1 10 (by decide), w1 11 (by decide), w1 12 (by decide), w1 13 (by decide), w1 7 (by decide)]
        exact ⟨rfl, rfl⟩
      have hngw : nrg n (Pp w) (Tt w) r := by rw [ePw.1, ePw.2]; exact hng
      have hfr : ∀ j, j < n → ∃ b, b ≤ 500 ∧ fro (-1) (w 2) j = nI b := fun j hj => by
        obtain ⟨_, b, _, b1, _, b2⟩ := fro_le h6 (-1) j hj
        exact ⟨b, b1, b2⟩
      have hgl : ∀ r, r < n → GL 4200000 (w 21 r) (w 21 r) := fun r hr => hd.gl h6 hr
      have hinv := wy_inv h6.bd r1 hd hr hngw (nx := nxw n (Pp w) (Tt w) (gT n (Pp w) (Tt w)) (fro (-1) (w 2)) (w 21)) (fun _ _ => rfl)
      have h20 : ∀ {j : Nat}, 20 ≤ j → wy (nxw n (Pp w) (Tt w) (gT n (Pp w) (Tt w)) (fro (-1) (w 2)) (w 21)) r j = -4 := fun hj => wy_20 h6.bd r1 hd hr hngw (fun _ _ => rfl) hj
      generalize hX : nxw n (Pp w) (Tt w) (gT n (Pp w) (Tt w)) (fro (-1) (w 2)) (w 21) = nx at hinv h20
      have fin : ∀ x : Int32, x = wy nx r m → R_X11_way (nI r) b w (fun y ρ => Nx x y ρ) := by
        intro x hx
        unfold R_X11_way
        refine e_isM h6.1.2.2.1 r1 (fun _ => ⟨fun q => absurd q n01, fun _ => ⟨fun _ => ?_, fun z => absurd hb0 z⟩⟩) (fun h9 => absurd hv0 h9)
        refine layd0 h6 (fun ρ p1 p2 p3 p4 => ?_)
        have ePr : Pp ρ = Pp w ∧ Tt ρ = Tt w := by
          unfold Pp Tt
          rw [p1 10 (by decide), p1 11 (by decide), p1 12 (by decide), p1 13 (by decide), p1 7 (by decide)]
          exact ⟨rfl, rfl⟩
        have hng2 : nrg n (Pp ρ) (Tt ρ) r := by rw [ePr.1, ePr.2]; exact hngw
        refine m_rr p2 p3 hr (fun y => absurd hng2 y) (fun _ => ⟨fun _ => ⟨m + 1, ?_⟩, fun q => absurd rfl q⟩)
        have ef : ∀ j, j < n → ρ 62 j = w 21 j := fun j hj => p4.eq p2 (hd.off p1) hj
        have eF : ∀ j, j < n → ρ 50 j = fro (-1) (w 2) j := fun j hj => by
          rw [fro_m1 (by omega), (p2.1.2.2.2.1 j hj).2, p1 2 (by decide)]
        have e8 : ∀ j, j < n → ρ 58 j = Pp w j := fun j hj => by rw [(p3 j hj).1, ePr.1]
        have e9 : ∀ j, j < n → ρ 59 j = Tt w j := fun j hj => by rw [(p3 j hj).2.1, ePr.2]
        have e61 : ∀ j, j < n → ρ 61 j = gT n (Pp w) (Tt w) j := fun j hj => by rw [(p3 j hj).2.2.2, ePr.1, ePr.2]
        have ed : ∀ j, j < n → dIt n (ρ 58) (ρ 59) (ρ 61) (ρ 50) (ρ 62) j = dIt n (Pp w) (Tt w) (gT n (Pp w) (Tt w)) (fro (-1) (w 2)) (w 21) j := fun j hj => by
          unfold dIt
          rw [e8 j hj, e9 j hj, e61 j hj, eF j hj, gto_cg n (fun j hj _ => ef j hj), gto_cg n (fun j hj _ => ef j hj)]
        have hgl2 : ∀ j, j < n → ¬ ρ 62 j = -4 ∧ GL 4200000 (ρ 62 j) (ρ 62 j) := fun j hj => by
          rw [ef j hj]; exact ⟨GL4 (by omega) (hgl j hj), hgl j hj⟩
        rw [em]
        refine m_wayL (n := n) (nx := nx) (Ok1 := fun k => nrg n (Pp w) (Tt w) k) r1 hm (fun j => ?_) (fun k K hk hok hK => ?_) (fun j hj => ⟨?_, n, c, ni, nt, p2⟩) m 0 (by omega)
        · rcases hinv j with e | ⟨k, k1, k2, k3, k4⟩
          · exact Or.inl e
          · exact Or.inr ⟨k, k1, k2, k3⟩
        · refine m_nxw r1 hk p2.1.2.2.1 (fun j hj => ?_) (fun hl => ?_) ?_
          · exact (ow_dIt (B := 4200000) (by omega) (p2.fr j hj) (fun i hi _ => hgl2 i hi) (fun i hi _ => hgl2 i hi)).1
          · rw [ed k hk, ef k hk] at hl
            obtain ⟨i, i1, i2, i3⟩ := tell r1 hd hfr hgl hk (hok k (Or.inl rfl)) hl
            exact ⟨i, i1, by rw [e61 k hk]; exact i2, by rw [ed i i1, ef k hk]; exact i3⟩
          · rw [nxw_rw e8 e9 e61 eF ef hk, hX]; exact hK
        · rw [hj, hx]
      have go : ∀ m' : Nat, m' < 2 ^ 31 → wy nx r m' = wy nx r m → ∃ n15, R_X10_way_L64 (fun x τ => R_X11_way (nI r) b τ (fun y ρ => Nx x y ρ)) (fun y9 y10 y11 y12 y13 τ14 => R_X11_way (nI r) b τ14 (fun y ρ => Nx y12 y ρ)) n15 (nI r) b (nI m') (nI r) 0 w := by
        intro m' hm' em'
        refine ⟨m' + 1, e_wayL (n := n) (nx := nx) r1 hm' (fun j => ?_) (fun k K hk hK => ?_) (fun j hj => fin _ (hj.trans em')) m' 0 (by omega)⟩
        · rcases hinv j with e | ⟨k, k1, k2, k3, k4⟩
          · exact Or.inl e
          · exact Or.inr ⟨k, k1, k2⟩
        · refine e_nxw r1 hk h6.1.2.1 ?_
          rw [w4, nxw_rw (fun a ha => (g1 a ha).1) (fun a ha => (g1 a ha).2.1) (fun a ha => (g1 a ha).2.2.2) (fun _ _ => rfl) (fun _ _ => rfl) hk, hX]
          exact hK
      by_cases h20m : (20 : Int32) < b
      · rw [if_pos h20m]
        rw [em] at h20m
        have h20n := (nI_ltI (a := 20) (by decide) hm).mp h20m
        exact go 20 (by decide) (by rw [h20 (Nat.le_refl _), h20 (by omega)])
      · rw [if_neg h20m]
        have hgo := go m hm rfl
        rw [← em] at hgo
        exact hgo
    · have hng : ¬ nrg n (Pp τ) (Tt τ) r := fun y => z (hnr.mpr y)
      unfold R_X11_way
      refine e_isM h5.1.2.2.1 r1 (fun _ => ⟨fun q => absurd q n01, fun _ => ⟨fun _ => ?_, fun z => absurd hb0 z⟩⟩) (fun h9 => absurd hv0 h9)
      refine layd0 h5 (fun ρ p1 p2 p3 p4 => ?_)
      have ePr : Pp ρ = Pp τ ∧ Tt ρ = Tt τ := by
        unfold Pp Tt
        rw [p1 10 (by decide), p1 11 (by decide), p1 12 (by decide), p1 13 (by decide), p1 7 (by decide)]
        exact ⟨rfl, rfl⟩
      refine m_rr p2 p3 hr (fun _ => ⟨fun q => absurd q n01, fun _ => ⟨rfl, n, c, ni, nt, p2⟩⟩) (fun y => ?_)
      rw [ePr.1, ePr.2] at y
      exact absurd y hng
  · unfold R_X11_way
    exact e_isM r3 r1 (fun _ => ⟨fun q => absurd q n01, fun _ => ⟨fun z => absurd z hb0, fun _ => ⟨rfl, hI⟩⟩⟩) (fun h9 => absurd hv h9)
  · unfold R_X11_way
    exact e_isM r3 r1 (fun h9 => absurd h9 hv) (fun _ => ⟨fun _ => ⟨rfl, hI⟩, fun q => absurd rfl q⟩)
