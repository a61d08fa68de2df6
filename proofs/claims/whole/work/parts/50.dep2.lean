/-! depths: one set of equations, one solution -/
theorem gto_cg {f g : Rows} {s : Int32} : ∀ k, (∀ j, j < k → bt s j = true → f j = g j) → gto f s k = gto g s k := by
  intro k
  induction k with
  | zero => intro _; rfl
  | succ k ih =>
    intro h
    have e1 : gto f s (k + 1) = if bt s k then gre (gto f s k) (f k) else gto f s k := rfl
    have e2 : gto g s (k + 1) = if bt s k then gre (gto g s k) (g k) else gto g s k := rfl
    rw [e1, e2, ih (fun j hj => h j (by omega))]
    by_cases hb1 : bt s k = true
    · rw [if_pos hb1, if_pos hb1, h k (by omega) hb1]
    · rw [if_neg hb1, if_neg hb1]
theorem dTl_cg {n : Nat} {P T G fr f g : Rows} {s : Int32} : ∀ k, (∀ j, j < k → bt s j = true → dIt n P T G fr f j = dIt n P T G fr g j) → dTl n P T G fr f s k = dTl n P T G fr g s k := by
  intro k
  induction k with
  | zero => intro _; rfl
  | succ k ih =>
    intro h
    have e1 : dTl n P T G fr f s (k + 1) = if bt s k then gre (dTl n P T G fr f s k) (dIt n P T G fr f k) else dTl n P T G fr f s k := rfl
    have e2 : dTl n P T G fr g s (k + 1) = if bt s k then gre (dTl n P T G fr g s k) (dIt n P T G fr g k) else dTl n P T G fr g s k := rfl
    rw [e1, e2, ih (fun j hj => h j (by omega))]
    by_cases hb1 : bt s k = true
    · rw [if_pos hb1, if_pos hb1, h k (by omega) hb1]
    · rw [if_neg hb1, if_neg hb1]
theorem drg_cg {n : Nat} {P T fr t f g : Rows} {s : Int32} : ∀ k, (∀ j, j < k → bt s j = true → gto f ((P j ||| T j) &&& (s ^^^ (-1))) n = gto g ((P j ||| T j) &&& (s ^^^ (-1))) n) → drg n P T fr t f s k = drg n P T fr t g s k := by
  intro k
  induction k with
  | zero => intro _; rfl
  | succ k ih =>
    intro h
    have e1 : drg n P T fr t f s (k + 1) = (match drg n P T fr t f s k with
      | none => none
      | some q => if bt s k then (if t k = 0 then none else some (q.1 + fr k * t k, gre q.2 (gto f ((P k ||| T k) &&& (s ^^^ (-1))) n))) else some q) := rfl
    have e2 : drg n P T fr t g s (k + 1) = (match drg n P T fr t g s k with
      | none => none
      | some q => if bt s k then (if t k = 0 then none else some (q.1 + fr k * t k, gre q.2 (gto g ((P k ||| T k) &&& (s ^^^ (-1))) n))) else some q) := rfl
    rw [e1, e2, ih (fun j hj => h j (by omega))]
    generalize drg n P T fr t g s k = D
    cases D with
    | none => rfl
    | some q =>
      by_cases hb1 : bt s k = true
      · rw [h k (by omega) hb1]
      · show (if bt s k then (if t k = 0 then none else some (q.1 + fr k * t k, gre q.2 (gto f ((P k ||| T k) &&& (s ^^^ (-1))) n))) else some q) = (if bt s k then (if t k = 0 then none else some (q.1 + fr k * t k, gre q.2 (gto g ((P k ||| T k) &&& (s ^^^ (-1))) n))) else some q)
        rw [if_neg hb1, if_neg hb1]
theorem bt_not {s : Int32} {j : Nat} (hj : j < 32) : bt (s ^^^ (-1)) j = !(bt s j) := by
  rw [b_xor, b_m1 j hj]
  cases bt s j <;> rfl
/-- what the depth of r must be, over depths f -/
def rhs (n : Nat) (P T fr t f : Rows) (r : Nat) : Int32 := if bt (gG n P T) r then dRg n P T fr t f (gT n P T r) else dTl n P T (gT n P T) fr f (gT n P T r) n
def DE (n : Nat) (P T fr t f : Rows) : Prop := ∀ r, r < n → f r = rhs n P T fr t f r
def qn (n : Nat) (P T : Rows) (r : Nat) : Nat := cnt (gR n P T r ||| one r) 32
theorem cnt_sub {x y : Int32} : ∀ k, (∀ s, s < k → bt x s = true → bt y s = true) → cnt x k ≤ cnt y k := by
  intro k
  induction k with
  | zero => intro _; exact Nat.le_refl _
  | succ k ih =>
    intro h
    have h1 := ih (fun s hs => h s (by omega))
    have e1 : cnt x (k + 1) = cnt x k + (if bt x k then 1 else 0) := rfl
    have e2 : cnt y (k + 1) = cnt y k + (if bt y k then 1 else 0) := rfl
    rw [e1, e2]
    by_cases e : bt x k = true
    · rw [if_pos e, if_pos (h k (by omega) e)]; omega
    · rw [if_neg e]; omega
theorem cnt_slt {x y : Int32} : ∀ k, (∀ s, s < k → bt x s = true → bt y s = true) → (∃ s, s < k ∧ bt y s = true ∧ ¬ bt x s = true) → cnt x k < cnt y k := by
  intro k
  induction k with
  | zero => rintro _ ⟨s, hs, _⟩; omega
  | succ k ih =>
    rintro h ⟨s, hs, h1, h2⟩
    have h3 := cnt_sub k (fun s hs => h s (by omega))
    have e1 : cnt x (k + 1) = cnt x k + (if bt x k then 1 else 0) := rfl
    have e2 : cnt y (k + 1) = cnt y k + (if bt y k then 1 else 0) := rfl
    rw [e1, e2]
    by_cases e : s = k
    · subst e; rw [if_pos h1, if_neg h2]; omega
    · have h4 := ih (fun s hs => h s (by omega)) ⟨s, by omega, h1, h2⟩
      by_cases e3 : bt x k = true
      · rw [if_pos e3, if_pos (h k (by omega) e3)]; omega
      · rw [if_neg e3]; omega
section DM
variable {n : Nat} {P T : Rows}
theorem sr_bt (hn : n ≤ 20) {r s : Nat} (hr : r < n) : bt (gR n P T r ||| one r) s = true ↔ (bt (gR n P T r) s = true ∨ s = r) := bt_set (by omega)
/-- what is reached and not together counts less -/
theorem qn_lt (hb : Bd n P T) (hn : n ≤ 20) {r j : Nat} (hr : r < n) (h1 : bt (gR n P T r) j = true) (h2 : ¬ bt (gT n P T r) j = true) : qn n P T j < qn n P T r := by
  have hj := gR_bd hb hr h1
  refine cnt_slt 32 (fun s _ hs => ?_) ⟨r, by omega, (sr_bt hn hr).mpr (Or.inr rfl), fun z => h2 ?_⟩
  · rw [sr_bt hn hj] at hs
    rw [sr_bt hn hr]
    rcases hs with hs | hs
    · exact Or.inl (gR_tr hb hr h1 hs)
    · exact Or.inl (by rw [hs]; exact h1)
  · rw [sr_bt hn hj] at z
    rw [gT_bt hn hr (by omega)]
    rcases z with z | z
    · exact Or.inr ⟨hj, h1, z⟩
    · exact Or.inl z.symm
theorem qn_le (hb : Bd n P T) (hn : n ≤ 20) {r j : Nat} (hr : r < n) (h : bt (gT n P T r) j = true) : qn n P T j ≤ qn n P T r := by
  have hj := gT_bd hn hr h
  refine cnt_sub 32 (fun s _ hs => ?_)
  rw [sr_bt hn hj] at hs
  rw [sr_bt hn hr]
  rcases (gT_bt hn hr (by omega)).mp h with e | ⟨-, e1, e2⟩
  · subst e; exact hs
  · rcases hs with hs | hs
    · exact Or.inl (gR_tr hb hr e1 hs)
    · exact Or.inl (by rw [hs]; exact e1)
theorem qn_eq (hb : Bd n P T) (hn : n ≤ 20) {r j : Nat} (hr : r < n) (h : bt (gT n P T r) j = true) : qn n P T j = qn n P T r :=
  Nat.le_antisymm (qn_le hb hn hr h) (qn_le hb hn (gT_bd hn hr h) (gT_sym hb hn hr h))
/-- a call out of those together with r, to one that isn't, counts less than r -/
theorem qn_out (hb : Bd n P T) (hn : n ≤ 20) {r k j : Nat} (hr : r < n) (hk : bt (gT n P T r) k = true) (hj : bt (P k) j = true ∨ bt (T k) j = true) (hno : ¬ bt (gT n P T r) j = true) : qn n P T j < qn n P T r := by
  have hkn := gT_bd hn hr hk
  have h1 := gR_P (P := P) (T := T) hkn hj
  rw [← qn_eq hb hn hr hk]
  exact qn_lt hb hn hkn h1 (by rw [gT_eq hb hn hr hk]; exact hno)
/-- the right side looks at lesser counts alone -/
theorem rhs_cg (hb : Bd n P T) (hn : n ≤ 20) {fr t f g : Rows} {r : Nat} (hr : r < n) (h : ∀ j, j < n → qn n P T j < qn n P T r → f j = g j) : rhs n P T fr t f r = rhs n P T fr t g r := by
  unfold rhs
  by_cases hg : bt (gG n P T) r = true
  · rw [if_pos hg, if_pos hg]
    unfold dRg
    rw [drg_cg (f := f) (g := g) n (fun k hk hk2 => gto_cg n (fun j hj hj2 => h j hj ?_))]
    rw [b_and, Bool.and_eq_true, bt_not (by omega), Bool.not_eq_true'] at hj2
    exact qn_out hb hn hr hk2 (bt_or1.mp hj2.1) (by rw [hj2.2]; decide)
  · rw [if_neg hg, if_neg hg]
    refine dTl_cg n (fun k hk hk2 => ?_)
    unfold dIt
    have e1 : gto f (P k) n = gto g (P k) n := gto_cg n (fun j hj hj2 => h j hj (qn_out hb hn hr hk2 (Or.inl hj2) (fun z => ?_)))
    have e2 : gto f (T k &&& (gT n P T k ^^^ (-1))) n = gto g (T k &&& (gT n P T k ^^^ (-1))) n := gto_cg n (fun j hj hj2 => h j hj ?_)
    · rw [e1, e2]
    · rw [b_and, Bool.and_eq_true, bt_not (by omega), Bool.not_eq_true', gT_eq hb hn hr hk2] at hj2
      exact qn_out hb hn hr hk2 (Or.inr hj2.1) (by rw [hj2.2]; decide)
    · refine hg ((gG_bt hb hn hr).mpr ⟨k, hk, hk2, fun q => ?_⟩)
      have : bt (P k &&& gT n P T r) j = true := by rw [b_and, hj2, z]; rfl
      rw [q, b_0] at this
      cases this
theorem DE_one (hb : Bd n P T) (hn : n ≤ 20) {fr t f g : Rows} (hf : DE n P T fr t f) (hg : DE n P T fr t g) : ∀ m r, r < n → qn n P T r ≤ m → f r = g r := by
  intro m
  induction m with
  | zero =>
    intro r hr hq
    rw [hf r hr, hg r hr]
    exact rhs_cg hb hn hr (fun j _ hj2 => by omega)
  | succ m ih =>
    intro r hr hq
    rw [hf r hr, hg r hr]
    exact rhs_cg hb hn hr (fun j hj hj2 => ih j hj (by omega))
end DM
