/-! what the drawn rows are: reach is transitive, together is an equivalence, rings -/
theorem cr1_s (b a : Nat) (R : Rows) : cr1 b (a + 1) R = if bt (cr1 b a R a) b then upd (cr1 b a R) a (cr1 b a R a ||| cr1 b a R b) else cr1 b a R := rfl
theorem cr1_bt {b : Nat} {R : Rows} : ∀ k a r, bt (cr1 b k R a) r = true ↔ (bt (R a) r = true ∨ (a < k ∧ bt (R a) b = true ∧ bt (R b) r = true)) := by
  intro k
  induction k with
  | zero => intro a r; exact ⟨Or.inl, fun h => h.elim id (fun h => by omega)⟩
  | succ k ih =>
    intro a r
    rw [cr1_s]
    have hk : ∀ r, bt (cr1 b k R k) r = true ↔ bt (R k) r = true := fun r => (ih k r).trans ⟨fun h => h.elim id (fun h => by omega), Or.inl⟩
    have hb : ∀ r, bt (cr1 b k R b) r = true ↔ bt (R b) r = true := fun r => (ih b r).trans ⟨fun h => h.elim id (fun h => h.2.2), Or.inl⟩
    by_cases e : bt (cr1 b k R k) b = true
    · rw [if_pos e]
      by_cases e2 : a = k
      · subst e2
        rw [upd_s, bt_or1, hk, hb]
        exact ⟨fun h => h.elim Or.inl (fun h => Or.inr ⟨by omega, (hk b).mp e, h⟩), fun h => h.elim Or.inl (fun h => Or.inr h.2.2)⟩
      · rw [upd_n e2, ih]
        exact ⟨fun h => h.elim Or.inl (fun h => Or.inr ⟨by omega, h.2⟩), fun h => h.elim Or.inl (fun h => Or.inr ⟨by omega, h.2⟩)⟩
    · rw [if_neg e, ih]
      refine ⟨fun h => h.elim Or.inl (fun h => Or.inr ⟨by omega, h.2⟩), fun h => h.elim Or.inl (fun h => ?_)⟩
      by_cases e2 : a = k
      · subst e2; exact absurd ((hk b).mpr h.2.1) e
      · exact Or.inr ⟨by omega, h.2⟩
theorem cr_bt {n b a r : Nat} {R : Rows} (ha : a < n) : bt (cr n (b + 1) R a) r = true ↔ (bt (cr n b R a) r = true ∨ (bt (cr n b R a) b = true ∧ bt (cr n b R b) r = true)) := by
  show bt (cr1 b n (cr n b R) a) r = true ↔ _
  rw [cr1_bt]
  exact ⟨fun h => h.elim Or.inl (fun h => Or.inr h.2), fun h => h.elim Or.inl (fun h => Or.inr ⟨ha, h⟩)⟩
theorem cr_inc {n : Nat} {R : Rows} {a r : Nat} (ha : a < n) (h : bt (R a) r = true) : ∀ k, bt (cr n k R a) r = true := by
  intro k
  induction k with
  | zero => exact h
  | succ k ih => exact (cr_bt ha).mpr (Or.inl ih)
theorem cr_bd {n : Nat} {R : Rows} (h : ∀ a r, a < n → bt (R a) r = true → r < n) : ∀ k, k ≤ n → ∀ a r, a < n → bt (cr n k R a) r = true → r < n := by
  intro k
  induction k with
  | zero => intro _; exact h
  | succ k ih =>
    intro hk a r ha hr
    rcases (cr_bt ha).mp hr with h1 | h1
    · exact ih (by omega) a r ha h1
    · exact ih (by omega) k r (by omega) h1.2
theorem cr_tr {n : Nat} {R : Rows} : ∀ k, k ≤ n → ∀ a m r, a < n → m < k → bt (cr n k R a) m = true → bt (cr n k R m) r = true → bt (cr n k R a) r = true := by
  intro k
  induction k with
  | zero => intro _ a m r _ hm; omega
  | succ k ih =>
    intro hk a m r ha hm h1 h2
    have ih := ih (by omega)
    have hmn : m < n := by omega
    rw [cr_bt ha] at h1 ⊢
    rw [cr_bt hmn] at h2
    by_cases e : m = k
    · subst e
      have g1 : bt (cr n m R a) m = true := h1.elim id (fun h => h.1)
      have g2 : bt (cr n m R m) r = true := h2.elim id (fun h => h.2)
      exact Or.inr ⟨g1, g2⟩
    · have hmk : m < k := by omega
      rcases h1 with h1 | h1 <;> rcases h2 with h2 | h2
      · exact Or.inl (ih a m r ha hmk h1 h2)
      · exact Or.inr ⟨ih a m k ha hmk h1 h2.1, h2.2⟩
      · exact Or.inr ⟨h1.1, ih k m r (by omega) hmk h1.2 h2⟩
      · exact Or.inr ⟨h1.1, h2.2⟩
theorem tgf_bt {R : Rows} {a r : Nat} (ha : a < 32) (hr : r < 32) : ∀ k, k ≤ 32 → (bt (tgf R a k) r = true ↔ (r = a ∨ (r < k ∧ bt (R a) r = true ∧ bt (R r) a = true))) := by
  intro k
  induction k with
  | zero =>
    intro _
    show bt (one a) r = true ↔ _
    rw [bt_one hr ha]
    simp
  | succ k ih =>
    intro hk
    have ih := ih (by omega)
    show bt (if bt (R a) k = true ∧ bt (R k) a = true then tgf R a k ||| one k else tgf R a k) r = true ↔ _
    by_cases e : bt (R a) k = true ∧ bt (R k) a = true
    · rw [if_pos e, bt_set (by omega), ih]
      constructor
      · rintro ((h | h) | h)
        · exact Or.inl h
        · exact Or.inr ⟨by omega, h.2⟩
        · subst h; exact Or.inr ⟨by omega, e⟩
      · rintro (h | ⟨h1, h2⟩)
        · exact Or.inl (Or.inl h)
        · by_cases e2 : r = k
          · exact Or.inr e2
          · exact Or.inl (Or.inr ⟨by omega, h2⟩)
    · rw [if_neg e, ih]
      constructor
      · rintro (h | h)
        · exact Or.inl h
        · exact Or.inr ⟨by omega, h.2⟩
      · rintro (h | ⟨h1, h2⟩)
        · exact Or.inl h
        · by_cases e2 : r = k
          · subst e2; exact absurd h2 e
          · exact Or.inr ⟨by omega, h2⟩
theorem rgf_bt {P G : Rows} {r : Nat} : ∀ k, bt (rgf P G k) r = true ↔ ∃ a, a < k ∧ ¬ (P a &&& G a) = 0 ∧ bt (G a) r = true := by
  intro k
  induction k with
  | zero => exact ⟨fun h => absurd h (by show ¬ bt 0 r = true; rw [b_0]; decide), fun ⟨a, ha, _⟩ => by omega⟩
  | succ k ih =>
    show bt (if P k &&& G k = 0 then rgf P G k else rgf P G k ||| G k) r = true ↔ _
    by_cases e : P k &&& G k = 0
    · rw [if_pos e, ih]
      constructor
      · rintro ⟨a, h1, h2⟩; exact ⟨a, by omega, h2⟩
      · rintro ⟨a, h1, h2, h3⟩
        by_cases e2 : a = k
        · subst e2; exact absurd e h2
        · exact ⟨a, by omega, h2, h3⟩
    · rw [if_neg e, bt_or1, ih]
      constructor
      · rintro (⟨a, h1, h2⟩ | h)
        · exact ⟨a, by omega, h2⟩
        · exact ⟨k, by omega, e, h⟩
      · rintro ⟨a, h1, h2, h3⟩
        by_cases e2 : a = k
        · subst e2; exact Or.inr h3
        · exact Or.inl ⟨a, by omega, h2, h3⟩
/-- the rows have bits below n alone -/
def Bd (n : Nat) (P T : Rows) : Prop := ∀ a r, a < n → (bt (P a) r = true ∨ bt (T a) r = true) → r < n
section GM
variable {n : Nat} {P T : Rows}
theorem gR_bd (hb : Bd n P T) {a r : Nat} (ha : a < n) (h : bt (gR n P T a) r = true) : r < n :=
  cr_bd (R := fun a => P a ||| T a) (fun a r ha h => hb a r ha (bt_or1.mp h)) n (Nat.le_refl _) a r ha h
theorem gR_tr (hb : Bd n P T) {a m r : Nat} (ha : a < n) (h1 : bt (gR n P T a) m = true) (h2 : bt (gR n P T m) r = true) : bt (gR n P T a) r = true :=
  cr_tr n (Nat.le_refl _) a m r ha (gR_bd hb ha h1) h1 h2
theorem gR_P {a r : Nat} (ha : a < n) (h : bt (P a) r = true ∨ bt (T a) r = true) : bt (gR n P T a) r = true :=
  cr_inc (R := fun a => P a ||| T a) ha (bt_or1.mpr h) n
theorem gT_bt (hn : n ≤ 20) {a r : Nat} (ha : a < n) (hr : r < 32) : bt (gT n P T a) r = true ↔ (r = a ∨ (r < n ∧ bt (gR n P T a) r = true ∧ bt (gR n P T r) a = true)) :=
  tgf_bt (by omega) hr n (by omega)
theorem gT_bd (hn : n ≤ 20) {a r : Nat} (ha : a < n) (h : bt (gT n P T a) r = true) : r < n := by
  by_cases hr : r < 32
  · rcases (gT_bt hn ha hr).mp h with h | h
    · omega
    · exact h.1
  · rw [b_big (by omega)] at h; cases h
theorem gT_self (hn : n ≤ 20) {a : Nat} (ha : a < n) : bt (gT n P T a) a = true := (gT_bt hn ha (by omega)).mpr (Or.inl rfl)
theorem gT_eq (hb : Bd n P T) (hn : n ≤ 20) {a r : Nat} (ha : a < n) (h : bt (gT n P T a) r = true) : gT n P T r = gT n P T a := by
  have hr := gT_bd hn ha h
  rcases (gT_bt hn ha (by omega)).mp h with e | ⟨-, h1, h2⟩
  · rw [e]
  · apply b_ext
    intro s hs
    refine Bool.eq_iff_iff.mpr ?_
    rw [gT_bt hn hr hs, gT_bt hn ha hs]
    constructor
    · rintro (e | ⟨g1, g2, g3⟩)
      · subst e; exact Or.inr ⟨hr, h1, h2⟩
      · exact Or.inr ⟨g1, gR_tr hb ha h1 g2, gR_tr hb g1 g3 h2⟩
    · rintro (e | ⟨g1, g2, g3⟩)
      · subst e; exact Or.inr ⟨ha, h2, h1⟩
      · exact Or.inr ⟨g1, gR_tr hb hr h2 g2, gR_tr hb g1 g3 h1⟩
theorem gT_sym (hb : Bd n P T) (hn : n ≤ 20) {a r : Nat} (ha : a < n) (h : bt (gT n P T a) r = true) : bt (gT n P T r) a = true := by
  rw [gT_eq hb hn ha h]; exact gT_self hn ha
/-- in a ring: as the class has it, as the reference asks -/
theorem gG_bt (hb : Bd n P T) (hn : n ≤ 20) {r : Nat} (hr : r < n) : bt (gG n P T) r = true ↔ ∃ k, k < n ∧ bt (gT n P T r) k = true ∧ ¬ (P k &&& gT n P T r) = 0 := by
  unfold gG
  rw [rgf_bt]
  constructor
  · rintro ⟨a, ha, h1, h2⟩
    have e := gT_eq hb hn ha h2
    exact ⟨a, ha, gT_sym hb hn ha h2, by rw [e]; exact h1⟩
  · rintro ⟨k, hk, h1, h2⟩
    have e := gT_eq hb hn hr h1
    exact ⟨k, hk, by rw [e]; exact h2, gT_sym hb hn hr h1⟩
theorem gG_bd (hn : n ≤ 20) {r : Nat} (h : bt (gG n P T) r = true) : r < n := by
  unfold gG at h
  rw [rgf_bt] at h
  obtain ⟨a, ha, -, h2⟩ := h
  exact gT_bd hn ha h2
theorem gG_eq (hb : Bd n P T) (hn : n ≤ 20) {a r : Nat} (ha : a < n) (h : bt (gT n P T a) r = true) : bt (gG n P T) r = bt (gG n P T) a := by
  have hr := gT_bd hn ha h
  refine Bool.eq_iff_iff.mpr ?_
  rw [gG_bt hb hn hr, gG_bt hb hn ha, gT_eq hb hn ha h]
end GM
/-! the bounds of the rows that come from calls and goals -/
theorem gl_bd {n : Nat} {T S : Rows} (h : ∀ p r, p < 8 → bt (T p) r = true → r < n) {p r : Nat} (hp : p < 8) (hb : bt (gl T S p) r = true) : r < n :=
  gl_sd (Z := fun _ => r < n) ⟨fun p hp h2 => h p r hp h2, fun _ _ _ _ _ h => h⟩ p hp hb
theorem plR_bd {n c : Nat} {cs : Nat → Rows} {fr to so G : Rows} {E : Nat → Nat × Nat × Nat} (h : I_ce n c cs fr to so E) (hn : n ≤ 20) (hG : ∀ p r, p < 8 → bt (G p) r = true → r < n) {s a r : Nat} (hs : s < 2) (ha : a < n) (hb : bt (plR (cs s) (cs (s + 2)) G a) r = true) : r < n := by
  have hb : bt (cs s a ||| un G (cs (s + 2) a) 8) r = true := hb
  rw [bt_or1, un_bt] at hb
  by_cases hr : r < 32
  · rcases hb with hb | ⟨q, hq, -, hb⟩
    · rw [h.2.2 s a r (by omega) (by omega) hr] at hb
      obtain ⟨k, hk, e⟩ := hb
      have g := (h.1 k hk).2.2.1
      rw [e] at g
      exact g hs
    · exact hG q r hq hb
  · rcases hb with hb | ⟨q, hq, -, hb⟩
    · rw [b_big (by omega)] at hb; cases hb
    · rw [b_big (by omega)] at hb; cases hb
theorem Inv4.bd {n c ni nt : Nat} {σ : pw_Mem} (h : Inv4 n c ni nt σ) : Bd n (plR (σ 10) (σ 12) (σ 7)) (plR (σ 11) (σ 13) (σ 7)) := by
  obtain ⟨⟨r1, -⟩, hcl, hpt, -⟩ := h
  obtain ⟨-, -, -, E, hE⟩ := hcl.e
  have hG : ∀ p r, p < 8 → bt (σ 7 p) r = true → r < n := fun p r hp hb => by
    rw [(hpt p hp).2.2.2.2] at hb
    exact gl_bd (fun p r hp h => (hpt p hp).2.2.1 r h) hp hb
  intro a r ha hb
  rcases hb with hb | hb
  · exact plR_bd hE r1 hG (s := 0) (by decide) ha hb
  · exact plR_bd hE r1 hG (s := 1) (by decide) ha hb
/-! counts -/
theorem cnt_hi {x : Int32} {n : Nat} (h : ∀ r, bt x r = true → r < n) : ∀ k m, n ≤ k → k ≤ m → cnt x m = cnt x k := by
  intro k m hk
  induction m with
  | zero => intro h2; have e : k = 0 := by omega
            subst e; rfl
  | succ m ih =>
    intro h2
    by_cases e : k = m + 1
    · rw [e]
    · show cnt x m + (if bt x m then 1 else 0) = _
      rw [if_neg (fun z => by have := h m z; omega), ih (by omega)]
      rfl
theorem lst_spec {x : Int32} : ∀ k i, (lst x k i < i + k → bt x (lst x k i) = true) ∧ (∀ j, i ≤ j → j < lst x k i → bt x j = false) ∧ i ≤ lst x k i ∧ lst x k i ≤ i + k := by
  intro k
  induction k with
  | zero => intro i; exact ⟨fun h => by have h : i < i + 0 := h; omega, fun j h1 h2 => by have h2 : j < i := h2; omega, Nat.le_refl _, Nat.le_refl _⟩
  | succ k ih =>
    intro i
    show ((if bt x i then i else lst x k (i + 1)) < i + (k + 1) → bt x (if bt x i then i else lst x k (i + 1)) = true) ∧ _
    by_cases e : bt x i = true
    · have el : lst x (k + 1) i = i := by show (if bt x i then i else _) = i; rw [if_pos e]
      rw [if_pos e, el]
      exact ⟨fun _ => e, fun j h1 h2 => by omega, Nat.le_refl _, by omega⟩
    · have el : lst x (k + 1) i = lst x k (i + 1) := by show (if bt x i then i else _) = _; rw [if_neg e]
      rw [if_neg e, el]
      obtain ⟨h1, h2, h3, h4⟩ := ih (i + 1)
      refine ⟨fun h => h1 (by omega), fun j hj1 hj2 => ?_, by omega, by omega⟩
      by_cases e2 : j = i
      · subst e2
        cases hh : bt x j with
        | true => exact absurd hh e
        | false => rfl
      · exact h2 j (by omega) hj2
theorem lst_lt {x : Int32} {j : Nat} (hj : j < 20) (h : bt x j = true) : lst x 20 0 ≤ j ∧ bt x (lst x 20 0) = true := by
  obtain ⟨h1, h2, h3, h4⟩ := lst_spec (x := x) 20 0
  have : lst x 20 0 ≤ j := Nat.le_of_not_lt fun q => by
    rw [h2 j (Nat.zero_le _) q] at h; cases h
  exact ⟨this, h1 (by omega)⟩
