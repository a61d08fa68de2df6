/-! shared and group: all ways to put tasks in groups, in their order -/
def ga (l : List Nat) (i : Nat) : Nat := l.getD i 0
/-- highest and one, of the first k -/
def hiN (a : Nat → Nat) : Nat → Nat
  | 0 => 0
  | k + 1 => if a k + 1 ≤ hiN a k then hiN a k else a k + 1
/-- the last place that can go up -/
def tf (a : Nat → Nat) : Nat → Option Nat
  | 0 => none
  | k + 1 => if hiN a k ≤ a k then tf a k else some k
def nxA (N : Nat) (l : List Nat) : Option (List Nat) := match tf (ga l) N with
  | none => none
  | some t => some (l.take t ++ [ga l t + 1] ++ List.replicate (N - 1 - t) 0)
def enF (f : Nat → List (List Nat)) : Nat → Nat → List (List Nat)
  | 0, _ => []
  | c + 1, g => f g ++ enF f c (g + 1)
def enL : Nat → Nat → List Nat → List (List Nat)
  | 0, _, pre => [pre]
  | k + 1, G, pre => enF (fun g => enL k (if G ≤ g then g + 1 else G) (pre ++ [g])) (G + 1) 0
def chk (N : Nat) : List (List Nat) → Bool
  | [] => false
  | a :: r => (match r with
    | [] => nxA N a == none
    | b :: _ => nxA N a == some b) && (match r with
    | [] => true
    | _ :: _ => chk N r)
theorem chk_all : ∀ N, N ≤ 6 → chk N (enL N 0 []) = true := by decide +kernel
theorem sep_all : ∀ N, N ≤ 6 → (enL N 0 []).contains (List.range N) = true := by decide +kernel
theorem fst_all : ∀ N, N ≤ 6 → (enL N 0 []).head? = some (List.replicate N 0) := by decide +kernel
theorem len_all : ∀ N, N ≤ 6 → (enL N 0 []).all (fun l => l.length == N && l.all (fun x => decide (x < N))) = true := by decide +kernel
/-- the greatest room of group g, of the first k -/
def wd (R : Nat → Nat) (a : Nat → Nat) (g : Nat) : Nat → Nat
  | 0 => 0
  | k + 1 => if a k = g then (if wd R a g k ≤ R k then R k else wd R a g k) else wd R a g k
def sm (R : Nat → Nat) (a : Nat → Nat) (k : Nat) : Nat → Nat
  | 0 => 0
  | g + 1 => sm R a k g + wd R a g k
/-- one and all rooms of the first k -/
def rsm (R : Nat → Nat) : Nat → Nat
  | 0 => 1
  | k + 1 => rsm R k + R k
def vd (A : Rows) (a : Nat → Nat) (k : Nat) : Prop := ∀ t u, t < k → u < t → a u = a t → bt (A t) u = true
section SHP
variable {R a b : Nat → Nat} {A : Rows}
theorem wd_cg {g : Nat} : ∀ k, (∀ i, i < k → a i = b i) → wd R a g k = wd R b g k := by
  intro k
  induction k with
  | zero => intro _; rfl
  | succ k ih =>
    intro h
    have e1 : wd R a g (k + 1) = if a k = g then (if wd R a g k ≤ R k then R k else wd R a g k) else wd R a g k := rfl
    have e2 : wd R b g (k + 1) = if b k = g then (if wd R b g k ≤ R k then R k else wd R b g k) else wd R b g k := rfl
    rw [e1, e2, ih (fun i hi => h i (by omega)), h k (by omega)]
theorem sm_cg {k : Nat} (h : ∀ i, i < k → a i = b i) : ∀ g, sm R a k g = sm R b k g := by
  intro g
  induction g with
  | zero => rfl
  | succ g ih =>
    have e1 : sm R a k (g + 1) = sm R a k g + wd R a g k := rfl
    have e2 : sm R b k (g + 1) = sm R b k g + wd R b g k := rfl
    rw [e1, e2, ih, wd_cg k h]
theorem vd_cg {k : Nat} (h : ∀ i, i < k → a i = b i) (hv : vd A a k) : vd A b k := fun t u ht hu e => hv t u ht hu (by rw [h t ht, h u (by omega)]; exact e)
theorem wd_s {g k : Nat} : wd R a g k ≤ wd R a g (k + 1) := by
  have e1 : wd R a g (k + 1) = if a k = g then (if wd R a g k ≤ R k then R k else wd R a g k) else wd R a g k := rfl
  rw [e1]
  by_cases h : a k = g
  · rw [if_pos h]
    by_cases h2 : wd R a g k ≤ R k
    · rw [if_pos h2]; exact h2
    · rw [if_neg h2]; exact Nat.le_refl _
  · rw [if_neg h]; exact Nat.le_refl _
theorem wd_o {g k : Nat} (h : ¬ a k = g) : wd R a g (k + 1) = wd R a g k := by
  have e1 : wd R a g (k + 1) = if a k = g then (if wd R a g k ≤ R k then R k else wd R a g k) else wd R a g k := rfl
  rw [e1, if_neg h]
theorem sm_le {k : Nat} : ∀ g, sm R a k g ≤ sm R a (k + 1) g := by
  intro g
  induction g with
  | zero => exact Nat.le_refl _
  | succ g ih =>
    have e1 : sm R a k (g + 1) = sm R a k g + wd R a g k := rfl
    have e2 : sm R a (k + 1) (g + 1) = sm R a (k + 1) g + wd R a g (k + 1) := rfl
    have := wd_s (R := R) (a := a) (g := g) (k := k)
    omega
theorem sm_mono {k : Nat} {g : Nat} : ∀ j, sm R a k g ≤ sm R a (k + j) g := by
  intro j
  induction j with
  | zero => exact Nat.le_refl _
  | succ j ih => exact Nat.le_trans ih (sm_le g)
theorem sm_o {k : Nat} : ∀ g, g ≤ a k → sm R a (k + 1) g = sm R a k g := by
  intro g
  induction g with
  | zero => intro _; rfl
  | succ g ih =>
    intro h
    have e1 : sm R a k (g + 1) = sm R a k g + wd R a g k := rfl
    have e2 : sm R a (k + 1) (g + 1) = sm R a (k + 1) g + wd R a g (k + 1) := rfl
    rw [e1, e2, ih (by omega), wd_o (by omega)]
theorem sm_step {k : Nat} : ∀ g, a k < g → sm R a (k + 1) g + wd R a (a k) k = sm R a k g + wd R a (a k) (k + 1) := by
  intro g
  induction g with
  | zero => intro h; omega
  | succ g ih =>
    intro h
    have e1 : sm R a k (g + 1) = sm R a k g + wd R a g k := rfl
    have e2 : sm R a (k + 1) (g + 1) = sm R a (k + 1) g + wd R a g (k + 1) := rfl
    by_cases e : a k = g
    · have h1 := sm_o (R := R) (a := a) (k := k) g (by omega)
      rw [e, e1, e2]
      omega
    · have h1 := ih (by omega)
      have h2 := wd_o (R := R) (a := a) (k := k) e
      omega
theorem wd_le {g B k : Nat} (hR : ∀ i, i < k → R i ≤ B) : wd R a g k ≤ B := by
  induction k with
  | zero => exact Nat.zero_le _
  | succ k ih =>
    have h1 := ih (fun i hi => hR i (by omega))
    have h2 := hR k (by omega)
    have e1 : wd R a g (k + 1) = if a k = g then (if wd R a g k ≤ R k then R k else wd R a g k) else wd R a g k := rfl
    rw [e1]
    by_cases h : a k = g
    · rw [if_pos h]
      by_cases h2 : wd R a g k ≤ R k
      · rw [if_pos h2]; assumption
      · rw [if_neg h2]; exact h1
    · rw [if_neg h]; exact h1
theorem sm_b {k B : Nat} (hR : ∀ i, i < k → R i ≤ B) : ∀ g, sm R a k g ≤ g * B := by
  intro g
  induction g with
  | zero => exact Nat.zero_le _
  | succ g ih =>
    have e1 : sm R a k (g + 1) = sm R a k g + wd R a g k := rfl
    have := wd_le (R := R) (a := a) (g := g) hR
    rw [e1, Nat.succ_mul]
    omega
theorem wd_a {g k : Nat} : wd R a g (k + 1) ≤ wd R a g k + R k := by
  have e1 : wd R a g (k + 1) = if a k = g then (if wd R a g k ≤ R k then R k else wd R a g k) else wd R a g k := rfl
  rw [e1]
  by_cases h : a k = g
  · rw [if_pos h]
    by_cases h2 : wd R a g k ≤ R k
    · rw [if_pos h2]; exact Nat.le_add_left _ _
    · rw [if_neg h2]; exact Nat.le_add_right _ _
  · rw [if_neg h]; exact Nat.le_add_right _ _
theorem sm_z : ∀ g, sm R a 0 g = 0 := by
  intro g
  induction g with
  | zero => rfl
  | succ g ih =>
    have e1 : sm R a 0 (g + 1) = sm R a 0 g + wd R a g 0 := rfl
    have e2 : wd R a g 0 = 0 := rfl
    omega
theorem sm_t {g : Nat} : ∀ k, sm R a k g < rsm R k := by
  intro k
  induction k with
  | zero =>
    have e1 : rsm R 0 = 1 := rfl
    have e2 := sm_z (R := R) (a := a) g
    omega
  | succ k ih =>
    have e1 : rsm R (k + 1) = rsm R k + R k := rfl
    by_cases h : a k < g
    · have h1 := sm_step (R := R) (a := a) (k := k) g h
      have h2 := wd_a (R := R) (a := a) (g := a k) (k := k)
      omega
    · have h1 := sm_o (R := R) (a := a) (k := k) g (by omega)
      omega
theorem rsm_b {B : Nat} : ∀ k, (∀ i, i < k → R i ≤ B) → rsm R k ≤ 1 + k * B := by
  intro k
  induction k with
  | zero => intro _; exact Nat.le_add_right _ _
  | succ k ih =>
    intro h
    have e1 : rsm R (k + 1) = rsm R k + R k := rfl
    have h1 := ih (fun i hi => h i (by omega))
    have h2 := h k (by omega)
    rw [e1, Nat.succ_mul]
    omega
theorem wd_0 {g k : Nat} (h : ∀ i, i < k → ¬ a i = g) : wd R a g k = 0 := by
  induction k with
  | zero => rfl
  | succ k ih => rw [wd_o (h k (by omega))]; exact ih (fun i hi => h i (by omega))
theorem sm_N {N : Nat} (h : ∀ i, i < N → a i < N) : ∀ j, sm R a N (N + j) = sm R a N N := by
  intro j
  induction j with
  | zero => rfl
  | succ j ih =>
    have e1 : sm R a N (N + (j + 1)) = sm R a N (N + j) + wd R a (N + j) N := rfl
    rw [e1, ih, wd_0 (fun i hi => by have := h i hi; omega)]
    omega
end SHP
theorem ga_lt {pre : List Nat} {g i : Nat} (h : i < pre.length) : ga (pre ++ [g]) i = ga pre i := by
  unfold ga
  rw [List.getD_eq_getElem?_getD, List.getD_eq_getElem?_getD, List.getElem?_append_left h]
theorem ga_eq {pre : List Nat} {g : Nat} : ga (pre ++ [g]) pre.length = g := by
  unfold ga
  rw [List.getD_eq_getElem?_getD, List.getElem?_append_right (Nat.le_refl _), Nat.sub_self]
  rfl
theorem enF_mem {f : Nat → List (List Nat)} {l : List Nat} : ∀ c g, l ∈ enF f c g → ∃ h, g ≤ h ∧ h < g + c ∧ l ∈ f h := by
  intro c
  induction c with
  | zero => intro g h; cases h
  | succ c ih =>
    intro g h
    have e : enF f (c + 1) g = f g ++ enF f c (g + 1) := rfl
    rw [e, List.mem_append] at h
    rcases h with h | h
    · exact ⟨g, Nat.le_refl _, by omega, h⟩
    · obtain ⟨q, q1, q2, q3⟩ := ih (g + 1) h
      exact ⟨q, by omega, by omega, q3⟩
theorem enL_pre : ∀ k G pre l, l ∈ enL k G pre → l.length = pre.length + k ∧ ∀ i, i < pre.length → ga l i = ga pre i := by
  intro k
  induction k with
  | zero =>
    intro G pre l h
    have e : enL 0 G pre = [pre] := rfl
    rw [e, List.mem_singleton] at h
    subst h
    exact ⟨rfl, fun _ _ => rfl⟩
  | succ k ih =>
    intro G pre l h
    obtain ⟨g, _, _, h3⟩ := enF_mem _ _ h
    obtain ⟨h4, h5⟩ := ih _ _ _ h3
    rw [List.length_append, List.length_singleton] at h4 h5
    exact ⟨by omega, fun i hi => by rw [h5 i (by omega), ga_lt hi]⟩
def vu (A : Rows) (a : Nat → Nat) (t : Nat) : Nat → Bool
  | 0 => true
  | u + 1 => vu A a t u && (!(decide (a u = a t)) || bt (A t) u)
def vdB (A : Rows) (a : Nat → Nat) : Nat → Bool
  | 0 => true
  | k + 1 => vdB A a k && vu A a k k
theorem vu_t {A : Rows} {a : Nat → Nat} {t : Nat} : ∀ k, vu A a t k = true ↔ ∀ u, u < k → a u = a t → bt (A t) u = true := by
  intro k
  induction k with
  | zero => exact ⟨fun _ u hu => absurd hu (Nat.not_lt_zero _), fun _ => rfl⟩
  | succ k ih =>
    have e : vu A a t (k + 1) = (vu A a t k && (!(decide (a k = a t)) || bt (A t) k)) := rfl
    rw [e, Bool.and_eq_true, ih, Bool.or_eq_true, Bool.not_eq_true', decide_eq_false_iff_not]
    constructor
    · rintro ⟨h1, h2⟩ u hu hg
      by_cases e2 : u = k
      · subst e2
        rcases h2 with h2 | h2
        · exact absurd hg h2
        · exact h2
      · exact h1 u (by omega) hg
    · intro h
      refine ⟨fun u hu => h u (by omega), ?_⟩
      by_cases e2 : a k = a t
      · exact Or.inr (h k (by omega) e2)
      · exact Or.inl e2
theorem vdB_t {A : Rows} {a : Nat → Nat} : ∀ k, vdB A a k = true ↔ vd A a k := by
  intro k
  induction k with
  | zero => exact ⟨fun _ t u ht => absurd ht (Nat.not_lt_zero _), fun _ => rfl⟩
  | succ k ih =>
    have e : vdB A a (k + 1) = (vdB A a k && vu A a k k) := rfl
    rw [e, Bool.and_eq_true, ih, vu_t]
    constructor
    · rintro ⟨h1, h2⟩ t u ht hu hg
      by_cases e2 : t = k
      · subst e2; exact h2 u hu hg
      · exact h1 t u (by omega) hu hg
    · intro h
      exact ⟨fun t u ht hu hg => h t u (by omega) hu hg, fun u hu hg => h k u (by omega) hu hg⟩
/-- the best so far, behind way l -/
def lss (o : Option (Nat × List Nat)) (s : Nat) : Bool := match o with
  | none => true
  | some q => decide (s < q.1)
def stp (N : Nat) (R : Nat → Nat) (A : Rows) (o : Option (Nat × List Nat)) (l : List Nat) : Option (Nat × List Nat) := if vdB A (ga l) N && lss o (sm R (ga l) N 6) then some (sm R (ga l) N 6, l) else o
theorem fold_id {β : Type} {f : β → List Nat → β} {o : β} : ∀ L : List (List Nat), (∀ l, l ∈ L → f o l = o) → L.foldl f o = o := by
  intro L
  induction L with
  | nil => intro _; rfl
  | cons l L ih =>
    intro h
    rw [List.foldl_cons, h l (List.mem_cons_self), ih (fun l' hl => h l' (List.mem_cons_of_mem _ hl))]
/-- who is in group g, of the first k -/
def mem (a : Nat → Nat) (g : Nat) : Nat → Int32
  | 0 => 0
  | k + 1 => if a k = g then mem a g k ||| one k else mem a g k
theorem mem_bt {a : Nat → Nat} {g u : Nat} : ∀ k, k ≤ 32 → (bt (mem a g k) u = true ↔ (u < k ∧ a u = g)) := by
  intro k
  induction k with
  | zero => intro _; exact ⟨fun h => absurd h (by show ¬ bt 0 u = true; rw [b_0]; decide), fun h => absurd h.1 (Nat.not_lt_zero _)⟩
  | succ k ih =>
    intro hk
    have ih := ih (by omega)
    show bt (if a k = g then mem a g k ||| one k else mem a g k) u = true ↔ _
    by_cases e : a k = g
    · rw [if_pos e, bt_set (by omega), ih]
      constructor
      · rintro (h | h)
        · exact ⟨by omega, h.2⟩
        · subst h; exact ⟨by omega, e⟩
      · rintro ⟨h1, h2⟩
        by_cases e2 : u = k
        · exact Or.inr e2
        · exact Or.inl ⟨by omega, h2⟩
    · rw [if_neg e, ih]
      constructor
      · rintro ⟨h1, h2⟩; exact ⟨by omega, h2⟩
      · rintro ⟨h1, h2⟩
        by_cases e2 : u = k
        · subst e2; exact absurd h2 e
        · exact ⟨by omega, h2⟩
theorem mem_cg {a b : Nat → Nat} {g : Nat} : ∀ k, (∀ i, i < k → a i = b i) → mem a g k = mem b g k := by
  intro k
  induction k with
  | zero => intro _; rfl
  | succ k ih =>
    intro h
    have e1 : mem a g (k + 1) = if a k = g then mem a g k ||| one k else mem a g k := rfl
    have e2 : mem b g (k + 1) = if b k = g then mem b g k ||| one k else mem b g k := rfl
    rw [e1, e2, ih (fun i hi => h i (by omega)), h k (by omega)]
theorem mem_ok {a : Nat → Nat} {g t : Nat} {A : Int32} (ht : t ≤ 32) : (mem a g t &&& (A ^^^ (-1))) = 0 ↔ ∀ u, u < t → a u = g → bt A u = true := by
  constructor
  · intro h u hu hg
    have h1 : bt (mem a g t &&& (A ^^^ (-1))) u = false := by rw [h, b_0]
    rw [b_and, (mem_bt t ht).mpr ⟨hu, hg⟩, Bool.true_and, bt_not (by omega)] at h1
    cases h2 : bt A u with
    | true => rfl
    | false => rw [h2] at h1; cases h1
  · intro h
    refine b_ext (fun u hu => ?_)
    rw [b_0, b_and]
    cases h1 : bt (mem a g t) u with
    | false => rfl
    | true =>
      obtain ⟨h2, h3⟩ := (mem_bt t ht).mp h1
      rw [bt_not hu, h u h2 h3]; rfl
