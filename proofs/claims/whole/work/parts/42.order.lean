/-! the leaders' order; the graph is fresh -/
def ct (p : Nat → Bool) : Nat → Nat
  | 0 => 0
  | k + 1 => ct p k + (if p k then 1 else 0)
theorem ct_le (p : Nat → Bool) : ∀ k, ct p k ≤ k := by
  intro k
  induction k with
  | zero => exact Nat.le_refl _
  | succ k ih => unfold ct; split <;> omega
theorem ct_mono (p : Nat → Bool) {k m : Nat} (h : k ≤ m) : ct p k ≤ ct p m := by
  induction m with
  | zero => have e : k = 0 := by omega
            subst e; exact Nat.le_refl _
  | succ m ih =>
    by_cases e : k = m + 1
    · subst e; exact Nat.le_refl _
    · have := ih (by omega)
      have e2 : ct p (m + 1) = ct p m + (if p m then 1 else 0) := rfl
      rw [e2]
      omega
theorem ct_or {p q r : Nat → Bool} (h : ∀ k, r k = true ↔ (p k = true ∨ q k = true)) (hd : ∀ k, ¬ (p k = true ∧ q k = true)) : ∀ k, ct r k = ct p k + ct q k := by
  intro k
  induction k with
  | zero => rfl
  | succ k ih =>
    unfold ct
    rw [ih]
    by_cases e1 : p k = true <;> by_cases e2 : q k = true
    · exact absurd ⟨e1, e2⟩ (hd k)
    · rw [if_pos e1, if_neg e2, if_pos ((h k).mpr (Or.inl e1))]; omega
    · rw [if_neg e1, if_pos e2, if_pos ((h k).mpr (Or.inr e2))]; omega
    · rw [if_neg e1, if_neg e2, if_neg (fun z => ((h k).mp z).elim e1 e2)]; omega
theorem fl_len (p : Nat → Bool) : ∀ k, (fl p k).length = ct p k := by
  intro k
  induction k with
  | zero => rfl
  | succ k ih =>
    unfold fl ct
    by_cases e : p k = true
    · rw [if_pos e, if_pos e, List.length_append, ih]; rfl
    · rw [if_neg e, if_neg e, ih, Nat.add_zero]
theorem fl_cg {p q : Nat → Bool} : ∀ k, (∀ i, i < k → p i = q i) → fl p k = fl q k := by
  intro k
  induction k with
  | zero => intro _; rfl
  | succ k ih => intro h; unfold fl; rw [ih (fun i hi => h i (by omega)), h k (by omega)]
theorem ll_cg {P Q : Nat → Nat → Bool} {n : Nat} : ∀ c, (∀ c i, i < n → P c i = Q c i) → ll P n c = ll Q n c := by
  intro c
  induction c with
  | zero => intro _; rfl
  | succ c ih => intro h; unfold ll; rw [ih h, fl_cg n (fun i hi => h _ i hi)]
/-- a routine leads at one number alone -/
def Qd (g : Nat → Prop) (q : Nat → Nat) (Q : Nat → Nat → Bool) : Prop := ∀ c r, Q c r = true ↔ (g r ∧ q r = c)
def qs (Q : Nat → Nat → Bool) : Nat → Nat → Bool
  | 0, _ => false
  | c + 1, r => qs Q c r || Q (c + 1) r
theorem qs_d {g : Nat → Prop} {q : Nat → Nat} {Q : Nat → Nat → Bool} (h : Qd g q Q) : ∀ c r, qs Q c r = true → q r ≤ c := by
  intro c
  induction c with
  | zero => intro r hr; cases hr
  | succ c ih =>
    intro r hr
    unfold qs at hr
    rw [Bool.or_eq_true] at hr
    rcases hr with hr | hr
    · have := ih r hr; omega
    · have := ((h _ _).mp hr).2; omega
theorem ll_len {g : Nat → Prop} {q : Nat → Nat} {Q : Nat → Nat → Bool} {n : Nat} (h : Qd g q Q) : ∀ c, (ll Q n c).length = ct (qs Q c) n := by
  intro c
  induction c with
  | zero =>
    have : ∀ n, ct (qs Q 0) n = 0 := by
      intro n
      induction n with
      | zero => rfl
      | succ n ih => show ct (qs Q 0) n + 0 = 0; rw [ih]
    rw [this]; rfl
  | succ c ih =>
    show (ll Q n c ++ fl (Q (c + 1)) n).length = _
    rw [List.length_append, ih, fl_len]
    refine (ct_or (fun k => ?_) (fun k hk => ?_) n).symm
    · show (qs Q c k || Q (c + 1) k) = true ↔ _
      rw [Bool.or_eq_true]
    · have e1 := qs_d h c k hk.1
      have e2 := ((h _ _).mp hk.2).2
      omega
theorem ll_le {g : Nat → Prop} {q : Nat → Nat} {Q : Nat → Nat → Bool} {n : Nat} (h : Qd g q Q) (c i : Nat) (hi : i ≤ n) : (ll Q n c ++ fl (Q (c + 1)) i).length ≤ n := by
  have h1 := ll_len (n := n) h (c + 1)
  have h2 := ct_le (qs Q (c + 1)) n
  have h3 : (ll Q n (c + 1)).length = (ll Q n c).length + ct (Q (c + 1)) n := by
    show (ll Q n c ++ fl (Q (c + 1)) n).length = _
    rw [List.length_append, fl_len]
  have h4 := ct_mono (Q (c + 1)) hi
  rw [List.length_append, fl_len]
  omega
theorem cnt_le (x : Int32) : ∀ k, cnt x k ≤ k := by
  intro k
  induction k with
  | zero => exact Nat.le_refl _
  | succ k ih => unfold cnt; split <;> omega
/-- leads, by rows -/
def Ql (R T : Rows) (c r : Nat) : Bool := decide (lst (T r) 20 0 = r ∧ cnt (R r ||| one r) 32 = c)
theorem Ql_d (R T : Rows) : Qd (fun r => lst (T r) 20 0 = r) (fun r => cnt (R r ||| one r) 32) (Ql R T) := fun c r => by simp [Ql]
def Lay2 (l : List Nat) (s : Int32) (f : Rows) : Prop := s = nI l.length ∧ ∀ i x, l[i]? = some x → f i = nI x
theorem Lay2.push {l : List Nat} {s : Int32} {f : Rows} (h : Lay2 l s f) (x : Nat) : Lay2 (l ++ [x]) (s + 1) (upd f l.length (nI x)) := by
  refine ⟨by rw [h.1, nI_1, List.length_append]; rfl, fun i y hi => ?_⟩
  by_cases e : i = l.length
  · subst e
    rw [List.getElem?_append_right (Nat.le_refl _), Nat.sub_self] at hi
    cases hi
    rw [upd_s]
  · rw [upd_n e]
    by_cases e2 : i < l.length
    · rw [List.getElem?_append_left e2] at hi; exact h.2 i y hi
    · rw [List.getElem?_append_right (by omega)] at hi
      have : [x][i - l.length]? = none := List.getElem?_eq_none (by simp; omega)
      rw [this] at hi
      cases hi
section ORD
variable {n : Nat} {σ0 : pw_Mem}
theorem e_ord1 {K : pw_Mem → Prop} {KX : Int32 → Int32 → pw_Mem → Prop} {c : Nat} (hc : c ≤ n) (hn : n ≤ 20) (h0 : σ0 1 2 = nI n) (hX : ∀ τ : pw_Mem, (∀ k, ¬ k = 14 → ¬ k = 19 → τ k = σ0 k) → (∀ j, ¬ j = 10 → τ 14 j = σ0 14 j) → Lay2 (ll (Ql (σ0 17) (σ0 18)) n (c + 1)) (τ 14 10) (τ 19) → KX (nI (c + 1)) (nI n) τ) : ∀ (k i : Nat) (σ : pw_Mem), i + k = n → (∀ k, ¬ k = 14 → ¬ k = 19 → σ k = σ0 k) → (∀ j, ¬ j = 10 → σ 14 j = σ0 14 j) → Lay2 (ll (Ql (σ0 17) (σ0 18)) n c ++ fl (Ql (σ0 17) (σ0 18) (c + 1)) i) (σ 14 10) (σ 19) → R_X2_orderLeaders_L20 K KX (k + 1) (nI (c + 1)) (nI i) σ := by
  intro k
  induction k with
  | zero =>
    intro i σ hi hs hj hd
    have e : i = n := by omega
    subst e
    unfold R_X2_orderLeaders_L20
    rw [hs 1 (by decide) (by decide), h0]
    exact ⟨fun _ => hX σ hs hj hd, fun z => absurd (nI_le (Nat.le_refl i) (by omega)) z⟩
  | succ k ih =>
    intro i σ hi hs hj hd
    have hin : vp_in (nI i) 20 := vp_in_nI (by omega) (by decide)
    unfold R_X2_orderLeaders_L20
    rw [hs 1 (by decide) (by decide), h0, cl_nI (by omega), nI_1, hs 18 (by decide) (by decide)]
    have no : ¬ (lst (σ0 18 i) 20 0 = i ∧ cnt (σ0 17 i ||| one i) 32 = c + 1) → R_X2_orderLeaders_L20 K KX (k + 1) (nI (c + 1)) (nI (i + 1)) σ := fun z => by
      refine ih (i + 1) σ (by omega) hs hj ?_
      have e : fl (Ql (σ0 17) (σ0 18) (c + 1)) (i + 1) = fl (Ql (σ0 17) (σ0 18) (c + 1)) i := by
        show (if Ql (σ0 17) (σ0 18) (c + 1) i then _ else _) = _
        rw [if_neg (show ¬ Ql (σ0 17) (σ0 18) (c + 1) i = true from fun q => z (of_decide_eq_true q))]
      rw [e]
      exact hd
    refine ⟨fun z => absurd ((nI_leI (by omega) (by omega)).mp z) (by omega), fun _ => ⟨hin, ?_⟩⟩
    refine e_least (fun hl => ⟨fun q => no (fun z => q (by rw [z.1])), fun q => ?_⟩) (fun hl => ⟨fun _ => no (fun z => by omega), fun q => absurd q.symm (nm4 (by omega))⟩)
    have el : lst (σ0 18 i) 20 0 = i := nI_inj (by omega) (by omega) q
    unfold R_X2_selfAndReached
    refine ⟨hin, ?_⟩
    rw [cl_nI (by omega), hs 17 (by decide) (by decide)]
    have hcn := cnt_le (σ0 17 i ||| one i) 32
    refine e_bits ⟨fun q => no (fun z => q ?_), fun q => ?_⟩
    · have z2 := z.2
      show nI (cnt (σ0 17 i ||| one i) 32) = _
      rw [z2]
    · have ec : cnt (σ0 17 i ||| one i) 32 = c + 1 := nI_inj (by omega) (by omega) q
      have e : fl (Ql (σ0 17) (σ0 18) (c + 1)) (i + 1) = fl (Ql (σ0 17) (σ0 18) (c + 1)) i ++ [i] := by
        show (if Ql (σ0 17) (σ0 18) (c + 1) i then _ else _) = _
        rw [if_pos (show Ql (σ0 17) (σ0 18) (c + 1) i = true from decide_eq_true ⟨el, ec⟩)]
      have hlen := ll_le (n := n) (Ql_d (σ0 17) (σ0 18)) c (i + 1) (by omega)
      rw [e, ← List.append_assoc, List.length_append] at hlen
      have hlen : (ll (Ql (σ0 17) (σ0 18)) n c ++ fl (Ql (σ0 17) (σ0 18) (c + 1)) i).length + 1 ≤ n := hlen
      rw [hd.1]
      refine ⟨vp_in_nI (by omega) (by decide), ?_⟩
      rintro _ rfl _ rfl
      rw [cl_nI (by omega)]
      refine ih (i + 1) _ (by omega) (fun k k1 k2 => by rw [pw_r k1, pw_r k2, hs k k1 k2]) (fun j j1 => by rw [pw_s, upd_n j1, pw_r (by decide), hj j j1]) ?_
      rw [e, ← List.append_assoc, pw_s, upd_s, pw_r (by decide : ¬ 14 = 19), pw_r (by decide : ¬ 19 = 14), pw_s]
      exact hd.push i
theorem e_ord2 {K : pw_Mem → Prop} {KX : Int32 → pw_Mem → Prop} (hn : n ≤ 20) (h0 : σ0 1 2 = nI n) (hX : ∀ τ : pw_Mem, (∀ k, ¬ k = 14 → ¬ k = 19 → τ k = σ0 k) → (∀ j, ¬ j = 10 → τ 14 j = σ0 14 j) → Lay2 (ll (Ql (σ0 17) (σ0 18)) n n) (τ 14 10) (τ 19) → KX (nI (n + 1)) τ) : ∀ (k i : Nat) (σ : pw_Mem), i + k = n → (∀ k, ¬ k = 14 → ¬ k = 19 → σ k = σ0 k) → (∀ j, ¬ j = 10 → σ 14 j = σ0 14 j) → Lay2 (ll (Ql (σ0 17) (σ0 18)) n i) (σ 14 10) (σ 19) → R_X2_orderLeaders_L7 K KX (k + 1) (nI (i + 1)) σ := by
  intro k
  induction k with
  | zero =>
    intro i σ hi hs hj hd
    have e : i = n := by omega
    subst e
    unfold R_X2_orderLeaders_L7
    rw [hs 1 (by decide) (by decide), h0]
    exact ⟨fun _ => hX σ hs hj hd, fun z => absurd (nI_lt (Nat.lt_succ_self i) (by omega)) z⟩
  | succ k ih =>
    intro i σ hi hs hj hd
    unfold R_X2_orderLeaders_L7
    rw [hs 1 (by decide) (by decide), h0]
    refine ⟨fun z => absurd ((nI_ltI (by omega) (by omega)).mp z) (by omega), fun _ => ⟨n + 1, ?_⟩⟩
    refine e_ord1 (n := n) (σ0 := σ0) (c := i) (by omega) hn h0 (fun τ t1 t2 t3 => ?_) n 0 σ (by omega) hs hj ?_
    · rw [nI_1]
      exact ih (i + 1) τ (by omega) t1 t2 t3
    · show Lay2 (_ ++ []) _ _
      rw [List.append_nil]
      exact hd
theorem e_order {K : pw_Mem → Prop} (hn : n ≤ 20) (h0 : σ0 1 2 = nI n) (hX : ∀ τ : pw_Mem, (∀ k, ¬ k = 14 → ¬ k = 19 → τ k = σ0 k) → (∀ j, ¬ j = 10 → τ 14 j = σ0 14 j) → Lay2 (ll (Ql (σ0 17) (σ0 18)) n n) (τ 14 10) (τ 19) → K τ) : R_X2_orderLeaders σ0 K := by
  unfold R_X2_orderLeaders
  rintro _ rfl
  refine ⟨n + 1, e_ord2 (n := n) (σ0 := pw_up σ0 14 10 0) hn (by rw [pw_r (by decide)]; exact h0) (fun τ t1 t2 t3 => hX τ (fun k k1 k2 => by rw [t1 k k1 k2, pw_r k1]) (fun j hj => by rw [t2 j hj, pw_s, upd_n hj]) ?_) n 0 _ (by omega) (fun _ _ _ => rfl) (fun _ _ => rfl) ?_⟩
  · rw [pw_r (by decide : ¬ 17 = 14), pw_r (by decide : ¬ 18 = 14)] at t3
    exact t3
  · refine ⟨by rw [pw_s, upd_s]; rfl, fun i x hi => ?_⟩
    have hi : ([] : List Nat)[i]? = some x := hi
    simp at hi
end ORD
/-! rows agree below n: so does all that is drawn from them -/
theorem cr1_cg {n b : Nat} {R R' : Rows} (hb : b < n) (h : ∀ a, a < n → R a = R' a) : ∀ k, k ≤ n → ∀ a, a < n → cr1 b k R a = cr1 b k R' a := by
  intro k
  induction k with
  | zero => intro _; exact h
  | succ k ih =>
    intro hk a ha
    unfold cr1
    rw [ih (by omega) k (by omega), ih (by omega) b hb]
    by_cases e : bt (cr1 b k R' k) b = true
    · rw [if_pos e, if_pos e]
      by_cases e2 : a = k
      · subst e2; rw [upd_s, upd_s]
      · rw [upd_n e2, upd_n e2]; exact ih (by omega) a ha
    · rw [if_neg e, if_neg e]; exact ih (by omega) a ha
theorem cr_cg {n : Nat} {R R' : Rows} (h : ∀ a, a < n → R a = R' a) : ∀ k, k ≤ n → ∀ a, a < n → cr n k R a = cr n k R' a := by
  intro k
  induction k with
  | zero => intro _; exact h
  | succ k ih => intro hk; exact cr1_cg (by omega) (ih (by omega)) n (Nat.le_refl _)
theorem tgf_cg {n a : Nat} {R R' : Rows} (ha : a < n) (h : ∀ a, a < n → R a = R' a) : ∀ k, k ≤ n → tgf R a k = tgf R' a k := by
  intro k
  induction k with
  | zero => intro _; rfl
  | succ k ih => intro hk; unfold tgf; rw [ih (by omega), h a ha, h k (by omega)]
theorem rgf_cg {n : Nat} {P P' T T' : Rows} (h : ∀ a, a < n → P a = P' a) (h2 : ∀ a, a < n → T a = T' a) : ∀ k, k ≤ n → rgf P T k = rgf P' T' k := by
  intro k
  induction k with
  | zero => intro _; rfl
  | succ k ih => intro hk; unfold rgf; rw [ih (by omega), h k (by omega), h2 k (by omega)]
/-- refresh: the graph holds what the calls and goals say -/
theorem e_refresh {n : Nat} {σ : pw_Mem} {K : pw_Mem → Prop} (hn : n ≤ 20) (h0 : σ 1 2 = nI n) (hg : I_gr n (σ 14) (σ 15) (σ 16) (σ 17) (σ 18) (σ 19) (plR (σ 10) (σ 12) (σ 7)) (plR (σ 11) (σ 13) (σ 7))) (hX : ∀ τ : pw_Mem, (∀ k, ¬ (14 ≤ k ∧ k ≤ 19) → τ k = σ k) → τ 14 3 = 0 → I_gr n (τ 14) (τ 15) (τ 16) (τ 17) (τ 18) (τ 19) (plR (σ 10) (σ 12) (σ 7)) (plR (σ 11) (σ 13) (σ 7)) → K τ) : R_X2_refresh σ K := by
  unfold R_X2_refresh
  refine ⟨fun q => ?_, fun q => hX σ (fun _ _ => rfl) q hg⟩
  rintro _ rfl
  refine e_draw (n := n) hn (by rw [pw_r (by decide)]; exact h0) (fun τ2 a1 a2 => ?_)
  refine e_close (n := n) hn (by rw [a1 1 (by decide), pw_r (by decide)]; exact h0) (fun τ3 b1 b2 => ?_)
  refine e_gath (n := n) hn (by rw [b1 1 (by decide), a1 1 (by decide), pw_r (by decide)]; exact h0) (fun τ4 c1 c2 => ?_)
  refine e_mark (n := n) hn (by rw [c1 1 (by decide), b1 1 (by decide), a1 1 (by decide), pw_r (by decide)]; exact h0) (fun τ5 d1 d2 d3 => ?_)
  refine e_order (n := n) hn (by rw [d1 1 (by decide), c1 1 (by decide), b1 1 (by decide), a1 1 (by decide), pw_r (by decide)]; exact h0) (fun τ6 f1 f2 f3 => ?_)
  simp (config := { decide := true }) only [pw_r, not_false_eq_true] at a2
  generalize hP : plR (σ 10) (σ 12) (σ 7) = P at a2 hX
  generalize hT : plR (σ 11) (σ 13) (σ 7) = T at a2 hX
  have e17 : ∀ a, a < n → τ3 17 a = gR n P T a := fun a ha => by
    rw [b2]
    exact cr_cg (fun a ha => (a2 a ha).2.2) n (Nat.le_refl _) a ha
  have e15 : ∀ a, a < n → τ5 15 a = P a := fun a ha => by
    rw [d1 15 (by decide), c1 15 (by decide), b1 15 (by decide)]; exact (a2 a ha).1
  have e18 : ∀ a, a < n → τ5 18 a = gT n P T a := fun a ha => by
    rw [d1 18 (by decide), c2 a ha]; exact tgf_cg ha e17 n (Nat.le_refl _)
  have e17' : ∀ a, a < n → τ5 17 a = gR n P T a := fun a ha => by
    rw [d1 17 (by decide), c1 17 (by decide)]; exact e17 a ha
  have e143 : τ6 14 3 = 0 := by
    rw [f2 3 (by decide), d2 3 (by decide), c1 14 (by decide), b1 14 (by decide), a1 14 (by decide), pw_s, upd_s]
  refine hX τ6 (fun k hk => ?_) e143 ⟨Or.inl e143, fun _ => ⟨fun a ha => ⟨?_, ?_, ?_, ?_⟩, ?_, ?_⟩⟩
  · rw [f1 k (by omega) (by omega), d1 k (by omega), c1 k (by omega), b1 k (by omega), a1 k (by omega), pw_r (by omega)]
  · rw [f1 15 (by decide) (by decide)]; exact e15 a ha
  · rw [f1 16 (by decide) (by decide), d1 16 (by decide), c1 16 (by decide), b1 16 (by decide)]; exact (a2 a ha).2.1
  · rw [f1 17 (by decide) (by decide)]; exact e17' a ha
  · rw [f1 18 (by decide) (by decide)]; exact e18 a ha
  · rw [f2 8 (by decide), d3, c1 15 (by decide)]
    refine rgf_cg (n := n) (fun a ha => ?_) (fun a ha => ?_) n (Nat.le_refl _)
    · rw [b1 15 (by decide)]; exact (a2 a ha).1
    · rw [c2 a ha]; exact tgf_cg ha e17 n (Nat.le_refl _)
  · have e : ll (Ql (τ5 17) (τ5 18)) n n = ldl n P T := ll_cg n (fun c i hi => by unfold Ql isLd; rw [e17' i hi, e18 i hi])
    rw [e] at f3
    exact f3
