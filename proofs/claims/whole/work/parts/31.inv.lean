/-! what holds between calls -/
/-- all of the chosen pointers' sets -/
def un (g : Nat → Int32) (x : Int32) : Nat → Int32
  | 0 => 0
  | q + 1 => if bt x q then un g x q ||| g q else un g x q
abbrev Rows : Type := Nat → Int32
def plR (c0 c2 g : Rows) : Rows := fun a => c0 a ||| un g (c2 a) 8
/-- Warshall's rows: between b, for the rows below a -/
def cr1 (b : Nat) : Nat → Rows → Rows
  | 0, R => R
  | a + 1, R => if bt (cr1 b a R a) b then upd (cr1 b a R) a (cr1 b a R a ||| cr1 b a R b) else cr1 b a R
def cr (n : Nat) : Nat → Rows → Rows
  | 0, R => R
  | b + 1, R => cr1 b n (cr n b R)
def one (a : Nat) : Int32 := 1 <<< (nI a &&& 31)
def tgf (R : Rows) (a : Nat) : Nat → Int32
  | 0 => one a
  | b + 1 => if bt (R a) b = true ∧ bt (R b) a = true then tgf R a b ||| one b else tgf R a b
def rgf (P T : Rows) : Nat → Int32
  | 0 => 0
  | a + 1 => if P a &&& T a = 0 then rgf P T a else rgf P T a ||| T a
def gR (n : Nat) (P T : Rows) : Rows := cr n n (fun a => P a ||| T a)
def gT (n : Nat) (P T : Rows) : Rows := fun a => tgf (gR n P T) a n
def gG (n : Nat) (P T : Rows) : Int32 := rgf P (gT n P T) n
/-- how many of the bits below k -/
def cnt (x : Int32) : Nat → Nat
  | 0 => 0
  | k + 1 => cnt x k + (if bt x k then 1 else 0)
/-- the least bit below k, or k -/
def lst (x : Int32) : Nat → Nat → Nat
  | 0, i => i
  | k + 1, i => if bt x i then i else lst x k (i + 1)
def isLd (n : Nat) (P T : Rows) (c r : Nat) : Bool := decide (lst (gT n P T r) 20 0 = r ∧ cnt (gR n P T r ||| one r) 32 = c)
/-- the leaders in their order -/
def fl (p : Nat → Bool) : Nat → List Nat
  | 0 => []
  | i + 1 => if p i then fl p i ++ [i] else fl p i
def ll (Q : Nat → Nat → Bool) (n : Nat) : Nat → List Nat
  | 0 => []
  | c + 1 => ll Q n c ++ fl (Q (c + 1)) n
def ldl (n : Nat) (P T : Rows) : List Nat := ll (isLd n P T) n n
/-- the goals, as the reference lays them -/
def gq (S : Rows) (p : Nat) : Nat → Rows → Rows
  | 0, G => G
  | q + 1, G => upd (gq S p q G) p (gq S p q G p ||| (if bt (S p) q then gq S p q G q else 0))
def gp (S : Rows) : Nat → Rows → Rows
  | 0, G => G
  | p + 1, G => gq S p 8 (gp S p G)
def gr (S : Rows) : Nat → Rows → Rows
  | 0, G => G
  | k + 1, G => gp S 8 (gr S k G)
def gl (T S : Rows) : Rows := gr S 8 T
def I_rt (n : Nat) (s : Int32) (f t : Rows) (s' : Int32) (f' t' : Rows) : Prop := n ≤ 20 ∧ s = nI n ∧ s' = nI n ∧ (∀ i, i < n → ok (f i) 501 ∧ f' i = f i) ∧ (∀ i, i < n → ok (t i) 21 ∧ t' i = t i) ∧ ∀ i, n ≤ i → i < 20 → t i = 0
def I_cl (n c : Nat) (s : Int32) (c0 c1 c2 c3 : Rows) (s' : Int32) (fr to so : Rows) : Prop := c ≤ 60 ∧ s = nI c ∧ s' = nI c ∧ ∃ E : Nat → Nat × Nat × Nat, (∀ k, k < c → (E k).1 < n ∧ (E k).2.2 < 4 ∧ ((E k).2.2 < 2 → (E k).2.1 < n) ∧ (2 ≤ (E k).2.2 → (E k).2.1 < 8) ∧ fr k = nI (E k).1 ∧ to k = nI (E k).2.1 ∧ so k = nI (E k).2.2) ∧ (∀ k k', k < c → k' < c → E k = E k' → k = k') ∧ ∀ a b, a < 20 → b < 32 → (bt (c0 a) b = true ↔ ∃ k, k < c ∧ E k = (a, b, 0)) ∧ (bt (c1 a) b = true ↔ ∃ k, k < c ∧ E k = (a, b, 1)) ∧ (bt (c2 a) b = true ↔ ∃ k, k < c ∧ E k = (a, b, 2)) ∧ (bt (c3 a) b = true ↔ ∃ k, k < c ∧ E k = (a, b, 3))
def I_pt (n : Nat) (T S G T' S' : Rows) : Prop := ∀ p, p < 8 → T' p = T p ∧ S' p = S p ∧ (∀ r, bt (T p) r = true → r < n) ∧ (∀ q, bt (S p) q = true → q < 8) ∧ G p = gl T S p
def I_it (n m : Nat) (s : Int32) (a b c : Rows) (s' : Int32) (a' b' c' : Rows) : Prop := m ≤ 8 ∧ s = nI m ∧ s' = nI m ∧ ∀ i, i < m → (ok (a i) 8 ∧ ¬ a i = 0) ∧ a' i = a i ∧ ok (b i) n ∧ b' i = b i ∧ ok (c i) 101 ∧ c' i = c i
def I_tk (n m : Nat) (s : Int32) (a b c d : Rows) (s' : Int32) (a' b' c' d' : Rows) : Prop := m ≤ 6 ∧ s = nI m ∧ s' = nI m ∧ (∀ i, i < m → ok (a i) n ∧ a' i = a i ∧ ok (b i) 8 ∧ b' i = b i ∧ ok (c i) 101 ∧ c' i = c i) ∧ ∀ i, i < 6 → d' i = d i
def I_sh (a b : Rows) : Prop := ∀ g, g < 6 → a g = 0 ∧ b g = 0
def I_rn (n : Nat) (o a b o' a' b' : Rows) : Prop := ∃ h, h ≤ 40 ∧ o 2 = nI h ∧ o' 28 = nI h ∧ (∀ i, i < h → ok (a i) n ∧ a' i = a i ∧ b' i = b i) ∧ o' 32 = o 3 ∧ o' 33 = o 4 ∧ o' 34 = o 5 ∧ o' 35 = o 6 ∧ ((o 7 = -1 ∧ o' 27 = 0 ∧ h = 0) ∨ (ok (o 7) n ∧ o' 27 = 1 ∧ o' 31 = o 7))
/-- one sheet: its lane, its length, its cells; beside the reference's -/
def I_s1 (k : Nat) (la le : Int32) (ce la' le' ce' : Rows) : Prop := ((le = -1 ∧ la' k = -4) ∨ ∃ n m, n ≤ 60 ∧ m < 3 ∧ le = nI n ∧ le' k = nI n ∧ la = nI m ∧ la' k = nI m) ∧ ∀ i, i < 60 → ce i = ce' (60 * k + i)
def I_gr (n : Nat) (o p t r g l : Rows) (P T : Rows) : Prop := (o 3 = 0 ∨ o 3 = 1) ∧ (o 3 = 0 → (∀ a, a < n → p a = P a ∧ t a = T a ∧ r a = gR n P T a ∧ g a = gT n P T a) ∧ o 8 = gG n P T ∧ o 10 = nI (ldl n P T).length ∧ ∀ i x, (ldl n P T)[i]? = some x → l i = nI x)
def Inv4 (n c ni nt : Nat) (σ : pw_Mem) : Prop :=
  I_rt n (σ 1 2) (σ 2) (σ 3) (σ 49 0) (σ 50) (σ 51) ∧ I_cl n c (σ 8 1) (σ 10) (σ 11) (σ 12) (σ 13) (σ 49 3) (σ 52) (σ 53) (σ 54) ∧ I_pt n (σ 5) (σ 6) (σ 7) (σ 55) (σ 56) ∧ I_it n ni (σ 22 3) (σ 23) (σ 24) (σ 25) (σ 49 15) (σ 63) (σ 64) (σ 65) ∧ I_tk n nt (σ 26 4) (σ 27) (σ 28) (σ 29) (σ 30) (σ 49 19) (σ 66) (σ 67) (σ 68) (σ 69) ∧ I_sh (σ 35) (σ 36) ∧ I_rn n (σ 37) (σ 38) (σ 39) (σ 49) (σ 72) (σ 73) ∧
  (I_s1 0 (σ 41 1) (σ 41 2) (σ 42) (σ 74) (σ 75) (σ 76) ∧ I_s1 1 (σ 43 1) (σ 43 2) (σ 44) (σ 74) (σ 75) (σ 76) ∧ I_s1 2 (σ 45 1) (σ 45 2) (σ 46) (σ 74) (σ 75) (σ 76) ∧ I_s1 3 (σ 47 1) (σ 47 2) (σ 48) (σ 74) (σ 75) (σ 76)) ∧
  I_gr n (σ 14) (σ 15) (σ 16) (σ 17) (σ 18) (σ 19) (plR (σ 10) (σ 12) (σ 7)) (plR (σ 11) (σ 13) (σ 7))
def Inv (σ : pw_Mem) : Prop := ∃ n c ni nt, Inv4 n c ni nt σ
/-- what an operation owes: the same answer, and the next state -/
abbrev Nx (x y : Int32) (ρ : pw_Mem) : Prop := x = y ∧ Inv ρ
theorem n01 : ¬ (1 : Int32) = 0 := by decide
theorem ok_in {a : Int32} {n N : Nat} (h : ok a n) (hn : n ≤ N) (hN : N < 2 ^ 31) : vp_in a N := by
  obtain ⟨j, hj, rfl⟩ := h
  exact vp_in_nI (by omega) hN
theorem cl_nI {j : Nat} (h : j < 2 ^ 31) : Int32.toNatClampNeg (nI j) = j := nI_clamp h
theorem ok_mono {a : Int32} {n m : Nat} (h : ok a n) (hm : n ≤ m) : ok a m := by
  obtain ⟨j, hj, e⟩ := h
  exact ⟨j, by omega, e⟩
theorem upd_s (f : Rows) (k : Nat) (v : Int32) : upd f k v k = v := pk_us
theorem upd_n {f : Rows} {k j : Nat} {v : Int32} (h : ¬ j = k) : upd f k v j = f j := pk_un h
theorem I_rn.up {n : Nat} {o a b o' a' b' : Rows} (h : I_rn n o a b o' a' b') {m : Nat} (hm : n ≤ m) : I_rn m o a b o' a' b' := by
  obtain ⟨g, h1, h2, h3, h4, h5, h6, h7, h8, h9⟩ := h
  refine ⟨g, h1, h2, h3, fun i hi => ⟨ok_mono (h4 i hi).1 hm, (h4 i hi).2⟩, h5, h6, h7, h8, ?_⟩
  rcases h9 with h | h
  · exact Or.inl h
  · exact Or.inr ⟨ok_mono h.1 hm, h.2⟩
/-- fields of the reference that its runs don't look at -/
theorem I_rn.oth {n k : Nat} {v : Int32} {o a b o' a' b' : Rows} (hk : k < 27) (h : I_rn n o a b o' a' b') : I_rn n o a b (upd o' k v) a' b' := by
  obtain ⟨g, h1, h2, h3, h4, h5, h6, h7, h8, h9⟩ := h
  refine ⟨g, h1, h2, ?_, h4, ?_, ?_, ?_, ?_, ?_⟩
  · rw [upd_n (by omega)]; exact h3
  · rw [upd_n (by omega)]; exact h5
  · rw [upd_n (by omega)]; exact h6
  · rw [upd_n (by omega)]; exact h7
  · rw [upd_n (by omega)]; exact h8
  · rw [upd_n (by omega), upd_n (by omega)]; exact h9
theorem I_cl.up {n c m : Nat} {s s' : Int32} {c0 c1 c2 c3 fr to so : Rows} (h : I_cl n c s c0 c1 c2 c3 s' fr to so) (hm : n ≤ m) : I_cl m c s c0 c1 c2 c3 s' fr to so := by
  obtain ⟨h1, h2, h3, E, h4, h5⟩ := h
  exact ⟨h1, h2, h3, E, fun k hk => ⟨by have := (h4 k hk).1; omega, (h4 k hk).2.1, fun q => by have := (h4 k hk).2.2.1 q; omega, (h4 k hk).2.2.2⟩, h5⟩
theorem I_pt.up {n m : Nat} {T S G T' S' : Rows} (h : I_pt n T S G T' S') (hm : n ≤ m) : I_pt m T S G T' S' := fun p hp => ⟨(h p hp).1, (h p hp).2.1, fun r hr => by have := (h p hp).2.2.1 r hr; omega, (h p hp).2.2.2⟩
theorem I_it.up {n k m : Nat} {s s' : Int32} {a b c a' b' c' : Rows} (h : I_it n m s a b c s' a' b' c') (hm : n ≤ k) : I_it k m s a b c s' a' b' c' := ⟨h.1, h.2.1, h.2.2.1, fun i hi => by
  obtain ⟨h1, h2, h3, h4⟩ := h.2.2.2 i hi
  exact ⟨h1, h2, ok_mono h3 hm, h4⟩⟩
theorem I_tk.up {n k m : Nat} {s s' : Int32} {a b c d a' b' c' d' : Rows} (h : I_tk n m s a b c d s' a' b' c' d') (hm : n ≤ k) : I_tk k m s a b c d s' a' b' c' d' := ⟨h.1, h.2.1, h.2.2.1, fun i hi => by
  obtain ⟨h1, h2⟩ := h.2.2.2.1 i hi
  exact ⟨ok_mono h1 hm, h2⟩, h.2.2.2.2⟩
theorem I_gr.old {n : Nat} {o p t r g l P T : Rows} (h : o 3 = 1) : I_gr n o p t r g l P T := ⟨Or.inr h, fun q => absurd (h.symm.trans q) (by decide)⟩
