/-! scan -/
def gHold (la : Nat) (a1 a2 : Int32) (σ : pw_Mem) (K : Int32 → pw_Mem → Prop) : Prop := ((a1 < 0 → K 0 σ) ∧ (¬ a1 < 0 → ((((σ la 2) - (3 * (a2 + 1))) < a1 → K 0 σ) ∧ (¬ ((σ la 2) - (3 * (a2 + 1))) < a1 → K 1 σ))))
def gAdd (la ce : Nat) (a2 a3 : Int32) (σ : pw_Mem) (K : Int32 → pw_Mem → Prop) : Prop := gHold la a2 a3 σ (fun x2 τ1 => ((¬ x2 = 0 → vp_in (a2 + (3 * a3)) 60 ∧ vp_in ((a2 + (3 * a3)) + 1) 60 ∧ vp_in ((a2 + (3 * a3)) + 2) 60 ∧ R_X10_refusalOfCall (τ1 ce (Int32.toNatClampNeg (a2 + (3 * a3)))) (τ1 ce (Int32.toNatClampNeg ((a2 + (3 * a3)) + 1))) (τ1 ce (Int32.toNatClampNeg ((a2 + (3 * a3)) + 2))) τ1 (fun x4 τ3 => ((x4 = 0 → R_X0_add (τ1 ce (Int32.toNatClampNeg (a2 + (3 * a3)))) (τ1 ce (Int32.toNatClampNeg ((a2 + (3 * a3)) + 1))) (τ1 ce (Int32.toNatClampNeg ((a2 + (3 * a3)) + 2))) τ3 (fun τ5 => K 0 τ5)) ∧ (¬ x4 = 0 → K ((-20) + x4) τ3)))) ∧ (x2 = 0 → K (-12) τ1)))
def fits (L : Nat) (f : Int32) (j : Nat) : Prop := ∃ F, f = nI F ∧ F + 3 * (j + 1) ≤ L
def ent (cl : Rows) (F q : Nat) : Nat × Nat × Nat := (Int32.toNatClampNeg (cl (F + 3 * q)), Int32.toNatClampNeg (cl (F + 3 * q + 1)), Int32.toNatClampNeg (cl (F + 3 * q + 2)))
def EE (c : Nat) (E : Nat → Nat × Nat × Nat) (cl : Rows) (F k : Nat) : Nat × Nat × Nat := if k < c then E k else ent cl F (k - c)
/-- what stands fixed while a sheet is scanned -/
abbrev Sc : Type := Nat × Nat × Nat × Int32 × Rows × (Nat → Nat × Nat × Nat)
def Sc.n (S : Sc) : Nat := S.1
def Sc.c (S : Sc) : Nat := S.2.1
def Sc.L (S : Sc) : Nat := S.2.2.1
def Sc.f (S : Sc) : Int32 := S.2.2.2.1
def Sc.cl (S : Sc) : Rows := S.2.2.2.2.1
def Sc.E (S : Sc) : Nat → Nat × Nat × Nat := S.2.2.2.2.2
def Sc.F (S : Sc) : Nat := Int32.toNatClampNeg S.f
def Sc.ee (S : Sc) (k : Nat) : Nat × Nat × Nat := EE S.c S.E S.cl S.F k
def Sc.vv (S : Sc) (j : Nat) : Prop := vc S.n (S.cl (S.F + 3 * j)) (S.cl (S.F + 3 * j + 1)) (S.cl (S.F + 3 * j + 2))
def Sc.okk (S : Sc) (j : Nat) : Prop := fits S.L S.f j ∧ S.vv j ∧ (∀ k, k < S.c + j → ¬ S.ee k = ent S.cl S.F j) ∧ S.c + j < 60
def Sc.flt (S : Sc) (j : Nat) (x : Int32) : Prop := (x = -12 ∧ ¬ fits S.L S.f j) ∨ (x = -21 ∧ fits S.L S.f j ∧ ¬ S.vv j) ∨ (x = -22 ∧ fits S.L S.f j ∧ S.vv j ∧ ∃ k, k < S.c + j ∧ S.ee k = ent S.cl S.F j) ∨ (x = -23 ∧ fits S.L S.f j ∧ S.vv j ∧ (∀ k, k < S.c + j → ¬ S.ee k = ent S.cl S.F j) ∧ S.c + j = 60)
theorem Sc.no {S : Sc} {j : Nat} {x : Int32} (h1 : S.okk j) (h2 : S.flt j x) : False := by
  obtain ⟨a, b, d, e⟩ := h1
  rcases h2 with ⟨_, q⟩ | ⟨_, _, q⟩ | ⟨_, _, _, k, q1, q2⟩ | ⟨_, _, _, _, q⟩
  · exact q a
  · exact q b
  · exact d k q1 q2
  · omega
theorem Sc.one {S : Sc} {j : Nat} {x y : Int32} (h1 : S.flt j x) (h2 : S.flt j y) : x = y := by
  rcases h1 with ⟨e1, q1⟩ | ⟨e1, q1, r1⟩ | ⟨e1, q1, r1, k, s1, t1⟩ | ⟨e1, q1, r1, s1, t1⟩ <;> rcases h2 with ⟨e2, q2⟩ | ⟨e2, q2, r2⟩ | ⟨e2, q2, r2, k2, s2, t2⟩ | ⟨e2, q2, r2, s2, t2⟩
  · rw [e1, e2]
  · exact absurd q2 q1
  · exact absurd q2 q1
  · exact absurd q2 q1
  · exact absurd q1 q2
  · rw [e1, e2]
  · exact absurd r2 r1
  · exact absurd r2 r1
  · exact absurd q1 q2
  · exact absurd r1 r2
  · rw [e1, e2]
  · exact absurd t1 (s2 k s1)
  · exact absurd q1 q2
  · exact absurd r1 r2
  · exact absurd t2 (s1 k2 s2)
  · rw [e1, e2]
theorem ent_eq {cl : Rows} {F q i j t : Nat} (h1 : cl (F + 3 * q) = nI i) (h2 : cl (F + 3 * q + 1) = nI j) (h3 : cl (F + 3 * q + 2) = nI t) (hi : i < 2 ^ 31) (hj : j < 2 ^ 31) (ht : t < 2 ^ 31) : ent cl F q = (i, j, t) := by
  unfold ent
  rw [h1, h2, h3, cl_nI hi, cl_nI hj, cl_nI ht]
theorem sub_i {L M : Nat} (hL : L < 2 ^ 30) (hM : M < 2 ^ 30) : (nI L - nI M).toInt = (L : Int) - M := by
  rw [Int32.toInt_sub, nI_toInt (by omega), nI_toInt (by omega)]
  exact Int.bmod_eq_of_le (by omega) (by omega)
theorem tri (j : Nat) : 3 * nI j = nI (3 * j) := pk_mul 3 j
theorem g_hold {la L j : Nat} {f : Int32} {σ : pw_Mem} {K : Int32 → pw_Mem → Prop} (hL : σ la 2 = nI L) (h60 : L ≤ 60) (hj : j < 20) (h1 : fits L f j → K 1 σ) (h0 : ¬ fits L f j → K 0 σ) : gHold la f (nI j) σ K := by
  unfold gHold
  rw [hL, nI_1, tri]
  refine ⟨fun z => h0 ?_, fun z => ⟨fun y => h0 ?_, fun y => h1 ?_⟩⟩
  · rintro ⟨F, rfl, h⟩
    exact nI_pos (by omega) z
  · rintro ⟨F, rfl, h⟩
    have y2 := Int32.lt_iff_toInt_lt.mp y
    rw [sub_i (by omega) (by omega), nI_toInt (by omega)] at y2
    omega
  · obtain ⟨F, hF, rfl⟩ := nI_of z
    refine ⟨F, rfl, ?_⟩
    have y2 : ¬ (nI L - nI (3 * (j + 1))).toInt < (nI F).toInt := fun q => y (Int32.lt_iff_toInt_lt.mpr q)
    rw [sub_i (by omega) (by omega), nI_toInt hF] at y2
    omega
/-- the class adds one -/
theorem g_add {S : Sc} {la ce j : Nat} {τ : pw_Mem} {K : Int32 → pw_Mem → Prop} (hn : S.n ≤ 20) (h0 : τ 1 2 = nI S.n) (hL : τ la 2 = nI S.L) (h60 : S.L ≤ 60) (hce : τ ce = S.cl) (h8 : τ 8 1 = nI (S.c + j)) (hc : S.c + j ≤ 60) (hj : j < 20) {fr to so : Rows} (hI : I_ce S.n (S.c + j) (fun t => τ (10 + t)) fr to so S.ee) (hf : ∀ x, S.flt j x → ¬ x = 0 → K x τ) (hok : S.okk j → ∀ ρ : pw_Mem, (∀ k, ¬ k = 8 → ¬ (10 ≤ k ∧ k ≤ 13) → ρ k = τ k) → ρ 8 1 = nI (S.c + (j + 1)) → (∃ fr to so, I_ce S.n (S.c + (j + 1)) (fun t => ρ (10 + t)) fr to so S.ee) → K 0 ρ) : gAdd la ce S.f (nI j) τ K := by
  unfold gAdd
  refine g_hold hL h60 hj (fun hfit => ⟨fun _ => ?_, fun q => absurd q n01⟩) (fun hfit => ⟨fun q => absurd rfl q, fun _ => hf _ (Or.inl ⟨rfl, hfit⟩) (by decide)⟩)
  have hfit0 := hfit
  obtain ⟨F, eF, hF⟩ := hfit
  have eSF : S.F = F := by unfold Sc.F; rw [eF, cl_nI (by omega)]
  have e1 : nI (F + 3 * j) + 1 = nI (F + 3 * j + 1) := nI_1 _
  have e2 : nI (F + 3 * j) + 2 = nI (F + 3 * j + 2) := nI_add _ 2
  rw [eF, tri, nI_add, e1, e2, cl_nI (by omega), cl_nI (by omega), cl_nI (by omega), hce, ← eSF]
  rw [← eSF] at hF
  refine ⟨vp_in_nI (by omega) (by decide), vp_in_nI (by omega) (by decide), vp_in_nI (by omega) (by decide), ?_⟩
  refine e_ref hI hn h0 hc h8 (fun hv => ⟨fun q => absurd q (by decide), fun _ => hf _ (Or.inr (Or.inl ⟨rfl, hfit0, hv⟩)) (by decide)⟩) (fun i b t hi ht ea eb es j1 j2 hex => ⟨fun q => absurd q (by decide), fun _ => hf _ (Or.inr (Or.inr (Or.inl ⟨rfl, hfit0, ⟨i, b, t, hi, ht, ea, eb, es, j1, j2⟩, ?_⟩))) (by decide)⟩) (fun i b t hi ht ea eb es j1 j2 hno h6 => ⟨fun q => absurd q (by decide), fun _ => hf _ (Or.inr (Or.inr (Or.inr ⟨rfl, hfit0, ⟨i, b, t, hi, ht, ea, eb, es, j1, j2⟩, ?_, h6⟩))) (by decide)⟩) (fun i b t hi ht ea eb es j1 j2 hno h6 => ⟨fun _ => ?_, fun q => absurd rfl q⟩)
  · have := jb hn j1 j2
    rw [ent_eq ea eb es (by omega) (by omega) (by omega)]; exact hex
  · have := jb hn j1 j2
    rw [ent_eq ea eb es (by omega) (by omega) (by omega)]; exact hno
  · have hb32 := jb hn j1 j2
    have ee := ent_eq ea eb es (by omega) (by omega) (by omega)
    have hokk : S.okk j := ⟨hfit0, ⟨i, b, t, hi, ht, ea, eb, es, j1, j2⟩, by rw [ee]; exact hno, h6⟩
    rw [ea, eb, es]
    refine e_add (by omega) ht (fun ρ hρ => hok hokk ρ (fun k k1 k2 => ?_) ?_ ?_)
    · rw [hρ, pw_r k1, pw_r (by omega)]
    · rw [hρ, pw_s, upd_s, h8, nI_1]; rfl
    · have hadd := hI.add (cs' := fun u => ρ (10 + u)) hn hi ht j1 j2 hno (fun u hu => ?_)
      · have eE : (fun k => if k = S.c + j then (i, b, t) else S.ee k) = S.ee := by
          funext k
          by_cases ek : k = S.c + j
          · rw [if_pos ek, ek]
            unfold Sc.ee EE
            rw [if_neg (by omega), Nat.add_sub_cancel_left, ee]
          · rw [if_neg ek]
        rw [eE] at hadd
        exact ⟨_, _, _, hadd⟩
      · show ρ (10 + u) = _
        rw [hρ, pw_r (by omega)]
        by_cases e : u = t
        · subst e; rw [if_pos rfl, pw_s]
        · rw [if_neg e, pw_r (by omega)]
/-- the bits of the class, when the first q of j were taken back -/
def bts (S : Sc) (j q : Nat) (τ : pw_Mem) : Prop := ∀ t a b, t < 4 → a < 20 → b < 32 → (bt (τ (10 + t) a) b = true ↔ ∃ k, (k < S.c ∨ (S.c + q ≤ k ∧ k < S.c + j)) ∧ S.ee k = (a, b, t))
theorem g_remL {S : Sc} {ce j : Nat} {τ0 : pw_Mem} (hn : S.n ≤ 20) (hce : τ0 ce = S.cl) (hce8 : ¬ ce = 8) (hce10 : ¬ (10 ≤ ce ∧ ce ≤ 13)) (h60 : S.L ≤ 60) (hc : S.c + j ≤ 60) (hj : j ≤ 20) (hokk : ∀ q, q < j → S.okk q) (hinj : ∀ k k', k < S.c + j → k' < S.c + j → S.ee k = S.ee k' → k = k') {Lp : Nat → Int32 → pw_Mem → Prop} {KX : Int32 → pw_Mem → Prop} (hu : ∀ (k : Nat) (l4 : Int32) (σ : pw_Mem), ((nI j ≤ l4 → KX l4 σ) ∧ (¬ nI j ≤ l4 → vp_in (S.f + (3 * l4)) 60 ∧ vp_in ((S.f + (3 * l4)) + 1) 60 ∧ vp_in ((S.f + (3 * l4)) + 2) 60 ∧ R_X0_remove (σ ce (Int32.toNatClampNeg (S.f + (3 * l4)))) (σ ce (Int32.toNatClampNeg ((S.f + (3 * l4)) + 1))) (σ ce (Int32.toNatClampNeg ((S.f + (3 * l4)) + 2))) σ (fun τ1 => Lp k (l4 + 1) τ1))) → Lp (k + 1) l4 σ) (hX : ∀ τ : pw_Mem, (∀ k, ¬ k = 8 → ¬ (10 ≤ k ∧ k ≤ 13) → τ k = τ0 k) → τ 8 1 = nI S.c → bts S j j τ → KX (nI j) τ) : ∀ (k q : Nat) (τ : pw_Mem), q + k = j → (∀ k, ¬ k = 8 → ¬ (10 ≤ k ∧ k ≤ 13) → τ k = τ0 k) → τ 8 1 = nI (S.c + k) → bts S j q τ → Lp (k + 1) (nI q) τ := by
  intro k
  induction k with
  | zero =>
    intro q τ hq hs h8 hb
    have e : q = j := by omega
    subst e
    exact hu 0 _ τ ⟨fun _ => hX τ hs h8 hb, fun z => absurd (nI_le (Nat.le_refl _) (by omega)) z⟩
  | succ k ih =>
    intro q τ hq hs h8 hb
    refine hu (k + 1) _ τ ⟨fun z => absurd ((nI_leI (by omega) (by omega)).mp z) (by omega), fun _ => ?_⟩
    obtain ⟨⟨F, eF, hF⟩, hv, hno, hlt⟩ := hokk q (by omega)
    have eSF : S.F = F := by unfold Sc.F; rw [eF, cl_nI (by omega)]
    have e1 : nI (F + 3 * q) + 1 = nI (F + 3 * q + 1) := nI_1 _
    have e2 : nI (F + 3 * q) + 2 = nI (F + 3 * q + 2) := nI_add _ 2
    rw [eF, tri, nI_add, e1, e2, cl_nI (by omega), cl_nI (by omega), cl_nI (by omega), hs ce hce8 hce10, hce, ← eSF, nI_1]
    rw [← eSF] at hF
    refine ⟨vp_in_nI (by omega) (by decide), vp_in_nI (by omega) (by decide), vp_in_nI (by omega) (by decide), ?_⟩
    obtain ⟨i, b, t, hi, ht, ea, eb, es, j1, j2⟩ := hv
    have hb32 := jb hn j1 j2
    have ee := ent_eq ea eb es (by omega) (by omega) (by omega)
    have eq : S.ee (S.c + q) = (i, b, t) := by
      unfold Sc.ee EE
      rw [if_neg (by omega), Nat.add_sub_cancel_left, ee]
    rw [ea, eb, es]
    refine e_remove (by omega) ht (fun ρ hρ => ih (q + 1) ρ (by omega) (fun k k1 k2 => ?_) ?_ (fun t' a b' ht' ha hb' => ?_))
    · rw [hρ, pw_r k1, pw_r (by omega)]; exact hs k k1 k2
    · rw [hρ, pw_s, upd_s, h8]; exact nI_pred _
    · have base := hb t' a b' ht' ha hb'
      have hex : (∃ k, (k < S.c ∨ (S.c + (q + 1) ≤ k ∧ k < S.c + j)) ∧ S.ee k = (a, b', t')) ↔ ((∃ k, (k < S.c ∨ (S.c + q ≤ k ∧ k < S.c + j)) ∧ S.ee k = (a, b', t')) ∧ ¬ (a = i ∧ b' = b ∧ t' = t)) := by
        constructor
        · rintro ⟨k', h1, h2⟩
          refine ⟨⟨k', by omega, h2⟩, ?_⟩
          rintro ⟨rfl, rfl, rfl⟩
          have := hinj k' (S.c + q) (by omega) (by omega) (h2.trans eq.symm)
          omega
        · rintro ⟨⟨k', h1, h2⟩, h3⟩
          refine ⟨k', ?_, h2⟩
          have : ¬ k' = S.c + q := fun e => by
            rw [e, eq] at h2
            cases h2
            exact h3 ⟨rfl, rfl, rfl⟩
          omega
      rw [hex, ← base, hρ, pw_r (by omega)]
      by_cases e1 : t' = t
      · subst e1
        rw [pw_s]
        by_cases e2 : a = i
        · subst e2
          rw [upd_s, bt_clr hb' hb32]
          exact ⟨fun w => ⟨w.1, fun w2 => w.2 w2.2.1⟩, fun w => ⟨w.1, fun w2 => w.2 ⟨rfl, w2, rfl⟩⟩⟩
        · rw [upd_n e2]
          exact ⟨fun w => ⟨w, fun w2 => e2 w2.1⟩, fun w => w.1⟩
      · rw [pw_r (by omega)]
        exact ⟨fun w => ⟨w, fun w2 => e1 w2.2.2⟩, fun w => w.1⟩
/-- the class's loop -/
theorem g_scanL {S : Sc} {la ce m : Nat} {τ0 : pw_Mem} (hn : S.n ≤ 20) (h0 : τ0 1 2 = nI S.n) (hL : τ0 la 2 = nI S.L) (h60 : S.L ≤ 60) (hce : τ0 ce = S.cl) (hce8 : ¬ ce = 8) (hce10 : ¬ (10 ≤ ce ∧ ce ≤ 13)) (hla8 : ¬ la = 8) (hla10 : ¬ (10 ≤ la ∧ la ≤ 13)) (hm : m ≤ 20) {Lp : Nat → Int32 → pw_Mem → Prop} {K : Int32 → pw_Mem → Prop} {KX : Int32 → pw_Mem → Prop} {Rm : Int32 → pw_Mem → (pw_Mem → Prop) → Prop} (hu : ∀ (k : Nat) (l6 : Int32) (σ : pw_Mem), ((nI m ≤ l6 → KX l6 σ) ∧ (¬ nI m ≤ l6 → gAdd la ce S.f l6 σ (fun x11 τ10 => ((x11 = 0 → Lp k (l6 + 1) τ10) ∧ (¬ x11 = 0 → Rm l6 τ10 (fun τ12 => K x11 τ12)))))) → Lp (k + 1) l6 σ)
    (hr : ∀ (j : Nat) (τ : pw_Mem) (K' : pw_Mem → Prop), j ≤ 20 → S.c + j ≤ 60 → (∀ q, q < j → S.okk q) → (∀ k k', k < S.c + j → k' < S.c + j → S.ee k = S.ee k' → k = k') → (∀ k, ¬ k = 8 → ¬ (10 ≤ k ∧ k ≤ 13) → τ k = τ0 k) → τ 8 1 = nI (S.c + j) → bts S j 0 τ → (∀ ρ : pw_Mem, (∀ k, ¬ k = 8 → ¬ (10 ≤ k ∧ k ≤ 13) → ρ k = τ0 k) → ρ 8 1 = nI S.c → bts S j j ρ → K' ρ) → Rm (nI j) τ K')
    (hX : (∀ q, q < m → S.okk q) → ∀ τ : pw_Mem, (∀ k, ¬ k = 8 → ¬ (10 ≤ k ∧ k ≤ 13) → τ k = τ0 k) → τ 8 1 = nI (S.c + m) → (∃ fr to so, I_ce S.n (S.c + m) (fun t => τ (10 + t)) fr to so S.ee) → KX (nI m) τ)
    (hF : ∀ j x, j < m → (∀ q, q < j → S.okk q) → S.flt j x → ∀ τ : pw_Mem, (∀ k, ¬ k = 8 → ¬ (10 ≤ k ∧ k ≤ 13) → τ k = τ0 k) → τ 8 1 = nI S.c → bts S j j τ → K x τ) : ∀ (k j : Nat) (τ : pw_Mem), j + k = m → (∀ q, q < j → S.okk q) → S.c + j ≤ 60 → (∀ k, ¬ k = 8 → ¬ (10 ≤ k ∧ k ≤ 13) → τ k = τ0 k) → τ 8 1 = nI (S.c + j) → (∃ fr to so, I_ce S.n (S.c + j) (fun t => τ (10 + t)) fr to so S.ee) → Lp (k + 1) (nI j) τ := by
  intro k
  induction k with
  | zero =>
    intro j τ hj hokk hc hs h8 hI
    have e : j = m := by omega
    subst e
    exact hu 0 _ τ ⟨fun _ => hX hokk τ hs h8 hI, fun z => absurd (nI_le (Nat.le_refl _) (by omega)) z⟩
  | succ k ih =>
    intro j τ hj hokk hc hs h8 hI
    refine hu (k + 1) _ τ ⟨fun z => absurd ((nI_leI (by omega) (by omega)).mp z) (by omega), fun _ => ?_⟩
    obtain ⟨fr, to, so, hI⟩ := hI
    rw [nI_1]
    refine g_add hn (by rw [hs 1 (by decide) (by decide)]; exact h0) (by rw [hs la hla8 hla10]; exact hL) h60 (by rw [hs ce hce8 hce10]; exact hce) h8 hc (by omega) hI (fun x hx hx0 => ⟨fun z => absurd z hx0, fun _ => ?_⟩) (fun hok ρ p1 p2 p3 => ⟨fun _ => ?_, fun z => absurd rfl z⟩)
    · refine hr j τ _ (by omega) hc hokk hI.2.1 hs h8 (fun t a b ht ha hb => ?_) (fun ρ q1 q2 q3 => hF j x (by omega) hokk hx ρ q1 q2 q3)
      rw [hI.2.2 t a b ht ha hb]
      exact ⟨fun ⟨k, k1, k2⟩ => ⟨k, by omega, k2⟩, fun ⟨k, k1, k2⟩ => ⟨k, by omega, k2⟩⟩
    · refine ih (j + 1) ρ (by omega) (fun q hq => ?_) (by have := hok.2.2.2; omega) (fun k k1 k2 => (p1 k k1 k2).trans (hs k k1 k2)) p2 p3
      by_cases e : q = j
      · subst e; exact hok
      · exact hokk q (by omega)
