/-! results by kind; calls whose contract names them; locals forgotten -/
def ki (K : Int32 → pw_Mem → Prop) : pw_K := fun r τ => ∃ x, r = some (.int x) ∧ K x τ
def kv (K : pw_Mem → Prop) : pw_K := fun r τ => r = none ∧ K τ
theorem CT.mono {L : pw_Lay} {d : Nat} {M : pw_Md} {as : List Value} {σ : pw_Mem} {K K' : pw_K} (h : CT L d M as σ K) (hk : ∀ r τ, K r τ → K' r τ) : CT L d M as σ K' := by
  unfold CT Met at *
  refine MetFree.mono h (fun _ _ h => h) (fun _ _ _ _ _ h => h) (fun a s o t _ h => ?_)
  obtain ⟨⟨⟨r, τ, h1, h2, h3⟩, h4⟩, h5⟩ := h
  exact ⟨⟨⟨r, τ, h1, hk r τ h2, h3⟩, h4⟩, h5⟩
section PWI
variable {L : pw_Lay} {d : Nat} {M M' : pw_Md} {K : pw_K} {pc : Nat} {ls : List (Option Value)} {st stk : List Value} {σ : pw_Mem} {idx n : Nat}
theorem pw_cVi (as : List Value) {ci k : Nat} {fs : List (Option Nat)} {K' : Int32 → pw_Mem → Prop} (hd : decode M.2.2.1 pc = .ok (.invokevirtual idx, 3)) (hm : pw_MV M.2.1 idx ci M' n) (hs : pw_shp[k]? = some (.inl (ci, fs))) (hst : stk = as.reverse ++ .ref k :: st) (hn : as.length = n) (hc : (st.map fun v => v.category).sum ≤ 8)
    (ct : CT L d M' (.ref k :: as) σ (ki K')) (hk : ∀ x τ, K' x τ → PW L (d + 1) M K (pc + 3) ls (.int x :: st) τ) : PW L (d + 1) M K pc ls stk σ :=
  pw_callV as hd hm hs hst hn hc (ct.mono (fun r τ h => by obtain ⟨x, rfl, h⟩ := h; exact hk x τ h))
theorem pw_cVv (as : List Value) {ci k : Nat} {fs : List (Option Nat)} {K' : pw_Mem → Prop} (hd : decode M.2.2.1 pc = .ok (.invokevirtual idx, 3)) (hm : pw_MV M.2.1 idx ci M' n) (hs : pw_shp[k]? = some (.inl (ci, fs))) (hst : stk = as.reverse ++ .ref k :: st) (hn : as.length = n) (hc : (st.map fun v => v.category).sum ≤ 8)
    (ct : CT L d M' (.ref k :: as) σ (kv K')) (hk : ∀ τ, K' τ → PW L (d + 1) M K (pc + 3) ls st τ) : PW L (d + 1) M K pc ls stk σ :=
  pw_callV as hd hm hs hst hn hc (ct.mono (fun r τ h => by obtain ⟨rfl, h⟩ := h; exact hk τ h))
theorem pw_cSi (as : List Value) {K' : Int32 → pw_Mem → Prop} (hd : decode M.2.2.1 pc = .ok (.invokestatic idx, 3)) (hm : pw_MS M.2.1 idx M' n) (hst : stk = as.reverse ++ st) (hn : as.length = n) (hc : (st.map fun v => v.category).sum ≤ 8)
    (ct : CT L d M' as σ (ki K')) (hk : ∀ x τ, K' x τ → PW L (d + 1) M K (pc + 3) ls (.int x :: st) τ) : PW L (d + 1) M K pc ls stk σ :=
  pw_callS as hd hm hst hn hc (ct.mono (fun r τ h => by obtain ⟨x, rfl, h⟩ := h; exact hk x τ h))
theorem pw_cNi (as : List Value) {K' : Int32 → pw_Mem → Prop} (hd : decode M.2.2.1 pc = .ok (.invokestatic idx, 3)) (hm : pw_MN M.2.1 idx M' n) (hst : stk = as.reverse ++ st) (hn : as.length = n) (hc : (st.map fun v => v.category).sum ≤ 8)
    (ct : CT L d M' as σ (ki K')) (hk : ∀ x τ, K' x τ → PW L (d + 1) M K (pc + 3) ls (.int x :: st) τ) : PW L (d + 1) M K pc ls stk σ :=
  pw_callN as hd hm hst hn hc (ct.mono (fun r τ h => by obtain ⟨x, rfl, h⟩ := h; exact hk x τ h))
theorem pw_maxc : Lib.Math.max.code = cJ9_max_7cf53 := by decide +kernel
theorem pw_minc : Lib.Math.min.code = cJ9_min_7cf53 := by decide +kernel
theorem pw_maxn : Lib.Math.max.name = yJ9_max_7cf53 := by decide +kernel
theorem pw_minn : Lib.Math.min.name = yJ9_min_7cf53 := by decide +kernel
theorem pw_mmax {x y : Int32} (hd : decode M.2.2.1 pc = .ok (.invokestatic idx, 3)) (hm : pw_MS M.2.1 idx m_J9_max_7cf53 2) (hc : (st.map fun v => v.category).sum ≤ 8) (kk : PW L (d + 1) M K (pc + 3) ls (.int (if x < y then y else x) :: st) σ) : PW L (d + 1) M K pc ls (.int y :: .int x :: st) σ := by
  intro p e s m args below meth c H locs lsM hE hW hL
  have hts := hE.2.2.2.2.1
  refine va_mmax hE.1 hE.2.1 (hE.2.2.2.1.trans hL.1.symm) hE.2.2.2.2.2.1 (by rw [pw_maxn]; exact hts _ hm.1) (by rw [pw_maxn]; exact hts _ hm.2.1) (hts _ hm.2.2.1) (by rw [pw_maxn, pw_maxc]; exact hts _ hm.2.2.2.1) (Nat.succ_le_succ (Nat.zero_le _)) ?_ (Nat.zero_le _) (Nat.zero_le _) hd (kk p e s m args below meth c H locs lsM hE hW hL)
  rw [pw_cats]
  show _ ≤ 40 * (d + 1)
  omega
theorem pw_mmin {x y : Int32} (hd : decode M.2.2.1 pc = .ok (.invokestatic idx, 3)) (hm : pw_MS M.2.1 idx m_J9_min_7cf53 2) (hc : (st.map fun v => v.category).sum ≤ 8) (kk : PW L (d + 1) M K (pc + 3) ls (.int (if y < x then y else x) :: st) σ) : PW L (d + 1) M K pc ls (.int y :: .int x :: st) σ := by
  intro p e s m args below meth c H locs lsM hE hW hL
  have hts := hE.2.2.2.2.1
  refine va_mmin hE.1 hE.2.1 (hE.2.2.2.1.trans hL.1.symm) hE.2.2.2.2.2.1 (by rw [pw_minn]; exact hts _ hm.1) (by rw [pw_minn]; exact hts _ hm.2.1) (hts _ hm.2.2.1) (by rw [pw_minn, pw_minc]; exact hts _ hm.2.2.2.1) (Nat.succ_le_succ (Nat.zero_le _)) ?_ (Nat.zero_le _) (Nat.zero_le _) hd (kk p e s m args below meth c H locs lsM hE hW hL)
  rw [pw_cats]
  show _ ≤ 40 * (d + 1)
  omega
/-- fewer known locals -/
def pw_less : List (Option Value) → List (Option Value) → Prop
  | [], _ => True
  | none :: xs, _ :: ys => pw_less xs ys
  | some v :: xs, y :: ys => y = some v ∧ pw_less xs ys
  | _ :: _, [] => False
theorem pw_less_at : ∀ {xs ys : List (Option Value)}, pw_less xs ys → ∀ (i : Nat) (v : Value), xs[i]? = some (some v) → ys[i]? = some (some v)
  | [], _, _, _, _, h => by simp at h
  | none :: xs, y :: ys, h, i, v, hi => by
    cases i with
    | zero => cases hi
    | succ i => exact pw_less_at (xs := xs) (ys := ys) h i v hi
  | some w :: xs, y :: ys, h, i, v, hi => by
    have h : y = some w ∧ pw_less xs ys := h
    cases i with
    | zero => cases hi; exact congrArg some h.1
    | succ i => exact pw_less_at (xs := xs) (ys := ys) h.2 i v hi
  | none :: _, [], h, _, _, _ => h.elim
  | some _ :: _, [], h, _, _, _ => h.elim
theorem pw_forget {ls' : List (Option Value)} (h : pw_less ls' ls) (kk : PW L d M K pc ls' st σ) : PW L d M K pc ls st σ := by
  intro p e s m args below meth c H locs lsM hE hW hL
  exact kk p e s m args below meth c H locs lsM hE hW ⟨hL.1, hL.2.1, fun i v hi => hL.2.2 i v (pw_less_at h i v hi)⟩
theorem pw_out {x : Int32} (hi : Nat) (hh : hi < 2 ^ 31) (h : ∀ c : Nat, c ≤ hi → ¬ x = nI c) : x.toInt < 0 ∨ (hi : Int) < x.toInt := by
  by_cases h0 : x < 0
  · exact Or.inl (by simpa using Int32.lt_iff_toInt_lt.mp h0)
  · obtain ⟨j, hj, rfl⟩ := nI_of h0
    rw [nI_toInt hj]
    by_cases h1 : j ≤ hi
    · exact absurd rfl (h j h1)
    · right; omega
/-- a switch from 0 on: a case, and none -/
theorem pw_sw {dflt hi off : Int} {offs : Array Int} {len : Nat} {x : Int32} {tgt : Nat} (c : Nat) (hd : decode M.2.2.1 pc = .ok (.tableswitch dflt 0 hi offs, len)) (hx : x = nI c) (hc : c < 2 ^ 31) (hh : ¬ hi < (c : Int)) (ho : offs[c]? = some off) (ht : (pc : Int) + off = (tgt : Int)) (kk : PW L d M K tgt ls st σ) : PW L d M K pc ls (.int x :: st) σ := by
  have e : x.toInt = c := by rw [hx]; exact nI_toInt hc
  exact pw_tabI hd (by rw [e]; omega) (by rw [e]; exact hh) (by rw [e]; simpa using ho) ht kk
theorem pw_swd {dflt : Int} {hi : Nat} {offs : Array Int} {len : Nat} {x : Int32} {tgt : Nat} (hd : decode M.2.2.1 pc = .ok (.tableswitch dflt 0 (hi : Int) offs, len)) (hh : hi < 2 ^ 31) (hx : ∀ c : Nat, c ≤ hi → ¬ x = nI c) (ht : (pc : Int) + dflt = (tgt : Int)) (kk : PW L d M K tgt ls st σ) : PW L d M K pc ls (.int x :: st) σ :=
  pw_tabO hd (pw_out hi hh hx) ht kk
end PWI
