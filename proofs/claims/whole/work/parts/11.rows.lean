theorem pw_tr_cat (L : pw_Lay) (v : Value) : (pw_tr L v).category = v.category := by cases v <;> rfl
theorem pw_cats (L : pw_Lay) (st : List Value) : ((st.map (pw_tr L)).map fun v => v.category).sum = (st.map fun v => v.category).sum := by
  induction st with
  | nil => rfl
  | cons v vs ih => simp only [List.map_cons, List.sum_cons, pw_tr_cat, ih]
/-- the listed locals, as the kit has them -/
def pw_lv (L : pw_Lay) (ls : List (Option Value)) : List (Nat × Value) := (List.range ls.length).filterMap (fun i => match ls[i]? with
  | some (some v) => some (i, pw_tr L v)
  | _ => none)
theorem pw_lv_in {L : pw_Lay} {ls : List (Option Value)} {i : Nat} {v : Value} (h : ls[i]? = some (some v)) : (i, pw_tr L v) ∈ pw_lv L ls := by
  refine List.mem_filterMap.mpr ⟨i, List.mem_range.mpr (List.getElem?_eq_some_iff.mp h).1, ?_⟩
  rw [h]
theorem pw_lv_of {L : pw_Lay} {ls : List (Option Value)} {q : Nat × Value} (h : q ∈ pw_lv L ls) : ∃ v, ls[q.1]? = some (some v) ∧ q.2 = pw_tr L v := by
  obtain ⟨i, -, hi⟩ := List.mem_filterMap.mp h
  cases e : ls[i]? with
  | none => rw [e] at hi; cases hi
  | some o =>
    cases o with
    | none => rw [e] at hi; cases hi
    | some v =>
      rw [e] at hi
      cases hi
      exact ⟨v, e, rfl⟩
theorem pw_Lc.has {L : pw_Lay} {nL : Nat} {ls : List (Option Value)} {lsM : Array Slot} (h : pw_Lc L nL ls lsM) : lv_has lsM nL (pw_lv L ls) := ⟨h.1, h.2.1, fun q hq => by
  obtain ⟨v, h1, h2⟩ := pw_lv_of hq
  rw [h2]
  exact h.2.2 q.1 v h1⟩
/-- a long that stood below place i is gone -/
def pw_is2 : Option (Option Value) → Bool
  | some (some v) => v.category == 2
  | _ => false
def pw_kill (ls : List (Option Value)) : Nat → List (Option Value)
  | 0 => ls
  | i + 1 => cond (pw_is2 ls[i]?) (ls.set i none) ls
def pw_setL (ls : List (Option Value)) (i : Nat) (v : Value) : List (Option Value) := (pw_kill ls i).set i (some v)
def pw_setL2 (ls : List (Option Value)) (i : Nat) (v : Value) : List (Option Value) := ((pw_kill ls i).set i (some v)).set (i + 1) none
theorem pw_kill_of {ls : List (Option Value)} {i j : Nat} {w : Value} (h : (pw_kill ls i)[j]? = some (some w)) : ls[j]? = some (some w) ∧ ¬ (j + 1 = i ∧ w.category = 2) := by
  cases i with
  | zero => exact ⟨h, fun q => by omega⟩
  | succ i =>
    have e : pw_kill ls (i + 1) = cond (pw_is2 ls[i]?) (ls.set i none) ls := rfl
    rw [e] at h
    cases hc : pw_is2 ls[i]? with
    | true =>
      rw [hc] at h
      have h : (ls.set i none)[j]? = some (some w) := h
      by_cases hj : j = i
      · subst hj
        have hl := (List.getElem?_eq_some_iff.mp h).1
        rw [List.length_set] at hl
        rw [List.getElem?_set_self hl] at h
        cases h
      · rw [List.getElem?_set_ne (fun q => hj q.symm)] at h
        exact ⟨h, fun q => hj (by omega)⟩
    | false =>
      rw [hc] at h
      have h8 : ls[j]? = some (some w) := h
      refine ⟨h8, fun q => ?_⟩
      have e2 : j = i := by omega
      subst e2
      rw [h8] at hc
      have hc : (w.category == 2) = false := hc
      rw [q.2] at hc
      cases hc
theorem pw_Lc.set {L : pw_Lay} {nL i : Nat} {ls : List (Option Value)} {lsM : Array Slot} {v : Value} (h : lv_has lsM nL ((i, pw_tr L v) :: (pw_lv L ls).filter (fun q => !(q.1 == i) && !(q.1 + 1 == i && q.2.category == 2)))) : pw_Lc L nL (pw_setL ls i v) lsM := by
  refine ⟨h.1, h.2.1, fun j w hj => ?_⟩
  unfold pw_setL at hj
  by_cases e : j = i
  · subst e
    have hl : j < ((pw_kill ls j).set j (some v)).length := (List.getElem?_eq_some_iff.mp hj).1
    rw [List.length_set] at hl
    rw [List.getElem?_set_self hl] at hj
    cases hj
    exact h.2.2 (j, pw_tr L v) List.mem_cons_self
  · rw [List.getElem?_set_ne (fun q => e q.symm)] at hj
    obtain ⟨h1, h2⟩ := pw_kill_of hj
    refine h.2.2 (j, pw_tr L w) (List.mem_cons_of_mem _ (List.mem_filter.mpr ⟨pw_lv_in h1, ?_⟩))
    simp only [pw_tr_cat]
    by_cases h3 : j + 1 = i
    · have h4 : ¬ w.category = 2 := fun q => h2 ⟨h3, q⟩
      simp [e, h4]
    · simp [e, h3]
theorem pw_Lc.set2 {L : pw_Lay} {nL i : Nat} {ls : List (Option Value)} {lsM : Array Slot} {v : Value} (h : lv_has lsM nL ((i, pw_tr L v) :: (pw_lv L ls).filter (fun q => !(q.1 == i) && (!(q.1 == i + 1) && !(q.1 + 1 == i && q.2.category == 2))))) : pw_Lc L nL (pw_setL2 ls i v) lsM := by
  refine ⟨h.1, h.2.1, fun j w hj => ?_⟩
  unfold pw_setL2 at hj
  have e0 : ¬ j = i + 1 := fun q => by
    subst q
    have hl := (List.getElem?_eq_some_iff.mp hj).1
    rw [List.length_set] at hl
    rw [List.getElem?_set_self hl] at hj
    cases hj
  rw [List.getElem?_set_ne (fun q => e0 q.symm)] at hj
  by_cases e : j = i
  · subst e
    have hl : j < ((pw_kill ls j).set j (some v)).length := (List.getElem?_eq_some_iff.mp hj).1
    rw [List.length_set] at hl
    rw [List.getElem?_set_self hl] at hj
    cases hj
    exact h.2.2 (j, pw_tr L v) List.mem_cons_self
  · rw [List.getElem?_set_ne (fun q => e q.symm)] at hj
    obtain ⟨h1, h2⟩ := pw_kill_of hj
    refine h.2.2 (j, pw_tr L w) (List.mem_cons_of_mem _ (List.mem_filter.mpr ⟨pw_lv_in h1, ?_⟩))
    simp only [pw_tr_cat]
    by_cases h3 : j + 1 = i
    · have h4 : ¬ w.category = 2 := fun q => h2 ⟨h3, q⟩
      simp [e, e0, h4]
    · simp [e, e0, h3]
/-- the locals at the entry -/
def pw_args : List Value → List (Option Value)
  | [] => []
  | v :: vs => if v.category = 2 then some v :: none :: pw_args vs else some v :: pw_args vs
theorem pw_args_in (L : pw_Lay) (as : List Value) : ∀ (o i : Nat) (v : Value), (pw_args as)[i]? = some (some v) → (o + i, pw_tr L v) ∈ lv_args o (as.map (pw_tr L)) := by
  induction as with
  | nil => intro o i v h; simp [pw_args] at h
  | cons a as ih =>
    intro o i v h
    unfold pw_args at h
    by_cases hc : a.category = 2
    · rw [if_pos hc] at h
      simp only [List.map_cons, lv_args, pw_tr_cat, hc, if_true]
      match i, h with
      | 0, h => cases h; exact List.mem_cons_self
      | 1, h => cases h
      | i + 2, h =>
        have h2 := ih (o + 2) i v h
        rw [show o + 2 + i = o + (i + 2) by omega] at h2
        exact List.mem_cons_of_mem _ h2
    · rw [if_neg hc] at h
      simp only [List.map_cons, lv_args, pw_tr_cat, hc, if_false]
      match i, h with
      | 0, h => cases h; exact List.mem_cons_self
      | i + 1, h =>
        have h2 := ih (o + 1) i v h
        rw [show o + 1 + i = o + (i + 1) by omega] at h2
        exact List.mem_cons_of_mem _ h2
section PWS
variable {L : pw_Lay} {d : Nat} {M : pw_Md} {K : pw_K} {pc : Nat} {ls : List (Option Value)} {st : List Value} {σ : pw_Mem}
theorem pw_enter {as : List Value} (hy : plainName M.1.cls = true) (ho : M.1.cls = M.2.1) (hle : (lg_sl (as.map (pw_tr L))).length ≤ M.2.2.2.1) {ls : List (Option Value)} (hls : pw_args as ++ List.replicate (M.2.2.2.1 - (pw_args as).length) none = ls) (h : PW L d M K 0 ls [] σ) : CT L d M as σ K := by
  refine Met.ofW (cc := M.2.2.1) (maxL := M.2.2.2.1) (ret := M.2.2.2.2) hy rfl ?_
  intro p e s m args below meth c s₁ B hml hv
  obtain ⟨rfl, hP, hK, hD, hN⟩ := hv
  have hts := atoms_spec (ws := .code M.1 M.2.2.1 M.2.2.2.1 M.2.2.2.2 :: pw_ws) B.pre
  have hown : s.vm.findClass M.1.cls = some m.cls := findClass_of_methodNamed B.named
  have hl := lv_entry (as.map (pw_tr L)) (n := M.2.2.2.1) hle
  rw [lg_entry_eq]
  generalize (lg_sl (as.map (pw_tr L)) ++ List.replicate (M.2.2.2.1 - (lg_sl (as.map (pw_tr L))).length) Slot.unset).toArray = lsM at hl ⊢
  refine h p e s m _ below meth c s.heap [] lsM ⟨B.exec, B.bytes, B.returns, hml, fun w hw => hts w (List.mem_cons_of_mem _ hw), by rw [← ho]; exact hown, hK, hN, B.notSynchronized⟩ ⟨hP, hD, va_S.rf⟩ ⟨hl.1, hl.2.1, fun i v hi => ?_⟩
  rw [← hls] at hi
  have hlt : i < (pw_args as).length := by
    refine Nat.lt_of_not_le fun q => ?_
    rw [List.getElem?_append_right q] at hi
    have := List.eq_of_mem_replicate (List.mem_of_getElem? hi)
    cases this
  rw [List.getElem?_append_left hlt] at hi
  have := hl.2.2 _ (pw_args_in L as 0 i v hi)
  rw [Nat.zero_add] at this
  exact this

theorem pw_iconst {n : Int} {v : Int32} (hd : decode M.2.2.1 pc = .ok (.iconst n, 1)) (hv : Int32.ofInt n = v) (kk : PW L d M K (pc + 1) ls (.int v :: st) σ) : PW L d M K pc ls st σ := by
  intro p e s m args below meth c H locs lsM hE hW hL
  exact lv_iconst hE.1 hE.2.1 hd hv (kk p e s m args below meth c H locs lsM hE hW hL)
theorem pw_bipush {n : Int} {v : Int32} (hd : decode M.2.2.1 pc = .ok (.bipush n, 2)) (hv : (Int8.ofInt n).toInt32 = v) (kk : PW L d M K (pc + 2) ls (.int v :: st) σ) : PW L d M K pc ls st σ := by
  intro p e s m args below meth c H locs lsM hE hW hL
  exact lv_bipush hE.1 hE.2.1 hd hv (kk p e s m args below meth c H locs lsM hE hW hL)
theorem pw_sipush {n : Int} {v : Int32} (hd : decode M.2.2.1 pc = .ok (.sipush n, 3)) (hv : (Int16.ofInt n).toInt32 = v) (kk : PW L d M K (pc + 3) ls (.int v :: st) σ) : PW L d M K pc ls st σ := by
  intro p e s m args below meth c H locs lsM hE hW hL
  exact lv_sipush hE.1 hE.2.1 hd hv (kk p e s m args below meth c H locs lsM hE hW hL)
theorem pw_lconst {n : Fin 2} {v : Int64} (hd : decode M.2.2.1 pc = .ok (.lconst n, 1)) (hv : Int64.ofNat (n : Nat) = v) (kk : PW L d M K (pc + 1) ls (.long v :: st) σ) : PW L d M K pc ls st σ := by
  intro p e s m args below meth c H locs lsM hE hW hL
  exact lv_lconst hE.1 hE.2.1 hd hv (kk p e s m args below meth c H locs lsM hE hW hL)
theorem pw_ldc {idx : Nat} {v : Int32} (hd : decode M.2.2.1 pc = .ok (.ldc idx, 2)) (hw : Jvm.Cond.constant M.2.1 idx v ∈ pw_ws) (kk : PW L d M K (pc + 2) ls (.int v :: st) σ) : PW L d M K pc ls st σ := by
  intro p e s m args below meth c H locs lsM hE hW hL
  exact lv_ldc hE.1 hE.2.1 hE.2.2.2.2.2.1 (hE.2.2.2.2.1 _ hw) hd (kk p e s m args below meth c H locs lsM hE hW hL)
theorem pw_ldcw {idx : Nat} {v : Int32} (hd : decode M.2.2.1 pc = .ok (.ldc_w idx, 3)) (hw : Jvm.Cond.constant M.2.1 idx v ∈ pw_ws) (kk : PW L d M K (pc + 3) ls (.int v :: st) σ) : PW L d M K pc ls st σ := by
  intro p e s m args below meth c H locs lsM hE hW hL
  exact lv_ldcw hE.1 hE.2.1 hE.2.2.2.2.2.1 (hE.2.2.2.2.1 _ hw) hd (kk p e s m args below meth c H locs lsM hE hW hL)
theorem pw_ldc2 {idx : Nat} {v : Int64} (hd : decode M.2.2.1 pc = .ok (.ldc2_w idx, 3)) (hw : Jvm.Cond.constantLong M.2.1 idx v ∈ pw_ws) (kk : PW L d M K (pc + 3) ls (.long v :: st) σ) : PW L d M K pc ls st σ := by
  intro p e s m args below meth c H locs lsM hE hW hL
  exact lv_ldc2 hE.1 hE.2.1 hE.2.2.2.2.2.1 (hE.2.2.2.2.1 _ hw) hd (kk p e s m args below meth c H locs lsM hE hW hL)
theorem pw_iload_n {k : Fin 4} {i : Nat} {x : Int32} (hd : decode M.2.2.1 pc = .ok (.iload_n k, 1)) (hi : (k : Nat) = i) (hl : ls[i]? = some (some (.int x))) (kk : PW L d M K (pc + 1) ls (.int x :: st) σ) : PW L d M K pc ls st σ := by
  intro p e s m args below meth c H locs lsM hE hW hL
  exact lv_iload_n hE.1 hE.2.1 hd hi (hL.2.2 _ _ hl) (kk p e s m args below meth c H locs lsM hE hW hL)
theorem pw_iload {i : Nat} {x : Int32} (hd : decode M.2.2.1 pc = .ok (.iload i, 2)) (hl : ls[i]? = some (some (.int x))) (kk : PW L d M K (pc + 2) ls (.int x :: st) σ) : PW L d M K pc ls st σ := by
  intro p e s m args below meth c H locs lsM hE hW hL
  exact lv_iload hE.1 hE.2.1 hd (hL.2.2 _ _ hl) (kk p e s m args below meth c H locs lsM hE hW hL)
theorem pw_lload_n {k : Fin 4} {i : Nat} {x : Int64} (hd : decode M.2.2.1 pc = .ok (.lload_n k, 1)) (hi : (k : Nat) = i) (hl : ls[i]? = some (some (.long x))) (kk : PW L d M K (pc + 1) ls (.long x :: st) σ) : PW L d M K pc ls st σ := by
  intro p e s m args below meth c H locs lsM hE hW hL
  exact lv_lload_n hE.1 hE.2.1 hd hi (hL.2.2 _ _ hl) (kk p e s m args below meth c H locs lsM hE hW hL)
theorem pw_lload {i : Nat} {x : Int64} (hd : decode M.2.2.1 pc = .ok (.lload i, 2)) (hl : ls[i]? = some (some (.long x))) (kk : PW L d M K (pc + 2) ls (.long x :: st) σ) : PW L d M K pc ls st σ := by
  intro p e s m args below meth c H locs lsM hE hW hL
  exact lv_lload hE.1 hE.2.1 hd (hL.2.2 _ _ hl) (kk p e s m args below meth c H locs lsM hE hW hL)
theorem pw_aload_n {k : Fin 4} {i : Nat} {x : Nat} (hd : decode M.2.2.1 pc = .ok (.aload_n k, 1)) (hi : (k : Nat) = i) (hl : ls[i]? = some (some (.ref x))) (kk : PW L d M K (pc + 1) ls (.ref x :: st) σ) : PW L d M K pc ls st σ := by
  intro p e s m args below meth c H locs lsM hE hW hL
  exact lv_aload_n hE.1 hE.2.1 hd hi (hL.2.2 _ _ hl) (kk p e s m args below meth c H locs lsM hE hW hL)
theorem pw_aload {i : Nat} {x : Nat} (hd : decode M.2.2.1 pc = .ok (.aload i, 2)) (hl : ls[i]? = some (some (.ref x))) (kk : PW L d M K (pc + 2) ls (.ref x :: st) σ) : PW L d M K pc ls st σ := by
  intro p e s m args below meth c H locs lsM hE hW hL
  exact lv_aload hE.1 hE.2.1 hd (hL.2.2 _ _ hl) (kk p e s m args below meth c H locs lsM hE hW hL)
theorem pw_istore_n {k : Fin 4} {i : Nat} {x : Int32} {ls' : List (Option Value)} (hd : decode M.2.2.1 pc = .ok (.istore_n k, 1)) (hi : (k : Nat) = i) (hn : i < M.2.2.2.1) (hl : pw_setL ls i (.int x) = ls') (kk : PW L d M K (pc + 1) ls' st σ) : PW L d M K pc ls (.int x :: st) σ := by
  intro p e s m args below meth c H locs lsM hE hW hL
  subst hl
  exact lv_istore_n hE.1 hE.2.1 hd hi hL.has hn rfl (fun ls9 h9 => kk p e s m args below meth c H locs ls9 hE hW (pw_Lc.set h9))
theorem pw_istore {i : Nat} {x : Int32} {ls' : List (Option Value)} (hd : decode M.2.2.1 pc = .ok (.istore i, 2)) (hn : i < M.2.2.2.1) (hl : pw_setL ls i (.int x) = ls') (kk : PW L d M K (pc + 2) ls' st σ) : PW L d M K pc ls (.int x :: st) σ := by
  intro p e s m args below meth c H locs lsM hE hW hL
  subst hl
  exact lv_istore hE.1 hE.2.1 hd hL.has hn rfl (fun ls9 h9 => kk p e s m args below meth c H locs ls9 hE hW (pw_Lc.set h9))
theorem pw_astore_n {k : Fin 4} {i : Nat} {x : Nat} {ls' : List (Option Value)} (hd : decode M.2.2.1 pc = .ok (.astore_n k, 1)) (hi : (k : Nat) = i) (hn : i < M.2.2.2.1) (hl : pw_setL ls i (.ref x) = ls') (kk : PW L d M K (pc + 1) ls' st σ) : PW L d M K pc ls (.ref x :: st) σ := by
  intro p e s m args below meth c H locs lsM hE hW hL
  subst hl
  exact lv_astore_n hE.1 hE.2.1 hd hi hL.has hn rfl (fun ls9 h9 => kk p e s m args below meth c H locs ls9 hE hW (pw_Lc.set h9))
theorem pw_astore {i : Nat} {x : Nat} {ls' : List (Option Value)} (hd : decode M.2.2.1 pc = .ok (.astore i, 2)) (hn : i < M.2.2.2.1) (hl : pw_setL ls i (.ref x) = ls') (kk : PW L d M K (pc + 2) ls' st σ) : PW L d M K pc ls (.ref x :: st) σ := by
  intro p e s m args below meth c H locs lsM hE hW hL
  subst hl
  exact lv_astore hE.1 hE.2.1 hd hL.has hn rfl (fun ls9 h9 => kk p e s m args below meth c H locs ls9 hE hW (pw_Lc.set h9))
theorem pw_lstore {i : Nat} {x : Int64} {ls' : List (Option Value)} (hd : decode M.2.2.1 pc = .ok (.lstore i, 2)) (hn : i + 1 < M.2.2.2.1) (hl : pw_setL2 ls i (.long x) = ls') (kk : PW L d M K (pc + 2) ls' st σ) : PW L d M K pc ls (.long x :: st) σ := by
  intro p e s m args below meth c H locs lsM hE hW hL
  subst hl
  exact lv_lstore hE.1 hE.2.1 hd hL.has hn rfl (fun ls9 h9 => kk p e s m args below meth c H locs ls9 hE hW (pw_Lc.set2 h9))
theorem pw_iinc {i : Nat} {n : Int} {x v : Int32} {ls' : List (Option Value)} (hd : decode M.2.2.1 pc = .ok (.iinc i n, 3)) (hx : ls[i]? = some (some (.int x))) (hv : x + Int32.ofInt n = v) (hn : i < M.2.2.2.1) (hl : pw_setL ls i (.int v) = ls') (kk : PW L d M K (pc + 3) ls' st σ) : PW L d M K pc ls st σ := by
  intro p e s m args below meth c H locs lsM hE hW hL
  subst hl
  obtain ⟨k9, hk9⟩ := List.getElem?_of_mem (pw_lv_in (L := L) hx)
  exact lv_iinc hE.1 hE.2.1 hd hL.has hk9 hv hn rfl (fun ls9 h9 => kk p e s m args below meth c H locs ls9 hE hW (pw_Lc.set h9))
theorem pw_iadd {x y : Int32} (hd : decode M.2.2.1 pc = .ok (.iadd, 1)) (kk : PW L d M K (pc + 1) ls (.int (x + y) :: st) σ) : PW L d M K pc ls (.int y :: .int x :: st) σ := by
  intro p e s m args below meth c H locs lsM hE hW hL
  exact lv_iadd hE.1 hE.2.1 hd (kk p e s m args below meth c H locs lsM hE hW hL)
theorem pw_isub {x y : Int32} (hd : decode M.2.2.1 pc = .ok (.isub, 1)) (kk : PW L d M K (pc + 1) ls (.int (x - y) :: st) σ) : PW L d M K pc ls (.int y :: .int x :: st) σ := by
  intro p e s m args below meth c H locs lsM hE hW hL
  exact lv_isub hE.1 hE.2.1 hd (kk p e s m args below meth c H locs lsM hE hW hL)
theorem pw_imul {x y : Int32} (hd : decode M.2.2.1 pc = .ok (.imul, 1)) (kk : PW L d M K (pc + 1) ls (.int (x * y) :: st) σ) : PW L d M K pc ls (.int y :: .int x :: st) σ := by
  intro p e s m args below meth c H locs lsM hE hW hL
  exact lv_imul hE.1 hE.2.1 hd (kk p e s m args below meth c H locs lsM hE hW hL)
theorem pw_iand {x y : Int32} (hd : decode M.2.2.1 pc = .ok (.iand, 1)) (kk : PW L d M K (pc + 1) ls (.int (x &&& y) :: st) σ) : PW L d M K pc ls (.int y :: .int x :: st) σ := by
  intro p e s m args below meth c H locs lsM hE hW hL
  exact lv_iand hE.1 hE.2.1 hd (kk p e s m args below meth c H locs lsM hE hW hL)
theorem pw_ior {x y : Int32} (hd : decode M.2.2.1 pc = .ok (.ior, 1)) (kk : PW L d M K (pc + 1) ls (.int (x ||| y) :: st) σ) : PW L d M K pc ls (.int y :: .int x :: st) σ := by
  intro p e s m args below meth c H locs lsM hE hW hL
  exact lv_ior hE.1 hE.2.1 hd (kk p e s m args below meth c H locs lsM hE hW hL)
theorem pw_ixor {x y : Int32} (hd : decode M.2.2.1 pc = .ok (.ixor, 1)) (kk : PW L d M K (pc + 1) ls (.int (x ^^^ y) :: st) σ) : PW L d M K pc ls (.int y :: .int x :: st) σ := by
  intro p e s m args below meth c H locs lsM hE hW hL
  exact lv_ixor hE.1 hE.2.1 hd (kk p e s m args below meth c H locs lsM hE hW hL)
theorem pw_ishl {x y : Int32} (hd : decode M.2.2.1 pc = .ok (.ishl, 1)) (kk : PW L d M K (pc + 1) ls (.int (x <<< (y &&& 31)) :: st) σ) : PW L d M K pc ls (.int y :: .int x :: st) σ := by
  intro p e s m args below meth c H locs lsM hE hW hL
  exact lv_ishl hE.1 hE.2.1 hd (kk p e s m args below meth c H locs lsM hE hW hL)
theorem pw_ishr {x y : Int32} (hd : decode M.2.2.1 pc = .ok (.ishr, 1)) (kk : PW L d M K (pc + 1) ls (.int (x >>> (y &&& 31)) :: st) σ) : PW L d M K pc ls (.int y :: .int x :: st) σ := by
  intro p e s m args below meth c H locs lsM hE hW hL
  exact lv_ishr hE.1 hE.2.1 hd (kk p e s m args below meth c H locs lsM hE hW hL)
theorem pw_irem {x y : Int32} (hd : decode M.2.2.1 pc = .ok (.irem, 1)) (hne : ¬ y = 0) (kk : PW L d M K (pc + 1) ls (.int (x - x / y * y) :: st) σ) : PW L d M K pc ls (.int y :: .int x :: st) σ := by
  intro p e s m args below meth c H locs lsM hE hW hL
  exact lv_irem hE.1 hE.2.1 hd hne (kk p e s m args below meth c H locs lsM hE hW hL)
theorem pw_iushr {x y v : Int32} (hd : decode M.2.2.1 pc = .ok (.iushr, 1)) (hv : (x.toUInt32 >>> (y.toUInt32 &&& Int32.toUInt32 31)).toInt32 = v) (kk : PW L d M K (pc + 1) ls (.int v :: st) σ) : PW L d M K pc ls (.int y :: .int x :: st) σ := by
  intro p e s m args below meth c H locs lsM hE hW hL
  exact lv_iushr hE.1 hE.2.1 hd hv (kk p e s m args below meth c H locs lsM hE hW hL)
theorem pw_i2l {x : Int32} (hd : decode M.2.2.1 pc = .ok (.i2l, 1)) (kk : PW L d M K (pc + 1) ls (.long x.toInt64 :: st) σ) : PW L d M K pc ls (.int x :: st) σ := by
  intro p e s m args below meth c H locs lsM hE hW hL
  exact lv_i2l hE.1 hE.2.1 hd rfl (kk p e s m args below meth c H locs lsM hE hW hL)
theorem pw_l2i {x : Int64} (hd : decode M.2.2.1 pc = .ok (.l2i, 1)) (kk : PW L d M K (pc + 1) ls (.int x.toInt32 :: st) σ) : PW L d M K pc ls (.long x :: st) σ := by
  intro p e s m args below meth c H locs lsM hE hW hL
  exact lv_l2i hE.1 hE.2.1 hd rfl (kk p e s m args below meth c H locs lsM hE hW hL)
theorem pw_i2b {x : Int32} (hd : decode M.2.2.1 pc = .ok (.i2b, 1)) (kk : PW L d M K (pc + 1) ls (.int x.toInt8.toInt32 :: st) σ) : PW L d M K pc ls (.int x :: st) σ := by
  intro p e s m args below meth c H locs lsM hE hW hL
  exact lv_i2b hE.1 hE.2.1 hd rfl (kk p e s m args below meth c H locs lsM hE hW hL)
theorem pw_i2s {x : Int32} (hd : decode M.2.2.1 pc = .ok (.i2s, 1)) (kk : PW L d M K (pc + 1) ls (.int x.toInt16.toInt32 :: st) σ) : PW L d M K pc ls (.int x :: st) σ := by
  intro p e s m args below meth c H locs lsM hE hW hL
  exact lv_i2s hE.1 hE.2.1 hd rfl (kk p e s m args below meth c H locs lsM hE hW hL)
theorem pw_ladd {x y : Int64} (hd : decode M.2.2.1 pc = .ok (.ladd, 1)) (kk : PW L d M K (pc + 1) ls (.long (x + y) :: st) σ) : PW L d M K pc ls (.long y :: .long x :: st) σ := by
  intro p e s m args below meth c H locs lsM hE hW hL
  exact lv_ladd hE.1 hE.2.1 hd (kk p e s m args below meth c H locs lsM hE hW hL)
theorem pw_lcmp {x y : Int64} (hd : decode M.2.2.1 pc = .ok (.lcmp, 1)) (kk : PW L d M K (pc + 1) ls (.int (lg_cmp x y) :: st) σ) : PW L d M K pc ls (.long y :: .long x :: st) σ := by
  intro p e s m args below meth c H locs lsM hE hW hL
  exact W.lcmp hE.1 hE.2.1 hd (kk p e s m args below meth c H locs lsM hE hW hL)
theorem pw_dup {v : Value} (hd : decode M.2.2.1 pc = .ok (.dup, 1)) (hc : v.category = 1) (kk : PW L d M K (pc + 1) ls (v :: v :: st) σ) : PW L d M K pc ls (v :: st) σ := by
  intro p e s m args below meth c H locs lsM hE hW hL
  exact lv_dup hE.1 hE.2.1 hd ((pw_tr_cat L v).trans hc) (kk p e s m args below meth c H locs lsM hE hW hL)
theorem pw_pop {v : Value} (hd : decode M.2.2.1 pc = .ok (.pop, 1)) (hc : v.category = 1) (kk : PW L d M K (pc + 1) ls st σ) : PW L d M K pc ls (v :: st) σ := by
  intro p e s m args below meth c H locs lsM hE hW hL
  exact lv_pop hE.1 hE.2.1 hd ((pw_tr_cat L v).trans hc) (kk p e s m args below meth c H locs lsM hE hW hL)
theorem pw_dup2 {v w : Value} (hd : decode M.2.2.1 pc = .ok (.dup2, 1)) (hc : v.category = 1) (hc2 : w.category = 1) (kk : PW L d M K (pc + 1) ls (v :: w :: v :: w :: st) σ) : PW L d M K pc ls (v :: w :: st) σ := by
  intro p e s m args below meth c H locs lsM hE hW hL
  exact lv_dup2_11 hE.1 hE.2.1 hd ((pw_tr_cat L v).trans hc) ((pw_tr_cat L w).trans hc2) (kk p e s m args below meth c H locs lsM hE hW hL)
theorem pw_if_eq {x : Int32} {off : Int} {tgt : Nat} (hd : decode M.2.2.1 pc = .ok (.ifCond .eq off, 3)) (ht : (pc : Int) + off = (tgt : Int)) (kt : x = 0 → PW L d M K tgt ls st σ) (kf : ¬ x = 0 → PW L d M K (pc + 3) ls st σ) : PW L d M K pc ls (.int x :: st) σ := by
  intro p e s m args below meth c H locs lsM hE hW hL
  exact lv_if_eq hE.1 hE.2.1 hd ht (fun q => kt q p e s m args below meth c H locs lsM hE hW hL) (fun q => kf q p e s m args below meth c H locs lsM hE hW hL)
theorem pw_icmp_eq {x y : Int32} {off : Int} {tgt : Nat} (hd : decode M.2.2.1 pc = .ok (.if_icmp .eq off, 3)) (ht : (pc : Int) + off = (tgt : Int)) (kt : x = y → PW L d M K tgt ls st σ) (kf : ¬ x = y → PW L d M K (pc + 3) ls st σ) : PW L d M K pc ls (.int y :: .int x :: st) σ := by
  intro p e s m args below meth c H locs lsM hE hW hL
  exact lv_icmp_eq hE.1 hE.2.1 hd ht (fun q => kt q p e s m args below meth c H locs lsM hE hW hL) (fun q => kf q p e s m args below meth c H locs lsM hE hW hL)
theorem pw_if_ne {x : Int32} {off : Int} {tgt : Nat} (hd : decode M.2.2.1 pc = .ok (.ifCond .ne off, 3)) (ht : (pc : Int) + off = (tgt : Int)) (kt : ¬ x = 0 → PW L d M K tgt ls st σ) (kf : x = 0 → PW L d M K (pc + 3) ls st σ) : PW L d M K pc ls (.int x :: st) σ := by
  intro p e s m args below meth c H locs lsM hE hW hL
  exact lv_if_ne hE.1 hE.2.1 hd ht (fun q => kt q p e s m args below meth c H locs lsM hE hW hL) (fun q => kf q p e s m args below meth c H locs lsM hE hW hL)
theorem pw_icmp_ne {x y : Int32} {off : Int} {tgt : Nat} (hd : decode M.2.2.1 pc = .ok (.if_icmp .ne off, 3)) (ht : (pc : Int) + off = (tgt : Int)) (kt : ¬ x = y → PW L d M K tgt ls st σ) (kf : x = y → PW L d M K (pc + 3) ls st σ) : PW L d M K pc ls (.int y :: .int x :: st) σ := by
  intro p e s m args below meth c H locs lsM hE hW hL
  exact lv_icmp_ne hE.1 hE.2.1 hd ht (fun q => kt q p e s m args below meth c H locs lsM hE hW hL) (fun q => kf q p e s m args below meth c H locs lsM hE hW hL)
theorem pw_if_lt {x : Int32} {off : Int} {tgt : Nat} (hd : decode M.2.2.1 pc = .ok (.ifCond .lt off, 3)) (ht : (pc : Int) + off = (tgt : Int)) (kt : x < 0 → PW L d M K tgt ls st σ) (kf : ¬ x < 0 → PW L d M K (pc + 3) ls st σ) : PW L d M K pc ls (.int x :: st) σ := by
  intro p e s m args below meth c H locs lsM hE hW hL
  exact lv_if_lt hE.1 hE.2.1 hd ht (fun q => kt q p e s m args below meth c H locs lsM hE hW hL) (fun q => kf q p e s m args below meth c H locs lsM hE hW hL)
theorem pw_icmp_lt {x y : Int32} {off : Int} {tgt : Nat} (hd : decode M.2.2.1 pc = .ok (.if_icmp .lt off, 3)) (ht : (pc : Int) + off = (tgt : Int)) (kt : x < y → PW L d M K tgt ls st σ) (kf : ¬ x < y → PW L d M K (pc + 3) ls st σ) : PW L d M K pc ls (.int y :: .int x :: st) σ := by
  intro p e s m args below meth c H locs lsM hE hW hL
  exact lv_icmp_lt hE.1 hE.2.1 hd ht (fun q => kt q p e s m args below meth c H locs lsM hE hW hL) (fun q => kf q p e s m args below meth c H locs lsM hE hW hL)
theorem pw_if_ge {x : Int32} {off : Int} {tgt : Nat} (hd : decode M.2.2.1 pc = .ok (.ifCond .ge off, 3)) (ht : (pc : Int) + off = (tgt : Int)) (kt : 0 ≤ x → PW L d M K tgt ls st σ) (kf : ¬ 0 ≤ x → PW L d M K (pc + 3) ls st σ) : PW L d M K pc ls (.int x :: st) σ := by
  intro p e s m args below meth c H locs lsM hE hW hL
  exact lv_if_ge hE.1 hE.2.1 hd ht (fun q => kt q p e s m args below meth c H locs lsM hE hW hL) (fun q => kf q p e s m args below meth c H locs lsM hE hW hL)
theorem pw_icmp_ge {x y : Int32} {off : Int} {tgt : Nat} (hd : decode M.2.2.1 pc = .ok (.if_icmp .ge off, 3)) (ht : (pc : Int) + off = (tgt : Int)) (kt : y ≤ x → PW L d M K tgt ls st σ) (kf : ¬ y ≤ x → PW L d M K (pc + 3) ls st σ) : PW L d M K pc ls (.int y :: .int x :: st) σ := by
  intro p e s m args below meth c H locs lsM hE hW hL
  exact lv_icmp_ge hE.1 hE.2.1 hd ht (fun q => kt q p e s m args below meth c H locs lsM hE hW hL) (fun q => kf q p e s m args below meth c H locs lsM hE hW hL)
theorem pw_if_gt {x : Int32} {off : Int} {tgt : Nat} (hd : decode M.2.2.1 pc = .ok (.ifCond .gt off, 3)) (ht : (pc : Int) + off = (tgt : Int)) (kt : 0 < x → PW L d M K tgt ls st σ) (kf : ¬ 0 < x → PW L d M K (pc + 3) ls st σ) : PW L d M K pc ls (.int x :: st) σ := by
  intro p e s m args below meth c H locs lsM hE hW hL
  exact lv_if_gt hE.1 hE.2.1 hd ht (fun q => kt q p e s m args below meth c H locs lsM hE hW hL) (fun q => kf q p e s m args below meth c H locs lsM hE hW hL)
theorem pw_icmp_gt {x y : Int32} {off : Int} {tgt : Nat} (hd : decode M.2.2.1 pc = .ok (.if_icmp .gt off, 3)) (ht : (pc : Int) + off = (tgt : Int)) (kt : y < x → PW L d M K tgt ls st σ) (kf : ¬ y < x → PW L d M K (pc + 3) ls st σ) : PW L d M K pc ls (.int y :: .int x :: st) σ := by
  intro p e s m args below meth c H locs lsM hE hW hL
  exact lv_icmp_gt hE.1 hE.2.1 hd ht (fun q => kt q p e s m args below meth c H locs lsM hE hW hL) (fun q => kf q p e s m args below meth c H locs lsM hE hW hL)
theorem pw_if_le {x : Int32} {off : Int} {tgt : Nat} (hd : decode M.2.2.1 pc = .ok (.ifCond .le off, 3)) (ht : (pc : Int) + off = (tgt : Int)) (kt : x ≤ 0 → PW L d M K tgt ls st σ) (kf : ¬ x ≤ 0 → PW L d M K (pc + 3) ls st σ) : PW L d M K pc ls (.int x :: st) σ := by
  intro p e s m args below meth c H locs lsM hE hW hL
  exact lv_if_le hE.1 hE.2.1 hd ht (fun q => kt q p e s m args below meth c H locs lsM hE hW hL) (fun q => kf q p e s m args below meth c H locs lsM hE hW hL)
theorem pw_icmp_le {x y : Int32} {off : Int} {tgt : Nat} (hd : decode M.2.2.1 pc = .ok (.if_icmp .le off, 3)) (ht : (pc : Int) + off = (tgt : Int)) (kt : x ≤ y → PW L d M K tgt ls st σ) (kf : ¬ x ≤ y → PW L d M K (pc + 3) ls st σ) : PW L d M K pc ls (.int y :: .int x :: st) σ := by
  intro p e s m args below meth c H locs lsM hE hW hL
  exact lv_icmp_le hE.1 hE.2.1 hd ht (fun q => kt q p e s m args below meth c H locs lsM hE hW hL) (fun q => kf q p e s m args below meth c H locs lsM hE hW hL)
theorem pw_goto {off : Int} {tgt : Nat} (hd : decode M.2.2.1 pc = .ok (.goto off, 3)) (ht : (pc : Int) + off = (tgt : Int)) (kk : PW L d M K tgt ls st σ) : PW L d M K pc ls st σ := by
  intro p e s m args below meth c H locs lsM hE hW hL
  exact lv_goto hE.1 hE.2.1 hd ht (kk p e s m args below meth c H locs lsM hE hW hL)
theorem pw_tabO {dflt lo hi : Int} {offs : Array Int} {len : Nat} {x : Int32} {tgt : Nat} (hd : decode M.2.2.1 pc = .ok (.tableswitch dflt lo hi offs, len)) (h : x.toInt < lo ∨ hi < x.toInt) (ht : (pc : Int) + dflt = (tgt : Int)) (kk : PW L d M K tgt ls st σ) : PW L d M K pc ls (.int x :: st) σ := by
  intro p e s m args below meth c H locs lsM hE hW hL
  exact lv_tableOut hE.1 hE.2.1 hd h ht (kk p e s m args below meth c H locs lsM hE hW hL)
theorem pw_tabI {dflt lo hi off : Int} {offs : Array Int} {len : Nat} {x : Int32} {tgt : Nat} (hd : decode M.2.2.1 pc = .ok (.tableswitch dflt lo hi offs, len)) (h1 : ¬ x.toInt < lo) (h2 : ¬ hi < x.toInt) (ho : offs[(x.toInt - lo).toNat]? = some off) (ht : (pc : Int) + off = (tgt : Int)) (kk : PW L d M K tgt ls st σ) : PW L d M K pc ls (.int x :: st) σ := by
  intro p e s m args below meth c H locs lsM hE hW hL
  exact lv_tableIn hE.1 hE.2.1 hd h1 h2 ho ht (kk p e s m args below meth c H locs lsM hE hW hL)
theorem pw_ret {v : Int32} {ty : FieldType} (hd : decode M.2.2.1 pc = .ok (.ireturn, 1)) (hr : M.2.2.2.2 = some ty) (hn : narrow ty (.int v) = .int v) (kk : K (some (.int v)) σ) : PW L d M K pc ls [.int v] σ := by
  intro p e s m args below meth c H locs lsM hE hW hL
  exact W.zret hE.1 hE.2.1 (hE.2.2.1.trans hr) hn (fun t ht _ => ⟨⟨some (.int v), σ, rfl, kk, by rw [ht]; exact hW.1⟩, hW.2.2.F ht⟩) hW.2.2.2.2 hd hE.2.2.2.2.2.2.2.2
theorem pw_vret (hd : decode M.2.2.1 pc = .ok (.return_, 1)) (hr : M.2.2.2.2 = none) (kk : K none σ) : PW L d M K pc ls [] σ := by
  intro p e s m args below meth c H locs lsM hE hW hL
  exact W.vret hE.1 hE.2.1 (hE.2.2.1.trans hr) (fun t ht _ => ⟨⟨none, σ, rfl, kk, by rw [ht]; exact hW.1⟩, hW.2.2.F ht⟩) hW.2.2.2.2 hd hE.2.2.2.2.2.2.2.2
end PWS
/-! calls -/
def pw_MB (M' : pw_Md) (n : Nat) : Prop := Cond.initialized M'.1.cls ∈ pw_ws ∧ Cond.code M'.1 M'.2.2.1 M'.2.2.2.1 M'.2.2.2.2 ∈ pw_ws ∧ (M'.1.cls ≠ "java/lang/invoke/MethodHandle" ∧ M'.1.cls ≠ "java/lang/invoke/VarHandle" ∧ (parseMethodDescriptor M'.1.desc).map (fun d => d.parameters.length) = some n) ∧ M'.2.2.2.1 ≤ 20
def pw_MV (own : String) (idx ci : Nat) (M' : pw_Md) (n : Nat) : Prop := (∃ (T : u_T) (N : Nat), pw_cl[ci]? = some (M'.1.cls, T, N)) ∧ Cond.methodLink own idx M'.1 ∈ pw_ws ∧ Cond.instanceMethod M'.1 ∈ pw_ws ∧ Cond.selects M'.1.cls M'.1 M'.1 ∈ pw_ws ∧ pw_MB M' n
def pw_MS (own : String) (idx : Nat) (M' : pw_Md) (n : Nat) : Prop := Cond.methodLink own idx M'.1 ∈ pw_ws ∧ Cond.static M'.1 ∈ pw_ws ∧ pw_MB M' n
def pw_MN (own : String) (idx : Nat) (M' : pw_Md) (n : Nat) : Prop := (own, idx, M'.1) ∈ pw_nest ∧ Cond.static M'.1 ∈ pw_ws ∧ pw_MB M' n
theorem pw_goods {M' : pw_Md} {n : Nat} (h : pw_MB M' n) : GoodIn pw_ws (.code M'.1 M'.2.2.1 M'.2.2.2.1 M'.2.2.2.2 :: pw_ws) := pw_good (fun w hw => (List.mem_cons.mp hw).elim (fun e => by rw [e]; exact h.2.1) id)
theorem pw_blind {L : pw_Lay} {as : List Value} {σ : pw_Mem} : FrameBlind (pw_P L as σ) := fun a U g mk q => by
  obtain ⟨q0, qP, qK, qD, qN⟩ := q
  exact ⟨q0, qP, va_K.moved (u := U) (U := U.calling g mk a) (Vm.Alike.refl U.vm) qK, qD, pw_N.same (u := U) (U := U.calling g mk a) rfl qN⟩
theorem pw_go {L : pw_Lay} {p : Program} {l : Launch} {e : Env} {R : Room} {s : State} {m : MethodId} {args : Array Value} {below : List Frame} {meth : Method} {c : Code} {H : Heap} {locs : List Loc} {Q : State → Prop} {pc : Nat} {lsM : Array Slot} {rest st0 : List Value} {a : Array Value} {H0 : Heap} {K' : pw_K} (hr : va_Run p l e R s m args below meth c H locs 0 0 0 0 (F0 m pc lsM st0) rest (pw_Q L K' a) (pw_A L)) (hS : va_S (pw_A L) H0 H locs)
    (kk : ∀ (r : Option Value) (σ' : pw_Mem) (H1 : Heap) (locs1 : List Loc), K' r σ' → va_P (pw_G L) pw_cl (pw_wl L σ') H1 → va_S (pw_A L) H0 H1 locs1 → W p l e R s m args below meth c H1 locs1 0 0 Q (F0 m (pc + 3) lsM ((r.map (pw_tr L)).toList ++ rest))) : W p l e R s m args below meth c H locs 0 0 Q (F0 m pc lsM st0) := by
  intro T hT X
  obtain ⟨v, st₀, t, T', L9, h0, X', hL, e1, e2, ⟨⟨r, σ', hv, hK, hP⟩, hz, hk⟩, st⟩ := hr T hT X
  cases hv
  rw [h0] at hz hk
  obtain ⟨t2, a1, b1⟩ := kk r σ' T'.heap (locs ++ L9) hK (by rw [e1]; exact hP)
    ⟨Nat.le_trans hS.1 (by rw [e1]; exact hz), fun q h1 h2 => by rw [e1, hk q (Nat.lt_of_lt_of_le h1 hS.1) h2]; exact hS.2.1 q h1 h2, fun q hq => by
      rcases List.mem_append.mp hq with h | h
      · exact hS.2.2 q h
      · exact hL q h⟩ T' rfl X'
  exact ⟨t2, st t2 a1, b1⟩
theorem pw_rets {L : pw_Lay} (r : Option Value) (st : List Value) : (r.map (pw_tr L)).toList ++ st.map (pw_tr L) = (r.toList ++ st).map (pw_tr L) := by cases r <;> simp
section PWC
variable {L : pw_Lay} {d : Nat} {M M' : pw_Md} {K : pw_K} {pc : Nat} {ls : List (Option Value)} {st stk : List Value} {σ : pw_Mem} {idx n : Nat}
theorem pw_rmOk {M' : pw_Md} {n : Nat} (h : pw_MB M' n) : (pw_rm d).frames + 1 ≤ (pw_rm (d + 1)).frames ∧ 8 + (M'.2.2.2.1 + 11) + (pw_rm d).locals ≤ (pw_rm (d + 1)).locals := by
  have := h.2.2.2
  refine ⟨Nat.le_refl _, ?_⟩
  show 8 + (M'.2.2.2.1 + 11) + 40 * d ≤ 40 * (d + 1)
  omega
theorem pw_callV (as : List Value) {ci k : Nat} {fs : List (Option Nat)} (hd : decode M.2.2.1 pc = .ok (.invokevirtual idx, 3)) (hm : pw_MV M.2.1 idx ci M' n) (hs : pw_shp[k]? = some (.inl (ci, fs))) (hst : stk = as.reverse ++ .ref k :: st) (hn : as.length = n) (hc : (st.map fun v => v.category).sum ≤ 8)
    (ct : CT L d M' (.ref k :: as) σ (fun r σ' => PW L (d + 1) M K (pc + 3) ls (r.toList ++ st) σ')) : PW L (d + 1) M K pc ls stk σ := by
  intro p e s m args below meth c H locs lsM hE hW hL
  obtain ⟨⟨T, N, hcl⟩, h1, h2, h3, h4⟩ := hm
  have hts := hE.2.2.2.2.1
  have hrun := va_runV (l := pw_l L) (R := pw_rm (d + 1)) (H := H) (locs := locs) (cells := 0) (slots := 0) (below := below) (meth := meth) (e := e) (g := F0 m pc lsM (stk.map (pw_tr L))) (b := pw_ad L k) (As := as.map (pw_tr L)) (rest := st.map (pw_tr L)) ⟨hE.1, hE.2.1, hE.2.2.2.1, hE.2.2.2.2.2.1, hts⟩ ct ⟨callB_of n hts (pw_goods h4) rfl rfl rfl (hts _ h4.1) (hts _ h1) h4.2.2.1 (pw_rmOk h4), hts _ h2, hts _ h3⟩
    ⟨pw_blind, va_recv hE.2.2.2.2.2.2.1 hW.1 hcl (pw_wl_at hs), fun U hU hWm => ⟨rfl, by rw [hU]; exact hW.1, va_K.moved hWm.alike hE.2.2.2.2.2.2.1, hW.2.1, pw_N.warm hWm hE.2.2.2.2.2.2.2.1⟩⟩ rfl (by rw [List.length_map]; exact hn) hL.1 (by show stk.map (pw_tr L) = _; rw [hst, List.map_append, List.map_reverse]; rfl) (lv_room (by rw [pw_cats]; exact hc)) hd ⟨Nat.zero_le _, Nat.zero_le _⟩
  refine pw_go hrun hW.2.2 (fun r σ' H1 locs1 hK hP hS => ?_)
  rw [pw_rets]
  exact hK p e s m args below meth c H1 locs1 lsM hE ⟨hP, pw_D_any hW.2.1, hS⟩ hL
theorem pw_callS (as : List Value) (hd : decode M.2.2.1 pc = .ok (.invokestatic idx, 3)) (hm : pw_MS M.2.1 idx M' n) (hst : stk = as.reverse ++ st) (hn : as.length = n) (hc : (st.map fun v => v.category).sum ≤ 8)
    (ct : CT L d M' as σ (fun r σ' => PW L (d + 1) M K (pc + 3) ls (r.toList ++ st) σ')) : PW L (d + 1) M K pc ls stk σ := by
  intro p e s m args below meth c H locs lsM hE hW hL
  obtain ⟨h1, h2, h4⟩ := hm
  have hts := hE.2.2.2.2.1
  have hrun := va_runS (l := pw_l L) (R := pw_rm (d + 1)) (H := H) (locs := locs) (cells := 0) (slots := 0) (below := below) (meth := meth) (e := e) (g := F0 m pc lsM (stk.map (pw_tr L))) (As := as.map (pw_tr L)) (rest := st.map (pw_tr L)) ⟨hE.1, hE.2.1, hE.2.2.2.1, hE.2.2.2.2.2.1, hts⟩ ct ⟨callB_of n hts (pw_goods h4) rfl rfl rfl (hts _ h4.1) (hts _ h1) h4.2.2.1 (pw_rmOk h4), hts _ h2⟩
    ⟨pw_blind, fun U hU hWm => ⟨rfl, by rw [hU]; exact hW.1, va_K.moved hWm.alike hE.2.2.2.2.2.2.1, hW.2.1, pw_N.warm hWm hE.2.2.2.2.2.2.2.1⟩⟩ rfl (by rw [List.length_map]; exact hn) hL.1 (by show stk.map (pw_tr L) = _; rw [hst, List.map_append, List.map_reverse]) (lv_room (by rw [pw_cats]; exact hc)) hd ⟨Nat.zero_le _, Nat.zero_le _⟩
  refine pw_go hrun hW.2.2 (fun r σ' H1 locs1 hK hP hS => ?_)
  rw [pw_rets]
  exact hK p e s m args below meth c H1 locs1 lsM hE ⟨hP, pw_D_any hW.2.1, hS⟩ hL
theorem pw_callN (as : List Value) (hd : decode M.2.2.1 pc = .ok (.invokestatic idx, 3)) (hm : pw_MN M.2.1 idx M' n) (hst : stk = as.reverse ++ st) (hn : as.length = n) (hc : (st.map fun v => v.category).sum ≤ 8)
    (ct : CT L d M' as σ (fun r σ' => PW L (d + 1) M K (pc + 3) ls (r.toList ++ st) σ')) : PW L (d + 1) M K pc ls stk σ := by
  intro p e s m args below meth c H locs lsM hE hW hL
  obtain ⟨h1, h2, h4⟩ := hm
  have hts := hE.2.2.2.2.1
  have hrun := va_runSN (l := pw_l L) (R := pw_rm (d + 1)) (H := H) (locs := locs) (cells := 0) (slots := 0) (below := below) (meth := meth) (e := e) (g := F0 m pc lsM (stk.map (pw_tr L))) (As := as.map (pw_tr L)) (rest := st.map (pw_tr L)) ⟨hE.1, hE.2.1, hE.2.2.2.1, hE.2.2.2.2.2.1, hts⟩ ct ⟨va_cnB (host := "StackDepths") n hts (pw_goods h4) rfl rfl rfl (hE.2.2.2.2.2.2.2.1 _ h1) (hts _ h4.1) h4.2.2.1 (pw_rmOk h4), hts _ h2, trivial⟩
    ⟨pw_blind, fun U hU hWm => ⟨rfl, by rw [hU]; exact hW.1, va_K.moved hWm.alike hE.2.2.2.2.2.2.1, hW.2.1, pw_N.warm hWm hE.2.2.2.2.2.2.2.1⟩⟩ rfl (by rw [List.length_map]; exact hn) hL.1 (by show stk.map (pw_tr L) = _; rw [hst, List.map_append, List.map_reverse]) (lv_room (by rw [pw_cats]; exact hc)) hd ⟨Nat.zero_le _, Nat.zero_le _⟩
  refine pw_go hrun hW.2.2 (fun r σ' H1 locs1 hK hP hS => ?_)
  rw [pw_rets]
  exact hK p e s m args below meth c H1 locs1 lsM hE ⟨hP, pw_D_any hW.2.1, hS⟩ hL
end PWC
