/-! the pure layer: a memory of ints over a fixed shape of cells; judgements PW (a point of a method) and CT (a call), shallow over the kit's W and Met -/
abbrev pw_Lay : Type := Launch × (Nat → ClassId) × (Nat → Nat → Nat) × (Nat → Nat) × ClassId × ClassId × ClassId
abbrev pw_l (L : pw_Lay) : Launch := L.1
abbrev pw_G (L : pw_Lay) : va_G := (L.2.1, L.2.2.1)
abbrev pw_ad (L : pw_Lay) : Nat → Nat := L.2.2.2.1
abbrev pw_cI (L : pw_Lay) : ClassId := L.2.2.2.2.1
abbrev pw_cB (L : pw_Lay) : ClassId := L.2.2.2.2.2.1
abbrev pw_cS (L : pw_Lay) : ClassId := L.2.2.2.2.2.2
abbrev pw_Mem : Type := Nat → Nat → Int32
abbrev pw_Sh : Type := (Nat × List (Option Nat)) ⊕ (Nat ⊕ (Nat × List Nat))
/-- a method: its name, its class, its bytes, its locals, what it returns -/
abbrev pw_Md : Type := MethodName × String × ByteArray × Nat × Option FieldType
def pw_shp : List pw_Sh := [.inl (10, [some 1, some 4, some 8, some 14, some 20, some 22, some 26, some 31, some 37, some 40]), .inl (5, [some 2, some 3, none]), .inr (.inl 20), .inr (.inl 20), .inl (4, [some 5, some 6, some 7]), .inr (.inl 8), .inr (.inl 8), .inr (.inl 8), .inl (0, [some 9, none]), .inr (.inr (0, [10, 11, 12, 13])), .inr (.inl 20), .inr (.inl 20), .inr (.inl 20), .inr (.inl 20), .inl (2, [some 1, some 4, some 8, none, some 15, some 16, some 17, some 18, none, some 19, none]), .inr (.inl 20), .inr (.inl 20), .inr (.inl 20), .inr (.inl 20), .inr (.inl 20), .inl (1, [some 1, some 14, none, some 21]), .inr (.inl 20), .inl (3, [some 23, some 24, some 25, none]), .inr (.inl 8), .inr (.inl 8), .inr (.inl 8), .inl (8, [some 27, some 28, some 29, some 30, none]), .inr (.inl 6), .inr (.inl 6), .inr (.inl 6), .inr (.inl 6), .inl (6, [some 32, some 33, some 34, some 35, some 36, none]), .inr (.inl 6), .inr (.inl 6), .inr (.inl 6), .inr (.inl 6), .inr (.inl 6), .inl (9, [some 38, some 39, none, none, none, none, none, none]), .inr (.inl 40), .inr (.inl 40), .inr (.inr (1, [41, 43, 45, 47])), .inl (7, [some 42, none, none]), .inr (.inl 60), .inl (7, [some 44, none, none]), .inr (.inl 60), .inl (7, [some 46, none, none]), .inr (.inl 60), .inl (7, [some 48, none, none]), .inr (.inl 60), .inl (11, [none, some 50, some 51, none, some 52, some 53, some 54, some 55, some 56, some 57, some 58, some 59, some 60, some 61, some 62, none, some 63, some 64, some 65, none, some 66, some 67, some 68, some 69, some 70, some 71, none, none, none, some 72, some 73, none, none, none, none, none, some 74, some 75, some 76]), .inr (.inl 20), .inr (.inl 20), .inr (.inl 60), .inr (.inl 60), .inr (.inl 60), .inr (.inl 8), .inr (.inl 8), .inr (.inl 8), .inr (.inl 20), .inr (.inl 20), .inr (.inl 20), .inr (.inl 20), .inr (.inl 20), .inr (.inl 8), .inr (.inl 8), .inr (.inl 8), .inr (.inl 6), .inr (.inl 6), .inr (.inl 6), .inr (.inl 6), .inr (.inl 6), .inr (.inl 6), .inr (.inl 40), .inr (.inl 40), .inr (.inl 4), .inr (.inl 4), .inr (.inl 240)]
def pw_tr (L : pw_Lay) : Value → Value
  | .ref k => .ref (pw_ad L k)
  | v => v
def pw_up (σ : pw_Mem) (k j : Nat) (v : Int32) : pw_Mem := fun a b => if a = k ∧ b = j then v else σ a b
def pw_fv (L : pw_Lay) (σ : pw_Mem) (k j : Nat) : Option Nat → Value
  | none => .int (σ k j)
  | some r => .ref (pw_ad L r)
def pw_fld (L : pw_Lay) (σ : pw_Mem) (k : Nat) (fs : List (Option Nat)) : List Value := fs.mapIdx (fun j f => pw_fv L σ k j f)
def pw_ent (L : pw_Lay) (σ : pw_Mem) (k : Nat) : pw_Sh → va_E
  | .inl (ci, fs) => .inr (ci, pw_fld L σ k fs)
  | .inr (.inl n) => .inl (pw_cI L, n, .inl (σ k))
  | .inr (.inr (0, rs)) => .inl (pw_cB L, rs.length, .inr (.inr (.inr (.inr (fun i => rs[i]?.map (pw_ad L))))))
  | .inr (.inr (_, rs)) => .inl (pw_cS L, rs.length, .inr (.inr (.inr (.inr (fun i => rs[i]?.map (pw_ad L))))))
def pw_wl (L : pw_Lay) (σ : pw_Mem) : va_W := pw_shp.mapIdx (fun k sh => (pw_ad L k, pw_ent L σ k sh))
abbrev pw_tys (L : pw_Lay) : List (ClassId × FieldType) := [(pw_cI L, .int), (pw_cB L, .array .int), (pw_cS L, .object "StackDepths$Sheet")]
def pw_A (L : pw_Lay) : Nat → Prop := fun q => ∃ k, k < pw_shp.length ∧ q = pw_ad L k
def pw_ws : List Cond := lw_tbl.filter goodWord
theorem pw_in {w : Cond} (h : w ∈ lw_tbl) (hg : goodWord w = true) : w ∈ pw_ws := List.mem_filter.mpr ⟨h, hg⟩
theorem pw_good {ws : List Cond} (h : ∀ w ∈ ws, w ∈ pw_ws) : GoodIn pw_ws ws := fun w hw => ⟨h w hw, good_of_word (List.mem_filter.mp (h w hw)).2⟩
theorem pw_tab {w : Cond} (i : Nat) (h : tables_1[i]? = some w) (hg : goodWord w = true) : w ∈ pw_ws := pw_in (List.mem_append_right _ (List.mem_of_getElem? h)) hg
theorem pw_sel {w : Cond} (i : Nat) (h : (k2_sels lw_privs)[i]? = some w) (hg : goodWord w = true) : w ∈ pw_ws := pw_in (List.mem_append_left _ (List.mem_of_getElem? h)) hg
/-- the nest mates' links -/
abbrev pw_nw (q : String × Nat × MethodName) : Cond := .methodLinkNest q.1 q.2.1 q.2.2 "StackDepths"
def pw_nest : List (String × Nat × MethodName) := [("StackDepths", 9, ⟨"StackDepths$Routines", "<init>", "()V"⟩), ("StackDepths", 18, ⟨"StackDepths$Pointers", "<init>", "()V"⟩), ("StackDepths", 25, ⟨"StackDepths$Calls", "<init>", "()V"⟩), ("StackDepths", 50, ⟨"StackDepths$Interrupts", "<init>", "()V"⟩), ("StackDepths", 57, ⟨"StackDepths$Tasks", "<init>", "()V"⟩), ("StackDepths", 64, ⟨"StackDepths$Sharing", "<init>", "()V"⟩), ("StackDepths", 71, ⟨"StackDepths$Trail", "<init>", "()V"⟩), ("StackDepths", 82, ⟨"StackDepths$Sheet", "<init>", "()V"⟩), ("StackDepths$Calls", 16, ⟨"StackDepths", "holds", "(II)Z"⟩), ("StackDepths$Pointers", 28, ⟨"StackDepths", "holds", "(II)Z"⟩), ("StackDepths$Graph", 64, ⟨"StackDepths", "holds", "(II)Z"⟩), ("StackDepths$Graph", 89, ⟨"StackDepths", "leastOf", "(I)I"⟩), ("StackDepths$Depths", 44, ⟨"StackDepths", "holds", "(II)Z"⟩), ("StackDepths$Depths", 89, ⟨"StackDepths", "greater", "(II)I"⟩), ("StackDepths$Depths", 92, ⟨"StackDepths", "plus", "(II)I"⟩), ("StackDepths$Interrupts", 29, ⟨"StackDepths", "plus", "(II)I"⟩), ("StackDepths$Interrupts", 33, ⟨"StackDepths", "greater", "(II)I"⟩)]
def pw_N (U : State) : Prop := ∀ q ∈ pw_nest, va_Nw (pw_nw q) U
theorem pw_N.warm {s U : State} (hW : s.WarmedH U.vm) (h : pw_N s) : pw_N U := fun q hq => va_Nw.warmM hW (h q hq)
theorem pw_N.same {u U : State} (e : u.vm = U.vm) (h : pw_N u) : pw_N U := fun q hq => va_Nw.same rfl e (h q hq)
abbrev pw_cl : List vw_C := vwCl
def pw_rm (d : Nat) : Room := { frames := d, cells := 0, slots := 0, locals := 40 * d }
def pw_E (L : pw_Lay) (M : pw_Md) (p : Program) (s : State) (m : MethodId) (args : Array Value) (meth : Method) (c : Code) : Prop :=
  p.tables.exec = Jvm.exec ∧ c.code = M.2.2.1 ∧ meth.sig.returnType = M.2.2.2.2 ∧ c.maxLocals = M.2.2.2.1 ∧ (∀ w ∈ pw_ws, w.before args s = true) ∧ s.vm.findClass M.2.1 = some m.cls ∧ va_K (pw_G L) pw_cl (pw_tys L) s ∧ pw_N s ∧ meth.locks = false
def pw_W (L : pw_Lay) (σ : pw_Mem) (H0 H : Heap) (locs : List Loc) : Prop := va_P (pw_G L) pw_cl (pw_wl L σ) H ∧ va_D (pw_A L) (pw_wl L σ) ∧ va_S (pw_A L) H0 H locs
def pw_Lc (L : pw_Lay) (nL : Nat) (ls : List (Option Value)) (lsM : Array Slot) : Prop := lsM.size = nL ∧ lv_wf lsM ∧ ∀ (i : Nat) (v : Value), ls[i]? = some (some v) → lsM[i]? = some (.val (pw_tr L v))
abbrev pw_K : Type := Option Value → pw_Mem → Prop
def pw_Q (L : pw_Lay) (K : pw_K) : Array Value → State → Outcome → State → Prop := fun _ st oc t => (∃ (r : Option Value) (σ' : pw_Mem), oc = .returned (r.map (pw_tr L)) ∧ K r σ' ∧ va_P (pw_G L) pw_cl (pw_wl L σ') t.heap) ∧ va_F (pw_A L) st t
def pw_P (L : pw_Lay) (as : List Value) (σ : pw_Mem) : Array Value → State → Prop := va_Pc (as.map (pw_tr L)) (fun U => va_P (pw_G L) pw_cl (pw_wl L σ) U.heap ∧ va_K (pw_G L) pw_cl (pw_tys L) U ∧ va_D (pw_A L) (pw_wl L σ) ∧ pw_N U)
def PW (L : pw_Lay) (d : Nat) (M : pw_Md) (K : pw_K) (pc : Nat) (ls : List (Option Value)) (st : List Value) (σ : pw_Mem) : Prop :=
  ∀ (p : Program) (e : Env) (s : State) (m : MethodId) (args : Array Value) (below : List Frame) (meth : Method) (c : Code) (H : Heap) (locs : List Loc) (lsM : Array Slot),
    pw_E L M p s m args meth c → pw_W L σ s.heap H locs → pw_Lc L M.2.2.2.1 ls lsM →
    W p (pw_l L) e (pw_rm d) s m args below meth c H locs 0 0 (MQ below (pw_Q L K) args s 0 0 (pw_A L)) (F0 m pc lsM (st.map (pw_tr L)))
def CT (L : pw_Lay) (d : Nat) (M : pw_Md) (as : List Value) (σ : pw_Mem) (K : pw_K) : Prop :=
  Met (pw_l L) M.1 (.code M.1 M.2.2.1 M.2.2.2.1 M.2.2.2.2 :: pw_ws) (pw_rm d) (pw_P L as σ) (pw_Q L K) 0 0 (pw_A L)
/-! the world's list -/
theorem pw_wl_at {L : pw_Lay} {σ : pw_Mem} {k : Nat} {sh : pw_Sh} (h : pw_shp[k]? = some sh) : (pw_wl L σ)[k]? = some (pw_ad L k, pw_ent L σ k sh) := by
  unfold pw_wl
  rw [List.getElem?_mapIdx, h]
  rfl
theorem pw_wl_len (L : pw_Lay) (σ : pw_Mem) : (pw_wl L σ).length = pw_shp.length := by unfold pw_wl; rw [List.length_mapIdx]
theorem pw_wl_of {L : pw_Lay} {σ : pw_Mem} {k : Nat} {q : Nat × va_E} (h : (pw_wl L σ)[k]? = some q) : ∃ sh, pw_shp[k]? = some sh ∧ q = (pw_ad L k, pw_ent L σ k sh) := by
  unfold pw_wl at h
  rw [List.getElem?_mapIdx] at h
  cases hs : pw_shp[k]? with
  | none => rw [hs] at h; cases h
  | some sh => rw [hs] at h; exact ⟨sh, rfl, (Option.some.inj h).symm⟩
theorem pw_D_any {L : pw_Lay} {σ τ : pw_Mem} (h : va_D (pw_A L) (pw_wl L σ)) : va_D (pw_A L) (pw_wl L τ) := by
  refine ⟨fun i j x y hi hj hxy => ?_, fun k q hq => ?_⟩
  · obtain ⟨si, h1, rfl⟩ := pw_wl_of hi
    obtain ⟨sj, h2, rfl⟩ := pw_wl_of hj
    exact h.1 i j _ _ (pw_wl_at h1) (pw_wl_at h2) hxy
  · obtain ⟨sh, h1, rfl⟩ := pw_wl_of hq
    exact h.2 k (pw_ad L k, pw_ent L σ k sh) (pw_wl_at h1)
theorem pw_ent_ne {L : pw_Lay} {σ : pw_Mem} {k a j : Nat} {v : Int32} {sh : pw_Sh} (h : a ≠ k) : pw_ent L (pw_up σ k j v) a sh = pw_ent L σ a sh := by
  have e : (pw_up σ k j v) a = σ a := by
    funext b
    simp [pw_up, h]
  have e2 : ∀ fs, pw_fld L (pw_up σ k j v) a fs = pw_fld L σ a fs := fun fs => by
    unfold pw_fld
    congr 1
    funext b f
    cases f with
    | none => show Value.int _ = Value.int _; rw [e]
    | some r => rfl
  match sh with
  | .inl (ci, fs) => show Sum.inr (ci, _) = Sum.inr (ci, _); rw [e2]
  | .inr (.inl n) => show Sum.inl (_, n, Sum.inl _) = Sum.inl (_, n, Sum.inl _); rw [e]
  | .inr (.inr (0, rs)) => rfl
  | .inr (.inr (n + 1, rs)) => rfl
theorem pw_set {L : pw_Lay} {σ : pw_Mem} {k j : Nat} {v : Int32} {sh : pw_Sh} (h : pw_shp[k]? = some sh) : (pw_wl L σ).set k (pw_ad L k, pw_ent L (pw_up σ k j v) k sh) = pw_wl L (pw_up σ k j v) := by
  apply List.ext_getElem?
  intro i
  by_cases hi : i = k
  · subst hi
    rw [pw_wl_at h, List.getElem?_set_self]
    exact (List.getElem?_eq_some_iff.mp (pw_wl_at (L := L) (σ := σ) h)).1
  · rw [List.getElem?_set_ne (fun q => hi q.symm)]
    unfold pw_wl
    rw [List.getElem?_mapIdx, List.getElem?_mapIdx]
    cases pw_shp[i]? with
    | none => rfl
    | some sh => show some (pw_ad L i, pw_ent L σ i sh) = some (pw_ad L i, pw_ent L (pw_up σ k j v) i sh); rw [pw_ent_ne hi]
theorem pw_upd (σ : pw_Mem) (k j : Nat) (v : Int32) : upd (σ k) j v = (pw_up σ k j v) k := by
  funext b
  simp [upd, pw_up]
theorem pw_fset {L : pw_Lay} {σ : pw_Mem} {k j : Nat} {v : Int32} {fs : List (Option Nat)} (h : fs[j]? = some none) : (pw_fld L σ k fs).set j (.int v) = pw_fld L (pw_up σ k j v) k fs := by
  apply List.ext_getElem?
  intro i
  unfold pw_fld
  by_cases hi : i = j
  · subst hi
    rw [List.getElem?_set_self (by rw [List.length_mapIdx]; exact (List.getElem?_eq_some_iff.mp h).1), List.getElem?_mapIdx, h]
    show some _ = some (Value.int _)
    simp [pw_up]
  · rw [List.getElem?_set_ne (fun q => hi q.symm), List.getElem?_mapIdx, List.getElem?_mapIdx]
    cases fs[i]? with
    | none => rfl
    | some f =>
      cases f with
      | none => show some (Value.int _) = some (Value.int _); simp [pw_up, hi]
      | some r => rfl
theorem pw_fld_at {L : pw_Lay} {σ : pw_Mem} {k j : Nat} {fs : List (Option Nat)} {f : Option Nat} (h : fs[j]? = some f) : (pw_fld L σ k fs)[j]? = some (pw_fv L σ k j f) := by
  unfold pw_fld
  rw [List.getElem?_mapIdx, h]
  rfl
theorem pw_setO {L : pw_Lay} {σ : pw_Mem} {k j ci : Nat} {v : Int32} {fs : List (Option Nat)} (hs : pw_shp[k]? = some (.inl (ci, fs))) (hf : fs[j]? = some none) : (pw_wl L σ).set k (pw_ad L k, Sum.inr (ci, (pw_fld L σ k fs).set j (.int v))) = pw_wl L (pw_up σ k j v) := by
  have h := pw_set (L := L) (σ := σ) (j := j) (v := v) hs
  have e : pw_ent L (pw_up σ k j v) k (.inl (ci, fs)) = Sum.inr (ci, (pw_fld L σ k fs).set j (.int v)) := by rw [pw_fset hf]; rfl
  rw [e] at h
  exact h
theorem pw_setA {L : pw_Lay} {σ : pw_Mem} {k j n : Nat} {v : Int32} (hs : pw_shp[k]? = some (.inr (.inl n))) : (pw_wl L σ).set k (pw_ad L k, Sum.inl (pw_cI L, n, Sum.inl (upd (σ k) j v))) = pw_wl L (pw_up σ k j v) := by
  have h := pw_set (L := L) (σ := σ) (j := j) (v := v) hs
  have e : pw_ent L (pw_up σ k j v) k (.inr (.inl n)) = Sum.inl (pw_cI L, n, Sum.inl (upd (σ k) j v)) := by rw [pw_upd]; rfl
  rw [e] at h
  exact h
/-- a field's link, read -/
def pw_FL (own : String) (idx ci j : Nat) : Prop := ∃ (C : String) (T : u_T) (N : Nat), pw_cl[ci]? = some (C, T, N) ∧ j < N ∧ Cond.fieldLink own idx (T j).1 (T j).2.1 (T j).2.2.1 ∈ pw_ws ∧ ∀ w ∈ u_ws C T N, w ∈ pw_ws
/-- a field's link, written -/
def pw_FP (own : String) (idx ci j : Nat) (ty : FieldType) : Prop := ∃ (C : String) (T : u_T) (N : Nat) (ty0 : Nat → FieldType), pw_cl[ci]? = some (C, T, N) ∧ j < N ∧ Cond.fieldLink own idx (T j).1 (T j).2.1 (T j).2.2.1 ∈ pw_ws ∧ (∀ w ∈ u_ws C T N, w ∈ pw_ws) ∧ (∀ k, k < N → parseFieldDescriptor (T k).2.2.1 = some (ty0 k)) ∧ (∀ a, a < N → ∀ b, b < N → a ≠ b → (T a).2.1 ≠ (T b).2.1) ∧ (T j).2.2.2 = false ∧ parseFieldDescriptor (T j).2.2.1 = some ty
section PWR
variable {L : pw_Lay} {d : Nat} {M : pw_Md} {K : pw_K} {pc : Nat} {ls : List (Option Value)} {st : List Value} {σ : pw_Mem}
theorem pw_getI {idx ci k j : Nat} {fs : List (Option Nat)} (hd : decode M.2.2.1 pc = .ok (.getfield idx, 3)) (hl : pw_FL M.2.1 idx ci j) (hs : pw_shp[k]? = some (.inl (ci, fs))) (hf : fs[j]? = some none) (kk : PW L d M K (pc + 3) ls (.int (σ k j) :: st) σ) : PW L d M K pc ls (.ref k :: st) σ := by
  intro p e s m args below meth c H locs lsM hE hW hL
  obtain ⟨C, T, N, h1, h2, h3, h4⟩ := hl
  exact va_get (v := .int (σ k j)) hE.1 hE.2.1 hE.2.2.2.2.1 h4 hE.2.2.2.2.2.1 hE.2.2.2.2.2.2.1 hW.1 k (pw_wl_at hs) h1 j h2 (hE.2.2.2.2.1 _ h3) (fun _ h => h) (pw_fld_at hf) hd (kk p e s m args below meth c H locs lsM hE hW hL)
theorem pw_getR {idx ci k j r : Nat} {fs : List (Option Nat)} (hd : decode M.2.2.1 pc = .ok (.getfield idx, 3)) (hl : pw_FL M.2.1 idx ci j) (hs : pw_shp[k]? = some (.inl (ci, fs))) (hf : fs[j]? = some (some r)) (kk : PW L d M K (pc + 3) ls (.ref r :: st) σ) : PW L d M K pc ls (.ref k :: st) σ := by
  intro p e s m args below meth c H locs lsM hE hW hL
  obtain ⟨C, T, N, h1, h2, h3, h4⟩ := hl
  exact va_get (v := .ref (pw_ad L r)) hE.1 hE.2.1 hE.2.2.2.2.1 h4 hE.2.2.2.2.2.1 hE.2.2.2.2.2.2.1 hW.1 k (pw_wl_at hs) h1 j h2 (hE.2.2.2.2.1 _ h3) (fun _ h => h) (pw_fld_at hf) hd (kk p e s m args below meth c H locs lsM hE hW hL)
theorem pw_put {idx ci k j : Nat} {fs : List (Option Nat)} {ty : FieldType} {v : Int32} (hd : decode M.2.2.1 pc = .ok (.putfield idx, 3)) (hl : pw_FP M.2.1 idx ci j ty) (hs : pw_shp[k]? = some (.inl (ci, fs))) (hf : fs[j]? = some none) (hn : narrow ty (.int v) = .int v) (hft : fits ty (.int v) = true) (kk : PW L d M K (pc + 3) ls st (pw_up σ k j v)) : PW L d M K pc ls (.int v :: .ref k :: st) σ := by
  intro p e s m args below meth c H locs lsM hE hW hL
  obtain ⟨C, T, N, ty0, h1, h2, h3, h4, h5, h6, h7, h8⟩ := hl
  refine va_put (v := .int v) (ty := ty) hE.1 hE.2.1 hE.2.2.2.2.1 h4 ty0 h5 h6 hE.2.2.2.2.2.1 hE.2.2.2.2.2.2.1 hW.1 hW.2.1 hW.2.2 k (pw_wl_at hs) h1 j h2 (hE.2.2.2.2.1 _ h3) (fun _ h => h) h7 h8 hn hft (by unfold pw_fld; rw [List.length_mapIdx]; exact (List.getElem?_eq_some_iff.mp hf).1) hd (fun H1 locs1 hP hD hS => ?_)
  have e9 := pw_setO (L := L) (σ := σ) (v := v) hs hf
  rw [e9] at hP hD
  exact kk p e s m args below meth c H1 locs1 lsM hE ⟨hP, hD, hS⟩ hL
theorem pw_iald {k n : Nat} {i : Int32} (hd : decode M.2.2.1 pc = .ok (.iaload, 1)) (hs : pw_shp[k]? = some (.inr (.inl n))) (hi : vp_in i n) (kk : PW L d M K (pc + 1) ls (.int (σ k i.toNatClampNeg) :: st) σ) : PW L d M K pc ls (.int i :: .ref k :: st) σ := by
  intro p e s m args below meth c H locs lsM hE hW hL
  exact va_iald hE.1 hE.2.1 hE.2.2.2.2.2.2.1 hW.1 k 0 (pw_wl_at hs) rfl hi hd (kk p e s m args below meth c H locs lsM hE hW hL)
theorem pw_iast {k n : Nat} {i x : Int32} (hd : decode M.2.2.1 pc = .ok (.iastore, 1)) (hs : pw_shp[k]? = some (.inr (.inl n))) (hi : vp_in i n) (kk : PW L d M K (pc + 1) ls st (pw_up σ k i.toNatClampNeg x)) : PW L d M K pc ls (.int x :: .int i :: .ref k :: st) σ := by
  intro p e s m args below meth c H locs lsM hE hW hL
  refine va_iast hE.1 hE.2.1 hE.2.2.2.2.2.2.1 hW.1 hW.2.1 hW.2.2 k 0 (pw_wl_at hs) rfl hi hd (fun H1 locs1 hP hD hS => ?_)
  have e9 := pw_setA (L := L) (σ := σ) (j := i.toNatClampNeg) (v := x) hs
  rw [e9] at hP hD
  exact kk p e s m args below meth c H1 locs1 lsM hE ⟨hP, hD, hS⟩ hL
theorem pw_aaldS {k r : Nat} {i : Int32} {rs : List Nat} (hd : decode M.2.2.1 pc = .ok (.aaload, 1)) (hs : pw_shp[k]? = some (.inr (.inr (1, rs)))) (hi : vp_in i rs.length) (hr : rs[i.toNatClampNeg]? = some r) (kk : PW L d M K (pc + 1) ls (.ref r :: st) σ) : PW L d M K pc ls (.int i :: .ref k :: st) σ := by
  intro p e s m args below meth c H locs lsM hE hW hL
  refine va_aldq hE.1 hE.2.1 hE.2.2.2.2.2.2.1 hW.1 k 2 (pw_wl_at hs) rfl hi hd ?_
  show W p (pw_l L) e (pw_rm d) s m args below meth c H locs 0 0 _ (F0 m (pc + 1) lsM (va_rf (rs[i.toNatClampNeg]?.map (pw_ad L)) :: st.map (pw_tr L)))
  rw [hr]
  exact kk p e s m args below meth c H locs lsM hE hW hL
theorem pw_aaldB {k r : Nat} {i : Int32} {rs : List Nat} (hd : decode M.2.2.1 pc = .ok (.aaload, 1)) (hs : pw_shp[k]? = some (.inr (.inr (0, rs)))) (hi : vp_in i rs.length) (hr : rs[i.toNatClampNeg]? = some r) (kk : PW L d M K (pc + 1) ls (.ref r :: st) σ) : PW L d M K pc ls (.int i :: .ref k :: st) σ := by
  intro p e s m args below meth c H locs lsM hE hW hL
  have hK := hE.2.2.2.2.2.2.1
  have ha : (pw_wl L σ)[k]? = some (pw_ad L k, Sum.inl (pw_cB L, rs.length, .inr (.inr (.inr (.inr (fun i => rs[i]?.map (pw_ad L))))))) := pw_wl_at hs
  have hlt : i.toNatClampNeg < rs.length := Nat.not_le.mp fun q => hi (Or.inr q)
  refine W.aald (v := va_rf (rs[i.toNatClampNeg]?.map (pw_ad L))) (ty := .array .int) hE.1 hE.2.1 (hW.1 k _ ha) ((hK.2 1 _ rfl).1 rs.length (fun j => va_rf (rs[j]?.map (pw_ad L)))) rfl (fun q => by cases q) (by show ¬ (i < 0 ∨ (arrV _ _ _).slots.size ≤ _); rw [arrV_size]; exact hi) (by show (arrV _ _ _).slots[_]? = _; rw [arrV_read _ _ hlt]) rfl rfl hd ?_
  rw [hr]
  exact kk p e s m args below meth c H locs lsM hE hW hL
end PWR
