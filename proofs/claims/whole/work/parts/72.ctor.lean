/-! constructors: their rows -/
def cE (G : va_G) (tys : List (ClassId × FieldType)) (M : pw_Md) (p : Program) (s : State) (m : MethodId) (args : Array Value) (meth : Method) (c : Code) : Prop :=
  p.tables.exec = Jvm.exec ∧ c.code = M.2.2.1 ∧ meth.sig.returnType = M.2.2.2.2 ∧ c.maxLocals = M.2.2.2.1 ∧ (∀ w ∈ pw_ws, w.before args s = true) ∧ s.vm.findClass M.2.1 = some m.cls ∧ va_K G pw_cl tys s ∧ pw_N s ∧ meth.locks = false ∧ meth.name = "<init>"
/-- a final field's link, written by its own constructor -/
def pw_FF (own : String) (idx ci j : Nat) (ty : FieldType) : Prop := ∃ (C : String) (T : u_T) (N : Nat) (ty0 : Nat → FieldType), pw_cl[ci]? = some (C, T, N) ∧ j < N ∧ Cond.fieldLink own idx (T j).1 (T j).2.1 (T j).2.2.1 ∈ pw_ws ∧ (∀ w ∈ u_ws C T N, w ∈ pw_ws) ∧ (∀ k, k < N → parseFieldDescriptor (T k).2.2.1 = some (ty0 k)) ∧ (∀ a, a < N → ∀ b, b < N → a ≠ b → (T a).2.1 ≠ (T b).2.1) ∧ (T j).2.2.2 = true ∧ (T j).1 = own ∧ parseFieldDescriptor (T j).2.2.1 = some ty
def aoA (U : State) : Prop := (Cond.arrayOver (.array .int)).before #[] U = true
theorem aoA.moved {u U : State} (hvm : u.vm.Alike U.vm) (h : aoA u) : aoA U := by
  obtain ⟨comp, c, k, h1, h2, h3, h4, h5⟩ := arrayOverA_spec h
  obtain ⟨k', hk', he⟩ := hvm.2.2 _ _ h3
  have hi : (U.vm.classes.findIdx? fun (x : Class) => match x.kind with | .array component _ => component == comp | _ => false) = some c := by
    rw [hvm.findIdx?_eq _ (fun _ => rfl)]
    exact h2
  have hkind : k'.kind = .array comp (.array .int) := by rw [he]; exact h4
  have f1 : U.vm.findClass (FieldType.array .int).toString = some comp := by rw [hvm.findClass]; exact h1
  have f2 : U.vm.findClass ("[" ++ (FieldType.array .int).toString) = some c := by rw [hvm.findClass]; exact h5
  unfold aoA Cond.before Cond.holds
  simp only [Cond.value]
  rw [f1, Option.bind_some]
  refine (congrArg (fun o : Option Nat => (o.bind (fun c => (U.vm.classes[c]?).map fun (k : Class) => match k.kind with | .array _ ty => decide (ty = FieldType.array .int) && decide (U.vm.findClass ("[" ++ (FieldType.array .int).toString) = some c) | _ => false) == some true)) hi).trans ?_
  show ((U.vm.classes[c]?).map _ == some true) = true
  rw [hk']
  simp [hkind, f2]
theorem w_aI : Cond.arrayClass .int ∈ pw_ws := pw_in (by decide +kernel) (by decide +kernel)
theorem w_oI : Cond.instanceMethod Lib.objectInit ∈ pw_ws := pw_in (by decide +kernel) (by decide +kernel)
theorem w_oC : Cond.code Lib.objectInit ⟨#[0xb1]⟩ 1 none ∈ pw_ws := pw_in (by decide +kernel) (by decide +kernel)
/-- a row of zeros -/
def zI (cI : ClassId) (N' : Nat) : va_E := Sum.inl (cI, N', Sum.inl (fun _ => (0 : Int32)))
section CTO
variable {p : Program} {l : Launch} {e : Env} {R : Room} {s : State} {m : MethodId} {args : Array Value} {below : List Frame} {meth : Method} {c : Code} {H H0 : Heap} {locs : List Loc} {cells slots : Nat} {Q : State → Prop}
variable {G : va_G} {tys : List (ClassId × FieldType)} {M : pw_Md} {A : Nat → Prop} {ls : Array Slot} {pc : Nat} {ws : va_W} {rest : List Value}
theorem w_putF {idx ci k h0 : Nat} {ty : FieldType} {fs : List Value} {v : Value} (hE : cE G tys M p s m args meth c) (hf : pw_FF M.2.1 idx ci k ty) (hn : narrow ty v = v) (hfit : Jvm.fits ty v = true) (hl : k < fs.length) (hP : va_P G pw_cl ((h0, .inr (ci, fs)) :: ws) H) (hD : va_D A ((h0, .inr (ci, fs)) :: ws)) (hS : va_S A H0 H locs) (hd : decode M.2.2.1 pc = .ok (.putfield idx, 3)) (kk : ∀ (H1 : Heap) (locs1 : List Loc), va_P G pw_cl ((h0, .inr (ci, fs.set k v)) :: ws) H1 → va_D A ((h0, .inr (ci, fs.set k v)) :: ws) → va_S A H0 H1 locs1 → W p l e R s m args below meth c H1 locs1 cells slots Q (F0 m (pc + 3) ls rest)) : W p l e R s m args below meth c H locs cells slots Q (F0 m pc ls (v :: .ref h0 :: rest)) := by
  obtain ⟨C, T, N, ty0, h1, h2, h3, h4, h5, h6, h7, h8, h9⟩ := hf
  have hts := hE.2.2.2.2.1
  exact va_putF (ty := ty) hE.1 hE.2.1 hts h4 ty0 h5 h6 hE.2.2.2.2.2.1 hE.2.2.2.2.2.2.1 hP hD hS 0 rfl h1 k h2 (hts _ h3) (fun _ h => h) h7 hE.2.2.2.2.2.2.2.2.2 h8 h9 hn hfit hl hd kk
theorem w_put {idx ci k h0 : Nat} {ty : FieldType} {fs : List Value} {v : Value} (hE : cE G tys M p s m args meth c) (hf : pw_FP M.2.1 idx ci k ty) (hn : narrow ty v = v) (hfit : Jvm.fits ty v = true) (hl : k < fs.length) (hP : va_P G pw_cl ((h0, .inr (ci, fs)) :: ws) H) (hD : va_D A ((h0, .inr (ci, fs)) :: ws)) (hS : va_S A H0 H locs) (hd : decode M.2.2.1 pc = .ok (.putfield idx, 3)) (kk : ∀ (H1 : Heap) (locs1 : List Loc), va_P G pw_cl ((h0, .inr (ci, fs.set k v)) :: ws) H1 → va_D A ((h0, .inr (ci, fs.set k v)) :: ws) → va_S A H0 H1 locs1 → W p l e R s m args below meth c H1 locs1 cells slots Q (F0 m (pc + 3) ls rest)) : W p l e R s m args below meth c H locs cells slots Q (F0 m pc ls (v :: .ref h0 :: rest)) := by
  obtain ⟨C, T, N, ty0, h1, h2, h3, h4, h5, h6, h7, h8⟩ := hf
  have hts := hE.2.2.2.2.1
  exact va_put (ty := ty) hE.1 hE.2.1 hts h4 ty0 h5 h6 hE.2.2.2.2.2.1 hE.2.2.2.2.2.2.1 hP hD hS 0 rfl h1 k h2 (hts _ h3) (fun _ h => h) h7 h8 hn hfit hl hd kk
/-- a new row of ints -/
theorem w_newI {n : Int32} {N' : Nat} {cI : ClassId} (hE : cE G tys M p s m args meth c) (hty : tys[0]? = some (cI, .int)) (hA : ∀ q, H0.size ≤ q → A q) (hn : ¬ n < 0) (hN : n.toNatClampNeg = N') (hb : N' ≤ 1000) (hcells : cells + 1 ≤ R.cells) (hslots : slots + N' ≤ R.slots) (hP : va_P G pw_cl ws H) (hD : va_D A ws) (hS : va_S A H0 H locs) (hd : decode M.2.2.1 pc = .ok (.newarray .int, 2)) (kk : ∀ (q : Nat) (H1 : Heap), va_P G pw_cl (ws ++ [(q, zI cI N')]) H1 → va_D A (ws ++ [(q, zI cI N')]) → va_S A H0 H1 locs → W p l e R s m args below meth c H1 locs (cells + 1) (slots + N') Q (F0 m (pc + 2) ls (.ref q :: rest))) : W p l e R s m args below meth c H locs cells slots Q (F0 m pc ls (.int n :: rest)) := by
  have hts := hE.2.2.2.2.1
  have hK := hE.2.2.2.2.2.2.1
  refine va_newa (atype := .int) (ty := .int) (a0 := (N', .inl (fun _ => 0))) hE.1 hE.2.1 (hts _ w_aI) rfl hK hP hD hS hA (fun cA => rfl) hn hN (show N' * 4 ≤ 536870912 by omega) hcells hslots hd (fun q cA H1 hK1 hP1 hD1 hS1 => ?_)
  have e1 : s.vm.findClass ("[" ++ FieldType.int.toString) = some cI := (hK.2 0 _ hty).2
  have e2 : s.vm.findClass ("[" ++ FieldType.int.toString) = some cA := (hK1.2 tys.length (cA, .int) (by rw [List.getElem?_append_right (Nat.le_refl _), Nat.sub_self]; rfl)).2
  have e3 : cA = cI := by
    rw [e1] at e2
    exact (Option.some.inj e2).symm
  subst e3
  exact kk q H1 hP1 hD1 hS1
/-- a final row of ints: this, length, newarray, putfield -/
theorem w_arr {idx ci k h0 pc2 : Nat} {fs : List Value} {n : Int32} {N' : Nat} {cI : ClassId} (hE : cE G tys M p s m args meth c) (hty : tys[0]? = some (cI, .int)) (hA : ∀ q, H0.size ≤ q → A q) (hl0 : ls[0]? = some (.val (.ref h0))) (d0 : decode M.2.2.1 pc = .ok (.aload_n 0, 1)) (hpush : W p l e R s m args below meth c H locs cells slots Q (F0 m pc2 ls [.int n, .ref h0]) → W p l e R s m args below meth c H locs cells slots Q (F0 m (pc + 1) ls [.ref h0])) (d2 : decode M.2.2.1 pc2 = .ok (.newarray .int, 2)) (d3 : decode M.2.2.1 (pc2 + 2) = .ok (.putfield idx, 3)) (hf : pw_FF M.2.1 idx ci k (.array .int)) (hl : k < fs.length) (hn : ¬ n < 0) (hN : n.toNatClampNeg = N') (hb : N' ≤ 1000) (hcells : cells + 1 ≤ R.cells) (hslots : slots + N' ≤ R.slots) (hP : va_P G pw_cl ((h0, .inr (ci, fs)) :: ws) H) (hD : va_D A ((h0, .inr (ci, fs)) :: ws)) (hS : va_S A H0 H locs) (kk : ∀ (q : Nat) (H1 : Heap) (locs1 : List Loc), va_P G pw_cl ((h0, .inr (ci, fs.set k (.ref q))) :: (ws ++ [(q, zI cI N')])) H1 → va_D A ((h0, .inr (ci, fs.set k (.ref q))) :: (ws ++ [(q, zI cI N')])) → va_S A H0 H1 locs1 → W p l e R s m args below meth c H1 locs1 (cells + 1) (slots + N') Q (F0 m (pc2 + 5) ls [])) : W p l e R s m args below meth c H locs cells slots Q (F0 m pc ls []) := by
  refine lv_aload_n hE.1 hE.2.1 d0 rfl hl0 ?_
  refine hpush ?_
  refine w_newI hE hty hA hn hN hb hcells hslots hP hD hS d2 (fun q H1 hP1 hD1 hS1 => ?_)
  exact w_putF hE hf rfl rfl hl (ws := ws ++ [(q, zI cI N')]) hP1 hD1 hS1 d3 (fun H2 locs2 hP2 hD2 hS2 => kk q H2 locs2 hP2 hD2 hS2)
end CTO
/-- what a constructor needs of its start -/
def cPre (G : va_G) (tys : List (ClassId × FieldType)) (h0 : Nat) (e0 : va_E) (sz : Nat) (U : State) : Prop := U.heap.size = sz ∧ va_P G pw_cl [(h0, e0)] U.heap ∧ va_K G pw_cl tys U ∧ va_D (fun _ => True) [(h0, e0)] ∧ pw_N U ∧ aoA U ∧ va_AO "StackDepths$Sheet" U
/-- its contract: the cells that stand behind it, at the addresses that it found -/
def cMet (G : va_G) (tys : List (ClassId × FieldType)) (l : Launch) (M : pw_Md) (as : List Value) (h0 : Nat) (e0 : va_E) (Wk : (Nat → Nat) → va_W) (R : Room) : Prop := ∀ sz, Met l M.1 (.code M.1 M.2.2.1 M.2.2.2.1 M.2.2.2.2 :: pw_ws) R (va_Pc (.ref h0 :: as) (cPre G tys h0 e0 sz)) (va_Qv (fun _ : Nat → Nat => True) (fun ad t => va_P G pw_cl (Wk ad) t.heap ∧ va_D (va_A [(h0, e0)] sz) (Wk ad)) (va_A [(h0, e0)] sz)) R.cells R.slots (va_A [(h0, e0)] sz)
theorem cPre.blind {G : va_G} {tys : List (ClassId × FieldType)} {h0 : Nat} {e0 : va_E} {sz : Nat} {vs : List Value} : FrameBlind (va_Pc vs (cPre G tys h0 e0 sz)) := fun a U g mk q => by
  obtain ⟨q0, q1, qP, qK, qD, qN, qa, qb⟩ := q
  exact ⟨q0, q1, qP, va_K.moved (u := U) (U := U.calling g mk a) (Vm.Alike.refl U.vm) qK, qD, pw_N.same (u := U) (U := U.calling g mk a) rfl qN, aoA.moved (u := U) (U := U.calling g mk a) (Vm.Alike.refl U.vm) qa, va_AO.moved (u := U) (U := U.calling g mk a) (Vm.Alike.refl U.vm) qb⟩
/-- the entry of a constructor, up to Object's own -/
theorem ctor {G : va_G} {tys : List (ClassId × FieldType)} {l : Launch} {M : pw_Md} {as : List Value} {h0 : Nat} {e0 : va_E} {Wk : (Nat → Nat) → va_W} {R : Room} {idx : Nat} {lv : List (Nat × Value)} (hin : M.1.name = "<init>") (ho : M.1.cls = M.2.1) (hy : plainName M.1.cls = true) (hle : (lg_sl (.ref h0 :: as)).length ≤ M.2.2.2.1) (hlv : lv_args 0 (.ref h0 :: as) = (0, .ref h0) :: lv) (d0 : decode M.2.2.1 0 = .ok (.aload_n 0, 1)) (d1 : decode M.2.2.1 1 = .ok (.invokespecial idx, 3)) (hol : Cond.methodLink M.2.1 idx Lib.objectInit ∈ pw_ws) (hfr : 1 ≤ R.frames) (hlo : 12 ≤ R.locals)
    (kk : ∀ (p : Program) (e : Env) (s : State) (m : MethodId) (below : List Frame) (meth : Method) (c : Code) (ls : Array Slot), cE G tys M p s m (.ref h0 :: as).toArray meth c → aoA s → va_AO "StackDepths$Sheet" s → (∀ q, s.heap.size ≤ q → va_A [(h0, e0)] s.heap.size q) → lv_has ls M.2.2.2.1 ((0, .ref h0) :: lv) → va_P G pw_cl [(h0, e0)] s.heap → va_D (va_A [(h0, e0)] s.heap.size) [(h0, e0)] → va_S (va_A [(h0, e0)] s.heap.size) s.heap s.heap [] → W p l e R s m (.ref h0 :: as).toArray below meth c s.heap [] 0 0 (MQ below (va_Qv (fun _ : Nat → Nat => True) (fun ad t => va_P G pw_cl (Wk ad) t.heap ∧ va_D (va_A [(h0, e0)] s.heap.size) (Wk ad)) (va_A [(h0, e0)] s.heap.size)) (.ref h0 :: as).toArray s R.cells R.slots (va_A [(h0, e0)] s.heap.size)) (F0 m 4 ls [])) : cMet G tys l M as h0 e0 Wk R := by
  intro sz
  refine Met.ofW (cc := M.2.2.1) (maxL := M.2.2.2.1) (ret := M.2.2.2.2) hy rfl ?_
  intro p e s m args below meth c s₁ B hml hv
  obtain ⟨rfl, hsz, hP, hK, hD0, hN, ha, hao⟩ := hv
  subst hsz
  have hts := atoms_spec (ws := .code M.1 M.2.2.1 M.2.2.2.1 M.2.2.2.2 :: pw_ws) B.pre
  have hts2 : ∀ w ∈ pw_ws, w.before (.ref h0 :: as).toArray s = true := fun w hw => hts w (List.mem_cons_of_mem _ hw)
  have hown : s.vm.findClass M.2.1 = some m.cls := by rw [← ho]; exact findClass_of_methodNamed B.named
  have hname : meth.name = "<init>" := (name_of_methodNamed B.named B.method).1.trans hin
  have hl := lv_entry (.ref h0 :: as) (n := M.2.2.2.1) hle
  rw [lg_entry_eq]
  generalize (lg_sl (.ref h0 :: as) ++ List.replicate (M.2.2.2.1 - (lg_sl (.ref h0 :: as)).length) Slot.unset).toArray = ls at hl ⊢
  rw [hlv] at hl
  refine lv_aload_n B.exec B.bytes d0 rfl (lv_at hl 0 rfl) ?_
  refine W.objInit B.exec B.bytes hown (hts2 _ hol) (hts2 _ w_oI) (hts2 _ w_oC) rfl (by rw [hml]; exact hl.1) rfl d1 hfr hlo ?_
  refine W.eq (g2 := F0 m 4 ls []) rfl ?_
  exact kk p e s m below meth c ls ⟨B.exec, B.bytes, B.returns, hml, hts2, hown, hK, hN, B.notSynchronized, hname⟩ ha hao (fun q h => Or.inr h) hl hP hD0.self va_S.rf
