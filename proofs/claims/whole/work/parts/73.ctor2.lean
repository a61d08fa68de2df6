/-! constructors: calls of them -/
theorem nd_of {l : List Nat} (h : l.Nodup) : va_nd l = true := by
  induction l with
  | nil => rfl
  | cons a l ih =>
    have h2 := List.nodup_cons.mp h
    show (decide (a ∉ l) && va_nd l) = true
    rw [ih h2.2, Bool.and_true]
    exact decide_eq_true h2.1
theorem at_end {α : Type} (ws : List α) (x : α) : [ws.length].map (fun i => (ws ++ [x])[i]?) = [x].map some := by
  show [(ws ++ [x])[ws.length]?] = [some x]
  rw [List.getElem?_append_right (Nat.le_refl _), Nat.sub_self]
  rfl
theorem at_fm {α : Type} (ws : List α) (x : α) : [ws.length].filterMap (fun i => (ws ++ [x])[i]?) = [x] := by
  have h : (ws ++ [x])[ws.length]? = some x := by
    rw [List.getElem?_append_right (Nat.le_refl _), Nat.sub_self]
    rfl
  rw [List.filterMap_cons_some h]
  rfl
theorem at_rest {α : Type} (ws : List α) (x : α) : (List.range ws.length).map (fun i => (ws ++ [x])[i]?) = ws.map some := by
  apply List.ext_getElem?
  intro i
  rw [List.getElem?_map, List.getElem?_map]
  by_cases h : i < ws.length
  · rw [List.getElem?_range h, List.getElem?_eq_getElem h]
    show some ((ws ++ [x])[i]?) = some (some ws[i])
    rw [List.getElem?_append_left h, List.getElem?_eq_getElem h]
  · rw [List.getElem?_eq_none (by rw [List.length_range]; omega), List.getElem?_eq_none (by omega)]
    rfl
section CTI
variable {p : Program} {l : Launch} {e : Env} {R R' : Room} {s : State} {m : MethodId} {args : Array Value} {below : List Frame} {meth : Method} {c : Code} {H H0 : Heap} {locs : List Loc} {cells slots : Nat} {Q : State → Prop}
variable {G : va_G} {tys : List (ClassId × FieldType)} {M : pw_Md} {A : Nat → Prop} {ls : Array Slot} {pc : Nat} {ws : va_W} {rest stk : List Value} {q : Nat} {e0 : va_E} {Wk : (Nat → Nat) → va_W}
theorem w_after {mc ms : Nat} {av : Array Value} (hP : va_P G pw_cl (ws ++ [(q, e0)]) H) (hD : va_D A (ws ++ [(q, e0)])) (hS : va_S A H0 H locs) (hA : ∀ q, H0.size ≤ q → A q) (hr : va_Run p l e R s m args below meth c H locs cells slots mc ms (F0 m pc ls stk) rest (va_Qv (fun _ : Nat → Nat => True) (fun ad t => va_P G pw_cl (Wk ad) t.heap ∧ va_D (va_A [(q, e0)] H.size) (Wk ad)) (va_A [(q, e0)] H.size) av) (va_A [(q, e0)] H.size)) (kk : ∀ (ad : Nat → Nat) (H1 : Heap) (locs1 : List Loc), va_P G pw_cl (ws ++ Wk ad) H1 → va_D A (ws ++ Wk ad) → va_S A H0 H1 locs1 → W p l e R s m args below meth c H1 locs1 (cells + mc) (slots + ms) Q (F0 m (pc + 3) ls rest)) : W p l e R s m args below meth c H locs cells slots Q (F0 m pc ls stk) := by
  have hF := va_free (wc := [(q, e0)]) hD hS hA [ws.length] (at_end ws (q, e0))
  refine va_callv hr hS (fun q _ h => hF q h) hF (fun ad t H1 locs1 ht _ _ hB _ hk hS1 => ?_)
  obtain ⟨hP1, hD1⟩ := hB
  rw [ht] at hP1
  obtain ⟨hP2, hD2⟩ := va_join (wr := ws) (w1 := Wk ad) hP hD [ws.length] (List.range ws.length) (at_end ws (q, e0)) (at_rest ws (q, e0)) (nd_of List.nodup_range) (fun i hi h => by rw [List.mem_range] at hi; rw [List.mem_singleton] at h; omega) hk hF hP1 hD1
  exact kk ad H1 locs1 hP2 hD2 hS1
theorem w_pre {as : List Value} (hE : cE G tys M p s m args meth c) (ha : aoA s) (hao : va_AO "StackDepths$Sheet" s) (hP : va_P G pw_cl (ws ++ [(q, e0)]) H) (hD : va_D A (ws ++ [(q, e0)])) : PreS s H (va_Pc (.ref q :: as) (cPre G tys q e0 H.size)) (.ref q :: as) :=
  ⟨cPre.blind, fun U hU hW => ⟨rfl, by rw [hU], by rw [hU]; exact hP.sub [ws.length] (at_fm ws (q, e0)), va_K.moved hW.alike hE.2.2.2.2.2.2.1, (hD.sub (ws' := [(q, e0)]) [ws.length] rfl (at_end ws (q, e0))).weaken (fun _ _ _ _ => trivial), pw_N.warm hW hE.2.2.2.2.2.2.2.1, aoA.moved hW.alike ha, va_AO.moved hW.alike hao⟩⟩
theorem w_initN {y : MethodName} {own' : String} {bytes : ByteArray} {maxL' idx nn : Nat} {as : List Value} (hE : cE G tys M p s m args meth c) (ha : aoA s) (hao : va_AO "StackDepths$Sheet" s) (hm : (M.2.1, idx, y) ∈ pw_nest) (hb : pw_MB (y, own', bytes, maxL', none) nn) (hin : y.name = "<init>") (him : Cond.instanceMethod y ∈ pw_ws) (hn : as.length = nn) (hR : R'.frames + 1 ≤ R.frames ∧ 8 + (maxL' + 11) + R'.locals ≤ R.locals) (hcs : cells + R'.cells ≤ R.cells ∧ slots + R'.slots ≤ R.slots) (hmet : cMet G tys l (y, own', bytes, maxL', none) as q e0 Wk R') (hls : ls.size = M.2.2.2.1) (hst : stk = as.reverse ++ .ref q :: rest) (hc : (rest.map fun v => v.category).sum ≤ 8) (hd : decode M.2.2.1 pc = .ok (.invokespecial idx, 3)) (hP : va_P G pw_cl (ws ++ [(q, e0)]) H) (hD : va_D A (ws ++ [(q, e0)])) (hS : va_S A H0 H locs) (hA : ∀ q, H0.size ≤ q → A q) (kk : ∀ (ad : Nat → Nat) (H1 : Heap) (locs1 : List Loc), va_P G pw_cl (ws ++ Wk ad) H1 → va_D A (ws ++ Wk ad) → va_S A H0 H1 locs1 → W p l e R s m args below meth c H1 locs1 (cells + R'.cells) (slots + R'.slots) Q (F0 m (pc + 3) ls rest)) : W p l e R s m args below meth c H locs cells slots Q (F0 m pc ls stk) := by
  have hts := hE.2.2.2.2.1
  have hnw : va_Nw (.methodLinkNest M.2.1 idx y "StackDepths") s := hE.2.2.2.2.2.2.2.1 (M.2.1, idx, y) hm
  have hcn : va_CN R s args M.2.1 idx y "StackDepths" bytes maxL' none (.code y bytes maxL' none :: pw_ws) R' R'.cells R'.slots nn := va_cnB nn hts (pw_goods hb) rfl rfl rfl hnw (hts _ hb.1) hb.2.2.1 hR
  have hrun := va_runIN (l := l) (R := R) (H := H) (locs := locs) (cells := cells) (slots := slots) (below := below) (meth := meth) (e := e) (b := q) (As := as) (rest := rest) (g := F0 m pc ls stk) ⟨hE.1, hE.2.1, hE.2.2.2.1, hE.2.2.2.2.2.1, hts⟩ (hmet H.size) ⟨hcn, hin, hts _ him⟩ (w_pre hE ha hao hP hD) rfl hn hls hst (lv_room hc) hd hcs
  exact w_after hP hD hS hA hrun kk
theorem w_initP {y : MethodName} {own' : String} {bytes : ByteArray} {maxL' idx nn : Nat} {as : List Value} (hE : cE G tys M p s m args meth c) (ha : aoA s) (hao : va_AO "StackDepths$Sheet" s) (hm : Cond.methodLink M.2.1 idx y ∈ pw_ws) (hb : pw_MB (y, own', bytes, maxL', none) nn) (hin : y.name = "<init>") (him : Cond.instanceMethod y ∈ pw_ws) (hn : as.length = nn) (hR : R'.frames + 1 ≤ R.frames ∧ 8 + (maxL' + 11) + R'.locals ≤ R.locals) (hcs : cells + R'.cells ≤ R.cells ∧ slots + R'.slots ≤ R.slots) (hmet : cMet G tys l (y, own', bytes, maxL', none) as q e0 Wk R') (hls : ls.size = M.2.2.2.1) (hst : stk = as.reverse ++ .ref q :: rest) (hc : (rest.map fun v => v.category).sum ≤ 8) (hd : decode M.2.2.1 pc = .ok (.invokespecial idx, 3)) (hP : va_P G pw_cl (ws ++ [(q, e0)]) H) (hD : va_D A (ws ++ [(q, e0)])) (hS : va_S A H0 H locs) (hA : ∀ q, H0.size ≤ q → A q) (kk : ∀ (ad : Nat → Nat) (H1 : Heap) (locs1 : List Loc), va_P G pw_cl (ws ++ Wk ad) H1 → va_D A (ws ++ Wk ad) → va_S A H0 H1 locs1 → W p l e R s m args below meth c H1 locs1 (cells + R'.cells) (slots + R'.slots) Q (F0 m (pc + 3) ls rest)) : W p l e R s m args below meth c H locs cells slots Q (F0 m pc ls stk) := by
  have hts := hE.2.2.2.2.1
  refine w_after hP hD hS hA (va_runI (b := q) (As := as) (g := F0 m pc ls stk) ⟨hE.1, hE.2.1, hE.2.2.2.1, hE.2.2.2.2.2.1, hts⟩ (hmet H.size) ⟨callB_of nn hts (pw_goods hb) rfl rfl rfl (hts _ hb.1) (hts _ hm) hb.2.2.1 hR, hin, hts _ him⟩ (w_pre hE ha hao hP hD) rfl hn hls hst (lv_room hc) hd hcs) kk
/-- a class that may be made -/
def pw_NW (own : String) (idx ci : Nat) (fs : List Value) (N : Nat) : Prop := ∃ (C : String) (T : u_T) (ty : Nat → FieldType), pw_cl[ci]? = some (C, T, N) ∧ (∀ w ∈ u_ws C T N, w ∈ pw_ws) ∧ (∀ k, k < N → parseFieldDescriptor (T k).2.2.1 = some (ty k)) ∧ Cond.classLink own idx C ∈ pw_ws ∧ Cond.instantiable C N ∈ pw_ws ∧ Cond.initialized C ∈ pw_ws ∧ ∀ j, j < N → defaultValue (ty j) = vp_V fs j
theorem w_new {idx ci N : Nat} {fs : List Value} (hE : cE G tys M p s m args meth c) (hw : pw_NW M.2.1 idx ci fs N) (hA : ∀ q, H0.size ≤ q → A q) (hcells : cells + 1 ≤ R.cells) (hslots : slots + N ≤ R.slots) (hP : va_P G pw_cl ws H) (hD : va_D A ws) (hS : va_S A H0 H locs) (hd : decode M.2.2.1 pc = .ok (.new idx, 3)) (kk : ∀ (q : Nat) (H1 : Heap), va_P G pw_cl (ws ++ [(q, .inr (ci, fs))]) H1 → va_D A (ws ++ [(q, .inr (ci, fs))]) → va_S A H0 H1 locs → W p l e R s m args below meth c H1 locs (cells + 1) (slots + N) Q (F0 m (pc + 3) ls (.ref q :: rest))) : W p l e R s m args below meth c H locs cells slots Q (F0 m pc ls rest) := by
  obtain ⟨C, T, ty, h1, h2, h3, h4, h5, h6, h7⟩ := hw
  have hts := hE.2.2.2.2.1
  exact va_new (ci := ci) (fs := fs) hE.1 hE.2.1 hts h2 ty h3 hE.2.2.2.2.2.1 (hts _ h4) (hts _ h5) (hts _ h6) hE.2.2.2.2.2.2.1 hP hD hS hA h1 h7 hcells hslots hd kk
end CTI
