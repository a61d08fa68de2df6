/-! the law of the one instruction that makes an array of arrays (four rows of twenty ints), out of the machine's own words -/
/-- the outer array, to lie at h, when its first j rows are laid -/
def mn_o (cB : ClassId) (h j : Nat) : Cell := vp_cell cB (4, Sum.inr (Sum.inr (Sum.inr (Sum.inr (fun i => if i < j then some (h + (1 + i)) else none)))))
/-- a row of twenty zeros -/
def mn_i (cI : ClassId) : Cell := vp_cell cI (20, Sum.inl (fun _ => (0 : Int32)))
/-- the state when j rows are laid -/
def mn_T (T : State) (cB cI : ClassId) : Nat → State
  | 0 => T.pushCell (mn_o cB T.heap.size 0)
  | j + 1 => ((mn_T T cB cI j).pushCell (mn_i cI)).setCell T.heap.size (mn_o cB T.heap.size (j + 1))
theorem mn_o_size (cB : ClassId) (h j : Nat) : (mn_o cB h j).slots.size = 4 := by
  unfold mn_o
  rw [vp_cell_q, arrV_size]
theorem mn_i_size (cI : ClassId) : (mn_i cI).slots.size = 20 := by
  unfold mn_i
  rw [vp_cell_i, arrV_size]
theorem mn_o_0 (cB : ClassId) (h : Nat) : ({ cls := cB, slots := Array.replicate 4 .null } : Cell) = mn_o cB h 0 := rfl
theorem mn_i_0 (cI : ClassId) : ({ cls := cI, slots := Array.replicate 20 (defaultValue .int) } : Cell) = mn_i cI := rfl
theorem mn_o_put (cB : ClassId) (h j : Nat) : (mn_o cB h j).setSlot j (.ref (h + (1 + j))) = mn_o cB h (j + 1) := by
  unfold mn_o
  rw [vp_cell_q, vp_cell_q, arrV_store]
  congr 1
  funext i
  unfold updV
  by_cases e : i = j
  · subst e
    rw [if_pos rfl, if_pos (Nat.lt_succ_self i)]
    rfl
  · rw [if_neg e]
    show va_rf (if i < j then some (h + (1 + i)) else none) = va_rf (if i < j + 1 then some (h + (1 + i)) else none)
    by_cases h1 : i < j
    · rw [if_pos h1, if_pos (by omega)]
    · rw [if_neg h1, if_neg (by omega)]
theorem mn_heap (T : State) (cB cI : ClassId) : ∀ j, (mn_T T cB cI j).heap = T.heap ++ (mn_o cB T.heap.size j :: List.replicate j (mn_i cI)).toArray
  | 0 => by
    show T.heap.push _ = _
    apply Array.toList_inj.mp
    simp
  | j + 1 => by
    show ((mn_T T cB cI j).heap.push (mn_i cI)).setIfInBounds T.heap.size (mn_o cB T.heap.size (j + 1)) = _
    rw [mn_heap T cB cI j]
    apply Array.toList_inj.mp
    rw [Array.toList_setIfInBounds, Array.toList_push, Array.toList_append, Array.toList_append, List.append_assoc, List.set_append_right _ _ (by simp)]
    congr 1
    rw [Array.length_toList, Nat.sub_self, List.cons_append, List.set_cons_zero, ← List.replicate_succ']
theorem mn_vm (T : State) (cB cI : ClassId) : ∀ j, (mn_T T cB cI j).vm = T.vm
  | 0 => rfl
  | j + 1 => mn_vm T cB cI j
theorem mn_used (T : State) (cB cI : ClassId) : ∀ j, (mn_T T cB cI j).slotsUsed = T.slotsUsed + (4 + 20 * j)
  | 0 => by
    show T.slotsUsed + (mn_o cB T.heap.size 0).slots.size = _
    rw [mn_o_size]
  | j + 1 => by
    show (mn_T T cB cI j).slotsUsed + (mn_i cI).slots.size = _
    rw [mn_used T cB cI j, mn_i_size]
    omega
theorem mn_size (T : State) (cB cI : ClassId) (j : Nat) : (mn_T T cB cI j).heap.size = T.heap.size + (1 + j) := by
  rw [mn_heap, Array.size_append]
  simp only [List.size_toArray, List.length_cons, List.length_replicate]
  omega
theorem mn_at (T : State) (cB cI : ClassId) (j : Nat) : ((mn_T T cB cI j).pushCell (mn_i cI)).heap[T.heap.size]? = some (mn_o cB T.heap.size j) := by
  have hlt : T.heap.size < (mn_T T cB cI j).heap.size := by
    rw [mn_size]
    omega
  rw [State.heap_pushCell_of_lt (h := hlt), mn_heap, Array.getElem?_append_right (Nat.le_refl _), Nat.sub_self]
  rfl
theorem mn_top (T : State) (f : JFrame) (cB cI : ClassId) : ∀ j, mn_T (T.setTop f) cB cI j = (mn_T T cB cI j).setTop f
  | 0 => rfl
  | j + 1 => by
    show ((mn_T (T.setTop f) cB cI j).pushCell (mn_i cI)).setCell T.heap.size _ = _
    rw [mn_top T f cB cI j]
    rfl
section MNL
variable {p : Program} {l : Launch} {e : Env} {R : Room} {s : State} {m : MethodId} {args : Array Value} {below : List Frame} {meth : Method} {c : Code} {T : State} {locs : List Loc} {cells slots : Nat}
variable {E : CtlPost} {d : Bool} {acts : List Action} {u : State} {cI cB pI : ClassId} {kI kB : Class}
theorem mn_stand (X : Stand p l e R s m args below meth c T locs cells slots) (cB cI : ClassId) : ∀ j, Stand p l e R s m args below meth c (mn_T T cB cI j) locs (cells + (1 + j)) (slots + (4 + 20 * j))
  | 0 => by
    have h := X.pushed (mn_o cB T.heap.size 0)
    rw [mn_o_size] at h
    exact h
  | j + 1 => by
    have h1 := (mn_stand X cB cI j).pushed (mn_i cI)
    rw [mn_i_size] at h1
    have h2 := h1.stored (mn_at T cB cI j) j (.ref (T.heap.size + (1 + j)))
    rw [mn_o_put] at h2
    have hs : s.heap.size ≤ T.heap.size := X.same.2.1
    have h3 := Stand.forget h2 (fun y hy => by
      rw [List.mem_singleton] at hy
      rw [hy]
      exact hs)
    exact h3
/-- a row is made -/
theorem mn_row (hk : u.vm.classes[cI]? = some kI) (hkind : kI.kind = .array pI .int) (hl : ¬ 20 > e.platform.arrayLengthLimit) (hh : ¬ 20 * componentBytes .int > e.platform.maxHeapBytes) (h1 : u.heap.size < e.platform.maxCells) (h2 : u.slotsUsed + 20 ≤ e.platform.maxSlots) {Q : Addr → Pre} (hq : ∀ acts', Q u.heap.size d acts' (u.pushCell (mn_i cI))) : wp (Op.multianewarray.make cI [20]) Q E e d acts u := by
  have n0 : ¬ (20 : Int32) < 0 := by decide
  have n1 : (20 : Int32).toNatClampNeg = 20 := by decide
  rw [Op.multianewarray.make]
  simp only [wp_bind', n0, if_false, wp_pure', Jvm.W.theClass, hk, hkind, Option.some.injEq, exists_eq_left', n1]
  exact Jvm.W.newArray_of hk hkind hl hh h1 h2 rfl hq
/-- the rows, one behind another -/
theorem mn_loop {f : Nat → PUnit → Sem (ForInStep PUnit)} (hf : ∀ (j : Nat) (d : Bool) (acts : List Action) (Q : ForInStep PUnit → Pre), j < 4 → (∀ d' acts', Q (.yield PUnit.unit) d' acts' (mn_T u cB cI (j + 1))) → wp (f j PUnit.unit) Q E e d acts (mn_T u cB cI j)) {Q : PUnit → Pre} (hq : ∀ d' acts', Q PUnit.unit d' acts' (mn_T u cB cI 4)) : ∀ (k j : Nat), j + k = 4 → ∀ (d : Bool) (acts : List Action), wp (forIn (List.range' j k) PUnit.unit f) Q E e d acts (mn_T u cB cI j)
  | 0, j, h, d, acts => by
    have hj : j = 4 := by omega
    subst hj
    simp only [List.range'_zero, List.forIn_nil, wp_pure']
    exact hq _ _
  | k + 1, j, h, d, acts => by
    rw [List.range'_succ]
    simp only [List.forIn_cons, wp_bind']
    exact hf j d acts _ (by omega) (fun d' acts' => mn_loop hf hq k (j + 1) (by omega) d' acts')
/-- the whole array is made -/
theorem mn_make (hk : u.vm.classes[cB]? = some kB) (hkind : kB.kind = .array cI (.array .int)) (hkI : u.vm.classes[cI]? = some kI) (hkindI : kI.kind = .array pI .int) (hl : ¬ 20 > e.platform.arrayLengthLimit) (hh : ¬ 80 > e.platform.maxHeapBytes) (h1 : u.heap.size + 5 ≤ e.platform.maxCells) (h2 : u.slotsUsed + 84 ≤ e.platform.maxSlots) {Q : Addr → Pre} (hq : ∀ d' acts', Q u.heap.size d' acts' (mn_T u cB cI 4)) : wp (Op.multianewarray.make cB [4, 20]) Q E e d acts u := by
  have n0 : ¬ (4 : Int32) < 0 := by decide
  have n1 : (4 : Int32).toNatClampNeg = 4 := by decide
  have n2 : ((4 : Int32) == 0) = false := by decide
  rw [Op.multianewarray.make]
  simp only [wp_bind', n0, if_false, wp_pure', Jvm.W.theClass, hk, hkind, Option.some.injEq, exists_eq_left', n1, n2, Bool.false_eq_true]
  refine Jvm.W.newArray_of hk hkind (by omega) (show ¬ 4 * 4 > e.platform.maxHeapBytes by omega) (by omega) (by omega) rfl (fun acts' => ?_)
  rw [mn_o_0 cB u.heap.size, wp_bind', Std.Legacy.Range.forIn_eq_forIn_range']
  show wp (forIn (List.range' 0 4) PUnit.unit _) _ E e d acts' (mn_T u cB cI 0)
  refine mn_loop (u := u) (cB := cB) (cI := cI) ?_ ?_ 4 0 rfl d acts'
  rotate_left
  · exact hq
  intro j d acts Q hj hn
  simp only [wp_bind', wp_pure']
  have hz := mn_size u cB cI j
  have hu := mn_used u cB cI j
  refine mn_row (by rw [mn_vm]; exact hkI) hkindI hl (show ¬ 20 * 4 > e.platform.maxHeapBytes from hh) (by omega) (by omega) (fun acts' => ?_)
  refine ⟨mn_o cB u.heap.size j, mn_at u cB cI j, (fun h => by cases h), (by rw [mn_o_size]; exact hj), ?_, ?_⟩
  · show State.fitsSlot _ cB .none j _ = true
    have hv : (mn_T u cB cI j).vm.classes[cB]? = some kB := by
      rw [mn_vm]
      exact hk
    simp [State.fitsSlot, State.slotType?, hv, hkind]
    rfl
  · rw [hz, mn_o_put]
    exact hn _ _
end MNL
section MNW
variable {p : Program} {l : Launch} {e : Env} {R : Room} {s : State} {m : MethodId} {args : Array Value} {below : List Frame} {meth : Method} {c : Code} {T : State} {locs : List Loc} {cells slots : Nat}
/-- the instruction itself -/
theorem mn_law (X : Stand p l e R s m args below meth c T locs cells slots) (hexec : p.tables.exec = Jvm.exec) {own : String} {index : Nat} {cI cB : ClassId} (hown : s.vm.findClass own = some m.cls) (hcl0 : (Cond.classLink own index ("[" ++ (FieldType.array .int).toString)).before args s = true) (ha : aoA s) (harr : (Cond.arrayClass .int).before args s = true) (e1 : s.vm.findClass ("[" ++ FieldType.int.toString) = some cI) (e2 : s.vm.findClass ("[" ++ (FieldType.array .int).toString) = some cB) {g : JFrame} (hg : g.method = m) (hdg : decode c.code g.pc = .ok (.multianewarray index 2, 4)) {rest : List Value} (hstack : g.stack = .int 20 :: .int 4 :: rest) (hcells : cells + 5 ≤ R.cells) (hslots : slots + 84 ≤ R.slots) :
    ∃ vm₁ : Vm, Stand p l e R s m args below meth c (mn_T (T.setVm vm₁) cB cI 4) locs (cells + 5) (slots + 84) ∧ ∀ target, Steps p.tables e below ((mn_T (T.setVm vm₁) cB cI 4).setTop { g with pc := g.pc + 4, stack := .ref T.heap.size :: rest }) target → Steps p.tables e below (T.setTop g) target := by
  subst hg
  obtain ⟨c1, c2, kB, a1, -, a2, a3, a4⟩ := arrayOverA_spec ha
  obtain ⟨c3, kI, pI, b1, b2, b3⟩ := Cond.arrayClass_spec harr
  have q1 : c1 = cI := Option.some.inj (a1.symm.trans e1)
  have q2 : c2 = cB := Option.some.inj (a4.symm.trans e2)
  have q3 : c3 = cI := Option.some.inj (b1.symm.trans e1)
  subst q1 q2 q3
  have hpl : e.platform.magicAccessors = ({} : Platform).magicAccessors := by rw [X.admits.platform]
  obtain ⟨c4, d1, d2⟩ := Cond.classLink_spec hown hcl0 e.platform hpl
  have q4 : c4 = c2 := Option.some.inj (d1.symm.trans a4)
  subst q4
  obtain ⟨w1, w2, -⟩ := State.classEntry (e := e) X.warmed d2
  generalize T.vm.noted g.method.cls index (.cls c4) = vm₁ at w1 w2
  obtain ⟨kB1, y1, y2⟩ := w2.alike.2.2 _ _ a2
  obtain ⟨kI1, y3, y4⟩ := w2.alike.2.2 _ _ b2
  have y5 : kB1.kind = .array c3 (.array .int) := by
    rw [y2]
    exact a3
  have y6 : kI1.kind = .array pI .int := by
    rw [y4]
    exact b3
  have X1 := X.noted w2
  have X4 := mn_stand X1 c4 c3 4
  obtain ⟨r1, r2⟩ := X.roomAbove hcells hslots
  refine ⟨vm₁, X4, fun target ht => ?_⟩
  have hl : ¬ 20 > e.platform.arrayLengthLimit := by rw [Launch.admits_arrayLengthLimit X.admits]; decide
  have hh : ¬ 80 > e.platform.maxHeapBytes := by rw [Launch.admits_maxHeapBytes X.admits]; decide
  jvm_step X.here [hexec, hdg]
  simp only [Op.multianewarray.sem, wp_bind', Jvm.W.resolveClassAt_links (State.method?_setTop g X.here.top) w1]
  rw [Jvm.W.popN, if_neg (by decide)]
  refine ⟨g, State.topJava?_setTop' (s := T.setVm vm₁) g X.here.top, [.int 4, .int 20], rest, rfl, hstack, ?_⟩
  simp only [List.mapM_cons, List.mapM_nil, wp_bind', wp_pure']
  refine mn_make (u := ((T.setTop g).setVm vm₁).setTop { g with stack := rest }) (kB := kB1) (kI := kI1) (cI := c3) (pI := pI) y1 y5 y3 y6 hl hh r1 r2 (fun d' acts' => ?_)
  have eS : ((T.setTop g).setVm vm₁).setTop { g with stack := rest } = (T.setVm vm₁).setTop { g with stack := rest } := State.setTop_setTop (T.setVm vm₁) g _
  rw [eS, mn_top]
  simp only [wp_bind', Jvm.W.mark, Jvm.W.pushRef, State.topJava?_setTop' _ X4.here.top, Option.some.injEq, exists_eq_left', State.setTop_setTop, State.heap_setTop]
  intro acts
  simp [jvm, X4.here.top]
  exact ht
end MNW
