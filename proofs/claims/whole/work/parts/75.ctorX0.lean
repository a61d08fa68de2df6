/-! the constructor of the class's calls: an array of arrays -/
section MNA
variable {p : Program} {l : Launch} {e : Env} {R : Room} {s : State} {m : MethodId} {args : Array Value} {below : List Frame} {meth : Method} {c : Code} {H H0 : Heap} {locs : List Loc} {cells slots : Nat} {Q : State → Prop}
variable {G : va_G} {tys : List (ClassId × FieldType)} {M : pw_Md} {A : Nat → Prop} {ls : Array Slot} {pc : Nat} {ws : va_W} {rest : List Value}
/-- an array of n references -/
def rI (cB : ClassId) (n : Nat) (f : Nat → Option Nat) : va_E := Sum.inl (cB, n, Sum.inr (Sum.inr (Sum.inr (Sum.inr f))))
theorem w_mna {idx : Nat} {cI cB : ClassId} (hE : cE G tys M p s m args meth c) (ha : aoA s) (hty : tys[0]? = some (cI, .int)) (hty1 : tys[1]? = some (cB, .array .int)) (hcl : Cond.classLink M.2.1 idx ("[" ++ (FieldType.array .int).toString) ∈ pw_ws) (hA : ∀ q, H0.size ≤ q → A q) (hcells : cells + 5 ≤ R.cells) (hslots : slots + 84 ≤ R.slots) (hP : va_P G pw_cl ws H) (hD : va_D A ws) (hS : va_S A H0 H locs) (hd : decode M.2.2.1 pc = .ok (.multianewarray idx 2, 4))
    (kk : ∀ (H1 : Heap), va_P G pw_cl (ws ++ [(H.size, rI cB 4 (fun i => if i < 4 then some (H.size + (1 + i)) else none)), (H.size + 1, zI cI 20), (H.size + 2, zI cI 20), (H.size + 3, zI cI 20), (H.size + 4, zI cI 20)]) H1 → va_D A (ws ++ [(H.size, rI cB 4 (fun i => if i < 4 then some (H.size + (1 + i)) else none)), (H.size + 1, zI cI 20), (H.size + 2, zI cI 20), (H.size + 3, zI cI 20), (H.size + 4, zI cI 20)]) → va_S A H0 H1 locs → W p l e R s m args below meth c H1 locs (cells + 5) (slots + 84) Q (F0 m (pc + 4) ls (.ref H.size :: rest))) : W p l e R s m args below meth c H locs cells slots Q (F0 m pc ls (.int 20 :: .int 4 :: rest)) := by
  have hts := hE.2.2.2.2.1
  have hK := hE.2.2.2.2.2.2.1
  have e1 : s.vm.findClass ("[" ++ FieldType.int.toString) = some cI := (hK.2 0 _ hty).2
  have e2 : s.vm.findClass ("[" ++ (FieldType.array .int).toString) = some cB := (hK.2 1 _ hty1).2
  have hnew : ∀ (k : Nat) (q : Nat × va_E), ws[k]? = some q → q.1 < H.size := fun k q hq => (hP k q hq).lt
  intro T hT X
  have hb := hE.2.1
  obtain ⟨vm₁, X', st⟩ := mn_law X (g := F0 m pc ls (.int 20 :: .int 4 :: rest)) (rest := rest) hE.1 hE.2.2.2.2.2.1 (hts _ hcl) ha (hts _ w_aI) e1 e2 rfl (by rw [hb]; exact hd) rfl hcells hslots
  have hH : (T.setVm vm₁).heap = H := hT
  have hh := mn_heap (T.setVm vm₁) cB cI 4
  rw [hH] at hh
  generalize hF : mn_T (T.setVm vm₁) cB cI 4 = F at X' st hh
  have z1 : F.heap.size = H.size + 5 := by
    rw [hh, Array.size_append]
    rfl
  have inner : ∀ j, j < 4 → F.heap[H.size + 1 + j]? = some (vp_cell cI (20, Sum.inl (fun _ => (0 : Int32)))) := fun j hj => by
    rw [hh, Array.getElem?_append_right (by omega), show H.size + 1 + j - H.size = j + 1 by omega]
    match j, hj with
    | 0, _ => rfl
    | 1, _ => rfl
    | 2, _ => rfl
    | 3, _ => rfl
  have outer : F.heap[H.size]? = some (vp_cell cB (4, Sum.inr (Sum.inr (Sum.inr (Sum.inr (fun i => if i < 4 then some (H.size + (1 + i)) else none)))))) := by
    rw [hh, Array.getElem?_append_right (Nat.le_refl _), Nat.sub_self]
    rfl
  have old : ∀ a, a < H.size → F.heap[a]? = H[a]? := fun a h => by
    rw [hh, Array.getElem?_append_left h]
  have hP1 : va_P G pw_cl (ws ++ [(H.size, rI cB 4 (fun i => if i < 4 then some (H.size + (1 + i)) else none)), (H.size + 1, zI cI 20), (H.size + 2, zI cI 20), (H.size + 3, zI cI 20), (H.size + 4, zI cI 20)]) F.heap := by
    intro k q hq
    by_cases hk : k < ws.length
    · rw [List.getElem?_append_left hk] at hq
      exact (hP k q hq).kept (old _ (hnew k q hq))
    · rw [List.getElem?_append_right (by omega)] at hq
      generalize k - ws.length = j at hq
      match j, hq with
      | 0, hq => cases hq; exact outer
      | 1, hq => cases hq; exact inner 0 (by decide)
      | 2, hq => cases hq; exact inner 1 (by decide)
      | 3, hq => cases hq; exact inner 2 (by decide)
      | 4, hq => cases hq; exact inner 3 (by decide)
      | j + 5, hq => cases hq
  have hsz := hS.1
  have hD1 : va_D A (ws ++ [(H.size, rI cB 4 (fun i => if i < 4 then some (H.size + (1 + i)) else none)), (H.size + 1, zI cI 20), (H.size + 2, zI cI 20), (H.size + 3, zI cI 20), (H.size + 4, zI cI 20)]) := by
    have ad : ∀ (k : Nat) (q : Nat × va_E), (ws ++ [(H.size, rI cB 4 (fun i => if i < 4 then some (H.size + (1 + i)) else none)), (H.size + 1, zI cI 20), (H.size + 2, zI cI 20), (H.size + 3, zI cI 20), (H.size + 4, zI cI 20)])[k]? = some q → (k < ws.length ∧ ws[k]? = some q) ∨ (ws.length ≤ k ∧ q.1 = H.size + (k - ws.length)) := by
      intro k q hq
      by_cases hk : k < ws.length
      · rw [List.getElem?_append_left hk] at hq
        exact Or.inl ⟨hk, hq⟩
      · rw [List.getElem?_append_right (by omega)] at hq
        refine Or.inr ⟨by omega, ?_⟩
        generalize k - ws.length = j at hq
        match j, hq with
        | 0, hq => cases hq; rfl
        | 1, hq => cases hq; rfl
        | 2, hq => cases hq; rfl
        | 3, hq => cases hq; rfl
        | 4, hq => cases hq; rfl
        | j + 5, hq => cases hq
    refine ⟨fun i j x y hi hj hxy => ?_, fun k q hq => ?_⟩
    · rcases ad i x hi with ⟨h1, h2⟩ | ⟨h1, h2⟩
      · rcases ad j y hj with ⟨h3, h4⟩ | ⟨h3, h4⟩
        · exact hD.1 i j x y h2 h4 hxy
        · have := hnew i x h2; omega
      · rcases ad j y hj with ⟨h3, h4⟩ | ⟨h3, h4⟩
        · have := hnew j y h4; omega
        · omega
    · rcases ad k q hq with ⟨h1, h2⟩ | ⟨h1, h2⟩
      · exact hD.2 k q h2
      · exact hA _ (by omega)
  have hS1 : va_S A H0 F.heap locs := ⟨by rw [z1]; omega, fun q h1 h2 => by rw [old q (by omega)]; exact hS.2.1 q h1 h2, hS.2.2⟩
  obtain ⟨t, a1, b1⟩ := kk F.heap hP1 hD1 hS1 F rfl X'
  refine ⟨t, st t ?_, b1⟩
  rw [hT]
  exact a1
end MNA
def W_X0 (cI cB : ClassId) (h0 : Nat) (ad : Nat → Nat) : va_W := [(h0, .inr (0, [.ref (ad 0), .int 0])), (ad 0, rI cB 4 (fun i => [some (ad 1), some (ad 2), some (ad 3), some (ad 4)].getD i none)), (ad 1, zI cI 20), (ad 2, zI cI 20), (ad 3, zI cI 20), (ad 4, zI cI 20)]
theorem lo_X0 : Cond.methodLink RX0 3 Lib.objectInit ∈ pw_ws := pw_in (by decide +kernel) (by decide +kernel)
theorem lc_X0 : Cond.classLink RX0 9 ("[" ++ (FieldType.array .int).toString) ∈ pw_ws := pw_in (by decide +kernel) (by decide +kernel)
theorem ff_X0_11 : pw_FF RX0 11 0 0 (.array (.array .int)) := ⟨RX0, TX0, 2, tyX0, rfl, by decide, pw_in (by decide +kernel) (by decide +kernel), pw_uX0, tyX0_ok, nmX0, rfl, rfl, by decide +kernel⟩
set_option maxHeartbeats 4000000 in
set_option maxRecDepth 100000 in
theorem c_X0_init {G : va_G} {cI cB cS : ClassId} {l : Launch} (h0 : Nat) : cMet G [(cI, .int), (cB, .array .int), (cS, .object "StackDepths$Sheet")] l m_X0_init [] h0 (.inr (0, [.null, .int 0])) (W_X0 cI cB h0) { frames := 1, cells := 5, slots := 84, locals := 12 } := by
  refine ctor (lv := []) rfl rfl (by decide +kernel) (Nat.le_of_ble_eq_true rfl) rfl dX0_init_0 dX0_init_1 lo_X0 (Nat.le_refl _) (Nat.le_refl _) ?_
  intro p e s m below meth c ls hE ha hao hA hl hP hD hS
  have hx := hE.1
  have hb := hE.2.1
  refine lv_aload_n hx hb dX0_init_4 rfl (lv_at hl 0 rfl) ?_
  refine lv_iconst (v := 4) hx hb dX0_init_5 (by decide) ?_
  refine lv_bipush (v := 20) hx hb dX0_init_6 (by decide) ?_
  refine w_mna hE ha rfl rfl lc_X0 hA (Nat.le_of_ble_eq_true rfl) (Nat.le_of_ble_eq_true rfl) hP hD hS dX0_init_8 (fun H hP hD hS => ?_)
  have e4 : (fun i => if i < 4 then some (s.heap.size + (1 + i)) else none) = (fun i => [some (s.heap.size + 1), some (s.heap.size + 2), some (s.heap.size + 3), some (s.heap.size + 4)].getD i none) := by
    funext i
    match i with
    | 0 => rfl
    | 1 => rfl
    | 2 => rfl
    | 3 => rfl
    | i + 4 => rw [if_neg (by omega)]; rfl
  rw [e4] at hP hD
  refine w_putF hE ff_X0_11 rfl rfl (Nat.le_of_ble_eq_true rfl) hP hD hS dX0_init_12 (fun H locs hP hD hS => ?_)
  exact W.vret hx hb hE.2.2.1 (fun t ht _ => ⟨⟨fun k => s.heap.size + k, rfl, trivial, by rw [ht]; exact hP, hD⟩, hS.F ht⟩) hS.2.2 dX0_init_15 hE.2.2.2.2.2.2.2.2.1
