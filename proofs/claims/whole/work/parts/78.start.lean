/-! the start: the first memory, and the law from its entry -/
def s0row (k : Nat) : Rows := match k with
  | 14 => fun j => if j = 3 then 1 else 0
  | 20 => fun j => if j = 2 then -1 else 0
  | 37 => fun j => if j = 7 then -1 else 0
  | 41 => fun j => if j = 2 then -1 else 0
  | 43 => fun j => if j = 2 then -1 else 0
  | 45 => fun j => if j = 2 then -1 else 0
  | 47 => fun j => if j = 2 then -1 else 0
  | 74 => upd (upd (upd (upd (fun _ => (0 : Int32)) (nI 0).toNatClampNeg (-4)) (nI 1).toNatClampNeg (-4)) (nI 2).toNatClampNeg (-4)) (nI 3).toNatClampNeg (-4)
  | _ => fun _ => 0
def s0 : pw_Mem := s0row
theorem s0_74 : ∀ k, k < 4 → s0 74 k = -4 := by decide
theorem gl_0 (p : Nat) (hp : p < 8) : gl (fun _ => 0) (fun _ => 0) p = 0 := by
  refine b_ext (fun i hi => ?_)
  rw [b_0]
  cases h : bt (gl (fun _ => 0) (fun _ => 0) p) i with
  | false => rfl
  | true =>
    have := gl_bd (n := 0) (T := fun _ => 0) (S := fun _ => 0) (fun p r _ h => by rw [b_0] at h; cases h) hp h
    omega
theorem inv0 : Inv s0 := by
  refine ⟨0, 0, 0, 0, ?_, ?_, ?_, ?_, ?_, ?_, ?_, ⟨?_, ?_, ?_, ?_⟩, ?_⟩
  · exact ⟨by omega, rfl, rfl, fun i hi => absurd hi (Nat.not_lt_zero _), fun i hi => absurd hi (Nat.not_lt_zero _), fun i _ _ => rfl⟩
  · refine ⟨by omega, rfl, rfl, fun _ => (0, 0, 0), fun k hk => absurd hk (Nat.not_lt_zero _), fun k _ hk => absurd hk (Nat.not_lt_zero _), fun a b _ _ => ?_⟩
    have h0 : ∀ t : Nat, (bt 0 b = true ↔ ∃ k, k < 0 ∧ (0, 0, 0) = (a, b, t)) := fun t => ⟨fun h => absurd h (by rw [b_0]; decide), fun ⟨k, hk, _⟩ => absurd hk (Nat.not_lt_zero _)⟩
    exact ⟨h0 0, h0 1, h0 2, h0 3⟩
  · intro p hp
    refine ⟨rfl, rfl, fun r h => ?_, fun q h => ?_, ?_⟩
    · have h : bt 0 r = true := h
      rw [b_0] at h; cases h
    · have h : bt 0 q = true := h
      rw [b_0] at h; cases h
    · exact (gl_0 p hp).symm
  · exact ⟨by omega, rfl, rfl, fun i hi => absurd hi (Nat.not_lt_zero _)⟩
  · exact ⟨by omega, rfl, rfl, fun i hi => absurd hi (Nat.not_lt_zero _), fun i _ => rfl⟩
  · exact fun g _ => ⟨rfl, rfl⟩
  · exact ⟨0, by omega, rfl, rfl, fun i hi => absurd hi (Nat.not_lt_zero _), rfl, rfl, rfl, rfl, Or.inl ⟨rfl, rfl, rfl⟩⟩
  · exact ⟨Or.inl ⟨rfl, s0_74 0 (by decide)⟩, fun i _ => rfl⟩
  · exact ⟨Or.inl ⟨rfl, s0_74 1 (by decide)⟩, fun i _ => rfl⟩
  · exact ⟨Or.inl ⟨rfl, s0_74 2 (by decide)⟩, fun i _ => rfl⟩
  · exact ⟨Or.inl ⟨rfl, s0_74 3 (by decide)⟩, fun i _ => rfl⟩
  · exact I_gr.old rfl
theorem arrT {s : State} {cA comp : ClassId} {kA : Class} {ty : FieldType} (hk : s.vm.classes[cA]? = some kA) (hkind : kA.kind = .array comp ty) : ArrOfT s cA ty := fun n z => ⟨fun k h => by simp [arrV] at h, kA, hk, comp, hkind⟩
theorem st_nest : ∀ q ∈ pw_nest, pw_nw q ∈ lw_tbl := by decide +kernel
theorem st_aA : Cond.arrayOver (.array .int) ∈ lw_tbl := by decide +kernel
theorem st_aS : Cond.arrayOver (.object "StackDepths$Sheet") ∈ lw_tbl := by decide +kernel
theorem st_l7 : Cond.classLink RL 7 RX10 ∈ pw_ws := pw_in (by decide +kernel) (by decide +kernel)
theorem st_l10 : Cond.classLink RL 10 RX11 ∈ pw_ws := pw_in (by decide +kernel) (by decide +kernel)
theorem st_m9 : Cond.methodLink RL 9 yX10_init ∈ pw_ws := pw_in (by decide +kernel) (by decide +kernel)
theorem st_m12 : Cond.methodLink RL 12 yX11_init ∈ pw_ws := pw_in (by decide +kernel) (by decide +kernel)
theorem st_i10 : Cond.instanceMethod yX10_init ∈ pw_ws := pw_in (by decide +kernel) (by decide +kernel)
theorem st_i11 : Cond.instanceMethod yX11_init ∈ pw_ws := pw_in (by decide +kernel) (by decide +kernel)
theorem st_c10 : Cond.initialized RX10 ∈ pw_ws := pw_in (by decide +kernel) (by decide +kernel)
theorem st_c11 : Cond.initialized RX11 ∈ pw_ws := pw_in (by decide +kernel) (by decide +kernel)
theorem st_n0 : Cond.instantiable RX0 2 ∈ pw_ws := pw_in (by decide +kernel) (by decide +kernel)
theorem st_n1 : Cond.instantiable RX1 4 ∈ pw_ws := pw_in (by decide +kernel) (by decide +kernel)
theorem st_n2 : Cond.instantiable RX2 11 ∈ pw_ws := pw_in (by decide +kernel) (by decide +kernel)
theorem st_n3 : Cond.instantiable RX3 4 ∈ pw_ws := pw_in (by decide +kernel) (by decide +kernel)
theorem st_n4 : Cond.instantiable RX4 3 ∈ pw_ws := pw_in (by decide +kernel) (by decide +kernel)
theorem st_n5 : Cond.instantiable RX5 3 ∈ pw_ws := pw_in (by decide +kernel) (by decide +kernel)
theorem st_n6 : Cond.instantiable RX6 6 ∈ pw_ws := pw_in (by decide +kernel) (by decide +kernel)
theorem st_n7 : Cond.instantiable RX7 3 ∈ pw_ws := pw_in (by decide +kernel) (by decide +kernel)
theorem st_n8 : Cond.instantiable RX8 5 ∈ pw_ws := pw_in (by decide +kernel) (by decide +kernel)
theorem st_n9 : Cond.instantiable RX9 8 ∈ pw_ws := pw_in (by decide +kernel) (by decide +kernel)
theorem st_n10 : Cond.instantiable RX10 10 ∈ pw_ws := pw_in (by decide +kernel) (by decide +kernel)
theorem st_n11 : Cond.instantiable RX11 39 ∈ pw_ws := pw_in (by decide +kernel) (by decide +kernel)
/-- what the tables say of the classes, and of the three arrays -/
theorem st_K {b : Nat} {s : State} (hts : ∀ w ∈ lw_tbl, w.before #[Value.ref b] s = true) : ∃ (G : va_G) (cI cB cS : ClassId), va_K G pw_cl [(cI, .int), (cB, .array .int), (cS, .object "StackDepths$Sheet")] s := by
  have hws : ∀ w ∈ pw_ws, w.before #[Value.ref b] s = true := fun w hw => hts w (List.mem_filter.mp hw).1
  obtain ⟨c0, i0, k0⟩ := u_known (C := RX0) (T := TX0) (N := 2) (n := 2) hws pw_uX0 (hws _ st_n0)
  obtain ⟨c1, i1, k1⟩ := u_known (C := RX1) (T := TX1) (N := 4) (n := 4) hws pw_uX1 (hws _ st_n1)
  obtain ⟨c2, i2, k2⟩ := u_known (C := RX2) (T := TX2) (N := 11) (n := 11) hws pw_uX2 (hws _ st_n2)
  obtain ⟨c3, i3, k3⟩ := u_known (C := RX3) (T := TX3) (N := 4) (n := 4) hws pw_uX3 (hws _ st_n3)
  obtain ⟨c4, i4, k4⟩ := u_known (C := RX4) (T := TX4) (N := 3) (n := 3) hws pw_uX4 (hws _ st_n4)
  obtain ⟨c5, i5, k5⟩ := u_known (C := RX5) (T := TX5) (N := 3) (n := 3) hws pw_uX5 (hws _ st_n5)
  obtain ⟨c6, i6, k6⟩ := u_known (C := RX6) (T := TX6) (N := 6) (n := 6) hws pw_uX6 (hws _ st_n6)
  obtain ⟨c7, i7, k7⟩ := u_known (C := RX7) (T := TX7) (N := 3) (n := 3) hws pw_uX7 (hws _ st_n7)
  obtain ⟨c8, i8, k8⟩ := u_known (C := RX8) (T := TX8) (N := 5) (n := 5) hws pw_uX8 (hws _ st_n8)
  obtain ⟨c9, i9, k9⟩ := u_known (C := RX9) (T := TX9) (N := 8) (n := 8) hws pw_uX9 (hws _ st_n9)
  obtain ⟨c10, i10, k10⟩ := u_known (C := RX10) (T := TX10) (N := 10) (n := 10) hws pw_uX10 (hws _ st_n10)
  obtain ⟨c11, i11, k11⟩ := u_known (C := RX11) (T := TX11) (N := 39) (n := 39) hws pw_uX11 (hws _ st_n11)
  obtain ⟨cI, kI, pI, f1, f2, f3⟩ := Cond.arrayClass_spec (hws _ w_aI)
  obtain ⟨pB, cB, kB, g1, _, g2, g3, g4⟩ := arrayOverA_spec (hts _ st_aA)
  obtain ⟨pS, cS, kS, h1, _, h2, h3, h4⟩ := Cond.arrayOver_spec (hts _ st_aS)
  refine ⟨(fun k => [c0, c1, c2, c3, c4, c5, c6, c7, c8, c9, c10, c11].getD k c0, fun k => [i0, i1, i2, i3, i4, i5, i6, i7, i8, i9, i10, i11].getD k i0), cI, cB, cS, fun k q hq => ?_, fun k q hk => ?_⟩
  · match k, hq with
    | 0, hq => cases hq; exact k0
    | 1, hq => cases hq; exact k1
    | 2, hq => cases hq; exact k2
    | 3, hq => cases hq; exact k3
    | 4, hq => cases hq; exact k4
    | 5, hq => cases hq; exact k5
    | 6, hq => cases hq; exact k6
    | 7, hq => cases hq; exact k7
    | 8, hq => cases hq; exact k8
    | 9, hq => cases hq; exact k9
    | 10, hq => cases hq; exact k10
    | 11, hq => cases hq; exact k11
    | k + 12, hq => cases hq
  · match k, hk with
    | 0, hk => cases hk; exact ⟨arrT f2 f3, f1⟩
    | 1, hk => cases hk; exact ⟨arrT g2 g3, g4⟩
    | 2, hk => cases hk; exact ⟨arrT h2 h3, kS, pS, h2, h3, h1, h4⟩
    | k + 3, hk => cases hk
/-- the world's list, cell by cell -/
def mf (L : pw_Lay) (σ : pw_Mem) (k : Nat) : Nat → List (Option Nat) → List Value
  | _, [] => []
  | j, f :: r => pw_fv L σ k j f :: mf L σ k (j + 1) r
def mE (L : pw_Lay) (σ : pw_Mem) (k : Nat) : pw_Sh → va_E
  | .inl (ci, fs) => .inr (ci, mf L σ k 0 fs)
  | .inr (.inl n) => .inl (pw_cI L, n, .inl (σ k))
  | .inr (.inr (0, rs)) => .inl (pw_cB L, rs.length, .inr (.inr (.inr (.inr (fun i => rs[i]?.map (pw_ad L))))))
  | .inr (.inr (_, rs)) => .inl (pw_cS L, rs.length, .inr (.inr (.inr (.inr (fun i => rs[i]?.map (pw_ad L))))))
def mw (L : pw_Lay) (σ : pw_Mem) : Nat → List pw_Sh → va_W
  | _, [] => []
  | k, sh :: r => (pw_ad L k, mE L σ k sh) :: mw L σ (k + 1) r
theorem mf_eq (L : pw_Lay) (σ : pw_Mem) (k : Nat) : ∀ (fs : List (Option Nat)) (j : Nat), fs.mapIdx (fun i f => pw_fv L σ k (i + j) f) = mf L σ k j fs := by
  intro fs
  induction fs with
  | nil => intro j; rfl
  | cons f r ih =>
    intro j
    rw [List.mapIdx_cons]
    show pw_fv L σ k (0 + j) f :: r.mapIdx (fun i f => pw_fv L σ k (i + 1 + j) f) = pw_fv L σ k j f :: mf L σ k (j + 1) r
    rw [Nat.zero_add, ← ih (j + 1)]
    congr 2
    funext i f
    rw [show i + 1 + j = i + (j + 1) by omega]
theorem mE_eq (L : pw_Lay) (σ : pw_Mem) (k : Nat) (sh : pw_Sh) : pw_ent L σ k sh = mE L σ k sh := by
  match sh with
  | .inl (ci, fs) =>
    show Sum.inr (ci, pw_fld L σ k fs) = Sum.inr (ci, mf L σ k 0 fs)
    rw [← mf_eq L σ k fs 0]
    rfl
  | .inr (.inl n) => rfl
  | .inr (.inr (0, rs)) => rfl
  | .inr (.inr (n + 1, rs)) => rfl
theorem mw_eq0 (L : pw_Lay) (σ : pw_Mem) : ∀ (l : List pw_Sh) (k : Nat), l.mapIdx (fun i sh => (pw_ad L (i + k), pw_ent L σ (i + k) sh)) = mw L σ k l := by
  intro l
  induction l with
  | nil => intro k; rfl
  | cons sh r ih =>
    intro k
    rw [List.mapIdx_cons]
    show (pw_ad L (0 + k), pw_ent L σ (0 + k) sh) :: r.mapIdx (fun i sh => (pw_ad L (i + 1 + k), pw_ent L σ (i + 1 + k) sh)) = (pw_ad L k, mE L σ k sh) :: mw L σ (k + 1) r
    rw [Nat.zero_add, mE_eq, ← ih (k + 1)]
    congr 2
    funext i sh
    rw [show i + 1 + k = i + (k + 1) by omega]
theorem mw_eq (L : pw_Lay) (σ : pw_Mem) : pw_wl L σ = mw L σ 0 pw_shp := mw_eq0 L σ pw_shp 0
/-- the addresses of all cells -/
def adA (q q' : Nat) (a1 a2 : Nat → Nat) (k : Nat) : Nat := if k < 49 then (if k = 0 then q else a1 k) else if k = 49 then q' else a2 (k - 50)
set_option maxRecDepth 100000 in
set_option maxHeartbeats 4000000 in
theorem st_wl (l : Launch) (G : va_G) (cI cB cS : ClassId) (q q' : Nat) (a1 a2 : Nat → Nat) : W_X10 cI cB cS q a1 ++ W_X11 cI q' a2 = pw_wl (l, G.1, G.2, adA q q' a1 a2, cI, cB, cS) s0 := by
  have e9 : (fun i => [some (a1 10), some (a1 11), some (a1 12), some (a1 13)].getD i none) = (fun i => ([10, 11, 12, 13] : List Nat)[i]?.map (adA q q' a1 a2)) := by
    funext i
    match i with
    | 0 => rfl
    | 1 => rfl
    | 2 => rfl
    | 3 => rfl
    | i + 4 => rfl
  have e40 : (va_up (va_up (va_up (va_up (fun _ => none) (0 : Int32).toNatClampNeg (some (a1 41))) (1 : Int32).toNatClampNeg (some (a1 43))) (2 : Int32).toNatClampNeg (some (a1 45))) (3 : Int32).toNatClampNeg (some (a1 47))) = (fun i => ([41, 43, 45, 47] : List Nat)[i]?.map (adA q q' a1 a2)) := by
    have t0 : (0 : Int32).toNatClampNeg = 0 := by decide
    have t1 : (1 : Int32).toNatClampNeg = 1 := by decide
    have t2 : (2 : Int32).toNatClampNeg = 2 := by decide
    have t3 : (3 : Int32).toNatClampNeg = 3 := by decide
    rw [t0, t1, t2, t3]
    funext i
    match i with
    | 0 => rfl
    | 1 => rfl
    | 2 => rfl
    | 3 => rfl
    | i + 4 =>
      unfold va_up
      rw [if_neg (by omega), if_neg (by omega), if_neg (by omega), if_neg (by omega)]
      rfl
  rw [mw_eq]
  unfold W_X10
  rw [e9, e40]
  rfl
set_option maxRecDepth 100000 in
set_option maxHeartbeats 4000000 in
theorem whole_start {p : Program} {e : Env} {s : State} {m : MethodId} {below : List Frame} {meth : Method} {c : Code} (l : Launch) {b L : Nat} {xs : Nat → Int32} (hL : L ≤ 2560) (C0 : lw_At p s m meth c b L xs) : W p l e room_1 s m #[Value.ref b] below meth c s.heap [] 0 0 (lw_Z below #[Value.ref b] s) (entryFrame m ([Value.ref b] : List Value).toArray 4) := by
  obtain ⟨hx, hb, hr, hml, hown, hts, hX, hbl, hlocks, hgv⟩ := id C0
  have hws : ∀ w ∈ pw_ws, w.before #[Value.ref b] s = true := fun w hw => hts w (List.mem_filter.mp hw).1
  have hA : ∀ q : Nat, s.heap.size ≤ q → (fun q : Nat => s.heap.size ≤ q) q := fun _ h => h
  obtain ⟨G, cI, cB, cS, hK⟩ := st_K hts
  have hN : pw_N s := fun q hq => va_Nw.of rfl (hts _ (st_nest q hq))
  have ha : aoA s := hts _ st_aA
  have hao : va_AO "StackDepths$Sheet" s := va_AO.of (hts _ st_aS)
  have hS : va_S (fun q : Nat => s.heap.size ≤ q) s.heap s.heap [] := va_S.rf
  have hP : va_P G pw_cl [] s.heap := fun k q h => by simp at h
  have hD : va_D (fun q : Nat => s.heap.size ≤ q) [] := ⟨fun i j p q h => by simp at h, fun k q h => by simp at h⟩
  have hl := lv_entry ([.ref b]) (n := 4) (Nat.le_of_ble_eq_true rfl)
  rw [lg_entry_eq]
  generalize (lg_sl ([.ref b]) ++ List.replicate (4 - (lg_sl ([.ref b])).length) Slot.unset).toArray = ls at hl ⊢
  have hl : lv_has ls 4 [(0, .ref b)] := hl
  have hpre : ∀ {H : Heap} {ws : va_W} {q : Nat} {e0 : va_E} {A : Nat → Prop}, va_P G pw_cl (ws ++ [(q, e0)]) H → va_D A (ws ++ [(q, e0)]) → PreS s H (va_Pc [.ref q] (cPre G [(cI, .int), (cB, .array .int), (cS, .object "StackDepths$Sheet")] q e0 H.size)) [.ref q] := fun {H ws q e0 A} hP hD =>
    ⟨cPre.blind, fun U hU hW => ⟨rfl, by rw [hU], by rw [hU]; exact hP.sub [ws.length] (at_fm ws (q, e0)), va_K.moved hW.alike hK, (hD.sub (ws' := [(q, e0)]) [ws.length] rfl (at_end ws (q, e0))).weaken (fun _ _ _ _ => trivial), pw_N.warm hW hN, aoA.moved hW.alike ha, va_AO.moved hW.alike hao⟩⟩
  refine va_new (ci := 10) (fs := [.null, .null, .null, .null, .null, .null, .null, .null, .null, .null]) (C := RX10) (T := TX10) (N := 10) hx hb hws pw_uX10 tyX10 tyX10_ok hown (hws _ st_l7) (hws _ st_n10) (hws _ st_c10) hK hP hD hS hA rfl (fun j hj => match j, hj with | 0, _ => rfl | 1, _ => rfl | 2, _ => rfl | 3, _ => rfl | 4, _ => rfl | 5, _ => rfl | 6, _ => rfl | 7, _ => rfl | 8, _ => rfl | 9, _ => rfl | j + 10, h => absurd h (by omega)) (Nat.le_of_ble_eq_true rfl) (Nat.le_of_ble_eq_true rfl) dL_law_0 (fun q H hP hD hS => ?_)
  refine lv_dup hx hb dL_law_3 rfl ?_
  refine w_after (Wk := W_X10 cI cB cS q) hP hD hS hA (va_runI (R := room_1) (b := q) (As := []) (rest := [.ref q]) (g := F0 m 4 ls [.ref q, .ref q]) ⟨hx, hb, hml, hown, hws⟩ (c_X10_init q H.size) ⟨callB_of 0 hws (pw_goods mb_X10_init) rfl rfl rfl (hws _ mb_X10_init.1) (hws _ st_m9) mb_X10_init.2.2.1 ⟨Nat.le_of_ble_eq_true rfl, Nat.le_of_ble_eq_true rfl⟩, rfl, hws _ st_i10⟩ (hpre hP hD) rfl rfl hl.1 rfl (lv_room (Nat.le_of_ble_eq_true rfl)) dL_law_4 ⟨Nat.le_of_ble_eq_true rfl, Nat.le_of_ble_eq_true rfl⟩) (fun a1 H locs hP hD hS => ?_)
  have hP : va_P G pw_cl (W_X10 cI cB cS q a1) H := hP
  have hD : va_D (fun q : Nat => s.heap.size ≤ q) (W_X10 cI cB cS q a1) := hD
  refine lv_astore_n (lv' := [(1, .ref q), (0, .ref b)]) hx hb dL_law_7 rfl hl (by decide) rfl (fun ls hl => ?_)
  refine va_new (ci := 11) (fs := [.int 0, .null, .null, .int 0, .null, .null, .null, .null, .null, .null, .null, .null, .null, .null, .null, .int 0, .null, .null, .null, .int 0, .null, .null, .null, .null, .null, .null, .int 0, .int 0, .int 0, .null, .null, .int 0, .int 0, .int 0, .int 0, .int 0, .null, .null, .null]) (C := RX11) (T := TX11) (N := 39) hx hb hws pw_uX11 tyX11 tyX11_ok hown (hws _ st_l10) (hws _ st_n11) (hws _ st_c11) hK hP hD hS hA rfl (fun j hj => match j, hj with | 0, _ => rfl | 1, _ => rfl | 2, _ => rfl | 3, _ => rfl | 4, _ => rfl | 5, _ => rfl | 6, _ => rfl | 7, _ => rfl | 8, _ => rfl | 9, _ => rfl | 10, _ => rfl | 11, _ => rfl | 12, _ => rfl | 13, _ => rfl | 14, _ => rfl | 15, _ => rfl | 16, _ => rfl | 17, _ => rfl | 18, _ => rfl | 19, _ => rfl | 20, _ => rfl | 21, _ => rfl | 22, _ => rfl | 23, _ => rfl | 24, _ => rfl | 25, _ => rfl | 26, _ => rfl | 27, _ => rfl | 28, _ => rfl | 29, _ => rfl | 30, _ => rfl | 31, _ => rfl | 32, _ => rfl | 33, _ => rfl | 34, _ => rfl | 35, _ => rfl | 36, _ => rfl | 37, _ => rfl | 38, _ => rfl | j + 39, h => absurd h (by omega)) (Nat.le_of_ble_eq_true rfl) (Nat.le_of_ble_eq_true rfl) dL_law_8 (fun q' H hP hD hS => ?_)
  refine lv_dup hx hb dL_law_11 rfl ?_
  refine w_after (Wk := W_X11 cI q') hP hD hS hA (va_runI (R := room_1) (b := q') (As := []) (rest := [.ref q']) (g := F0 m 12 ls [.ref q', .ref q']) ⟨hx, hb, hml, hown, hws⟩ (c_X11_init q' H.size) ⟨callB_of 0 hws (pw_goods mb_X11_init) rfl rfl rfl (hws _ mb_X11_init.1) (hws _ st_m12) mb_X11_init.2.2.1 ⟨Nat.le_of_ble_eq_true rfl, Nat.le_of_ble_eq_true rfl⟩, rfl, hws _ st_i11⟩ (hpre hP hD) rfl rfl hl.1 rfl (lv_room (Nat.le_of_ble_eq_true rfl)) dL_law_12 ⟨Nat.le_of_ble_eq_true rfl, Nat.le_of_ble_eq_true rfl⟩) (fun a2 H locs hP hD hS => ?_)
  refine lv_astore_n (lv' := [(2, .ref q'), (1, .ref q), (0, .ref b)]) hx hb dL_law_15 rfl hl (by decide) rfl (fun ls hl => ?_)
  refine lv_iconst (v := 0) hx hb dL_law_16 (by decide) ?_
  refine lv_istore_n (lv' := [(3, .int 0), (2, .ref q'), (1, .ref q), (0, .ref b)]) hx hb dL_law_17 rfl hl (by decide) rfl (fun ls hl => ?_)
  rw [st_wl l G cI cB cS q q' a1 a2] at hP hD
  generalize hLe : ((l, G.1, G.2, adA q q' a1 a2, cI, cB, cS) : pw_Lay) = Ly at hP hD
  have hG : pw_G Ly = G := by rw [← hLe]
  have hl1 : pw_l Ly = l := by rw [← hLe]
  have ht1 : pw_tys Ly = [(cI, .int), (cB, .array .int), (cS, .object "StackDepths$Sheet")] := by rw [← hLe]
  have h0 : pw_ad Ly 0 = q := by rw [← hLe]; rfl
  have h49 : pw_ad Ly 49 = q' := by rw [← hLe]; rfl
  have hin : ∀ a, pw_A Ly a → s.heap.size ≤ a := by
    rintro a ⟨k, hk, rfl⟩
    exact hD.2 k _ (pw_wl_at (List.getElem?_eq_getElem hk))
  have hD1 : va_D (pw_A Ly) (pw_wl Ly s0) := ⟨hD.1, fun k x hx => by
    obtain ⟨sh, g1, rfl⟩ := pw_wl_of hx
    exact ⟨k, (List.getElem?_eq_some_iff.mp g1).1, rfl⟩⟩
  have hS1 : va_S (pw_A Ly) s.heap H [] := ⟨hS.1, fun a g1 _ => hS.2.1 a g1 (Nat.not_le.mpr g1), fun _ h => by cases h⟩
  refine va_forget (fun q hq => hS.2.2 q hq) ?_
  have hE : lE Ly p s m meth c b L xs := ⟨C0, by rw [hG, ht1]; exact hK, hN, hin⟩
  have fin := law_loop (e := e) (below := below) (L := Ly) (cs := 0 + 1 + 48 + 1 + 27) (sl := 0 + 10 + 728 + 39 + 732) hE hL (Nat.le_of_ble_eq_true rfl) (Nat.le_of_ble_eq_true rfl) (L + 1) 0 s0 (Nat.zero_le _) (by omega) inv0 H [] ls (by rw [hG]; exact hP) hD1 hS1 (by rw [h0, h49]; exact lv_sub hl [3, 2, 1, 0] rfl)
  rw [hl1] at fin
  exact fin
