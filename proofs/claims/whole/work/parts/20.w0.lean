/-! X10_within -/
def R_X10_within (a1 : Int32) (a2 : Int32) (a3 : Int32) (σ : pw_Mem) (K : Int32 → pw_Mem → Prop) : Prop := ((a1 < a2 → K 0 σ) ∧ (¬ a1 < a2 → ((a3 < a1 → K 0 σ) ∧ (¬ a3 < a1 → K 1 σ))))
set_option maxHeartbeats 4000000 in
theorem c_X10_within {L : pw_Lay} {d : Nat} {a1 : Int32} {a2 : Int32} {a3 : Int32} {σ : pw_Mem} {K : Int32 → pw_Mem → Prop} (h : R_X10_within a1 a2 a3 σ K) : CT L (d + 0) m_X10_within [.int a1, .int a2, .int a3] σ (ki K) := by
  refine pw_enter (by decide) rfl (Nat.le_of_ble_eq_true rfl) (ls := [some (.int a1), some (.int a2), some (.int a3)]) rfl ?_
  unfold R_X10_within at h
  refine pw_iload_n (i := 0) dX10_within_0 rfl rfl ?_
  refine pw_iload_n (i := 1) dX10_within_1 rfl rfl ?_
  refine pw_icmp_lt (tgt := 14) dX10_within_2 rfl (fun q => ?_) (fun q => ?_)
  · have h := h.1 q
    refine pw_iconst (v := 0) dX10_within_14 kc_0 ?_
    exact pw_ret dX10_within_15 rfl rfl ⟨_, rfl, h⟩
  · have h := h.2 q
    refine pw_iload_n (i := 0) dX10_within_5 rfl rfl ?_
    refine pw_iload_n (i := 2) dX10_within_6 rfl rfl ?_
    refine pw_icmp_gt (tgt := 14) dX10_within_7 rfl (fun q => ?_) (fun q => ?_)
    · have h := h.1 q
      refine pw_iconst (v := 0) dX10_within_14 kc_0 ?_
      exact pw_ret dX10_within_15 rfl rfl ⟨_, rfl, h⟩
    · have h := h.2 q
      refine pw_iconst (v := 1) dX10_within_10 kc_1 ?_
      refine pw_goto (tgt := 15) dX10_within_11 rfl ?_
      exact pw_ret dX10_within_15 rfl rfl ⟨_, rfl, h⟩
/-! X2_outdate -/
def R_X2_outdate  (σ : pw_Mem) (K : pw_Mem → Prop) : Prop := ∀ τ1, τ1 = pw_up σ 14 3 1 → K τ1
set_option maxHeartbeats 4000000 in
theorem c_X2_outdate {L : pw_Lay} {d : Nat}  {σ : pw_Mem} {K : pw_Mem → Prop} (h : R_X2_outdate  σ K) : CT L (d + 0) m_X2_outdate [.ref 14] σ (kv K) := by
  refine pw_enter (by decide) rfl (Nat.le_of_ble_eq_true rfl) (ls := [some (.ref 14)]) rfl ?_
  unfold R_X2_outdate at h
  refine pw_aload_n (i := 0) dX2_outdate_0 rfl rfl ?_
  refine pw_iconst (v := 1) dX2_outdate_1 kc_1 ?_
  refine pw_put dX2_outdate_2 fp_X2_9 rfl rfl rfl rfl ?_
  generalize hτ1 : pw_up σ 14 3 1 = τ1
  have h := h τ1 hτ1.symm
  exact pw_vret dX2_outdate_5 rfl ⟨rfl, h⟩
/-! X5_add -/
def R_X5_add (a1 : Int32) (σ : pw_Mem) (K : Int32 → pw_Mem → Prop) : Prop := vp_in (σ 1 2) 20 ∧ ∀ τ1, τ1 = pw_up σ 2 (Int32.toNatClampNeg (σ 1 2)) a1 → ∀ τ2, τ2 = pw_up τ1 1 2 ((τ1 1 2) + 1) → K ((τ2 1 2) - 1) τ2
set_option maxHeartbeats 4000000 in
theorem c_X5_add {L : pw_Lay} {d : Nat} {a1 : Int32} {σ : pw_Mem} {K : Int32 → pw_Mem → Prop} (h : R_X5_add a1 σ K) : CT L (d + 0) m_X5_add [.ref 1, .int a1] σ (ki K) := by
  refine pw_enter (by decide) rfl (Nat.le_of_ble_eq_true rfl) (ls := [some (.ref 1), some (.int a1)]) rfl ?_
  unfold R_X5_add at h
  refine pw_aload_n (i := 0) dX5_add_0 rfl rfl ?_
  refine pw_getR dX5_add_1 fl_X5_9 rfl rfl ?_
  refine pw_aload_n (i := 0) dX5_add_4 rfl rfl ?_
  refine pw_getI dX5_add_5 fl_X5_18 rfl rfl ?_
  refine pw_iload_n (i := 1) dX5_add_8 rfl rfl ?_
  obtain ⟨hb, h⟩ := h
  refine pw_iast dX5_add_9 rfl hb ?_
  generalize hτ1 : pw_up σ 2 (Int32.toNatClampNeg (σ 1 2)) a1 = τ1
  have h := h τ1 hτ1.symm
  refine pw_aload_n (i := 0) dX5_add_10 rfl rfl ?_
  refine pw_dup dX5_add_11 rfl ?_
  refine pw_getI dX5_add_12 fl_X5_18 rfl rfl ?_
  refine pw_iconst (v := 1) dX5_add_15 kc_1 ?_
  refine pw_iadd dX5_add_16 ?_
  refine pw_put dX5_add_17 fp_X5_18 rfl rfl rfl rfl ?_
  generalize hτ2 : pw_up τ1 1 2 ((τ1 1 2) + 1) = τ2
  have h := h τ2 hτ2.symm
  refine pw_aload_n (i := 0) dX5_add_20 rfl rfl ?_
  refine pw_getI dX5_add_21 fl_X5_18 rfl rfl ?_
  refine pw_iconst (v := 1) dX5_add_24 kc_1 ?_
  refine pw_isub dX5_add_25 ?_
  exact pw_ret dX5_add_26 rfl rfl ⟨_, rfl, h⟩
/-! X10_routine -/
def R_X10_routine (a1 : Int32) (σ : pw_Mem) (K : Int32 → pw_Mem → Prop) : Prop := R_X10_within a1 0 500 σ (fun x2 τ1 => ((¬ x2 = 0 → (((τ1 1 2) < 20 → R_X2_outdate  τ1 (fun τ3 => R_X5_add a1 τ3 (fun x5 τ4 => K x5 τ4))) ∧ (¬ (τ1 1 2) < 20 → K (-3) τ1))) ∧ (x2 = 0 → K (-1) τ1)))
set_option maxHeartbeats 4000000 in
theorem c_X10_routine {L : pw_Lay} {d : Nat} {a1 : Int32} {σ : pw_Mem} {K : Int32 → pw_Mem → Prop} (h : R_X10_routine a1 σ K) : CT L (d + 1) m_X10_routine [.ref 0, .int a1] σ (ki K) := by
  refine pw_enter (by decide) rfl (Nat.le_of_ble_eq_true rfl) (ls := [some (.ref 0), some (.int a1)]) rfl ?_
  unfold R_X10_routine at h
  refine pw_iload_n (i := 1) dX10_routine_0 rfl rfl ?_
  refine pw_iconst (v := 0) dX10_routine_1 kc_0 ?_
  refine pw_sipush (v := 500) dX10_routine_2 ks_500 ?_
  refine pw_cSi [.int a1, .int 0, .int 500] dX10_routine_5 ms_X10_83 rfl rfl (Nat.le_of_ble_eq_true rfl) (c_X10_within h) (fun x2 τ1 h => ?_)
  refine pw_if_ne (tgt := 13) dX10_routine_8 rfl (fun q => ?_) (fun q => ?_)
  · have h := h.1 q
    refine pw_aload_n (i := 0) dX10_routine_13 rfl rfl ?_
    refine pw_getR dX10_routine_14 fl_X10_10 rfl rfl ?_
    refine pw_getI dX10_routine_17 fl_X10_87 rfl rfl ?_
    refine pw_bipush (v := 20) dX10_routine_20 kb_20 ?_
    refine pw_icmp_lt (tgt := 28) dX10_routine_22 rfl (fun q => ?_) (fun q => ?_)
    · have h := h.1 q
      refine pw_aload_n (i := 0) dX10_routine_28 rfl rfl ?_
      refine pw_getR dX10_routine_29 fl_X10_35 rfl rfl ?_
      refine pw_cVv [] dX10_routine_32 mv_X10_91 rfl rfl rfl (Nat.le_of_ble_eq_true rfl) (c_X2_outdate h) (fun τ3 h => ?_)
      refine pw_aload_n (i := 0) dX10_routine_35 rfl rfl ?_
      refine pw_getR dX10_routine_36 fl_X10_10 rfl rfl ?_
      refine pw_iload_n (i := 1) dX10_routine_39 rfl rfl ?_
      refine pw_cVi [.int a1] dX10_routine_40 mv_X10_94 rfl rfl rfl (Nat.le_of_ble_eq_true rfl) (c_X5_add h) (fun x5 τ4 h => ?_)
      exact pw_ret dX10_routine_43 rfl rfl ⟨_, rfl, h⟩
    · have h := h.2 q
      refine pw_bipush (v := (-3)) dX10_routine_25 kb_m3 ?_
      exact pw_ret dX10_routine_27 rfl rfl ⟨_, rfl, h⟩
  · have h := h.2 q
    refine pw_iconst (v := (-1)) dX10_routine_11 kc_m1 ?_
    exact pw_ret dX10_routine_12 rfl rfl ⟨_, rfl, h⟩
/-! X10_isRoutine -/
def R_X10_isRoutine (a1 : Int32) (σ : pw_Mem) (K : Int32 → pw_Mem → Prop) : Prop := R_X10_within a1 0 ((σ 1 2) - 1) σ (fun x2 τ1 => narrow .boolean (.int x2) = .int x2 ∧ K x2 τ1)
set_option maxHeartbeats 4000000 in
theorem c_X10_isRoutine {L : pw_Lay} {d : Nat} {a1 : Int32} {σ : pw_Mem} {K : Int32 → pw_Mem → Prop} (h : R_X10_isRoutine a1 σ K) : CT L (d + 1) m_X10_isRoutine [.ref 0, .int a1] σ (ki K) := by
  refine pw_enter (by decide) rfl (Nat.le_of_ble_eq_true rfl) (ls := [some (.ref 0), some (.int a1)]) rfl ?_
  unfold R_X10_isRoutine at h
  refine pw_iload_n (i := 1) dX10_isRoutine_0 rfl rfl ?_
  refine pw_iconst (v := 0) dX10_isRoutine_1 kc_0 ?_
  refine pw_aload_n (i := 0) dX10_isRoutine_2 rfl rfl ?_
  refine pw_getR dX10_isRoutine_3 fl_X10_10 rfl rfl ?_
  refine pw_getI dX10_isRoutine_6 fl_X10_87 rfl rfl ?_
  refine pw_iconst (v := 1) dX10_isRoutine_9 kc_1 ?_
  refine pw_isub dX10_isRoutine_10 ?_
  refine pw_cSi [.int a1, .int 0, .int ((σ 1 2) - 1)] dX10_isRoutine_11 ms_X10_83 rfl rfl (Nat.le_of_ble_eq_true rfl) (c_X10_within h) (fun x2 τ1 h => ?_)
  obtain ⟨hn, h⟩ := h
  exact pw_ret dX10_isRoutine_14 rfl hn ⟨_, rfl, h⟩
/-! X10_frame -/
def R_X10_frame (a1 : Int32) (a2 : Int32) (σ : pw_Mem) (K : Int32 → pw_Mem → Prop) : Prop := R_X10_isRoutine a1 σ (fun x2 τ1 => ((x2 = 0 → K (-1) τ1) ∧ (¬ x2 = 0 → R_X10_within a2 0 500 τ1 (fun x4 τ3 => ((¬ x4 = 0 → vp_in a1 20 ∧ vp_in a1 20 ∧ ∀ τ5, τ5 = pw_up τ3 2 (Int32.toNatClampNeg a1) a2 → K (τ3 2 (Int32.toNatClampNeg a1)) τ5) ∧ (x4 = 0 → K (-1) τ3))))))
set_option maxHeartbeats 4000000 in
theorem c_X10_frame {L : pw_Lay} {d : Nat} {a1 : Int32} {a2 : Int32} {σ : pw_Mem} {K : Int32 → pw_Mem → Prop} (h : R_X10_frame a1 a2 σ K) : CT L (d + 2) m_X10_frame [.ref 0, .int a1, .int a2] σ (ki K) := by
  refine pw_enter (by decide) rfl (Nat.le_of_ble_eq_true rfl) (ls := [some (.ref 0), some (.int a1), some (.int a2), none]) rfl ?_
  unfold R_X10_frame at h
  refine pw_aload_n (i := 0) dX10_frame_0 rfl rfl ?_
  refine pw_iload_n (i := 1) dX10_frame_1 rfl rfl ?_
  refine pw_cVi [.int a1] dX10_frame_2 mv_X10_98 rfl rfl rfl (Nat.le_of_ble_eq_true rfl) (c_X10_isRoutine h) (fun x2 τ1 h => ?_)
  refine pw_if_eq (tgt := 19) dX10_frame_5 rfl (fun q => ?_) (fun q => ?_)
  · have h := h.1 q
    refine pw_iconst (v := (-1)) dX10_frame_19 kc_m1 ?_
    exact pw_ret dX10_frame_20 rfl rfl ⟨_, rfl, h⟩
  · have h := h.2 q
    refine pw_iload_n (i := 2) dX10_frame_8 rfl rfl ?_
    refine pw_iconst (v := 0) dX10_frame_9 kc_0 ?_
    refine pw_sipush (v := 500) dX10_frame_10 ks_500 ?_
    refine pw_cSi [.int a2, .int 0, .int 500] dX10_frame_13 ms_X10_83 rfl rfl (Nat.le_of_ble_eq_true rfl) (c_X10_within h) (fun x4 τ3 h => ?_)
    refine pw_if_ne (tgt := 21) dX10_frame_16 rfl (fun q => ?_) (fun q => ?_)
    · have h := h.1 q
      refine pw_aload_n (i := 0) dX10_frame_21 rfl rfl ?_
      refine pw_getR dX10_frame_22 fl_X10_10 rfl rfl ?_
      refine pw_getR dX10_frame_25 fl_X10_102 rfl rfl ?_
      refine pw_iload_n (i := 1) dX10_frame_28 rfl rfl ?_
      obtain ⟨hb, h⟩ := h
      refine pw_iald dX10_frame_29 rfl hb ?_
      refine pw_istore_n (i := 3) (ls' := [some (.ref 0), some (.int a1), some (.int a2), some (.int (τ3 2 (Int32.toNatClampNeg a1)))]) dX10_frame_30 rfl (Nat.le_of_ble_eq_true rfl) rfl ?_
      refine pw_aload_n (i := 0) dX10_frame_31 rfl rfl ?_
      refine pw_getR dX10_frame_32 fl_X10_10 rfl rfl ?_
      refine pw_getR dX10_frame_35 fl_X10_102 rfl rfl ?_
      refine pw_iload_n (i := 1) dX10_frame_38 rfl rfl ?_
      refine pw_iload_n (i := 2) dX10_frame_39 rfl rfl ?_
      obtain ⟨hb, h⟩ := h
      refine pw_iast dX10_frame_40 rfl hb ?_
      generalize hτ5 : pw_up τ3 2 (Int32.toNatClampNeg a1) a2 = τ5
      have h := h τ5 hτ5.symm
      refine pw_iload_n (i := 3) dX10_frame_41 rfl rfl ?_
      exact pw_ret dX10_frame_42 rfl rfl ⟨_, rfl, h⟩
    · have h := h.2 q
      refine pw_iconst (v := (-1)) dX10_frame_19 kc_m1 ?_
      exact pw_ret dX10_frame_20 rfl rfl ⟨_, rfl, h⟩
/-! X10_turns -/
def R_X10_turns (a1 : Int32) (a2 : Int32) (σ : pw_Mem) (K : Int32 → pw_Mem → Prop) : Prop := R_X10_isRoutine a1 σ (fun x2 τ1 => ((x2 = 0 → K (-1) τ1) ∧ (¬ x2 = 0 → R_X10_within a2 0 20 τ1 (fun x4 τ3 => ((¬ x4 = 0 → vp_in a1 20 ∧ vp_in a1 20 ∧ ∀ τ5, τ5 = pw_up τ3 3 (Int32.toNatClampNeg a1) a2 → K (τ3 3 (Int32.toNatClampNeg a1)) τ5) ∧ (x4 = 0 → K (-1) τ3))))))
set_option maxHeartbeats 4000000 in
theorem c_X10_turns {L : pw_Lay} {d : Nat} {a1 : Int32} {a2 : Int32} {σ : pw_Mem} {K : Int32 → pw_Mem → Prop} (h : R_X10_turns a1 a2 σ K) : CT L (d + 2) m_X10_turns [.ref 0, .int a1, .int a2] σ (ki K) := by
  refine pw_enter (by decide) rfl (Nat.le_of_ble_eq_true rfl) (ls := [some (.ref 0), some (.int a1), some (.int a2), none]) rfl ?_
  unfold R_X10_turns at h
  refine pw_aload_n (i := 0) dX10_turns_0 rfl rfl ?_
  refine pw_iload_n (i := 1) dX10_turns_1 rfl rfl ?_
  refine pw_cVi [.int a1] dX10_turns_2 mv_X10_98 rfl rfl rfl (Nat.le_of_ble_eq_true rfl) (c_X10_isRoutine h) (fun x2 τ1 h => ?_)
  refine pw_if_eq (tgt := 18) dX10_turns_5 rfl (fun q => ?_) (fun q => ?_)
  · have h := h.1 q
    refine pw_iconst (v := (-1)) dX10_turns_18 kc_m1 ?_
    exact pw_ret dX10_turns_19 rfl rfl ⟨_, rfl, h⟩
  · have h := h.2 q
    refine pw_iload_n (i := 2) dX10_turns_8 rfl rfl ?_
    refine pw_iconst (v := 0) dX10_turns_9 kc_0 ?_
    refine pw_bipush (v := 20) dX10_turns_10 kb_20 ?_
    refine pw_cSi [.int a2, .int 0, .int 20] dX10_turns_12 ms_X10_83 rfl rfl (Nat.le_of_ble_eq_true rfl) (c_X10_within h) (fun x4 τ3 h => ?_)
    refine pw_if_ne (tgt := 20) dX10_turns_15 rfl (fun q => ?_) (fun q => ?_)
    · have h := h.1 q
      refine pw_aload_n (i := 0) dX10_turns_20 rfl rfl ?_
      refine pw_getR dX10_turns_21 fl_X10_10 rfl rfl ?_
      refine pw_getR dX10_turns_24 fl_X10_106 rfl rfl ?_
      refine pw_iload_n (i := 1) dX10_turns_27 rfl rfl ?_
      obtain ⟨hb, h⟩ := h
      refine pw_iald dX10_turns_28 rfl hb ?_
      refine pw_istore_n (i := 3) (ls' := [some (.ref 0), some (.int a1), some (.int a2), some (.int (τ3 3 (Int32.toNatClampNeg a1)))]) dX10_turns_29 rfl (Nat.le_of_ble_eq_true rfl) rfl ?_
      refine pw_aload_n (i := 0) dX10_turns_30 rfl rfl ?_
      refine pw_getR dX10_turns_31 fl_X10_10 rfl rfl ?_
      refine pw_getR dX10_turns_34 fl_X10_106 rfl rfl ?_
      refine pw_iload_n (i := 1) dX10_turns_37 rfl rfl ?_
      refine pw_iload_n (i := 2) dX10_turns_38 rfl rfl ?_
      obtain ⟨hb, h⟩ := h
      refine pw_iast dX10_turns_39 rfl hb ?_
      generalize hτ5 : pw_up τ3 3 (Int32.toNatClampNeg a1) a2 = τ5
      have h := h τ5 hτ5.symm
      refine pw_iload_n (i := 3) dX10_turns_40 rfl rfl ?_
      exact pw_ret dX10_turns_41 rfl rfl ⟨_, rfl, h⟩
    · have h := h.2 q
      refine pw_iconst (v := (-1)) dX10_turns_18 kc_m1 ?_
      exact pw_ret dX10_turns_19 rfl rfl ⟨_, rfl, h⟩
/-! X10_kindOf -/
def R_X10_kindOf (a1 : Int32) (a2 : Int32) (σ : pw_Mem) (K : Int32 → pw_Mem → Prop) : Prop := ((a1 = 0 → ((a2 = 0 → K (0 + 0) σ) ∧ (¬ a2 = 0 → K (0 + 1) σ))) ∧ (¬ a1 = 0 → ((a2 = 0 → K (2 + 0) σ) ∧ (¬ a2 = 0 → K (2 + 1) σ))))
set_option maxHeartbeats 4000000 in
theorem c_X10_kindOf {L : pw_Lay} {d : Nat} {a1 : Int32} {a2 : Int32} {σ : pw_Mem} {K : Int32 → pw_Mem → Prop} (h : R_X10_kindOf a1 a2 σ K) : CT L (d + 0) m_X10_kindOf [.int a1, .int a2] σ (ki K) := by
  refine pw_enter (by decide) rfl (Nat.le_of_ble_eq_true rfl) (ls := [some (.int a1), some (.int a2)]) rfl ?_
  unfold R_X10_kindOf at h
  refine pw_iload_n (i := 0) dX10_kindOf_0 rfl rfl ?_
  refine pw_if_eq (tgt := 8) dX10_kindOf_1 rfl (fun q => ?_) (fun q => ?_)
  · have h := h.1 q
    refine pw_iconst (v := 0) dX10_kindOf_8 kc_0 ?_
    refine pw_iload_n (i := 1) dX10_kindOf_9 rfl rfl ?_
    refine pw_if_eq (tgt := 17) dX10_kindOf_10 rfl (fun q => ?_) (fun q => ?_)
    · have h := h.1 q
      refine pw_iconst (v := 0) dX10_kindOf_17 kc_0 ?_
      refine pw_iadd dX10_kindOf_18 ?_
      exact pw_ret dX10_kindOf_19 rfl rfl ⟨_, rfl, h⟩
    · have h := h.2 q
      refine pw_iconst (v := 1) dX10_kindOf_13 kc_1 ?_
      refine pw_goto (tgt := 18) dX10_kindOf_14 rfl ?_
      refine pw_iadd dX10_kindOf_18 ?_
      exact pw_ret dX10_kindOf_19 rfl rfl ⟨_, rfl, h⟩
  · have h := h.2 q
    refine pw_iconst (v := 2) dX10_kindOf_4 kc_2 ?_
    refine pw_goto (tgt := 9) dX10_kindOf_5 rfl ?_
    refine pw_iload_n (i := 1) dX10_kindOf_9 rfl rfl ?_
    refine pw_if_eq (tgt := 17) dX10_kindOf_10 rfl (fun q => ?_) (fun q => ?_)
    · have h := h.1 q
      refine pw_iconst (v := 0) dX10_kindOf_17 kc_0 ?_
      refine pw_iadd dX10_kindOf_18 ?_
      exact pw_ret dX10_kindOf_19 rfl rfl ⟨_, rfl, h⟩
    · have h := h.2 q
      refine pw_iconst (v := 1) dX10_kindOf_13 kc_1 ?_
      refine pw_goto (tgt := 18) dX10_kindOf_14 rfl ?_
      refine pw_iadd dX10_kindOf_18 ?_
      exact pw_ret dX10_kindOf_19 rfl rfl ⟨_, rfl, h⟩
/-! X10_isPointer -/
def R_X10_isPointer (a1 : Int32) (σ : pw_Mem) (K : Int32 → pw_Mem → Prop) : Prop := R_X10_within a1 0 7 σ (fun x2 τ1 => narrow .boolean (.int x2) = .int x2 ∧ K x2 τ1)
set_option maxHeartbeats 4000000 in
theorem c_X10_isPointer {L : pw_Lay} {d : Nat} {a1 : Int32} {σ : pw_Mem} {K : Int32 → pw_Mem → Prop} (h : R_X10_isPointer a1 σ K) : CT L (d + 1) m_X10_isPointer [.int a1] σ (ki K) := by
  refine pw_enter (by decide) rfl (Nat.le_of_ble_eq_true rfl) (ls := [some (.int a1)]) rfl ?_
  unfold R_X10_isPointer at h
  refine pw_iload_n (i := 0) dX10_isPointer_0 rfl rfl ?_
  refine pw_iconst (v := 0) dX10_isPointer_1 kc_0 ?_
  refine pw_bipush (v := 7) dX10_isPointer_2 kb_7 ?_
  refine pw_cSi [.int a1, .int 0, .int 7] dX10_isPointer_4 ms_X10_83 rfl rfl (Nat.le_of_ble_eq_true rfl) (c_X10_within h) (fun x2 τ1 h => ?_)
  obtain ⟨hn, h⟩ := h
  exact pw_ret dX10_isPointer_7 rfl hn ⟨_, rfl, h⟩
/-! X10_canBeCall -/
def R_X10_canBeCall (a1 : Int32) (a2 : Int32) (a3 : Int32) (σ : pw_Mem) (K : Int32 → pw_Mem → Prop) : Prop := R_X10_isRoutine a1 σ (fun x2 τ1 => ((x2 = 0 → K 0 τ1) ∧ (¬ x2 = 0 → R_X10_within a3 0 3 τ1 (fun x4 τ3 => ((¬ x4 = 0 → (((a3 &&& 2) = 0 → R_X10_isRoutine a2 τ3 (fun x6 τ5 => narrow .boolean (.int x6) = .int x6 ∧ K x6 τ5)) ∧ (¬ (a3 &&& 2) = 0 → R_X10_isPointer a2 τ3 (fun x8 τ7 => narrow .boolean (.int x8) = .int x8 ∧ K x8 τ7)))) ∧ (x4 = 0 → K 0 τ3))))))
set_option maxHeartbeats 4000000 in
theorem c_X10_canBeCall {L : pw_Lay} {d : Nat} {a1 : Int32} {a2 : Int32} {a3 : Int32} {σ : pw_Mem} {K : Int32 → pw_Mem → Prop} (h : R_X10_canBeCall a1 a2 a3 σ K) : CT L (d + 2) m_X10_canBeCall [.ref 0, .int a1, .int a2, .int a3] σ (ki K) := by
  refine pw_enter (by decide) rfl (Nat.le_of_ble_eq_true rfl) (ls := [some (.ref 0), some (.int a1), some (.int a2), some (.int a3)]) rfl ?_
  unfold R_X10_canBeCall at h
  refine pw_aload_n (i := 0) dX10_canBeCall_0 rfl rfl ?_
  refine pw_iload_n (i := 1) dX10_canBeCall_1 rfl rfl ?_
  refine pw_cVi [.int a1] dX10_canBeCall_2 mv_X10_98 rfl rfl rfl (Nat.le_of_ble_eq_true rfl) (c_X10_isRoutine h) (fun x2 τ1 h => ?_)
  refine pw_if_eq (tgt := 17) dX10_canBeCall_5 rfl (fun q => ?_) (fun q => ?_)
  · have h := h.1 q
    refine pw_iconst (v := 0) dX10_canBeCall_17 kc_0 ?_
    exact pw_ret dX10_canBeCall_18 rfl rfl ⟨_, rfl, h⟩
  · have h := h.2 q
    refine pw_iload_n (i := 3) dX10_canBeCall_8 rfl rfl ?_
    refine pw_iconst (v := 0) dX10_canBeCall_9 kc_0 ?_
    refine pw_iconst (v := 3) dX10_canBeCall_10 kc_3 ?_
    refine pw_cSi [.int a3, .int 0, .int 3] dX10_canBeCall_11 ms_X10_83 rfl rfl (Nat.le_of_ble_eq_true rfl) (c_X10_within h) (fun x4 τ3 h => ?_)
    refine pw_if_ne (tgt := 19) dX10_canBeCall_14 rfl (fun q => ?_) (fun q => ?_)
    · have h := h.1 q
      refine pw_iload_n (i := 3) dX10_canBeCall_19 rfl rfl ?_
      refine pw_iconst (v := 2) dX10_canBeCall_20 kc_2 ?_
      refine pw_iand dX10_canBeCall_21 ?_
      refine pw_if_eq (tgt := 32) dX10_canBeCall_22 rfl (fun q => ?_) (fun q => ?_)
      · have h := h.1 q
        refine pw_aload_n (i := 0) dX10_canBeCall_32 rfl rfl ?_
        refine pw_iload_n (i := 2) dX10_canBeCall_33 rfl rfl ?_
        refine pw_cVi [.int a2] dX10_canBeCall_34 mv_X10_98 rfl rfl rfl (Nat.le_of_ble_eq_true rfl) (c_X10_isRoutine h) (fun x6 τ5 h => ?_)
        obtain ⟨hn, h⟩ := h
        exact pw_ret dX10_canBeCall_37 rfl hn ⟨_, rfl, h⟩
      · have h := h.2 q
        refine pw_iload_n (i := 2) dX10_canBeCall_25 rfl rfl ?_
        refine pw_cSi [.int a2] dX10_canBeCall_26 ms_X10_130 rfl rfl (Nat.le_of_ble_eq_true rfl) (c_X10_isPointer h) (fun x8 τ7 h => ?_)
        refine pw_goto (tgt := 37) dX10_canBeCall_29 rfl ?_
        obtain ⟨hn, h⟩ := h
        exact pw_ret dX10_canBeCall_37 rfl hn ⟨_, rfl, h⟩
    · have h := h.2 q
      refine pw_iconst (v := 0) dX10_canBeCall_17 kc_0 ?_
      exact pw_ret dX10_canBeCall_18 rfl rfl ⟨_, rfl, h⟩
/-! X10_holds -/
def R_X10_holds (a1 : Int32) (a2 : Int32) (σ : pw_Mem) (K : Int32 → pw_Mem → Prop) : Prop := ((((a1 >>> (a2 &&& 31)) &&& 1) = 0 → K 0 σ) ∧ (¬ ((a1 >>> (a2 &&& 31)) &&& 1) = 0 → K 1 σ))
set_option maxHeartbeats 4000000 in
theorem c_X10_holds {L : pw_Lay} {d : Nat} {a1 : Int32} {a2 : Int32} {σ : pw_Mem} {K : Int32 → pw_Mem → Prop} (h : R_X10_holds a1 a2 σ K) : CT L (d + 0) m_X10_holds [.int a1, .int a2] σ (ki K) := by
  refine pw_enter (by decide) rfl (Nat.le_of_ble_eq_true rfl) (ls := [some (.int a1), some (.int a2)]) rfl ?_
  unfold R_X10_holds at h
  refine pw_iload_n (i := 0) dX10_holds_0 rfl rfl ?_
  refine pw_iload_n (i := 1) dX10_holds_1 rfl rfl ?_
  refine pw_ishr dX10_holds_2 ?_
  refine pw_iconst (v := 1) dX10_holds_3 kc_1 ?_
  refine pw_iand dX10_holds_4 ?_
  refine pw_if_eq (tgt := 12) dX10_holds_5 rfl (fun q => ?_) (fun q => ?_)
  · have h := h.1 q
    refine pw_iconst (v := 0) dX10_holds_12 kc_0 ?_
    exact pw_ret dX10_holds_13 rfl rfl ⟨_, rfl, h⟩
  · have h := h.2 q
    refine pw_iconst (v := 1) dX10_holds_8 kc_1 ?_
    refine pw_goto (tgt := 13) dX10_holds_9 rfl ?_
    exact pw_ret dX10_holds_13 rfl rfl ⟨_, rfl, h⟩
/-! X0_has -/
def R_X0_has (a1 : Int32) (a2 : Int32) (a3 : Int32) (σ : pw_Mem) (K : Int32 → pw_Mem → Prop) : Prop := ((a3 = 0 ∨ a3 = 1 ∨ a3 = 2 ∨ a3 = 3) ∧ (a3 = 0 → vp_in a1 20 ∧ R_X10_holds (σ 10 (Int32.toNatClampNeg a1)) a2 σ (fun x2 τ1 => narrow .boolean (.int x2) = .int x2 ∧ K x2 τ1)) ∧ (a3 = 1 → vp_in a1 20 ∧ R_X10_holds (σ 11 (Int32.toNatClampNeg a1)) a2 σ (fun x4 τ3 => narrow .boolean (.int x4) = .int x4 ∧ K x4 τ3)) ∧ (a3 = 2 → vp_in a1 20 ∧ R_X10_holds (σ 12 (Int32.toNatClampNeg a1)) a2 σ (fun x6 τ5 => narrow .boolean (.int x6) = .int x6 ∧ K x6 τ5)) ∧ (a3 = 3 → vp_in a1 20 ∧ R_X10_holds (σ 13 (Int32.toNatClampNeg a1)) a2 σ (fun x8 τ7 => narrow .boolean (.int x8) = .int x8 ∧ K x8 τ7)))
set_option maxHeartbeats 4000000 in
theorem c_X0_has {L : pw_Lay} {d : Nat} {a1 : Int32} {a2 : Int32} {a3 : Int32} {σ : pw_Mem} {K : Int32 → pw_Mem → Prop} (h : R_X0_has a1 a2 a3 σ K) : CT L (d + 1) m_X0_has [.ref 8, .int a1, .int a2, .int a3] σ (ki K) := by
  refine pw_enter (by decide) rfl (Nat.le_of_ble_eq_true rfl) (ls := [some (.ref 8), some (.int a1), some (.int a2), some (.int a3)]) rfl ?_
  unfold R_X0_has at h
  refine pw_aload_n (i := 0) dX0_has_0 rfl rfl ?_
  refine pw_getR dX0_has_1 fl_X0_11 rfl rfl ?_
  refine pw_iload_n (i := 3) dX0_has_4 rfl rfl ?_
  have hc4 := h.1
  have h := h.2
  rcases hc4 with hi | hi | hi | hi
  · have h := h.1 hi
    refine pw_aaldB dX0_has_5 rfl (by rw [hi]; exact vi4_0) (by rw [hi]; rfl) ?_
    refine pw_iload_n (i := 1) dX0_has_6 rfl rfl ?_
    obtain ⟨hb, h⟩ := h
    refine pw_iald dX0_has_7 rfl hb ?_
    refine pw_iload_n (i := 2) dX0_has_8 rfl rfl ?_
    refine pw_cNi [.int (σ 10 (Int32.toNatClampNeg a1)), .int a2] dX0_has_9 mn_X0_16 rfl rfl (Nat.le_of_ble_eq_true rfl) (c_X10_holds h) (fun x2 τ1 h => ?_)
    obtain ⟨hn, h⟩ := h
    exact pw_ret dX0_has_12 rfl hn ⟨_, rfl, h⟩
  · have h := h.2.1 hi
    refine pw_aaldB dX0_has_5 rfl (by rw [hi]; exact vi4_1) (by rw [hi]; rfl) ?_
    refine pw_iload_n (i := 1) dX0_has_6 rfl rfl ?_
    obtain ⟨hb, h⟩ := h
    refine pw_iald dX0_has_7 rfl hb ?_
    refine pw_iload_n (i := 2) dX0_has_8 rfl rfl ?_
    refine pw_cNi [.int (σ 11 (Int32.toNatClampNeg a1)), .int a2] dX0_has_9 mn_X0_16 rfl rfl (Nat.le_of_ble_eq_true rfl) (c_X10_holds h) (fun x4 τ3 h => ?_)
    obtain ⟨hn, h⟩ := h
    exact pw_ret dX0_has_12 rfl hn ⟨_, rfl, h⟩
  · have h := h.2.2.1 hi
    refine pw_aaldB dX0_has_5 rfl (by rw [hi]; exact vi4_2) (by rw [hi]; rfl) ?_
    refine pw_iload_n (i := 1) dX0_has_6 rfl rfl ?_
    obtain ⟨hb, h⟩ := h
    refine pw_iald dX0_has_7 rfl hb ?_
    refine pw_iload_n (i := 2) dX0_has_8 rfl rfl ?_
    refine pw_cNi [.int (σ 12 (Int32.toNatClampNeg a1)), .int a2] dX0_has_9 mn_X0_16 rfl rfl (Nat.le_of_ble_eq_true rfl) (c_X10_holds h) (fun x6 τ5 h => ?_)
    obtain ⟨hn, h⟩ := h
    exact pw_ret dX0_has_12 rfl hn ⟨_, rfl, h⟩
  · have h := h.2.2.2 hi
    refine pw_aaldB dX0_has_5 rfl (by rw [hi]; exact vi4_3) (by rw [hi]; rfl) ?_
    refine pw_iload_n (i := 1) dX0_has_6 rfl rfl ?_
    obtain ⟨hb, h⟩ := h
    refine pw_iald dX0_has_7 rfl hb ?_
    refine pw_iload_n (i := 2) dX0_has_8 rfl rfl ?_
    refine pw_cNi [.int (σ 13 (Int32.toNatClampNeg a1)), .int a2] dX0_has_9 mn_X0_16 rfl rfl (Nat.le_of_ble_eq_true rfl) (c_X10_holds h) (fun x8 τ7 h => ?_)
    obtain ⟨hn, h⟩ := h
    exact pw_ret dX0_has_12 rfl hn ⟨_, rfl, h⟩
/-! X10_refusalOfCall -/
def R_X10_refusalOfCall (a1 : Int32) (a2 : Int32) (a3 : Int32) (σ : pw_Mem) (K : Int32 → pw_Mem → Prop) : Prop := R_X10_canBeCall a1 a2 a3 σ (fun x2 τ1 => ((¬ x2 = 0 → R_X0_has a1 a2 a3 τ1 (fun x4 τ3 => ((x4 = 0 → (((τ3 8 1) < 60 → K 0 τ3) ∧ (¬ (τ3 8 1) < 60 → K (-3) τ3))) ∧ (¬ x4 = 0 → K (-2) τ3)))) ∧ (x2 = 0 → K (-1) τ1)))
set_option maxHeartbeats 4000000 in
theorem c_X10_refusalOfCall {L : pw_Lay} {d : Nat} {a1 : Int32} {a2 : Int32} {a3 : Int32} {σ : pw_Mem} {K : Int32 → pw_Mem → Prop} (h : R_X10_refusalOfCall a1 a2 a3 σ K) : CT L (d + 3) m_X10_refusalOfCall [.ref 0, .int a1, .int a2, .int a3] σ (ki K) := by
  refine pw_enter (by decide) rfl (Nat.le_of_ble_eq_true rfl) (ls := [some (.ref 0), some (.int a1), some (.int a2), some (.int a3)]) rfl ?_
  unfold R_X10_refusalOfCall at h
  refine pw_aload_n (i := 0) dX10_refusalOfCall_0 rfl rfl ?_
  refine pw_iload_n (i := 1) dX10_refusalOfCall_1 rfl rfl ?_
  refine pw_iload_n (i := 2) dX10_refusalOfCall_2 rfl rfl ?_
  refine pw_iload_n (i := 3) dX10_refusalOfCall_3 rfl rfl ?_
  refine pw_cVi [.int a1, .int a2, .int a3] dX10_refusalOfCall_4 mv_X10_121 rfl rfl rfl (Nat.le_of_ble_eq_true rfl) (c_X10_canBeCall h) (fun x2 τ1 h => ?_)
  refine pw_if_ne (tgt := 12) dX10_refusalOfCall_7 rfl (fun q => ?_) (fun q => ?_)
  · have h := h.1 q
    refine pw_aload_n (i := 0) dX10_refusalOfCall_12 rfl rfl ?_
    refine pw_getR dX10_refusalOfCall_13 fl_X10_26 rfl rfl ?_
    refine pw_iload_n (i := 1) dX10_refusalOfCall_16 rfl rfl ?_
    refine pw_iload_n (i := 2) dX10_refusalOfCall_17 rfl rfl ?_
    refine pw_iload_n (i := 3) dX10_refusalOfCall_18 rfl rfl ?_
    refine pw_cVi [.int a1, .int a2, .int a3] dX10_refusalOfCall_19 mv_X10_124 rfl rfl rfl (Nat.le_of_ble_eq_true rfl) (c_X0_has h) (fun x4 τ3 h => ?_)
    refine pw_if_eq (tgt := 28) dX10_refusalOfCall_22 rfl (fun q => ?_) (fun q => ?_)
    · have h := h.1 q
      refine pw_aload_n (i := 0) dX10_refusalOfCall_28 rfl rfl ?_
      refine pw_getR dX10_refusalOfCall_29 fl_X10_26 rfl rfl ?_
      refine pw_getI dX10_refusalOfCall_32 fl_X10_120 rfl rfl ?_
      refine pw_bipush (v := 60) dX10_refusalOfCall_35 kb_60 ?_
      refine pw_icmp_lt (tgt := 45) dX10_refusalOfCall_37 rfl (fun q => ?_) (fun q => ?_)
      · have h := h.1 q
        refine pw_iconst (v := 0) dX10_refusalOfCall_45 kc_0 ?_
        exact pw_ret dX10_refusalOfCall_46 rfl rfl ⟨_, rfl, h⟩
      · have h := h.2 q
        refine pw_bipush (v := (-3)) dX10_refusalOfCall_40 kb_m3 ?_
        refine pw_goto (tgt := 46) dX10_refusalOfCall_42 rfl ?_
        exact pw_ret dX10_refusalOfCall_46 rfl rfl ⟨_, rfl, h⟩
    · have h := h.2 q
      refine pw_bipush (v := (-2)) dX10_refusalOfCall_25 kb_m2 ?_
      exact pw_ret dX10_refusalOfCall_27 rfl rfl ⟨_, rfl, h⟩
  · have h := h.2 q
    refine pw_iconst (v := (-1)) dX10_refusalOfCall_10 kc_m1 ?_
    exact pw_ret dX10_refusalOfCall_11 rfl rfl ⟨_, rfl, h⟩
/-! X0_add -/
def R_X0_add (a1 : Int32) (a2 : Int32) (a3 : Int32) (σ : pw_Mem) (K : pw_Mem → Prop) : Prop := ((a3 = 0 ∨ a3 = 1 ∨ a3 = 2 ∨ a3 = 3) ∧ (a3 = 0 → vp_in a1 20 ∧ vp_in a1 20 ∧ ∀ τ1, τ1 = pw_up σ 10 (Int32.toNatClampNeg a1) ((σ 10 (Int32.toNatClampNeg a1)) ||| (1 <<< (a2 &&& 31))) → ∀ τ2, τ2 = pw_up τ1 8 1 ((τ1 8 1) + 1) → K τ2) ∧ (a3 = 1 → vp_in a1 20 ∧ vp_in a1 20 ∧ ∀ τ3, τ3 = pw_up σ 11 (Int32.toNatClampNeg a1) ((σ 11 (Int32.toNatClampNeg a1)) ||| (1 <<< (a2 &&& 31))) → ∀ τ4, τ4 = pw_up τ3 8 1 ((τ3 8 1) + 1) → K τ4) ∧ (a3 = 2 → vp_in a1 20 ∧ vp_in a1 20 ∧ ∀ τ5, τ5 = pw_up σ 12 (Int32.toNatClampNeg a1) ((σ 12 (Int32.toNatClampNeg a1)) ||| (1 <<< (a2 &&& 31))) → ∀ τ6, τ6 = pw_up τ5 8 1 ((τ5 8 1) + 1) → K τ6) ∧ (a3 = 3 → vp_in a1 20 ∧ vp_in a1 20 ∧ ∀ τ7, τ7 = pw_up σ 13 (Int32.toNatClampNeg a1) ((σ 13 (Int32.toNatClampNeg a1)) ||| (1 <<< (a2 &&& 31))) → ∀ τ8, τ8 = pw_up τ7 8 1 ((τ7 8 1) + 1) → K τ8))
set_option maxHeartbeats 4000000 in
theorem c_X0_add {L : pw_Lay} {d : Nat} {a1 : Int32} {a2 : Int32} {a3 : Int32} {σ : pw_Mem} {K : pw_Mem → Prop} (h : R_X0_add a1 a2 a3 σ K) : CT L (d + 0) m_X0_add [.ref 8, .int a1, .int a2, .int a3] σ (kv K) := by
  refine pw_enter (by decide) rfl (Nat.le_of_ble_eq_true rfl) (ls := [some (.ref 8), some (.int a1), some (.int a2), some (.int a3)]) rfl ?_
  unfold R_X0_add at h
  refine pw_aload_n (i := 0) dX0_add_0 rfl rfl ?_
  refine pw_getR dX0_add_1 fl_X0_11 rfl rfl ?_
  refine pw_iload_n (i := 3) dX0_add_4 rfl rfl ?_
  have hc4 := h.1
  have h := h.2
  rcases hc4 with hi | hi | hi | hi
  · have h := h.1 hi
    refine pw_aaldB dX0_add_5 rfl (by rw [hi]; exact vi4_0) (by rw [hi]; rfl) ?_
    refine pw_iload_n (i := 1) dX0_add_6 rfl rfl ?_
    refine pw_dup2 dX0_add_7 rfl rfl ?_
    obtain ⟨hb, h⟩ := h
    refine pw_iald dX0_add_8 rfl hb ?_
    refine pw_iconst (v := 1) dX0_add_9 kc_1 ?_
    refine pw_iload_n (i := 2) dX0_add_10 rfl rfl ?_
    refine pw_ishl dX0_add_11 ?_
    refine pw_ior dX0_add_12 ?_
    obtain ⟨hb, h⟩ := h
    refine pw_iast dX0_add_13 rfl hb ?_
    generalize hτ1 : pw_up σ 10 (Int32.toNatClampNeg a1) ((σ 10 (Int32.toNatClampNeg a1)) ||| (1 <<< (a2 &&& 31))) = τ1
    have h := h τ1 hτ1.symm
    refine pw_aload_n (i := 0) dX0_add_14 rfl rfl ?_
    refine pw_dup dX0_add_15 rfl ?_
    refine pw_getI dX0_add_16 fl_X0_20 rfl rfl ?_
    refine pw_iconst (v := 1) dX0_add_19 kc_1 ?_
    refine pw_iadd dX0_add_20 ?_
    refine pw_put dX0_add_21 fp_X0_20 rfl rfl rfl rfl ?_
    generalize hτ2 : pw_up τ1 8 1 ((τ1 8 1) + 1) = τ2
    have h := h τ2 hτ2.symm
    exact pw_vret dX0_add_24 rfl ⟨rfl, h⟩
  · have h := h.2.1 hi
    refine pw_aaldB dX0_add_5 rfl (by rw [hi]; exact vi4_1) (by rw [hi]; rfl) ?_
    refine pw_iload_n (i := 1) dX0_add_6 rfl rfl ?_
    refine pw_dup2 dX0_add_7 rfl rfl ?_
    obtain ⟨hb, h⟩ := h
    refine pw_iald dX0_add_8 rfl hb ?_
    refine pw_iconst (v := 1) dX0_add_9 kc_1 ?_
    refine pw_iload_n (i := 2) dX0_add_10 rfl rfl ?_
    refine pw_ishl dX0_add_11 ?_
    refine pw_ior dX0_add_12 ?_
    obtain ⟨hb, h⟩ := h
    refine pw_iast dX0_add_13 rfl hb ?_
    generalize hτ3 : pw_up σ 11 (Int32.toNatClampNeg a1) ((σ 11 (Int32.toNatClampNeg a1)) ||| (1 <<< (a2 &&& 31))) = τ3
    have h := h τ3 hτ3.symm
    refine pw_aload_n (i := 0) dX0_add_14 rfl rfl ?_
    refine pw_dup dX0_add_15 rfl ?_
    refine pw_getI dX0_add_16 fl_X0_20 rfl rfl ?_
    refine pw_iconst (v := 1) dX0_add_19 kc_1 ?_
    refine pw_iadd dX0_add_20 ?_
    refine pw_put dX0_add_21 fp_X0_20 rfl rfl rfl rfl ?_
    generalize hτ4 : pw_up τ3 8 1 ((τ3 8 1) + 1) = τ4
    have h := h τ4 hτ4.symm
    exact pw_vret dX0_add_24 rfl ⟨rfl, h⟩
  · have h := h.2.2.1 hi
    refine pw_aaldB dX0_add_5 rfl (by rw [hi]; exact vi4_2) (by rw [hi]; rfl) ?_
    refine pw_iload_n (i := 1) dX0_add_6 rfl rfl ?_
    refine pw_dup2 dX0_add_7 rfl rfl ?_
    obtain ⟨hb, h⟩ := h
    refine pw_iald dX0_add_8 rfl hb ?_
    refine pw_iconst (v := 1) dX0_add_9 kc_1 ?_
    refine pw_iload_n (i := 2) dX0_add_10 rfl rfl ?_
    refine pw_ishl dX0_add_11 ?_
    refine pw_ior dX0_add_12 ?_
    obtain ⟨hb, h⟩ := h
    refine pw_iast dX0_add_13 rfl hb ?_
    generalize hτ5 : pw_up σ 12 (Int32.toNatClampNeg a1) ((σ 12 (Int32.toNatClampNeg a1)) ||| (1 <<< (a2 &&& 31))) = τ5
    have h := h τ5 hτ5.symm
    refine pw_aload_n (i := 0) dX0_add_14 rfl rfl ?_
    refine pw_dup dX0_add_15 rfl ?_
    refine pw_getI dX0_add_16 fl_X0_20 rfl rfl ?_
    refine pw_iconst (v := 1) dX0_add_19 kc_1 ?_
    refine pw_iadd dX0_add_20 ?_
    refine pw_put dX0_add_21 fp_X0_20 rfl rfl rfl rfl ?_
    generalize hτ6 : pw_up τ5 8 1 ((τ5 8 1) + 1) = τ6
    have h := h τ6 hτ6.symm
    exact pw_vret dX0_add_24 rfl ⟨rfl, h⟩
  · have h := h.2.2.2 hi
    refine pw_aaldB dX0_add_5 rfl (by rw [hi]; exact vi4_3) (by rw [hi]; rfl) ?_
    refine pw_iload_n (i := 1) dX0_add_6 rfl rfl ?_
    refine pw_dup2 dX0_add_7 rfl rfl ?_
    obtain ⟨hb, h⟩ := h
    refine pw_iald dX0_add_8 rfl hb ?_
    refine pw_iconst (v := 1) dX0_add_9 kc_1 ?_
    refine pw_iload_n (i := 2) dX0_add_10 rfl rfl ?_
    refine pw_ishl dX0_add_11 ?_
    refine pw_ior dX0_add_12 ?_
    obtain ⟨hb, h⟩ := h
    refine pw_iast dX0_add_13 rfl hb ?_
    generalize hτ7 : pw_up σ 13 (Int32.toNatClampNeg a1) ((σ 13 (Int32.toNatClampNeg a1)) ||| (1 <<< (a2 &&& 31))) = τ7
    have h := h τ7 hτ7.symm
    refine pw_aload_n (i := 0) dX0_add_14 rfl rfl ?_
    refine pw_dup dX0_add_15 rfl ?_
    refine pw_getI dX0_add_16 fl_X0_20 rfl rfl ?_
    refine pw_iconst (v := 1) dX0_add_19 kc_1 ?_
    refine pw_iadd dX0_add_20 ?_
    refine pw_put dX0_add_21 fp_X0_20 rfl rfl rfl rfl ?_
    generalize hτ8 : pw_up τ7 8 1 ((τ7 8 1) + 1) = τ8
    have h := h τ8 hτ8.symm
    exact pw_vret dX0_add_24 rfl ⟨rfl, h⟩
/-! X10_call -/
def R_X10_call (a1 : Int32) (a2 : Int32) (a3 : Int32) (a4 : Int32) (σ : pw_Mem) (K : Int32 → pw_Mem → Prop) : Prop := R_X10_kindOf a3 a4 σ (fun x2 τ1 => R_X10_refusalOfCall a1 a2 x2 τ1 (fun x4 τ3 => ((x4 = 0 → R_X0_add a1 a2 x2 τ3 (fun τ5 => R_X2_outdate  τ5 (fun τ6 => K (τ6 8 1) τ6))) ∧ (¬ x4 = 0 → K x4 τ3))))
set_option maxHeartbeats 4000000 in
theorem c_X10_call {L : pw_Lay} {d : Nat} {a1 : Int32} {a2 : Int32} {a3 : Int32} {a4 : Int32} {σ : pw_Mem} {K : Int32 → pw_Mem → Prop} (h : R_X10_call a1 a2 a3 a4 σ K) : CT L (d + 4) m_X10_call [.ref 0, .int a1, .int a2, .int a3, .int a4] σ (ki K) := by
  refine pw_enter (by decide) rfl (Nat.le_of_ble_eq_true rfl) (ls := [some (.ref 0), some (.int a1), some (.int a2), some (.int a3), some (.int a4), none, none]) rfl ?_
  unfold R_X10_call at h
  refine pw_iload_n (i := 3) dX10_call_0 rfl rfl ?_
  refine pw_iload dX10_call_1 rfl ?_
  refine pw_cSi [.int a3, .int a4] dX10_call_3 ms_X10_109 rfl rfl (Nat.le_of_ble_eq_true rfl) (c_X10_kindOf h) (fun x2 τ1 h => ?_)
  refine pw_istore (i := 5) (ls' := [some (.ref 0), some (.int a1), some (.int a2), some (.int a3), some (.int a4), some (.int x2), none]) dX10_call_6 (Nat.le_of_ble_eq_true rfl) rfl ?_
  refine pw_aload_n (i := 0) dX10_call_8 rfl rfl ?_
  refine pw_iload_n (i := 1) dX10_call_9 rfl rfl ?_
  refine pw_iload_n (i := 2) dX10_call_10 rfl rfl ?_
  refine pw_iload dX10_call_11 rfl ?_
  refine pw_cVi [.int a1, .int a2, .int x2] dX10_call_13 mv_X10_113 rfl rfl rfl (Nat.le_of_ble_eq_true rfl) (c_X10_refusalOfCall h) (fun x4 τ3 h => ?_)
  refine pw_istore (i := 6) (ls' := [some (.ref 0), some (.int a1), some (.int a2), some (.int a3), some (.int a4), some (.int x2), some (.int x4)]) dX10_call_16 (Nat.le_of_ble_eq_true rfl) rfl ?_
  refine pw_iload dX10_call_18 rfl ?_
  refine pw_if_eq (tgt := 26) dX10_call_20 rfl (fun q => ?_) (fun q => ?_)
  · have h := h.1 q
    refine pw_aload_n (i := 0) dX10_call_26 rfl rfl ?_
    refine pw_getR dX10_call_27 fl_X10_26 rfl rfl ?_
    refine pw_iload_n (i := 1) dX10_call_30 rfl rfl ?_
    refine pw_iload_n (i := 2) dX10_call_31 rfl rfl ?_
    refine pw_iload dX10_call_32 rfl ?_
    refine pw_cVv [.int a1, .int a2, .int x2] dX10_call_34 mv_X10_117 rfl rfl rfl (Nat.le_of_ble_eq_true rfl) (c_X0_add h) (fun τ5 h => ?_)
    refine pw_aload_n (i := 0) dX10_call_37 rfl rfl ?_
    refine pw_getR dX10_call_38 fl_X10_35 rfl rfl ?_
    refine pw_cVv [] dX10_call_41 mv_X10_91 rfl rfl rfl (Nat.le_of_ble_eq_true rfl) (c_X2_outdate h) (fun τ6 h => ?_)
    refine pw_aload_n (i := 0) dX10_call_44 rfl rfl ?_
    refine pw_getR dX10_call_45 fl_X10_26 rfl rfl ?_
    refine pw_getI dX10_call_48 fl_X10_120 rfl rfl ?_
    exact pw_ret dX10_call_51 rfl rfl ⟨_, rfl, h⟩
  · have h := h.2 q
    refine pw_iload dX10_call_23 rfl ?_
    exact pw_ret dX10_call_25 rfl rfl ⟨_, rfl, h⟩
/-! X0_remove -/
def R_X0_remove (a1 : Int32) (a2 : Int32) (a3 : Int32) (σ : pw_Mem) (K : pw_Mem → Prop) : Prop := ((a3 = 0 ∨ a3 = 1 ∨ a3 = 2 ∨ a3 = 3) ∧ (a3 = 0 → vp_in a1 20 ∧ vp_in a1 20 ∧ ∀ τ1, τ1 = pw_up σ 10 (Int32.toNatClampNeg a1) ((σ 10 (Int32.toNatClampNeg a1)) &&& ((1 <<< (a2 &&& 31)) ^^^ (-1))) → ∀ τ2, τ2 = pw_up τ1 8 1 ((τ1 8 1) - 1) → K τ2) ∧ (a3 = 1 → vp_in a1 20 ∧ vp_in a1 20 ∧ ∀ τ3, τ3 = pw_up σ 11 (Int32.toNatClampNeg a1) ((σ 11 (Int32.toNatClampNeg a1)) &&& ((1 <<< (a2 &&& 31)) ^^^ (-1))) → ∀ τ4, τ4 = pw_up τ3 8 1 ((τ3 8 1) - 1) → K τ4) ∧ (a3 = 2 → vp_in a1 20 ∧ vp_in a1 20 ∧ ∀ τ5, τ5 = pw_up σ 12 (Int32.toNatClampNeg a1) ((σ 12 (Int32.toNatClampNeg a1)) &&& ((1 <<< (a2 &&& 31)) ^^^ (-1))) → ∀ τ6, τ6 = pw_up τ5 8 1 ((τ5 8 1) - 1) → K τ6) ∧ (a3 = 3 → vp_in a1 20 ∧ vp_in a1 20 ∧ ∀ τ7, τ7 = pw_up σ 13 (Int32.toNatClampNeg a1) ((σ 13 (Int32.toNatClampNeg a1)) &&& ((1 <<< (a2 &&& 31)) ^^^ (-1))) → ∀ τ8, τ8 = pw_up τ7 8 1 ((τ7 8 1) - 1) → K τ8))
set_option maxHeartbeats 4000000 in
theorem c_X0_remove {L : pw_Lay} {d : Nat} {a1 : Int32} {a2 : Int32} {a3 : Int32} {σ : pw_Mem} {K : pw_Mem → Prop} (h : R_X0_remove a1 a2 a3 σ K) : CT L (d + 0) m_X0_remove [.ref 8, .int a1, .int a2, .int a3] σ (kv K) := by
  refine pw_enter (by decide) rfl (Nat.le_of_ble_eq_true rfl) (ls := [some (.ref 8), some (.int a1), some (.int a2), some (.int a3)]) rfl ?_
  unfold R_X0_remove at h
  refine pw_aload_n (i := 0) dX0_remove_0 rfl rfl ?_
  refine pw_getR dX0_remove_1 fl_X0_11 rfl rfl ?_
  refine pw_iload_n (i := 3) dX0_remove_4 rfl rfl ?_
  have hc4 := h.1
  have h := h.2
  rcases hc4 with hi | hi | hi | hi
  · have h := h.1 hi
    refine pw_aaldB dX0_remove_5 rfl (by rw [hi]; exact vi4_0) (by rw [hi]; rfl) ?_
    refine pw_iload_n (i := 1) dX0_remove_6 rfl rfl ?_
    refine pw_dup2 dX0_remove_7 rfl rfl ?_
    obtain ⟨hb, h⟩ := h
    refine pw_iald dX0_remove_8 rfl hb ?_
    refine pw_iconst (v := 1) dX0_remove_9 kc_1 ?_
    refine pw_iload_n (i := 2) dX0_remove_10 rfl rfl ?_
    refine pw_ishl dX0_remove_11 ?_
    refine pw_iconst (v := (-1)) dX0_remove_12 kc_m1 ?_
    refine pw_ixor dX0_remove_13 ?_
    refine pw_iand dX0_remove_14 ?_
    obtain ⟨hb, h⟩ := h
    refine pw_iast dX0_remove_15 rfl hb ?_
    generalize hτ1 : pw_up σ 10 (Int32.toNatClampNeg a1) ((σ 10 (Int32.toNatClampNeg a1)) &&& ((1 <<< (a2 &&& 31)) ^^^ (-1))) = τ1
    have h := h τ1 hτ1.symm
    refine pw_aload_n (i := 0) dX0_remove_16 rfl rfl ?_
    refine pw_dup dX0_remove_17 rfl ?_
    refine pw_getI dX0_remove_18 fl_X0_20 rfl rfl ?_
    refine pw_iconst (v := 1) dX0_remove_21 kc_1 ?_
    refine pw_isub dX0_remove_22 ?_
    refine pw_put dX0_remove_23 fp_X0_20 rfl rfl rfl rfl ?_
    generalize hτ2 : pw_up τ1 8 1 ((τ1 8 1) - 1) = τ2
    have h := h τ2 hτ2.symm
    exact pw_vret dX0_remove_26 rfl ⟨rfl, h⟩
  · have h := h.2.1 hi
    refine pw_aaldB dX0_remove_5 rfl (by rw [hi]; exact vi4_1) (by rw [hi]; rfl) ?_
    refine pw_iload_n (i := 1) dX0_remove_6 rfl rfl ?_
    refine pw_dup2 dX0_remove_7 rfl rfl ?_
    obtain ⟨hb, h⟩ := h
    refine pw_iald dX0_remove_8 rfl hb ?_
    refine pw_iconst (v := 1) dX0_remove_9 kc_1 ?_
    refine pw_iload_n (i := 2) dX0_remove_10 rfl rfl ?_
    refine pw_ishl dX0_remove_11 ?_
    refine pw_iconst (v := (-1)) dX0_remove_12 kc_m1 ?_
    refine pw_ixor dX0_remove_13 ?_
    refine pw_iand dX0_remove_14 ?_
    obtain ⟨hb, h⟩ := h
    refine pw_iast dX0_remove_15 rfl hb ?_
    generalize hτ3 : pw_up σ 11 (Int32.toNatClampNeg a1) ((σ 11 (Int32.toNatClampNeg a1)) &&& ((1 <<< (a2 &&& 31)) ^^^ (-1))) = τ3
    have h := h τ3 hτ3.symm
    refine pw_aload_n (i := 0) dX0_remove_16 rfl rfl ?_
    refine pw_dup dX0_remove_17 rfl ?_
    refine pw_getI dX0_remove_18 fl_X0_20 rfl rfl ?_
    refine pw_iconst (v := 1) dX0_remove_21 kc_1 ?_
    refine pw_isub dX0_remove_22 ?_
    refine pw_put dX0_remove_23 fp_X0_20 rfl rfl rfl rfl ?_
    generalize hτ4 : pw_up τ3 8 1 ((τ3 8 1) - 1) = τ4
    have h := h τ4 hτ4.symm
    exact pw_vret dX0_remove_26 rfl ⟨rfl, h⟩
  · have h := h.2.2.1 hi
    refine pw_aaldB dX0_remove_5 rfl (by rw [hi]; exact vi4_2) (by rw [hi]; rfl) ?_
    refine pw_iload_n (i := 1) dX0_remove_6 rfl rfl ?_
    refine pw_dup2 dX0_remove_7 rfl rfl ?_
    obtain ⟨hb, h⟩ := h
    refine pw_iald dX0_remove_8 rfl hb ?_
    refine pw_iconst (v := 1) dX0_remove_9 kc_1 ?_
    refine pw_iload_n (i := 2) dX0_remove_10 rfl rfl ?_
    refine pw_ishl dX0_remove_11 ?_
    refine pw_iconst (v := (-1)) dX0_remove_12 kc_m1 ?_
    refine pw_ixor dX0_remove_13 ?_
    refine pw_iand dX0_remove_14 ?_
    obtain ⟨hb, h⟩ := h
    refine pw_iast dX0_remove_15 rfl hb ?_
    generalize hτ5 : pw_up σ 12 (Int32.toNatClampNeg a1) ((σ 12 (Int32.toNatClampNeg a1)) &&& ((1 <<< (a2 &&& 31)) ^^^ (-1))) = τ5
    have h := h τ5 hτ5.symm
    refine pw_aload_n (i := 0) dX0_remove_16 rfl rfl ?_
    refine pw_dup dX0_remove_17 rfl ?_
    refine pw_getI dX0_remove_18 fl_X0_20 rfl rfl ?_
    refine pw_iconst (v := 1) dX0_remove_21 kc_1 ?_
    refine pw_isub dX0_remove_22 ?_
    refine pw_put dX0_remove_23 fp_X0_20 rfl rfl rfl rfl ?_
    generalize hτ6 : pw_up τ5 8 1 ((τ5 8 1) - 1) = τ6
    have h := h τ6 hτ6.symm
    exact pw_vret dX0_remove_26 rfl ⟨rfl, h⟩
  · have h := h.2.2.2 hi
    refine pw_aaldB dX0_remove_5 rfl (by rw [hi]; exact vi4_3) (by rw [hi]; rfl) ?_
    refine pw_iload_n (i := 1) dX0_remove_6 rfl rfl ?_
    refine pw_dup2 dX0_remove_7 rfl rfl ?_
    obtain ⟨hb, h⟩ := h
    refine pw_iald dX0_remove_8 rfl hb ?_
    refine pw_iconst (v := 1) dX0_remove_9 kc_1 ?_
    refine pw_iload_n (i := 2) dX0_remove_10 rfl rfl ?_
    refine pw_ishl dX0_remove_11 ?_
    refine pw_iconst (v := (-1)) dX0_remove_12 kc_m1 ?_
    refine pw_ixor dX0_remove_13 ?_
    refine pw_iand dX0_remove_14 ?_
    obtain ⟨hb, h⟩ := h
    refine pw_iast dX0_remove_15 rfl hb ?_
    generalize hτ7 : pw_up σ 13 (Int32.toNatClampNeg a1) ((σ 13 (Int32.toNatClampNeg a1)) &&& ((1 <<< (a2 &&& 31)) ^^^ (-1))) = τ7
    have h := h τ7 hτ7.symm
    refine pw_aload_n (i := 0) dX0_remove_16 rfl rfl ?_
    refine pw_dup dX0_remove_17 rfl ?_
    refine pw_getI dX0_remove_18 fl_X0_20 rfl rfl ?_
    refine pw_iconst (v := 1) dX0_remove_21 kc_1 ?_
    refine pw_isub dX0_remove_22 ?_
    refine pw_put dX0_remove_23 fp_X0_20 rfl rfl rfl rfl ?_
    generalize hτ8 : pw_up τ7 8 1 ((τ7 8 1) - 1) = τ8
    have h := h τ8 hτ8.symm
    exact pw_vret dX0_remove_26 rfl ⟨rfl, h⟩
/-! X10_cut -/
def R_X10_cut (a1 : Int32) (a2 : Int32) (a3 : Int32) (a4 : Int32) (σ : pw_Mem) (K : Int32 → pw_Mem → Prop) : Prop := R_X10_kindOf a3 a4 σ (fun x2 τ1 => R_X10_canBeCall a1 a2 x2 τ1 (fun x4 τ3 => ((¬ x4 = 0 → R_X0_has a1 a2 x2 τ3 (fun x6 τ5 => ((¬ x6 = 0 → R_X0_remove a1 a2 x2 τ5 (fun τ7 => R_X2_outdate  τ7 (fun τ8 => K (τ8 8 1) τ8))) ∧ (x6 = 0 → K (-2) τ5)))) ∧ (x4 = 0 → K (-1) τ3))))
set_option maxHeartbeats 4000000 in
theorem c_X10_cut {L : pw_Lay} {d : Nat} {a1 : Int32} {a2 : Int32} {a3 : Int32} {a4 : Int32} {σ : pw_Mem} {K : Int32 → pw_Mem → Prop} (h : R_X10_cut a1 a2 a3 a4 σ K) : CT L (d + 3) m_X10_cut [.ref 0, .int a1, .int a2, .int a3, .int a4] σ (ki K) := by
  refine pw_enter (by decide) rfl (Nat.le_of_ble_eq_true rfl) (ls := [some (.ref 0), some (.int a1), some (.int a2), some (.int a3), some (.int a4), none]) rfl ?_
  unfold R_X10_cut at h
  refine pw_iload_n (i := 3) dX10_cut_0 rfl rfl ?_
  refine pw_iload dX10_cut_1 rfl ?_
  refine pw_cSi [.int a3, .int a4] dX10_cut_3 ms_X10_109 rfl rfl (Nat.le_of_ble_eq_true rfl) (c_X10_kindOf h) (fun x2 τ1 h => ?_)
  refine pw_istore (i := 5) (ls' := [some (.ref 0), some (.int a1), some (.int a2), some (.int a3), some (.int a4), some (.int x2)]) dX10_cut_6 (Nat.le_of_ble_eq_true rfl) rfl ?_
  refine pw_aload_n (i := 0) dX10_cut_8 rfl rfl ?_
  refine pw_iload_n (i := 1) dX10_cut_9 rfl rfl ?_
  refine pw_iload_n (i := 2) dX10_cut_10 rfl rfl ?_
  refine pw_iload dX10_cut_11 rfl ?_
  refine pw_cVi [.int a1, .int a2, .int x2] dX10_cut_13 mv_X10_121 rfl rfl rfl (Nat.le_of_ble_eq_true rfl) (c_X10_canBeCall h) (fun x4 τ3 h => ?_)
  refine pw_if_ne (tgt := 21) dX10_cut_16 rfl (fun q => ?_) (fun q => ?_)
  · have h := h.1 q
    refine pw_aload_n (i := 0) dX10_cut_21 rfl rfl ?_
    refine pw_getR dX10_cut_22 fl_X10_26 rfl rfl ?_
    refine pw_iload_n (i := 1) dX10_cut_25 rfl rfl ?_
    refine pw_iload_n (i := 2) dX10_cut_26 rfl rfl ?_
    refine pw_iload dX10_cut_27 rfl ?_
    refine pw_cVi [.int a1, .int a2, .int x2] dX10_cut_29 mv_X10_124 rfl rfl rfl (Nat.le_of_ble_eq_true rfl) (c_X0_has h) (fun x6 τ5 h => ?_)
    refine pw_if_ne (tgt := 38) dX10_cut_32 rfl (fun q => ?_) (fun q => ?_)
    · have h := h.1 q
      refine pw_aload_n (i := 0) dX10_cut_38 rfl rfl ?_
      refine pw_getR dX10_cut_39 fl_X10_26 rfl rfl ?_
      refine pw_iload_n (i := 1) dX10_cut_42 rfl rfl ?_
      refine pw_iload_n (i := 2) dX10_cut_43 rfl rfl ?_
      refine pw_iload dX10_cut_44 rfl ?_
      refine pw_cVv [.int a1, .int a2, .int x2] dX10_cut_46 mv_X10_127 rfl rfl rfl (Nat.le_of_ble_eq_true rfl) (c_X0_remove h) (fun τ7 h => ?_)
      refine pw_aload_n (i := 0) dX10_cut_49 rfl rfl ?_
      refine pw_getR dX10_cut_50 fl_X10_35 rfl rfl ?_
      refine pw_cVv [] dX10_cut_53 mv_X10_91 rfl rfl rfl (Nat.le_of_ble_eq_true rfl) (c_X2_outdate h) (fun τ8 h => ?_)
      refine pw_aload_n (i := 0) dX10_cut_56 rfl rfl ?_
      refine pw_getR dX10_cut_57 fl_X10_26 rfl rfl ?_
      refine pw_getI dX10_cut_60 fl_X10_120 rfl rfl ?_
      exact pw_ret dX10_cut_63 rfl rfl ⟨_, rfl, h⟩
    · have h := h.2 q
      refine pw_bipush (v := (-2)) dX10_cut_35 kb_m2 ?_
      exact pw_ret dX10_cut_37 rfl rfl ⟨_, rfl, h⟩
  · have h := h.2 q
    refine pw_iconst (v := (-1)) dX10_cut_19 kc_m1 ?_
    exact pw_ret dX10_cut_20 rfl rfl ⟨_, rfl, h⟩
/-! X4_unionOf -/
def R_X4_unionOf_L4 (K : Int32 → pw_Mem → Prop) (KX : Int32 → Int32 → Int32 → pw_Mem → Prop) : Nat → Int32 → Int32 → Int32 → pw_Mem → Prop
  | 0, _, _, _, _ => False
  | n + 1, l1, l2, l3, σ => ((8 ≤ l3 → KX l1 l2 l3 σ) ∧ (¬ 8 ≤ l3 → R_X10_holds l1 l3 σ (fun x2 τ1 => ((x2 = 0 → R_X4_unionOf_L4 K KX n l1 l2 (l3 + 1) τ1) ∧ (¬ x2 = 0 → vp_in l3 8 ∧ R_X4_unionOf_L4 K KX n l1 (l2 ||| (τ1 7 (Int32.toNatClampNeg l3))) (l3 + 1) τ1)))))
def R_X4_unionOf (a2 : Int32) (σ : pw_Mem) (K : Int32 → pw_Mem → Prop) : Prop := ∃ n7, R_X4_unionOf_L4 K (fun y3 y4 y5 τ6 => K y4 τ6) n7 a2 0 0 σ
set_option maxHeartbeats 4000000 in
theorem t_X4_unionOf_L4 {L : pw_Lay} {d : Nat} {K : Int32 → pw_Mem → Prop} {KX : Int32 → Int32 → Int32 → pw_Mem → Prop} : ∀ (n : Nat) (l1 : Int32) (l2 : Int32) (l3 : Int32) (σ : pw_Mem), R_X4_unionOf_L4 K KX n l1 l2 l3 σ → (∀ (l1 : Int32) (l2 : Int32) (l3 : Int32) (τ : pw_Mem), KX l1 l2 l3 τ → PW L (d + 1) m_X4_unionOf (ki K) 30 [some (.ref 7), some (.int l1), some (.int l2), some (.int l3)] [] τ) → PW L (d + 1) m_X4_unionOf (ki K) 4 [some (.ref 7), some (.int l1), some (.int l2), some (.int l3)] [] σ := by
  intro n
  induction n with
  | zero => intro l1 l2 l3 _ h _; exact h.elim
  | succ n ih =>
    intro l1 l2 l3 σ h hX
    unfold R_X4_unionOf_L4 at h
    refine pw_iload_n (i := 3) dX4_unionOf_4 rfl rfl ?_
    refine pw_bipush (v := 8) dX4_unionOf_5 kb_8 ?_
    refine pw_icmp_ge (tgt := 30) dX4_unionOf_7 rfl (fun q => ?_) (fun q => ?_)
    · have h := h.1 q
      exact hX _ _ _ _ h
    · have h := h.2 q
      refine pw_iload_n (i := 1) dX4_unionOf_10 rfl rfl ?_
      refine pw_iload_n (i := 3) dX4_unionOf_11 rfl rfl ?_
      refine pw_cNi [.int l1, .int l3] dX4_unionOf_12 mn_X4_28 rfl rfl (Nat.le_of_ble_eq_true rfl) (c_X10_holds h) (fun x2 τ1 h => ?_)
      refine pw_if_eq (tgt := 24) dX4_unionOf_15 rfl (fun q => ?_) (fun q => ?_)
      · have h := h.1 q
        refine pw_iinc (i := 3) (v := l3 + 1) (ls' := [some (.ref 7), some (.int l1), some (.int l2), some (.int (l3 + 1))]) dX4_unionOf_24 rfl (by rw [kc_1]) (Nat.le_of_ble_eq_true rfl) rfl ?_
        refine pw_goto (tgt := 4) dX4_unionOf_27 rfl ?_
        exact ih _ _ _ _ h hX
      · have h := h.2 q
        refine pw_iload_n (i := 2) dX4_unionOf_18 rfl rfl ?_
        refine pw_aload_n (i := 0) dX4_unionOf_19 rfl rfl ?_
        refine pw_iload_n (i := 3) dX4_unionOf_20 rfl rfl ?_
        obtain ⟨hb, h⟩ := h
        refine pw_iald dX4_unionOf_21 rfl hb ?_
        refine pw_ior dX4_unionOf_22 ?_
        refine pw_istore_n (i := 2) (ls' := [some (.ref 7), some (.int l1), some (.int (l2 ||| (τ1 7 (Int32.toNatClampNeg l3)))), some (.int l3)]) dX4_unionOf_23 rfl (Nat.le_of_ble_eq_true rfl) rfl ?_
        refine pw_iinc (i := 3) (v := l3 + 1) (ls' := [some (.ref 7), some (.int l1), some (.int (l2 ||| (τ1 7 (Int32.toNatClampNeg l3)))), some (.int (l3 + 1))]) dX4_unionOf_24 rfl (by rw [kc_1]) (Nat.le_of_ble_eq_true rfl) rfl ?_
        refine pw_goto (tgt := 4) dX4_unionOf_27 rfl ?_
        exact ih _ _ _ _ h hX
set_option maxHeartbeats 4000000 in
theorem c_X4_unionOf {L : pw_Lay} {d : Nat} {a2 : Int32} {σ : pw_Mem} {K : Int32 → pw_Mem → Prop} (h : R_X4_unionOf a2 σ K) : CT L (d + 1) m_X4_unionOf [.ref 7, .int a2] σ (ki K) := by
  refine pw_enter (by decide) rfl (Nat.le_of_ble_eq_true rfl) (ls := [some (.ref 7), some (.int a2), none, none]) rfl ?_
  unfold R_X4_unionOf at h
  refine pw_iconst (v := 0) dX4_unionOf_0 kc_0 ?_
  refine pw_istore_n (i := 2) (ls' := [some (.ref 7), some (.int a2), some (.int 0), none]) dX4_unionOf_1 rfl (Nat.le_of_ble_eq_true rfl) rfl ?_
  refine pw_iconst (v := 0) dX4_unionOf_2 kc_0 ?_
  refine pw_istore_n (i := 3) (ls' := [some (.ref 7), some (.int a2), some (.int 0), some (.int 0)]) dX4_unionOf_3 rfl (Nat.le_of_ble_eq_true rfl) rfl ?_
  obtain ⟨n7, h⟩ := h
  refine t_X4_unionOf_L4 _ _ _ _ _ h (fun y3 y4 y5 τ6 h => ?_)
  refine pw_iload_n (i := 2) dX4_unionOf_30 rfl rfl ?_
  exact pw_ret dX4_unionOf_31 rfl rfl ⟨_, rfl, h⟩
/-! X4_spreadGoals -/
def R_X4_spreadGoals_L10 (K : pw_Mem → Prop) (KX : Int32 → Int32 → pw_Mem → Prop) : Nat → Int32 → Int32 → pw_Mem → Prop
  | 0, _, _, _ => False
  | n + 1, l1, l2, σ => ((8 ≤ l2 → KX l1 l2 σ) ∧ (¬ 8 ≤ l2 → vp_in l2 8 ∧ vp_in l2 8 ∧ vp_in l2 8 ∧ R_X4_unionOf (σ 6 (Int32.toNatClampNeg l2)) σ (fun x2 τ1 => vp_in l2 8 ∧ ∀ τ3, τ3 = pw_up τ1 7 (Int32.toNatClampNeg l2) ((σ 7 (Int32.toNatClampNeg l2)) ||| ((σ 5 (Int32.toNatClampNeg l2)) ||| x2)) → R_X4_spreadGoals_L10 K KX n l1 (l2 + 1) τ3)))
def R_X4_spreadGoals_L2 (K : pw_Mem → Prop) (KX : Int32 → pw_Mem → Prop) : Nat → Int32 → pw_Mem → Prop
  | 0, _, _ => False
  | n + 1, l1, σ => ((8 ≤ l1 → KX l1 σ) ∧ (¬ 8 ≤ l1 → ∃ n7, R_X4_spreadGoals_L10 K (fun y4 y5 τ6 => R_X4_spreadGoals_L2 K KX n (y4 + 1) τ6) n7 l1 0 σ))
def R_X4_spreadGoals  (σ : pw_Mem) (K : pw_Mem → Prop) : Prop := ∃ n10, R_X4_spreadGoals_L2 K (fun y8 τ9 => K τ9) n10 0 σ
set_option maxHeartbeats 4000000 in
theorem t_X4_spreadGoals_L10 {L : pw_Lay} {d : Nat} {K : pw_Mem → Prop} {KX : Int32 → Int32 → pw_Mem → Prop} : ∀ (n : Nat) (l1 : Int32) (l2 : Int32) (σ : pw_Mem), R_X4_spreadGoals_L10 K KX n l1 l2 σ → (∀ (l1 : Int32) (l2 : Int32) (τ : pw_Mem), KX l1 l2 τ → PW L (d + 2) m_X4_spreadGoals (kv K) 51 [some (.ref 4), some (.int l1), some (.int l2)] [] τ) → PW L (d + 2) m_X4_spreadGoals (kv K) 10 [some (.ref 4), some (.int l1), some (.int l2)] [] σ := by
  intro n
  induction n with
  | zero => intro l1 l2 _ h _; exact h.elim
  | succ n ih =>
    intro l1 l2 σ h hX
    unfold R_X4_spreadGoals_L10 at h
    refine pw_iload_n (i := 2) dX4_spreadGoals_10 rfl rfl ?_
    refine pw_bipush (v := 8) dX4_spreadGoals_11 kb_8 ?_
    refine pw_icmp_ge (tgt := 51) dX4_spreadGoals_13 rfl (fun q => ?_) (fun q => ?_)
    · have h := h.1 q
      exact hX _ _ _ h
    · have h := h.2 q
      refine pw_aload_n (i := 0) dX4_spreadGoals_16 rfl rfl ?_
      refine pw_getR dX4_spreadGoals_17 fl_X4_18 rfl rfl ?_
      refine pw_iload_n (i := 2) dX4_spreadGoals_20 rfl rfl ?_
      refine pw_dup2 dX4_spreadGoals_21 rfl rfl ?_
      obtain ⟨hb, h⟩ := h
      refine pw_iald dX4_spreadGoals_22 rfl hb ?_
      refine pw_aload_n (i := 0) dX4_spreadGoals_23 rfl rfl ?_
      refine pw_getR dX4_spreadGoals_24 fl_X4_9 rfl rfl ?_
      refine pw_iload_n (i := 2) dX4_spreadGoals_27 rfl rfl ?_
      obtain ⟨hb, h⟩ := h
      refine pw_iald dX4_spreadGoals_28 rfl hb ?_
      refine pw_aload_n (i := 0) dX4_spreadGoals_29 rfl rfl ?_
      refine pw_getR dX4_spreadGoals_30 fl_X4_18 rfl rfl ?_
      refine pw_aload_n (i := 0) dX4_spreadGoals_33 rfl rfl ?_
      refine pw_getR dX4_spreadGoals_34 fl_X4_15 rfl rfl ?_
      refine pw_iload_n (i := 2) dX4_spreadGoals_37 rfl rfl ?_
      obtain ⟨hb, h⟩ := h
      refine pw_iald dX4_spreadGoals_38 rfl hb ?_
      refine pw_cSi [.ref 7, .int (σ 6 (Int32.toNatClampNeg l2))] dX4_spreadGoals_39 ms_X4_24 rfl rfl (Nat.le_of_ble_eq_true rfl) (c_X4_unionOf h) (fun x2 τ1 h => ?_)
      refine pw_ior dX4_spreadGoals_42 ?_
      refine pw_ior dX4_spreadGoals_43 ?_
      obtain ⟨hb, h⟩ := h
      refine pw_iast dX4_spreadGoals_44 rfl hb ?_
      generalize hτ3 : pw_up τ1 7 (Int32.toNatClampNeg l2) ((σ 7 (Int32.toNatClampNeg l2)) ||| ((σ 5 (Int32.toNatClampNeg l2)) ||| x2)) = τ3
      have h := h τ3 hτ3.symm
      refine pw_iinc (i := 2) (v := l2 + 1) (ls' := [some (.ref 4), some (.int l1), some (.int (l2 + 1))]) dX4_spreadGoals_45 rfl (by rw [kc_1]) (Nat.le_of_ble_eq_true rfl) rfl ?_
      refine pw_goto (tgt := 10) dX4_spreadGoals_48 rfl ?_
      exact ih _ _ _ h hX
set_option maxHeartbeats 4000000 in
theorem t_X4_spreadGoals_L2 {L : pw_Lay} {d : Nat} {K : pw_Mem → Prop} {KX : Int32 → pw_Mem → Prop} : ∀ (n : Nat) (l1 : Int32) (σ : pw_Mem), R_X4_spreadGoals_L2 K KX n l1 σ → (∀ (l1 : Int32) (τ : pw_Mem), KX l1 τ → PW L (d + 2) m_X4_spreadGoals (kv K) 57 [some (.ref 4), some (.int l1), none] [] τ) → PW L (d + 2) m_X4_spreadGoals (kv K) 2 [some (.ref 4), some (.int l1), none] [] σ := by
  intro n
  induction n with
  | zero => intro l1 _ h _; exact h.elim
  | succ n ih =>
    intro l1 σ h hX
    unfold R_X4_spreadGoals_L2 at h
    refine pw_iload_n (i := 1) dX4_spreadGoals_2 rfl rfl ?_
    refine pw_bipush (v := 8) dX4_spreadGoals_3 kb_8 ?_
    refine pw_icmp_ge (tgt := 57) dX4_spreadGoals_5 rfl (fun q => ?_) (fun q => ?_)
    · have h := h.1 q
      exact hX _ _ h
    · have h := h.2 q
      refine pw_iconst (v := 0) dX4_spreadGoals_8 kc_0 ?_
      refine pw_istore_n (i := 2) (ls' := [some (.ref 4), some (.int l1), some (.int 0)]) dX4_spreadGoals_9 rfl (Nat.le_of_ble_eq_true rfl) rfl ?_
      obtain ⟨n7, h⟩ := h
      refine t_X4_spreadGoals_L10 _ _ _ _ h (fun y4 y5 τ6 h => ?_)
      refine pw_iinc (i := 1) (v := y4 + 1) (ls' := [some (.ref 4), some (.int (y4 + 1)), some (.int y5)]) dX4_spreadGoals_51 rfl (by rw [kc_1]) (Nat.le_of_ble_eq_true rfl) rfl ?_
      refine pw_goto (tgt := 2) dX4_spreadGoals_54 rfl ?_
      refine pw_forget (ls' := [some (.ref 4), some (.int (y4 + 1)), none]) (And.intro rfl (And.intro rfl trivial)) ?_
      exact ih _ _ h hX
set_option maxHeartbeats 4000000 in
theorem c_X4_spreadGoals {L : pw_Lay} {d : Nat}  {σ : pw_Mem} {K : pw_Mem → Prop} (h : R_X4_spreadGoals  σ K) : CT L (d + 2) m_X4_spreadGoals [.ref 4] σ (kv K) := by
  refine pw_enter (by decide) rfl (Nat.le_of_ble_eq_true rfl) (ls := [some (.ref 4), none, none]) rfl ?_
  unfold R_X4_spreadGoals at h
  refine pw_iconst (v := 0) dX4_spreadGoals_0 kc_0 ?_
  refine pw_istore_n (i := 1) (ls' := [some (.ref 4), some (.int 0), none]) dX4_spreadGoals_1 rfl (Nat.le_of_ble_eq_true rfl) rfl ?_
  obtain ⟨n10, h⟩ := h
  refine t_X4_spreadGoals_L2 _ _ _ h (fun y8 τ9 h => ?_)
  exact pw_vret dX4_spreadGoals_57 rfl ⟨rfl, h⟩
/-! X4_addTaken -/
def R_X4_addTaken (a1 : Int32) (a2 : Int32) (σ : pw_Mem) (K : pw_Mem → Prop) : Prop := vp_in a1 8 ∧ vp_in a1 8 ∧ ∀ τ1, τ1 = pw_up σ 5 (Int32.toNatClampNeg a1) ((σ 5 (Int32.toNatClampNeg a1)) ||| (1 <<< (a2 &&& 31))) → R_X4_spreadGoals  τ1 (fun τ2 => K τ2)
set_option maxHeartbeats 4000000 in
theorem c_X4_addTaken {L : pw_Lay} {d : Nat} {a1 : Int32} {a2 : Int32} {σ : pw_Mem} {K : pw_Mem → Prop} (h : R_X4_addTaken a1 a2 σ K) : CT L (d + 3) m_X4_addTaken [.ref 4, .int a1, .int a2] σ (kv K) := by
  refine pw_enter (by decide) rfl (Nat.le_of_ble_eq_true rfl) (ls := [some (.ref 4), some (.int a1), some (.int a2)]) rfl ?_
  unfold R_X4_addTaken at h
  refine pw_aload_n (i := 0) dX4_addTaken_0 rfl rfl ?_
  refine pw_getR dX4_addTaken_1 fl_X4_9 rfl rfl ?_
  refine pw_iload_n (i := 1) dX4_addTaken_4 rfl rfl ?_
  refine pw_dup2 dX4_addTaken_5 rfl rfl ?_
  obtain ⟨hb, h⟩ := h
  refine pw_iald dX4_addTaken_6 rfl hb ?_
  refine pw_iconst (v := 1) dX4_addTaken_7 kc_1 ?_
  refine pw_iload_n (i := 2) dX4_addTaken_8 rfl rfl ?_
  refine pw_ishl dX4_addTaken_9 ?_
  refine pw_ior dX4_addTaken_10 ?_
  obtain ⟨hb, h⟩ := h
  refine pw_iast dX4_addTaken_11 rfl hb ?_
  generalize hτ1 : pw_up σ 5 (Int32.toNatClampNeg a1) ((σ 5 (Int32.toNatClampNeg a1)) ||| (1 <<< (a2 &&& 31))) = τ1
  have h := h τ1 hτ1.symm
  refine pw_aload_n (i := 0) dX4_addTaken_12 rfl rfl ?_
  refine pw_cVv [] dX4_addTaken_13 mv_X4_21 rfl rfl rfl (Nat.le_of_ble_eq_true rfl) (c_X4_spreadGoals h) (fun τ2 h => ?_)
  exact pw_vret dX4_addTaken_16 rfl ⟨rfl, h⟩
/-! X10_take -/
def R_X10_take (a1 : Int32) (a2 : Int32) (σ : pw_Mem) (K : Int32 → pw_Mem → Prop) : Prop := R_X10_isPointer a1 σ (fun x2 τ1 => ((x2 = 0 → K (-1) τ1) ∧ (¬ x2 = 0 → R_X10_isRoutine a2 τ1 (fun x4 τ3 => ((¬ x4 = 0 → vp_in a1 8 ∧ R_X10_holds (τ3 5 (Int32.toNatClampNeg a1)) a2 τ3 (fun x6 τ5 => ((x6 = 0 → R_X4_addTaken a1 a2 τ5 (fun τ7 => R_X2_outdate  τ7 (fun τ8 => K 1 τ8))) ∧ (¬ x6 = 0 → K (-2) τ5)))) ∧ (x4 = 0 → K (-1) τ3))))))
set_option maxHeartbeats 4000000 in
theorem c_X10_take {L : pw_Lay} {d : Nat} {a1 : Int32} {a2 : Int32} {σ : pw_Mem} {K : Int32 → pw_Mem → Prop} (h : R_X10_take a1 a2 σ K) : CT L (d + 4) m_X10_take [.ref 0, .int a1, .int a2] σ (ki K) := by
  refine pw_enter (by decide) rfl (Nat.le_of_ble_eq_true rfl) (ls := [some (.ref 0), some (.int a1), some (.int a2)]) rfl ?_
  unfold R_X10_take at h
  refine pw_iload_n (i := 1) dX10_take_0 rfl rfl ?_
  refine pw_cSi [.int a1] dX10_take_1 ms_X10_130 rfl rfl (Nat.le_of_ble_eq_true rfl) (c_X10_isPointer h) (fun x2 τ1 h => ?_)
  refine pw_if_eq (tgt := 15) dX10_take_4 rfl (fun q => ?_) (fun q => ?_)
  · have h := h.1 q
    refine pw_iconst (v := (-1)) dX10_take_15 kc_m1 ?_
    exact pw_ret dX10_take_16 rfl rfl ⟨_, rfl, h⟩
  · have h := h.2 q
    refine pw_aload_n (i := 0) dX10_take_7 rfl rfl ?_
    refine pw_iload_n (i := 2) dX10_take_8 rfl rfl ?_
    refine pw_cVi [.int a2] dX10_take_9 mv_X10_98 rfl rfl rfl (Nat.le_of_ble_eq_true rfl) (c_X10_isRoutine h) (fun x4 τ3 h => ?_)
    refine pw_if_ne (tgt := 17) dX10_take_12 rfl (fun q => ?_) (fun q => ?_)
    · have h := h.1 q
      refine pw_aload_n (i := 0) dX10_take_17 rfl rfl ?_
      refine pw_getR dX10_take_18 fl_X10_19 rfl rfl ?_
      refine pw_getR dX10_take_21 fl_X10_133 rfl rfl ?_
      refine pw_iload_n (i := 1) dX10_take_24 rfl rfl ?_
      obtain ⟨hb, h⟩ := h
      refine pw_iald dX10_take_25 rfl hb ?_
      refine pw_iload_n (i := 2) dX10_take_26 rfl rfl ?_
      refine pw_cSi [.int (τ3 5 (Int32.toNatClampNeg a1)), .int a2] dX10_take_27 ms_X10_136 rfl rfl (Nat.le_of_ble_eq_true rfl) (c_X10_holds h) (fun x6 τ5 h => ?_)
      refine pw_if_eq (tgt := 36) dX10_take_30 rfl (fun q => ?_) (fun q => ?_)
      · have h := h.1 q
        refine pw_aload_n (i := 0) dX10_take_36 rfl rfl ?_
        refine pw_getR dX10_take_37 fl_X10_19 rfl rfl ?_
        refine pw_iload_n (i := 1) dX10_take_40 rfl rfl ?_
        refine pw_iload_n (i := 2) dX10_take_41 rfl rfl ?_
        refine pw_cVv [.int a1, .int a2] dX10_take_42 mv_X10_140 rfl rfl rfl (Nat.le_of_ble_eq_true rfl) (c_X4_addTaken h) (fun τ7 h => ?_)
        refine pw_aload_n (i := 0) dX10_take_45 rfl rfl ?_
        refine pw_getR dX10_take_46 fl_X10_35 rfl rfl ?_
        refine pw_cVv [] dX10_take_49 mv_X10_91 rfl rfl rfl (Nat.le_of_ble_eq_true rfl) (c_X2_outdate h) (fun τ8 h => ?_)
        refine pw_iconst (v := 1) dX10_take_52 kc_1 ?_
        exact pw_ret dX10_take_53 rfl rfl ⟨_, rfl, h⟩
      · have h := h.2 q
        refine pw_bipush (v := (-2)) dX10_take_33 kb_m2 ?_
        exact pw_ret dX10_take_35 rfl rfl ⟨_, rfl, h⟩
    · have h := h.2 q
      refine pw_iconst (v := (-1)) dX10_take_15 kc_m1 ?_
      exact pw_ret dX10_take_16 rfl rfl ⟨_, rfl, h⟩
/-! X4_addSource -/
def R_X4_addSource (a1 : Int32) (a2 : Int32) (σ : pw_Mem) (K : pw_Mem → Prop) : Prop := vp_in a1 8 ∧ vp_in a1 8 ∧ ∀ τ1, τ1 = pw_up σ 6 (Int32.toNatClampNeg a1) ((σ 6 (Int32.toNatClampNeg a1)) ||| (1 <<< (a2 &&& 31))) → R_X4_spreadGoals  τ1 (fun τ2 => K τ2)
set_option maxHeartbeats 4000000 in
theorem c_X4_addSource {L : pw_Lay} {d : Nat} {a1 : Int32} {a2 : Int32} {σ : pw_Mem} {K : pw_Mem → Prop} (h : R_X4_addSource a1 a2 σ K) : CT L (d + 3) m_X4_addSource [.ref 4, .int a1, .int a2] σ (kv K) := by
  refine pw_enter (by decide) rfl (Nat.le_of_ble_eq_true rfl) (ls := [some (.ref 4), some (.int a1), some (.int a2)]) rfl ?_
  unfold R_X4_addSource at h
  refine pw_aload_n (i := 0) dX4_addSource_0 rfl rfl ?_
  refine pw_getR dX4_addSource_1 fl_X4_15 rfl rfl ?_
  refine pw_iload_n (i := 1) dX4_addSource_4 rfl rfl ?_
  refine pw_dup2 dX4_addSource_5 rfl rfl ?_
  obtain ⟨hb, h⟩ := h
  refine pw_iald dX4_addSource_6 rfl hb ?_
  refine pw_iconst (v := 1) dX4_addSource_7 kc_1 ?_
  refine pw_iload_n (i := 2) dX4_addSource_8 rfl rfl ?_
  refine pw_ishl dX4_addSource_9 ?_
  refine pw_ior dX4_addSource_10 ?_
  obtain ⟨hb, h⟩ := h
  refine pw_iast dX4_addSource_11 rfl hb ?_
  generalize hτ1 : pw_up σ 6 (Int32.toNatClampNeg a1) ((σ 6 (Int32.toNatClampNeg a1)) ||| (1 <<< (a2 &&& 31))) = τ1
  have h := h τ1 hτ1.symm
  refine pw_aload_n (i := 0) dX4_addSource_12 rfl rfl ?_
  refine pw_cVv [] dX4_addSource_13 mv_X4_21 rfl rfl rfl (Nat.le_of_ble_eq_true rfl) (c_X4_spreadGoals h) (fun τ2 h => ?_)
  exact pw_vret dX4_addSource_16 rfl ⟨rfl, h⟩
/-! X10_flow -/
def R_X10_flow (a1 : Int32) (a2 : Int32) (σ : pw_Mem) (K : Int32 → pw_Mem → Prop) : Prop := R_X10_isPointer a1 σ (fun x2 τ1 => ((x2 = 0 → K (-1) τ1) ∧ (¬ x2 = 0 → R_X10_isPointer a2 τ1 (fun x4 τ3 => ((¬ x4 = 0 → ((a1 = a2 → K (-2) τ3) ∧ (¬ a1 = a2 → vp_in a1 8 ∧ R_X10_holds (τ3 6 (Int32.toNatClampNeg a1)) a2 τ3 (fun x6 τ5 => ((x6 = 0 → R_X4_addSource a1 a2 τ5 (fun τ7 => R_X2_outdate  τ7 (fun τ8 => K 1 τ8))) ∧ (¬ x6 = 0 → K (-2) τ5)))))) ∧ (x4 = 0 → K (-1) τ3))))))
set_option maxHeartbeats 4000000 in
theorem c_X10_flow {L : pw_Lay} {d : Nat} {a1 : Int32} {a2 : Int32} {σ : pw_Mem} {K : Int32 → pw_Mem → Prop} (h : R_X10_flow a1 a2 σ K) : CT L (d + 4) m_X10_flow [.ref 0, .int a1, .int a2] σ (ki K) := by
  refine pw_enter (by decide) rfl (Nat.le_of_ble_eq_true rfl) (ls := [some (.ref 0), some (.int a1), some (.int a2)]) rfl ?_
  unfold R_X10_flow at h
  refine pw_iload_n (i := 1) dX10_flow_0 rfl rfl ?_
  refine pw_cSi [.int a1] dX10_flow_1 ms_X10_130 rfl rfl (Nat.le_of_ble_eq_true rfl) (c_X10_isPointer h) (fun x2 τ1 h => ?_)
  refine pw_if_eq (tgt := 14) dX10_flow_4 rfl (fun q => ?_) (fun q => ?_)
  · have h := h.1 q
    refine pw_iconst (v := (-1)) dX10_flow_14 kc_m1 ?_
    exact pw_ret dX10_flow_15 rfl rfl ⟨_, rfl, h⟩
  · have h := h.2 q
    refine pw_iload_n (i := 2) dX10_flow_7 rfl rfl ?_
    refine pw_cSi [.int a2] dX10_flow_8 ms_X10_130 rfl rfl (Nat.le_of_ble_eq_true rfl) (c_X10_isPointer h) (fun x4 τ3 h => ?_)
    refine pw_if_ne (tgt := 16) dX10_flow_11 rfl (fun q => ?_) (fun q => ?_)
    · have h := h.1 q
      refine pw_iload_n (i := 1) dX10_flow_16 rfl rfl ?_
      refine pw_iload_n (i := 2) dX10_flow_17 rfl rfl ?_
      refine pw_icmp_eq (tgt := 37) dX10_flow_18 rfl (fun q => ?_) (fun q => ?_)
      · have h := h.1 q
        refine pw_bipush (v := (-2)) dX10_flow_37 kb_m2 ?_
        exact pw_ret dX10_flow_39 rfl rfl ⟨_, rfl, h⟩
      · have h := h.2 q
        refine pw_aload_n (i := 0) dX10_flow_21 rfl rfl ?_
        refine pw_getR dX10_flow_22 fl_X10_19 rfl rfl ?_
        refine pw_getR dX10_flow_25 fl_X10_144 rfl rfl ?_
        refine pw_iload_n (i := 1) dX10_flow_28 rfl rfl ?_
        obtain ⟨hb, h⟩ := h
        refine pw_iald dX10_flow_29 rfl hb ?_
        refine pw_iload_n (i := 2) dX10_flow_30 rfl rfl ?_
        refine pw_cSi [.int (τ3 6 (Int32.toNatClampNeg a1)), .int a2] dX10_flow_31 ms_X10_136 rfl rfl (Nat.le_of_ble_eq_true rfl) (c_X10_holds h) (fun x6 τ5 h => ?_)
        refine pw_if_eq (tgt := 40) dX10_flow_34 rfl (fun q => ?_) (fun q => ?_)
        · have h := h.1 q
          refine pw_aload_n (i := 0) dX10_flow_40 rfl rfl ?_
          refine pw_getR dX10_flow_41 fl_X10_19 rfl rfl ?_
          refine pw_iload_n (i := 1) dX10_flow_44 rfl rfl ?_
          refine pw_iload_n (i := 2) dX10_flow_45 rfl rfl ?_
          refine pw_cVv [.int a1, .int a2] dX10_flow_46 mv_X10_147 rfl rfl rfl (Nat.le_of_ble_eq_true rfl) (c_X4_addSource h) (fun τ7 h => ?_)
          refine pw_aload_n (i := 0) dX10_flow_49 rfl rfl ?_
          refine pw_getR dX10_flow_50 fl_X10_35 rfl rfl ?_
          refine pw_cVv [] dX10_flow_53 mv_X10_91 rfl rfl rfl (Nat.le_of_ble_eq_true rfl) (c_X2_outdate h) (fun τ8 h => ?_)
          refine pw_iconst (v := 1) dX10_flow_56 kc_1 ?_
          exact pw_ret dX10_flow_57 rfl rfl ⟨_, rfl, h⟩
        · have h := h.2 q
          refine pw_bipush (v := (-2)) dX10_flow_37 kb_m2 ?_
          exact pw_ret dX10_flow_39 rfl rfl ⟨_, rfl, h⟩
    · have h := h.2 q
      refine pw_iconst (v := (-1)) dX10_flow_14 kc_m1 ?_
      exact pw_ret dX10_flow_15 rfl rfl ⟨_, rfl, h⟩
/-! X10_goals -/
def R_X10_goals (a1 : Int32) (σ : pw_Mem) (K : Int32 → pw_Mem → Prop) : Prop := R_X10_isPointer a1 σ (fun x2 τ1 => ((x2 = 0 → K (-1) τ1) ∧ (¬ x2 = 0 → vp_in a1 8 ∧ K (τ1 7 (Int32.toNatClampNeg a1)) τ1)))
set_option maxHeartbeats 4000000 in
theorem c_X10_goals {L : pw_Lay} {d : Nat} {a1 : Int32} {σ : pw_Mem} {K : Int32 → pw_Mem → Prop} (h : R_X10_goals a1 σ K) : CT L (d + 2) m_X10_goals [.ref 0, .int a1] σ (ki K) := by
  refine pw_enter (by decide) rfl (Nat.le_of_ble_eq_true rfl) (ls := [some (.ref 0), some (.int a1)]) rfl ?_
  unfold R_X10_goals at h
  refine pw_iload_n (i := 1) dX10_goals_0 rfl rfl ?_
  refine pw_cSi [.int a1] dX10_goals_1 ms_X10_130 rfl rfl (Nat.le_of_ble_eq_true rfl) (c_X10_isPointer h) (fun x2 τ1 h => ?_)
  refine pw_if_eq (tgt := 19) dX10_goals_4 rfl (fun q => ?_) (fun q => ?_)
  · have h := h.1 q
    refine pw_iconst (v := (-1)) dX10_goals_19 kc_m1 ?_
    exact pw_ret dX10_goals_20 rfl rfl ⟨_, rfl, h⟩
  · have h := h.2 q
    refine pw_aload_n (i := 0) dX10_goals_7 rfl rfl ?_
    refine pw_getR dX10_goals_8 fl_X10_19 rfl rfl ?_
    refine pw_getR dX10_goals_11 fl_X10_150 rfl rfl ?_
    refine pw_iload_n (i := 1) dX10_goals_14 rfl rfl ?_
    obtain ⟨hb, h⟩ := h
    refine pw_iald dX10_goals_15 rfl hb ?_
    refine pw_goto (tgt := 20) dX10_goals_16 rfl ?_
    exact pw_ret dX10_goals_20 rfl rfl ⟨_, rfl, h⟩
/-! X2_drawCalls -/
def R_X2_drawCalls_L18 (K : pw_Mem → Prop) (KX : Int32 → pw_Mem → Prop) : Nat → Int32 → pw_Mem → Prop
  | 0, _, _ => False
  | n + 1, l3, σ => (((σ 1 2) ≤ l3 → KX l3 σ) ∧ (¬ (σ 1 2) ≤ l3 → vp_in l3 20 ∧ vp_in l3 20 ∧ R_X4_unionOf (σ 12 (Int32.toNatClampNeg l3)) σ (fun x2 τ1 => vp_in l3 20 ∧ ∀ τ3, τ3 = pw_up τ1 15 (Int32.toNatClampNeg l3) ((σ 10 (Int32.toNatClampNeg l3)) ||| x2) → vp_in l3 20 ∧ vp_in l3 20 ∧ R_X4_unionOf (τ3 13 (Int32.toNatClampNeg l3)) τ3 (fun x5 τ4 => vp_in l3 20 ∧ ∀ τ6, τ6 = pw_up τ4 16 (Int32.toNatClampNeg l3) ((τ3 11 (Int32.toNatClampNeg l3)) ||| x5) → vp_in l3 20 ∧ vp_in l3 20 ∧ vp_in l3 20 ∧ ∀ τ7, τ7 = pw_up τ6 17 (Int32.toNatClampNeg l3) ((τ6 15 (Int32.toNatClampNeg l3)) ||| (τ6 16 (Int32.toNatClampNeg l3))) → R_X2_drawCalls_L18 K KX n (l3 + 1) τ7))))
def R_X2_drawCalls  (σ : pw_Mem) (K : pw_Mem → Prop) : Prop := ∃ n10, R_X2_drawCalls_L18 K (fun y8 τ9 => K τ9) n10 0 σ
set_option maxHeartbeats 4000000 in
theorem t_X2_drawCalls_L18 {L : pw_Lay} {d : Nat} {K : pw_Mem → Prop} {KX : Int32 → pw_Mem → Prop} : ∀ (n : Nat) (l3 : Int32) (σ : pw_Mem), R_X2_drawCalls_L18 K KX n l3 σ → (∀ (l3 : Int32) (τ : pw_Mem), KX l3 τ → PW L (d + 2) m_X2_drawCalls (kv K) 96 [some (.ref 14), some (.ref 7), some (.ref 9), some (.int l3)] [] τ) → PW L (d + 2) m_X2_drawCalls (kv K) 18 [some (.ref 14), some (.ref 7), some (.ref 9), some (.int l3)] [] σ := by
  intro n
  induction n with
  | zero => intro l3 _ h _; exact h.elim
  | succ n ih =>
    intro l3 σ h hX
    unfold R_X2_drawCalls_L18 at h
    refine pw_iload_n (i := 3) dX2_drawCalls_18 rfl rfl ?_
    refine pw_aload_n (i := 0) dX2_drawCalls_19 rfl rfl ?_
    refine pw_getR dX2_drawCalls_20 fl_X2_31 rfl rfl ?_
    refine pw_getI dX2_drawCalls_23 fl_X2_58 rfl rfl ?_
    refine pw_icmp_ge (tgt := 96) dX2_drawCalls_26 rfl (fun q => ?_) (fun q => ?_)
    · have h := h.1 q
      exact hX _ _ h
    · have h := h.2 q
      refine pw_aload_n (i := 0) dX2_drawCalls_29 rfl rfl ?_
      refine pw_getR dX2_drawCalls_30 fl_X2_15 rfl rfl ?_
      refine pw_iload_n (i := 3) dX2_drawCalls_33 rfl rfl ?_
      refine pw_aload_n (i := 2) dX2_drawCalls_34 rfl rfl ?_
      refine pw_iconst (v := 0) dX2_drawCalls_35 kc_0 ?_
      refine pw_aaldB dX2_drawCalls_36 rfl vi4_0 rfl ?_
      refine pw_iload_n (i := 3) dX2_drawCalls_37 rfl rfl ?_
      obtain ⟨hb, h⟩ := h
      refine pw_iald dX2_drawCalls_38 rfl hb ?_
      refine pw_aload_n (i := 1) dX2_drawCalls_39 rfl rfl ?_
      refine pw_aload_n (i := 2) dX2_drawCalls_40 rfl rfl ?_
      refine pw_iconst (v := 2) dX2_drawCalls_41 kc_2 ?_
      refine pw_aaldB dX2_drawCalls_42 rfl vi4_2 rfl ?_
      refine pw_iload_n (i := 3) dX2_drawCalls_43 rfl rfl ?_
      obtain ⟨hb, h⟩ := h
      refine pw_iald dX2_drawCalls_44 rfl hb ?_
      refine pw_cSi [.ref 7, .int (σ 12 (Int32.toNatClampNeg l3))] dX2_drawCalls_45 ms_X2_85 rfl rfl (Nat.le_of_ble_eq_true rfl) (c_X4_unionOf h) (fun x2 τ1 h => ?_)
      refine pw_ior dX2_drawCalls_48 ?_
      obtain ⟨hb, h⟩ := h
      refine pw_iast dX2_drawCalls_49 rfl hb ?_
      generalize hτ3 : pw_up τ1 15 (Int32.toNatClampNeg l3) ((σ 10 (Int32.toNatClampNeg l3)) ||| x2) = τ3
      have h := h τ3 hτ3.symm
      refine pw_aload_n (i := 0) dX2_drawCalls_50 rfl rfl ?_
      refine pw_getR dX2_drawCalls_51 fl_X2_19 rfl rfl ?_
      refine pw_iload_n (i := 3) dX2_drawCalls_54 rfl rfl ?_
      refine pw_aload_n (i := 2) dX2_drawCalls_55 rfl rfl ?_
      refine pw_iconst (v := 1) dX2_drawCalls_56 kc_1 ?_
      refine pw_aaldB dX2_drawCalls_57 rfl vi4_1 rfl ?_
      refine pw_iload_n (i := 3) dX2_drawCalls_58 rfl rfl ?_
      obtain ⟨hb, h⟩ := h
      refine pw_iald dX2_drawCalls_59 rfl hb ?_
      refine pw_aload_n (i := 1) dX2_drawCalls_60 rfl rfl ?_
      refine pw_aload_n (i := 2) dX2_drawCalls_61 rfl rfl ?_
      refine pw_iconst (v := 3) dX2_drawCalls_62 kc_3 ?_
      refine pw_aaldB dX2_drawCalls_63 rfl vi4_3 rfl ?_
      refine pw_iload_n (i := 3) dX2_drawCalls_64 rfl rfl ?_
      obtain ⟨hb, h⟩ := h
      refine pw_iald dX2_drawCalls_65 rfl hb ?_
      refine pw_cSi [.ref 7, .int (τ3 13 (Int32.toNatClampNeg l3))] dX2_drawCalls_66 ms_X2_85 rfl rfl (Nat.le_of_ble_eq_true rfl) (c_X4_unionOf h) (fun x5 τ4 h => ?_)
      refine pw_ior dX2_drawCalls_69 ?_
      obtain ⟨hb, h⟩ := h
      refine pw_iast dX2_drawCalls_70 rfl hb ?_
      generalize hτ6 : pw_up τ4 16 (Int32.toNatClampNeg l3) ((τ3 11 (Int32.toNatClampNeg l3)) ||| x5) = τ6
      have h := h τ6 hτ6.symm
      refine pw_aload_n (i := 0) dX2_drawCalls_71 rfl rfl ?_
      refine pw_getR dX2_drawCalls_72 fl_X2_22 rfl rfl ?_
      refine pw_iload_n (i := 3) dX2_drawCalls_75 rfl rfl ?_
      refine pw_aload_n (i := 0) dX2_drawCalls_76 rfl rfl ?_
      refine pw_getR dX2_drawCalls_77 fl_X2_15 rfl rfl ?_
      refine pw_iload_n (i := 3) dX2_drawCalls_80 rfl rfl ?_
      obtain ⟨hb, h⟩ := h
      refine pw_iald dX2_drawCalls_81 rfl hb ?_
      refine pw_aload_n (i := 0) dX2_drawCalls_82 rfl rfl ?_
      refine pw_getR dX2_drawCalls_83 fl_X2_19 rfl rfl ?_
      refine pw_iload_n (i := 3) dX2_drawCalls_86 rfl rfl ?_
      obtain ⟨hb, h⟩ := h
      refine pw_iald dX2_drawCalls_87 rfl hb ?_
      refine pw_ior dX2_drawCalls_88 ?_
      obtain ⟨hb, h⟩ := h
      refine pw_iast dX2_drawCalls_89 rfl hb ?_
      generalize hτ7 : pw_up τ6 17 (Int32.toNatClampNeg l3) ((τ6 15 (Int32.toNatClampNeg l3)) ||| (τ6 16 (Int32.toNatClampNeg l3))) = τ7
      have h := h τ7 hτ7.symm
      refine pw_iinc (i := 3) (v := l3 + 1) (ls' := [some (.ref 14), some (.ref 7), some (.ref 9), some (.int (l3 + 1))]) dX2_drawCalls_90 rfl (by rw [kc_1]) (Nat.le_of_ble_eq_true rfl) rfl ?_
      refine pw_goto (tgt := 18) dX2_drawCalls_93 rfl ?_
      exact ih _ _ h hX
set_option maxHeartbeats 4000000 in
theorem c_X2_drawCalls {L : pw_Lay} {d : Nat}  {σ : pw_Mem} {K : pw_Mem → Prop} (h : R_X2_drawCalls  σ K) : CT L (d + 2) m_X2_drawCalls [.ref 14] σ (kv K) := by
  refine pw_enter (by decide) rfl (Nat.le_of_ble_eq_true rfl) (ls := [some (.ref 14), none, none, none]) rfl ?_
  unfold R_X2_drawCalls at h
  refine pw_aload_n (i := 0) dX2_drawCalls_0 rfl rfl ?_
  refine pw_getR dX2_drawCalls_1 fl_X2_35 rfl rfl ?_
  refine pw_getR dX2_drawCalls_4 fl_X2_74 rfl rfl ?_
  refine pw_astore_n (i := 1) (ls' := [some (.ref 14), some (.ref 7), none, none]) dX2_drawCalls_7 rfl (Nat.le_of_ble_eq_true rfl) rfl ?_
  refine pw_aload_n (i := 0) dX2_drawCalls_8 rfl rfl ?_
  refine pw_getR dX2_drawCalls_9 fl_X2_39 rfl rfl ?_
  refine pw_getR dX2_drawCalls_12 fl_X2_79 rfl rfl ?_
  refine pw_astore_n (i := 2) (ls' := [some (.ref 14), some (.ref 7), some (.ref 9), none]) dX2_drawCalls_15 rfl (Nat.le_of_ble_eq_true rfl) rfl ?_
  refine pw_iconst (v := 0) dX2_drawCalls_16 kc_0 ?_
  refine pw_istore_n (i := 3) (ls' := [some (.ref 14), some (.ref 7), some (.ref 9), some (.int 0)]) dX2_drawCalls_17 rfl (Nat.le_of_ble_eq_true rfl) rfl ?_
  obtain ⟨n10, h⟩ := h
  refine t_X2_drawCalls_L18 _ _ _ h (fun y8 τ9 h => ?_)
  exact pw_vret dX2_drawCalls_96 rfl ⟨rfl, h⟩
/-! X2_closeReach -/
def R_X2_closeReach_L15 (K : pw_Mem → Prop) (KX : Int32 → Int32 → pw_Mem → Prop) : Nat → Int32 → Int32 → pw_Mem → Prop
  | 0, _, _, _ => False
  | n + 1, l1, l2, σ => (((σ 1 2) ≤ l2 → KX l1 l2 σ) ∧ (¬ (σ 1 2) ≤ l2 → vp_in l2 20 ∧ R_X10_holds (σ 17 (Int32.toNatClampNeg l2)) l1 σ (fun x2 τ1 => ((x2 = 0 → R_X2_closeReach_L15 K KX n l1 (l2 + 1) τ1) ∧ (¬ x2 = 0 → vp_in l2 20 ∧ vp_in l1 20 ∧ vp_in l2 20 ∧ ∀ τ3, τ3 = pw_up τ1 17 (Int32.toNatClampNeg l2) ((τ1 17 (Int32.toNatClampNeg l2)) ||| (τ1 17 (Int32.toNatClampNeg l1))) → R_X2_closeReach_L15 K KX n l1 (l2 + 1) τ3)))))
def R_X2_closeReach_L2 (K : pw_Mem → Prop) (KX : Int32 → pw_Mem → Prop) : Nat → Int32 → pw_Mem → Prop
  | 0, _, _ => False
  | n + 1, l1, σ => (((σ 1 2) ≤ l1 → KX l1 σ) ∧ (¬ (σ 1 2) ≤ l1 → ∃ n7, R_X2_closeReach_L15 K (fun y4 y5 τ6 => R_X2_closeReach_L2 K KX n (y4 + 1) τ6) n7 l1 0 σ))
def R_X2_closeReach  (σ : pw_Mem) (K : pw_Mem → Prop) : Prop := ∃ n10, R_X2_closeReach_L2 K (fun y8 τ9 => K τ9) n10 0 σ
set_option maxHeartbeats 4000000 in
theorem t_X2_closeReach_L15 {L : pw_Lay} {d : Nat} {K : pw_Mem → Prop} {KX : Int32 → Int32 → pw_Mem → Prop} : ∀ (n : Nat) (l1 : Int32) (l2 : Int32) (σ : pw_Mem), R_X2_closeReach_L15 K KX n l1 l2 σ → (∀ (l1 : Int32) (l2 : Int32) (τ : pw_Mem), KX l1 l2 τ → PW L (d + 1) m_X2_closeReach (kv K) 60 [some (.ref 14), some (.int l1), some (.int l2)] [] τ) → PW L (d + 1) m_X2_closeReach (kv K) 15 [some (.ref 14), some (.int l1), some (.int l2)] [] σ := by
  intro n
  induction n with
  | zero => intro l1 l2 _ h _; exact h.elim
  | succ n ih =>
    intro l1 l2 σ h hX
    unfold R_X2_closeReach_L15 at h
    refine pw_iload_n (i := 2) dX2_closeReach_15 rfl rfl ?_
    refine pw_aload_n (i := 0) dX2_closeReach_16 rfl rfl ?_
    refine pw_getR dX2_closeReach_17 fl_X2_31 rfl rfl ?_
    refine pw_getI dX2_closeReach_20 fl_X2_58 rfl rfl ?_
    refine pw_icmp_ge (tgt := 60) dX2_closeReach_23 rfl (fun q => ?_) (fun q => ?_)
    · have h := h.1 q
      exact hX _ _ _ h
    · have h := h.2 q
      refine pw_aload_n (i := 0) dX2_closeReach_26 rfl rfl ?_
      refine pw_getR dX2_closeReach_27 fl_X2_22 rfl rfl ?_
      refine pw_iload_n (i := 2) dX2_closeReach_30 rfl rfl ?_
      obtain ⟨hb, h⟩ := h
      refine pw_iald dX2_closeReach_31 rfl hb ?_
      refine pw_iload_n (i := 1) dX2_closeReach_32 rfl rfl ?_
      refine pw_cNi [.int (σ 17 (Int32.toNatClampNeg l2)), .int l1] dX2_closeReach_33 mn_X2_64 rfl rfl (Nat.le_of_ble_eq_true rfl) (c_X10_holds h) (fun x2 τ1 h => ?_)
      refine pw_if_eq (tgt := 54) dX2_closeReach_36 rfl (fun q => ?_) (fun q => ?_)
      · have h := h.1 q
        refine pw_iinc (i := 2) (v := l2 + 1) (ls' := [some (.ref 14), some (.int l1), some (.int (l2 + 1))]) dX2_closeReach_54 rfl (by rw [kc_1]) (Nat.le_of_ble_eq_true rfl) rfl ?_
        refine pw_goto (tgt := 15) dX2_closeReach_57 rfl ?_
        exact ih _ _ _ h hX
      · have h := h.2 q
        refine pw_aload_n (i := 0) dX2_closeReach_39 rfl rfl ?_
        refine pw_getR dX2_closeReach_40 fl_X2_22 rfl rfl ?_
        refine pw_iload_n (i := 2) dX2_closeReach_43 rfl rfl ?_
        refine pw_dup2 dX2_closeReach_44 rfl rfl ?_
        obtain ⟨hb, h⟩ := h
        refine pw_iald dX2_closeReach_45 rfl hb ?_
        refine pw_aload_n (i := 0) dX2_closeReach_46 rfl rfl ?_
        refine pw_getR dX2_closeReach_47 fl_X2_22 rfl rfl ?_
        refine pw_iload_n (i := 1) dX2_closeReach_50 rfl rfl ?_
        obtain ⟨hb, h⟩ := h
        refine pw_iald dX2_closeReach_51 rfl hb ?_
        refine pw_ior dX2_closeReach_52 ?_
        obtain ⟨hb, h⟩ := h
        refine pw_iast dX2_closeReach_53 rfl hb ?_
        generalize hτ3 : pw_up τ1 17 (Int32.toNatClampNeg l2) ((τ1 17 (Int32.toNatClampNeg l2)) ||| (τ1 17 (Int32.toNatClampNeg l1))) = τ3
        have h := h τ3 hτ3.symm
        refine pw_iinc (i := 2) (v := l2 + 1) (ls' := [some (.ref 14), some (.int l1), some (.int (l2 + 1))]) dX2_closeReach_54 rfl (by rw [kc_1]) (Nat.le_of_ble_eq_true rfl) rfl ?_
        refine pw_goto (tgt := 15) dX2_closeReach_57 rfl ?_
        exact ih _ _ _ h hX
set_option maxHeartbeats 4000000 in
theorem t_X2_closeReach_L2 {L : pw_Lay} {d : Nat} {K : pw_Mem → Prop} {KX : Int32 → pw_Mem → Prop} : ∀ (n : Nat) (l1 : Int32) (σ : pw_Mem), R_X2_closeReach_L2 K KX n l1 σ → (∀ (l1 : Int32) (τ : pw_Mem), KX l1 τ → PW L (d + 1) m_X2_closeReach (kv K) 66 [some (.ref 14), some (.int l1), none] [] τ) → PW L (d + 1) m_X2_closeReach (kv K) 2 [some (.ref 14), some (.int l1), none] [] σ := by
  intro n
  induction n with
  | zero => intro l1 _ h _; exact h.elim
  | succ n ih =>
    intro l1 σ h hX
    unfold R_X2_closeReach_L2 at h
    refine pw_iload_n (i := 1) dX2_closeReach_2 rfl rfl ?_
    refine pw_aload_n (i := 0) dX2_closeReach_3 rfl rfl ?_
    refine pw_getR dX2_closeReach_4 fl_X2_31 rfl rfl ?_
    refine pw_getI dX2_closeReach_7 fl_X2_58 rfl rfl ?_
    refine pw_icmp_ge (tgt := 66) dX2_closeReach_10 rfl (fun q => ?_) (fun q => ?_)
    · have h := h.1 q
      exact hX _ _ h
    · have h := h.2 q
      refine pw_iconst (v := 0) dX2_closeReach_13 kc_0 ?_
      refine pw_istore_n (i := 2) (ls' := [some (.ref 14), some (.int l1), some (.int 0)]) dX2_closeReach_14 rfl (Nat.le_of_ble_eq_true rfl) rfl ?_
      obtain ⟨n7, h⟩ := h
      refine t_X2_closeReach_L15 _ _ _ _ h (fun y4 y5 τ6 h => ?_)
      refine pw_iinc (i := 1) (v := y4 + 1) (ls' := [some (.ref 14), some (.int (y4 + 1)), some (.int y5)]) dX2_closeReach_60 rfl (by rw [kc_1]) (Nat.le_of_ble_eq_true rfl) rfl ?_
      refine pw_goto (tgt := 2) dX2_closeReach_63 rfl ?_
      refine pw_forget (ls' := [some (.ref 14), some (.int (y4 + 1)), none]) (And.intro rfl (And.intro rfl trivial)) ?_
      exact ih _ _ h hX
set_option maxHeartbeats 4000000 in
theorem c_X2_closeReach {L : pw_Lay} {d : Nat}  {σ : pw_Mem} {K : pw_Mem → Prop} (h : R_X2_closeReach  σ K) : CT L (d + 1) m_X2_closeReach [.ref 14] σ (kv K) := by
  refine pw_enter (by decide) rfl (Nat.le_of_ble_eq_true rfl) (ls := [some (.ref 14), none, none]) rfl ?_
  unfold R_X2_closeReach at h
  refine pw_iconst (v := 0) dX2_closeReach_0 kc_0 ?_
  refine pw_istore_n (i := 1) (ls' := [some (.ref 14), some (.int 0), none]) dX2_closeReach_1 rfl (Nat.le_of_ble_eq_true rfl) rfl ?_
  obtain ⟨n10, h⟩ := h
  refine t_X2_closeReach_L2 _ _ _ h (fun y8 τ9 h => ?_)
  exact pw_vret dX2_closeReach_66 rfl ⟨rfl, h⟩
/-! X2_gatherTogether -/
def R_X2_gatherTogether_L24 (K : pw_Mem → Prop) (KX : Int32 → Int32 → pw_Mem → Prop) : Nat → Int32 → Int32 → pw_Mem → Prop
  | 0, _, _, _ => False
  | n + 1, l1, l2, σ => (((σ 1 2) ≤ l2 → KX l1 l2 σ) ∧ (¬ (σ 1 2) ≤ l2 → vp_in l1 20 ∧ R_X10_holds (σ 17 (Int32.toNatClampNeg l1)) l2 σ (fun x3 τ2 => ((x3 = 0 → R_X2_gatherTogether_L24 K KX n l1 (l2 + 1) τ2) ∧ (¬ x3 = 0 → vp_in l2 20 ∧ R_X10_holds (τ2 17 (Int32.toNatClampNeg l2)) l1 τ2 (fun x5 τ4 => ((x5 = 0 → R_X2_gatherTogether_L24 K KX n l1 (l2 + 1) τ4) ∧ (¬ x5 = 0 → vp_in l1 20 ∧ vp_in l1 20 ∧ ∀ τ6, τ6 = pw_up τ4 18 (Int32.toNatClampNeg l1) ((τ4 18 (Int32.toNatClampNeg l1)) ||| (1 <<< (l2 &&& 31))) → R_X2_gatherTogether_L24 K KX n l1 (l2 + 1) τ6))))))))
def R_X2_gatherTogether_L2 (K : pw_Mem → Prop) (KX : Int32 → pw_Mem → Prop) : Nat → Int32 → pw_Mem → Prop
  | 0, _, _ => False
  | n + 1, l1, σ => (((σ 1 2) ≤ l1 → KX l1 σ) ∧ (¬ (σ 1 2) ≤ l1 → vp_in l1 20 ∧ ∀ τ1, τ1 = pw_up σ 18 (Int32.toNatClampNeg l1) (1 <<< (l1 &&& 31)) → ∃ n10, R_X2_gatherTogether_L24 K (fun y7 y8 τ9 => R_X2_gatherTogether_L2 K KX n (y7 + 1) τ9) n10 l1 0 τ1))
def R_X2_gatherTogether  (σ : pw_Mem) (K : pw_Mem → Prop) : Prop := ∃ n13, R_X2_gatherTogether_L2 K (fun y11 τ12 => K τ12) n13 0 σ
set_option maxHeartbeats 4000000 in
theorem t_X2_gatherTogether_L24 {L : pw_Lay} {d : Nat} {K : pw_Mem → Prop} {KX : Int32 → Int32 → pw_Mem → Prop} : ∀ (n : Nat) (l1 : Int32) (l2 : Int32) (σ : pw_Mem), R_X2_gatherTogether_L24 K KX n l1 l2 σ → (∀ (l1 : Int32) (l2 : Int32) (τ : pw_Mem), KX l1 l2 τ → PW L (d + 1) m_X2_gatherTogether (kv K) 79 [some (.ref 14), some (.int l1), some (.int l2)] [] τ) → PW L (d + 1) m_X2_gatherTogether (kv K) 24 [some (.ref 14), some (.int l1), some (.int l2)] [] σ := by
  intro n
  induction n with
  | zero => intro l1 l2 _ h _; exact h.elim
  | succ n ih =>
    intro l1 l2 σ h hX
    unfold R_X2_gatherTogether_L24 at h
    refine pw_iload_n (i := 2) dX2_gatherTogether_24 rfl rfl ?_
    refine pw_aload_n (i := 0) dX2_gatherTogether_25 rfl rfl ?_
    refine pw_getR dX2_gatherTogether_26 fl_X2_31 rfl rfl ?_
    refine pw_getI dX2_gatherTogether_29 fl_X2_58 rfl rfl ?_
    refine pw_icmp_ge (tgt := 79) dX2_gatherTogether_32 rfl (fun q => ?_) (fun q => ?_)
    · have h := h.1 q
      exact hX _ _ _ h
    · have h := h.2 q
      refine pw_aload_n (i := 0) dX2_gatherTogether_35 rfl rfl ?_
      refine pw_getR dX2_gatherTogether_36 fl_X2_22 rfl rfl ?_
      refine pw_iload_n (i := 1) dX2_gatherTogether_39 rfl rfl ?_
      obtain ⟨hb, h⟩ := h
      refine pw_iald dX2_gatherTogether_40 rfl hb ?_
      refine pw_iload_n (i := 2) dX2_gatherTogether_41 rfl rfl ?_
      refine pw_cNi [.int (σ 17 (Int32.toNatClampNeg l1)), .int l2] dX2_gatherTogether_42 mn_X2_64 rfl rfl (Nat.le_of_ble_eq_true rfl) (c_X10_holds h) (fun x3 τ2 h => ?_)
      refine pw_if_eq (tgt := 73) dX2_gatherTogether_45 rfl (fun q => ?_) (fun q => ?_)
      · have h := h.1 q
        refine pw_iinc (i := 2) (v := l2 + 1) (ls' := [some (.ref 14), some (.int l1), some (.int (l2 + 1))]) dX2_gatherTogether_73 rfl (by rw [kc_1]) (Nat.le_of_ble_eq_true rfl) rfl ?_
        refine pw_goto (tgt := 24) dX2_gatherTogether_76 rfl ?_
        exact ih _ _ _ h hX
      · have h := h.2 q
        refine pw_aload_n (i := 0) dX2_gatherTogether_48 rfl rfl ?_
        refine pw_getR dX2_gatherTogether_49 fl_X2_22 rfl rfl ?_
        refine pw_iload_n (i := 2) dX2_gatherTogether_52 rfl rfl ?_
        obtain ⟨hb, h⟩ := h
        refine pw_iald dX2_gatherTogether_53 rfl hb ?_
        refine pw_iload_n (i := 1) dX2_gatherTogether_54 rfl rfl ?_
        refine pw_cNi [.int (τ2 17 (Int32.toNatClampNeg l2)), .int l1] dX2_gatherTogether_55 mn_X2_64 rfl rfl (Nat.le_of_ble_eq_true rfl) (c_X10_holds h) (fun x5 τ4 h => ?_)
        refine pw_if_eq (tgt := 73) dX2_gatherTogether_58 rfl (fun q => ?_) (fun q => ?_)
        · have h := h.1 q
          refine pw_iinc (i := 2) (v := l2 + 1) (ls' := [some (.ref 14), some (.int l1), some (.int (l2 + 1))]) dX2_gatherTogether_73 rfl (by rw [kc_1]) (Nat.le_of_ble_eq_true rfl) rfl ?_
          refine pw_goto (tgt := 24) dX2_gatherTogether_76 rfl ?_
          exact ih _ _ _ h hX
        · have h := h.2 q
          refine pw_aload_n (i := 0) dX2_gatherTogether_61 rfl rfl ?_
          refine pw_getR dX2_gatherTogether_62 fl_X2_25 rfl rfl ?_
          refine pw_iload_n (i := 1) dX2_gatherTogether_65 rfl rfl ?_
          refine pw_dup2 dX2_gatherTogether_66 rfl rfl ?_
          obtain ⟨hb, h⟩ := h
          refine pw_iald dX2_gatherTogether_67 rfl hb ?_
          refine pw_iconst (v := 1) dX2_gatherTogether_68 kc_1 ?_
          refine pw_iload_n (i := 2) dX2_gatherTogether_69 rfl rfl ?_
          refine pw_ishl dX2_gatherTogether_70 ?_
          refine pw_ior dX2_gatherTogether_71 ?_
          obtain ⟨hb, h⟩ := h
          refine pw_iast dX2_gatherTogether_72 rfl hb ?_
          generalize hτ6 : pw_up τ4 18 (Int32.toNatClampNeg l1) ((τ4 18 (Int32.toNatClampNeg l1)) ||| (1 <<< (l2 &&& 31))) = τ6
          have h := h τ6 hτ6.symm
          refine pw_iinc (i := 2) (v := l2 + 1) (ls' := [some (.ref 14), some (.int l1), some (.int (l2 + 1))]) dX2_gatherTogether_73 rfl (by rw [kc_1]) (Nat.le_of_ble_eq_true rfl) rfl ?_
          refine pw_goto (tgt := 24) dX2_gatherTogether_76 rfl ?_
          exact ih _ _ _ h hX
set_option maxHeartbeats 4000000 in
theorem t_X2_gatherTogether_L2 {L : pw_Lay} {d : Nat} {K : pw_Mem → Prop} {KX : Int32 → pw_Mem → Prop} : ∀ (n : Nat) (l1 : Int32) (σ : pw_Mem), R_X2_gatherTogether_L2 K KX n l1 σ → (∀ (l1 : Int32) (τ : pw_Mem), KX l1 τ → PW L (d + 1) m_X2_gatherTogether (kv K) 85 [some (.ref 14), some (.int l1), none] [] τ) → PW L (d + 1) m_X2_gatherTogether (kv K) 2 [some (.ref 14), some (.int l1), none] [] σ := by
  intro n
  induction n with
  | zero => intro l1 _ h _; exact h.elim
  | succ n ih =>
    intro l1 σ h hX
    unfold R_X2_gatherTogether_L2 at h
    refine pw_iload_n (i := 1) dX2_gatherTogether_2 rfl rfl ?_
    refine pw_aload_n (i := 0) dX2_gatherTogether_3 rfl rfl ?_
    refine pw_getR dX2_gatherTogether_4 fl_X2_31 rfl rfl ?_
    refine pw_getI dX2_gatherTogether_7 fl_X2_58 rfl rfl ?_
    refine pw_icmp_ge (tgt := 85) dX2_gatherTogether_10 rfl (fun q => ?_) (fun q => ?_)
    · have h := h.1 q
      exact hX _ _ h
    · have h := h.2 q
      refine pw_aload_n (i := 0) dX2_gatherTogether_13 rfl rfl ?_
      refine pw_getR dX2_gatherTogether_14 fl_X2_25 rfl rfl ?_
      refine pw_iload_n (i := 1) dX2_gatherTogether_17 rfl rfl ?_
      refine pw_iconst (v := 1) dX2_gatherTogether_18 kc_1 ?_
      refine pw_iload_n (i := 1) dX2_gatherTogether_19 rfl rfl ?_
      refine pw_ishl dX2_gatherTogether_20 ?_
      obtain ⟨hb, h⟩ := h
      refine pw_iast dX2_gatherTogether_21 rfl hb ?_
      generalize hτ1 : pw_up σ 18 (Int32.toNatClampNeg l1) (1 <<< (l1 &&& 31)) = τ1
      have h := h τ1 hτ1.symm
      refine pw_iconst (v := 0) dX2_gatherTogether_22 kc_0 ?_
      refine pw_istore_n (i := 2) (ls' := [some (.ref 14), some (.int l1), some (.int 0)]) dX2_gatherTogether_23 rfl (Nat.le_of_ble_eq_true rfl) rfl ?_
      obtain ⟨n10, h⟩ := h
      refine t_X2_gatherTogether_L24 _ _ _ _ h (fun y7 y8 τ9 h => ?_)
      refine pw_iinc (i := 1) (v := y7 + 1) (ls' := [some (.ref 14), some (.int (y7 + 1)), some (.int y8)]) dX2_gatherTogether_79 rfl (by rw [kc_1]) (Nat.le_of_ble_eq_true rfl) rfl ?_
      refine pw_goto (tgt := 2) dX2_gatherTogether_82 rfl ?_
      refine pw_forget (ls' := [some (.ref 14), some (.int (y7 + 1)), none]) (And.intro rfl (And.intro rfl trivial)) ?_
      exact ih _ _ h hX
set_option maxHeartbeats 4000000 in
theorem c_X2_gatherTogether {L : pw_Lay} {d : Nat}  {σ : pw_Mem} {K : pw_Mem → Prop} (h : R_X2_gatherTogether  σ K) : CT L (d + 1) m_X2_gatherTogether [.ref 14] σ (kv K) := by
  refine pw_enter (by decide) rfl (Nat.le_of_ble_eq_true rfl) (ls := [some (.ref 14), none, none]) rfl ?_
  unfold R_X2_gatherTogether at h
  refine pw_iconst (v := 0) dX2_gatherTogether_0 kc_0 ?_
  refine pw_istore_n (i := 1) (ls' := [some (.ref 14), some (.int 0), none]) dX2_gatherTogether_1 rfl (Nat.le_of_ble_eq_true rfl) rfl ?_
  obtain ⟨n13, h⟩ := h
  refine t_X2_gatherTogether_L2 _ _ _ h (fun y11 τ12 h => ?_)
  exact pw_vret dX2_gatherTogether_85 rfl ⟨rfl, h⟩
/-! X2_markRings -/
def R_X2_markRings_L7 (K : pw_Mem → Prop) (KX : Int32 → pw_Mem → Prop) : Nat → Int32 → pw_Mem → Prop
  | 0, _, _ => False
  | n + 1, l1, σ => (((σ 1 2) ≤ l1 → KX l1 σ) ∧ (¬ (σ 1 2) ≤ l1 → vp_in l1 20 ∧ vp_in l1 20 ∧ ((((σ 15 (Int32.toNatClampNeg l1)) &&& (σ 18 (Int32.toNatClampNeg l1))) = 0 → R_X2_markRings_L7 K KX n (l1 + 1) σ) ∧ (¬ ((σ 15 (Int32.toNatClampNeg l1)) &&& (σ 18 (Int32.toNatClampNeg l1))) = 0 → vp_in l1 20 ∧ ∀ τ2, τ2 = pw_up σ 14 8 ((σ 14 8) ||| (σ 18 (Int32.toNatClampNeg l1))) → R_X2_markRings_L7 K KX n (l1 + 1) τ2))))
def R_X2_markRings  (σ : pw_Mem) (K : pw_Mem → Prop) : Prop := ∀ τ1, τ1 = pw_up σ 14 8 0 → ∃ n5, R_X2_markRings_L7 K (fun y3 τ4 => K τ4) n5 0 τ1
set_option maxHeartbeats 4000000 in
theorem t_X2_markRings_L7 {L : pw_Lay} {d : Nat} {K : pw_Mem → Prop} {KX : Int32 → pw_Mem → Prop} : ∀ (n : Nat) (l1 : Int32) (σ : pw_Mem), R_X2_markRings_L7 K KX n l1 σ → (∀ (l1 : Int32) (τ : pw_Mem), KX l1 τ → PW L (d + 0) m_X2_markRings (kv K) 55 [some (.ref 14), some (.int l1)] [] τ) → PW L (d + 0) m_X2_markRings (kv K) 7 [some (.ref 14), some (.int l1)] [] σ := by
  intro n
  induction n with
  | zero => intro l1 _ h _; exact h.elim
  | succ n ih =>
    intro l1 σ h hX
    unfold R_X2_markRings_L7 at h
    refine pw_iload_n (i := 1) dX2_markRings_7 rfl rfl ?_
    refine pw_aload_n (i := 0) dX2_markRings_8 rfl rfl ?_
    refine pw_getR dX2_markRings_9 fl_X2_31 rfl rfl ?_
    refine pw_getI dX2_markRings_12 fl_X2_58 rfl rfl ?_
    refine pw_icmp_ge (tgt := 55) dX2_markRings_15 rfl (fun q => ?_) (fun q => ?_)
    · have h := h.1 q
      exact hX _ _ h
    · have h := h.2 q
      refine pw_aload_n (i := 0) dX2_markRings_18 rfl rfl ?_
      refine pw_getR dX2_markRings_19 fl_X2_15 rfl rfl ?_
      refine pw_iload_n (i := 1) dX2_markRings_22 rfl rfl ?_
      obtain ⟨hb, h⟩ := h
      refine pw_iald dX2_markRings_23 rfl hb ?_
      refine pw_aload_n (i := 0) dX2_markRings_24 rfl rfl ?_
      refine pw_getR dX2_markRings_25 fl_X2_25 rfl rfl ?_
      refine pw_iload_n (i := 1) dX2_markRings_28 rfl rfl ?_
      obtain ⟨hb, h⟩ := h
      refine pw_iald dX2_markRings_29 rfl hb ?_
      refine pw_iand dX2_markRings_30 ?_
      refine pw_if_eq (tgt := 49) dX2_markRings_31 rfl (fun q => ?_) (fun q => ?_)
      · have h := h.1 q
        refine pw_iinc (i := 1) (v := l1 + 1) (ls' := [some (.ref 14), some (.int (l1 + 1))]) dX2_markRings_49 rfl (by rw [kc_1]) (Nat.le_of_ble_eq_true rfl) rfl ?_
        refine pw_goto (tgt := 7) dX2_markRings_52 rfl ?_
        exact ih _ _ h hX
      · have h := h.2 q
        refine pw_aload_n (i := 0) dX2_markRings_34 rfl rfl ?_
        refine pw_dup dX2_markRings_35 rfl ?_
        refine pw_getI dX2_markRings_36 fl_X2_71 rfl rfl ?_
        refine pw_aload_n (i := 0) dX2_markRings_39 rfl rfl ?_
        refine pw_getR dX2_markRings_40 fl_X2_25 rfl rfl ?_
        refine pw_iload_n (i := 1) dX2_markRings_43 rfl rfl ?_
        obtain ⟨hb, h⟩ := h
        refine pw_iald dX2_markRings_44 rfl hb ?_
        refine pw_ior dX2_markRings_45 ?_
        refine pw_put dX2_markRings_46 fp_X2_71 rfl rfl rfl rfl ?_
        generalize hτ2 : pw_up σ 14 8 ((σ 14 8) ||| (σ 18 (Int32.toNatClampNeg l1))) = τ2
        have h := h τ2 hτ2.symm
        refine pw_iinc (i := 1) (v := l1 + 1) (ls' := [some (.ref 14), some (.int (l1 + 1))]) dX2_markRings_49 rfl (by rw [kc_1]) (Nat.le_of_ble_eq_true rfl) rfl ?_
        refine pw_goto (tgt := 7) dX2_markRings_52 rfl ?_
        exact ih _ _ h hX
set_option maxHeartbeats 4000000 in
theorem c_X2_markRings {L : pw_Lay} {d : Nat}  {σ : pw_Mem} {K : pw_Mem → Prop} (h : R_X2_markRings  σ K) : CT L (d + 0) m_X2_markRings [.ref 14] σ (kv K) := by
  refine pw_enter (by decide) rfl (Nat.le_of_ble_eq_true rfl) (ls := [some (.ref 14), none]) rfl ?_
  unfold R_X2_markRings at h
  refine pw_aload_n (i := 0) dX2_markRings_0 rfl rfl ?_
  refine pw_iconst (v := 0) dX2_markRings_1 kc_0 ?_
  refine pw_put dX2_markRings_2 fp_X2_71 rfl rfl rfl rfl ?_
  generalize hτ1 : pw_up σ 14 8 0 = τ1
  have h := h τ1 hτ1.symm
  refine pw_iconst (v := 0) dX2_markRings_5 kc_0 ?_
  refine pw_istore_n (i := 1) (ls' := [some (.ref 14), some (.int 0)]) dX2_markRings_6 rfl (Nat.le_of_ble_eq_true rfl) rfl ?_
  obtain ⟨n5, h⟩ := h
  refine t_X2_markRings_L7 _ _ _ h (fun y3 τ4 h => ?_)
  exact pw_vret dX2_markRings_55 rfl ⟨rfl, h⟩
/-! X10_leastOf -/
def R_X10_leastOf_L2 (K : Int32 → pw_Mem → Prop) (KX : Int32 → Int32 → pw_Mem → Prop) : Nat → Int32 → Int32 → pw_Mem → Prop
  | 0, _, _, _ => False
  | n + 1, l0, l1, σ => ((20 ≤ l1 → KX l0 l1 σ) ∧ (¬ 20 ≤ l1 → R_X10_holds l0 l1 σ (fun x2 τ1 => ((x2 = 0 → R_X10_leastOf_L2 K KX n l0 (l1 + 1) τ1) ∧ (¬ x2 = 0 → K l1 τ1)))))
def R_X10_leastOf (a1 : Int32) (σ : pw_Mem) (K : Int32 → pw_Mem → Prop) : Prop := ∃ n6, R_X10_leastOf_L2 K (fun y3 y4 τ5 => K (-4) τ5) n6 a1 0 σ
set_option maxHeartbeats 4000000 in
theorem t_X10_leastOf_L2 {L : pw_Lay} {d : Nat} {K : Int32 → pw_Mem → Prop} {KX : Int32 → Int32 → pw_Mem → Prop} : ∀ (n : Nat) (l0 : Int32) (l1 : Int32) (σ : pw_Mem), R_X10_leastOf_L2 K KX n l0 l1 σ → (∀ (l0 : Int32) (l1 : Int32) (τ : pw_Mem), KX l0 l1 τ → PW L (d + 1) m_X10_leastOf (ki K) 24 [some (.int l0), some (.int l1)] [] τ) → PW L (d + 1) m_X10_leastOf (ki K) 2 [some (.int l0), some (.int l1)] [] σ := by
  intro n
  induction n with
  | zero => intro l0 l1 _ h _; exact h.elim
  | succ n ih =>
    intro l0 l1 σ h hX
    unfold R_X10_leastOf_L2 at h
    refine pw_iload_n (i := 1) dX10_leastOf_2 rfl rfl ?_
    refine pw_bipush (v := 20) dX10_leastOf_3 kb_20 ?_
    refine pw_icmp_ge (tgt := 24) dX10_leastOf_5 rfl (fun q => ?_) (fun q => ?_)
    · have h := h.1 q
      exact hX _ _ _ h
    · have h := h.2 q
      refine pw_iload_n (i := 0) dX10_leastOf_8 rfl rfl ?_
      refine pw_iload_n (i := 1) dX10_leastOf_9 rfl rfl ?_
      refine pw_cSi [.int l0, .int l1] dX10_leastOf_10 ms_X10_136 rfl rfl (Nat.le_of_ble_eq_true rfl) (c_X10_holds h) (fun x2 τ1 h => ?_)
      refine pw_if_eq (tgt := 18) dX10_leastOf_13 rfl (fun q => ?_) (fun q => ?_)
      · have h := h.1 q
        refine pw_iinc (i := 1) (v := l1 + 1) (ls' := [some (.int l0), some (.int (l1 + 1))]) dX10_leastOf_18 rfl (by rw [kc_1]) (Nat.le_of_ble_eq_true rfl) rfl ?_
        refine pw_goto (tgt := 2) dX10_leastOf_21 rfl ?_
        exact ih _ _ _ h hX
      · have h := h.2 q
        refine pw_iload_n (i := 1) dX10_leastOf_16 rfl rfl ?_
        exact pw_ret dX10_leastOf_17 rfl rfl ⟨_, rfl, h⟩
set_option maxHeartbeats 4000000 in
theorem c_X10_leastOf {L : pw_Lay} {d : Nat} {a1 : Int32} {σ : pw_Mem} {K : Int32 → pw_Mem → Prop} (h : R_X10_leastOf a1 σ K) : CT L (d + 1) m_X10_leastOf [.int a1] σ (ki K) := by
  refine pw_enter (by decide) rfl (Nat.le_of_ble_eq_true rfl) (ls := [some (.int a1), none]) rfl ?_
  unfold R_X10_leastOf at h
  refine pw_iconst (v := 0) dX10_leastOf_0 kc_0 ?_
  refine pw_istore_n (i := 1) (ls' := [some (.int a1), some (.int 0)]) dX10_leastOf_1 rfl (Nat.le_of_ble_eq_true rfl) rfl ?_
  obtain ⟨n6, h⟩ := h
  refine t_X10_leastOf_L2 _ _ _ _ h (fun y3 y4 τ5 h => ?_)
  refine pw_bipush (v := (-4)) dX10_leastOf_24 kb_m4 ?_
  exact pw_ret dX10_leastOf_26 rfl rfl ⟨_, rfl, h⟩
/-! X2_selfAndReached -/
def R_X2_selfAndReached (a1 : Int32) (σ : pw_Mem) (K : Int32 → pw_Mem → Prop) : Prop := vp_in a1 20 ∧ K ((σ 17 (Int32.toNatClampNeg a1)) ||| (1 <<< (a1 &&& 31))) σ
set_option maxHeartbeats 4000000 in
theorem c_X2_selfAndReached {L : pw_Lay} {d : Nat} {a1 : Int32} {σ : pw_Mem} {K : Int32 → pw_Mem → Prop} (h : R_X2_selfAndReached a1 σ K) : CT L (d + 0) m_X2_selfAndReached [.ref 14, .int a1] σ (ki K) := by
  refine pw_enter (by decide) rfl (Nat.le_of_ble_eq_true rfl) (ls := [some (.ref 14), some (.int a1)]) rfl ?_
  unfold R_X2_selfAndReached at h
  refine pw_aload_n (i := 0) dX2_selfAndReached_0 rfl rfl ?_
  refine pw_getR dX2_selfAndReached_1 fl_X2_22 rfl rfl ?_
  refine pw_iload_n (i := 1) dX2_selfAndReached_4 rfl rfl ?_
  obtain ⟨hb, h⟩ := h
  refine pw_iald dX2_selfAndReached_5 rfl hb ?_
  refine pw_iconst (v := 1) dX2_selfAndReached_6 kc_1 ?_
  refine pw_iload_n (i := 1) dX2_selfAndReached_7 rfl rfl ?_
  refine pw_ishl dX2_selfAndReached_8 ?_
  refine pw_ior dX2_selfAndReached_9 ?_
  exact pw_ret dX2_selfAndReached_10 rfl rfl ⟨_, rfl, h⟩
/-! J6_bitCount_0f7a4 -/
def R_J6_bitCount_0f7a4 (a1 : Int32) (σ : pw_Mem) (K : Int32 → pw_Mem → Prop) : Prop := K ((((((((a1 - (((Int32.toUInt32 a1 >>> (Int32.toUInt32 (1 : Int32) &&& Int32.toUInt32 31)).toInt32) &&& 1431655765)) &&& 858993459) + (((Int32.toUInt32 (a1 - (((Int32.toUInt32 a1 >>> (Int32.toUInt32 (1 : Int32) &&& Int32.toUInt32 31)).toInt32) &&& 1431655765)) >>> (Int32.toUInt32 (2 : Int32) &&& Int32.toUInt32 31)).toInt32) &&& 858993459)) + ((Int32.toUInt32 (((a1 - (((Int32.toUInt32 a1 >>> (Int32.toUInt32 (1 : Int32) &&& Int32.toUInt32 31)).toInt32) &&& 1431655765)) &&& 858993459) + (((Int32.toUInt32 (a1 - (((Int32.toUInt32 a1 >>> (Int32.toUInt32 (1 : Int32) &&& Int32.toUInt32 31)).toInt32) &&& 1431655765)) >>> (Int32.toUInt32 (2 : Int32) &&& Int32.toUInt32 31)).toInt32) &&& 858993459)) >>> (Int32.toUInt32 (4 : Int32) &&& Int32.toUInt32 31)).toInt32)) &&& 252645135) + ((Int32.toUInt32 (((((a1 - (((Int32.toUInt32 a1 >>> (Int32.toUInt32 (1 : Int32) &&& Int32.toUInt32 31)).toInt32) &&& 1431655765)) &&& 858993459) + (((Int32.toUInt32 (a1 - (((Int32.toUInt32 a1 >>> (Int32.toUInt32 (1 : Int32) &&& Int32.toUInt32 31)).toInt32) &&& 1431655765)) >>> (Int32.toUInt32 (2 : Int32) &&& Int32.toUInt32 31)).toInt32) &&& 858993459)) + ((Int32.toUInt32 (((a1 - (((Int32.toUInt32 a1 >>> (Int32.toUInt32 (1 : Int32) &&& Int32.toUInt32 31)).toInt32) &&& 1431655765)) &&& 858993459) + (((Int32.toUInt32 (a1 - (((Int32.toUInt32 a1 >>> (Int32.toUInt32 (1 : Int32) &&& Int32.toUInt32 31)).toInt32) &&& 1431655765)) >>> (Int32.toUInt32 (2 : Int32) &&& Int32.toUInt32 31)).toInt32) &&& 858993459)) >>> (Int32.toUInt32 (4 : Int32) &&& Int32.toUInt32 31)).toInt32)) &&& 252645135) >>> (Int32.toUInt32 (8 : Int32) &&& Int32.toUInt32 31)).toInt32)) + ((Int32.toUInt32 ((((((a1 - (((Int32.toUInt32 a1 >>> (Int32.toUInt32 (1 : Int32) &&& Int32.toUInt32 31)).toInt32) &&& 1431655765)) &&& 858993459) + (((Int32.toUInt32 (a1 - (((Int32.toUInt32 a1 >>> (Int32.toUInt32 (1 : Int32) &&& Int32.toUInt32 31)).toInt32) &&& 1431655765)) >>> (Int32.toUInt32 (2 : Int32) &&& Int32.toUInt32 31)).toInt32) &&& 858993459)) + ((Int32.toUInt32 (((a1 - (((Int32.toUInt32 a1 >>> (Int32.toUInt32 (1 : Int32) &&& Int32.toUInt32 31)).toInt32) &&& 1431655765)) &&& 858993459) + (((Int32.toUInt32 (a1 - (((Int32.toUInt32 a1 >>> (Int32.toUInt32 (1 : Int32) &&& Int32.toUInt32 31)).toInt32) &&& 1431655765)) >>> (Int32.toUInt32 (2 : Int32) &&& Int32.toUInt32 31)).toInt32) &&& 858993459)) >>> (Int32.toUInt32 (4 : Int32) &&& Int32.toUInt32 31)).toInt32)) &&& 252645135) + ((Int32.toUInt32 (((((a1 - (((Int32.toUInt32 a1 >>> (Int32.toUInt32 (1 : Int32) &&& Int32.toUInt32 31)).toInt32) &&& 1431655765)) &&& 858993459) + (((Int32.toUInt32 (a1 - (((Int32.toUInt32 a1 >>> (Int32.toUInt32 (1 : Int32) &&& Int32.toUInt32 31)).toInt32) &&& 1431655765)) >>> (Int32.toUInt32 (2 : Int32) &&& Int32.toUInt32 31)).toInt32) &&& 858993459)) + ((Int32.toUInt32 (((a1 - (((Int32.toUInt32 a1 >>> (Int32.toUInt32 (1 : Int32) &&& Int32.toUInt32 31)).toInt32) &&& 1431655765)) &&& 858993459) + (((Int32.toUInt32 (a1 - (((Int32.toUInt32 a1 >>> (Int32.toUInt32 (1 : Int32) &&& Int32.toUInt32 31)).toInt32) &&& 1431655765)) >>> (Int32.toUInt32 (2 : Int32) &&& Int32.toUInt32 31)).toInt32) &&& 858993459)) >>> (Int32.toUInt32 (4 : Int32) &&& Int32.toUInt32 31)).toInt32)) &&& 252645135) >>> (Int32.toUInt32 (8 : Int32) &&& Int32.toUInt32 31)).toInt32)) >>> (Int32.toUInt32 (16 : Int32) &&& Int32.toUInt32 31)).toInt32)) &&& 63) σ
set_option maxHeartbeats 4000000 in
theorem c_J6_bitCount_0f7a4 {L : pw_Lay} {d : Nat} {a1 : Int32} {σ : pw_Mem} {K : Int32 → pw_Mem → Prop} (h : R_J6_bitCount_0f7a4 a1 σ K) : CT L (d + 0) m_J6_bitCount_0f7a4 [.int a1] σ (ki K) := by
  refine pw_enter (by decide) rfl (Nat.le_of_ble_eq_true rfl) (ls := [some (.int a1)]) rfl ?_
  unfold R_J6_bitCount_0f7a4 at h
  refine pw_iload_n (i := 0) dJ6_bitCount_0f7a4_0 rfl rfl ?_
  refine pw_iload_n (i := 0) dJ6_bitCount_0f7a4_1 rfl rfl ?_
  refine pw_iconst (v := 1) dJ6_bitCount_0f7a4_2 kc_1 ?_
  refine pw_iushr dJ6_bitCount_0f7a4_3 rfl ?_
  refine pw_ldcw dJ6_bitCount_0f7a4_4 k_J6_265 ?_
  refine pw_iand dJ6_bitCount_0f7a4_7 ?_
  refine pw_isub dJ6_bitCount_0f7a4_8 ?_
  refine pw_istore_n (i := 0) (ls' := [some (.int (a1 - (((Int32.toUInt32 a1 >>> (Int32.toUInt32 (1 : Int32) &&& Int32.toUInt32 31)).toInt32) &&& 1431655765)))]) dJ6_bitCount_0f7a4_9 rfl (Nat.le_of_ble_eq_true rfl) rfl ?_
  refine pw_iload_n (i := 0) dJ6_bitCount_0f7a4_10 rfl rfl ?_
  refine pw_ldcw dJ6_bitCount_0f7a4_11 k_J6_266 ?_
  refine pw_iand dJ6_bitCount_0f7a4_14 ?_
  refine pw_iload_n (i := 0) dJ6_bitCount_0f7a4_15 rfl rfl ?_
  refine pw_iconst (v := 2) dJ6_bitCount_0f7a4_16 kc_2 ?_
  refine pw_iushr dJ6_bitCount_0f7a4_17 rfl ?_
  refine pw_ldcw dJ6_bitCount_0f7a4_18 k_J6_266 ?_
  refine pw_iand dJ6_bitCount_0f7a4_21 ?_
  refine pw_iadd dJ6_bitCount_0f7a4_22 ?_
  refine pw_istore_n (i := 0) (ls' := [some (.int (((a1 - (((Int32.toUInt32 a1 >>> (Int32.toUInt32 (1 : Int32) &&& Int32.toUInt32 31)).toInt32) &&& 1431655765)) &&& 858993459) + (((Int32.toUInt32 (a1 - (((Int32.toUInt32 a1 >>> (Int32.toUInt32 (1 : Int32) &&& Int32.toUInt32 31)).toInt32) &&& 1431655765)) >>> (Int32.toUInt32 (2 : Int32) &&& Int32.toUInt32 31)).toInt32) &&& 858993459)))]) dJ6_bitCount_0f7a4_23 rfl (Nat.le_of_ble_eq_true rfl) rfl ?_
  refine pw_iload_n (i := 0) dJ6_bitCount_0f7a4_24 rfl rfl ?_
  refine pw_iload_n (i := 0) dJ6_bitCount_0f7a4_25 rfl rfl ?_
  refine pw_iconst (v := 4) dJ6_bitCount_0f7a4_26 kc_4 ?_
  refine pw_iushr dJ6_bitCount_0f7a4_27 rfl ?_
  refine pw_iadd dJ6_bitCount_0f7a4_28 ?_
  refine pw_ldcw dJ6_bitCount_0f7a4_29 k_J6_267 ?_
  refine pw_iand dJ6_bitCount_0f7a4_32 ?_
  refine pw_istore_n (i := 0) (ls' := [some (.int (((((a1 - (((Int32.toUInt32 a1 >>> (Int32.toUInt32 (1 : Int32) &&& Int32.toUInt32 31)).toInt32) &&& 1431655765)) &&& 858993459) + (((Int32.toUInt32 (a1 - (((Int32.toUInt32 a1 >>> (Int32.toUInt32 (1 : Int32) &&& Int32.toUInt32 31)).toInt32) &&& 1431655765)) >>> (Int32.toUInt32 (2 : Int32) &&& Int32.toUInt32 31)).toInt32) &&& 858993459)) + ((Int32.toUInt32 (((a1 - (((Int32.toUInt32 a1 >>> (Int32.toUInt32 (1 : Int32) &&& Int32.toUInt32 31)).toInt32) &&& 1431655765)) &&& 858993459) + (((Int32.toUInt32 (a1 - (((Int32.toUInt32 a1 >>> (Int32.toUInt32 (1 : Int32) &&& Int32.toUInt32 31)).toInt32) &&& 1431655765)) >>> (Int32.toUInt32 (2 : Int32) &&& Int32.toUInt32 31)).toInt32) &&& 858993459)) >>> (Int32.toUInt32 (4 : Int32) &&& Int32.toUInt32 31)).toInt32)) &&& 252645135))]) dJ6_bitCount_0f7a4_33 rfl (Nat.le_of_ble_eq_true rfl) rfl ?_
  refine pw_iload_n (i := 0) dJ6_bitCount_0f7a4_34 rfl rfl ?_
  refine pw_iload_n (i := 0) dJ6_bitCount_0f7a4_35 rfl rfl ?_
  refine pw_bipush (v := 8) dJ6_bitCount_0f7a4_36 kb_8 ?_
  refine pw_iushr dJ6_bitCount_0f7a4_38 rfl ?_
  refine pw_iadd dJ6_bitCount_0f7a4_39 ?_
  refine pw_istore_n (i := 0) (ls' := [some (.int ((((((a1 - (((Int32.toUInt32 a1 >>> (Int32.toUInt32 (1 : Int32) &&& Int32.toUInt32 31)).toInt32) &&& 1431655765)) &&& 858993459) + (((Int32.toUInt32 (a1 - (((Int32.toUInt32 a1 >>> (Int32.toUInt32 (1 : Int32) &&& Int32.toUInt32 31)).toInt32) &&& 1431655765)) >>> (Int32.toUInt32 (2 : Int32) &&& Int32.toUInt32 31)).toInt32) &&& 858993459)) + ((Int32.toUInt32 (((a1 - (((Int32.toUInt32 a1 >>> (Int32.toUInt32 (1 : Int32) &&& Int32.toUInt32 31)).toInt32) &&& 1431655765)) &&& 858993459) + (((Int32.toUInt32 (a1 - (((Int32.toUInt32 a1 >>> (Int32.toUInt32 (1 : Int32) &&& Int32.toUInt32 31)).toInt32) &&& 1431655765)) >>> (Int32.toUInt32 (2 : Int32) &&& Int32.toUInt32 31)).toInt32) &&& 858993459)) >>> (Int32.toUInt32 (4 : Int32) &&& Int32.toUInt32 31)).toInt32)) &&& 252645135) + ((Int32.toUInt32 (((((a1 - (((Int32.toUInt32 a1 >>> (Int32.toUInt32 (1 : Int32) &&& Int32.toUInt32 31)).toInt32) &&& 1431655765)) &&& 858993459) + (((Int32.toUInt32 (a1 - (((Int32.toUInt32 a1 >>> (Int32.toUInt32 (1 : Int32) &&& Int32.toUInt32 31)).toInt32) &&& 1431655765)) >>> (Int32.toUInt32 (2 : Int32) &&& Int32.toUInt32 31)).toInt32) &&& 858993459)) + ((Int32.toUInt32 (((a1 - (((Int32.toUInt32 a1 >>> (Int32.toUInt32 (1 : Int32) &&& Int32.toUInt32 31)).toInt32) &&& 1431655765)) &&& 858993459) + (((Int32.toUInt32 (a1 - (((Int32.toUInt32 a1 >>> (Int32.toUInt32 (1 : Int32) &&& Int32.toUInt32 31)).toInt32) &&& 1431655765)) >>> (Int32.toUInt32 (2 : Int32) &&& Int32.toUInt32 31)).toInt32) &&& 858993459)) >>> (Int32.toUInt32 (4 : Int32) &&& Int32.toUInt32 31)).toInt32)) &&& 252645135) >>> (Int32.toUInt32 (8 : Int32) &&& Int32.toUInt32 31)).toInt32)))]) dJ6_bitCount_0f7a4_40 rfl (Nat.le_of_ble_eq_true rfl) rfl ?_
  refine pw_iload_n (i := 0) dJ6_bitCount_0f7a4_41 rfl rfl ?_
  refine pw_iload_n (i := 0) dJ6_bitCount_0f7a4_42 rfl rfl ?_
  refine pw_bipush (v := 16) dJ6_bitCount_0f7a4_43 kb_16 ?_
  refine pw_iushr dJ6_bitCount_0f7a4_45 rfl ?_
  refine pw_iadd dJ6_bitCount_0f7a4_46 ?_
  refine pw_istore_n (i := 0) (ls' := [some (.int (((((((a1 - (((Int32.toUInt32 a1 >>> (Int32.toUInt32 (1 : Int32) &&& Int32.toUInt32 31)).toInt32) &&& 1431655765)) &&& 858993459) + (((Int32.toUInt32 (a1 - (((Int32.toUInt32 a1 >>> (Int32.toUInt32 (1 : Int32) &&& Int32.toUInt32 31)).toInt32) &&& 1431655765)) >>> (Int32.toUInt32 (2 : Int32) &&& Int32.toUInt32 31)).toInt32) &&& 858993459)) + ((Int32.toUInt32 (((a1 - (((Int32.toUInt32 a1 >>> (Int32.toUInt32 (1 : Int32) &&& Int32.toUInt32 31)).toInt32) &&& 1431655765)) &&& 858993459) + (((Int32.toUInt32 (a1 - (((Int32.toUInt32 a1 >>> (Int32.toUInt32 (1 : Int32) &&& Int32.toUInt32 31)).toInt32) &&& 1431655765)) >>> (Int32.toUInt32 (2 : Int32) &&& Int32.toUInt32 31)).toInt32) &&& 858993459)) >>> (Int32.toUInt32 (4 : Int32) &&& Int32.toUInt32 31)).toInt32)) &&& 252645135) + ((Int32.toUInt32 (((((a1 - (((Int32.toUInt32 a1 >>> (Int32.toUInt32 (1 : Int32) &&& Int32.toUInt32 31)).toInt32) &&& 1431655765)) &&& 858993459) + (((Int32.toUInt32 (a1 - (((Int32.toUInt32 a1 >>> (Int32.toUInt32 (1 : Int32) &&& Int32.toUInt32 31)).toInt32) &&& 1431655765)) >>> (Int32.toUInt32 (2 : Int32) &&& Int32.toUInt32 31)).toInt32) &&& 858993459)) + ((Int32.toUInt32 (((a1 - (((Int32.toUInt32 a1 >>> (Int32.toUInt32 (1 : Int32) &&& Int32.toUInt32 31)).toInt32) &&& 1431655765)) &&& 858993459) + (((Int32.toUInt32 (a1 - (((Int32.toUInt32 a1 >>> (Int32.toUInt32 (1 : Int32) &&& Int32.toUInt32 31)).toInt32) &&& 1431655765)) >>> (Int32.toUInt32 (2 : Int32) &&& Int32.toUInt32 31)).toInt32) &&& 858993459)) >>> (Int32.toUInt32 (4 : Int32) &&& Int32.toUInt32 31)).toInt32)) &&& 252645135) >>> (Int32.toUInt32 (8 : Int32) &&& Int32.toUInt32 31)).toInt32)) + ((Int32.toUInt32 ((((((a1 - (((Int32.toUInt32 a1 >>> (Int32.toUInt32 (1 : Int32) &&& Int32.toUInt32 31)).toInt32) &&& 1431655765)) &&& 858993459) + (((Int32.toUInt32 (a1 - (((Int32.toUInt32 a1 >>> (Int32.toUInt32 (1 : Int32) &&& Int32.toUInt32 31)).toInt32) &&& 1431655765)) >>> (Int32.toUInt32 (2 : Int32) &&& Int32.toUInt32 31)).toInt32) &&& 858993459)) + ((Int32.toUInt32 (((a1 - (((Int32.toUInt32 a1 >>> (Int32.toUInt32 (1 : Int32) &&& Int32.toUInt32 31)).toInt32) &&& 1431655765)) &&& 858993459) + (((Int32.toUInt32 (a1 - (((Int32.toUInt32 a1 >>> (Int32.toUInt32 (1 : Int32) &&& Int32.toUInt32 31)).toInt32) &&& 1431655765)) >>> (Int32.toUInt32 (2 : Int32) &&& Int32.toUInt32 31)).toInt32) &&& 858993459)) >>> (Int32.toUInt32 (4 : Int32) &&& Int32.toUInt32 31)).toInt32)) &&& 252645135) + ((Int32.toUInt32 (((((a1 - (((Int32.toUInt32 a1 >>> (Int32.toUInt32 (1 : Int32) &&& Int32.toUInt32 31)).toInt32) &&& 1431655765)) &&& 858993459) + (((Int32.toUInt32 (a1 - (((Int32.toUInt32 a1 >>> (Int32.toUInt32 (1 : Int32) &&& Int32.toUInt32 31)).toInt32) &&& 1431655765)) >>> (Int32.toUInt32 (2 : Int32) &&& Int32.toUInt32 31)).toInt32) &&& 858993459)) + ((Int32.toUInt32 (((a1 - (((Int32.toUInt32 a1 >>> (Int32.toUInt32 (1 : Int32) &&& Int32.toUInt32 31)).toInt32) &&& 1431655765)) &&& 858993459) + (((Int32.toUInt32 (a1 - (((Int32.toUInt32 a1 >>> (Int32.toUInt32 (1 : Int32) &&& Int32.toUInt32 31)).toInt32) &&& 1431655765)) >>> (Int32.toUInt32 (2 : Int32) &&& Int32.toUInt32 31)).toInt32) &&& 858993459)) >>> (Int32.toUInt32 (4 : Int32) &&& Int32.toUInt32 31)).toInt32)) &&& 252645135) >>> (Int32.toUInt32 (8 : Int32) &&& Int32.toUInt32 31)).toInt32)) >>> (Int32.toUInt32 (16 : Int32) &&& Int32.toUInt32 31)).toInt32)))]) dJ6_bitCount_0f7a4_47 rfl (Nat.le_of_ble_eq_true rfl) rfl ?_
  refine pw_iload_n (i := 0) dJ6_bitCount_0f7a4_48 rfl rfl ?_
  refine pw_bipush (v := 63) dJ6_bitCount_0f7a4_49 kb_63 ?_
  refine pw_iand dJ6_bitCount_0f7a4_51 ?_
  exact pw_ret dJ6_bitCount_0f7a4_52 rfl rfl ⟨_, rfl, h⟩
/-! X2_orderLeaders -/
def R_X2_orderLeaders_L20 (K : pw_Mem → Prop) (KX : Int32 → Int32 → pw_Mem → Prop) : Nat → Int32 → Int32 → pw_Mem → Prop
  | 0, _, _, _ => False
  | n + 1, l1, l2, σ => (((σ 1 2) ≤ l2 → KX l1 l2 σ) ∧ (¬ (σ 1 2) ≤ l2 → vp_in l2 20 ∧ R_X10_leastOf (σ 18 (Int32.toNatClampNeg l2)) σ (fun x3 τ2 => ((¬ x3 = l2 → R_X2_orderLeaders_L20 K KX n l1 (l2 + 1) τ2) ∧ (x3 = l2 → R_X2_selfAndReached l2 τ2 (fun x5 τ4 => R_J6_bitCount_0f7a4 x5 τ4 (fun x7 τ6 => ((¬ x7 = l1 → R_X2_orderLeaders_L20 K KX n l1 (l2 + 1) τ6) ∧ (x7 = l1 → vp_in (τ6 14 10) 20 ∧ ∀ τ8, τ8 = pw_up τ6 19 (Int32.toNatClampNeg (τ6 14 10)) l2 → ∀ τ9, τ9 = pw_up τ8 14 10 ((τ8 14 10) + 1) → R_X2_orderLeaders_L20 K KX n l1 (l2 + 1) τ9)))))))))
def R_X2_orderLeaders_L7 (K : pw_Mem → Prop) (KX : Int32 → pw_Mem → Prop) : Nat → Int32 → pw_Mem → Prop
  | 0, _, _ => False
  | n + 1, l1, σ => (((σ 1 2) < l1 → KX l1 σ) ∧ (¬ (σ 1 2) < l1 → ∃ n13, R_X2_orderLeaders_L20 K (fun y10 y11 τ12 => R_X2_orderLeaders_L7 K KX n (y10 + 1) τ12) n13 l1 0 σ))
def R_X2_orderLeaders  (σ : pw_Mem) (K : pw_Mem → Prop) : Prop := ∀ τ1, τ1 = pw_up σ 14 10 0 → ∃ n16, R_X2_orderLeaders_L7 K (fun y14 τ15 => K τ15) n16 1 τ1
set_option maxHeartbeats 4000000 in
theorem t_X2_orderLeaders_L20 {L : pw_Lay} {d : Nat} {K : pw_Mem → Prop} {KX : Int32 → Int32 → pw_Mem → Prop} : ∀ (n : Nat) (l1 : Int32) (l2 : Int32) (σ : pw_Mem), R_X2_orderLeaders_L20 K KX n l1 l2 σ → (∀ (l1 : Int32) (l2 : Int32) (τ : pw_Mem), KX l1 l2 τ → PW L (d + 2) m_X2_orderLeaders (kv K) 82 [some (.ref 14), some (.int l1), some (.int l2)] [] τ) → PW L (d + 2) m_X2_orderLeaders (kv K) 20 [some (.ref 14), some (.int l1), some (.int l2)] [] σ := by
  intro n
  induction n with
  | zero => intro l1 l2 _ h _; exact h.elim
  | succ n ih =>
    intro l1 l2 σ h hX
    unfold R_X2_orderLeaders_L20 at h
    refine pw_iload_n (i := 2) dX2_orderLeaders_20 rfl rfl ?_
    refine pw_aload_n (i := 0) dX2_orderLeaders_21 rfl rfl ?_
    refine pw_getR dX2_orderLeaders_22 fl_X2_31 rfl rfl ?_
    refine pw_getI dX2_orderLeaders_25 fl_X2_58 rfl rfl ?_
    refine pw_icmp_ge (tgt := 82) dX2_orderLeaders_28 rfl (fun q => ?_) (fun q => ?_)
    · have h := h.1 q
      exact hX _ _ _ h
    · have h := h.2 q
      refine pw_aload_n (i := 0) dX2_orderLeaders_31 rfl rfl ?_
      refine pw_getR dX2_orderLeaders_32 fl_X2_25 rfl rfl ?_
      refine pw_iload_n (i := 2) dX2_orderLeaders_35 rfl rfl ?_
      obtain ⟨hb, h⟩ := h
      refine pw_iald dX2_orderLeaders_36 rfl hb ?_
      refine pw_cNi [.int (σ 18 (Int32.toNatClampNeg l2))] dX2_orderLeaders_37 mn_X2_89 rfl rfl (Nat.le_of_ble_eq_true rfl) (c_X10_leastOf h) (fun x3 τ2 h => ?_)
      refine pw_iload_n (i := 2) dX2_orderLeaders_40 rfl rfl ?_
      refine pw_icmp_ne (tgt := 76) dX2_orderLeaders_41 rfl (fun q => ?_) (fun q => ?_)
      · have h := h.1 q
        refine pw_iinc (i := 2) (v := l2 + 1) (ls' := [some (.ref 14), some (.int l1), some (.int (l2 + 1))]) dX2_orderLeaders_76 rfl (by rw [kc_1]) (Nat.le_of_ble_eq_true rfl) rfl ?_
        refine pw_goto (tgt := 20) dX2_orderLeaders_79 rfl ?_
        exact ih _ _ _ h hX
      · have h := h.2 q
        refine pw_aload_n (i := 0) dX2_orderLeaders_44 rfl rfl ?_
        refine pw_iload_n (i := 2) dX2_orderLeaders_45 rfl rfl ?_
        refine pw_cVi [.int l2] dX2_orderLeaders_46 mv_X2_93 rfl rfl rfl (Nat.le_of_ble_eq_true rfl) (c_X2_selfAndReached h) (fun x5 τ4 h => ?_)
        refine pw_cSi [.int x5] dX2_orderLeaders_49 ms_X2_96 rfl rfl (Nat.le_of_ble_eq_true rfl) (c_J6_bitCount_0f7a4 h) (fun x7 τ6 h => ?_)
        refine pw_iload_n (i := 1) dX2_orderLeaders_52 rfl rfl ?_
        refine pw_icmp_ne (tgt := 76) dX2_orderLeaders_53 rfl (fun q => ?_) (fun q => ?_)
        · have h := h.1 q
          refine pw_iinc (i := 2) (v := l2 + 1) (ls' := [some (.ref 14), some (.int l1), some (.int (l2 + 1))]) dX2_orderLeaders_76 rfl (by rw [kc_1]) (Nat.le_of_ble_eq_true rfl) rfl ?_
          refine pw_goto (tgt := 20) dX2_orderLeaders_79 rfl ?_
          exact ih _ _ _ h hX
        · have h := h.2 q
          refine pw_aload_n (i := 0) dX2_orderLeaders_56 rfl rfl ?_
          refine pw_getR dX2_orderLeaders_57 fl_X2_28 rfl rfl ?_
          refine pw_aload_n (i := 0) dX2_orderLeaders_60 rfl rfl ?_
          refine pw_getI dX2_orderLeaders_61 fl_X2_68 rfl rfl ?_
          refine pw_iload_n (i := 2) dX2_orderLeaders_64 rfl rfl ?_
          obtain ⟨hb, h⟩ := h
          refine pw_iast dX2_orderLeaders_65 rfl hb ?_
          generalize hτ8 : pw_up τ6 19 (Int32.toNatClampNeg (τ6 14 10)) l2 = τ8
          have h := h τ8 hτ8.symm
          refine pw_aload_n (i := 0) dX2_orderLeaders_66 rfl rfl ?_
          refine pw_dup dX2_orderLeaders_67 rfl ?_
          refine pw_getI dX2_orderLeaders_68 fl_X2_68 rfl rfl ?_
          refine pw_iconst (v := 1) dX2_orderLeaders_71 kc_1 ?_
          refine pw_iadd dX2_orderLeaders_72 ?_
          refine pw_put dX2_orderLeaders_73 fp_X2_68 rfl rfl rfl rfl ?_
          generalize hτ9 : pw_up τ8 14 10 ((τ8 14 10) + 1) = τ9
          have h := h τ9 hτ9.symm
          refine pw_iinc (i := 2) (v := l2 + 1) (ls' := [some (.ref 14), some (.int l1), some (.int (l2 + 1))]) dX2_orderLeaders_76 rfl (by rw [kc_1]) (Nat.le_of_ble_eq_true rfl) rfl ?_
          refine pw_goto (tgt := 20) dX2_orderLeaders_79 rfl ?_
          exact ih _ _ _ h hX
set_option maxHeartbeats 4000000 in
theorem t_X2_orderLeaders_L7 {L : pw_Lay} {d : Nat} {K : pw_Mem → Prop} {KX : Int32 → pw_Mem → Prop} : ∀ (n : Nat) (l1 : Int32) (σ : pw_Mem), R_X2_orderLeaders_L7 K KX n l1 σ → (∀ (l1 : Int32) (τ : pw_Mem), KX l1 τ → PW L (d + 2) m_X2_orderLeaders (kv K) 88 [some (.ref 14), some (.int l1), none] [] τ) → PW L (d + 2) m_X2_orderLeaders (kv K) 7 [some (.ref 14), some (.int l1), none] [] σ := by
  intro n
  induction n with
  | zero => intro l1 _ h _; exact h.elim
  | succ n ih =>
    intro l1 σ h hX
    unfold R_X2_orderLeaders_L7 at h
    refine pw_iload_n (i := 1) dX2_orderLeaders_7 rfl rfl ?_
    refine pw_aload_n (i := 0) dX2_orderLeaders_8 rfl rfl ?_
    refine pw_getR dX2_orderLeaders_9 fl_X2_31 rfl rfl ?_
    refine pw_getI dX2_orderLeaders_12 fl_X2_58 rfl rfl ?_
    refine pw_icmp_gt (tgt := 88) dX2_orderLeaders_15 rfl (fun q => ?_) (fun q => ?_)
    · have h := h.1 q
      exact hX _ _ h
    · have h := h.2 q
      refine pw_iconst (v := 0) dX2_orderLeaders_18 kc_0 ?_
      refine pw_istore_n (i := 2) (ls' := [some (.ref 14), some (.int l1), some (.int 0)]) dX2_orderLeaders_19 rfl (Nat.le_of_ble_eq_true rfl) rfl ?_
      obtain ⟨n13, h⟩ := h
      refine t_X2_orderLeaders_L20 _ _ _ _ h (fun y10 y11 τ12 h => ?_)
      refine pw_iinc (i := 1) (v := y10 + 1) (ls' := [some (.ref 14), some (.int (y10 + 1)), some (.int y11)]) dX2_orderLeaders_82 rfl (by rw [kc_1]) (Nat.le_of_ble_eq_true rfl) rfl ?_
      refine pw_goto (tgt := 7) dX2_orderLeaders_85 rfl ?_
      refine pw_forget (ls' := [some (.ref 14), some (.int (y10 + 1)), none]) (And.intro rfl (And.intro rfl trivial)) ?_
      exact ih _ _ h hX
set_option maxHeartbeats 4000000 in
theorem c_X2_orderLeaders {L : pw_Lay} {d : Nat}  {σ : pw_Mem} {K : pw_Mem → Prop} (h : R_X2_orderLeaders  σ K) : CT L (d + 2) m_X2_orderLeaders [.ref 14] σ (kv K) := by
  refine pw_enter (by decide) rfl (Nat.le_of_ble_eq_true rfl) (ls := [some (.ref 14), none, none]) rfl ?_
  unfold R_X2_orderLeaders at h
  refine pw_aload_n (i := 0) dX2_orderLeaders_0 rfl rfl ?_
  refine pw_iconst (v := 0) dX2_orderLeaders_1 kc_0 ?_
  refine pw_put dX2_orderLeaders_2 fp_X2_68 rfl rfl rfl rfl ?_
  generalize hτ1 : pw_up σ 14 10 0 = τ1
  have h := h τ1 hτ1.symm
  refine pw_iconst (v := 1) dX2_orderLeaders_5 kc_1 ?_
  refine pw_istore_n (i := 1) (ls' := [some (.ref 14), some (.int 1), none]) dX2_orderLeaders_6 rfl (Nat.le_of_ble_eq_true rfl) rfl ?_
  obtain ⟨n16, h⟩ := h
  refine t_X2_orderLeaders_L7 _ _ _ h (fun y14 τ15 h => ?_)
  exact pw_vret dX2_orderLeaders_88 rfl ⟨rfl, h⟩
/-! X2_refresh -/
def R_X2_refresh  (σ : pw_Mem) (K : pw_Mem → Prop) : Prop := ((¬ (σ 14 3) = 0 → ∀ τ1, τ1 = pw_up σ 14 3 0 → R_X2_drawCalls  τ1 (fun τ2 => R_X2_closeReach  τ2 (fun τ3 => R_X2_gatherTogether  τ3 (fun τ4 => R_X2_markRings  τ4 (fun τ5 => R_X2_orderLeaders  τ5 (fun τ6 => K τ6)))))) ∧ ((σ 14 3) = 0 → K σ))
set_option maxHeartbeats 4000000 in
theorem c_X2_refresh {L : pw_Lay} {d : Nat}  {σ : pw_Mem} {K : pw_Mem → Prop} (h : R_X2_refresh  σ K) : CT L (d + 3) m_X2_refresh [.ref 14] σ (kv K) := by
  refine pw_enter (by decide) rfl (Nat.le_of_ble_eq_true rfl) (ls := [some (.ref 14)]) rfl ?_
  unfold R_X2_refresh at h
  refine pw_aload_n (i := 0) dX2_refresh_0 rfl rfl ?_
  refine pw_getI dX2_refresh_1 fl_X2_9 rfl rfl ?_
  refine pw_if_ne (tgt := 8) dX2_refresh_4 rfl (fun q => ?_) (fun q => ?_)
  · have h := h.1 q
    refine pw_aload_n (i := 0) dX2_refresh_8 rfl rfl ?_
    refine pw_iconst (v := 0) dX2_refresh_9 kc_0 ?_
    refine pw_put dX2_refresh_10 fp_X2_9 rfl rfl rfl rfl ?_
    generalize hτ1 : pw_up σ 14 3 0 = τ1
    have h := h τ1 hτ1.symm
    refine pw_aload_n (i := 0) dX2_refresh_13 rfl rfl ?_
    refine pw_cVv [] dX2_refresh_14 mv_X2_43 rfl rfl rfl (Nat.le_of_ble_eq_true rfl) (c_X2_drawCalls h) (fun τ2 h => ?_)
    refine pw_aload_n (i := 0) dX2_refresh_17 rfl rfl ?_
    refine pw_cVv [] dX2_refresh_18 mv_X2_46 rfl rfl rfl (Nat.le_of_ble_eq_true rfl) (c_X2_closeReach h) (fun τ3 h => ?_)
    refine pw_aload_n (i := 0) dX2_refresh_21 rfl rfl ?_
    refine pw_cVv [] dX2_refresh_22 mv_X2_49 rfl rfl rfl (Nat.le_of_ble_eq_true rfl) (c_X2_gatherTogether h) (fun τ4 h => ?_)
    refine pw_aload_n (i := 0) dX2_refresh_25 rfl rfl ?_
    refine pw_cVv [] dX2_refresh_26 mv_X2_52 rfl rfl rfl (Nat.le_of_ble_eq_true rfl) (c_X2_markRings h) (fun τ5 h => ?_)
    refine pw_aload_n (i := 0) dX2_refresh_29 rfl rfl ?_
    refine pw_cVv [] dX2_refresh_30 mv_X2_55 rfl rfl rfl (Nat.le_of_ble_eq_true rfl) (c_X2_orderLeaders h) (fun τ6 h => ?_)
    exact pw_vret dX2_refresh_33 rfl ⟨rfl, h⟩
  · have h := h.2 q
    exact pw_vret dX2_refresh_7 rfl ⟨rfl, h⟩
/-! X2_howManyReach -/
def R_X2_howManyReach_L4 (K : Int32 → pw_Mem → Prop) (KX : Int32 → Int32 → Int32 → pw_Mem → Prop) : Nat → Int32 → Int32 → Int32 → pw_Mem → Prop
  | 0, _, _, _, _ => False
  | n + 1, l1, l2, l3, σ => (((σ 1 2) ≤ l3 → KX l1 l2 l3 σ) ∧ (¬ (σ 1 2) ≤ l3 → vp_in l3 20 ∧ R_X10_holds (σ 17 (Int32.toNatClampNeg l3)) l1 σ (fun x2 τ1 => ((x2 = 0 → R_X2_howManyReach_L4 K KX n l1 l2 (l3 + 1) τ1) ∧ (¬ x2 = 0 → R_X2_howManyReach_L4 K KX n l1 (l2 + 1) (l3 + 1) τ1)))))
def R_X2_howManyReach (a1 : Int32) (σ : pw_Mem) (K : Int32 → pw_Mem → Prop) : Prop := ∃ n7, R_X2_howManyReach_L4 K (fun y3 y4 y5 τ6 => K y4 τ6) n7 a1 0 0 σ
set_option maxHeartbeats 4000000 in
theorem t_X2_howManyReach_L4 {L : pw_Lay} {d : Nat} {K : Int32 → pw_Mem → Prop} {KX : Int32 → Int32 → Int32 → pw_Mem → Prop} : ∀ (n : Nat) (l1 : Int32) (l2 : Int32) (l3 : Int32) (σ : pw_Mem), R_X2_howManyReach_L4 K KX n l1 l2 l3 σ → (∀ (l1 : Int32) (l2 : Int32) (l3 : Int32) (τ : pw_Mem), KX l1 l2 l3 τ → PW L (d + 1) m_X2_howManyReach (ki K) 37 [some (.ref 14), some (.int l1), some (.int l2), some (.int l3)] [] τ) → PW L (d + 1) m_X2_howManyReach (ki K) 4 [some (.ref 14), some (.int l1), some (.int l2), some (.int l3)] [] σ := by
  intro n
  induction n with
  | zero => intro l1 l2 l3 _ h _; exact h.elim
  | succ n ih =>
    intro l1 l2 l3 σ h hX
    unfold R_X2_howManyReach_L4 at h
    refine pw_iload_n (i := 3) dX2_howManyReach_4 rfl rfl ?_
    refine pw_aload_n (i := 0) dX2_howManyReach_5 rfl rfl ?_
    refine pw_getR dX2_howManyReach_6 fl_X2_31 rfl rfl ?_
    refine pw_getI dX2_howManyReach_9 fl_X2_58 rfl rfl ?_
    refine pw_icmp_ge (tgt := 37) dX2_howManyReach_12 rfl (fun q => ?_) (fun q => ?_)
    · have h := h.1 q
      exact hX _ _ _ _ h
    · have h := h.2 q
      refine pw_aload_n (i := 0) dX2_howManyReach_15 rfl rfl ?_
      refine pw_getR dX2_howManyReach_16 fl_X2_22 rfl rfl ?_
      refine pw_iload_n (i := 3) dX2_howManyReach_19 rfl rfl ?_
      obtain ⟨hb, h⟩ := h
      refine pw_iald dX2_howManyReach_20 rfl hb ?_
      refine pw_iload_n (i := 1) dX2_howManyReach_21 rfl rfl ?_
      refine pw_cNi [.int (σ 17 (Int32.toNatClampNeg l3)), .int l1] dX2_howManyReach_22 mn_X2_64 rfl rfl (Nat.le_of_ble_eq_true rfl) (c_X10_holds h) (fun x2 τ1 h => ?_)
      refine pw_if_eq (tgt := 31) dX2_howManyReach_25 rfl (fun q => ?_) (fun q => ?_)
      · have h := h.1 q
        refine pw_iinc (i := 3) (v := l3 + 1) (ls' := [some (.ref 14), some (.int l1), some (.int l2), some (.int (l3 + 1))]) dX2_howManyReach_31 rfl (by rw [kc_1]) (Nat.le_of_ble_eq_true rfl) rfl ?_
        refine pw_goto (tgt := 4) dX2_howManyReach_34 rfl ?_
        exact ih _ _ _ _ h hX
      · have h := h.2 q
        refine pw_iinc (i := 2) (v := l2 + 1) (ls' := [some (.ref 14), some (.int l1), some (.int (l2 + 1)), some (.int l3)]) dX2_howManyReach_28 rfl (by rw [kc_1]) (Nat.le_of_ble_eq_true rfl) rfl ?_
        refine pw_iinc (i := 3) (v := l3 + 1) (ls' := [some (.ref 14), some (.int l1), some (.int (l2 + 1)), some (.int (l3 + 1))]) dX2_howManyReach_31 rfl (by rw [kc_1]) (Nat.le_of_ble_eq_true rfl) rfl ?_
        refine pw_goto (tgt := 4) dX2_howManyReach_34 rfl ?_
        exact ih _ _ _ _ h hX
set_option maxHeartbeats 4000000 in
theorem c_X2_howManyReach {L : pw_Lay} {d : Nat} {a1 : Int32} {σ : pw_Mem} {K : Int32 → pw_Mem → Prop} (h : R_X2_howManyReach a1 σ K) : CT L (d + 1) m_X2_howManyReach [.ref 14, .int a1] σ (ki K) := by
  refine pw_enter (by decide) rfl (Nat.le_of_ble_eq_true rfl) (ls := [some (.ref 14), some (.int a1), none, none]) rfl ?_
  unfold R_X2_howManyReach at h
  refine pw_iconst (v := 0) dX2_howManyReach_0 kc_0 ?_
  refine pw_istore_n (i := 2) (ls' := [some (.ref 14), some (.int a1), some (.int 0), none]) dX2_howManyReach_1 rfl (Nat.le_of_ble_eq_true rfl) rfl ?_
  refine pw_iconst (v := 0) dX2_howManyReach_2 kc_0 ?_
  refine pw_istore_n (i := 3) (ls' := [some (.ref 14), some (.int a1), some (.int 0), some (.int 0)]) dX2_howManyReach_3 rfl (Nat.le_of_ble_eq_true rfl) rfl ?_
  obtain ⟨n7, h⟩ := h
  refine t_X2_howManyReach_L4 _ _ _ _ _ h (fun y3 y4 y5 τ6 h => ?_)
  refine pw_iload_n (i := 2) dX2_howManyReach_37 rfl rfl ?_
  exact pw_ret dX2_howManyReach_38 rfl rfl ⟨_, rfl, h⟩
/-! X10_about -/
def R_X10_about (a1 : Int32) (a2 : Int32) (σ : pw_Mem) (K : Int32 → pw_Mem → Prop) : Prop := R_X10_isRoutine a1 σ (fun x2 τ1 => ((¬ x2 = 0 → R_X2_refresh  τ1 (fun τ3 => (((a2 = nI 0 ∨ a2 = nI 1 ∨ a2 = nI 2 ∨ a2 = nI 3 ∨ a2 = nI 4 ∨ a2 = nI 5) ∨ ∀ c : Nat, c ≤ 5 → ¬ a2 = nI c) ∧ (a2 = nI 0 → vp_in a1 20 ∧ K (τ3 2 (Int32.toNatClampNeg a1)) τ3) ∧ (a2 = nI 1 → vp_in a1 20 ∧ K (τ3 3 (Int32.toNatClampNeg a1)) τ3) ∧ (a2 = nI 2 → R_X10_holds (τ3 14 8) a1 τ3 (fun x5 τ4 => ((x5 = 0 → K 0 τ4) ∧ (¬ x5 = 0 → K 1 τ4)))) ∧ (a2 = nI 3 → vp_in a1 20 ∧ R_X10_leastOf (τ3 18 (Int32.toNatClampNeg a1)) τ3 (fun x7 τ6 => K x7 τ6)) ∧ (a2 = nI 4 → vp_in a1 20 ∧ R_J6_bitCount_0f7a4 (τ3 17 (Int32.toNatClampNeg a1)) τ3 (fun x9 τ8 => K x9 τ8)) ∧ (a2 = nI 5 → R_X2_howManyReach a1 τ3 (fun x11 τ10 => K x11 τ10)) ∧ ((∀ c : Nat, c ≤ 5 → ¬ a2 = nI c) → K (-1) τ3)))) ∧ (x2 = 0 → K (-1) τ1)))
set_option maxHeartbeats 4000000 in
theorem c_X10_about {L : pw_Lay} {d : Nat} {a1 : Int32} {a2 : Int32} {σ : pw_Mem} {K : Int32 → pw_Mem → Prop} (h : R_X10_about a1 a2 σ K) : CT L (d + 4) m_X10_about [.ref 0, .int a1, .int a2] σ (ki K) := by
  refine pw_enter (by decide) rfl (Nat.le_of_ble_eq_true rfl) (ls := [some (.ref 0), some (.int a1), some (.int a2)]) rfl ?_
  unfold R_X10_about at h
  refine pw_aload_n (i := 0) dX10_about_0 rfl rfl ?_
  refine pw_iload_n (i := 1) dX10_about_1 rfl rfl ?_
  refine pw_cVi [.int a1] dX10_about_2 mv_X10_98 rfl rfl rfl (Nat.le_of_ble_eq_true rfl) (c_X10_isRoutine h) (fun x2 τ1 h => ?_)
  refine pw_if_ne (tgt := 10) dX10_about_5 rfl (fun q => ?_) (fun q => ?_)
  · have h := h.1 q
    refine pw_aload_n (i := 0) dX10_about_10 rfl rfl ?_
    refine pw_getR dX10_about_11 fl_X10_35 rfl rfl ?_
    refine pw_cVv [] dX10_about_14 mv_X10_153 rfl rfl rfl (Nat.le_of_ble_eq_true rfl) (c_X2_refresh h) (fun τ3 h => ?_)
    refine pw_iload_n (i := 2) dX10_about_17 rfl rfl ?_
    have hsw := h.1
    have h := h.2
    rcases hsw with hsw | hi
    · rcases hsw with hi | hi | hi | hi | hi | hi
      · have h := h.1 hi
        refine pw_sw (tgt := 56) 0 dX10_about_18 hi (by decide) (by decide) rfl rfl ?_
        refine pw_aload_n (i := 0) dX10_about_56 rfl rfl ?_
        refine pw_getR dX10_about_57 fl_X10_10 rfl rfl ?_
        refine pw_getR dX10_about_60 fl_X10_102 rfl rfl ?_
        refine pw_iload_n (i := 1) dX10_about_63 rfl rfl ?_
        obtain ⟨hb, h⟩ := h
        refine pw_iald dX10_about_64 rfl hb ?_
        exact pw_ret dX10_about_65 rfl rfl ⟨_, rfl, h⟩
      · have h := h.2.1 hi
        refine pw_sw (tgt := 66) 1 dX10_about_18 hi (by decide) (by decide) rfl rfl ?_
        refine pw_aload_n (i := 0) dX10_about_66 rfl rfl ?_
        refine pw_getR dX10_about_67 fl_X10_10 rfl rfl ?_
        refine pw_getR dX10_about_70 fl_X10_106 rfl rfl ?_
        refine pw_iload_n (i := 1) dX10_about_73 rfl rfl ?_
        obtain ⟨hb, h⟩ := h
        refine pw_iald dX10_about_74 rfl hb ?_
        exact pw_ret dX10_about_75 rfl rfl ⟨_, rfl, h⟩
      · have h := h.2.2.1 hi
        refine pw_sw (tgt := 76) 2 dX10_about_18 hi (by decide) (by decide) rfl rfl ?_
        refine pw_aload_n (i := 0) dX10_about_76 rfl rfl ?_
        refine pw_getR dX10_about_77 fl_X10_35 rfl rfl ?_
        refine pw_getI dX10_about_80 fl_X10_156 rfl rfl ?_
        refine pw_iload_n (i := 1) dX10_about_83 rfl rfl ?_
        refine pw_cSi [.int (τ3 14 8), .int a1] dX10_about_84 ms_X10_136 rfl rfl (Nat.le_of_ble_eq_true rfl) (c_X10_holds h) (fun x5 τ4 h => ?_)
        refine pw_if_eq (tgt := 94) dX10_about_87 rfl (fun q => ?_) (fun q => ?_)
        · have h := h.1 q
          refine pw_iconst (v := 0) dX10_about_94 kc_0 ?_
          exact pw_ret dX10_about_95 rfl rfl ⟨_, rfl, h⟩
        · have h := h.2 q
          refine pw_iconst (v := 1) dX10_about_90 kc_1 ?_
          refine pw_goto (tgt := 95) dX10_about_91 rfl ?_
          exact pw_ret dX10_about_95 rfl rfl ⟨_, rfl, h⟩
      · have h := h.2.2.2.1 hi
        refine pw_sw (tgt := 96) 3 dX10_about_18 hi (by decide) (by decide) rfl rfl ?_
        refine pw_aload_n (i := 0) dX10_about_96 rfl rfl ?_
        refine pw_getR dX10_about_97 fl_X10_35 rfl rfl ?_
        refine pw_getR dX10_about_100 fl_X10_159 rfl rfl ?_
        refine pw_iload_n (i := 1) dX10_about_103 rfl rfl ?_
        obtain ⟨hb, h⟩ := h
        refine pw_iald dX10_about_104 rfl hb ?_
        refine pw_cSi [.int (τ3 18 (Int32.toNatClampNeg a1))] dX10_about_105 ms_X10_162 rfl rfl (Nat.le_of_ble_eq_true rfl) (c_X10_leastOf h) (fun x7 τ6 h => ?_)
        exact pw_ret dX10_about_108 rfl rfl ⟨_, rfl, h⟩
      · have h := h.2.2.2.2.1 hi
        refine pw_sw (tgt := 109) 4 dX10_about_18 hi (by decide) (by decide) rfl rfl ?_
        refine pw_aload_n (i := 0) dX10_about_109 rfl rfl ?_
        refine pw_getR dX10_about_110 fl_X10_35 rfl rfl ?_
        refine pw_getR dX10_about_113 fl_X10_165 rfl rfl ?_
        refine pw_iload_n (i := 1) dX10_about_116 rfl rfl ?_
        obtain ⟨hb, h⟩ := h
        refine pw_iald dX10_about_117 rfl hb ?_
        refine pw_cSi [.int (τ3 17 (Int32.toNatClampNeg a1))] dX10_about_118 ms_X10_168 rfl rfl (Nat.le_of_ble_eq_true rfl) (c_J6_bitCount_0f7a4 h) (fun x9 τ8 h => ?_)
        exact pw_ret dX10_about_121 rfl rfl ⟨_, rfl, h⟩
      · have h := h.2.2.2.2.2.1 hi
        refine pw_sw (tgt := 122) 5 dX10_about_18 hi (by decide) (by decide) rfl rfl ?_
        refine pw_aload_n (i := 0) dX10_about_122 rfl rfl ?_
        refine pw_getR dX10_about_123 fl_X10_35 rfl rfl ?_
        refine pw_iload_n (i := 1) dX10_about_126 rfl rfl ?_
        refine pw_cVi [.int a1] dX10_about_127 mv_X10_173 rfl rfl rfl (Nat.le_of_ble_eq_true rfl) (c_X2_howManyReach h) (fun x11 τ10 h => ?_)
        exact pw_ret dX10_about_130 rfl rfl ⟨_, rfl, h⟩
    · have h := h.2.2.2.2.2.2 hi
      refine pw_swd (hi := 5) (tgt := 131) dX10_about_18 (by decide) hi rfl ?_
      refine pw_iconst (v := (-1)) dX10_about_131 kc_m1 ?_
      exact pw_ret dX10_about_132 rfl rfl ⟨_, rfl, h⟩
  · have h := h.2 q
    refine pw_iconst (v := (-1)) dX10_about_8 kc_m1 ?_
    exact pw_ret dX10_about_9 rfl rfl ⟨_, rfl, h⟩
/-! X1_frameOf -/
def R_X1_frameOf (a1 : Int32) (σ : pw_Mem) (K : Int32 → pw_Mem → Prop) : Prop := ((¬ a1 = (σ 20 2) → vp_in a1 20 ∧ K (σ 2 (Int32.toNatClampNeg a1)) σ) ∧ (a1 = (σ 20 2) → K 0 σ))
set_option maxHeartbeats 4000000 in
theorem c_X1_frameOf {L : pw_Lay} {d : Nat} {a1 : Int32} {σ : pw_Mem} {K : Int32 → pw_Mem → Prop} (h : R_X1_frameOf a1 σ K) : CT L (d + 0) m_X1_frameOf [.ref 20, .int a1] σ (ki K) := by
  refine pw_enter (by decide) rfl (Nat.le_of_ble_eq_true rfl) (ls := [some (.ref 20), some (.int a1)]) rfl ?_
  unfold R_X1_frameOf at h
  refine pw_iload_n (i := 1) dX1_frameOf_0 rfl rfl ?_
  refine pw_aload_n (i := 0) dX1_frameOf_1 rfl rfl ?_
  refine pw_getI dX1_frameOf_2 fl_X1_9 rfl rfl ?_
  refine pw_icmp_ne (tgt := 12) dX1_frameOf_5 rfl (fun q => ?_) (fun q => ?_)
  · have h := h.1 q
    refine pw_aload_n (i := 0) dX1_frameOf_12 rfl rfl ?_
    refine pw_getR dX1_frameOf_13 fl_X1_19 rfl rfl ?_
    refine pw_getR dX1_frameOf_16 fl_X1_95 rfl rfl ?_
    refine pw_iload_n (i := 1) dX1_frameOf_19 rfl rfl ?_
    obtain ⟨hb, h⟩ := h
    refine pw_iald dX1_frameOf_20 rfl hb ?_
    exact pw_ret dX1_frameOf_21 rfl rfl ⟨_, rfl, h⟩
  · have h := h.2 q
    refine pw_iconst (v := 0) dX1_frameOf_8 kc_0 ?_
    refine pw_goto (tgt := 21) dX1_frameOf_9 rfl ?_
    exact pw_ret dX1_frameOf_21 rfl rfl ⟨_, rfl, h⟩
/-! X10_greater -/
def R_X10_greater (a1 : Int32) (a2 : Int32) (σ : pw_Mem) (K : Int32 → pw_Mem → Prop) : Prop := ((a1 = (-5) → K (-5) σ) ∧ (¬ a1 = (-5) → ((¬ a2 = (-5) → ((a1 ≤ a2 → K a2 σ) ∧ (¬ a1 ≤ a2 → K a1 σ))) ∧ (a2 = (-5) → K (-5) σ))))
set_option maxHeartbeats 4000000 in
theorem c_X10_greater {L : pw_Lay} {d : Nat} {a1 : Int32} {a2 : Int32} {σ : pw_Mem} {K : Int32 → pw_Mem → Prop} (h : R_X10_greater a1 a2 σ K) : CT L (d + 0) m_X10_greater [.int a1, .int a2] σ (ki K) := by
  refine pw_enter (by decide) rfl (Nat.le_of_ble_eq_true rfl) (ls := [some (.int a1), some (.int a2)]) rfl ?_
  unfold R_X10_greater at h
  refine pw_iload_n (i := 0) dX10_greater_0 rfl rfl ?_
  refine pw_bipush (v := (-5)) dX10_greater_1 kb_m5 ?_
  refine pw_icmp_eq (tgt := 12) dX10_greater_3 rfl (fun q => ?_) (fun q => ?_)
  · have h := h.1 q
    refine pw_bipush (v := (-5)) dX10_greater_12 kb_m5 ?_
    exact pw_ret dX10_greater_14 rfl rfl ⟨_, rfl, h⟩
  · have h := h.2 q
    refine pw_iload_n (i := 1) dX10_greater_6 rfl rfl ?_
    refine pw_bipush (v := (-5)) dX10_greater_7 kb_m5 ?_
    refine pw_icmp_ne (tgt := 15) dX10_greater_9 rfl (fun q => ?_) (fun q => ?_)
    · have h := h.1 q
      refine pw_iload_n (i := 0) dX10_greater_15 rfl rfl ?_
      refine pw_iload_n (i := 1) dX10_greater_16 rfl rfl ?_
      refine pw_icmp_le (tgt := 24) dX10_greater_17 rfl (fun q => ?_) (fun q => ?_)
      · have h := h.1 q
        refine pw_iload_n (i := 1) dX10_greater_24 rfl rfl ?_
        exact pw_ret dX10_greater_25 rfl rfl ⟨_, rfl, h⟩
      · have h := h.2 q
        refine pw_iload_n (i := 0) dX10_greater_20 rfl rfl ?_
        refine pw_goto (tgt := 25) dX10_greater_21 rfl ?_
        exact pw_ret dX10_greater_25 rfl rfl ⟨_, rfl, h⟩
    · have h := h.2 q
      refine pw_bipush (v := (-5)) dX10_greater_12 kb_m5 ?_
      exact pw_ret dX10_greater_14 rfl rfl ⟨_, rfl, h⟩
/-! X1_greatestOf -/
def R_X1_greatestOf_L4 (K : Int32 → pw_Mem → Prop) (KX : Int32 → Int32 → Int32 → pw_Mem → Prop) : Nat → Int32 → Int32 → Int32 → pw_Mem → Prop
  | 0, _, _, _, _ => False
  | n + 1, l1, l2, l3, σ => (((σ 1 2) ≤ l3 → KX l1 l2 l3 σ) ∧ (¬ (σ 1 2) ≤ l3 → R_X10_holds l1 l3 σ (fun x2 τ1 => ((x2 = 0 → R_X1_greatestOf_L4 K KX n l1 l2 (l3 + 1) τ1) ∧ (¬ x2 = 0 → vp_in l3 20 ∧ R_X10_greater l2 (τ1 21 (Int32.toNatClampNeg l3)) τ1 (fun x4 τ3 => R_X1_greatestOf_L4 K KX n l1 x4 (l3 + 1) τ3))))))
def R_X1_greatestOf (a1 : Int32) (σ : pw_Mem) (K : Int32 → pw_Mem → Prop) : Prop := ∃ n9, R_X1_greatestOf_L4 K (fun y5 y6 y7 τ8 => K y6 τ8) n9 a1 0 0 σ
set_option maxHeartbeats 4000000 in
theorem t_X1_greatestOf_L4 {L : pw_Lay} {d : Nat} {K : Int32 → pw_Mem → Prop} {KX : Int32 → Int32 → Int32 → pw_Mem → Prop} : ∀ (n : Nat) (l1 : Int32) (l2 : Int32) (l3 : Int32) (σ : pw_Mem), R_X1_greatestOf_L4 K KX n l1 l2 l3 σ → (∀ (l1 : Int32) (l2 : Int32) (l3 : Int32) (τ : pw_Mem), KX l1 l2 l3 τ → PW L (d + 1) m_X1_greatestOf (ki K) 40 [some (.ref 20), some (.int l1), some (.int l2), some (.int l3)] [] τ) → PW L (d + 1) m_X1_greatestOf (ki K) 4 [some (.ref 20), some (.int l1), some (.int l2), some (.int l3)] [] σ := by
  intro n
  induction n with
  | zero => intro l1 l2 l3 _ h _; exact h.elim
  | succ n ih =>
    intro l1 l2 l3 σ h hX
    unfold R_X1_greatestOf_L4 at h
    refine pw_iload_n (i := 3) dX1_greatestOf_4 rfl rfl ?_
    refine pw_aload_n (i := 0) dX1_greatestOf_5 rfl rfl ?_
    refine pw_getR dX1_greatestOf_6 fl_X1_19 rfl rfl ?_
    refine pw_getI dX1_greatestOf_9 fl_X1_78 rfl rfl ?_
    refine pw_icmp_ge (tgt := 40) dX1_greatestOf_12 rfl (fun q => ?_) (fun q => ?_)
    · have h := h.1 q
      exact hX _ _ _ _ h
    · have h := h.2 q
      refine pw_iload_n (i := 1) dX1_greatestOf_15 rfl rfl ?_
      refine pw_iload_n (i := 3) dX1_greatestOf_16 rfl rfl ?_
      refine pw_cNi [.int l1, .int l3] dX1_greatestOf_17 mn_X1_44 rfl rfl (Nat.le_of_ble_eq_true rfl) (c_X10_holds h) (fun x2 τ1 h => ?_)
      refine pw_if_eq (tgt := 34) dX1_greatestOf_20 rfl (fun q => ?_) (fun q => ?_)
      · have h := h.1 q
        refine pw_iinc (i := 3) (v := l3 + 1) (ls' := [some (.ref 20), some (.int l1), some (.int l2), some (.int (l3 + 1))]) dX1_greatestOf_34 rfl (by rw [kc_1]) (Nat.le_of_ble_eq_true rfl) rfl ?_
        refine pw_goto (tgt := 4) dX1_greatestOf_37 rfl ?_
        exact ih _ _ _ _ h hX
      · have h := h.2 q
        refine pw_iload_n (i := 2) dX1_greatestOf_23 rfl rfl ?_
        refine pw_aload_n (i := 0) dX1_greatestOf_24 rfl rfl ?_
        refine pw_getR dX1_greatestOf_25 fl_X1_15 rfl rfl ?_
        refine pw_iload_n (i := 3) dX1_greatestOf_28 rfl rfl ?_
        obtain ⟨hb, h⟩ := h
        refine pw_iald dX1_greatestOf_29 rfl hb ?_
        refine pw_cNi [.int l2, .int (τ1 21 (Int32.toNatClampNeg l3))] dX1_greatestOf_30 mn_X1_89 rfl rfl (Nat.le_of_ble_eq_true rfl) (c_X10_greater h) (fun x4 τ3 h => ?_)
        refine pw_istore_n (i := 2) (ls' := [some (.ref 20), some (.int l1), some (.int x4), some (.int l3)]) dX1_greatestOf_33 rfl (Nat.le_of_ble_eq_true rfl) rfl ?_
        refine pw_iinc (i := 3) (v := l3 + 1) (ls' := [some (.ref 20), some (.int l1), some (.int x4), some (.int (l3 + 1))]) dX1_greatestOf_34 rfl (by rw [kc_1]) (Nat.le_of_ble_eq_true rfl) rfl ?_
        refine pw_goto (tgt := 4) dX1_greatestOf_37 rfl ?_
        exact ih _ _ _ _ h hX
set_option maxHeartbeats 4000000 in
theorem c_X1_greatestOf {L : pw_Lay} {d : Nat} {a1 : Int32} {σ : pw_Mem} {K : Int32 → pw_Mem → Prop} (h : R_X1_greatestOf a1 σ K) : CT L (d + 1) m_X1_greatestOf [.ref 20, .int a1] σ (ki K) := by
  refine pw_enter (by decide) rfl (Nat.le_of_ble_eq_true rfl) (ls := [some (.ref 20), some (.int a1), none, none]) rfl ?_
  unfold R_X1_greatestOf at h
  refine pw_iconst (v := 0) dX1_greatestOf_0 kc_0 ?_
  refine pw_istore_n (i := 2) (ls' := [some (.ref 20), some (.int a1), some (.int 0), none]) dX1_greatestOf_1 rfl (Nat.le_of_ble_eq_true rfl) rfl ?_
  refine pw_iconst (v := 0) dX1_greatestOf_2 kc_0 ?_
  refine pw_istore_n (i := 3) (ls' := [some (.ref 20), some (.int a1), some (.int 0), some (.int 0)]) dX1_greatestOf_3 rfl (Nat.le_of_ble_eq_true rfl) rfl ?_
  obtain ⟨n9, h⟩ := h
  refine t_X1_greatestOf_L4 _ _ _ _ _ h (fun y5 y6 y7 τ8 h => ?_)
  refine pw_iload_n (i := 2) dX1_greatestOf_40 rfl rfl ?_
  exact pw_ret dX1_greatestOf_41 rfl rfl ⟨_, rfl, h⟩
/-! X10_plus -/
def R_X10_plus (a1 : Int32) (a2 : Int32) (σ : pw_Mem) (K : Int32 → pw_Mem → Prop) : Prop := ((a1 = (-5) → K (-5) σ) ∧ (¬ a1 = (-5) → ((¬ a2 = (-5) → K (a1 + a2) σ) ∧ (a2 = (-5) → K (-5) σ))))
set_option maxHeartbeats 4000000 in
theorem c_X10_plus {L : pw_Lay} {d : Nat} {a1 : Int32} {a2 : Int32} {σ : pw_Mem} {K : Int32 → pw_Mem → Prop} (h : R_X10_plus a1 a2 σ K) : CT L (d + 0) m_X10_plus [.int a1, .int a2] σ (ki K) := by
  refine pw_enter (by decide) rfl (Nat.le_of_ble_eq_true rfl) (ls := [some (.int a1), some (.int a2)]) rfl ?_
  unfold R_X10_plus at h
  refine pw_iload_n (i := 0) dX10_plus_0 rfl rfl ?_
  refine pw_bipush (v := (-5)) dX10_plus_1 kb_m5 ?_
  refine pw_icmp_eq (tgt := 12) dX10_plus_3 rfl (fun q => ?_) (fun q => ?_)
  · have h := h.1 q
    refine pw_bipush (v := (-5)) dX10_plus_12 kb_m5 ?_
    refine pw_goto (tgt := 20) dX10_plus_14 rfl ?_
    exact pw_ret dX10_plus_20 rfl rfl ⟨_, rfl, h⟩
  · have h := h.2 q
    refine pw_iload_n (i := 1) dX10_plus_6 rfl rfl ?_
    refine pw_bipush (v := (-5)) dX10_plus_7 kb_m5 ?_
    refine pw_icmp_ne (tgt := 17) dX10_plus_9 rfl (fun q => ?_) (fun q => ?_)
    · have h := h.1 q
      refine pw_iload_n (i := 0) dX10_plus_17 rfl rfl ?_
      refine pw_iload_n (i := 1) dX10_plus_18 rfl rfl ?_
      refine pw_iadd dX10_plus_19 ?_
      exact pw_ret dX10_plus_20 rfl rfl ⟨_, rfl, h⟩
    · have h := h.2 q
      refine pw_bipush (v := (-5)) dX10_plus_12 kb_m5 ?_
      refine pw_goto (tgt := 20) dX10_plus_14 rfl ?_
      exact pw_ret dX10_plus_20 rfl rfl ⟨_, rfl, h⟩
/-! X1_depthOfItself -/
def R_X1_depthOfItself (a1 : Int32) (σ : pw_Mem) (K : Int32 → pw_Mem → Prop) : Prop := R_X1_frameOf a1 σ (fun x2 τ1 => vp_in a1 20 ∧ R_X1_greatestOf (τ1 15 (Int32.toNatClampNeg a1)) τ1 (fun x4 τ3 => R_X10_plus x2 x4 τ3 (fun x6 τ5 => vp_in a1 20 ∧ vp_in a1 20 ∧ R_X1_greatestOf ((τ5 16 (Int32.toNatClampNeg a1)) &&& ((τ5 18 (Int32.toNatClampNeg a1)) ^^^ (-1))) τ5 (fun x8 τ7 => R_X10_greater x6 x8 τ7 (fun x10 τ9 => K x10 τ9)))))
set_option maxHeartbeats 4000000 in
theorem c_X1_depthOfItself {L : pw_Lay} {d : Nat} {a1 : Int32} {σ : pw_Mem} {K : Int32 → pw_Mem → Prop} (h : R_X1_depthOfItself a1 σ K) : CT L (d + 2) m_X1_depthOfItself [.ref 20, .int a1] σ (ki K) := by
  refine pw_enter (by decide) rfl (Nat.le_of_ble_eq_true rfl) (ls := [some (.ref 20), some (.int a1), none]) rfl ?_
  unfold R_X1_depthOfItself at h
  refine pw_aload_n (i := 0) dX1_depthOfItself_0 rfl rfl ?_
  refine pw_iload_n (i := 1) dX1_depthOfItself_1 rfl rfl ?_
  refine pw_cVi [.int a1] dX1_depthOfItself_2 mv_X1_69 rfl rfl rfl (Nat.le_of_ble_eq_true rfl) (c_X1_frameOf h) (fun x2 τ1 h => ?_)
  refine pw_aload_n (i := 0) dX1_depthOfItself_5 rfl rfl ?_
  refine pw_aload_n (i := 0) dX1_depthOfItself_6 rfl rfl ?_
  refine pw_getR dX1_depthOfItself_7 fl_X1_23 rfl rfl ?_
  refine pw_getR dX1_depthOfItself_10 fl_X1_66 rfl rfl ?_
  refine pw_iload_n (i := 1) dX1_depthOfItself_13 rfl rfl ?_
  obtain ⟨hb, h⟩ := h
  refine pw_iald dX1_depthOfItself_14 rfl hb ?_
  refine pw_cVi [.int (τ1 15 (Int32.toNatClampNeg a1))] dX1_depthOfItself_15 mv_X1_86 rfl rfl rfl (Nat.le_of_ble_eq_true rfl) (c_X1_greatestOf h) (fun x4 τ3 h => ?_)
  refine pw_cNi [.int x2, .int x4] dX1_depthOfItself_18 mn_X1_92 rfl rfl (Nat.le_of_ble_eq_true rfl) (c_X10_plus h) (fun x6 τ5 h => ?_)
  refine pw_istore_n (i := 2) (ls' := [some (.ref 20), some (.int a1), some (.int x6)]) dX1_depthOfItself_21 rfl (Nat.le_of_ble_eq_true rfl) rfl ?_
  refine pw_iload_n (i := 2) dX1_depthOfItself_22 rfl rfl ?_
  refine pw_aload_n (i := 0) dX1_depthOfItself_23 rfl rfl ?_
  refine pw_aload_n (i := 0) dX1_depthOfItself_24 rfl rfl ?_
  refine pw_getR dX1_depthOfItself_25 fl_X1_23 rfl rfl ?_
  refine pw_getR dX1_depthOfItself_28 fl_X1_75 rfl rfl ?_
  refine pw_iload_n (i := 1) dX1_depthOfItself_31 rfl rfl ?_
  obtain ⟨hb, h⟩ := h
  refine pw_iald dX1_depthOfItself_32 rfl hb ?_
  refine pw_aload_n (i := 0) dX1_depthOfItself_33 rfl rfl ?_
  refine pw_getR dX1_depthOfItself_34 fl_X1_23 rfl rfl ?_
  refine pw_getR dX1_depthOfItself_37 fl_X1_38 rfl rfl ?_
  refine pw_iload_n (i := 1) dX1_depthOfItself_40 rfl rfl ?_
  obtain ⟨hb, h⟩ := h
  refine pw_iald dX1_depthOfItself_41 rfl hb ?_
  refine pw_iconst (v := (-1)) dX1_depthOfItself_42 kc_m1 ?_
  refine pw_ixor dX1_depthOfItself_43 ?_
  refine pw_iand dX1_depthOfItself_44 ?_
  refine pw_cVi [.int ((τ5 16 (Int32.toNatClampNeg a1)) &&& ((τ5 18 (Int32.toNatClampNeg a1)) ^^^ (-1)))] dX1_depthOfItself_45 mv_X1_86 rfl rfl rfl (Nat.le_of_ble_eq_true rfl) (c_X1_greatestOf h) (fun x8 τ7 h => ?_)
  refine pw_cNi [.int x6, .int x8] dX1_depthOfItself_48 mn_X1_89 rfl rfl (Nat.le_of_ble_eq_true rfl) (c_X10_greater h) (fun x10 τ9 h => ?_)
  exact pw_ret dX1_depthOfItself_51 rfl rfl ⟨_, rfl, h⟩
/-! X1_depthOfTails -/
def R_X1_depthOfTails_L4 (K : Int32 → pw_Mem → Prop) (KX : Int32 → Int32 → Int32 → pw_Mem → Prop) : Nat → Int32 → Int32 → Int32 → pw_Mem → Prop
  | 0, _, _, _, _ => False
  | n + 1, l1, l2, l3, σ => (((σ 1 2) ≤ l3 → KX l1 l2 l3 σ) ∧ (¬ (σ 1 2) ≤ l3 → R_X10_holds l1 l3 σ (fun x2 τ1 => ((x2 = 0 → R_X1_depthOfTails_L4 K KX n l1 l2 (l3 + 1) τ1) ∧ (¬ x2 = 0 → R_X1_depthOfItself l3 τ1 (fun x4 τ3 => R_X10_greater l2 x4 τ3 (fun x6 τ5 => R_X1_depthOfTails_L4 K KX n l1 x6 (l3 + 1) τ5)))))))
def R_X1_depthOfTails (a1 : Int32) (σ : pw_Mem) (K : Int32 → pw_Mem → Prop) : Prop := ∃ n11, R_X1_depthOfTails_L4 K (fun y7 y8 y9 τ10 => K y8 τ10) n11 a1 0 0 σ
set_option maxHeartbeats 4000000 in
theorem t_X1_depthOfTails_L4 {L : pw_Lay} {d : Nat} {K : Int32 → pw_Mem → Prop} {KX : Int32 → Int32 → Int32 → pw_Mem → Prop} : ∀ (n : Nat) (l1 : Int32) (l2 : Int32) (l3 : Int32) (σ : pw_Mem), R_X1_depthOfTails_L4 K KX n l1 l2 l3 σ → (∀ (l1 : Int32) (l2 : Int32) (l3 : Int32) (τ : pw_Mem), KX l1 l2 l3 τ → PW L (d + 3) m_X1_depthOfTails (ki K) 39 [some (.ref 20), some (.int l1), some (.int l2), some (.int l3)] [] τ) → PW L (d + 3) m_X1_depthOfTails (ki K) 4 [some (.ref 20), some (.int l1), some (.int l2), some (.int l3)] [] σ := by
  intro n
  induction n with
  | zero => intro l1 l2 l3 _ h _; exact h.elim
  | succ n ih =>
    intro l1 l2 l3 σ h hX
    unfold R_X1_depthOfTails_L4 at h
    refine pw_iload_n (i := 3) dX1_depthOfTails_4 rfl rfl ?_
    refine pw_aload_n (i := 0) dX1_depthOfTails_5 rfl rfl ?_
    refine pw_getR dX1_depthOfTails_6 fl_X1_19 rfl rfl ?_
    refine pw_getI dX1_depthOfTails_9 fl_X1_78 rfl rfl ?_
    refine pw_icmp_ge (tgt := 39) dX1_depthOfTails_12 rfl (fun q => ?_) (fun q => ?_)
    · have h := h.1 q
      exact hX _ _ _ _ h
    · have h := h.2 q
      refine pw_iload_n (i := 1) dX1_depthOfTails_15 rfl rfl ?_
      refine pw_iload_n (i := 3) dX1_depthOfTails_16 rfl rfl ?_
      refine pw_cNi [.int l1, .int l3] dX1_depthOfTails_17 mn_X1_44 rfl rfl (Nat.le_of_ble_eq_true rfl) (c_X10_holds h) (fun x2 τ1 h => ?_)
      refine pw_if_eq (tgt := 33) dX1_depthOfTails_20 rfl (fun q => ?_) (fun q => ?_)
      · have h := h.1 q
        refine pw_iinc (i := 3) (v := l3 + 1) (ls' := [some (.ref 20), some (.int l1), some (.int l2), some (.int (l3 + 1))]) dX1_depthOfTails_33 rfl (by rw [kc_1]) (Nat.le_of_ble_eq_true rfl) rfl ?_
        refine pw_goto (tgt := 4) dX1_depthOfTails_36 rfl ?_
        exact ih _ _ _ _ h hX
      · have h := h.2 q
        refine pw_iload_n (i := 2) dX1_depthOfTails_23 rfl rfl ?_
        refine pw_aload_n (i := 0) dX1_depthOfTails_24 rfl rfl ?_
        refine pw_iload_n (i := 3) dX1_depthOfTails_25 rfl rfl ?_
        refine pw_cVi [.int l3] dX1_depthOfTails_26 mv_X1_59 rfl rfl rfl (Nat.le_of_ble_eq_true rfl) (c_X1_depthOfItself h) (fun x4 τ3 h => ?_)
        refine pw_cNi [.int l2, .int x4] dX1_depthOfTails_29 mn_X1_89 rfl rfl (Nat.le_of_ble_eq_true rfl) (c_X10_greater h) (fun x6 τ5 h => ?_)
        refine pw_istore_n (i := 2) (ls' := [some (.ref 20), some (.int l1), some (.int x6), some (.int l3)]) dX1_depthOfTails_32 rfl (Nat.le_of_ble_eq_true rfl) rfl ?_
        refine pw_iinc (i := 3) (v := l3 + 1) (ls' := [some (.ref 20), some (.int l1), some (.int x6), some (.int (l3 + 1))]) dX1_depthOfTails_33 rfl (by rw [kc_1]) (Nat.le_of_ble_eq_true rfl) rfl ?_
        refine pw_goto (tgt := 4) dX1_depthOfTails_36 rfl ?_
        exact ih _ _ _ _ h hX
set_option maxHeartbeats 4000000 in
theorem c_X1_depthOfTails {L : pw_Lay} {d : Nat} {a1 : Int32} {σ : pw_Mem} {K : Int32 → pw_Mem → Prop} (h : R_X1_depthOfTails a1 σ K) : CT L (d + 3) m_X1_depthOfTails [.ref 20, .int a1] σ (ki K) := by
  refine pw_enter (by decide) rfl (Nat.le_of_ble_eq_true rfl) (ls := [some (.ref 20), some (.int a1), none, none]) rfl ?_
  unfold R_X1_depthOfTails at h
  refine pw_iconst (v := 0) dX1_depthOfTails_0 kc_0 ?_
  refine pw_istore_n (i := 2) (ls' := [some (.ref 20), some (.int a1), some (.int 0), none]) dX1_depthOfTails_1 rfl (Nat.le_of_ble_eq_true rfl) rfl ?_
  refine pw_iconst (v := 0) dX1_depthOfTails_2 kc_0 ?_
  refine pw_istore_n (i := 3) (ls' := [some (.ref 20), some (.int a1), some (.int 0), some (.int 0)]) dX1_depthOfTails_3 rfl (Nat.le_of_ble_eq_true rfl) rfl ?_
  obtain ⟨n11, h⟩ := h
  refine t_X1_depthOfTails_L4 _ _ _ _ _ h (fun y7 y8 y9 τ10 h => ?_)
  refine pw_iload_n (i := 2) dX1_depthOfTails_39 rfl rfl ?_
  exact pw_ret dX1_depthOfTails_40 rfl rfl ⟨_, rfl, h⟩
/-! X1_spread -/
def R_X1_spread_L2 (K : pw_Mem → Prop) (KX : Int32 → Int32 → Int32 → pw_Mem → Prop) : Nat → Int32 → Int32 → Int32 → pw_Mem → Prop
  | 0, _, _, _, _ => False
  | n + 1, l1, l2, l3, σ => (((σ 1 2) ≤ l3 → KX l1 l2 l3 σ) ∧ (¬ (σ 1 2) ≤ l3 → R_X10_holds l1 l3 σ (fun x2 τ1 => ((x2 = 0 → R_X1_spread_L2 K KX n l1 l2 (l3 + 1) τ1) ∧ (¬ x2 = 0 → vp_in l3 20 ∧ ∀ τ3, τ3 = pw_up τ1 21 (Int32.toNatClampNeg l3) l2 → R_X1_spread_L2 K KX n l1 l2 (l3 + 1) τ3)))))
def R_X1_spread (a1 : Int32) (a2 : Int32) (σ : pw_Mem) (K : pw_Mem → Prop) : Prop := ∃ n8, R_X1_spread_L2 K (fun y4 y5 y6 τ7 => K τ7) n8 a1 a2 0 σ
set_option maxHeartbeats 4000000 in
theorem t_X1_spread_L2 {L : pw_Lay} {d : Nat} {K : pw_Mem → Prop} {KX : Int32 → Int32 → Int32 → pw_Mem → Prop} : ∀ (n : Nat) (l1 : Int32) (l2 : Int32) (l3 : Int32) (σ : pw_Mem), R_X1_spread_L2 K KX n l1 l2 l3 σ → (∀ (l1 : Int32) (l2 : Int32) (l3 : Int32) (τ : pw_Mem), KX l1 l2 l3 τ → PW L (d + 1) m_X1_spread (kv K) 34 [some (.ref 20), some (.int l1), some (.int l2), some (.int l3)] [] τ) → PW L (d + 1) m_X1_spread (kv K) 2 [some (.ref 20), some (.int l1), some (.int l2), some (.int l3)] [] σ := by
  intro n
  induction n with
  | zero => intro l1 l2 l3 _ h _; exact h.elim
  | succ n ih =>
    intro l1 l2 l3 σ h hX
    unfold R_X1_spread_L2 at h
    refine pw_iload_n (i := 3) dX1_spread_2 rfl rfl ?_
    refine pw_aload_n (i := 0) dX1_spread_3 rfl rfl ?_
    refine pw_getR dX1_spread_4 fl_X1_19 rfl rfl ?_
    refine pw_getI dX1_spread_7 fl_X1_78 rfl rfl ?_
    refine pw_icmp_ge (tgt := 34) dX1_spread_10 rfl (fun q => ?_) (fun q => ?_)
    · have h := h.1 q
      exact hX _ _ _ _ h
    · have h := h.2 q
      refine pw_iload_n (i := 1) dX1_spread_13 rfl rfl ?_
      refine pw_iload_n (i := 3) dX1_spread_14 rfl rfl ?_
      refine pw_cNi [.int l1, .int l3] dX1_spread_15 mn_X1_44 rfl rfl (Nat.le_of_ble_eq_true rfl) (c_X10_holds h) (fun x2 τ1 h => ?_)
      refine pw_if_eq (tgt := 28) dX1_spread_18 rfl (fun q => ?_) (fun q => ?_)
      · have h := h.1 q
        refine pw_iinc (i := 3) (v := l3 + 1) (ls' := [some (.ref 20), some (.int l1), some (.int l2), some (.int (l3 + 1))]) dX1_spread_28 rfl (by rw [kc_1]) (Nat.le_of_ble_eq_true rfl) rfl ?_
        refine pw_goto (tgt := 2) dX1_spread_31 rfl ?_
        exact ih _ _ _ _ h hX
      · have h := h.2 q
        refine pw_aload_n (i := 0) dX1_spread_21 rfl rfl ?_
        refine pw_getR dX1_spread_22 fl_X1_15 rfl rfl ?_
        refine pw_iload_n (i := 3) dX1_spread_25 rfl rfl ?_
        refine pw_iload_n (i := 2) dX1_spread_26 rfl rfl ?_
        obtain ⟨hb, h⟩ := h
        refine pw_iast dX1_spread_27 rfl hb ?_
        generalize hτ3 : pw_up τ1 21 (Int32.toNatClampNeg l3) l2 = τ3
        have h := h τ3 hτ3.symm
        refine pw_iinc (i := 3) (v := l3 + 1) (ls' := [some (.ref 20), some (.int l1), some (.int l2), some (.int (l3 + 1))]) dX1_spread_28 rfl (by rw [kc_1]) (Nat.le_of_ble_eq_true rfl) rfl ?_
        refine pw_goto (tgt := 2) dX1_spread_31 rfl ?_
        exact ih _ _ _ _ h hX
set_option maxHeartbeats 4000000 in
theorem c_X1_spread {L : pw_Lay} {d : Nat} {a1 : Int32} {a2 : Int32} {σ : pw_Mem} {K : pw_Mem → Prop} (h : R_X1_spread a1 a2 σ K) : CT L (d + 1) m_X1_spread [.ref 20, .int a1, .int a2] σ (kv K) := by
  refine pw_enter (by decide) rfl (Nat.le_of_ble_eq_true rfl) (ls := [some (.ref 20), some (.int a1), some (.int a2), none]) rfl ?_
  unfold R_X1_spread at h
  refine pw_iconst (v := 0) dX1_spread_0 kc_0 ?_
  refine pw_istore_n (i := 3) (ls' := [some (.ref 20), some (.int a1), some (.int a2), some (.int 0)]) dX1_spread_1 rfl (Nat.le_of_ble_eq_true rfl) rfl ?_
  obtain ⟨n8, h⟩ := h
  refine t_X1_spread_L2 _ _ _ _ _ h (fun y4 y5 y6 τ7 h => ?_)
  exact pw_vret dX1_spread_34 rfl ⟨rfl, h⟩
