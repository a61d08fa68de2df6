/-! X11_in -/
def R_X11_in (a1 : Int64) (a2 : Int64) (a3 : Int64) (σ : pw_Mem) (K : Int32 → pw_Mem → Prop) : Prop := (((lg_cmp a1 a2) < 0 → K 0 σ) ∧ (¬ (lg_cmp a1 a2) < 0 → ((0 < (lg_cmp a1 a3) → K 0 σ) ∧ (¬ 0 < (lg_cmp a1 a3) → K 1 σ))))
set_option maxHeartbeats 4000000 in
theorem c_X11_in {L : pw_Lay} {d : Nat} {a1 : Int64} {a2 : Int64} {a3 : Int64} {σ : pw_Mem} {K : Int32 → pw_Mem → Prop} (h : R_X11_in a1 a2 a3 σ K) : CT L (d + 0) m_X11_in [.long a1, .long a2, .long a3] σ (ki K) := by
  refine pw_enter (by decide) rfl (Nat.le_of_ble_eq_true rfl) (ls := [some (.long a1), none, some (.long a2), none, some (.long a3), none]) rfl ?_
  unfold R_X11_in at h
  refine pw_lload_n (i := 0) dX11_in_0 rfl rfl ?_
  refine pw_lload_n (i := 2) dX11_in_1 rfl rfl ?_
  refine pw_lcmp dX11_in_2 ?_
  refine pw_if_lt (tgt := 17) dX11_in_3 rfl (fun q => ?_) (fun q => ?_)
  · have h := h.1 q
    refine pw_iconst (v := 0) dX11_in_17 kc_0 ?_
    exact pw_ret dX11_in_18 rfl rfl ⟨_, rfl, h⟩
  · have h := h.2 q
    refine pw_lload_n (i := 0) dX11_in_6 rfl rfl ?_
    refine pw_lload dX11_in_7 rfl ?_
    refine pw_lcmp dX11_in_9 ?_
    refine pw_if_gt (tgt := 17) dX11_in_10 rfl (fun q => ?_) (fun q => ?_)
    · have h := h.1 q
      refine pw_iconst (v := 0) dX11_in_17 kc_0 ?_
      exact pw_ret dX11_in_18 rfl rfl ⟨_, rfl, h⟩
    · have h := h.2 q
      refine pw_iconst (v := 1) dX11_in_13 kc_1 ?_
      refine pw_goto (tgt := 18) dX11_in_14 rfl ?_
      exact pw_ret dX11_in_18 rfl rfl ⟨_, rfl, h⟩
/-! X11_routine -/
def R_X11_routine (a1 : Int32) (σ : pw_Mem) (K : Int32 → pw_Mem → Prop) : Prop := R_X11_in (Int32.toInt64 a1) 0 500 σ (fun x2 τ1 => ((¬ x2 = 0 → ((¬ (τ1 49 0) = 20 → vp_in (τ1 49 0) 20 ∧ ∀ τ3, τ3 = pw_up τ1 50 (Int32.toNatClampNeg (τ1 49 0)) a1 → vp_in (τ3 49 0) 20 ∧ ∀ τ4, τ4 = pw_up τ3 51 (Int32.toNatClampNeg (τ3 49 0)) 0 → ∀ τ5, τ5 = pw_up τ4 49 0 ((τ4 49 0) + 1) → K ((τ5 49 0) - 1) τ5) ∧ ((τ1 49 0) = 20 → K (-3) τ1))) ∧ (x2 = 0 → K (-1) τ1)))
set_option maxHeartbeats 4000000 in
theorem c_X11_routine {L : pw_Lay} {d : Nat} {a1 : Int32} {σ : pw_Mem} {K : Int32 → pw_Mem → Prop} (h : R_X11_routine a1 σ K) : CT L (d + 1) m_X11_routine [.ref 49, .int a1] σ (ki K) := by
  refine pw_enter (by decide) rfl (Nat.le_of_ble_eq_true rfl) (ls := [some (.ref 49), some (.int a1)]) rfl ?_
  unfold R_X11_routine at h
  refine pw_iload_n (i := 1) dX11_routine_0 rfl rfl ?_
  refine pw_i2l dX11_routine_1 ?_
  refine pw_lconst (v := 0) dX11_routine_2 kl_0 ?_
  refine pw_ldc2 dX11_routine_3 k_X11_101 ?_
  refine pw_cSi [.long (Int32.toInt64 a1), .long 0, .long 500] dX11_routine_6 ms_X11_95 rfl rfl (Nat.le_of_ble_eq_true rfl) (c_X11_in h) (fun x2 τ1 h => ?_)
  refine pw_if_ne (tgt := 14) dX11_routine_9 rfl (fun q => ?_) (fun q => ?_)
  · have h := h.1 q
    refine pw_aload_n (i := 0) dX11_routine_14 rfl rfl ?_
    refine pw_getI dX11_routine_15 fl_X11_91 rfl rfl ?_
    refine pw_bipush (v := 20) dX11_routine_18 kb_20 ?_
    refine pw_icmp_ne (tgt := 26) dX11_routine_20 rfl (fun q => ?_) (fun q => ?_)
    · have h := h.1 q
      refine pw_aload_n (i := 0) dX11_routine_26 rfl rfl ?_
      refine pw_getR dX11_routine_27 fl_X11_7 rfl rfl ?_
      refine pw_aload_n (i := 0) dX11_routine_30 rfl rfl ?_
      refine pw_getI dX11_routine_31 fl_X11_91 rfl rfl ?_
      refine pw_iload_n (i := 1) dX11_routine_34 rfl rfl ?_
      obtain ⟨hb, h⟩ := h
      refine pw_iast dX11_routine_35 rfl hb ?_
      generalize hτ3 : pw_up τ1 50 (Int32.toNatClampNeg (τ1 49 0)) a1 = τ3
      have h := h τ3 hτ3.symm
      refine pw_aload_n (i := 0) dX11_routine_36 rfl rfl ?_
      refine pw_getR dX11_routine_37 fl_X11_13 rfl rfl ?_
      refine pw_aload_n (i := 0) dX11_routine_40 rfl rfl ?_
      refine pw_getI dX11_routine_41 fl_X11_91 rfl rfl ?_
      refine pw_iconst (v := 0) dX11_routine_44 kc_0 ?_
      obtain ⟨hb, h⟩ := h
      refine pw_iast dX11_routine_45 rfl hb ?_
      generalize hτ4 : pw_up τ3 51 (Int32.toNatClampNeg (τ3 49 0)) 0 = τ4
      have h := h τ4 hτ4.symm
      refine pw_aload_n (i := 0) dX11_routine_46 rfl rfl ?_
      refine pw_dup dX11_routine_47 rfl ?_
      refine pw_getI dX11_routine_48 fl_X11_91 rfl rfl ?_
      refine pw_iconst (v := 1) dX11_routine_51 kc_1 ?_
      refine pw_iadd dX11_routine_52 ?_
      refine pw_put dX11_routine_53 fp_X11_91 rfl rfl rfl rfl ?_
      generalize hτ5 : pw_up τ4 49 0 ((τ4 49 0) + 1) = τ5
      have h := h τ5 hτ5.symm
      refine pw_aload_n (i := 0) dX11_routine_56 rfl rfl ?_
      refine pw_getI dX11_routine_57 fl_X11_91 rfl rfl ?_
      refine pw_iconst (v := 1) dX11_routine_60 kc_1 ?_
      refine pw_isub dX11_routine_61 ?_
      exact pw_ret dX11_routine_62 rfl rfl ⟨_, rfl, h⟩
    · have h := h.2 q
      refine pw_bipush (v := (-3)) dX11_routine_23 kb_m3 ?_
      exact pw_ret dX11_routine_25 rfl rfl ⟨_, rfl, h⟩
  · have h := h.2 q
    refine pw_iconst (v := (-1)) dX11_routine_12 kc_m1 ?_
    exact pw_ret dX11_routine_13 rfl rfl ⟨_, rfl, h⟩
/-! X11_is -/
def R_X11_is (a1 : Int32) (σ : pw_Mem) (K : Int32 → pw_Mem → Prop) : Prop := R_X11_in (Int32.toInt64 a1) 0 (Int32.toInt64 ((σ 49 0) - 1)) σ (fun x2 τ1 => narrow .boolean (.int x2) = .int x2 ∧ K x2 τ1)
set_option maxHeartbeats 4000000 in
theorem c_X11_is {L : pw_Lay} {d : Nat} {a1 : Int32} {σ : pw_Mem} {K : Int32 → pw_Mem → Prop} (h : R_X11_is a1 σ K) : CT L (d + 1) m_X11_is [.ref 49, .int a1] σ (ki K) := by
  refine pw_enter (by decide) rfl (Nat.le_of_ble_eq_true rfl) (ls := [some (.ref 49), some (.int a1)]) rfl ?_
  unfold R_X11_is at h
  refine pw_iload_n (i := 1) dX11_is_0 rfl rfl ?_
  refine pw_i2l dX11_is_1 ?_
  refine pw_lconst (v := 0) dX11_is_2 kl_0 ?_
  refine pw_aload_n (i := 0) dX11_is_3 rfl rfl ?_
  refine pw_getI dX11_is_4 fl_X11_91 rfl rfl ?_
  refine pw_iconst (v := 1) dX11_is_7 kc_1 ?_
  refine pw_isub dX11_is_8 ?_
  refine pw_i2l dX11_is_9 ?_
  refine pw_cSi [.long (Int32.toInt64 a1), .long 0, .long (Int32.toInt64 ((σ 49 0) - 1))] dX11_is_10 ms_X11_95 rfl rfl (Nat.le_of_ble_eq_true rfl) (c_X11_in h) (fun x2 τ1 h => ?_)
  obtain ⟨hn, h⟩ := h
  exact pw_ret dX11_is_13 rfl hn ⟨_, rfl, h⟩
/-! X11_frame -/
def R_X11_frame (a1 : Int32) (a2 : Int32) (σ : pw_Mem) (K : Int32 → pw_Mem → Prop) : Prop := R_X11_is a1 σ (fun x2 τ1 => ((x2 = 0 → K (-1) τ1) ∧ (¬ x2 = 0 → R_X11_in (Int32.toInt64 a2) 0 500 τ1 (fun x4 τ3 => ((¬ x4 = 0 → vp_in a1 20 ∧ vp_in a1 20 ∧ ∀ τ5, τ5 = pw_up τ3 50 (Int32.toNatClampNeg a1) a2 → K (τ3 50 (Int32.toNatClampNeg a1)) τ5) ∧ (x4 = 0 → K (-1) τ3))))))
set_option maxHeartbeats 4000000 in
theorem c_X11_frame {L : pw_Lay} {d : Nat} {a1 : Int32} {a2 : Int32} {σ : pw_Mem} {K : Int32 → pw_Mem → Prop} (h : R_X11_frame a1 a2 σ K) : CT L (d + 2) m_X11_frame [.ref 49, .int a1, .int a2] σ (ki K) := by
  refine pw_enter (by decide) rfl (Nat.le_of_ble_eq_true rfl) (ls := [some (.ref 49), some (.int a1), some (.int a2), none]) rfl ?_
  unfold R_X11_frame at h
  refine pw_aload_n (i := 0) dX11_frame_0 rfl rfl ?_
  refine pw_iload_n (i := 1) dX11_frame_1 rfl rfl ?_
  refine pw_cVi [.int a1] dX11_frame_2 mv_X11_103 rfl rfl rfl (Nat.le_of_ble_eq_true rfl) (c_X11_is h) (fun x2 τ1 h => ?_)
  refine pw_if_eq (tgt := 20) dX11_frame_5 rfl (fun q => ?_) (fun q => ?_)
  · have h := h.1 q
    refine pw_iconst (v := (-1)) dX11_frame_20 kc_m1 ?_
    exact pw_ret dX11_frame_21 rfl rfl ⟨_, rfl, h⟩
  · have h := h.2 q
    refine pw_iload_n (i := 2) dX11_frame_8 rfl rfl ?_
    refine pw_i2l dX11_frame_9 ?_
    refine pw_lconst (v := 0) dX11_frame_10 kl_0 ?_
    refine pw_ldc2 dX11_frame_11 k_X11_101 ?_
    refine pw_cSi [.long (Int32.toInt64 a2), .long 0, .long 500] dX11_frame_14 ms_X11_95 rfl rfl (Nat.le_of_ble_eq_true rfl) (c_X11_in h) (fun x4 τ3 h => ?_)
    refine pw_if_ne (tgt := 22) dX11_frame_17 rfl (fun q => ?_) (fun q => ?_)
    · have h := h.1 q
      refine pw_aload_n (i := 0) dX11_frame_22 rfl rfl ?_
      refine pw_getR dX11_frame_23 fl_X11_7 rfl rfl ?_
      refine pw_iload_n (i := 1) dX11_frame_26 rfl rfl ?_
      obtain ⟨hb, h⟩ := h
      refine pw_iald dX11_frame_27 rfl hb ?_
      refine pw_istore_n (i := 3) (ls' := [some (.ref 49), some (.int a1), some (.int a2), some (.int (τ3 50 (Int32.toNatClampNeg a1)))]) dX11_frame_28 rfl (Nat.le_of_ble_eq_true rfl) rfl ?_
      refine pw_aload_n (i := 0) dX11_frame_29 rfl rfl ?_
      refine pw_getR dX11_frame_30 fl_X11_7 rfl rfl ?_
      refine pw_iload_n (i := 1) dX11_frame_33 rfl rfl ?_
      refine pw_iload_n (i := 2) dX11_frame_34 rfl rfl ?_
      obtain ⟨hb, h⟩ := h
      refine pw_iast dX11_frame_35 rfl hb ?_
      generalize hτ5 : pw_up τ3 50 (Int32.toNatClampNeg a1) a2 = τ5
      have h := h τ5 hτ5.symm
      refine pw_iload_n (i := 3) dX11_frame_36 rfl rfl ?_
      exact pw_ret dX11_frame_37 rfl rfl ⟨_, rfl, h⟩
    · have h := h.2 q
      refine pw_iconst (v := (-1)) dX11_frame_20 kc_m1 ?_
      exact pw_ret dX11_frame_21 rfl rfl ⟨_, rfl, h⟩
/-! X11_turns -/
def R_X11_turns (a1 : Int32) (a2 : Int32) (σ : pw_Mem) (K : Int32 → pw_Mem → Prop) : Prop := R_X11_is a1 σ (fun x2 τ1 => ((x2 = 0 → K (-1) τ1) ∧ (¬ x2 = 0 → R_X11_in (Int32.toInt64 a2) 0 20 τ1 (fun x4 τ3 => ((¬ x4 = 0 → vp_in a1 20 ∧ vp_in a1 20 ∧ ∀ τ5, τ5 = pw_up τ3 51 (Int32.toNatClampNeg a1) a2 → K (τ3 51 (Int32.toNatClampNeg a1)) τ5) ∧ (x4 = 0 → K (-1) τ3))))))
set_option maxHeartbeats 4000000 in
theorem c_X11_turns {L : pw_Lay} {d : Nat} {a1 : Int32} {a2 : Int32} {σ : pw_Mem} {K : Int32 → pw_Mem → Prop} (h : R_X11_turns a1 a2 σ K) : CT L (d + 2) m_X11_turns [.ref 49, .int a1, .int a2] σ (ki K) := by
  refine pw_enter (by decide) rfl (Nat.le_of_ble_eq_true rfl) (ls := [some (.ref 49), some (.int a1), some (.int a2), none]) rfl ?_
  unfold R_X11_turns at h
  refine pw_aload_n (i := 0) dX11_turns_0 rfl rfl ?_
  refine pw_iload_n (i := 1) dX11_turns_1 rfl rfl ?_
  refine pw_cVi [.int a1] dX11_turns_2 mv_X11_103 rfl rfl rfl (Nat.le_of_ble_eq_true rfl) (c_X11_is h) (fun x2 τ1 h => ?_)
  refine pw_if_eq (tgt := 20) dX11_turns_5 rfl (fun q => ?_) (fun q => ?_)
  · have h := h.1 q
    refine pw_iconst (v := (-1)) dX11_turns_20 kc_m1 ?_
    exact pw_ret dX11_turns_21 rfl rfl ⟨_, rfl, h⟩
  · have h := h.2 q
    refine pw_iload_n (i := 2) dX11_turns_8 rfl rfl ?_
    refine pw_i2l dX11_turns_9 ?_
    refine pw_lconst (v := 0) dX11_turns_10 kl_0 ?_
    refine pw_ldc2 dX11_turns_11 k_X11_107 ?_
    refine pw_cSi [.long (Int32.toInt64 a2), .long 0, .long 20] dX11_turns_14 ms_X11_95 rfl rfl (Nat.le_of_ble_eq_true rfl) (c_X11_in h) (fun x4 τ3 h => ?_)
    refine pw_if_ne (tgt := 22) dX11_turns_17 rfl (fun q => ?_) (fun q => ?_)
    · have h := h.1 q
      refine pw_aload_n (i := 0) dX11_turns_22 rfl rfl ?_
      refine pw_getR dX11_turns_23 fl_X11_13 rfl rfl ?_
      refine pw_iload_n (i := 1) dX11_turns_26 rfl rfl ?_
      obtain ⟨hb, h⟩ := h
      refine pw_iald dX11_turns_27 rfl hb ?_
      refine pw_istore_n (i := 3) (ls' := [some (.ref 49), some (.int a1), some (.int a2), some (.int (τ3 51 (Int32.toNatClampNeg a1)))]) dX11_turns_28 rfl (Nat.le_of_ble_eq_true rfl) rfl ?_
      refine pw_aload_n (i := 0) dX11_turns_29 rfl rfl ?_
      refine pw_getR dX11_turns_30 fl_X11_13 rfl rfl ?_
      refine pw_iload_n (i := 1) dX11_turns_33 rfl rfl ?_
      refine pw_iload_n (i := 2) dX11_turns_34 rfl rfl ?_
      obtain ⟨hb, h⟩ := h
      refine pw_iast dX11_turns_35 rfl hb ?_
      generalize hτ5 : pw_up τ3 51 (Int32.toNatClampNeg a1) a2 = τ5
      have h := h τ5 hτ5.symm
      refine pw_iload_n (i := 3) dX11_turns_36 rfl rfl ?_
      exact pw_ret dX11_turns_37 rfl rfl ⟨_, rfl, h⟩
    · have h := h.2 q
      refine pw_iconst (v := (-1)) dX11_turns_20 kc_m1 ?_
      exact pw_ret dX11_turns_21 rfl rfl ⟨_, rfl, h⟩
/-! X11_sortOf -/
def R_X11_sortOf (a1 : Int32) (a2 : Int32) (σ : pw_Mem) (K : Int32 → pw_Mem → Prop) : Prop := ((a1 = 0 → ((a2 = 0 → K (0 + 0) σ) ∧ (¬ a2 = 0 → K (0 + 1) σ))) ∧ (¬ a1 = 0 → ((a2 = 0 → K (2 + 0) σ) ∧ (¬ a2 = 0 → K (2 + 1) σ))))
set_option maxHeartbeats 4000000 in
theorem c_X11_sortOf {L : pw_Lay} {d : Nat} {a1 : Int32} {a2 : Int32} {σ : pw_Mem} {K : Int32 → pw_Mem → Prop} (h : R_X11_sortOf a1 a2 σ K) : CT L (d + 0) m_X11_sortOf [.int a1, .int a2] σ (ki K) := by
  refine pw_enter (by decide) rfl (Nat.le_of_ble_eq_true rfl) (ls := [some (.int a1), some (.int a2)]) rfl ?_
  unfold R_X11_sortOf at h
  refine pw_iload_n (i := 0) dX11_sortOf_0 rfl rfl ?_
  refine pw_if_eq (tgt := 8) dX11_sortOf_1 rfl (fun q => ?_) (fun q => ?_)
  · have h := h.1 q
    refine pw_iconst (v := 0) dX11_sortOf_8 kc_0 ?_
    refine pw_iload_n (i := 1) dX11_sortOf_9 rfl rfl ?_
    refine pw_if_eq (tgt := 17) dX11_sortOf_10 rfl (fun q => ?_) (fun q => ?_)
    · have h := h.1 q
      refine pw_iconst (v := 0) dX11_sortOf_17 kc_0 ?_
      refine pw_iadd dX11_sortOf_18 ?_
      exact pw_ret dX11_sortOf_19 rfl rfl ⟨_, rfl, h⟩
    · have h := h.2 q
      refine pw_iconst (v := 1) dX11_sortOf_13 kc_1 ?_
      refine pw_goto (tgt := 18) dX11_sortOf_14 rfl ?_
      refine pw_iadd dX11_sortOf_18 ?_
      exact pw_ret dX11_sortOf_19 rfl rfl ⟨_, rfl, h⟩
  · have h := h.2 q
    refine pw_iconst (v := 2) dX11_sortOf_4 kc_2 ?_
    refine pw_goto (tgt := 9) dX11_sortOf_5 rfl ?_
    refine pw_iload_n (i := 1) dX11_sortOf_9 rfl rfl ?_
    refine pw_if_eq (tgt := 17) dX11_sortOf_10 rfl (fun q => ?_) (fun q => ?_)
    · have h := h.1 q
      refine pw_iconst (v := 0) dX11_sortOf_17 kc_0 ?_
      refine pw_iadd dX11_sortOf_18 ?_
      exact pw_ret dX11_sortOf_19 rfl rfl ⟨_, rfl, h⟩
    · have h := h.2 q
      refine pw_iconst (v := 1) dX11_sortOf_13 kc_1 ?_
      refine pw_goto (tgt := 18) dX11_sortOf_14 rfl ?_
      refine pw_iadd dX11_sortOf_18 ?_
      exact pw_ret dX11_sortOf_19 rfl rfl ⟨_, rfl, h⟩
/-! X11_find -/
def R_X11_find_L3 (K : Int32 → pw_Mem → Prop) (KX : Int32 → Int32 → Int32 → Int32 → pw_Mem → Prop) : Nat → Int32 → Int32 → Int32 → Int32 → pw_Mem → Prop
  | 0, _, _, _, _, _ => False
  | n + 1, l1, l2, l3, l4, σ => (((σ 49 3) ≤ l4 → KX l1 l2 l3 l4 σ) ∧ (¬ (σ 49 3) ≤ l4 → vp_in l4 60 ∧ ((¬ (σ 52 (Int32.toNatClampNeg l4)) = l1 → R_X11_find_L3 K KX n l1 l2 l3 (l4 + 1) σ) ∧ ((σ 52 (Int32.toNatClampNeg l4)) = l1 → vp_in l4 60 ∧ ((¬ (σ 53 (Int32.toNatClampNeg l4)) = l2 → R_X11_find_L3 K KX n l1 l2 l3 (l4 + 1) σ) ∧ ((σ 53 (Int32.toNatClampNeg l4)) = l2 → vp_in l4 60 ∧ ((¬ (σ 54 (Int32.toNatClampNeg l4)) = l3 → R_X11_find_L3 K KX n l1 l2 l3 (l4 + 1) σ) ∧ ((σ 54 (Int32.toNatClampNeg l4)) = l3 → K l4 σ))))))))
def R_X11_find (a1 : Int32) (a2 : Int32) (a3 : Int32) (σ : pw_Mem) (K : Int32 → pw_Mem → Prop) : Prop := ∃ n6, R_X11_find_L3 K (fun y1 y2 y3 y4 τ5 => K (-4) τ5) n6 a1 a2 a3 0 σ
set_option maxHeartbeats 4000000 in
theorem t_X11_find_L3 {L : pw_Lay} {d : Nat} {K : Int32 → pw_Mem → Prop} {KX : Int32 → Int32 → Int32 → Int32 → pw_Mem → Prop} : ∀ (n : Nat) (l1 : Int32) (l2 : Int32) (l3 : Int32) (l4 : Int32) (σ : pw_Mem), R_X11_find_L3 K KX n l1 l2 l3 l4 σ → (∀ (l1 : Int32) (l2 : Int32) (l3 : Int32) (l4 : Int32) (τ : pw_Mem), KX l1 l2 l3 l4 τ → PW L (d + 0) m_X11_find (ki K) 54 [some (.ref 49), some (.int l1), some (.int l2), some (.int l3), some (.int l4)] [] τ) → PW L (d + 0) m_X11_find (ki K) 3 [some (.ref 49), some (.int l1), some (.int l2), some (.int l3), some (.int l4)] [] σ := by
  intro n
  induction n with
  | zero => intro l1 l2 l3 l4 _ h _; exact h.elim
  | succ n ih =>
    intro l1 l2 l3 l4 σ h hX
    unfold R_X11_find_L3 at h
    refine pw_iload dX11_find_3 rfl ?_
    refine pw_aload_n (i := 0) dX11_find_5 rfl rfl ?_
    refine pw_getI dX11_find_6 fl_X11_109 rfl rfl ?_
    refine pw_icmp_ge (tgt := 54) dX11_find_9 rfl (fun q => ?_) (fun q => ?_)
    · have h := h.1 q
      exact hX _ _ _ _ _ h
    · have h := h.2 q
      refine pw_aload_n (i := 0) dX11_find_12 rfl rfl ?_
      refine pw_getR dX11_find_13 fl_X11_16 rfl rfl ?_
      refine pw_iload dX11_find_16 rfl ?_
      obtain ⟨hb, h⟩ := h
      refine pw_iald dX11_find_18 rfl hb ?_
      refine pw_iload_n (i := 1) dX11_find_19 rfl rfl ?_
      refine pw_icmp_ne (tgt := 48) dX11_find_20 rfl (fun q => ?_) (fun q => ?_)
      · have h := h.1 q
        refine pw_iinc (i := 4) (v := l4 + 1) (ls' := [some (.ref 49), some (.int l1), some (.int l2), some (.int l3), some (.int (l4 + 1))]) dX11_find_48 rfl (by rw [kc_1]) (Nat.le_of_ble_eq_true rfl) rfl ?_
        refine pw_goto (tgt := 3) dX11_find_51 rfl ?_
        exact ih _ _ _ _ _ h hX
      · have h := h.2 q
        refine pw_aload_n (i := 0) dX11_find_23 rfl rfl ?_
        refine pw_getR dX11_find_24 fl_X11_19 rfl rfl ?_
        refine pw_iload dX11_find_27 rfl ?_
        obtain ⟨hb, h⟩ := h
        refine pw_iald dX11_find_29 rfl hb ?_
        refine pw_iload_n (i := 2) dX11_find_30 rfl rfl ?_
        refine pw_icmp_ne (tgt := 48) dX11_find_31 rfl (fun q => ?_) (fun q => ?_)
        · have h := h.1 q
          refine pw_iinc (i := 4) (v := l4 + 1) (ls' := [some (.ref 49), some (.int l1), some (.int l2), some (.int l3), some (.int (l4 + 1))]) dX11_find_48 rfl (by rw [kc_1]) (Nat.le_of_ble_eq_true rfl) rfl ?_
          refine pw_goto (tgt := 3) dX11_find_51 rfl ?_
          exact ih _ _ _ _ _ h hX
        · have h := h.2 q
          refine pw_aload_n (i := 0) dX11_find_34 rfl rfl ?_
          refine pw_getR dX11_find_35 fl_X11_22 rfl rfl ?_
          refine pw_iload dX11_find_38 rfl ?_
          obtain ⟨hb, h⟩ := h
          refine pw_iald dX11_find_40 rfl hb ?_
          refine pw_iload_n (i := 3) dX11_find_41 rfl rfl ?_
          refine pw_icmp_ne (tgt := 48) dX11_find_42 rfl (fun q => ?_) (fun q => ?_)
          · have h := h.1 q
            refine pw_iinc (i := 4) (v := l4 + 1) (ls' := [some (.ref 49), some (.int l1), some (.int l2), some (.int l3), some (.int (l4 + 1))]) dX11_find_48 rfl (by rw [kc_1]) (Nat.le_of_ble_eq_true rfl) rfl ?_
            refine pw_goto (tgt := 3) dX11_find_51 rfl ?_
            exact ih _ _ _ _ _ h hX
          · have h := h.2 q
            refine pw_iload dX11_find_45 rfl ?_
            exact pw_ret dX11_find_47 rfl rfl ⟨_, rfl, h⟩
set_option maxHeartbeats 4000000 in
theorem c_X11_find {L : pw_Lay} {d : Nat} {a1 : Int32} {a2 : Int32} {a3 : Int32} {σ : pw_Mem} {K : Int32 → pw_Mem → Prop} (h : R_X11_find a1 a2 a3 σ K) : CT L (d + 0) m_X11_find [.ref 49, .int a1, .int a2, .int a3] σ (ki K) := by
  refine pw_enter (by decide) rfl (Nat.le_of_ble_eq_true rfl) (ls := [some (.ref 49), some (.int a1), some (.int a2), some (.int a3), none]) rfl ?_
  unfold R_X11_find at h
  refine pw_iconst (v := 0) dX11_find_0 kc_0 ?_
  refine pw_istore (i := 4) (ls' := [some (.ref 49), some (.int a1), some (.int a2), some (.int a3), some (.int 0)]) dX11_find_1 (Nat.le_of_ble_eq_true rfl) rfl ?_
  obtain ⟨n6, h⟩ := h
  refine t_X11_find_L3 _ _ _ _ _ _ h (fun y1 y2 y3 y4 τ5 h => ?_)
  refine pw_bipush (v := (-4)) dX11_find_54 kb_m4 ?_
  exact pw_ret dX11_find_56 rfl rfl ⟨_, rfl, h⟩
/-! X11_isPointer -/
def R_X11_isPointer (a1 : Int32) (σ : pw_Mem) (K : Int32 → pw_Mem → Prop) : Prop := R_X11_in (Int32.toInt64 a1) 0 7 σ (fun x2 τ1 => narrow .boolean (.int x2) = .int x2 ∧ K x2 τ1)
set_option maxHeartbeats 4000000 in
theorem c_X11_isPointer {L : pw_Lay} {d : Nat} {a1 : Int32} {σ : pw_Mem} {K : Int32 → pw_Mem → Prop} (h : R_X11_isPointer a1 σ K) : CT L (d + 1) m_X11_isPointer [.int a1] σ (ki K) := by
  refine pw_enter (by decide) rfl (Nat.le_of_ble_eq_true rfl) (ls := [some (.int a1)]) rfl ?_
  unfold R_X11_isPointer at h
  refine pw_iload_n (i := 0) dX11_isPointer_0 rfl rfl ?_
  refine pw_i2l dX11_isPointer_1 ?_
  refine pw_lconst (v := 0) dX11_isPointer_2 kl_0 ?_
  refine pw_ldc2 dX11_isPointer_3 k_X11_99 ?_
  refine pw_cSi [.long (Int32.toInt64 a1), .long 0, .long 7] dX11_isPointer_6 ms_X11_95 rfl rfl (Nat.le_of_ble_eq_true rfl) (c_X11_in h) (fun x2 τ1 h => ?_)
  obtain ⟨hn, h⟩ := h
  exact pw_ret dX11_isPointer_9 rfl hn ⟨_, rfl, h⟩
/-! X11_called -/
def R_X11_called (a1 : Int32) (a2 : Int32) (a3 : Int32) (σ : pw_Mem) (K : Int32 → pw_Mem → Prop) : Prop := R_X11_in (Int32.toInt64 a3) 0 3 σ (fun x2 τ1 => ((x2 = 0 → K (-1) τ1) ∧ (¬ x2 = 0 → R_X11_is a1 τ1 (fun x4 τ3 => ((x4 = 0 → K (-1) τ3) ∧ (¬ x4 = 0 → ((a3 ≤ 1 → R_X11_is a2 τ3 (fun x6 τ5 => ((¬ x6 = 0 → R_X11_find a1 a2 a3 τ5 (fun x8 τ7 => ((x8 = (-4) → ((¬ (τ7 49 3) = 60 → vp_in (τ7 49 3) 60 ∧ ∀ τ9, τ9 = pw_up τ7 52 (Int32.toNatClampNeg (τ7 49 3)) a1 → vp_in (τ9 49 3) 60 ∧ ∀ τ10, τ10 = pw_up τ9 53 (Int32.toNatClampNeg (τ9 49 3)) a2 → vp_in (τ10 49 3) 60 ∧ ∀ τ11, τ11 = pw_up τ10 54 (Int32.toNatClampNeg (τ10 49 3)) a3 → ∀ τ12, τ12 = pw_up τ11 49 3 ((τ11 49 3) + 1) → K (τ12 49 3) τ12) ∧ ((τ7 49 3) = 60 → K (-3) τ7))) ∧ (¬ x8 = (-4) → K (-2) τ7)))) ∧ (x6 = 0 → K (-1) τ5)))) ∧ (¬ a3 ≤ 1 → R_X11_isPointer a2 τ3 (fun x14 τ13 => ((x14 = 0 → K (-1) τ13) ∧ (¬ x14 = 0 → R_X11_find a1 a2 a3 τ13 (fun x16 τ15 => ((x16 = (-4) → ((¬ (τ15 49 3) = 60 → vp_in (τ15 49 3) 60 ∧ ∀ τ17, τ17 = pw_up τ15 52 (Int32.toNatClampNeg (τ15 49 3)) a1 → vp_in (τ17 49 3) 60 ∧ ∀ τ18, τ18 = pw_up τ17 53 (Int32.toNatClampNeg (τ17 49 3)) a2 → vp_in (τ18 49 3) 60 ∧ ∀ τ19, τ19 = pw_up τ18 54 (Int32.toNatClampNeg (τ18 49 3)) a3 → ∀ τ20, τ20 = pw_up τ19 49 3 ((τ19 49 3) + 1) → K (τ20 49 3) τ20) ∧ ((τ15 49 3) = 60 → K (-3) τ15))) ∧ (¬ x16 = (-4) → K (-2) τ15))))))))))))))
set_option maxHeartbeats 4000000 in
theorem c_X11_called {L : pw_Lay} {d : Nat} {a1 : Int32} {a2 : Int32} {a3 : Int32} {σ : pw_Mem} {K : Int32 → pw_Mem → Prop} (h : R_X11_called a1 a2 a3 σ K) : CT L (d + 2) m_X11_called [.ref 49, .int a1, .int a2, .int a3] σ (ki K) := by
  refine pw_enter (by decide) rfl (Nat.le_of_ble_eq_true rfl) (ls := [some (.ref 49), some (.int a1), some (.int a2), some (.int a3)]) rfl ?_
  unfold R_X11_called at h
  refine pw_iload_n (i := 3) dX11_called_0 rfl rfl ?_
  refine pw_i2l dX11_called_1 ?_
  refine pw_lconst (v := 0) dX11_called_2 kl_0 ?_
  refine pw_ldc2 dX11_called_3 k_X11_112 ?_
  refine pw_cSi [.long (Int32.toInt64 a3), .long 0, .long 3] dX11_called_6 ms_X11_95 rfl rfl (Nat.le_of_ble_eq_true rfl) (c_X11_in h) (fun x2 τ1 h => ?_)
  refine pw_if_eq (tgt := 43) dX11_called_9 rfl (fun q => ?_) (fun q => ?_)
  · have h := h.1 q
    refine pw_iconst (v := (-1)) dX11_called_43 kc_m1 ?_
    exact pw_ret dX11_called_44 rfl rfl ⟨_, rfl, h⟩
  · have h := h.2 q
    refine pw_aload_n (i := 0) dX11_called_12 rfl rfl ?_
    refine pw_iload_n (i := 1) dX11_called_13 rfl rfl ?_
    refine pw_cVi [.int a1] dX11_called_14 mv_X11_103 rfl rfl rfl (Nat.le_of_ble_eq_true rfl) (c_X11_is h) (fun x4 τ3 h => ?_)
    refine pw_if_eq (tgt := 43) dX11_called_17 rfl (fun q => ?_) (fun q => ?_)
    · have h := h.1 q
      refine pw_iconst (v := (-1)) dX11_called_43 kc_m1 ?_
      exact pw_ret dX11_called_44 rfl rfl ⟨_, rfl, h⟩
    · have h := h.2 q
      refine pw_iload_n (i := 3) dX11_called_20 rfl rfl ?_
      refine pw_iconst (v := 1) dX11_called_21 kc_1 ?_
      refine pw_icmp_le (tgt := 35) dX11_called_22 rfl (fun q => ?_) (fun q => ?_)
      · have h := h.1 q
        refine pw_aload_n (i := 0) dX11_called_35 rfl rfl ?_
        refine pw_iload_n (i := 2) dX11_called_36 rfl rfl ?_
        refine pw_cVi [.int a2] dX11_called_37 mv_X11_103 rfl rfl rfl (Nat.le_of_ble_eq_true rfl) (c_X11_is h) (fun x6 τ5 h => ?_)
        refine pw_if_ne (tgt := 45) dX11_called_40 rfl (fun q => ?_) (fun q => ?_)
        · have h := h.1 q
          refine pw_aload_n (i := 0) dX11_called_45 rfl rfl ?_
          refine pw_iload_n (i := 1) dX11_called_46 rfl rfl ?_
          refine pw_iload_n (i := 2) dX11_called_47 rfl rfl ?_
          refine pw_iload_n (i := 3) dX11_called_48 rfl rfl ?_
          refine pw_cVi [.int a1, .int a2, .int a3] dX11_called_49 mv_X11_117 rfl rfl rfl (Nat.le_of_ble_eq_true rfl) (c_X11_find h) (fun x8 τ7 h => ?_)
          refine pw_bipush (v := (-4)) dX11_called_52 kb_m4 ?_
          refine pw_icmp_eq (tgt := 60) dX11_called_54 rfl (fun q => ?_) (fun q => ?_)
          · have h := h.1 q
            refine pw_aload_n (i := 0) dX11_called_60 rfl rfl ?_
            refine pw_getI dX11_called_61 fl_X11_109 rfl rfl ?_
            refine pw_bipush (v := 60) dX11_called_64 kb_60 ?_
            refine pw_icmp_ne (tgt := 72) dX11_called_66 rfl (fun q => ?_) (fun q => ?_)
            · have h := h.1 q
              refine pw_aload_n (i := 0) dX11_called_72 rfl rfl ?_
              refine pw_getR dX11_called_73 fl_X11_16 rfl rfl ?_
              refine pw_aload_n (i := 0) dX11_called_76 rfl rfl ?_
              refine pw_getI dX11_called_77 fl_X11_109 rfl rfl ?_
              refine pw_iload_n (i := 1) dX11_called_80 rfl rfl ?_
              obtain ⟨hb, h⟩ := h
              refine pw_iast dX11_called_81 rfl hb ?_
              generalize hτ9 : pw_up τ7 52 (Int32.toNatClampNeg (τ7 49 3)) a1 = τ9
              have h := h τ9 hτ9.symm
              refine pw_aload_n (i := 0) dX11_called_82 rfl rfl ?_
              refine pw_getR dX11_called_83 fl_X11_19 rfl rfl ?_
              refine pw_aload_n (i := 0) dX11_called_86 rfl rfl ?_
              refine pw_getI dX11_called_87 fl_X11_109 rfl rfl ?_
              refine pw_iload_n (i := 2) dX11_called_90 rfl rfl ?_
              obtain ⟨hb, h⟩ := h
              refine pw_iast dX11_called_91 rfl hb ?_
              generalize hτ10 : pw_up τ9 53 (Int32.toNatClampNeg (τ9 49 3)) a2 = τ10
              have h := h τ10 hτ10.symm
              refine pw_aload_n (i := 0) dX11_called_92 rfl rfl ?_
              refine pw_getR dX11_called_93 fl_X11_22 rfl rfl ?_
              refine pw_aload_n (i := 0) dX11_called_96 rfl rfl ?_
              refine pw_getI dX11_called_97 fl_X11_109 rfl rfl ?_
              refine pw_iload_n (i := 3) dX11_called_100 rfl rfl ?_
              obtain ⟨hb, h⟩ := h
              refine pw_iast dX11_called_101 rfl hb ?_
              generalize hτ11 : pw_up τ10 54 (Int32.toNatClampNeg (τ10 49 3)) a3 = τ11
              have h := h τ11 hτ11.symm
              refine pw_aload_n (i := 0) dX11_called_102 rfl rfl ?_
              refine pw_dup dX11_called_103 rfl ?_
              refine pw_getI dX11_called_104 fl_X11_109 rfl rfl ?_
              refine pw_iconst (v := 1) dX11_called_107 kc_1 ?_
              refine pw_iadd dX11_called_108 ?_
              refine pw_put dX11_called_109 fp_X11_109 rfl rfl rfl rfl ?_
              generalize hτ12 : pw_up τ11 49 3 ((τ11 49 3) + 1) = τ12
              have h := h τ12 hτ12.symm
              refine pw_aload_n (i := 0) dX11_called_112 rfl rfl ?_
              refine pw_getI dX11_called_113 fl_X11_109 rfl rfl ?_
              exact pw_ret dX11_called_116 rfl rfl ⟨_, rfl, h⟩
            · have h := h.2 q
              refine pw_bipush (v := (-3)) dX11_called_69 kb_m3 ?_
              exact pw_ret dX11_called_71 rfl rfl ⟨_, rfl, h⟩
          · have h := h.2 q
            refine pw_bipush (v := (-2)) dX11_called_57 kb_m2 ?_
            exact pw_ret dX11_called_59 rfl rfl ⟨_, rfl, h⟩
        · have h := h.2 q
          refine pw_iconst (v := (-1)) dX11_called_43 kc_m1 ?_
          exact pw_ret dX11_called_44 rfl rfl ⟨_, rfl, h⟩
      · have h := h.2 q
        refine pw_iload_n (i := 2) dX11_called_25 rfl rfl ?_
        refine pw_cSi [.int a2] dX11_called_26 ms_X11_114 rfl rfl (Nat.le_of_ble_eq_true rfl) (c_X11_isPointer h) (fun x14 τ13 h => ?_)
        refine pw_if_eq (tgt := 43) dX11_called_29 rfl (fun q => ?_) (fun q => ?_)
        · have h := h.1 q
          refine pw_iconst (v := (-1)) dX11_called_43 kc_m1 ?_
          exact pw_ret dX11_called_44 rfl rfl ⟨_, rfl, h⟩
        · have h := h.2 q
          refine pw_goto (tgt := 45) dX11_called_32 rfl ?_
          refine pw_aload_n (i := 0) dX11_called_45 rfl rfl ?_
          refine pw_iload_n (i := 1) dX11_called_46 rfl rfl ?_
          refine pw_iload_n (i := 2) dX11_called_47 rfl rfl ?_
          refine pw_iload_n (i := 3) dX11_called_48 rfl rfl ?_
          refine pw_cVi [.int a1, .int a2, .int a3] dX11_called_49 mv_X11_117 rfl rfl rfl (Nat.le_of_ble_eq_true rfl) (c_X11_find h) (fun x16 τ15 h => ?_)
          refine pw_bipush (v := (-4)) dX11_called_52 kb_m4 ?_
          refine pw_icmp_eq (tgt := 60) dX11_called_54 rfl (fun q => ?_) (fun q => ?_)
          · have h := h.1 q
            refine pw_aload_n (i := 0) dX11_called_60 rfl rfl ?_
            refine pw_getI dX11_called_61 fl_X11_109 rfl rfl ?_
            refine pw_bipush (v := 60) dX11_called_64 kb_60 ?_
            refine pw_icmp_ne (tgt := 72) dX11_called_66 rfl (fun q => ?_) (fun q => ?_)
            · have h := h.1 q
              refine pw_aload_n (i := 0) dX11_called_72 rfl rfl ?_
              refine pw_getR dX11_called_73 fl_X11_16 rfl rfl ?_
              refine pw_aload_n (i := 0) dX11_called_76 rfl rfl ?_
              refine pw_getI dX11_called_77 fl_X11_109 rfl rfl ?_
              refine pw_iload_n (i := 1) dX11_called_80 rfl rfl ?_
              obtain ⟨hb, h⟩ := h
              refine pw_iast dX11_called_81 rfl hb ?_
              generalize hτ17 : pw_up τ15 52 (Int32.toNatClampNeg (τ15 49 3)) a1 = τ17
              have h := h τ17 hτ17.symm
              refine pw_aload_n (i := 0) dX11_called_82 rfl rfl ?_
              refine pw_getR dX11_called_83 fl_X11_19 rfl rfl ?_
              refine pw_aload_n (i := 0) dX11_called_86 rfl rfl ?_
              refine pw_getI dX11_called_87 fl_X11_109 rfl rfl ?_
              refine pw_iload_n (i := 2) dX11_called_90 rfl rfl ?_
              obtain ⟨hb, h⟩ := h
              refine pw_iast dX11_called_91 rfl hb ?_
              generalize hτ18 : pw_up τ17 53 (Int32.toNatClampNeg (τ17 49 3)) a2 = τ18
              have h := h τ18 hτ18.symm
              refine pw_aload_n (i := 0) dX11_called_92 rfl rfl ?_
              refine pw_getR dX11_called_93 fl_X11_22 rfl rfl ?_
              refine pw_aload_n (i := 0) dX11_called_96 rfl rfl ?_
              refine pw_getI dX11_called_97 fl_X11_109 rfl rfl ?_
              refine pw_iload_n (i := 3) dX11_called_100 rfl rfl ?_
              obtain ⟨hb, h⟩ := h
              refine pw_iast dX11_called_101 rfl hb ?_
              generalize hτ19 : pw_up τ18 54 (Int32.toNatClampNeg (τ18 49 3)) a3 = τ19
              have h := h τ19 hτ19.symm
              refine pw_aload_n (i := 0) dX11_called_102 rfl rfl ?_
              refine pw_dup dX11_called_103 rfl ?_
              refine pw_getI dX11_called_104 fl_X11_109 rfl rfl ?_
              refine pw_iconst (v := 1) dX11_called_107 kc_1 ?_
              refine pw_iadd dX11_called_108 ?_
              refine pw_put dX11_called_109 fp_X11_109 rfl rfl rfl rfl ?_
              generalize hτ20 : pw_up τ19 49 3 ((τ19 49 3) + 1) = τ20
              have h := h τ20 hτ20.symm
              refine pw_aload_n (i := 0) dX11_called_112 rfl rfl ?_
              refine pw_getI dX11_called_113 fl_X11_109 rfl rfl ?_
              exact pw_ret dX11_called_116 rfl rfl ⟨_, rfl, h⟩
            · have h := h.2 q
              refine pw_bipush (v := (-3)) dX11_called_69 kb_m3 ?_
              exact pw_ret dX11_called_71 rfl rfl ⟨_, rfl, h⟩
          · have h := h.2 q
            refine pw_bipush (v := (-2)) dX11_called_57 kb_m2 ?_
            exact pw_ret dX11_called_59 rfl rfl ⟨_, rfl, h⟩
/-! X11_call -/
def R_X11_call (a1 : Int32) (a2 : Int32) (a3 : Int32) (a4 : Int32) (σ : pw_Mem) (K : Int32 → pw_Mem → Prop) : Prop := R_X11_sortOf a3 a4 σ (fun x2 τ1 => R_X11_called a1 a2 x2 τ1 (fun x4 τ3 => K x4 τ3))
set_option maxHeartbeats 4000000 in
theorem c_X11_call {L : pw_Lay} {d : Nat} {a1 : Int32} {a2 : Int32} {a3 : Int32} {a4 : Int32} {σ : pw_Mem} {K : Int32 → pw_Mem → Prop} (h : R_X11_call a1 a2 a3 a4 σ K) : CT L (d + 3) m_X11_call [.ref 49, .int a1, .int a2, .int a3, .int a4] σ (ki K) := by
  refine pw_enter (by decide) rfl (Nat.le_of_ble_eq_true rfl) (ls := [some (.ref 49), some (.int a1), some (.int a2), some (.int a3), some (.int a4)]) rfl ?_
  unfold R_X11_call at h
  refine pw_aload_n (i := 0) dX11_call_0 rfl rfl ?_
  refine pw_iload_n (i := 1) dX11_call_1 rfl rfl ?_
  refine pw_iload_n (i := 2) dX11_call_2 rfl rfl ?_
  refine pw_iload_n (i := 3) dX11_call_3 rfl rfl ?_
  refine pw_iload dX11_call_4 rfl ?_
  refine pw_cSi [.int a3, .int a4] dX11_call_6 ms_X11_121 rfl rfl (Nat.le_of_ble_eq_true rfl) (c_X11_sortOf h) (fun x2 τ1 h => ?_)
  refine pw_cVi [.int a1, .int a2, .int x2] dX11_call_9 mv_X11_125 rfl rfl rfl (Nat.le_of_ble_eq_true rfl) (c_X11_called h) (fun x4 τ3 h => ?_)
  exact pw_ret dX11_call_12 rfl rfl ⟨_, rfl, h⟩
/-! X11_cut -/
def R_X11_cut (a1 : Int32) (a2 : Int32) (a3 : Int32) (a4 : Int32) (σ : pw_Mem) (K : Int32 → pw_Mem → Prop) : Prop := R_X11_is a1 σ (fun x2 τ1 => ((x2 = 0 → K (-1) τ1) ∧ (¬ x2 = 0 → ((a3 = 0 → R_X11_is a2 τ1 (fun x4 τ3 => ((¬ x4 = 0 → R_X11_sortOf a3 a4 τ3 (fun x6 τ5 => R_X11_find a1 a2 x6 τ5 (fun x8 τ7 => ((¬ x8 = (-4) → ∀ τ9, τ9 = pw_up τ7 49 3 ((τ7 49 3) - 1) → vp_in (τ9 49 3) 60 ∧ vp_in x8 60 ∧ ∀ τ10, τ10 = pw_up τ9 52 (Int32.toNatClampNeg x8) (τ9 52 (Int32.toNatClampNeg (τ9 49 3))) → vp_in (τ10 49 3) 60 ∧ vp_in x8 60 ∧ ∀ τ11, τ11 = pw_up τ10 53 (Int32.toNatClampNeg x8) (τ10 53 (Int32.toNatClampNeg (τ10 49 3))) → vp_in (τ11 49 3) 60 ∧ vp_in x8 60 ∧ ∀ τ12, τ12 = pw_up τ11 54 (Int32.toNatClampNeg x8) (τ11 54 (Int32.toNatClampNeg (τ11 49 3))) → K (τ12 49 3) τ12) ∧ (x8 = (-4) → K (-2) τ7))))) ∧ (x4 = 0 → K (-1) τ3)))) ∧ (¬ a3 = 0 → R_X11_isPointer a2 τ1 (fun x14 τ13 => ((x14 = 0 → K (-1) τ13) ∧ (¬ x14 = 0 → R_X11_sortOf a3 a4 τ13 (fun x16 τ15 => R_X11_find a1 a2 x16 τ15 (fun x18 τ17 => ((¬ x18 = (-4) → ∀ τ19, τ19 = pw_up τ17 49 3 ((τ17 49 3) - 1) → vp_in (τ19 49 3) 60 ∧ vp_in x18 60 ∧ ∀ τ20, τ20 = pw_up τ19 52 (Int32.toNatClampNeg x18) (τ19 52 (Int32.toNatClampNeg (τ19 49 3))) → vp_in (τ20 49 3) 60 ∧ vp_in x18 60 ∧ ∀ τ21, τ21 = pw_up τ20 53 (Int32.toNatClampNeg x18) (τ20 53 (Int32.toNatClampNeg (τ20 49 3))) → vp_in (τ21 49 3) 60 ∧ vp_in x18 60 ∧ ∀ τ22, τ22 = pw_up τ21 54 (Int32.toNatClampNeg x18) (τ21 54 (Int32.toNatClampNeg (τ21 49 3))) → K (τ22 49 3) τ22) ∧ (x18 = (-4) → K (-2) τ17))))))))))))
set_option maxHeartbeats 4000000 in
theorem c_X11_cut {L : pw_Lay} {d : Nat} {a1 : Int32} {a2 : Int32} {a3 : Int32} {a4 : Int32} {σ : pw_Mem} {K : Int32 → pw_Mem → Prop} (h : R_X11_cut a1 a2 a3 a4 σ K) : CT L (d + 2) m_X11_cut [.ref 49, .int a1, .int a2, .int a3, .int a4] σ (ki K) := by
  refine pw_enter (by decide) rfl (Nat.le_of_ble_eq_true rfl) (ls := [some (.ref 49), some (.int a1), some (.int a2), some (.int a3), some (.int a4), none]) rfl ?_
  unfold R_X11_cut at h
  refine pw_aload_n (i := 0) dX11_cut_0 rfl rfl ?_
  refine pw_iload_n (i := 1) dX11_cut_1 rfl rfl ?_
  refine pw_cVi [.int a1] dX11_cut_2 mv_X11_103 rfl rfl rfl (Nat.le_of_ble_eq_true rfl) (c_X11_is h) (fun x2 τ1 h => ?_)
  refine pw_if_eq (tgt := 30) dX11_cut_5 rfl (fun q => ?_) (fun q => ?_)
  · have h := h.1 q
    refine pw_iconst (v := (-1)) dX11_cut_30 kc_m1 ?_
    exact pw_ret dX11_cut_31 rfl rfl ⟨_, rfl, h⟩
  · have h := h.2 q
    refine pw_iload_n (i := 3) dX11_cut_8 rfl rfl ?_
    refine pw_if_eq (tgt := 22) dX11_cut_9 rfl (fun q => ?_) (fun q => ?_)
    · have h := h.1 q
      refine pw_aload_n (i := 0) dX11_cut_22 rfl rfl ?_
      refine pw_iload_n (i := 2) dX11_cut_23 rfl rfl ?_
      refine pw_cVi [.int a2] dX11_cut_24 mv_X11_103 rfl rfl rfl (Nat.le_of_ble_eq_true rfl) (c_X11_is h) (fun x4 τ3 h => ?_)
      refine pw_if_ne (tgt := 32) dX11_cut_27 rfl (fun q => ?_) (fun q => ?_)
      · have h := h.1 q
        refine pw_aload_n (i := 0) dX11_cut_32 rfl rfl ?_
        refine pw_iload_n (i := 1) dX11_cut_33 rfl rfl ?_
        refine pw_iload_n (i := 2) dX11_cut_34 rfl rfl ?_
        refine pw_iload_n (i := 3) dX11_cut_35 rfl rfl ?_
        refine pw_iload dX11_cut_36 rfl ?_
        refine pw_cSi [.int a3, .int a4] dX11_cut_38 ms_X11_121 rfl rfl (Nat.le_of_ble_eq_true rfl) (c_X11_sortOf h) (fun x6 τ5 h => ?_)
        refine pw_cVi [.int a1, .int a2, .int x6] dX11_cut_41 mv_X11_117 rfl rfl rfl (Nat.le_of_ble_eq_true rfl) (c_X11_find h) (fun x8 τ7 h => ?_)
        refine pw_istore (i := 5) (ls' := [some (.ref 49), some (.int a1), some (.int a2), some (.int a3), some (.int a4), some (.int x8)]) dX11_cut_44 (Nat.le_of_ble_eq_true rfl) rfl ?_
        refine pw_iload dX11_cut_46 rfl ?_
        refine pw_bipush (v := (-4)) dX11_cut_48 kb_m4 ?_
        refine pw_icmp_ne (tgt := 56) dX11_cut_50 rfl (fun q => ?_) (fun q => ?_)
        · have h := h.1 q
          refine pw_aload_n (i := 0) dX11_cut_56 rfl rfl ?_
          refine pw_dup dX11_cut_57 rfl ?_
          refine pw_getI dX11_cut_58 fl_X11_109 rfl rfl ?_
          refine pw_iconst (v := 1) dX11_cut_61 kc_1 ?_
          refine pw_isub dX11_cut_62 ?_
          refine pw_put dX11_cut_63 fp_X11_109 rfl rfl rfl rfl ?_
          generalize hτ9 : pw_up τ7 49 3 ((τ7 49 3) - 1) = τ9
          have h := h τ9 hτ9.symm
          refine pw_aload_n (i := 0) dX11_cut_66 rfl rfl ?_
          refine pw_getR dX11_cut_67 fl_X11_16 rfl rfl ?_
          refine pw_iload dX11_cut_70 rfl ?_
          refine pw_aload_n (i := 0) dX11_cut_72 rfl rfl ?_
          refine pw_getR dX11_cut_73 fl_X11_16 rfl rfl ?_
          refine pw_aload_n (i := 0) dX11_cut_76 rfl rfl ?_
          refine pw_getI dX11_cut_77 fl_X11_109 rfl rfl ?_
          obtain ⟨hb, h⟩ := h
          refine pw_iald dX11_cut_80 rfl hb ?_
          obtain ⟨hb, h⟩ := h
          refine pw_iast dX11_cut_81 rfl hb ?_
          generalize hτ10 : pw_up τ9 52 (Int32.toNatClampNeg x8) (τ9 52 (Int32.toNatClampNeg (τ9 49 3))) = τ10
          have h := h τ10 hτ10.symm
          refine pw_aload_n (i := 0) dX11_cut_82 rfl rfl ?_
          refine pw_getR dX11_cut_83 fl_X11_19 rfl rfl ?_
          refine pw_iload dX11_cut_86 rfl ?_
          refine pw_aload_n (i := 0) dX11_cut_88 rfl rfl ?_
          refine pw_getR dX11_cut_89 fl_X11_19 rfl rfl ?_
          refine pw_aload_n (i := 0) dX11_cut_92 rfl rfl ?_
          refine pw_getI dX11_cut_93 fl_X11_109 rfl rfl ?_
          obtain ⟨hb, h⟩ := h
          refine pw_iald dX11_cut_96 rfl hb ?_
          obtain ⟨hb, h⟩ := h
          refine pw_iast dX11_cut_97 rfl hb ?_
          generalize hτ11 : pw_up τ10 53 (Int32.toNatClampNeg x8) (τ10 53 (Int32.toNatClampNeg (τ10 49 3))) = τ11
          have h := h τ11 hτ11.symm
          refine pw_aload_n (i := 0) dX11_cut_98 rfl rfl ?_
          refine pw_getR dX11_cut_99 fl_X11_22 rfl rfl ?_
          refine pw_iload dX11_cut_102 rfl ?_
          refine pw_aload_n (i := 0) dX11_cut_104 rfl rfl ?_
          refine pw_getR dX11_cut_105 fl_X11_22 rfl rfl ?_
          refine pw_aload_n (i := 0) dX11_cut_108 rfl rfl ?_
          refine pw_getI dX11_cut_109 fl_X11_109 rfl rfl ?_
          obtain ⟨hb, h⟩ := h
          refine pw_iald dX11_cut_112 rfl hb ?_
          obtain ⟨hb, h⟩ := h
          refine pw_iast dX11_cut_113 rfl hb ?_
          generalize hτ12 : pw_up τ11 54 (Int32.toNatClampNeg x8) (τ11 54 (Int32.toNatClampNeg (τ11 49 3))) = τ12
          have h := h τ12 hτ12.symm
          refine pw_aload_n (i := 0) dX11_cut_114 rfl rfl ?_
          refine pw_getI dX11_cut_115 fl_X11_109 rfl rfl ?_
          exact pw_ret dX11_cut_118 rfl rfl ⟨_, rfl, h⟩
        · have h := h.2 q
          refine pw_bipush (v := (-2)) dX11_cut_53 kb_m2 ?_
          exact pw_ret dX11_cut_55 rfl rfl ⟨_, rfl, h⟩
      · have h := h.2 q
        refine pw_iconst (v := (-1)) dX11_cut_30 kc_m1 ?_
        exact pw_ret dX11_cut_31 rfl rfl ⟨_, rfl, h⟩
    · have h := h.2 q
      refine pw_iload_n (i := 2) dX11_cut_12 rfl rfl ?_
      refine pw_cSi [.int a2] dX11_cut_13 ms_X11_114 rfl rfl (Nat.le_of_ble_eq_true rfl) (c_X11_isPointer h) (fun x14 τ13 h => ?_)
      refine pw_if_eq (tgt := 30) dX11_cut_16 rfl (fun q => ?_) (fun q => ?_)
      · have h := h.1 q
        refine pw_iconst (v := (-1)) dX11_cut_30 kc_m1 ?_
        exact pw_ret dX11_cut_31 rfl rfl ⟨_, rfl, h⟩
      · have h := h.2 q
        refine pw_goto (tgt := 32) dX11_cut_19 rfl ?_
        refine pw_aload_n (i := 0) dX11_cut_32 rfl rfl ?_
        refine pw_iload_n (i := 1) dX11_cut_33 rfl rfl ?_
        refine pw_iload_n (i := 2) dX11_cut_34 rfl rfl ?_
        refine pw_iload_n (i := 3) dX11_cut_35 rfl rfl ?_
        refine pw_iload dX11_cut_36 rfl ?_
        refine pw_cSi [.int a3, .int a4] dX11_cut_38 ms_X11_121 rfl rfl (Nat.le_of_ble_eq_true rfl) (c_X11_sortOf h) (fun x16 τ15 h => ?_)
        refine pw_cVi [.int a1, .int a2, .int x16] dX11_cut_41 mv_X11_117 rfl rfl rfl (Nat.le_of_ble_eq_true rfl) (c_X11_find h) (fun x18 τ17 h => ?_)
        refine pw_istore (i := 5) (ls' := [some (.ref 49), some (.int a1), some (.int a2), some (.int a3), some (.int a4), some (.int x18)]) dX11_cut_44 (Nat.le_of_ble_eq_true rfl) rfl ?_
        refine pw_iload dX11_cut_46 rfl ?_
        refine pw_bipush (v := (-4)) dX11_cut_48 kb_m4 ?_
        refine pw_icmp_ne (tgt := 56) dX11_cut_50 rfl (fun q => ?_) (fun q => ?_)
        · have h := h.1 q
          refine pw_aload_n (i := 0) dX11_cut_56 rfl rfl ?_
          refine pw_dup dX11_cut_57 rfl ?_
          refine pw_getI dX11_cut_58 fl_X11_109 rfl rfl ?_
          refine pw_iconst (v := 1) dX11_cut_61 kc_1 ?_
          refine pw_isub dX11_cut_62 ?_
          refine pw_put dX11_cut_63 fp_X11_109 rfl rfl rfl rfl ?_
          generalize hτ19 : pw_up τ17 49 3 ((τ17 49 3) - 1) = τ19
          have h := h τ19 hτ19.symm
          refine pw_aload_n (i := 0) dX11_cut_66 rfl rfl ?_
          refine pw_getR dX11_cut_67 fl_X11_16 rfl rfl ?_
          refine pw_iload dX11_cut_70 rfl ?_
          refine pw_aload_n (i := 0) dX11_cut_72 rfl rfl ?_
          refine pw_getR dX11_cut_73 fl_X11_16 rfl rfl ?_
          refine pw_aload_n (i := 0) dX11_cut_76 rfl rfl ?_
          refine pw_getI dX11_cut_77 fl_X11_109 rfl rfl ?_
          obtain ⟨hb, h⟩ := h
          refine pw_iald dX11_cut_80 rfl hb ?_
          obtain ⟨hb, h⟩ := h
          refine pw_iast dX11_cut_81 rfl hb ?_
          generalize hτ20 : pw_up τ19 52 (Int32.toNatClampNeg x18) (τ19 52 (Int32.toNatClampNeg (τ19 49 3))) = τ20
          have h := h τ20 hτ20.symm
          refine pw_aload_n (i := 0) dX11_cut_82 rfl rfl ?_
          refine pw_getR dX11_cut_83 fl_X11_19 rfl rfl ?_
          refine pw_iload dX11_cut_86 rfl ?_
          refine pw_aload_n (i := 0) dX11_cut_88 rfl rfl ?_
          refine pw_getR dX11_cut_89 fl_X11_19 rfl rfl ?_
          refine pw_aload_n (i := 0) dX11_cut_92 rfl rfl ?_
          refine pw_getI dX11_cut_93 fl_X11_109 rfl rfl ?_
          obtain ⟨hb, h⟩ := h
          refine pw_iald dX11_cut_96 rfl hb ?_
          obtain ⟨hb, h⟩ := h
          refine pw_iast dX11_cut_97 rfl hb ?_
          generalize hτ21 : pw_up τ20 53 (Int32.toNatClampNeg x18) (τ20 53 (Int32.toNatClampNeg (τ20 49 3))) = τ21
          have h := h τ21 hτ21.symm
          refine pw_aload_n (i := 0) dX11_cut_98 rfl rfl ?_
          refine pw_getR dX11_cut_99 fl_X11_22 rfl rfl ?_
          refine pw_iload dX11_cut_102 rfl ?_
          refine pw_aload_n (i := 0) dX11_cut_104 rfl rfl ?_
          refine pw_getR dX11_cut_105 fl_X11_22 rfl rfl ?_
          refine pw_aload_n (i := 0) dX11_cut_108 rfl rfl ?_
          refine pw_getI dX11_cut_109 fl_X11_109 rfl rfl ?_
          obtain ⟨hb, h⟩ := h
          refine pw_iald dX11_cut_112 rfl hb ?_
          obtain ⟨hb, h⟩ := h
          refine pw_iast dX11_cut_113 rfl hb ?_
          generalize hτ22 : pw_up τ21 54 (Int32.toNatClampNeg x18) (τ21 54 (Int32.toNatClampNeg (τ21 49 3))) = τ22
          have h := h τ22 hτ22.symm
          refine pw_aload_n (i := 0) dX11_cut_114 rfl rfl ?_
          refine pw_getI dX11_cut_115 fl_X11_109 rfl rfl ?_
          exact pw_ret dX11_cut_118 rfl rfl ⟨_, rfl, h⟩
        · have h := h.2 q
          refine pw_bipush (v := (-2)) dX11_cut_53 kb_m2 ?_
          exact pw_ret dX11_cut_55 rfl rfl ⟨_, rfl, h⟩
/-! X11_take -/
def R_X11_take (a1 : Int32) (a2 : Int32) (σ : pw_Mem) (K : Int32 → pw_Mem → Prop) : Prop := R_X11_isPointer a1 σ (fun x2 τ1 => ((x2 = 0 → K (-1) τ1) ∧ (¬ x2 = 0 → R_X11_is a2 τ1 (fun x4 τ3 => ((¬ x4 = 0 → vp_in a1 8 ∧ ((¬ (((τ3 55 (Int32.toNatClampNeg a1)) >>> (a2 &&& 31)) &&& 1) = 1 → vp_in a1 8 ∧ vp_in a1 8 ∧ ∀ τ5, τ5 = pw_up τ3 55 (Int32.toNatClampNeg a1) ((τ3 55 (Int32.toNatClampNeg a1)) ||| (1 <<< (a2 &&& 31))) → K 1 τ5) ∧ ((((τ3 55 (Int32.toNatClampNeg a1)) >>> (a2 &&& 31)) &&& 1) = 1 → K (-2) τ3))) ∧ (x4 = 0 → K (-1) τ3))))))
set_option maxHeartbeats 4000000 in
theorem c_X11_take {L : pw_Lay} {d : Nat} {a1 : Int32} {a2 : Int32} {σ : pw_Mem} {K : Int32 → pw_Mem → Prop} (h : R_X11_take a1 a2 σ K) : CT L (d + 2) m_X11_take [.ref 49, .int a1, .int a2] σ (ki K) := by
  refine pw_enter (by decide) rfl (Nat.le_of_ble_eq_true rfl) (ls := [some (.ref 49), some (.int a1), some (.int a2)]) rfl ?_
  unfold R_X11_take at h
  refine pw_iload_n (i := 1) dX11_take_0 rfl rfl ?_
  refine pw_cSi [.int a1] dX11_take_1 ms_X11_114 rfl rfl (Nat.le_of_ble_eq_true rfl) (c_X11_isPointer h) (fun x2 τ1 h => ?_)
  refine pw_if_eq (tgt := 15) dX11_take_4 rfl (fun q => ?_) (fun q => ?_)
  · have h := h.1 q
    refine pw_iconst (v := (-1)) dX11_take_15 kc_m1 ?_
    exact pw_ret dX11_take_16 rfl rfl ⟨_, rfl, h⟩
  · have h := h.2 q
    refine pw_aload_n (i := 0) dX11_take_7 rfl rfl ?_
    refine pw_iload_n (i := 2) dX11_take_8 rfl rfl ?_
    refine pw_cVi [.int a2] dX11_take_9 mv_X11_103 rfl rfl rfl (Nat.le_of_ble_eq_true rfl) (c_X11_is h) (fun x4 τ3 h => ?_)
    refine pw_if_ne (tgt := 17) dX11_take_12 rfl (fun q => ?_) (fun q => ?_)
    · have h := h.1 q
      refine pw_aload_n (i := 0) dX11_take_17 rfl rfl ?_
      refine pw_getR dX11_take_18 fl_X11_25 rfl rfl ?_
      refine pw_iload_n (i := 1) dX11_take_21 rfl rfl ?_
      obtain ⟨hb, h⟩ := h
      refine pw_iald dX11_take_22 rfl hb ?_
      refine pw_iload_n (i := 2) dX11_take_23 rfl rfl ?_
      refine pw_ishr dX11_take_24 ?_
      refine pw_iconst (v := 1) dX11_take_25 kc_1 ?_
      refine pw_iand dX11_take_26 ?_
      refine pw_iconst (v := 1) dX11_take_27 kc_1 ?_
      refine pw_icmp_ne (tgt := 34) dX11_take_28 rfl (fun q => ?_) (fun q => ?_)
      · have h := h.1 q
        refine pw_aload_n (i := 0) dX11_take_34 rfl rfl ?_
        refine pw_getR dX11_take_35 fl_X11_25 rfl rfl ?_
        refine pw_iload_n (i := 1) dX11_take_38 rfl rfl ?_
        refine pw_dup2 dX11_take_39 rfl rfl ?_
        obtain ⟨hb, h⟩ := h
        refine pw_iald dX11_take_40 rfl hb ?_
        refine pw_iconst (v := 1) dX11_take_41 kc_1 ?_
        refine pw_iload_n (i := 2) dX11_take_42 rfl rfl ?_
        refine pw_ishl dX11_take_43 ?_
        refine pw_ior dX11_take_44 ?_
        obtain ⟨hb, h⟩ := h
        refine pw_iast dX11_take_45 rfl hb ?_
        generalize hτ5 : pw_up τ3 55 (Int32.toNatClampNeg a1) ((τ3 55 (Int32.toNatClampNeg a1)) ||| (1 <<< (a2 &&& 31))) = τ5
        have h := h τ5 hτ5.symm
        refine pw_iconst (v := 1) dX11_take_46 kc_1 ?_
        exact pw_ret dX11_take_47 rfl rfl ⟨_, rfl, h⟩
      · have h := h.2 q
        refine pw_bipush (v := (-2)) dX11_take_31 kb_m2 ?_
        exact pw_ret dX11_take_33 rfl rfl ⟨_, rfl, h⟩
    · have h := h.2 q
      refine pw_iconst (v := (-1)) dX11_take_15 kc_m1 ?_
      exact pw_ret dX11_take_16 rfl rfl ⟨_, rfl, h⟩
/-! X11_flow -/
def R_X11_flow (a1 : Int32) (a2 : Int32) (σ : pw_Mem) (K : Int32 → pw_Mem → Prop) : Prop := R_X11_isPointer a1 σ (fun x2 τ1 => ((x2 = 0 → K (-1) τ1) ∧ (¬ x2 = 0 → R_X11_isPointer a2 τ1 (fun x4 τ3 => ((¬ x4 = 0 → ((a1 = a2 → K (-2) τ3) ∧ (¬ a1 = a2 → vp_in a1 8 ∧ ((¬ (((τ3 56 (Int32.toNatClampNeg a1)) >>> (a2 &&& 31)) &&& 1) = 1 → vp_in a1 8 ∧ vp_in a1 8 ∧ ∀ τ5, τ5 = pw_up τ3 56 (Int32.toNatClampNeg a1) ((τ3 56 (Int32.toNatClampNeg a1)) ||| (1 <<< (a2 &&& 31))) → K 1 τ5) ∧ ((((τ3 56 (Int32.toNatClampNeg a1)) >>> (a2 &&& 31)) &&& 1) = 1 → K (-2) τ3))))) ∧ (x4 = 0 → K (-1) τ3))))))
set_option maxHeartbeats 4000000 in
theorem c_X11_flow {L : pw_Lay} {d : Nat} {a1 : Int32} {a2 : Int32} {σ : pw_Mem} {K : Int32 → pw_Mem → Prop} (h : R_X11_flow a1 a2 σ K) : CT L (d + 2) m_X11_flow [.ref 49, .int a1, .int a2] σ (ki K) := by
  refine pw_enter (by decide) rfl (Nat.le_of_ble_eq_true rfl) (ls := [some (.ref 49), some (.int a1), some (.int a2)]) rfl ?_
  unfold R_X11_flow at h
  refine pw_iload_n (i := 1) dX11_flow_0 rfl rfl ?_
  refine pw_cSi [.int a1] dX11_flow_1 ms_X11_114 rfl rfl (Nat.le_of_ble_eq_true rfl) (c_X11_isPointer h) (fun x2 τ1 h => ?_)
  refine pw_if_eq (tgt := 14) dX11_flow_4 rfl (fun q => ?_) (fun q => ?_)
  · have h := h.1 q
    refine pw_iconst (v := (-1)) dX11_flow_14 kc_m1 ?_
    exact pw_ret dX11_flow_15 rfl rfl ⟨_, rfl, h⟩
  · have h := h.2 q
    refine pw_iload_n (i := 2) dX11_flow_7 rfl rfl ?_
    refine pw_cSi [.int a2] dX11_flow_8 ms_X11_114 rfl rfl (Nat.le_of_ble_eq_true rfl) (c_X11_isPointer h) (fun x4 τ3 h => ?_)
    refine pw_if_ne (tgt := 16) dX11_flow_11 rfl (fun q => ?_) (fun q => ?_)
    · have h := h.1 q
      refine pw_iload_n (i := 1) dX11_flow_16 rfl rfl ?_
      refine pw_iload_n (i := 2) dX11_flow_17 rfl rfl ?_
      refine pw_icmp_eq (tgt := 35) dX11_flow_18 rfl (fun q => ?_) (fun q => ?_)
      · have h := h.1 q
        refine pw_bipush (v := (-2)) dX11_flow_35 kb_m2 ?_
        exact pw_ret dX11_flow_37 rfl rfl ⟨_, rfl, h⟩
      · have h := h.2 q
        refine pw_aload_n (i := 0) dX11_flow_21 rfl rfl ?_
        refine pw_getR dX11_flow_22 fl_X11_28 rfl rfl ?_
        refine pw_iload_n (i := 1) dX11_flow_25 rfl rfl ?_
        obtain ⟨hb, h⟩ := h
        refine pw_iald dX11_flow_26 rfl hb ?_
        refine pw_iload_n (i := 2) dX11_flow_27 rfl rfl ?_
        refine pw_ishr dX11_flow_28 ?_
        refine pw_iconst (v := 1) dX11_flow_29 kc_1 ?_
        refine pw_iand dX11_flow_30 ?_
        refine pw_iconst (v := 1) dX11_flow_31 kc_1 ?_
        refine pw_icmp_ne (tgt := 38) dX11_flow_32 rfl (fun q => ?_) (fun q => ?_)
        · have h := h.1 q
          refine pw_aload_n (i := 0) dX11_flow_38 rfl rfl ?_
          refine pw_getR dX11_flow_39 fl_X11_28 rfl rfl ?_
          refine pw_iload_n (i := 1) dX11_flow_42 rfl rfl ?_
          refine pw_dup2 dX11_flow_43 rfl rfl ?_
          obtain ⟨hb, h⟩ := h
          refine pw_iald dX11_flow_44 rfl hb ?_
          refine pw_iconst (v := 1) dX11_flow_45 kc_1 ?_
          refine pw_iload_n (i := 2) dX11_flow_46 rfl rfl ?_
          refine pw_ishl dX11_flow_47 ?_
          refine pw_ior dX11_flow_48 ?_
          obtain ⟨hb, h⟩ := h
          refine pw_iast dX11_flow_49 rfl hb ?_
          generalize hτ5 : pw_up τ3 56 (Int32.toNatClampNeg a1) ((τ3 56 (Int32.toNatClampNeg a1)) ||| (1 <<< (a2 &&& 31))) = τ5
          have h := h τ5 hτ5.symm
          refine pw_iconst (v := 1) dX11_flow_50 kc_1 ?_
          exact pw_ret dX11_flow_51 rfl rfl ⟨_, rfl, h⟩
        · have h := h.2 q
          refine pw_bipush (v := (-2)) dX11_flow_35 kb_m2 ?_
          exact pw_ret dX11_flow_37 rfl rfl ⟨_, rfl, h⟩
    · have h := h.2 q
      refine pw_iconst (v := (-1)) dX11_flow_14 kc_m1 ?_
      exact pw_ret dX11_flow_15 rfl rfl ⟨_, rfl, h⟩
/-! X11_layGoals -/
def R_X11_layGoals_L2 (K : pw_Mem → Prop) (KX : Int32 → pw_Mem → Prop) : Nat → Int32 → pw_Mem → Prop
  | 0, _, _ => False
  | n + 1, l1, σ => ((8 ≤ l1 → KX l1 σ) ∧ (¬ 8 ≤ l1 → vp_in l1 8 ∧ vp_in l1 8 ∧ ∀ τ1, τ1 = pw_up σ 57 (Int32.toNatClampNeg l1) (σ 55 (Int32.toNatClampNeg l1)) → R_X11_layGoals_L2 K KX n (l1 + 1) τ1))
def R_X11_layGoals_L44 (K : pw_Mem → Prop) (KX : Int32 → Int32 → Int32 → pw_Mem → Prop) : Nat → Int32 → Int32 → Int32 → pw_Mem → Prop
  | 0, _, _, _, _ => False
  | n + 1, l1, l2, l3, σ => ((8 ≤ l3 → KX l1 l2 l3 σ) ∧ (¬ 8 ≤ l3 → vp_in l2 8 ∧ vp_in l2 8 ∧ ((¬ (((σ 56 (Int32.toNatClampNeg l2)) >>> (l3 &&& 31)) &&& 1) = 1 → vp_in l2 8 ∧ ∀ τ4, τ4 = pw_up σ 57 (Int32.toNatClampNeg l2) ((σ 57 (Int32.toNatClampNeg l2)) ||| 0) → R_X11_layGoals_L44 K KX n l1 l2 (l3 + 1) τ4) ∧ ((((σ 56 (Int32.toNatClampNeg l2)) >>> (l3 &&& 31)) &&& 1) = 1 → vp_in l3 8 ∧ vp_in l2 8 ∧ ∀ τ5, τ5 = pw_up σ 57 (Int32.toNatClampNeg l2) ((σ 57 (Int32.toNatClampNeg l2)) ||| (σ 57 (Int32.toNatClampNeg l3))) → R_X11_layGoals_L44 K KX n l1 l2 (l3 + 1) τ5))))
def R_X11_layGoals_L36 (K : pw_Mem → Prop) (KX : Int32 → Int32 → pw_Mem → Prop) : Nat → Int32 → Int32 → pw_Mem → Prop
  | 0, _, _, _ => False
  | n + 1, l1, l2, σ => ((8 ≤ l2 → KX l1 l2 σ) ∧ (¬ 8 ≤ l2 → ∃ n10, R_X11_layGoals_L44 K (fun y6 y7 y8 τ9 => R_X11_layGoals_L36 K KX n y6 (y7 + 1) τ9) n10 l1 l2 0 σ))
def R_X11_layGoals_L28 (K : pw_Mem → Prop) (KX : Int32 → pw_Mem → Prop) : Nat → Int32 → pw_Mem → Prop
  | 0, _, _ => False
  | n + 1, l1, σ => ((8 ≤ l1 → KX l1 σ) ∧ (¬ 8 ≤ l1 → ∃ n14, R_X11_layGoals_L36 K (fun y11 y12 τ13 => R_X11_layGoals_L28 K KX n (y11 + 1) τ13) n14 l1 0 σ))
def R_X11_layGoals  (σ : pw_Mem) (K : pw_Mem → Prop) : Prop := ∃ n18, R_X11_layGoals_L2 K (fun y2 τ3 => ∃ n17, R_X11_layGoals_L28 K (fun y15 τ16 => K τ16) n17 0 τ3) n18 0 σ
set_option maxHeartbeats 4000000 in
theorem t_X11_layGoals_L2 {L : pw_Lay} {d : Nat} {K : pw_Mem → Prop} {KX : Int32 → pw_Mem → Prop} : ∀ (n : Nat) (l1 : Int32) (σ : pw_Mem), R_X11_layGoals_L2 K KX n l1 σ → (∀ (l1 : Int32) (τ : pw_Mem), KX l1 τ → PW L (d + 0) m_X11_layGoals (kv K) 26 [some (.ref 49), some (.int l1), none, none] [] τ) → PW L (d + 0) m_X11_layGoals (kv K) 2 [some (.ref 49), some (.int l1), none, none] [] σ := by
  intro n
  induction n with
  | zero => intro l1 _ h _; exact h.elim
  | succ n ih =>
    intro l1 σ h hX
    unfold R_X11_layGoals_L2 at h
    refine pw_iload_n (i := 1) dX11_layGoals_2 rfl rfl ?_
    refine pw_bipush (v := 8) dX11_layGoals_3 kb_8 ?_
    refine pw_icmp_ge (tgt := 26) dX11_layGoals_5 rfl (fun q => ?_) (fun q => ?_)
    · have h := h.1 q
      exact hX _ _ h
    · have h := h.2 q
      refine pw_aload_n (i := 0) dX11_layGoals_8 rfl rfl ?_
      refine pw_getR dX11_layGoals_9 fl_X11_31 rfl rfl ?_
      refine pw_iload_n (i := 1) dX11_layGoals_12 rfl rfl ?_
      refine pw_aload_n (i := 0) dX11_layGoals_13 rfl rfl ?_
      refine pw_getR dX11_layGoals_14 fl_X11_25 rfl rfl ?_
      refine pw_iload_n (i := 1) dX11_layGoals_17 rfl rfl ?_
      obtain ⟨hb, h⟩ := h
      refine pw_iald dX11_layGoals_18 rfl hb ?_
      obtain ⟨hb, h⟩ := h
      refine pw_iast dX11_layGoals_19 rfl hb ?_
      generalize hτ1 : pw_up σ 57 (Int32.toNatClampNeg l1) (σ 55 (Int32.toNatClampNeg l1)) = τ1
      have h := h τ1 hτ1.symm
      refine pw_iinc (i := 1) (v := l1 + 1) (ls' := [some (.ref 49), some (.int (l1 + 1)), none, none]) dX11_layGoals_20 rfl (by rw [kc_1]) (Nat.le_of_ble_eq_true rfl) rfl ?_
      refine pw_goto (tgt := 2) dX11_layGoals_23 rfl ?_
      exact ih _ _ h hX
set_option maxHeartbeats 4000000 in
theorem t_X11_layGoals_L44 {L : pw_Lay} {d : Nat} {K : pw_Mem → Prop} {KX : Int32 → Int32 → Int32 → pw_Mem → Prop} : ∀ (n : Nat) (l1 : Int32) (l2 : Int32) (l3 : Int32) (σ : pw_Mem), R_X11_layGoals_L44 K KX n l1 l2 l3 σ → (∀ (l1 : Int32) (l2 : Int32) (l3 : Int32) (τ : pw_Mem), KX l1 l2 l3 τ → PW L (d + 0) m_X11_layGoals (kv K) 89 [some (.ref 49), some (.int l1), some (.int l2), some (.int l3)] [] τ) → PW L (d + 0) m_X11_layGoals (kv K) 44 [some (.ref 49), some (.int l1), some (.int l2), some (.int l3)] [] σ := by
  intro n
  induction n with
  | zero => intro l1 l2 l3 _ h _; exact h.elim
  | succ n ih =>
    intro l1 l2 l3 σ h hX
    unfold R_X11_layGoals_L44 at h
    refine pw_iload_n (i := 3) dX11_layGoals_44 rfl rfl ?_
    refine pw_bipush (v := 8) dX11_layGoals_45 kb_8 ?_
    refine pw_icmp_ge (tgt := 89) dX11_layGoals_47 rfl (fun q => ?_) (fun q => ?_)
    · have h := h.1 q
      exact hX _ _ _ _ h
    · have h := h.2 q
      refine pw_aload_n (i := 0) dX11_layGoals_50 rfl rfl ?_
      refine pw_getR dX11_layGoals_51 fl_X11_31 rfl rfl ?_
      refine pw_iload_n (i := 2) dX11_layGoals_54 rfl rfl ?_
      refine pw_dup2 dX11_layGoals_55 rfl rfl ?_
      obtain ⟨hb, h⟩ := h
      refine pw_iald dX11_layGoals_56 rfl hb ?_
      refine pw_aload_n (i := 0) dX11_layGoals_57 rfl rfl ?_
      refine pw_getR dX11_layGoals_58 fl_X11_28 rfl rfl ?_
      refine pw_iload_n (i := 2) dX11_layGoals_61 rfl rfl ?_
      obtain ⟨hb, h⟩ := h
      refine pw_iald dX11_layGoals_62 rfl hb ?_
      refine pw_iload_n (i := 3) dX11_layGoals_63 rfl rfl ?_
      refine pw_ishr dX11_layGoals_64 ?_
      refine pw_iconst (v := 1) dX11_layGoals_65 kc_1 ?_
      refine pw_iand dX11_layGoals_66 ?_
      refine pw_iconst (v := 1) dX11_layGoals_67 kc_1 ?_
      refine pw_icmp_ne (tgt := 80) dX11_layGoals_68 rfl (fun q => ?_) (fun q => ?_)
      · have h := h.1 q
        refine pw_iconst (v := 0) dX11_layGoals_80 kc_0 ?_
        refine pw_ior dX11_layGoals_81 ?_
        obtain ⟨hb, h⟩ := h
        refine pw_iast dX11_layGoals_82 rfl hb ?_
        generalize hτ4 : pw_up σ 57 (Int32.toNatClampNeg l2) ((σ 57 (Int32.toNatClampNeg l2)) ||| 0) = τ4
        have h := h τ4 hτ4.symm
        refine pw_iinc (i := 3) (v := l3 + 1) (ls' := [some (.ref 49), some (.int l1), some (.int l2), some (.int (l3 + 1))]) dX11_layGoals_83 rfl (by rw [kc_1]) (Nat.le_of_ble_eq_true rfl) rfl ?_
        refine pw_goto (tgt := 44) dX11_layGoals_86 rfl ?_
        exact ih _ _ _ _ h hX
      · have h := h.2 q
        refine pw_aload_n (i := 0) dX11_layGoals_71 rfl rfl ?_
        refine pw_getR dX11_layGoals_72 fl_X11_31 rfl rfl ?_
        refine pw_iload_n (i := 3) dX11_layGoals_75 rfl rfl ?_
        obtain ⟨hb, h⟩ := h
        refine pw_iald dX11_layGoals_76 rfl hb ?_
        refine pw_goto (tgt := 81) dX11_layGoals_77 rfl ?_
        refine pw_ior dX11_layGoals_81 ?_
        obtain ⟨hb, h⟩ := h
        refine pw_iast dX11_layGoals_82 rfl hb ?_
        generalize hτ5 : pw_up σ 57 (Int32.toNatClampNeg l2) ((σ 57 (Int32.toNatClampNeg l2)) ||| (σ 57 (Int32.toNatClampNeg l3))) = τ5
        have h := h τ5 hτ5.symm
        refine pw_iinc (i := 3) (v := l3 + 1) (ls' := [some (.ref 49), some (.int l1), some (.int l2), some (.int (l3 + 1))]) dX11_layGoals_83 rfl (by rw [kc_1]) (Nat.le_of_ble_eq_true rfl) rfl ?_
        refine pw_goto (tgt := 44) dX11_layGoals_86 rfl ?_
        exact ih _ _ _ _ h hX
set_option maxHeartbeats 4000000 in
theorem t_X11_layGoals_L36 {L : pw_Lay} {d : Nat} {K : pw_Mem → Prop} {KX : Int32 → Int32 → pw_Mem → Prop} : ∀ (n : Nat) (l1 : Int32) (l2 : Int32) (σ : pw_Mem), R_X11_layGoals_L36 K KX n l1 l2 σ → (∀ (l1 : Int32) (l2 : Int32) (τ : pw_Mem), KX l1 l2 τ → PW L (d + 0) m_X11_layGoals (kv K) 95 [some (.ref 49), some (.int l1), some (.int l2), none] [] τ) → PW L (d + 0) m_X11_layGoals (kv K) 36 [some (.ref 49), some (.int l1), some (.int l2), none] [] σ := by
  intro n
  induction n with
  | zero => intro l1 l2 _ h _; exact h.elim
  | succ n ih =>
    intro l1 l2 σ h hX
    unfold R_X11_layGoals_L36 at h
    refine pw_iload_n (i := 2) dX11_layGoals_36 rfl rfl ?_
    refine pw_bipush (v := 8) dX11_layGoals_37 kb_8 ?_
    refine pw_icmp_ge (tgt := 95) dX11_layGoals_39 rfl (fun q => ?_) (fun q => ?_)
    · have h := h.1 q
      exact hX _ _ _ h
    · have h := h.2 q
      refine pw_iconst (v := 0) dX11_layGoals_42 kc_0 ?_
      refine pw_istore_n (i := 3) (ls' := [some (.ref 49), some (.int l1), some (.int l2), some (.int 0)]) dX11_layGoals_43 rfl (Nat.le_of_ble_eq_true rfl) rfl ?_
      obtain ⟨n10, h⟩ := h
      refine t_X11_layGoals_L44 _ _ _ _ _ h (fun y6 y7 y8 τ9 h => ?_)
      refine pw_iinc (i := 2) (v := y7 + 1) (ls' := [some (.ref 49), some (.int y6), some (.int (y7 + 1)), some (.int y8)]) dX11_layGoals_89 rfl (by rw [kc_1]) (Nat.le_of_ble_eq_true rfl) rfl ?_
      refine pw_goto (tgt := 36) dX11_layGoals_92 rfl ?_
      refine pw_forget (ls' := [some (.ref 49), some (.int y6), some (.int (y7 + 1)), none]) (And.intro rfl (And.intro rfl (And.intro rfl trivial))) ?_
      exact ih _ _ _ h hX
set_option maxHeartbeats 4000000 in
theorem t_X11_layGoals_L28 {L : pw_Lay} {d : Nat} {K : pw_Mem → Prop} {KX : Int32 → pw_Mem → Prop} : ∀ (n : Nat) (l1 : Int32) (σ : pw_Mem), R_X11_layGoals_L28 K KX n l1 σ → (∀ (l1 : Int32) (τ : pw_Mem), KX l1 τ → PW L (d + 0) m_X11_layGoals (kv K) 101 [some (.ref 49), some (.int l1), none, none] [] τ) → PW L (d + 0) m_X11_layGoals (kv K) 28 [some (.ref 49), some (.int l1), none, none] [] σ := by
  intro n
  induction n with
  | zero => intro l1 _ h _; exact h.elim
  | succ n ih =>
    intro l1 σ h hX
    unfold R_X11_layGoals_L28 at h
    refine pw_iload_n (i := 1) dX11_layGoals_28 rfl rfl ?_
    refine pw_bipush (v := 8) dX11_layGoals_29 kb_8 ?_
    refine pw_icmp_ge (tgt := 101) dX11_layGoals_31 rfl (fun q => ?_) (fun q => ?_)
    · have h := h.1 q
      exact hX _ _ h
    · have h := h.2 q
      refine pw_iconst (v := 0) dX11_layGoals_34 kc_0 ?_
      refine pw_istore_n (i := 2) (ls' := [some (.ref 49), some (.int l1), some (.int 0), none]) dX11_layGoals_35 rfl (Nat.le_of_ble_eq_true rfl) rfl ?_
      obtain ⟨n14, h⟩ := h
      refine t_X11_layGoals_L36 _ _ _ _ h (fun y11 y12 τ13 h => ?_)
      refine pw_iinc (i := 1) (v := y11 + 1) (ls' := [some (.ref 49), some (.int (y11 + 1)), some (.int y12), none]) dX11_layGoals_95 rfl (by rw [kc_1]) (Nat.le_of_ble_eq_true rfl) rfl ?_
      refine pw_goto (tgt := 28) dX11_layGoals_98 rfl ?_
      refine pw_forget (ls' := [some (.ref 49), some (.int (y11 + 1)), none, none]) (And.intro rfl (And.intro rfl trivial)) ?_
      exact ih _ _ h hX
set_option maxHeartbeats 4000000 in
theorem c_X11_layGoals {L : pw_Lay} {d : Nat}  {σ : pw_Mem} {K : pw_Mem → Prop} (h : R_X11_layGoals  σ K) : CT L (d + 0) m_X11_layGoals [.ref 49] σ (kv K) := by
  refine pw_enter (by decide) rfl (Nat.le_of_ble_eq_true rfl) (ls := [some (.ref 49), none, none, none]) rfl ?_
  unfold R_X11_layGoals at h
  refine pw_iconst (v := 0) dX11_layGoals_0 kc_0 ?_
  refine pw_istore_n (i := 1) (ls' := [some (.ref 49), some (.int 0), none, none]) dX11_layGoals_1 rfl (Nat.le_of_ble_eq_true rfl) rfl ?_
  obtain ⟨n18, h⟩ := h
  refine t_X11_layGoals_L2 _ _ _ h (fun y2 τ3 h => ?_)
  refine pw_iconst (v := 0) dX11_layGoals_26 kc_0 ?_
  refine pw_istore_n (i := 1) (ls' := [some (.ref 49), some (.int 0), none, none]) dX11_layGoals_27 rfl (Nat.le_of_ble_eq_true rfl) rfl ?_
  obtain ⟨n17, h⟩ := h
  refine t_X11_layGoals_L28 _ _ _ h (fun y15 τ16 h => ?_)
  exact pw_vret dX11_layGoals_101 rfl ⟨rfl, h⟩
/-! X11_goals -/
def R_X11_goals (a1 : Int32) (σ : pw_Mem) (K : Int32 → pw_Mem → Prop) : Prop := R_X11_isPointer a1 σ (fun x2 τ1 => ((¬ x2 = 0 → R_X11_layGoals  τ1 (fun τ3 => vp_in a1 8 ∧ K (τ3 57 (Int32.toNatClampNeg a1)) τ3)) ∧ (x2 = 0 → K (-1) τ1)))
set_option maxHeartbeats 4000000 in
theorem c_X11_goals {L : pw_Lay} {d : Nat} {a1 : Int32} {σ : pw_Mem} {K : Int32 → pw_Mem → Prop} (h : R_X11_goals a1 σ K) : CT L (d + 2) m_X11_goals [.ref 49, .int a1] σ (ki K) := by
  refine pw_enter (by decide) rfl (Nat.le_of_ble_eq_true rfl) (ls := [some (.ref 49), some (.int a1)]) rfl ?_
  unfold R_X11_goals at h
  refine pw_iload_n (i := 1) dX11_goals_0 rfl rfl ?_
  refine pw_cSi [.int a1] dX11_goals_1 ms_X11_114 rfl rfl (Nat.le_of_ble_eq_true rfl) (c_X11_isPointer h) (fun x2 τ1 h => ?_)
  refine pw_if_ne (tgt := 9) dX11_goals_4 rfl (fun q => ?_) (fun q => ?_)
  · have h := h.1 q
    refine pw_aload_n (i := 0) dX11_goals_9 rfl rfl ?_
    refine pw_cVv [] dX11_goals_10 mv_X11_128 rfl rfl rfl (Nat.le_of_ble_eq_true rfl) (c_X11_layGoals h) (fun τ3 h => ?_)
    refine pw_aload_n (i := 0) dX11_goals_13 rfl rfl ?_
    refine pw_getR dX11_goals_14 fl_X11_31 rfl rfl ?_
    refine pw_iload_n (i := 1) dX11_goals_17 rfl rfl ?_
    obtain ⟨hb, h⟩ := h
    refine pw_iald dX11_goals_18 rfl hb ?_
    exact pw_ret dX11_goals_19 rfl rfl ⟨_, rfl, h⟩
  · have h := h.2 q
    refine pw_iconst (v := (-1)) dX11_goals_7 kc_m1 ?_
    exact pw_ret dX11_goals_8 rfl rfl ⟨_, rfl, h⟩
/-! X11_layNet -/
def R_X11_layNet_L6 (K : pw_Mem → Prop) (KX : Int32 → pw_Mem → Prop) : Nat → Int32 → pw_Mem → Prop
  | 0, _, _ => False
  | n + 1, l1, σ => ((20 ≤ l1 → KX l1 σ) ∧ (¬ 20 ≤ l1 → vp_in l1 20 ∧ ∀ τ2, τ2 = pw_up σ 58 (Int32.toNatClampNeg l1) 0 → vp_in l1 20 ∧ ∀ τ3, τ3 = pw_up τ2 59 (Int32.toNatClampNeg l1) 0 → R_X11_layNet_L6 K KX n (l1 + 1) τ3))
def R_X11_layNet_L34 (K : pw_Mem → Prop) (KX : Int32 → pw_Mem → Prop) : Nat → Int32 → pw_Mem → Prop
  | 0, _, _ => False
  | n + 1, l1, σ => (((σ 49 3) ≤ l1 → KX l1 σ) ∧ (¬ (σ 49 3) ≤ l1 → vp_in l1 60 ∧ (((σ 54 (Int32.toNatClampNeg l1)) ≤ 1 → vp_in l1 60 ∧ vp_in l1 60 ∧ ((¬ ((σ 54 (Int32.toNatClampNeg l1)) - (σ 54 (Int32.toNatClampNeg l1)) / 2 * 2) = 0 → vp_in l1 60 ∧ vp_in (σ 52 (Int32.toNatClampNeg l1)) 20 ∧ vp_in (σ 52 (Int32.toNatClampNeg l1)) 20 ∧ ∀ τ6, τ6 = pw_up σ 59 (Int32.toNatClampNeg (σ 52 (Int32.toNatClampNeg l1))) ((σ 59 (Int32.toNatClampNeg (σ 52 (Int32.toNatClampNeg l1)))) ||| (1 <<< ((σ 53 (Int32.toNatClampNeg l1)) &&& 31))) → R_X11_layNet_L34 K KX n (l1 + 1) τ6) ∧ (((σ 54 (Int32.toNatClampNeg l1)) - (σ 54 (Int32.toNatClampNeg l1)) / 2 * 2) = 0 → vp_in l1 60 ∧ vp_in (σ 52 (Int32.toNatClampNeg l1)) 20 ∧ vp_in (σ 52 (Int32.toNatClampNeg l1)) 20 ∧ ∀ τ7, τ7 = pw_up σ 58 (Int32.toNatClampNeg (σ 52 (Int32.toNatClampNeg l1))) ((σ 58 (Int32.toNatClampNeg (σ 52 (Int32.toNatClampNeg l1)))) ||| (1 <<< ((σ 53 (Int32.toNatClampNeg l1)) &&& 31))) → R_X11_layNet_L34 K KX n (l1 + 1) τ7))) ∧ (¬ (σ 54 (Int32.toNatClampNeg l1)) ≤ 1 → vp_in l1 60 ∧ vp_in (σ 53 (Int32.toNatClampNeg l1)) 8 ∧ vp_in l1 60 ∧ ((¬ ((σ 54 (Int32.toNatClampNeg l1)) - (σ 54 (Int32.toNatClampNeg l1)) / 2 * 2) = 0 → vp_in l1 60 ∧ vp_in (σ 52 (Int32.toNatClampNeg l1)) 20 ∧ vp_in (σ 52 (Int32.toNatClampNeg l1)) 20 ∧ ∀ τ8, τ8 = pw_up σ 59 (Int32.toNatClampNeg (σ 52 (Int32.toNatClampNeg l1))) ((σ 59 (Int32.toNatClampNeg (σ 52 (Int32.toNatClampNeg l1)))) ||| (σ 57 (Int32.toNatClampNeg (σ 53 (Int32.toNatClampNeg l1))))) → R_X11_layNet_L34 K KX n (l1 + 1) τ8) ∧ (((σ 54 (Int32.toNatClampNeg l1)) - (σ 54 (Int32.toNatClampNeg l1)) / 2 * 2) = 0 → vp_in l1 60 ∧ vp_in (σ 52 (Int32.toNatClampNeg l1)) 20 ∧ vp_in (σ 52 (Int32.toNatClampNeg l1)) 20 ∧ ∀ τ9, τ9 = pw_up σ 58 (Int32.toNatClampNeg (σ 52 (Int32.toNatClampNeg l1))) ((σ 58 (Int32.toNatClampNeg (σ 52 (Int32.toNatClampNeg l1)))) ||| (σ 57 (Int32.toNatClampNeg (σ 53 (Int32.toNatClampNeg l1))))) → R_X11_layNet_L34 K KX n (l1 + 1) τ9))))))
def R_X11_layNet_L127 (K : pw_Mem → Prop) (KX : Int32 → pw_Mem → Prop) : Nat → Int32 → pw_Mem → Prop
  | 0, _, _ => False
  | n + 1, l1, σ => (((σ 49 0) ≤ l1 → KX l1 σ) ∧ (¬ (σ 49 0) ≤ l1 → vp_in l1 20 ∧ vp_in l1 20 ∧ vp_in l1 20 ∧ ∀ τ12, τ12 = pw_up σ 60 (Int32.toNatClampNeg l1) ((σ 58 (Int32.toNatClampNeg l1)) ||| (σ 59 (Int32.toNatClampNeg l1))) → R_X11_layNet_L127 K KX n (l1 + 1) τ12))
def R_X11_layNet_L172 (K : pw_Mem → Prop) (KX : Int32 → Int32 → pw_Mem → Prop) : Nat → Int32 → Int32 → pw_Mem → Prop
  | 0, _, _, _ => False
  | n + 1, l1, l2, σ => (((σ 49 0) ≤ l2 → KX l1 l2 σ) ∧ (¬ (σ 49 0) ≤ l2 → vp_in l2 20 ∧ vp_in l2 20 ∧ ((¬ (((σ 60 (Int32.toNatClampNeg l2)) >>> (l1 &&& 31)) &&& 1) = 1 → vp_in l2 20 ∧ ∀ τ15, τ15 = pw_up σ 60 (Int32.toNatClampNeg l2) ((σ 60 (Int32.toNatClampNeg l2)) ||| 0) → R_X11_layNet_L172 K KX n l1 (l2 + 1) τ15) ∧ ((((σ 60 (Int32.toNatClampNeg l2)) >>> (l1 &&& 31)) &&& 1) = 1 → vp_in l1 20 ∧ vp_in l2 20 ∧ ∀ τ16, τ16 = pw_up σ 60 (Int32.toNatClampNeg l2) ((σ 60 (Int32.toNatClampNeg l2)) ||| (σ 60 (Int32.toNatClampNeg l1))) → R_X11_layNet_L172 K KX n l1 (l2 + 1) τ16))))
def R_X11_layNet_L162 (K : pw_Mem → Prop) (KX : Int32 → pw_Mem → Prop) : Nat → Int32 → pw_Mem → Prop
  | 0, _, _ => False
  | n + 1, l1, σ => (((σ 49 0) ≤ l1 → KX l1 σ) ∧ (¬ (σ 49 0) ≤ l1 → ∃ n20, R_X11_layNet_L172 K (fun y17 y18 τ19 => R_X11_layNet_L162 K KX n (y17 + 1) τ19) n20 l1 0 σ))
def R_X11_layNet_L246 (K : pw_Mem → Prop) (KX : Int32 → Int32 → pw_Mem → Prop) : Nat → Int32 → Int32 → pw_Mem → Prop
  | 0, _, _, _ => False
  | n + 1, l1, l2, σ => (((σ 49 0) ≤ l2 → KX l1 l2 σ) ∧ (¬ (σ 49 0) ≤ l2 → vp_in l1 20 ∧ vp_in l1 20 ∧ ((¬ (((σ 60 (Int32.toNatClampNeg l1)) >>> (l2 &&& 31)) &&& 1) = 1 → vp_in l1 20 ∧ ∀ τ24, τ24 = pw_up σ 61 (Int32.toNatClampNeg l1) ((σ 61 (Int32.toNatClampNeg l1)) ||| 0) → R_X11_layNet_L246 K KX n l1 (l2 + 1) τ24) ∧ ((((σ 60 (Int32.toNatClampNeg l1)) >>> (l2 &&& 31)) &&& 1) = 1 → vp_in l2 20 ∧ ((¬ (((σ 60 (Int32.toNatClampNeg l2)) >>> (l1 &&& 31)) &&& 1) = 1 → vp_in l1 20 ∧ ∀ τ25, τ25 = pw_up σ 61 (Int32.toNatClampNeg l1) ((σ 61 (Int32.toNatClampNeg l1)) ||| 0) → R_X11_layNet_L246 K KX n l1 (l2 + 1) τ25) ∧ ((((σ 60 (Int32.toNatClampNeg l2)) >>> (l1 &&& 31)) &&& 1) = 1 → vp_in l1 20 ∧ ∀ τ26, τ26 = pw_up σ 61 (Int32.toNatClampNeg l1) ((σ 61 (Int32.toNatClampNeg l1)) ||| (1 <<< (l2 &&& 31))) → R_X11_layNet_L246 K KX n l1 (l2 + 1) τ26))))))
def R_X11_layNet_L227 (K : pw_Mem → Prop) (KX : Int32 → pw_Mem → Prop) : Nat → Int32 → pw_Mem → Prop
  | 0, _, _ => False
  | n + 1, l1, σ => (((σ 49 0) ≤ l1 → KX l1 σ) ∧ (¬ (σ 49 0) ≤ l1 → vp_in l1 20 ∧ ∀ τ23, τ23 = pw_up σ 61 (Int32.toNatClampNeg l1) (1 <<< (l1 &&& 31)) → ∃ n30, R_X11_layNet_L246 K (fun y27 y28 τ29 => R_X11_layNet_L227 K KX n (y27 + 1) τ29) n30 l1 0 τ23))
def R_X11_layNet  (σ : pw_Mem) (K : pw_Mem → Prop) : Prop := R_X11_layGoals  σ (fun τ1 => ∃ n37, R_X11_layNet_L6 K (fun y4 τ5 => ∃ n36, R_X11_layNet_L34 K (fun y10 τ11 => ∃ n35, R_X11_layNet_L127 K (fun y13 τ14 => ∃ n34, R_X11_layNet_L162 K (fun y21 τ22 => ∃ n33, R_X11_layNet_L227 K (fun y31 τ32 => K τ32) n33 0 τ22) n34 0 τ14) n35 0 τ11) n36 0 τ5) n37 0 τ1)
set_option maxHeartbeats 4000000 in
theorem t_X11_layNet_L6 {L : pw_Lay} {d : Nat} {K : pw_Mem → Prop} {KX : Int32 → pw_Mem → Prop} : ∀ (n : Nat) (l1 : Int32) (σ : pw_Mem), R_X11_layNet_L6 K KX n l1 σ → (∀ (l1 : Int32) (τ : pw_Mem), KX l1 τ → PW L (d + 1) m_X11_layNet (kv K) 32 [some (.ref 49), some (.int l1), none] [] τ) → PW L (d + 1) m_X11_layNet (kv K) 6 [some (.ref 49), some (.int l1), none] [] σ := by
  intro n
  induction n with
  | zero => intro l1 _ h _; exact h.elim
  | succ n ih =>
    intro l1 σ h hX
    unfold R_X11_layNet_L6 at h
    refine pw_iload_n (i := 1) dX11_layNet_6 rfl rfl ?_
    refine pw_bipush (v := 20) dX11_layNet_7 kb_20 ?_
    refine pw_icmp_ge (tgt := 32) dX11_layNet_9 rfl (fun q => ?_) (fun q => ?_)
    · have h := h.1 q
      exact hX _ _ h
    · have h := h.2 q
      refine pw_aload_n (i := 0) dX11_layNet_12 rfl rfl ?_
      refine pw_getR dX11_layNet_13 fl_X11_34 rfl rfl ?_
      refine pw_iload_n (i := 1) dX11_layNet_16 rfl rfl ?_
      refine pw_iconst (v := 0) dX11_layNet_17 kc_0 ?_
      obtain ⟨hb, h⟩ := h
      refine pw_iast dX11_layNet_18 rfl hb ?_
      generalize hτ2 : pw_up σ 58 (Int32.toNatClampNeg l1) 0 = τ2
      have h := h τ2 hτ2.symm
      refine pw_aload_n (i := 0) dX11_layNet_19 rfl rfl ?_
      refine pw_getR dX11_layNet_20 fl_X11_37 rfl rfl ?_
      refine pw_iload_n (i := 1) dX11_layNet_23 rfl rfl ?_
      refine pw_iconst (v := 0) dX11_layNet_24 kc_0 ?_
      obtain ⟨hb, h⟩ := h
      refine pw_iast dX11_layNet_25 rfl hb ?_
      generalize hτ3 : pw_up τ2 59 (Int32.toNatClampNeg l1) 0 = τ3
      have h := h τ3 hτ3.symm
      refine pw_iinc (i := 1) (v := l1 + 1) (ls' := [some (.ref 49), some (.int (l1 + 1)), none]) dX11_layNet_26 rfl (by rw [kc_1]) (Nat.le_of_ble_eq_true rfl) rfl ?_
      refine pw_goto (tgt := 6) dX11_layNet_29 rfl ?_
      exact ih _ _ h hX
set_option maxHeartbeats 4000000 in
theorem t_X11_layNet_L34 {L : pw_Lay} {d : Nat} {K : pw_Mem → Prop} {KX : Int32 → pw_Mem → Prop} : ∀ (n : Nat) (l1 : Int32) (σ : pw_Mem), R_X11_layNet_L34 K KX n l1 σ → (∀ (l1 : Int32) (τ : pw_Mem), KX l1 τ → PW L (d + 1) m_X11_layNet (kv K) 125 [some (.ref 49), some (.int l1), none] [] τ) → PW L (d + 1) m_X11_layNet (kv K) 34 [some (.ref 49), some (.int l1), none] [] σ := by
  intro n
  induction n with
  | zero => intro l1 _ h _; exact h.elim
  | succ n ih =>
    intro l1 σ h hX
    unfold R_X11_layNet_L34 at h
    refine pw_iload_n (i := 1) dX11_layNet_34 rfl rfl ?_
    refine pw_aload_n (i := 0) dX11_layNet_35 rfl rfl ?_
    refine pw_getI dX11_layNet_36 fl_X11_109 rfl rfl ?_
    refine pw_icmp_ge (tgt := 125) dX11_layNet_39 rfl (fun q => ?_) (fun q => ?_)
    · have h := h.1 q
      exact hX _ _ h
    · have h := h.2 q
      refine pw_aload_n (i := 0) dX11_layNet_42 rfl rfl ?_
      refine pw_getR dX11_layNet_43 fl_X11_22 rfl rfl ?_
      refine pw_iload_n (i := 1) dX11_layNet_46 rfl rfl ?_
      obtain ⟨hb, h⟩ := h
      refine pw_iald dX11_layNet_47 rfl hb ?_
      refine pw_iconst (v := 1) dX11_layNet_48 kc_1 ?_
      refine pw_icmp_le (tgt := 66) dX11_layNet_49 rfl (fun q => ?_) (fun q => ?_)
      · have h := h.1 q
        refine pw_iconst (v := 1) dX11_layNet_66 kc_1 ?_
        refine pw_aload_n (i := 0) dX11_layNet_67 rfl rfl ?_
        refine pw_getR dX11_layNet_68 fl_X11_19 rfl rfl ?_
        refine pw_iload_n (i := 1) dX11_layNet_71 rfl rfl ?_
        obtain ⟨hb, h⟩ := h
        refine pw_iald dX11_layNet_72 rfl hb ?_
        refine pw_ishl dX11_layNet_73 ?_
        refine pw_istore_n (i := 2) (ls' := [some (.ref 49), some (.int l1), some (.int (1 <<< ((σ 53 (Int32.toNatClampNeg l1)) &&& 31)))]) dX11_layNet_74 rfl (Nat.le_of_ble_eq_true rfl) rfl ?_
        refine pw_aload_n (i := 0) dX11_layNet_75 rfl rfl ?_
        refine pw_getR dX11_layNet_76 fl_X11_22 rfl rfl ?_
        refine pw_iload_n (i := 1) dX11_layNet_79 rfl rfl ?_
        obtain ⟨hb, h⟩ := h
        refine pw_iald dX11_layNet_80 rfl hb ?_
        refine pw_iconst (v := 2) dX11_layNet_81 kc_2 ?_
        refine pw_irem dX11_layNet_82 (by decide) ?_
        refine pw_if_ne (tgt := 104) dX11_layNet_83 rfl (fun q => ?_) (fun q => ?_)
        · have h := h.1 q
          refine pw_aload_n (i := 0) dX11_layNet_104 rfl rfl ?_
          refine pw_getR dX11_layNet_105 fl_X11_37 rfl rfl ?_
          refine pw_aload_n (i := 0) dX11_layNet_108 rfl rfl ?_
          refine pw_getR dX11_layNet_109 fl_X11_16 rfl rfl ?_
          refine pw_iload_n (i := 1) dX11_layNet_112 rfl rfl ?_
          obtain ⟨hb, h⟩ := h
          refine pw_iald dX11_layNet_113 rfl hb ?_
          refine pw_dup2 dX11_layNet_114 rfl rfl ?_
          obtain ⟨hb, h⟩ := h
          refine pw_iald dX11_layNet_115 rfl hb ?_
          refine pw_iload_n (i := 2) dX11_layNet_116 rfl rfl ?_
          refine pw_ior dX11_layNet_117 ?_
          obtain ⟨hb, h⟩ := h
          refine pw_iast dX11_layNet_118 rfl hb ?_
          generalize hτ6 : pw_up σ 59 (Int32.toNatClampNeg (σ 52 (Int32.toNatClampNeg l1))) ((σ 59 (Int32.toNatClampNeg (σ 52 (Int32.toNatClampNeg l1)))) ||| (1 <<< ((σ 53 (Int32.toNatClampNeg l1)) &&& 31))) = τ6
          have h := h τ6 hτ6.symm
          refine pw_iinc (i := 1) (v := l1 + 1) (ls' := [some (.ref 49), some (.int (l1 + 1)), some (.int (1 <<< ((σ 53 (Int32.toNatClampNeg l1)) &&& 31)))]) dX11_layNet_119 rfl (by rw [kc_1]) (Nat.le_of_ble_eq_true rfl) rfl ?_
          refine pw_goto (tgt := 34) dX11_layNet_122 rfl ?_
          refine pw_forget (ls' := [some (.ref 49), some (.int (l1 + 1)), none]) (And.intro rfl (And.intro rfl trivial)) ?_
          exact ih _ _ h hX
        · have h := h.2 q
          refine pw_aload_n (i := 0) dX11_layNet_86 rfl rfl ?_
          refine pw_getR dX11_layNet_87 fl_X11_34 rfl rfl ?_
          refine pw_aload_n (i := 0) dX11_layNet_90 rfl rfl ?_
          refine pw_getR dX11_layNet_91 fl_X11_16 rfl rfl ?_
          refine pw_iload_n (i := 1) dX11_layNet_94 rfl rfl ?_
          obtain ⟨hb, h⟩ := h
          refine pw_iald dX11_layNet_95 rfl hb ?_
          refine pw_dup2 dX11_layNet_96 rfl rfl ?_
          obtain ⟨hb, h⟩ := h
          refine pw_iald dX11_layNet_97 rfl hb ?_
          refine pw_iload_n (i := 2) dX11_layNet_98 rfl rfl ?_
          refine pw_ior dX11_layNet_99 ?_
          obtain ⟨hb, h⟩ := h
          refine pw_iast dX11_layNet_100 rfl hb ?_
          generalize hτ7 : pw_up σ 58 (Int32.toNatClampNeg (σ 52 (Int32.toNatClampNeg l1))) ((σ 58 (Int32.toNatClampNeg (σ 52 (Int32.toNatClampNeg l1)))) ||| (1 <<< ((σ 53 (Int32.toNatClampNeg l1)) &&& 31))) = τ7
          have h := h τ7 hτ7.symm
          refine pw_goto (tgt := 119) dX11_layNet_101 rfl ?_
          refine pw_iinc (i := 1) (v := l1 + 1) (ls' := [some (.ref 49), some (.int (l1 + 1)), some (.int (1 <<< ((σ 53 (Int32.toNatClampNeg l1)) &&& 31)))]) dX11_layNet_119 rfl (by rw [kc_1]) (Nat.le_of_ble_eq_true rfl) rfl ?_
          refine pw_goto (tgt := 34) dX11_layNet_122 rfl ?_
          refine pw_forget (ls' := [some (.ref 49), some (.int (l1 + 1)), none]) (And.intro rfl (And.intro rfl trivial)) ?_
          exact ih _ _ h hX
      · have h := h.2 q
        refine pw_aload_n (i := 0) dX11_layNet_52 rfl rfl ?_
        refine pw_getR dX11_layNet_53 fl_X11_31 rfl rfl ?_
        refine pw_aload_n (i := 0) dX11_layNet_56 rfl rfl ?_
        refine pw_getR dX11_layNet_57 fl_X11_19 rfl rfl ?_
        refine pw_iload_n (i := 1) dX11_layNet_60 rfl rfl ?_
        obtain ⟨hb, h⟩ := h
        refine pw_iald dX11_layNet_61 rfl hb ?_
        obtain ⟨hb, h⟩ := h
        refine pw_iald dX11_layNet_62 rfl hb ?_
        refine pw_goto (tgt := 74) dX11_layNet_63 rfl ?_
        refine pw_istore_n (i := 2) (ls' := [some (.ref 49), some (.int l1), some (.int (σ 57 (Int32.toNatClampNeg (σ 53 (Int32.toNatClampNeg l1)))))]) dX11_layNet_74 rfl (Nat.le_of_ble_eq_true rfl) rfl ?_
        refine pw_aload_n (i := 0) dX11_layNet_75 rfl rfl ?_
        refine pw_getR dX11_layNet_76 fl_X11_22 rfl rfl ?_
        refine pw_iload_n (i := 1) dX11_layNet_79 rfl rfl ?_
        obtain ⟨hb, h⟩ := h
        refine pw_iald dX11_layNet_80 rfl hb ?_
        refine pw_iconst (v := 2) dX11_layNet_81 kc_2 ?_
        refine pw_irem dX11_layNet_82 (by decide) ?_
        refine pw_if_ne (tgt := 104) dX11_layNet_83 rfl (fun q => ?_) (fun q => ?_)
        · have h := h.1 q
          refine pw_aload_n (i := 0) dX11_layNet_104 rfl rfl ?_
          refine pw_getR dX11_layNet_105 fl_X11_37 rfl rfl ?_
          refine pw_aload_n (i := 0) dX11_layNet_108 rfl rfl ?_
          refine pw_getR dX11_layNet_109 fl_X11_16 rfl rfl ?_
          refine pw_iload_n (i := 1) dX11_layNet_112 rfl rfl ?_
          obtain ⟨hb, h⟩ := h
          refine pw_iald dX11_layNet_113 rfl hb ?_
          refine pw_dup2 dX11_layNet_114 rfl rfl ?_
          obtain ⟨hb, h⟩ := h
          refine pw_iald dX11_layNet_115 rfl hb ?_
          refine pw_iload_n (i := 2) dX11_layNet_116 rfl rfl ?_
          refine pw_ior dX11_layNet_117 ?_
          obtain ⟨hb, h⟩ := h
          refine pw_iast dX11_layNet_118 rfl hb ?_
          generalize hτ8 : pw_up σ 59 (Int32.toNatClampNeg (σ 52 (Int32.toNatClampNeg l1))) ((σ 59 (Int32.toNatClampNeg (σ 52 (Int32.toNatClampNeg l1)))) ||| (σ 57 (Int32.toNatClampNeg (σ 53 (Int32.toNatClampNeg l1))))) = τ8
          have h := h τ8 hτ8.symm
          refine pw_iinc (i := 1) (v := l1 + 1) (ls' := [some (.ref 49), some (.int (l1 + 1)), some (.int (σ 57 (Int32.toNatClampNeg (σ 53 (Int32.toNatClampNeg l1)))))]) dX11_layNet_119 rfl (by rw [kc_1]) (Nat.le_of_ble_eq_true rfl) rfl ?_
          refine pw_goto (tgt := 34) dX11_layNet_122 rfl ?_
          refine pw_forget (ls' := [some (.ref 49), some (.int (l1 + 1)), none]) (And.intro rfl (And.intro rfl trivial)) ?_
          exact ih _ _ h hX
        · have h := h.2 q
          refine pw_aload_n (i := 0) dX11_layNet_86 rfl rfl ?_
          refine pw_getR dX11_layNet_87 fl_X11_34 rfl rfl ?_
          refine pw_aload_n (i := 0) dX11_layNet_90 rfl rfl ?_
          refine pw_getR dX11_layNet_91 fl_X11_16 rfl rfl ?_
          refine pw_iload_n (i := 1) dX11_layNet_94 rfl rfl ?_
          obtain ⟨hb, h⟩ := h
          refine pw_iald dX11_layNet_95 rfl hb ?_
          refine pw_dup2 dX11_layNet_96 rfl rfl ?_
          obtain ⟨hb, h⟩ := h
          refine pw_iald dX11_layNet_97 rfl hb ?_
          refine pw_iload_n (i := 2) dX11_layNet_98 rfl rfl ?_
          refine pw_ior dX11_layNet_99 ?_
          obtain ⟨hb, h⟩ := h
          refine pw_iast dX11_layNet_100 rfl hb ?_
          generalize hτ9 : pw_up σ 58 (Int32.toNatClampNeg (σ 52 (Int32.toNatClampNeg l1))) ((σ 58 (Int32.toNatClampNeg (σ 52 (Int32.toNatClampNeg l1)))) ||| (σ 57 (Int32.toNatClampNeg (σ 53 (Int32.toNatClampNeg l1))))) = τ9
          have h := h τ9 hτ9.symm
          refine pw_goto (tgt := 119) dX11_layNet_101 rfl ?_
          refine pw_iinc (i := 1) (v := l1 + 1) (ls' := [some (.ref 49), some (.int (l1 + 1)), some (.int (σ 57 (Int32.toNatClampNeg (σ 53 (Int32.toNatClampNeg l1)))))]) dX11_layNet_119 rfl (by rw [kc_1]) (Nat.le_of_ble_eq_true rfl) rfl ?_
          refine pw_goto (tgt := 34) dX11_layNet_122 rfl ?_
          refine pw_forget (ls' := [some (.ref 49), some (.int (l1 + 1)), none]) (And.intro rfl (And.intro rfl trivial)) ?_
          exact ih _ _ h hX
set_option maxHeartbeats 4000000 in
theorem t_X11_layNet_L127 {L : pw_Lay} {d : Nat} {K : pw_Mem → Prop} {KX : Int32 → pw_Mem → Prop} : ∀ (n : Nat) (l1 : Int32) (σ : pw_Mem), R_X11_layNet_L127 K KX n l1 σ → (∀ (l1 : Int32) (τ : pw_Mem), KX l1 τ → PW L (d + 1) m_X11_layNet (kv K) 160 [some (.ref 49), some (.int l1), none] [] τ) → PW L (d + 1) m_X11_layNet (kv K) 127 [some (.ref 49), some (.int l1), none] [] σ := by
  intro n
  induction n with
  | zero => intro l1 _ h _; exact h.elim
  | succ n ih =>
    intro l1 σ h hX
    unfold R_X11_layNet_L127 at h
    refine pw_iload_n (i := 1) dX11_layNet_127 rfl rfl ?_
    refine pw_aload_n (i := 0) dX11_layNet_128 rfl rfl ?_
    refine pw_getI dX11_layNet_129 fl_X11_91 rfl rfl ?_
    refine pw_icmp_ge (tgt := 160) dX11_layNet_132 rfl (fun q => ?_) (fun q => ?_)
    · have h := h.1 q
      exact hX _ _ h
    · have h := h.2 q
      refine pw_aload_n (i := 0) dX11_layNet_135 rfl rfl ?_
      refine pw_getR dX11_layNet_136 fl_X11_40 rfl rfl ?_
      refine pw_iload_n (i := 1) dX11_layNet_139 rfl rfl ?_
      refine pw_aload_n (i := 0) dX11_layNet_140 rfl rfl ?_
      refine pw_getR dX11_layNet_141 fl_X11_34 rfl rfl ?_
      refine pw_iload_n (i := 1) dX11_layNet_144 rfl rfl ?_
      obtain ⟨hb, h⟩ := h
      refine pw_iald dX11_layNet_145 rfl hb ?_
      refine pw_aload_n (i := 0) dX11_layNet_146 rfl rfl ?_
      refine pw_getR dX11_layNet_147 fl_X11_37 rfl rfl ?_
      refine pw_iload_n (i := 1) dX11_layNet_150 rfl rfl ?_
      obtain ⟨hb, h⟩ := h
      refine pw_iald dX11_layNet_151 rfl hb ?_
      refine pw_ior dX11_layNet_152 ?_
      obtain ⟨hb, h⟩ := h
      refine pw_iast dX11_layNet_153 rfl hb ?_
      generalize hτ12 : pw_up σ 60 (Int32.toNatClampNeg l1) ((σ 58 (Int32.toNatClampNeg l1)) ||| (σ 59 (Int32.toNatClampNeg l1))) = τ12
      have h := h τ12 hτ12.symm
      refine pw_iinc (i := 1) (v := l1 + 1) (ls' := [some (.ref 49), some (.int (l1 + 1)), none]) dX11_layNet_154 rfl (by rw [kc_1]) (Nat.le_of_ble_eq_true rfl) rfl ?_
      refine pw_goto (tgt := 127) dX11_layNet_157 rfl ?_
      exact ih _ _ h hX
set_option maxHeartbeats 4000000 in
theorem t_X11_layNet_L172 {L : pw_Lay} {d : Nat} {K : pw_Mem → Prop} {KX : Int32 → Int32 → pw_Mem → Prop} : ∀ (n : Nat) (l1 : Int32) (l2 : Int32) (σ : pw_Mem), R_X11_layNet_L172 K KX n l1 l2 σ → (∀ (l1 : Int32) (l2 : Int32) (τ : pw_Mem), KX l1 l2 τ → PW L (d + 1) m_X11_layNet (kv K) 219 [some (.ref 49), some (.int l1), some (.int l2)] [] τ) → PW L (d + 1) m_X11_layNet (kv K) 172 [some (.ref 49), some (.int l1), some (.int l2)] [] σ := by
  intro n
  induction n with
  | zero => intro l1 l2 _ h _; exact h.elim
  | succ n ih =>
    intro l1 l2 σ h hX
    unfold R_X11_layNet_L172 at h
    refine pw_iload_n (i := 2) dX11_layNet_172 rfl rfl ?_
    refine pw_aload_n (i := 0) dX11_layNet_173 rfl rfl ?_
    refine pw_getI dX11_layNet_174 fl_X11_91 rfl rfl ?_
    refine pw_icmp_ge (tgt := 219) dX11_layNet_177 rfl (fun q => ?_) (fun q => ?_)
    · have h := h.1 q
      exact hX _ _ _ h
    · have h := h.2 q
      refine pw_aload_n (i := 0) dX11_layNet_180 rfl rfl ?_
      refine pw_getR dX11_layNet_181 fl_X11_40 rfl rfl ?_
      refine pw_iload_n (i := 2) dX11_layNet_184 rfl rfl ?_
      refine pw_dup2 dX11_layNet_185 rfl rfl ?_
      obtain ⟨hb, h⟩ := h
      refine pw_iald dX11_layNet_186 rfl hb ?_
      refine pw_aload_n (i := 0) dX11_layNet_187 rfl rfl ?_
      refine pw_getR dX11_layNet_188 fl_X11_40 rfl rfl ?_
      refine pw_iload_n (i := 2) dX11_layNet_191 rfl rfl ?_
      obtain ⟨hb, h⟩ := h
      refine pw_iald dX11_layNet_192 rfl hb ?_
      refine pw_iload_n (i := 1) dX11_layNet_193 rfl rfl ?_
      refine pw_ishr dX11_layNet_194 ?_
      refine pw_iconst (v := 1) dX11_layNet_195 kc_1 ?_
      refine pw_iand dX11_layNet_196 ?_
      refine pw_iconst (v := 1) dX11_layNet_197 kc_1 ?_
      refine pw_icmp_ne (tgt := 210) dX11_layNet_198 rfl (fun q => ?_) (fun q => ?_)
      · have h := h.1 q
        refine pw_iconst (v := 0) dX11_layNet_210 kc_0 ?_
        refine pw_ior dX11_layNet_211 ?_
        obtain ⟨hb, h⟩ := h
        refine pw_iast dX11_layNet_212 rfl hb ?_
        generalize hτ15 : pw_up σ 60 (Int32.toNatClampNeg l2) ((σ 60 (Int32.toNatClampNeg l2)) ||| 0) = τ15
        have h := h τ15 hτ15.symm
        refine pw_iinc (i := 2) (v := l2 + 1) (ls' := [some (.ref 49), some (.int l1), some (.int (l2 + 1))]) dX11_layNet_213 rfl (by rw [kc_1]) (Nat.le_of_ble_eq_true rfl) rfl ?_
        refine pw_goto (tgt := 172) dX11_layNet_216 rfl ?_
        exact ih _ _ _ h hX
      · have h := h.2 q
        refine pw_aload_n (i := 0) dX11_layNet_201 rfl rfl ?_
        refine pw_getR dX11_layNet_202 fl_X11_40 rfl rfl ?_
        refine pw_iload_n (i := 1) dX11_layNet_205 rfl rfl ?_
        obtain ⟨hb, h⟩ := h
        refine pw_iald dX11_layNet_206 rfl hb ?_
        refine pw_goto (tgt := 211) dX11_layNet_207 rfl ?_
        refine pw_ior dX11_layNet_211 ?_
        obtain ⟨hb, h⟩ := h
        refine pw_iast dX11_layNet_212 rfl hb ?_
        generalize hτ16 : pw_up σ 60 (Int32.toNatClampNeg l2) ((σ 60 (Int32.toNatClampNeg l2)) ||| (σ 60 (Int32.toNatClampNeg l1))) = τ16
        have h := h τ16 hτ16.symm
        refine pw_iinc (i := 2) (v := l2 + 1) (ls' := [some (.ref 49), some (.int l1), some (.int (l2 + 1))]) dX11_layNet_213 rfl (by rw [kc_1]) (Nat.le_of_ble_eq_true rfl) rfl ?_
        refine pw_goto (tgt := 172) dX11_layNet_216 rfl ?_
        exact ih _ _ _ h hX
set_option maxHeartbeats 4000000 in
theorem t_X11_layNet_L162 {L : pw_Lay} {d : Nat} {K : pw_Mem → Prop} {KX : Int32 → pw_Mem → Prop} : ∀ (n : Nat) (l1 : Int32) (σ : pw_Mem), R_X11_layNet_L162 K KX n l1 σ → (∀ (l1 : Int32) (τ : pw_Mem), KX l1 τ → PW L (d + 1) m_X11_layNet (kv K) 225 [some (.ref 49), some (.int l1), none] [] τ) → PW L (d + 1) m_X11_layNet (kv K) 162 [some (.ref 49), some (.int l1), none] [] σ := by
  intro n
  induction n with
  | zero => intro l1 _ h _; exact h.elim
  | succ n ih =>
    intro l1 σ h hX
    unfold R_X11_layNet_L162 at h
    refine pw_iload_n (i := 1) dX11_layNet_162 rfl rfl ?_
    refine pw_aload_n (i := 0) dX11_layNet_163 rfl rfl ?_
    refine pw_getI dX11_layNet_164 fl_X11_91 rfl rfl ?_
    refine pw_icmp_ge (tgt := 225) dX11_layNet_167 rfl (fun q => ?_) (fun q => ?_)
    · have h := h.1 q
      exact hX _ _ h
    · have h := h.2 q
      refine pw_iconst (v := 0) dX11_layNet_170 kc_0 ?_
      refine pw_istore_n (i := 2) (ls' := [some (.ref 49), some (.int l1), some (.int 0)]) dX11_layNet_171 rfl (Nat.le_of_ble_eq_true rfl) rfl ?_
      obtain ⟨n20, h⟩ := h
      refine t_X11_layNet_L172 _ _ _ _ h (fun y17 y18 τ19 h => ?_)
      refine pw_iinc (i := 1) (v := y17 + 1) (ls' := [some (.ref 49), some (.int (y17 + 1)), some (.int y18)]) dX11_layNet_219 rfl (by rw [kc_1]) (Nat.le_of_ble_eq_true rfl) rfl ?_
      refine pw_goto (tgt := 162) dX11_layNet_222 rfl ?_
      refine pw_forget (ls' := [some (.ref 49), some (.int (y17 + 1)), none]) (And.intro rfl (And.intro rfl trivial)) ?_
      exact ih _ _ h hX
set_option maxHeartbeats 4000000 in
theorem t_X11_layNet_L246 {L : pw_Lay} {d : Nat} {K : pw_Mem → Prop} {KX : Int32 → Int32 → pw_Mem → Prop} : ∀ (n : Nat) (l1 : Int32) (l2 : Int32) (σ : pw_Mem), R_X11_layNet_L246 K KX n l1 l2 σ → (∀ (l1 : Int32) (l2 : Int32) (τ : pw_Mem), KX l1 l2 τ → PW L (d + 1) m_X11_layNet (kv K) 304 [some (.ref 49), some (.int l1), some (.int l2)] [] τ) → PW L (d + 1) m_X11_layNet (kv K) 246 [some (.ref 49), some (.int l1), some (.int l2)] [] σ := by
  intro n
  induction n with
  | zero => intro l1 l2 _ h _; exact h.elim
  | succ n ih =>
    intro l1 l2 σ h hX
    unfold R_X11_layNet_L246 at h
    refine pw_iload_n (i := 2) dX11_layNet_246 rfl rfl ?_
    refine pw_aload_n (i := 0) dX11_layNet_247 rfl rfl ?_
    refine pw_getI dX11_layNet_248 fl_X11_91 rfl rfl ?_
    refine pw_icmp_ge (tgt := 304) dX11_layNet_251 rfl (fun q => ?_) (fun q => ?_)
    · have h := h.1 q
      exact hX _ _ _ h
    · have h := h.2 q
      refine pw_aload_n (i := 0) dX11_layNet_254 rfl rfl ?_
      refine pw_getR dX11_layNet_255 fl_X11_43 rfl rfl ?_
      refine pw_iload_n (i := 1) dX11_layNet_258 rfl rfl ?_
      refine pw_dup2 dX11_layNet_259 rfl rfl ?_
      obtain ⟨hb, h⟩ := h
      refine pw_iald dX11_layNet_260 rfl hb ?_
      refine pw_aload_n (i := 0) dX11_layNet_261 rfl rfl ?_
      refine pw_getR dX11_layNet_262 fl_X11_40 rfl rfl ?_
      refine pw_iload_n (i := 1) dX11_layNet_265 rfl rfl ?_
      obtain ⟨hb, h⟩ := h
      refine pw_iald dX11_layNet_266 rfl hb ?_
      refine pw_iload_n (i := 2) dX11_layNet_267 rfl rfl ?_
      refine pw_ishr dX11_layNet_268 ?_
      refine pw_iconst (v := 1) dX11_layNet_269 kc_1 ?_
      refine pw_iand dX11_layNet_270 ?_
      refine pw_iconst (v := 1) dX11_layNet_271 kc_1 ?_
      refine pw_icmp_ne (tgt := 295) dX11_layNet_272 rfl (fun q => ?_) (fun q => ?_)
      · have h := h.1 q
        refine pw_iconst (v := 0) dX11_layNet_295 kc_0 ?_
        refine pw_ior dX11_layNet_296 ?_
        obtain ⟨hb, h⟩ := h
        refine pw_iast dX11_layNet_297 rfl hb ?_
        generalize hτ24 : pw_up σ 61 (Int32.toNatClampNeg l1) ((σ 61 (Int32.toNatClampNeg l1)) ||| 0) = τ24
        have h := h τ24 hτ24.symm
        refine pw_iinc (i := 2) (v := l2 + 1) (ls' := [some (.ref 49), some (.int l1), some (.int (l2 + 1))]) dX11_layNet_298 rfl (by rw [kc_1]) (Nat.le_of_ble_eq_true rfl) rfl ?_
        refine pw_goto (tgt := 246) dX11_layNet_301 rfl ?_
        exact ih _ _ _ h hX
      · have h := h.2 q
        refine pw_aload_n (i := 0) dX11_layNet_275 rfl rfl ?_
        refine pw_getR dX11_layNet_276 fl_X11_40 rfl rfl ?_
        refine pw_iload_n (i := 2) dX11_layNet_279 rfl rfl ?_
        obtain ⟨hb, h⟩ := h
        refine pw_iald dX11_layNet_280 rfl hb ?_
        refine pw_iload_n (i := 1) dX11_layNet_281 rfl rfl ?_
        refine pw_ishr dX11_layNet_282 ?_
        refine pw_iconst (v := 1) dX11_layNet_283 kc_1 ?_
        refine pw_iand dX11_layNet_284 ?_
        refine pw_iconst (v := 1) dX11_layNet_285 kc_1 ?_
        refine pw_icmp_ne (tgt := 295) dX11_layNet_286 rfl (fun q => ?_) (fun q => ?_)
        · have h := h.1 q
          refine pw_iconst (v := 0) dX11_layNet_295 kc_0 ?_
          refine pw_ior dX11_layNet_296 ?_
          obtain ⟨hb, h⟩ := h
          refine pw_iast dX11_layNet_297 rfl hb ?_
          generalize hτ25 : pw_up σ 61 (Int32.toNatClampNeg l1) ((σ 61 (Int32.toNatClampNeg l1)) ||| 0) = τ25
          have h := h τ25 hτ25.symm
          refine pw_iinc (i := 2) (v := l2 + 1) (ls' := [some (.ref 49), some (.int l1), some (.int (l2 + 1))]) dX11_layNet_298 rfl (by rw [kc_1]) (Nat.le_of_ble_eq_true rfl) rfl ?_
          refine pw_goto (tgt := 246) dX11_layNet_301 rfl ?_
          exact ih _ _ _ h hX
        · have h := h.2 q
          refine pw_iconst (v := 1) dX11_layNet_289 kc_1 ?_
          refine pw_iload_n (i := 2) dX11_layNet_290 rfl rfl ?_
          refine pw_ishl dX11_layNet_291 ?_
          refine pw_goto (tgt := 296) dX11_layNet_292 rfl ?_
          refine pw_ior dX11_layNet_296 ?_
          obtain ⟨hb, h⟩ := h
          refine pw_iast dX11_layNet_297 rfl hb ?_
          generalize hτ26 : pw_up σ 61 (Int32.toNatClampNeg l1) ((σ 61 (Int32.toNatClampNeg l1)) ||| (1 <<< (l2 &&& 31))) = τ26
          have h := h τ26 hτ26.symm
          refine pw_iinc (i := 2) (v := l2 + 1) (ls' := [some (.ref 49), some (.int l1), some (.int (l2 + 1))]) dX11_layNet_298 rfl (by rw [kc_1]) (Nat.le_of_ble_eq_true rfl) rfl ?_
          refine pw_goto (tgt := 246) dX11_layNet_301 rfl ?_
          exact ih _ _ _ h hX
set_option maxHeartbeats 4000000 in
theorem t_X11_layNet_L227 {L : pw_Lay} {d : Nat} {K : pw_Mem → Prop} {KX : Int32 → pw_Mem → Prop} : ∀ (n : Nat) (l1 : Int32) (σ : pw_Mem), R_X11_layNet_L227 K KX n l1 σ → (∀ (l1 : Int32) (τ : pw_Mem), KX l1 τ → PW L (d + 1) m_X11_layNet (kv K) 310 [some (.ref 49), some (.int l1), none] [] τ) → PW L (d + 1) m_X11_layNet (kv K) 227 [some (.ref 49), some (.int l1), none] [] σ := by
  intro n
  induction n with
  | zero => intro l1 _ h _; exact h.elim
  | succ n ih =>
    intro l1 σ h hX
    unfold R_X11_layNet_L227 at h
    refine pw_iload_n (i := 1) dX11_layNet_227 rfl rfl ?_
    refine pw_aload_n (i := 0) dX11_layNet_228 rfl rfl ?_
    refine pw_getI dX11_layNet_229 fl_X11_91 rfl rfl ?_
    refine pw_icmp_ge (tgt := 310) dX11_layNet_232 rfl (fun q => ?_) (fun q => ?_)
    · have h := h.1 q
      exact hX _ _ h
    · have h := h.2 q
      refine pw_aload_n (i := 0) dX11_layNet_235 rfl rfl ?_
      refine pw_getR dX11_layNet_236 fl_X11_43 rfl rfl ?_
      refine pw_iload_n (i := 1) dX11_layNet_239 rfl rfl ?_
      refine pw_iconst (v := 1) dX11_layNet_240 kc_1 ?_
      refine pw_iload_n (i := 1) dX11_layNet_241 rfl rfl ?_
      refine pw_ishl dX11_layNet_242 ?_
      obtain ⟨hb, h⟩ := h
      refine pw_iast dX11_layNet_243 rfl hb ?_
      generalize hτ23 : pw_up σ 61 (Int32.toNatClampNeg l1) (1 <<< (l1 &&& 31)) = τ23
      have h := h τ23 hτ23.symm
      refine pw_iconst (v := 0) dX11_layNet_244 kc_0 ?_
      refine pw_istore_n (i := 2) (ls' := [some (.ref 49), some (.int l1), some (.int 0)]) dX11_layNet_245 rfl (Nat.le_of_ble_eq_true rfl) rfl ?_
      obtain ⟨n30, h⟩ := h
      refine t_X11_layNet_L246 _ _ _ _ h (fun y27 y28 τ29 h => ?_)
      refine pw_iinc (i := 1) (v := y27 + 1) (ls' := [some (.ref 49), some (.int (y27 + 1)), some (.int y28)]) dX11_layNet_304 rfl (by rw [kc_1]) (Nat.le_of_ble_eq_true rfl) rfl ?_
      refine pw_goto (tgt := 227) dX11_layNet_307 rfl ?_
      refine pw_forget (ls' := [some (.ref 49), some (.int (y27 + 1)), none]) (And.intro rfl (And.intro rfl trivial)) ?_
      exact ih _ _ h hX
set_option maxHeartbeats 4000000 in
theorem c_X11_layNet {L : pw_Lay} {d : Nat}  {σ : pw_Mem} {K : pw_Mem → Prop} (h : R_X11_layNet  σ K) : CT L (d + 1) m_X11_layNet [.ref 49] σ (kv K) := by
  refine pw_enter (by decide) rfl (Nat.le_of_ble_eq_true rfl) (ls := [some (.ref 49), none, none]) rfl ?_
  unfold R_X11_layNet at h
  refine pw_aload_n (i := 0) dX11_layNet_0 rfl rfl ?_
  refine pw_cVv [] dX11_layNet_1 mv_X11_128 rfl rfl rfl (Nat.le_of_ble_eq_true rfl) (c_X11_layGoals h) (fun τ1 h => ?_)
  refine pw_iconst (v := 0) dX11_layNet_4 kc_0 ?_
  refine pw_istore_n (i := 1) (ls' := [some (.ref 49), some (.int 0), none]) dX11_layNet_5 rfl (Nat.le_of_ble_eq_true rfl) rfl ?_
  obtain ⟨n37, h⟩ := h
  refine t_X11_layNet_L6 _ _ _ h (fun y4 τ5 h => ?_)
  refine pw_iconst (v := 0) dX11_layNet_32 kc_0 ?_
  refine pw_istore_n (i := 1) (ls' := [some (.ref 49), some (.int 0), none]) dX11_layNet_33 rfl (Nat.le_of_ble_eq_true rfl) rfl ?_
  obtain ⟨n36, h⟩ := h
  refine t_X11_layNet_L34 _ _ _ h (fun y10 τ11 h => ?_)
  refine pw_iconst (v := 0) dX11_layNet_125 kc_0 ?_
  refine pw_istore_n (i := 1) (ls' := [some (.ref 49), some (.int 0), none]) dX11_layNet_126 rfl (Nat.le_of_ble_eq_true rfl) rfl ?_
  obtain ⟨n35, h⟩ := h
  refine t_X11_layNet_L127 _ _ _ h (fun y13 τ14 h => ?_)
  refine pw_iconst (v := 0) dX11_layNet_160 kc_0 ?_
  refine pw_istore_n (i := 1) (ls' := [some (.ref 49), some (.int 0), none]) dX11_layNet_161 rfl (Nat.le_of_ble_eq_true rfl) rfl ?_
  obtain ⟨n34, h⟩ := h
  refine t_X11_layNet_L162 _ _ _ h (fun y21 τ22 h => ?_)
  refine pw_iconst (v := 0) dX11_layNet_225 kc_0 ?_
  refine pw_istore_n (i := 1) (ls' := [some (.ref 49), some (.int 0), none]) dX11_layNet_226 rfl (Nat.le_of_ble_eq_true rfl) rfl ?_
  obtain ⟨n33, h⟩ := h
  refine t_X11_layNet_L227 _ _ _ h (fun y31 τ32 h => ?_)
  exact pw_vret dX11_layNet_310 rfl ⟨rfl, h⟩
/-! X11_sizeOf -/
def R_X11_sizeOf_L4 (K : Int32 → pw_Mem → Prop) (KX : Int32 → Int32 → Int32 → pw_Mem → Prop) : Nat → Int32 → Int32 → Int32 → pw_Mem → Prop
  | 0, _, _, _, _ => False
  | n + 1, l0, l1, l2, σ => ((20 ≤ l2 → KX l0 l1 l2 σ) ∧ (¬ 20 ≤ l2 → R_X11_sizeOf_L4 K KX n l0 (l1 + ((l0 >>> (l2 &&& 31)) &&& 1)) (l2 + 1) σ))
def R_X11_sizeOf (a1 : Int32) (σ : pw_Mem) (K : Int32 → pw_Mem → Prop) : Prop := ∃ n5, R_X11_sizeOf_L4 K (fun y1 y2 y3 τ4 => K y2 τ4) n5 a1 0 0 σ
set_option maxHeartbeats 4000000 in
theorem t_X11_sizeOf_L4 {L : pw_Lay} {d : Nat} {K : Int32 → pw_Mem → Prop} {KX : Int32 → Int32 → Int32 → pw_Mem → Prop} : ∀ (n : Nat) (l0 : Int32) (l1 : Int32) (l2 : Int32) (σ : pw_Mem), R_X11_sizeOf_L4 K KX n l0 l1 l2 σ → (∀ (l0 : Int32) (l1 : Int32) (l2 : Int32) (τ : pw_Mem), KX l0 l1 l2 τ → PW L (d + 0) m_X11_sizeOf (ki K) 24 [some (.int l0), some (.int l1), some (.int l2)] [] τ) → PW L (d + 0) m_X11_sizeOf (ki K) 4 [some (.int l0), some (.int l1), some (.int l2)] [] σ := by
  intro n
  induction n with
  | zero => intro l0 l1 l2 _ h _; exact h.elim
  | succ n ih =>
    intro l0 l1 l2 σ h hX
    unfold R_X11_sizeOf_L4 at h
    refine pw_iload_n (i := 2) dX11_sizeOf_4 rfl rfl ?_
    refine pw_bipush (v := 20) dX11_sizeOf_5 kb_20 ?_
    refine pw_icmp_ge (tgt := 24) dX11_sizeOf_7 rfl (fun q => ?_) (fun q => ?_)
    · have h := h.1 q
      exact hX _ _ _ _ h
    · have h := h.2 q
      refine pw_iload_n (i := 1) dX11_sizeOf_10 rfl rfl ?_
      refine pw_iload_n (i := 0) dX11_sizeOf_11 rfl rfl ?_
      refine pw_iload_n (i := 2) dX11_sizeOf_12 rfl rfl ?_
      refine pw_ishr dX11_sizeOf_13 ?_
      refine pw_iconst (v := 1) dX11_sizeOf_14 kc_1 ?_
      refine pw_iand dX11_sizeOf_15 ?_
      refine pw_iadd dX11_sizeOf_16 ?_
      refine pw_istore_n (i := 1) (ls' := [some (.int l0), some (.int (l1 + ((l0 >>> (l2 &&& 31)) &&& 1))), some (.int l2)]) dX11_sizeOf_17 rfl (Nat.le_of_ble_eq_true rfl) rfl ?_
      refine pw_iinc (i := 2) (v := l2 + 1) (ls' := [some (.int l0), some (.int (l1 + ((l0 >>> (l2 &&& 31)) &&& 1))), some (.int (l2 + 1))]) dX11_sizeOf_18 rfl (by rw [kc_1]) (Nat.le_of_ble_eq_true rfl) rfl ?_
      refine pw_goto (tgt := 4) dX11_sizeOf_21 rfl ?_
      exact ih _ _ _ _ h hX
set_option maxHeartbeats 4000000 in
theorem c_X11_sizeOf {L : pw_Lay} {d : Nat} {a1 : Int32} {σ : pw_Mem} {K : Int32 → pw_Mem → Prop} (h : R_X11_sizeOf a1 σ K) : CT L (d + 0) m_X11_sizeOf [.int a1] σ (ki K) := by
  refine pw_enter (by decide) rfl (Nat.le_of_ble_eq_true rfl) (ls := [some (.int a1), none, none]) rfl ?_
  unfold R_X11_sizeOf at h
  refine pw_iconst (v := 0) dX11_sizeOf_0 kc_0 ?_
  refine pw_istore_n (i := 1) (ls' := [some (.int a1), some (.int 0), none]) dX11_sizeOf_1 rfl (Nat.le_of_ble_eq_true rfl) rfl ?_
  refine pw_iconst (v := 0) dX11_sizeOf_2 kc_0 ?_
  refine pw_istore_n (i := 2) (ls' := [some (.int a1), some (.int 0), some (.int 0)]) dX11_sizeOf_3 rfl (Nat.le_of_ble_eq_true rfl) rfl ?_
  obtain ⟨n5, h⟩ := h
  refine t_X11_sizeOf_L4 _ _ _ _ _ h (fun y1 y2 y3 τ4 h => ?_)
  refine pw_iload_n (i := 1) dX11_sizeOf_24 rfl rfl ?_
  exact pw_ret dX11_sizeOf_25 rfl rfl ⟨_, rfl, h⟩
/-! X11_leastOf -/
def R_X11_leastOf_L2 (K : Int32 → pw_Mem → Prop) (KX : Int32 → Int32 → pw_Mem → Prop) : Nat → Int32 → Int32 → pw_Mem → Prop
  | 0, _, _, _ => False
  | n + 1, l0, l1, σ => ((¬ ((l0 >>> (l1 &&& 31)) &&& 1) = 0 → KX l0 l1 σ) ∧ (((l0 >>> (l1 &&& 31)) &&& 1) = 0 → R_X11_leastOf_L2 K KX n l0 (l1 + 1) σ))
def R_X11_leastOf (a1 : Int32) (σ : pw_Mem) (K : Int32 → pw_Mem → Prop) : Prop := ∃ n4, R_X11_leastOf_L2 K (fun y1 y2 τ3 => K y2 τ3) n4 a1 0 σ
set_option maxHeartbeats 4000000 in
theorem t_X11_leastOf_L2 {L : pw_Lay} {d : Nat} {K : Int32 → pw_Mem → Prop} {KX : Int32 → Int32 → pw_Mem → Prop} : ∀ (n : Nat) (l0 : Int32) (l1 : Int32) (σ : pw_Mem), R_X11_leastOf_L2 K KX n l0 l1 σ → (∀ (l0 : Int32) (l1 : Int32) (τ : pw_Mem), KX l0 l1 τ → PW L (d + 0) m_X11_leastOf (ki K) 16 [some (.int l0), some (.int l1)] [] τ) → PW L (d + 0) m_X11_leastOf (ki K) 2 [some (.int l0), some (.int l1)] [] σ := by
  intro n
  induction n with
  | zero => intro l0 l1 _ h _; exact h.elim
  | succ n ih =>
    intro l0 l1 σ h hX
    unfold R_X11_leastOf_L2 at h
    refine pw_iload_n (i := 0) dX11_leastOf_2 rfl rfl ?_
    refine pw_iload_n (i := 1) dX11_leastOf_3 rfl rfl ?_
    refine pw_ishr dX11_leastOf_4 ?_
    refine pw_iconst (v := 1) dX11_leastOf_5 kc_1 ?_
    refine pw_iand dX11_leastOf_6 ?_
    refine pw_if_ne (tgt := 16) dX11_leastOf_7 rfl (fun q => ?_) (fun q => ?_)
    · have h := h.1 q
      exact hX _ _ _ h
    · have h := h.2 q
      refine pw_iinc (i := 1) (v := l1 + 1) (ls' := [some (.int l0), some (.int (l1 + 1))]) dX11_leastOf_10 rfl (by rw [kc_1]) (Nat.le_of_ble_eq_true rfl) rfl ?_
      refine pw_goto (tgt := 2) dX11_leastOf_13 rfl ?_
      exact ih _ _ _ h hX
set_option maxHeartbeats 4000000 in
theorem c_X11_leastOf {L : pw_Lay} {d : Nat} {a1 : Int32} {σ : pw_Mem} {K : Int32 → pw_Mem → Prop} (h : R_X11_leastOf a1 σ K) : CT L (d + 0) m_X11_leastOf [.int a1] σ (ki K) := by
  refine pw_enter (by decide) rfl (Nat.le_of_ble_eq_true rfl) (ls := [some (.int a1), none]) rfl ?_
  unfold R_X11_leastOf at h
  refine pw_iconst (v := 0) dX11_leastOf_0 kc_0 ?_
  refine pw_istore_n (i := 1) (ls' := [some (.int a1), some (.int 0)]) dX11_leastOf_1 rfl (Nat.le_of_ble_eq_true rfl) rfl ?_
  obtain ⟨n4, h⟩ := h
  refine t_X11_leastOf_L2 _ _ _ _ h (fun y1 y2 τ3 h => ?_)
  refine pw_iload_n (i := 1) dX11_leastOf_16 rfl rfl ?_
  exact pw_ret dX11_leastOf_17 rfl rfl ⟨_, rfl, h⟩
/-! X11_isRing -/
def R_X11_isRing_L4 (K : Int32 → pw_Mem → Prop) (KX : Int32 → Int32 → Int32 → pw_Mem → Prop) : Nat → Int32 → Int32 → Int32 → pw_Mem → Prop
  | 0, _, _, _, _ => False
  | n + 1, l1, l2, l3, σ => (((σ 49 0) ≤ l3 → KX l1 l2 l3 σ) ∧ (¬ (σ 49 0) ≤ l3 → ((¬ l2 = 0 → R_X11_isRing_L4 K KX n l1 1 (l3 + 1) σ) ∧ (l2 = 0 → vp_in l1 20 ∧ ((¬ (((σ 61 (Int32.toNatClampNeg l1)) >>> (l3 &&& 31)) &&& 1) = 1 → R_X11_isRing_L4 K KX n l1 0 (l3 + 1) σ) ∧ ((((σ 61 (Int32.toNatClampNeg l1)) >>> (l3 &&& 31)) &&& 1) = 1 → vp_in l3 20 ∧ vp_in l1 20 ∧ ((((σ 58 (Int32.toNatClampNeg l3)) &&& (σ 61 (Int32.toNatClampNeg l1))) = 0 → R_X11_isRing_L4 K KX n l1 0 (l3 + 1) σ) ∧ (¬ ((σ 58 (Int32.toNatClampNeg l3)) &&& (σ 61 (Int32.toNatClampNeg l1))) = 0 → R_X11_isRing_L4 K KX n l1 1 (l3 + 1) σ))))))))
def R_X11_isRing (a1 : Int32) (σ : pw_Mem) (K : Int32 → pw_Mem → Prop) : Prop := ∃ n5, R_X11_isRing_L4 K (fun y1 y2 y3 τ4 => narrow .boolean (.int y2) = .int y2 ∧ K y2 τ4) n5 a1 0 0 σ
set_option maxHeartbeats 4000000 in
theorem t_X11_isRing_L4 {L : pw_Lay} {d : Nat} {K : Int32 → pw_Mem → Prop} {KX : Int32 → Int32 → Int32 → pw_Mem → Prop} : ∀ (n : Nat) (l1 : Int32) (l2 : Int32) (l3 : Int32) (σ : pw_Mem), R_X11_isRing_L4 K KX n l1 l2 l3 σ → (∀ (l1 : Int32) (l2 : Int32) (l3 : Int32) (τ : pw_Mem), KX l1 l2 l3 τ → PW L (d + 0) m_X11_isRing (ki K) 58 [some (.ref 49), some (.int l1), some (.int l2), some (.int l3)] [] τ) → PW L (d + 0) m_X11_isRing (ki K) 4 [some (.ref 49), some (.int l1), some (.int l2), some (.int l3)] [] σ := by
  intro n
  induction n with
  | zero => intro l1 l2 l3 _ h _; exact h.elim
  | succ n ih =>
    intro l1 l2 l3 σ h hX
    unfold R_X11_isRing_L4 at h
    refine pw_iload_n (i := 3) dX11_isRing_4 rfl rfl ?_
    refine pw_aload_n (i := 0) dX11_isRing_5 rfl rfl ?_
    refine pw_getI dX11_isRing_6 fl_X11_91 rfl rfl ?_
    refine pw_icmp_ge (tgt := 58) dX11_isRing_9 rfl (fun q => ?_) (fun q => ?_)
    · have h := h.1 q
      exact hX _ _ _ _ h
    · have h := h.2 q
      refine pw_iload_n (i := 2) dX11_isRing_12 rfl rfl ?_
      refine pw_if_ne (tgt := 46) dX11_isRing_13 rfl (fun q => ?_) (fun q => ?_)
      · have h := h.1 q
        refine pw_iconst (v := 1) dX11_isRing_46 kc_1 ?_
        refine pw_goto (tgt := 51) dX11_isRing_47 rfl ?_
        refine pw_istore_n (i := 2) (ls' := [some (.ref 49), some (.int l1), some (.int 1), some (.int l3)]) dX11_isRing_51 rfl (Nat.le_of_ble_eq_true rfl) rfl ?_
        refine pw_iinc (i := 3) (v := l3 + 1) (ls' := [some (.ref 49), some (.int l1), some (.int 1), some (.int (l3 + 1))]) dX11_isRing_52 rfl (by rw [kc_1]) (Nat.le_of_ble_eq_true rfl) rfl ?_
        refine pw_goto (tgt := 4) dX11_isRing_55 rfl ?_
        exact ih _ _ _ _ h hX
      · have h := h.2 q
        refine pw_aload_n (i := 0) dX11_isRing_16 rfl rfl ?_
        refine pw_getR dX11_isRing_17 fl_X11_43 rfl rfl ?_
        refine pw_iload_n (i := 1) dX11_isRing_20 rfl rfl ?_
        obtain ⟨hb, h⟩ := h
        refine pw_iald dX11_isRing_21 rfl hb ?_
        refine pw_iload_n (i := 3) dX11_isRing_22 rfl rfl ?_
        refine pw_ishr dX11_isRing_23 ?_
        refine pw_iconst (v := 1) dX11_isRing_24 kc_1 ?_
        refine pw_iand dX11_isRing_25 ?_
        refine pw_iconst (v := 1) dX11_isRing_26 kc_1 ?_
        refine pw_icmp_ne (tgt := 50) dX11_isRing_27 rfl (fun q => ?_) (fun q => ?_)
        · have h := h.1 q
          refine pw_iconst (v := 0) dX11_isRing_50 kc_0 ?_
          refine pw_istore_n (i := 2) (ls' := [some (.ref 49), some (.int l1), some (.int 0), some (.int l3)]) dX11_isRing_51 rfl (Nat.le_of_ble_eq_true rfl) rfl ?_
          refine pw_iinc (i := 3) (v := l3 + 1) (ls' := [some (.ref 49), some (.int l1), some (.int 0), some (.int (l3 + 1))]) dX11_isRing_52 rfl (by rw [kc_1]) (Nat.le_of_ble_eq_true rfl) rfl ?_
          refine pw_goto (tgt := 4) dX11_isRing_55 rfl ?_
          exact ih _ _ _ _ h hX
        · have h := h.2 q
          refine pw_aload_n (i := 0) dX11_isRing_30 rfl rfl ?_
          refine pw_getR dX11_isRing_31 fl_X11_34 rfl rfl ?_
          refine pw_iload_n (i := 3) dX11_isRing_34 rfl rfl ?_
          obtain ⟨hb, h⟩ := h
          refine pw_iald dX11_isRing_35 rfl hb ?_
          refine pw_aload_n (i := 0) dX11_isRing_36 rfl rfl ?_
          refine pw_getR dX11_isRing_37 fl_X11_43 rfl rfl ?_
          refine pw_iload_n (i := 1) dX11_isRing_40 rfl rfl ?_
          obtain ⟨hb, h⟩ := h
          refine pw_iald dX11_isRing_41 rfl hb ?_
          refine pw_iand dX11_isRing_42 ?_
          refine pw_if_eq (tgt := 50) dX11_isRing_43 rfl (fun q => ?_) (fun q => ?_)
          · have h := h.1 q
            refine pw_iconst (v := 0) dX11_isRing_50 kc_0 ?_
            refine pw_istore_n (i := 2) (ls' := [some (.ref 49), some (.int l1), some (.int 0), some (.int l3)]) dX11_isRing_51 rfl (Nat.le_of_ble_eq_true rfl) rfl ?_
            refine pw_iinc (i := 3) (v := l3 + 1) (ls' := [some (.ref 49), some (.int l1), some (.int 0), some (.int (l3 + 1))]) dX11_isRing_52 rfl (by rw [kc_1]) (Nat.le_of_ble_eq_true rfl) rfl ?_
            refine pw_goto (tgt := 4) dX11_isRing_55 rfl ?_
            exact ih _ _ _ _ h hX
          · have h := h.2 q
            refine pw_iconst (v := 1) dX11_isRing_46 kc_1 ?_
            refine pw_goto (tgt := 51) dX11_isRing_47 rfl ?_
            refine pw_istore_n (i := 2) (ls' := [some (.ref 49), some (.int l1), some (.int 1), some (.int l3)]) dX11_isRing_51 rfl (Nat.le_of_ble_eq_true rfl) rfl ?_
            refine pw_iinc (i := 3) (v := l3 + 1) (ls' := [some (.ref 49), some (.int l1), some (.int 1), some (.int (l3 + 1))]) dX11_isRing_52 rfl (by rw [kc_1]) (Nat.le_of_ble_eq_true rfl) rfl ?_
            refine pw_goto (tgt := 4) dX11_isRing_55 rfl ?_
            exact ih _ _ _ _ h hX
set_option maxHeartbeats 4000000 in
theorem c_X11_isRing {L : pw_Lay} {d : Nat} {a1 : Int32} {σ : pw_Mem} {K : Int32 → pw_Mem → Prop} (h : R_X11_isRing a1 σ K) : CT L (d + 0) m_X11_isRing [.ref 49, .int a1] σ (ki K) := by
  refine pw_enter (by decide) rfl (Nat.le_of_ble_eq_true rfl) (ls := [some (.ref 49), some (.int a1), none, none]) rfl ?_
  unfold R_X11_isRing at h
  refine pw_iconst (v := 0) dX11_isRing_0 kc_0 ?_
  refine pw_istore_n (i := 2) (ls' := [some (.ref 49), some (.int a1), some (.int 0), none]) dX11_isRing_1 rfl (Nat.le_of_ble_eq_true rfl) rfl ?_
  refine pw_iconst (v := 0) dX11_isRing_2 kc_0 ?_
  refine pw_istore_n (i := 3) (ls' := [some (.ref 49), some (.int a1), some (.int 0), some (.int 0)]) dX11_isRing_3 rfl (Nat.le_of_ble_eq_true rfl) rfl ?_
  obtain ⟨n5, h⟩ := h
  refine t_X11_isRing_L4 _ _ _ _ _ h (fun y1 y2 y3 τ4 h => ?_)
  refine pw_iload_n (i := 2) dX11_isRing_58 rfl rfl ?_
  obtain ⟨hn, h⟩ := h
  exact pw_ret dX11_isRing_59 rfl hn ⟨_, rfl, h⟩
/-! X11_about -/
def R_X11_about_L31 (K : Int32 → pw_Mem → Prop) (KX : Int32 → Int32 → Int32 → Int32 → pw_Mem → Prop) : Nat → Int32 → Int32 → Int32 → Int32 → pw_Mem → Prop
  | 0, _, _, _, _, _ => False
  | n + 1, l1, l2, l3, l4, σ => (((σ 49 0) ≤ l4 → KX l1 l2 l3 l4 σ) ∧ (¬ (σ 49 0) ≤ l4 → vp_in l4 20 ∧ R_X11_about_L31 K KX n l1 l2 (l3 + (((σ 60 (Int32.toNatClampNeg l4)) >>> (l1 &&& 31)) &&& 1)) (l4 + 1) σ))
def R_X11_about (a1 : Int32) (a2 : Int32) (σ : pw_Mem) (K : Int32 → pw_Mem → Prop) : Prop := R_X11_is a1 σ (fun x2 τ1 => ((x2 = 0 → K (-1) τ1) ∧ (¬ x2 = 0 → R_X11_in (Int32.toInt64 a2) 0 5 τ1 (fun x4 τ3 => ((¬ x4 = 0 → R_X11_layNet  τ3 (fun τ5 => ∃ n17, R_X11_about_L31 K (fun y6 y7 y8 y9 τ10 => ((¬ y7 = 0 → ((¬ y7 = 1 → ((¬ y7 = 2 → ((¬ y7 = 3 → ((¬ y7 = 4 → K y8 τ10) ∧ (y7 = 4 → vp_in y6 20 ∧ R_X11_sizeOf (τ10 60 (Int32.toNatClampNeg y6)) τ10 (fun x12 τ11 => K x12 τ11)))) ∧ (y7 = 3 → vp_in y6 20 ∧ R_X11_leastOf (τ10 61 (Int32.toNatClampNeg y6)) τ10 (fun x14 τ13 => K x14 τ13)))) ∧ (y7 = 2 → R_X11_isRing y6 τ10 (fun x16 τ15 => ((x16 = 0 → K 0 τ15) ∧ (¬ x16 = 0 → K 1 τ15)))))) ∧ (y7 = 1 → vp_in y6 20 ∧ K (τ10 51 (Int32.toNatClampNeg y6)) τ10))) ∧ (y7 = 0 → vp_in y6 20 ∧ K (τ10 50 (Int32.toNatClampNeg y6)) τ10))) n17 a1 a2 0 0 τ5)) ∧ (x4 = 0 → K (-1) τ3))))))
set_option maxHeartbeats 4000000 in
theorem t_X11_about_L31 {L : pw_Lay} {d : Nat} {K : Int32 → pw_Mem → Prop} {KX : Int32 → Int32 → Int32 → Int32 → pw_Mem → Prop} : ∀ (n : Nat) (l1 : Int32) (l2 : Int32) (l3 : Int32) (l4 : Int32) (σ : pw_Mem), R_X11_about_L31 K KX n l1 l2 l3 l4 σ → (∀ (l1 : Int32) (l2 : Int32) (l3 : Int32) (l4 : Int32) (τ : pw_Mem), KX l1 l2 l3 l4 τ → PW L (d + 2) m_X11_about (ki K) 60 [some (.ref 49), some (.int l1), some (.int l2), some (.int l3), some (.int l4)] [] τ) → PW L (d + 2) m_X11_about (ki K) 31 [some (.ref 49), some (.int l1), some (.int l2), some (.int l3), some (.int l4)] [] σ := by
  intro n
  induction n with
  | zero => intro l1 l2 l3 l4 _ h _; exact h.elim
  | succ n ih =>
    intro l1 l2 l3 l4 σ h hX
    unfold R_X11_about_L31 at h
    refine pw_iload dX11_about_31 rfl ?_
    refine pw_aload_n (i := 0) dX11_about_33 rfl rfl ?_
    refine pw_getI dX11_about_34 fl_X11_91 rfl rfl ?_
    refine pw_icmp_ge (tgt := 60) dX11_about_37 rfl (fun q => ?_) (fun q => ?_)
    · have h := h.1 q
      exact hX _ _ _ _ _ h
    · have h := h.2 q
      refine pw_iload_n (i := 3) dX11_about_40 rfl rfl ?_
      refine pw_aload_n (i := 0) dX11_about_41 rfl rfl ?_
      refine pw_getR dX11_about_42 fl_X11_40 rfl rfl ?_
      refine pw_iload dX11_about_45 rfl ?_
      obtain ⟨hb, h⟩ := h
      refine pw_iald dX11_about_47 rfl hb ?_
      refine pw_iload_n (i := 1) dX11_about_48 rfl rfl ?_
      refine pw_ishr dX11_about_49 ?_
      refine pw_iconst (v := 1) dX11_about_50 kc_1 ?_
      refine pw_iand dX11_about_51 ?_
      refine pw_iadd dX11_about_52 ?_
      refine pw_istore_n (i := 3) (ls' := [some (.ref 49), some (.int l1), some (.int l2), some (.int (l3 + (((σ 60 (Int32.toNatClampNeg l4)) >>> (l1 &&& 31)) &&& 1))), some (.int l4)]) dX11_about_53 rfl (Nat.le_of_ble_eq_true rfl) rfl ?_
      refine pw_iinc (i := 4) (v := l4 + 1) (ls' := [some (.ref 49), some (.int l1), some (.int l2), some (.int (l3 + (((σ 60 (Int32.toNatClampNeg l4)) >>> (l1 &&& 31)) &&& 1))), some (.int (l4 + 1))]) dX11_about_54 rfl (by rw [kc_1]) (Nat.le_of_ble_eq_true rfl) rfl ?_
      refine pw_goto (tgt := 31) dX11_about_57 rfl ?_
      exact ih _ _ _ _ _ h hX
set_option maxHeartbeats 4000000 in
theorem c_X11_about {L : pw_Lay} {d : Nat} {a1 : Int32} {a2 : Int32} {σ : pw_Mem} {K : Int32 → pw_Mem → Prop} (h : R_X11_about a1 a2 σ K) : CT L (d + 2) m_X11_about [.ref 49, .int a1, .int a2] σ (ki K) := by
  refine pw_enter (by decide) rfl (Nat.le_of_ble_eq_true rfl) (ls := [some (.ref 49), some (.int a1), some (.int a2), none, none]) rfl ?_
  unfold R_X11_about at h
  refine pw_aload_n (i := 0) dX11_about_0 rfl rfl ?_
  refine pw_iload_n (i := 1) dX11_about_1 rfl rfl ?_
  refine pw_cVi [.int a1] dX11_about_2 mv_X11_103 rfl rfl rfl (Nat.le_of_ble_eq_true rfl) (c_X11_is h) (fun x2 τ1 h => ?_)
  refine pw_if_eq (tgt := 20) dX11_about_5 rfl (fun q => ?_) (fun q => ?_)
  · have h := h.1 q
    refine pw_iconst (v := (-1)) dX11_about_20 kc_m1 ?_
    exact pw_ret dX11_about_21 rfl rfl ⟨_, rfl, h⟩
  · have h := h.2 q
    refine pw_iload_n (i := 2) dX11_about_8 rfl rfl ?_
    refine pw_i2l dX11_about_9 ?_
    refine pw_lconst (v := 0) dX11_about_10 kl_0 ?_
    refine pw_ldc2 dX11_about_11 k_X11_131 ?_
    refine pw_cSi [.long (Int32.toInt64 a2), .long 0, .long 5] dX11_about_14 ms_X11_95 rfl rfl (Nat.le_of_ble_eq_true rfl) (c_X11_in h) (fun x4 τ3 h => ?_)
    refine pw_if_ne (tgt := 22) dX11_about_17 rfl (fun q => ?_) (fun q => ?_)
    · have h := h.1 q
      refine pw_aload_n (i := 0) dX11_about_22 rfl rfl ?_
      refine pw_cVv [] dX11_about_23 mv_X11_133 rfl rfl rfl (Nat.le_of_ble_eq_true rfl) (c_X11_layNet h) (fun τ5 h => ?_)
      refine pw_iconst (v := 0) dX11_about_26 kc_0 ?_
      refine pw_istore_n (i := 3) (ls' := [some (.ref 49), some (.int a1), some (.int a2), some (.int 0), none]) dX11_about_27 rfl (Nat.le_of_ble_eq_true rfl) rfl ?_
      refine pw_iconst (v := 0) dX11_about_28 kc_0 ?_
      refine pw_istore (i := 4) (ls' := [some (.ref 49), some (.int a1), some (.int a2), some (.int 0), some (.int 0)]) dX11_about_29 (Nat.le_of_ble_eq_true rfl) rfl ?_
      obtain ⟨n17, h⟩ := h
      refine t_X11_about_L31 _ _ _ _ _ _ h (fun y6 y7 y8 y9 τ10 h => ?_)
      refine pw_iload_n (i := 2) dX11_about_60 rfl rfl ?_
      refine pw_if_ne (tgt := 73) dX11_about_61 rfl (fun q => ?_) (fun q => ?_)
      · have h := h.1 q
        refine pw_iload_n (i := 2) dX11_about_73 rfl rfl ?_
        refine pw_iconst (v := 1) dX11_about_74 kc_1 ?_
        refine pw_icmp_ne (tgt := 87) dX11_about_75 rfl (fun q => ?_) (fun q => ?_)
        · have h := h.1 q
          refine pw_iload_n (i := 2) dX11_about_87 rfl rfl ?_
          refine pw_iconst (v := 2) dX11_about_88 kc_2 ?_
          refine pw_icmp_ne (tgt := 108) dX11_about_89 rfl (fun q => ?_) (fun q => ?_)
          · have h := h.1 q
            refine pw_iload_n (i := 2) dX11_about_108 rfl rfl ?_
            refine pw_iconst (v := 3) dX11_about_109 kc_3 ?_
            refine pw_icmp_ne (tgt := 125) dX11_about_110 rfl (fun q => ?_) (fun q => ?_)
            · have h := h.1 q
              refine pw_iload_n (i := 2) dX11_about_125 rfl rfl ?_
              refine pw_iconst (v := 4) dX11_about_126 kc_4 ?_
              refine pw_icmp_ne (tgt := 142) dX11_about_127 rfl (fun q => ?_) (fun q => ?_)
              · have h := h.1 q
                refine pw_iload_n (i := 3) dX11_about_142 rfl rfl ?_
                exact pw_ret dX11_about_143 rfl rfl ⟨_, rfl, h⟩
              · have h := h.2 q
                refine pw_aload_n (i := 0) dX11_about_130 rfl rfl ?_
                refine pw_getR dX11_about_131 fl_X11_40 rfl rfl ?_
                refine pw_iload_n (i := 1) dX11_about_134 rfl rfl ?_
                obtain ⟨hb, h⟩ := h
                refine pw_iald dX11_about_135 rfl hb ?_
                refine pw_cSi [.int (τ10 60 (Int32.toNatClampNeg y6))] dX11_about_136 ms_X11_143 rfl rfl (Nat.le_of_ble_eq_true rfl) (c_X11_sizeOf h) (fun x12 τ11 h => ?_)
                refine pw_goto (tgt := 143) dX11_about_139 rfl ?_
                exact pw_ret dX11_about_143 rfl rfl ⟨_, rfl, h⟩
            · have h := h.2 q
              refine pw_aload_n (i := 0) dX11_about_113 rfl rfl ?_
              refine pw_getR dX11_about_114 fl_X11_43 rfl rfl ?_
              refine pw_iload_n (i := 1) dX11_about_117 rfl rfl ?_
              obtain ⟨hb, h⟩ := h
              refine pw_iald dX11_about_118 rfl hb ?_
              refine pw_cSi [.int (τ10 61 (Int32.toNatClampNeg y6))] dX11_about_119 ms_X11_139 rfl rfl (Nat.le_of_ble_eq_true rfl) (c_X11_leastOf h) (fun x14 τ13 h => ?_)
              refine pw_goto (tgt := 143) dX11_about_122 rfl ?_
              exact pw_ret dX11_about_143 rfl rfl ⟨_, rfl, h⟩
          · have h := h.2 q
            refine pw_aload_n (i := 0) dX11_about_92 rfl rfl ?_
            refine pw_iload_n (i := 1) dX11_about_93 rfl rfl ?_
            refine pw_cVi [.int y6] dX11_about_94 mv_X11_136 rfl rfl rfl (Nat.le_of_ble_eq_true rfl) (c_X11_isRing h) (fun x16 τ15 h => ?_)
            refine pw_if_eq (tgt := 104) dX11_about_97 rfl (fun q => ?_) (fun q => ?_)
            · have h := h.1 q
              refine pw_iconst (v := 0) dX11_about_104 kc_0 ?_
              refine pw_goto (tgt := 143) dX11_about_105 rfl ?_
              exact pw_ret dX11_about_143 rfl rfl ⟨_, rfl, h⟩
            · have h := h.2 q
              refine pw_iconst (v := 1) dX11_about_100 kc_1 ?_
              refine pw_goto (tgt := 143) dX11_about_101 rfl ?_
              exact pw_ret dX11_about_143 rfl rfl ⟨_, rfl, h⟩
        · have h := h.2 q
          refine pw_aload_n (i := 0) dX11_about_78 rfl rfl ?_
          refine pw_getR dX11_about_79 fl_X11_13 rfl rfl ?_
          refine pw_iload_n (i := 1) dX11_about_82 rfl rfl ?_
          obtain ⟨hb, h⟩ := h
          refine pw_iald dX11_about_83 rfl hb ?_
          refine pw_goto (tgt := 143) dX11_about_84 rfl ?_
          exact pw_ret dX11_about_143 rfl rfl ⟨_, rfl, h⟩
      · have h := h.2 q
        refine pw_aload_n (i := 0) dX11_about_64 rfl rfl ?_
        refine pw_getR dX11_about_65 fl_X11_7 rfl rfl ?_
        refine pw_iload_n (i := 1) dX11_about_68 rfl rfl ?_
        obtain ⟨hb, h⟩ := h
        refine pw_iald dX11_about_69 rfl hb ?_
        refine pw_goto (tgt := 143) dX11_about_70 rfl ?_
        exact pw_ret dX11_about_143 rfl rfl ⟨_, rfl, h⟩
    · have h := h.2 q
      refine pw_iconst (v := (-1)) dX11_about_20 kc_m1 ?_
      exact pw_ret dX11_about_21 rfl rfl ⟨_, rfl, h⟩
/-! X11_greatest -/
def R_X11_greatest_L10 (K : Int32 → pw_Mem → Prop) (KX : Int32 → Int32 → Int32 → Int32 → Int32 → pw_Mem → Prop) : Nat → Int32 → Int32 → Int32 → Int32 → Int32 → pw_Mem → Prop
  | 0, _, _, _, _, _, _ => False
  | n + 1, l1, l2, l3, l4, l5, σ => (((σ 49 0) ≤ l5 → KX l1 l2 l3 l4 l5 σ) ∧ (¬ (σ 49 0) ≤ l5 → ((¬ ((l1 >>> (l5 &&& 31)) &&& 1) = 1 → R_X11_greatest_L10 K KX n l1 l2 l3 l4 (l5 + 1) σ) ∧ (((l1 >>> (l5 &&& 31)) &&& 1) = 1 → ((l3 = 0 → ((l4 = 0 → vp_in l5 20 ∧ (((σ 62 (Int32.toNatClampNeg l5)) ≤ l2 → R_X11_greatest_L10 K KX n l1 l2 0 0 (l5 + 1) σ) ∧ (¬ (σ 62 (Int32.toNatClampNeg l5)) ≤ l2 → vp_in l5 20 ∧ R_X11_greatest_L10 K KX n l1 (σ 62 (Int32.toNatClampNeg l5)) 0 0 (l5 + 1) σ))) ∧ (¬ l4 = 0 → vp_in l5 20 ∧ (((σ 62 (Int32.toNatClampNeg l5)) = (-5) → vp_in l5 20 ∧ (((σ 62 (Int32.toNatClampNeg l5)) ≤ l2 → R_X11_greatest_L10 K KX n l1 l2 0 0 (l5 + 1) σ) ∧ (¬ (σ 62 (Int32.toNatClampNeg l5)) ≤ l2 → vp_in l5 20 ∧ R_X11_greatest_L10 K KX n l1 (σ 62 (Int32.toNatClampNeg l5)) 0 0 (l5 + 1) σ))) ∧ (¬ (σ 62 (Int32.toNatClampNeg l5)) = (-5) → vp_in l5 20 ∧ (((σ 62 (Int32.toNatClampNeg l5)) ≤ l2 → R_X11_greatest_L10 K KX n l1 l2 0 1 (l5 + 1) σ) ∧ (¬ (σ 62 (Int32.toNatClampNeg l5)) ≤ l2 → vp_in l5 20 ∧ R_X11_greatest_L10 K KX n l1 (σ 62 (Int32.toNatClampNeg l5)) 0 1 (l5 + 1) σ))))))) ∧ (¬ l3 = 0 → vp_in l5 20 ∧ (((σ 62 (Int32.toNatClampNeg l5)) = (-4) → ((l4 = 0 → vp_in l5 20 ∧ (((σ 62 (Int32.toNatClampNeg l5)) ≤ l2 → R_X11_greatest_L10 K KX n l1 l2 0 0 (l5 + 1) σ) ∧ (¬ (σ 62 (Int32.toNatClampNeg l5)) ≤ l2 → vp_in l5 20 ∧ R_X11_greatest_L10 K KX n l1 (σ 62 (Int32.toNatClampNeg l5)) 0 0 (l5 + 1) σ))) ∧ (¬ l4 = 0 → vp_in l5 20 ∧ (((σ 62 (Int32.toNatClampNeg l5)) = (-5) → vp_in l5 20 ∧ (((σ 62 (Int32.toNatClampNeg l5)) ≤ l2 → R_X11_greatest_L10 K KX n l1 l2 0 0 (l5 + 1) σ) ∧ (¬ (σ 62 (Int32.toNatClampNeg l5)) ≤ l2 → vp_in l5 20 ∧ R_X11_greatest_L10 K KX n l1 (σ 62 (Int32.toNatClampNeg l5)) 0 0 (l5 + 1) σ))) ∧ (¬ (σ 62 (Int32.toNatClampNeg l5)) = (-5) → vp_in l5 20 ∧ (((σ 62 (Int32.toNatClampNeg l5)) ≤ l2 → R_X11_greatest_L10 K KX n l1 l2 0 1 (l5 + 1) σ) ∧ (¬ (σ 62 (Int32.toNatClampNeg l5)) ≤ l2 → vp_in l5 20 ∧ R_X11_greatest_L10 K KX n l1 (σ 62 (Int32.toNatClampNeg l5)) 0 1 (l5 + 1) σ))))))) ∧ (¬ (σ 62 (Int32.toNatClampNeg l5)) = (-4) → ((l4 = 0 → vp_in l5 20 ∧ (((σ 62 (Int32.toNatClampNeg l5)) ≤ l2 → R_X11_greatest_L10 K KX n l1 l2 1 0 (l5 + 1) σ) ∧ (¬ (σ 62 (Int32.toNatClampNeg l5)) ≤ l2 → vp_in l5 20 ∧ R_X11_greatest_L10 K KX n l1 (σ 62 (Int32.toNatClampNeg l5)) 1 0 (l5 + 1) σ))) ∧ (¬ l4 = 0 → vp_in l5 20 ∧ (((σ 62 (Int32.toNatClampNeg l5)) = (-5) → vp_in l5 20 ∧ (((σ 62 (Int32.toNatClampNeg l5)) ≤ l2 → R_X11_greatest_L10 K KX n l1 l2 1 0 (l5 + 1) σ) ∧ (¬ (σ 62 (Int32.toNatClampNeg l5)) ≤ l2 → vp_in l5 20 ∧ R_X11_greatest_L10 K KX n l1 (σ 62 (Int32.toNatClampNeg l5)) 1 0 (l5 + 1) σ))) ∧ (¬ (σ 62 (Int32.toNatClampNeg l5)) = (-5) → vp_in l5 20 ∧ (((σ 62 (Int32.toNatClampNeg l5)) ≤ l2 → R_X11_greatest_L10 K KX n l1 l2 1 1 (l5 + 1) σ) ∧ (¬ (σ 62 (Int32.toNatClampNeg l5)) ≤ l2 → vp_in l5 20 ∧ R_X11_greatest_L10 K KX n l1 (σ 62 (Int32.toNatClampNeg l5)) 1 1 (l5 + 1) σ))))))))))))))
def R_X11_greatest (a1 : Int32) (σ : pw_Mem) (K : Int32 → pw_Mem → Prop) : Prop := ∃ n7, R_X11_greatest_L10 K (fun y1 y2 y3 y4 y5 τ6 => ((¬ y3 = 0 → ((y4 = 0 → K (-5) τ6) ∧ (¬ y4 = 0 → K y2 τ6))) ∧ (y3 = 0 → K (-4) τ6))) n7 a1 0 1 1 0 σ
set_option maxHeartbeats 4000000 in
theorem t_X11_greatest_L10 {L : pw_Lay} {d : Nat} {K : Int32 → pw_Mem → Prop} {KX : Int32 → Int32 → Int32 → Int32 → Int32 → pw_Mem → Prop} : ∀ (n : Nat) (l1 : Int32) (l2 : Int32) (l3 : Int32) (l4 : Int32) (l5 : Int32) (σ : pw_Mem), R_X11_greatest_L10 K KX n l1 l2 l3 l4 l5 σ → (∀ (l1 : Int32) (l2 : Int32) (l3 : Int32) (l4 : Int32) (l5 : Int32) (τ : pw_Mem), KX l1 l2 l3 l4 l5 τ → PW L (d + 0) m_X11_greatest (ki K) 104 [some (.ref 49), some (.int l1), some (.int l2), some (.int l3), some (.int l4), some (.int l5)] [] τ) → PW L (d + 0) m_X11_greatest (ki K) 10 [some (.ref 49), some (.int l1), some (.int l2), some (.int l3), some (.int l4), some (.int l5)] [] σ := by
  intro n
  induction n with
  | zero => intro l1 l2 l3 l4 l5 _ h _; exact h.elim
  | succ n ih =>
    intro l1 l2 l3 l4 l5 σ h hX
    unfold R_X11_greatest_L10 at h
    refine pw_iload dX11_greatest_10 rfl ?_
    refine pw_aload_n (i := 0) dX11_greatest_12 rfl rfl ?_
    refine pw_getI dX11_greatest_13 fl_X11_91 rfl rfl ?_
    refine pw_icmp_ge (tgt := 104) dX11_greatest_16 rfl (fun q => ?_) (fun q => ?_)
    · have h := h.1 q
      exact hX _ _ _ _ _ _ h
    · have h := h.2 q
      refine pw_iload_n (i := 1) dX11_greatest_19 rfl rfl ?_
      refine pw_iload dX11_greatest_20 rfl ?_
      refine pw_ishr dX11_greatest_22 ?_
      refine pw_iconst (v := 1) dX11_greatest_23 kc_1 ?_
      refine pw_iand dX11_greatest_24 ?_
      refine pw_iconst (v := 1) dX11_greatest_25 kc_1 ?_
      refine pw_icmp_ne (tgt := 98) dX11_greatest_26 rfl (fun q => ?_) (fun q => ?_)
      · have h := h.1 q
        refine pw_iinc (i := 5) (v := l5 + 1) (ls' := [some (.ref 49), some (.int l1), some (.int l2), some (.int l3), some (.int l4), some (.int (l5 + 1))]) dX11_greatest_98 rfl (by rw [kc_1]) (Nat.le_of_ble_eq_true rfl) rfl ?_
        refine pw_goto (tgt := 10) dX11_greatest_101 rfl ?_
        exact ih _ _ _ _ _ _ h hX
      · have h := h.2 q
        refine pw_iload_n (i := 3) dX11_greatest_29 rfl rfl ?_
        refine pw_if_eq (tgt := 49) dX11_greatest_30 rfl (fun q => ?_) (fun q => ?_)
        · have h := h.1 q
          refine pw_iconst (v := 0) dX11_greatest_49 kc_0 ?_
          refine pw_istore_n (i := 3) (ls' := [some (.ref 49), some (.int l1), some (.int l2), some (.int 0), some (.int l4), some (.int l5)]) dX11_greatest_50 rfl (Nat.le_of_ble_eq_true rfl) rfl ?_
          refine pw_iload dX11_greatest_51 rfl ?_
          refine pw_if_eq (tgt := 72) dX11_greatest_53 rfl (fun q => ?_) (fun q => ?_)
          · have h := h.1 q
            refine pw_iconst (v := 0) dX11_greatest_72 kc_0 ?_
            refine pw_istore (i := 4) (ls' := [some (.ref 49), some (.int l1), some (.int l2), some (.int 0), some (.int 0), some (.int l5)]) dX11_greatest_73 (Nat.le_of_ble_eq_true rfl) rfl ?_
            refine pw_aload_n (i := 0) dX11_greatest_75 rfl rfl ?_
            refine pw_getR dX11_greatest_76 fl_X11_46 rfl rfl ?_
            refine pw_iload dX11_greatest_79 rfl ?_
            obtain ⟨hb, h⟩ := h
            refine pw_iald dX11_greatest_81 rfl hb ?_
            refine pw_iload_n (i := 2) dX11_greatest_82 rfl rfl ?_
            refine pw_icmp_le (tgt := 96) dX11_greatest_83 rfl (fun q => ?_) (fun q => ?_)
            · have h := h.1 q
              refine pw_iload_n (i := 2) dX11_greatest_96 rfl rfl ?_
              refine pw_istore_n (i := 2) (ls' := [some (.ref 49), some (.int l1), some (.int l2), some (.int 0), some (.int 0), some (.int l5)]) dX11_greatest_97 rfl (Nat.le_of_ble_eq_true rfl) rfl ?_
              refine pw_iinc (i := 5) (v := l5 + 1) (ls' := [some (.ref 49), some (.int l1), some (.int l2), some (.int 0), some (.int 0), some (.int (l5 + 1))]) dX11_greatest_98 rfl (by rw [kc_1]) (Nat.le_of_ble_eq_true rfl) rfl ?_
              refine pw_goto (tgt := 10) dX11_greatest_101 rfl ?_
              exact ih _ _ _ _ _ _ h hX
            · have h := h.2 q
              refine pw_aload_n (i := 0) dX11_greatest_86 rfl rfl ?_
              refine pw_getR dX11_greatest_87 fl_X11_46 rfl rfl ?_
              refine pw_iload dX11_greatest_90 rfl ?_
              obtain ⟨hb, h⟩ := h
              refine pw_iald dX11_greatest_92 rfl hb ?_
              refine pw_goto (tgt := 97) dX11_greatest_93 rfl ?_
              refine pw_istore_n (i := 2) (ls' := [some (.ref 49), some (.int l1), some (.int (σ 62 (Int32.toNatClampNeg l5))), some (.int 0), some (.int 0), some (.int l5)]) dX11_greatest_97 rfl (Nat.le_of_ble_eq_true rfl) rfl ?_
              refine pw_iinc (i := 5) (v := l5 + 1) (ls' := [some (.ref 49), some (.int l1), some (.int (σ 62 (Int32.toNatClampNeg l5))), some (.int 0), some (.int 0), some (.int (l5 + 1))]) dX11_greatest_98 rfl (by rw [kc_1]) (Nat.le_of_ble_eq_true rfl) rfl ?_
              refine pw_goto (tgt := 10) dX11_greatest_101 rfl ?_
              exact ih _ _ _ _ _ _ h hX
          · have h := h.2 q
            refine pw_aload_n (i := 0) dX11_greatest_56 rfl rfl ?_
            refine pw_getR dX11_greatest_57 fl_X11_46 rfl rfl ?_
            refine pw_iload dX11_greatest_60 rfl ?_
            obtain ⟨hb, h⟩ := h
            refine pw_iald dX11_greatest_62 rfl hb ?_
            refine pw_bipush (v := (-5)) dX11_greatest_63 kb_m5 ?_
            refine pw_icmp_eq (tgt := 72) dX11_greatest_65 rfl (fun q => ?_) (fun q => ?_)
            · have h := h.1 q
              refine pw_iconst (v := 0) dX11_greatest_72 kc_0 ?_
              refine pw_istore (i := 4) (ls' := [some (.ref 49), some (.int l1), some (.int l2), some (.int 0), some (.int 0), some (.int l5)]) dX11_greatest_73 (Nat.le_of_ble_eq_true rfl) rfl ?_
              refine pw_aload_n (i := 0) dX11_greatest_75 rfl rfl ?_
              refine pw_getR dX11_greatest_76 fl_X11_46 rfl rfl ?_
              refine pw_iload dX11_greatest_79 rfl ?_
              obtain ⟨hb, h⟩ := h
              refine pw_iald dX11_greatest_81 rfl hb ?_
              refine pw_iload_n (i := 2) dX11_greatest_82 rfl rfl ?_
              refine pw_icmp_le (tgt := 96) dX11_greatest_83 rfl (fun q => ?_) (fun q => ?_)
              · have h := h.1 q
                refine pw_iload_n (i := 2) dX11_greatest_96 rfl rfl ?_
                refine pw_istore_n (i := 2) (ls' := [some (.ref 49), some (.int l1), some (.int l2), some (.int 0), some (.int 0), some (.int l5)]) dX11_greatest_97 rfl (Nat.le_of_ble_eq_true rfl) rfl ?_
                refine pw_iinc (i := 5) (v := l5 + 1) (ls' := [some (.ref 49), some (.int l1), some (.int l2), some (.int 0), some (.int 0), some (.int (l5 + 1))]) dX11_greatest_98 rfl (by rw [kc_1]) (Nat.le_of_ble_eq_true rfl) rfl ?_
                refine pw_goto (tgt := 10) dX11_greatest_101 rfl ?_
                exact ih _ _ _ _ _ _ h hX
              · have h := h.2 q
                refine pw_aload_n (i := 0) dX11_greatest_86 rfl rfl ?_
                refine pw_getR dX11_greatest_87 fl_X11_46 rfl rfl ?_
                refine pw_iload dX11_greatest_90 rfl ?_
                obtain ⟨hb, h⟩ := h
                refine pw_iald dX11_greatest_92 rfl hb ?_
                refine pw_goto (tgt := 97) dX11_greatest_93 rfl ?_
                refine pw_istore_n (i := 2) (ls' := [some (.ref 49), some (.int l1), some (.int (σ 62 (Int32.toNatClampNeg l5))), some (.int 0), some (.int 0), some (.int l5)]) dX11_greatest_97 rfl (Nat.le_of_ble_eq_true rfl) rfl ?_
                refine pw_iinc (i := 5) (v := l5 + 1) (ls' := [some (.ref 49), some (.int l1), some (.int (σ 62 (Int32.toNatClampNeg l5))), some (.int 0), some (.int 0), some (.int (l5 + 1))]) dX11_greatest_98 rfl (by rw [kc_1]) (Nat.le_of_ble_eq_true rfl) rfl ?_
                refine pw_goto (tgt := 10) dX11_greatest_101 rfl ?_
                exact ih _ _ _ _ _ _ h hX
            · have h := h.2 q
              refine pw_iconst (v := 1) dX11_greatest_68 kc_1 ?_
              refine pw_goto (tgt := 73) dX11_greatest_69 rfl ?_
              refine pw_istore (i := 4) (ls' := [some (.ref 49), some (.int l1), some (.int l2), some (.int 0), some (.int 1), some (.int l5)]) dX11_greatest_73 (Nat.le_of_ble_eq_true rfl) rfl ?_
              refine pw_aload_n (i := 0) dX11_greatest_75 rfl rfl ?_
              refine pw_getR dX11_greatest_76 fl_X11_46 rfl rfl ?_
              refine pw_iload dX11_greatest_79 rfl ?_
              obtain ⟨hb, h⟩ := h
              refine pw_iald dX11_greatest_81 rfl hb ?_
              refine pw_iload_n (i := 2) dX11_greatest_82 rfl rfl ?_
              refine pw_icmp_le (tgt := 96) dX11_greatest_83 rfl (fun q => ?_) (fun q => ?_)
              · have h := h.1 q
                refine pw_iload_n (i := 2) dX11_greatest_96 rfl rfl ?_
                refine pw_istore_n (i := 2) (ls' := [some (.ref 49), some (.int l1), some (.int l2), some (.int 0), some (.int 1), some (.int l5)]) dX11_greatest_97 rfl (Nat.le_of_ble_eq_true rfl) rfl ?_
                refine pw_iinc (i := 5) (v := l5 + 1) (ls' := [some (.ref 49), some (.int l1), some (.int l2), some (.int 0), some (.int 1), some (.int (l5 + 1))]) dX11_greatest_98 rfl (by rw [kc_1]) (Nat.le_of_ble_eq_true rfl) rfl ?_
                refine pw_goto (tgt := 10) dX11_greatest_101 rfl ?_
                exact ih _ _ _ _ _ _ h hX
              · have h := h.2 q
                refine pw_aload_n (i := 0) dX11_greatest_86 rfl rfl ?_
                refine pw_getR dX11_greatest_87 fl_X11_46 rfl rfl ?_
                refine pw_iload dX11_greatest_90 rfl ?_
                obtain ⟨hb, h⟩ := h
                refine pw_iald dX11_greatest_92 rfl hb ?_
                refine pw_goto (tgt := 97) dX11_greatest_93 rfl ?_
                refine pw_istore_n (i := 2) (ls' := [some (.ref 49), some (.int l1), some (.int (σ 62 (Int32.toNatClampNeg l5))), some (.int 0), some (.int 1), some (.int l5)]) dX11_greatest_97 rfl (Nat.le_of_ble_eq_true rfl) rfl ?_
                refine pw_iinc (i := 5) (v := l5 + 1) (ls' := [some (.ref 49), some (.int l1), some (.int (σ 62 (Int32.toNatClampNeg l5))), some (.int 0), some (.int 1), some (.int (l5 + 1))]) dX11_greatest_98 rfl (by rw [kc_1]) (Nat.le_of_ble_eq_true rfl) rfl ?_
                refine pw_goto (tgt := 10) dX11_greatest_101 rfl ?_
                exact ih _ _ _ _ _ _ h hX
        · have h := h.2 q
          refine pw_aload_n (i := 0) dX11_greatest_33 rfl rfl ?_
          refine pw_getR dX11_greatest_34 fl_X11_46 rfl rfl ?_
          refine pw_iload dX11_greatest_37 rfl ?_
          obtain ⟨hb, h⟩ := h
          refine pw_iald dX11_greatest_39 rfl hb ?_
          refine pw_bipush (v := (-4)) dX11_greatest_40 kb_m4 ?_
          refine pw_icmp_eq (tgt := 49) dX11_greatest_42 rfl (fun q => ?_) (fun q => ?_)
          · have h := h.1 q
            refine pw_iconst (v := 0) dX11_greatest_49 kc_0 ?_
            refine pw_istore_n (i := 3) (ls' := [some (.ref 49), some (.int l1), some (.int l2), some (.int 0), some (.int l4), some (.int l5)]) dX11_greatest_50 rfl (Nat.le_of_ble_eq_true rfl) rfl ?_
            refine pw_iload dX11_greatest_51 rfl ?_
            refine pw_if_eq (tgt := 72) dX11_greatest_53 rfl (fun q => ?_) (fun q => ?_)
            · have h := h.1 q
              refine pw_iconst (v := 0) dX11_greatest_72 kc_0 ?_
              refine pw_istore (i := 4) (ls' := [some (.ref 49), some (.int l1), some (.int l2), some (.int 0), some (.int 0), some (.int l5)]) dX11_greatest_73 (Nat.le_of_ble_eq_true rfl) rfl ?_
              refine pw_aload_n (i := 0) dX11_greatest_75 rfl rfl ?_
              refine pw_getR dX11_greatest_76 fl_X11_46 rfl rfl ?_
              refine pw_iload dX11_greatest_79 rfl ?_
              obtain ⟨hb, h⟩ := h
              refine pw_iald dX11_greatest_81 rfl hb ?_
              refine pw_iload_n (i := 2) dX11_greatest_82 rfl rfl ?_
              refine pw_icmp_le (tgt := 96) dX11_greatest_83 rfl (fun q => ?_) (fun q => ?_)
              · have h := h.1 q
                refine pw_iload_n (i := 2) dX11_greatest_96 rfl rfl ?_
                refine pw_istore_n (i := 2) (ls' := [some (.ref 49), some (.int l1), some (.int l2), some (.int 0), some (.int 0), some (.int l5)]) dX11_greatest_97 rfl (Nat.le_of_ble_eq_true rfl) rfl ?_
                refine pw_iinc (i := 5) (v := l5 + 1) (ls' := [some (.ref 49), some (.int l1), some (.int l2), some (.int 0), some (.int 0), some (.int (l5 + 1))]) dX11_greatest_98 rfl (by rw [kc_1]) (Nat.le_of_ble_eq_true rfl) rfl ?_
                refine pw_goto (tgt := 10) dX11_greatest_101 rfl ?_
                exact ih _ _ _ _ _ _ h hX
              · have h := h.2 q
                refine pw_aload_n (i := 0) dX11_greatest_86 rfl rfl ?_
                refine pw_getR dX11_greatest_87 fl_X11_46 rfl rfl ?_
                refine pw_iload dX11_greatest_90 rfl ?_
                obtain ⟨hb, h⟩ := h
                refine pw_iald dX11_greatest_92 rfl hb ?_
                refine pw_goto (tgt := 97) dX11_greatest_93 rfl ?_
                refine pw_istore_n (i := 2) (ls' := [some (.ref 49), some (.int l1), some (.int (σ 62 (Int32.toNatClampNeg l5))), some (.int 0), some (.int 0), some (.int l5)]) dX11_greatest_97 rfl (Nat.le_of_ble_eq_true rfl) rfl ?_
                refine pw_iinc (i := 5) (v := l5 + 1) (ls' := [some (.ref 49), some (.int l1), some (.int (σ 62 (Int32.toNatClampNeg l5))), some (.int 0), some (.int 0), some (.int (l5 + 1))]) dX11_greatest_98 rfl (by rw [kc_1]) (Nat.le_of_ble_eq_true rfl) rfl ?_
                refine pw_goto (tgt := 10) dX11_greatest_101 rfl ?_
                exact ih _ _ _ _ _ _ h hX
            · have h := h.2 q
              refine pw_aload_n (i := 0) dX11_greatest_56 rfl rfl ?_
              refine pw_getR dX11_greatest_57 fl_X11_46 rfl rfl ?_
              refine pw_iload dX11_greatest_60 rfl ?_
              obtain ⟨hb, h⟩ := h
              refine pw_iald dX11_greatest_62 rfl hb ?_
              refine pw_bipush (v := (-5)) dX11_greatest_63 kb_m5 ?_
              refine pw_icmp_eq (tgt := 72) dX11_greatest_65 rfl (fun q => ?_) (fun q => ?_)
              · have h := h.1 q
                refine pw_iconst (v := 0) dX11_greatest_72 kc_0 ?_
                refine pw_istore (i := 4) (ls' := [some (.ref 49), some (.int l1), some (.int l2), some (.int 0), some (.int 0), some (.int l5)]) dX11_greatest_73 (Nat.le_of_ble_eq_true rfl) rfl ?_
                refine pw_aload_n (i := 0) dX11_greatest_75 rfl rfl ?_
                refine pw_getR dX11_greatest_76 fl_X11_46 rfl rfl ?_
                refine pw_iload dX11_greatest_79 rfl ?_
                obtain ⟨hb, h⟩ := h
                refine pw_iald dX11_greatest_81 rfl hb ?_
                refine pw_iload_n (i := 2) dX11_greatest_82 rfl rfl ?_
                refine pw_icmp_le (tgt := 96) dX11_greatest_83 rfl (fun q => ?_) (fun q => ?_)
                · have h := h.1 q
                  refine pw_iload_n (i := 2) dX11_greatest_96 rfl rfl ?_
                  refine pw_istore_n (i := 2) (ls' := [some (.ref 49), some (.int l1), some (.int l2), some (.int 0), some (.int 0), some (.int l5)]) dX11_greatest_97 rfl (Nat.le_of_ble_eq_true rfl) rfl ?_
                  refine pw_iinc (i := 5) (v := l5 + 1) (ls' := [some (.ref 49), some (.int l1), some (.int l2), some (.int 0), some (.int 0), some (.int (l5 + 1))]) dX11_greatest_98 rfl (by rw [kc_1]) (Nat.le_of_ble_eq_true rfl) rfl ?_
                  refine pw_goto (tgt := 10) dX11_greatest_101 rfl ?_
                  exact ih _ _ _ _ _ _ h hX
                · have h := h.2 q
                  refine pw_aload_n (i := 0) dX11_greatest_86 rfl rfl ?_
                  refine pw_getR dX11_greatest_87 fl_X11_46 rfl rfl ?_
                  refine pw_iload dX11_greatest_90 rfl ?_
                  obtain ⟨hb, h⟩ := h
                  refine pw_iald dX11_greatest_92 rfl hb ?_
                  refine pw_goto (tgt := 97) dX11_greatest_93 rfl ?_
                  refine pw_istore_n (i := 2) (ls' := [some (.ref 49), some (.int l1), some (.int (σ 62 (Int32.toNatClampNeg l5))), some (.int 0), some (.int 0), some (.int l5)]) dX11_greatest_97 rfl (Nat.le_of_ble_eq_true rfl) rfl ?_
                  refine pw_iinc (i := 5) (v := l5 + 1) (ls' := [some (.ref 49), some (.int l1), some (.int (σ 62 (Int32.toNatClampNeg l5))), some (.int 0), some (.int 0), some (.int (l5 + 1))]) dX11_greatest_98 rfl (by rw [kc_1]) (Nat.le_of_ble_eq_true rfl) rfl ?_
                  refine pw_goto (tgt := 10) dX11_greatest_101 rfl ?_
                  exact ih _ _ _ _ _ _ h hX
              · have h := h.2 q
                refine pw_iconst (v := 1) dX11_greatest_68 kc_1 ?_
                refine pw_goto (tgt := 73) dX11_greatest_69 rfl ?_
                refine pw_istore (i := 4) (ls' := [some (.ref 49), some (.int l1), some (.int l2), some (.int 0), some (.int 1), some (.int l5)]) dX11_greatest_73 (Nat.le_of_ble_eq_true rfl) rfl ?_
                refine pw_aload_n (i := 0) dX11_greatest_75 rfl rfl ?_
                refine pw_getR dX11_greatest_76 fl_X11_46 rfl rfl ?_
                refine pw_iload dX11_greatest_79 rfl ?_
                obtain ⟨hb, h⟩ := h
                refine pw_iald dX11_greatest_81 rfl hb ?_
                refine pw_iload_n (i := 2) dX11_greatest_82 rfl rfl ?_
                refine pw_icmp_le (tgt := 96) dX11_greatest_83 rfl (fun q => ?_) (fun q => ?_)
                · have h := h.1 q
                  refine pw_iload_n (i := 2) dX11_greatest_96 rfl rfl ?_
                  refine pw_istore_n (i := 2) (ls' := [some (.ref 49), some (.int l1), some (.int l2), some (.int 0), some (.int 1), some (.int l5)]) dX11_greatest_97 rfl (Nat.le_of_ble_eq_true rfl) rfl ?_
                  refine pw_iinc (i := 5) (v := l5 + 1) (ls' := [some (.ref 49), some (.int l1), some (.int l2), some (.int 0), some (.int 1), some (.int (l5 + 1))]) dX11_greatest_98 rfl (by rw [kc_1]) (Nat.le_of_ble_eq_true rfl) rfl ?_
                  refine pw_goto (tgt := 10) dX11_greatest_101 rfl ?_
                  exact ih _ _ _ _ _ _ h hX
                · have h := h.2 q
                  refine pw_aload_n (i := 0) dX11_greatest_86 rfl rfl ?_
                  refine pw_getR dX11_greatest_87 fl_X11_46 rfl rfl ?_
                  refine pw_iload dX11_greatest_90 rfl ?_
                  obtain ⟨hb, h⟩ := h
                  refine pw_iald dX11_greatest_92 rfl hb ?_
                  refine pw_goto (tgt := 97) dX11_greatest_93 rfl ?_
                  refine pw_istore_n (i := 2) (ls' := [some (.ref 49), some (.int l1), some (.int (σ 62 (Int32.toNatClampNeg l5))), some (.int 0), some (.int 1), some (.int l5)]) dX11_greatest_97 rfl (Nat.le_of_ble_eq_true rfl) rfl ?_
                  refine pw_iinc (i := 5) (v := l5 + 1) (ls' := [some (.ref 49), some (.int l1), some (.int (σ 62 (Int32.toNatClampNeg l5))), some (.int 0), some (.int 1), some (.int (l5 + 1))]) dX11_greatest_98 rfl (by rw [kc_1]) (Nat.le_of_ble_eq_true rfl) rfl ?_
                  refine pw_goto (tgt := 10) dX11_greatest_101 rfl ?_
                  exact ih _ _ _ _ _ _ h hX
          · have h := h.2 q
            refine pw_iconst (v := 1) dX11_greatest_45 kc_1 ?_
            refine pw_goto (tgt := 50) dX11_greatest_46 rfl ?_
            refine pw_istore_n (i := 3) (ls' := [some (.ref 49), some (.int l1), some (.int l2), some (.int 1), some (.int l4), some (.int l5)]) dX11_greatest_50 rfl (Nat.le_of_ble_eq_true rfl) rfl ?_
            refine pw_iload dX11_greatest_51 rfl ?_
            refine pw_if_eq (tgt := 72) dX11_greatest_53 rfl (fun q => ?_) (fun q => ?_)
            · have h := h.1 q
              refine pw_iconst (v := 0) dX11_greatest_72 kc_0 ?_
              refine pw_istore (i := 4) (ls' := [some (.ref 49), some (.int l1), some (.int l2), some (.int 1), some (.int 0), some (.int l5)]) dX11_greatest_73 (Nat.le_of_ble_eq_true rfl) rfl ?_
              refine pw_aload_n (i := 0) dX11_greatest_75 rfl rfl ?_
              refine pw_getR dX11_greatest_76 fl_X11_46 rfl rfl ?_
              refine pw_iload dX11_greatest_79 rfl ?_
              obtain ⟨hb, h⟩ := h
              refine pw_iald dX11_greatest_81 rfl hb ?_
              refine pw_iload_n (i := 2) dX11_greatest_82 rfl rfl ?_
              refine pw_icmp_le (tgt := 96) dX11_greatest_83 rfl (fun q => ?_) (fun q => ?_)
              · have h := h.1 q
                refine pw_iload_n (i := 2) dX11_greatest_96 rfl rfl ?_
                refine pw_istore_n (i := 2) (ls' := [some (.ref 49), some (.int l1), some (.int l2), some (.int 1), some (.int 0), some (.int l5)]) dX11_greatest_97 rfl (Nat.le_of_ble_eq_true rfl) rfl ?_
                refine pw_iinc (i := 5) (v := l5 + 1) (ls' := [some (.ref 49), some (.int l1), some (.int l2), some (.int 1), some (.int 0), some (.int (l5 + 1))]) dX11_greatest_98 rfl (by rw [kc_1]) (Nat.le_of_ble_eq_true rfl) rfl ?_
                refine pw_goto (tgt := 10) dX11_greatest_101 rfl ?_
                exact ih _ _ _ _ _ _ h hX
              · have h := h.2 q
                refine pw_aload_n (i := 0) dX11_greatest_86 rfl rfl ?_
                refine pw_getR dX11_greatest_87 fl_X11_46 rfl rfl ?_
                refine pw_iload dX11_greatest_90 rfl ?_
                obtain ⟨hb, h⟩ := h
                refine pw_iald dX11_greatest_92 rfl hb ?_
                refine pw_goto (tgt := 97) dX11_greatest_93 rfl ?_
                refine pw_istore_n (i := 2) (ls' := [some (.ref 49), some (.int l1), some (.int (σ 62 (Int32.toNatClampNeg l5))), some (.int 1), some (.int 0), some (.int l5)]) dX11_greatest_97 rfl (Nat.le_of_ble_eq_true rfl) rfl ?_
                refine pw_iinc (i := 5) (v := l5 + 1) (ls' := [some (.ref 49), some (.int l1), some (.int (σ 62 (Int32.toNatClampNeg l5))), some (.int 1), some (.int 0), some (.int (l5 + 1))]) dX11_greatest_98 rfl (by rw [kc_1]) (Nat.le_of_ble_eq_true rfl) rfl ?_
                refine pw_goto (tgt := 10) dX11_greatest_101 rfl ?_
                exact ih _ _ _ _ _ _ h hX
            · have h := h.2 q
              refine pw_aload_n (i := 0) dX11_greatest_56 rfl rfl ?_
              refine pw_getR dX11_greatest_57 fl_X11_46 rfl rfl ?_
              refine pw_iload dX11_greatest_60 rfl ?_
              obtain ⟨hb, h⟩ := h
              refine pw_iald dX11_greatest_62 rfl hb ?_
              refine pw_bipush (v := (-5)) dX11_greatest_63 kb_m5 ?_
              refine pw_icmp_eq (tgt := 72) dX11_greatest_65 rfl (fun q => ?_) (fun q => ?_)
              · have h := h.1 q
                refine pw_iconst (v := 0) dX11_greatest_72 kc_0 ?_
                refine pw_istore (i := 4) (ls' := [some (.ref 49), some (.int l1), some (.int l2), some (.int 1), some (.int 0), some (.int l5)]) dX11_greatest_73 (Nat.le_of_ble_eq_true rfl) rfl ?_
                refine pw_aload_n (i := 0) dX11_greatest_75 rfl rfl ?_
                refine pw_getR dX11_greatest_76 fl_X11_46 rfl rfl ?_
                refine pw_iload dX11_greatest_79 rfl ?_
                obtain ⟨hb, h⟩ := h
                refine pw_iald dX11_greatest_81 rfl hb ?_
                refine pw_iload_n (i := 2) dX11_greatest_82 rfl rfl ?_
                refine pw_icmp_le (tgt := 96) dX11_greatest_83 rfl (fun q => ?_) (fun q => ?_)
                · have h := h.1 q
                  refine pw_iload_n (i := 2) dX11_greatest_96 rfl rfl ?_
                  refine pw_istore_n (i := 2) (ls' := [some (.ref 49), some (.int l1), some (.int l2), some (.int 1), some (.int 0), some (.int l5)]) dX11_greatest_97 rfl (Nat.le_of_ble_eq_true rfl) rfl ?_
                  refine pw_iinc (i := 5) (v := l5 + 1) (ls' := [some (.ref 49), some (.int l1), some (.int l2), some (.int 1), some (.int 0), some (.int (l5 + 1))]) dX11_greatest_98 rfl (by rw [kc_1]) (Nat.le_of_ble_eq_true rfl) rfl ?_
                  refine pw_goto (tgt := 10) dX11_greatest_101 rfl ?_
                  exact ih _ _ _ _ _ _ h hX
                · have h := h.2 q
                  refine pw_aload_n (i := 0) dX11_greatest_86 rfl rfl ?_
                  refine pw_getR dX11_greatest_87 fl_X11_46 rfl rfl ?_
                  refine pw_iload dX11_greatest_90 rfl ?_
                  obtain ⟨hb, h⟩ := h
                  refine pw_iald dX11_greatest_92 rfl hb ?_
                  refine pw_goto (tgt := 97) dX11_greatest_93 rfl ?_
                  refine pw_istore_n (i := 2) (ls' := [some (.ref 49), some (.int l1), some (.int (σ 62 (Int32.toNatClampNeg l5))), some (.int 1), some (.int 0), some (.int l5)]) dX11_greatest_97 rfl (Nat.le_of_ble_eq_true rfl) rfl ?_
                  refine pw_iinc (i := 5) (v := l5 + 1) (ls' := [some (.ref 49), some (.int l1), some (.int (σ 62 (Int32.toNatClampNeg l5))), some (.int 1), some (.int 0), some (.int (l5 + 1))]) dX11_greatest_98 rfl (by rw [kc_1]) (Nat.le_of_ble_eq_true rfl) rfl ?_
                  refine pw_goto (tgt := 10) dX11_greatest_101 rfl ?_
                  exact ih _ _ _ _ _ _ h hX
              · have h := h.2 q
                refine pw_iconst (v := 1) dX11_greatest_68 kc_1 ?_
                refine pw_goto (tgt := 73) dX11_greatest_69 rfl ?_
                refine pw_istore (i := 4) (ls' := [some (.ref 49), some (.int l1), some (.int l2), some (.int 1), some (.int 1), some (.int l5)]) dX11_greatest_73 (Nat.le_of_ble_eq_true rfl) rfl ?_
                refine pw_aload_n (i := 0) dX11_greatest_75 rfl rfl ?_
                refine pw_getR dX11_greatest_76 fl_X11_46 rfl rfl ?_
                refine pw_iload dX11_greatest_79 rfl ?_
                obtain ⟨hb, h⟩ := h
                refine pw_iald dX11_greatest_81 rfl hb ?_
                refine pw_iload_n (i := 2) dX11_greatest_82 rfl rfl ?_
                refine pw_icmp_le (tgt := 96) dX11_greatest_83 rfl (fun q => ?_) (fun q => ?_)
                · have h := h.1 q
                  refine pw_iload_n (i := 2) dX11_greatest_96 rfl rfl ?_
                  refine pw_istore_n (i := 2) (ls' := [some (.ref 49), some (.int l1), some (.int l2), some (.int 1), some (.int 1), some (.int l5)]) dX11_greatest_97 rfl (Nat.le_of_ble_eq_true rfl) rfl ?_
                  refine pw_iinc (i := 5) (v := l5 + 1) (ls' := [some (.ref 49), some (.int l1), some (.int l2), some (.int 1), some (.int 1), some (.int (l5 + 1))]) dX11_greatest_98 rfl (by rw [kc_1]) (Nat.le_of_ble_eq_true rfl) rfl ?_
                  refine pw_goto (tgt := 10) dX11_greatest_101 rfl ?_
                  exact ih _ _ _ _ _ _ h hX
                · have h := h.2 q
                  refine pw_aload_n (i := 0) dX11_greatest_86 rfl rfl ?_
                  refine pw_getR dX11_greatest_87 fl_X11_46 rfl rfl ?_
                  refine pw_iload dX11_greatest_90 rfl ?_
                  obtain ⟨hb, h⟩ := h
                  refine pw_iald dX11_greatest_92 rfl hb ?_
                  refine pw_goto (tgt := 97) dX11_greatest_93 rfl ?_
                  refine pw_istore_n (i := 2) (ls' := [some (.ref 49), some (.int l1), some (.int (σ 62 (Int32.toNatClampNeg l5))), some (.int 1), some (.int 1), some (.int l5)]) dX11_greatest_97 rfl (Nat.le_of_ble_eq_true rfl) rfl ?_
                  refine pw_iinc (i := 5) (v := l5 + 1) (ls' := [some (.ref 49), some (.int l1), some (.int (σ 62 (Int32.toNatClampNeg l5))), some (.int 1), some (.int 1), some (.int (l5 + 1))]) dX11_greatest_98 rfl (by rw [kc_1]) (Nat.le_of_ble_eq_true rfl) rfl ?_
                  refine pw_goto (tgt := 10) dX11_greatest_101 rfl ?_
                  exact ih _ _ _ _ _ _ h hX
set_option maxHeartbeats 4000000 in
theorem c_X11_greatest {L : pw_Lay} {d : Nat} {a1 : Int32} {σ : pw_Mem} {K : Int32 → pw_Mem → Prop} (h : R_X11_greatest a1 σ K) : CT L (d + 0) m_X11_greatest [.ref 49, .int a1] σ (ki K) := by
  refine pw_enter (by decide) rfl (Nat.le_of_ble_eq_true rfl) (ls := [some (.ref 49), some (.int a1), none, none, none, none]) rfl ?_
  unfold R_X11_greatest at h
  refine pw_iconst (v := 0) dX11_greatest_0 kc_0 ?_
  refine pw_istore_n (i := 2) (ls' := [some (.ref 49), some (.int a1), some (.int 0), none, none, none]) dX11_greatest_1 rfl (Nat.le_of_ble_eq_true rfl) rfl ?_
  refine pw_iconst (v := 1) dX11_greatest_2 kc_1 ?_
  refine pw_istore_n (i := 3) (ls' := [some (.ref 49), some (.int a1), some (.int 0), some (.int 1), none, none]) dX11_greatest_3 rfl (Nat.le_of_ble_eq_true rfl) rfl ?_
  refine pw_iconst (v := 1) dX11_greatest_4 kc_1 ?_
  refine pw_istore (i := 4) (ls' := [some (.ref 49), some (.int a1), some (.int 0), some (.int 1), some (.int 1), none]) dX11_greatest_5 (Nat.le_of_ble_eq_true rfl) rfl ?_
  refine pw_iconst (v := 0) dX11_greatest_7 kc_0 ?_
  refine pw_istore (i := 5) (ls' := [some (.ref 49), some (.int a1), some (.int 0), some (.int 1), some (.int 1), some (.int 0)]) dX11_greatest_8 (Nat.le_of_ble_eq_true rfl) rfl ?_
  obtain ⟨n7, h⟩ := h
  refine t_X11_greatest_L10 _ _ _ _ _ _ _ h (fun y1 y2 y3 y4 y5 τ6 h => ?_)
  refine pw_iload_n (i := 3) dX11_greatest_104 rfl rfl ?_
  refine pw_if_ne (tgt := 113) dX11_greatest_105 rfl (fun q => ?_) (fun q => ?_)
  · have h := h.1 q
    refine pw_iload dX11_greatest_113 rfl ?_
    refine pw_if_eq (tgt := 122) dX11_greatest_115 rfl (fun q => ?_) (fun q => ?_)
    · have h := h.1 q
      refine pw_bipush (v := (-5)) dX11_greatest_122 kb_m5 ?_
      exact pw_ret dX11_greatest_124 rfl rfl ⟨_, rfl, h⟩
    · have h := h.2 q
      refine pw_iload_n (i := 2) dX11_greatest_118 rfl rfl ?_
      refine pw_goto (tgt := 124) dX11_greatest_119 rfl ?_
      exact pw_ret dX11_greatest_124 rfl rfl ⟨_, rfl, h⟩
  · have h := h.2 q
    refine pw_bipush (v := (-4)) dX11_greatest_108 kb_m4 ?_
    refine pw_goto (tgt := 124) dX11_greatest_110 rfl ?_
    exact pw_ret dX11_greatest_124 rfl rfl ⟨_, rfl, h⟩
