/-! constructors of the class's parts -/
theorem ff_X5_9 : pw_FF RX5 9 5 0 (.array .int) := ⟨RX5, TX5, 3, tyX5, rfl, by decide, pw_in (by decide +kernel) (by decide +kernel), pw_uX5, tyX5_ok, nmX5, rfl, rfl, by decide +kernel⟩
theorem ff_X5_15 : pw_FF RX5 15 5 1 (.array .int) := ⟨RX5, TX5, 3, tyX5, rfl, by decide, pw_in (by decide +kernel) (by decide +kernel), pw_uX5, tyX5_ok, nmX5, rfl, rfl, by decide +kernel⟩
theorem ff_X4_9 : pw_FF RX4 9 4 0 (.array .int) := ⟨RX4, TX4, 3, tyX4, rfl, by decide, pw_in (by decide +kernel) (by decide +kernel), pw_uX4, tyX4_ok, nmX4, rfl, rfl, by decide +kernel⟩
theorem ff_X4_15 : pw_FF RX4 15 4 1 (.array .int) := ⟨RX4, TX4, 3, tyX4, rfl, by decide, pw_in (by decide +kernel) (by decide +kernel), pw_uX4, tyX4_ok, nmX4, rfl, rfl, by decide +kernel⟩
theorem ff_X4_18 : pw_FF RX4 18 4 2 (.array .int) := ⟨RX4, TX4, 3, tyX4, rfl, by decide, pw_in (by decide +kernel) (by decide +kernel), pw_uX4, tyX4_ok, nmX4, rfl, rfl, by decide +kernel⟩
theorem fq_X2_9 : pw_FP RX2 9 2 3 .boolean := ⟨RX2, TX2, 11, tyX2, rfl, by decide, pw_in (by decide +kernel) (by decide +kernel), pw_uX2, tyX2_ok, nmX2, rfl, by decide +kernel⟩
theorem ff_X2_15 : pw_FF RX2 15 2 4 (.array .int) := ⟨RX2, TX2, 11, tyX2, rfl, by decide, pw_in (by decide +kernel) (by decide +kernel), pw_uX2, tyX2_ok, nmX2, rfl, rfl, by decide +kernel⟩
theorem ff_X2_19 : pw_FF RX2 19 2 5 (.array .int) := ⟨RX2, TX2, 11, tyX2, rfl, by decide, pw_in (by decide +kernel) (by decide +kernel), pw_uX2, tyX2_ok, nmX2, rfl, rfl, by decide +kernel⟩
theorem ff_X2_22 : pw_FF RX2 22 2 6 (.array .int) := ⟨RX2, TX2, 11, tyX2, rfl, by decide, pw_in (by decide +kernel) (by decide +kernel), pw_uX2, tyX2_ok, nmX2, rfl, rfl, by decide +kernel⟩
theorem ff_X2_25 : pw_FF RX2 25 2 7 (.array .int) := ⟨RX2, TX2, 11, tyX2, rfl, by decide, pw_in (by decide +kernel) (by decide +kernel), pw_uX2, tyX2_ok, nmX2, rfl, rfl, by decide +kernel⟩
theorem ff_X2_28 : pw_FF RX2 28 2 9 (.array .int) := ⟨RX2, TX2, 11, tyX2, rfl, by decide, pw_in (by decide +kernel) (by decide +kernel), pw_uX2, tyX2_ok, nmX2, rfl, rfl, by decide +kernel⟩
theorem ff_X2_31 : pw_FF RX2 31 2 0 (.object "StackDepths$Routines") := ⟨RX2, TX2, 11, tyX2, rfl, by decide, pw_in (by decide +kernel) (by decide +kernel), pw_uX2, tyX2_ok, nmX2, rfl, rfl, by decide +kernel⟩
theorem ff_X2_35 : pw_FF RX2 35 2 1 (.object "StackDepths$Pointers") := ⟨RX2, TX2, 11, tyX2, rfl, by decide, pw_in (by decide +kernel) (by decide +kernel), pw_uX2, tyX2_ok, nmX2, rfl, rfl, by decide +kernel⟩
theorem ff_X2_39 : pw_FF RX2 39 2 2 (.object "StackDepths$Calls") := ⟨RX2, TX2, 11, tyX2, rfl, by decide, pw_in (by decide +kernel) (by decide +kernel), pw_uX2, tyX2_ok, nmX2, rfl, rfl, by decide +kernel⟩
theorem fq_X1_9 : pw_FP RX1 9 1 2 .int := ⟨RX1, TX1, 4, tyX1, rfl, by decide, pw_in (by decide +kernel) (by decide +kernel), pw_uX1, tyX1_ok, nmX1, rfl, by decide +kernel⟩
theorem ff_X1_15 : pw_FF RX1 15 1 3 (.array .int) := ⟨RX1, TX1, 4, tyX1, rfl, by decide, pw_in (by decide +kernel) (by decide +kernel), pw_uX1, tyX1_ok, nmX1, rfl, rfl, by decide +kernel⟩
theorem ff_X1_19 : pw_FF RX1 19 1 0 (.object "StackDepths$Routines") := ⟨RX1, TX1, 4, tyX1, rfl, by decide, pw_in (by decide +kernel) (by decide +kernel), pw_uX1, tyX1_ok, nmX1, rfl, rfl, by decide +kernel⟩
theorem ff_X1_23 : pw_FF RX1 23 1 1 (.object "StackDepths$Graph") := ⟨RX1, TX1, 4, tyX1, rfl, by decide, pw_in (by decide +kernel) (by decide +kernel), pw_uX1, tyX1_ok, nmX1, rfl, rfl, by decide +kernel⟩
theorem ff_X3_9 : pw_FF RX3 9 3 0 (.array .int) := ⟨RX3, TX3, 4, tyX3, rfl, by decide, pw_in (by decide +kernel) (by decide +kernel), pw_uX3, tyX3_ok, nmX3, rfl, rfl, by decide +kernel⟩
theorem ff_X3_15 : pw_FF RX3 15 3 1 (.array .int) := ⟨RX3, TX3, 4, tyX3, rfl, by decide, pw_in (by decide +kernel) (by decide +kernel), pw_uX3, tyX3_ok, nmX3, rfl, rfl, by decide +kernel⟩
theorem ff_X3_18 : pw_FF RX3 18 3 2 (.array .int) := ⟨RX3, TX3, 4, tyX3, rfl, by decide, pw_in (by decide +kernel) (by decide +kernel), pw_uX3, tyX3_ok, nmX3, rfl, rfl, by decide +kernel⟩
theorem ff_X8_9 : pw_FF RX8 9 8 0 (.array .int) := ⟨RX8, TX8, 5, tyX8, rfl, by decide, pw_in (by decide +kernel) (by decide +kernel), pw_uX8, tyX8_ok, nmX8, rfl, rfl, by decide +kernel⟩
theorem ff_X8_15 : pw_FF RX8 15 8 1 (.array .int) := ⟨RX8, TX8, 5, tyX8, rfl, by decide, pw_in (by decide +kernel) (by decide +kernel), pw_uX8, tyX8_ok, nmX8, rfl, rfl, by decide +kernel⟩
theorem ff_X8_18 : pw_FF RX8 18 8 2 (.array .int) := ⟨RX8, TX8, 5, tyX8, rfl, by decide, pw_in (by decide +kernel) (by decide +kernel), pw_uX8, tyX8_ok, nmX8, rfl, rfl, by decide +kernel⟩
theorem ff_X8_21 : pw_FF RX8 21 8 3 (.array .int) := ⟨RX8, TX8, 5, tyX8, rfl, by decide, pw_in (by decide +kernel) (by decide +kernel), pw_uX8, tyX8_ok, nmX8, rfl, rfl, by decide +kernel⟩
theorem ff_X6_9 : pw_FF RX6 9 6 0 (.array .int) := ⟨RX6, TX6, 6, tyX6, rfl, by decide, pw_in (by decide +kernel) (by decide +kernel), pw_uX6, tyX6_ok, nmX6, rfl, rfl, by decide +kernel⟩
theorem ff_X6_15 : pw_FF RX6 15 6 1 (.array .int) := ⟨RX6, TX6, 6, tyX6, rfl, by decide, pw_in (by decide +kernel) (by decide +kernel), pw_uX6, tyX6_ok, nmX6, rfl, rfl, by decide +kernel⟩
theorem ff_X6_18 : pw_FF RX6 18 6 2 (.array .int) := ⟨RX6, TX6, 6, tyX6, rfl, by decide, pw_in (by decide +kernel) (by decide +kernel), pw_uX6, tyX6_ok, nmX6, rfl, rfl, by decide +kernel⟩
theorem ff_X6_21 : pw_FF RX6 21 6 3 (.array .int) := ⟨RX6, TX6, 6, tyX6, rfl, by decide, pw_in (by decide +kernel) (by decide +kernel), pw_uX6, tyX6_ok, nmX6, rfl, rfl, by decide +kernel⟩
theorem ff_X6_24 : pw_FF RX6 24 6 4 (.array .int) := ⟨RX6, TX6, 6, tyX6, rfl, by decide, pw_in (by decide +kernel) (by decide +kernel), pw_uX6, tyX6_ok, nmX6, rfl, rfl, by decide +kernel⟩
theorem ff_X9_9 : pw_FF RX9 9 9 0 (.array .int) := ⟨RX9, TX9, 8, tyX9, rfl, by decide, pw_in (by decide +kernel) (by decide +kernel), pw_uX9, tyX9_ok, nmX9, rfl, rfl, by decide +kernel⟩
theorem ff_X9_15 : pw_FF RX9 15 9 1 (.array .int) := ⟨RX9, TX9, 8, tyX9, rfl, by decide, pw_in (by decide +kernel) (by decide +kernel), pw_uX9, tyX9_ok, nmX9, rfl, rfl, by decide +kernel⟩
theorem fq_X9_18 : pw_FP RX9 18 9 7 .int := ⟨RX9, TX9, 8, tyX9, rfl, by decide, pw_in (by decide +kernel) (by decide +kernel), pw_uX9, tyX9_ok, nmX9, rfl, by decide +kernel⟩
theorem ff_X7_9 : pw_FF RX7 9 7 0 (.array .int) := ⟨RX7, TX7, 3, tyX7, rfl, by decide, pw_in (by decide +kernel) (by decide +kernel), pw_uX7, tyX7_ok, nmX7, rfl, rfl, by decide +kernel⟩
theorem fq_X7_15 : pw_FP RX7 15 7 2 .int := ⟨RX7, TX7, 3, tyX7, rfl, by decide, pw_in (by decide +kernel) (by decide +kernel), pw_uX7, tyX7_ok, nmX7, rfl, by decide +kernel⟩
def W_X5 (cI : ClassId) (h0 : Nat) (ad : Nat → Nat) : va_W := [(h0, .inr (5, [.ref (ad 0), .ref (ad 1), .int 0])), (ad 0, zI cI 20), (ad 1, zI cI 20)]
theorem lo_X5 : Cond.methodLink RX5 3 Lib.objectInit ∈ pw_ws := pw_in (by decide +kernel) (by decide +kernel)
set_option maxHeartbeats 4000000 in
set_option maxRecDepth 100000 in
theorem c_X5_init {G : va_G} {cI cB cS : ClassId} {l : Launch} (h0 : Nat) : cMet G [(cI, .int), (cB, .array .int), (cS, .object "StackDepths$Sheet")] l m_X5_init [] h0 (.inr (5, [.null, .null, .int 0])) (W_X5 cI h0) { frames := 1, cells := 2, slots := 40, locals := 12 } := by
  refine ctor (lv := []) rfl rfl (by decide +kernel) (Nat.le_of_ble_eq_true rfl) rfl dX5_init_0 dX5_init_1 lo_X5 (Nat.le_refl _) (Nat.le_refl _) ?_
  intro p e s m below meth c ls hE ha hao hA hl hP hD hS
  have hx := hE.1
  have hb := hE.2.1
  refine w_arr hE rfl hA (lv_at hl 0 rfl) dX5_init_4 (fun k => lv_bipush hx hb dX5_init_5 (by decide) k) dX5_init_7 dX5_init_9 ff_X5_9 (n := 20) (N' := 20) (Nat.le_of_ble_eq_true rfl) (by decide) (by decide) (by decide) (Nat.le_of_ble_eq_true rfl) (Nat.le_of_ble_eq_true rfl) hP hD hS (fun q0 H locs hP hD hS => ?_)
  refine w_arr hE rfl hA (lv_at hl 0 rfl) dX5_init_12 (fun k => lv_bipush hx hb dX5_init_13 (by decide) k) dX5_init_15 dX5_init_17 ff_X5_15 (n := 20) (N' := 20) (Nat.le_of_ble_eq_true rfl) (by decide) (by decide) (by decide) (Nat.le_of_ble_eq_true rfl) (Nat.le_of_ble_eq_true rfl) hP hD hS (fun q1 H locs hP hD hS => ?_)
  exact W.vret hx hb hE.2.2.1 (fun t ht _ => ⟨⟨fun k => [q0, q1].getD k 0, rfl, trivial, by rw [ht]; exact hP, hD⟩, hS.F ht⟩) hS.2.2 dX5_init_20 hE.2.2.2.2.2.2.2.2.1
def W_X4 (cI : ClassId) (h0 : Nat) (ad : Nat → Nat) : va_W := [(h0, .inr (4, [.ref (ad 0), .ref (ad 1), .ref (ad 2)])), (ad 0, zI cI 8), (ad 1, zI cI 8), (ad 2, zI cI 8)]
theorem lo_X4 : Cond.methodLink RX4 3 Lib.objectInit ∈ pw_ws := pw_in (by decide +kernel) (by decide +kernel)
set_option maxHeartbeats 4000000 in
set_option maxRecDepth 100000 in
theorem c_X4_init {G : va_G} {cI cB cS : ClassId} {l : Launch} (h0 : Nat) : cMet G [(cI, .int), (cB, .array .int), (cS, .object "StackDepths$Sheet")] l m_X4_init [] h0 (.inr (4, [.null, .null, .null])) (W_X4 cI h0) { frames := 1, cells := 3, slots := 24, locals := 12 } := by
  refine ctor (lv := []) rfl rfl (by decide +kernel) (Nat.le_of_ble_eq_true rfl) rfl dX4_init_0 dX4_init_1 lo_X4 (Nat.le_refl _) (Nat.le_refl _) ?_
  intro p e s m below meth c ls hE ha hao hA hl hP hD hS
  have hx := hE.1
  have hb := hE.2.1
  refine w_arr hE rfl hA (lv_at hl 0 rfl) dX4_init_4 (fun k => lv_bipush hx hb dX4_init_5 (by decide) k) dX4_init_7 dX4_init_9 ff_X4_9 (n := 8) (N' := 8) (Nat.le_of_ble_eq_true rfl) (by decide) (by decide) (by decide) (Nat.le_of_ble_eq_true rfl) (Nat.le_of_ble_eq_true rfl) hP hD hS (fun q0 H locs hP hD hS => ?_)
  refine w_arr hE rfl hA (lv_at hl 0 rfl) dX4_init_12 (fun k => lv_bipush hx hb dX4_init_13 (by decide) k) dX4_init_15 dX4_init_17 ff_X4_15 (n := 8) (N' := 8) (Nat.le_of_ble_eq_true rfl) (by decide) (by decide) (by decide) (Nat.le_of_ble_eq_true rfl) (Nat.le_of_ble_eq_true rfl) hP hD hS (fun q1 H locs hP hD hS => ?_)
  refine w_arr hE rfl hA (lv_at hl 0 rfl) dX4_init_20 (fun k => lv_bipush hx hb dX4_init_21 (by decide) k) dX4_init_23 dX4_init_25 ff_X4_18 (n := 8) (N' := 8) (Nat.le_of_ble_eq_true rfl) (by decide) (by decide) (by decide) (Nat.le_of_ble_eq_true rfl) (Nat.le_of_ble_eq_true rfl) hP hD hS (fun q2 H locs hP hD hS => ?_)
  exact W.vret hx hb hE.2.2.1 (fun t ht _ => ⟨⟨fun k => [q0, q1, q2].getD k 0, rfl, trivial, by rw [ht]; exact hP, hD⟩, hS.F ht⟩) hS.2.2 dX4_init_28 hE.2.2.2.2.2.2.2.2.1
def W_X2 (cI : ClassId) (h0 : Nat) (a1 a2 a3 : Nat) (ad : Nat → Nat) : va_W := [(h0, .inr (2, [.ref a1, .ref a2, .ref a3, .int 1, .ref (ad 0), .ref (ad 1), .ref (ad 2), .ref (ad 3), .int 0, .ref (ad 4), .int 0])), (ad 0, zI cI 20), (ad 1, zI cI 20), (ad 2, zI cI 20), (ad 3, zI cI 20), (ad 4, zI cI 20)]
theorem lo_X2 : Cond.methodLink RX2 3 Lib.objectInit ∈ pw_ws := pw_in (by decide +kernel) (by decide +kernel)
set_option maxHeartbeats 4000000 in
set_option maxRecDepth 100000 in
theorem c_X2_init {G : va_G} {cI cB cS : ClassId} {l : Launch} (h0 : Nat) (a1 a2 a3 : Nat) : cMet G [(cI, .int), (cB, .array .int), (cS, .object "StackDepths$Sheet")] l m_X2_init [.ref a1, .ref a2, .ref a3] h0 (.inr (2, [.null, .null, .null, .int 0, .null, .null, .null, .null, .int 0, .null, .int 0])) (W_X2 cI h0 a1 a2 a3) { frames := 1, cells := 5, slots := 100, locals := 12 } := by
  refine ctor (lv := [(1, .ref a1), (2, .ref a2), (3, .ref a3)]) rfl rfl (by decide +kernel) (Nat.le_of_ble_eq_true rfl) rfl dX2_init_0 dX2_init_1 lo_X2 (Nat.le_refl _) (Nat.le_refl _) ?_
  intro p e s m below meth c ls hE ha hao hA hl hP hD hS
  have hx := hE.1
  have hb := hE.2.1
  refine lv_aload_n hx hb dX2_init_4 rfl (lv_at hl 0 rfl) ?_
  refine lv_iconst (v := 1) hx hb dX2_init_5 (by decide) ?_
  refine w_put hE fq_X2_9 rfl rfl (Nat.le_of_ble_eq_true rfl) hP hD hS dX2_init_6 (fun H locs hP hD hS => ?_)
  refine w_arr hE rfl hA (lv_at hl 0 rfl) dX2_init_9 (fun k => lv_bipush hx hb dX2_init_10 (by decide) k) dX2_init_12 dX2_init_14 ff_X2_15 (n := 20) (N' := 20) (Nat.le_of_ble_eq_true rfl) (by decide) (by decide) (by decide) (Nat.le_of_ble_eq_true rfl) (Nat.le_of_ble_eq_true rfl) hP hD hS (fun q0 H locs hP hD hS => ?_)
  refine w_arr hE rfl hA (lv_at hl 0 rfl) dX2_init_17 (fun k => lv_bipush hx hb dX2_init_18 (by decide) k) dX2_init_20 dX2_init_22 ff_X2_19 (n := 20) (N' := 20) (Nat.le_of_ble_eq_true rfl) (by decide) (by decide) (by decide) (Nat.le_of_ble_eq_true rfl) (Nat.le_of_ble_eq_true rfl) hP hD hS (fun q1 H locs hP hD hS => ?_)
  refine w_arr hE rfl hA (lv_at hl 0 rfl) dX2_init_25 (fun k => lv_bipush hx hb dX2_init_26 (by decide) k) dX2_init_28 dX2_init_30 ff_X2_22 (n := 20) (N' := 20) (Nat.le_of_ble_eq_true rfl) (by decide) (by decide) (by decide) (Nat.le_of_ble_eq_true rfl) (Nat.le_of_ble_eq_true rfl) hP hD hS (fun q2 H locs hP hD hS => ?_)
  refine w_arr hE rfl hA (lv_at hl 0 rfl) dX2_init_33 (fun k => lv_bipush hx hb dX2_init_34 (by decide) k) dX2_init_36 dX2_init_38 ff_X2_25 (n := 20) (N' := 20) (Nat.le_of_ble_eq_true rfl) (by decide) (by decide) (by decide) (Nat.le_of_ble_eq_true rfl) (Nat.le_of_ble_eq_true rfl) hP hD hS (fun q3 H locs hP hD hS => ?_)
  refine w_arr hE rfl hA (lv_at hl 0 rfl) dX2_init_41 (fun k => lv_bipush hx hb dX2_init_42 (by decide) k) dX2_init_44 dX2_init_46 ff_X2_28 (n := 20) (N' := 20) (Nat.le_of_ble_eq_true rfl) (by decide) (by decide) (by decide) (Nat.le_of_ble_eq_true rfl) (Nat.le_of_ble_eq_true rfl) hP hD hS (fun q4 H locs hP hD hS => ?_)
  refine lv_aload_n hx hb dX2_init_49 rfl (lv_at hl 0 rfl) ?_
  refine lv_aload_n hx hb dX2_init_50 rfl (lv_at hl 1 rfl) ?_
  refine w_putF hE ff_X2_31 rfl rfl (Nat.le_of_ble_eq_true rfl) hP hD hS dX2_init_51 (fun H locs hP hD hS => ?_)
  refine lv_aload_n hx hb dX2_init_54 rfl (lv_at hl 0 rfl) ?_
  refine lv_aload_n hx hb dX2_init_55 rfl (lv_at hl 2 rfl) ?_
  refine w_putF hE ff_X2_35 rfl rfl (Nat.le_of_ble_eq_true rfl) hP hD hS dX2_init_56 (fun H locs hP hD hS => ?_)
  refine lv_aload_n hx hb dX2_init_59 rfl (lv_at hl 0 rfl) ?_
  refine lv_aload_n hx hb dX2_init_60 rfl (lv_at hl 3 rfl) ?_
  refine w_putF hE ff_X2_39 rfl rfl (Nat.le_of_ble_eq_true rfl) hP hD hS dX2_init_61 (fun H locs hP hD hS => ?_)
  exact W.vret hx hb hE.2.2.1 (fun t ht _ => ⟨⟨fun k => [q0, q1, q2, q3, q4].getD k 0, rfl, trivial, by rw [ht]; exact hP, hD⟩, hS.F ht⟩) hS.2.2 dX2_init_64 hE.2.2.2.2.2.2.2.2.1
def W_X1 (cI : ClassId) (h0 : Nat) (a1 a2 : Nat) (ad : Nat → Nat) : va_W := [(h0, .inr (1, [.ref a1, .ref a2, .int (-1), .ref (ad 0)])), (ad 0, zI cI 20)]
theorem lo_X1 : Cond.methodLink RX1 3 Lib.objectInit ∈ pw_ws := pw_in (by decide +kernel) (by decide +kernel)
set_option maxHeartbeats 4000000 in
set_option maxRecDepth 100000 in
theorem c_X1_init {G : va_G} {cI cB cS : ClassId} {l : Launch} (h0 : Nat) (a1 a2 : Nat) : cMet G [(cI, .int), (cB, .array .int), (cS, .object "StackDepths$Sheet")] l m_X1_init [.ref a1, .ref a2] h0 (.inr (1, [.null, .null, .int 0, .null])) (W_X1 cI h0 a1 a2) { frames := 1, cells := 1, slots := 20, locals := 12 } := by
  refine ctor (lv := [(1, .ref a1), (2, .ref a2)]) rfl rfl (by decide +kernel) (Nat.le_of_ble_eq_true rfl) rfl dX1_init_0 dX1_init_1 lo_X1 (Nat.le_refl _) (Nat.le_refl _) ?_
  intro p e s m below meth c ls hE ha hao hA hl hP hD hS
  have hx := hE.1
  have hb := hE.2.1
  refine lv_aload_n hx hb dX1_init_4 rfl (lv_at hl 0 rfl) ?_
  refine lv_iconst (v := -1) hx hb dX1_init_5 (by decide) ?_
  refine w_put hE fq_X1_9 rfl rfl (Nat.le_of_ble_eq_true rfl) hP hD hS dX1_init_6 (fun H locs hP hD hS => ?_)
  refine w_arr hE rfl hA (lv_at hl 0 rfl) dX1_init_9 (fun k => lv_bipush hx hb dX1_init_10 (by decide) k) dX1_init_12 dX1_init_14 ff_X1_15 (n := 20) (N' := 20) (Nat.le_of_ble_eq_true rfl) (by decide) (by decide) (by decide) (Nat.le_of_ble_eq_true rfl) (Nat.le_of_ble_eq_true rfl) hP hD hS (fun q0 H locs hP hD hS => ?_)
  refine lv_aload_n hx hb dX1_init_17 rfl (lv_at hl 0 rfl) ?_
  refine lv_aload_n hx hb dX1_init_18 rfl (lv_at hl 1 rfl) ?_
  refine w_putF hE ff_X1_19 rfl rfl (Nat.le_of_ble_eq_true rfl) hP hD hS dX1_init_19 (fun H locs hP hD hS => ?_)
  refine lv_aload_n hx hb dX1_init_22 rfl (lv_at hl 0 rfl) ?_
  refine lv_aload_n hx hb dX1_init_23 rfl (lv_at hl 2 rfl) ?_
  refine w_putF hE ff_X1_23 rfl rfl (Nat.le_of_ble_eq_true rfl) hP hD hS dX1_init_24 (fun H locs hP hD hS => ?_)
  exact W.vret hx hb hE.2.2.1 (fun t ht _ => ⟨⟨fun k => [q0].getD k 0, rfl, trivial, by rw [ht]; exact hP, hD⟩, hS.F ht⟩) hS.2.2 dX1_init_27 hE.2.2.2.2.2.2.2.2.1
def W_X3 (cI : ClassId) (h0 : Nat) (ad : Nat → Nat) : va_W := [(h0, .inr (3, [.ref (ad 0), .ref (ad 1), .ref (ad 2), .int 0])), (ad 0, zI cI 8), (ad 1, zI cI 8), (ad 2, zI cI 8)]
theorem lo_X3 : Cond.methodLink RX3 3 Lib.objectInit ∈ pw_ws := pw_in (by decide +kernel) (by decide +kernel)
set_option maxHeartbeats 4000000 in
set_option maxRecDepth 100000 in
theorem c_X3_init {G : va_G} {cI cB cS : ClassId} {l : Launch} (h0 : Nat) : cMet G [(cI, .int), (cB, .array .int), (cS, .object "StackDepths$Sheet")] l m_X3_init [] h0 (.inr (3, [.null, .null, .null, .int 0])) (W_X3 cI h0) { frames := 1, cells := 3, slots := 24, locals := 12 } := by
  refine ctor (lv := []) rfl rfl (by decide +kernel) (Nat.le_of_ble_eq_true rfl) rfl dX3_init_0 dX3_init_1 lo_X3 (Nat.le_refl _) (Nat.le_refl _) ?_
  intro p e s m below meth c ls hE ha hao hA hl hP hD hS
  have hx := hE.1
  have hb := hE.2.1
  refine w_arr hE rfl hA (lv_at hl 0 rfl) dX3_init_4 (fun k => lv_bipush hx hb dX3_init_5 (by decide) k) dX3_init_7 dX3_init_9 ff_X3_9 (n := 8) (N' := 8) (Nat.le_of_ble_eq_true rfl) (by decide) (by decide) (by decide) (Nat.le_of_ble_eq_true rfl) (Nat.le_of_ble_eq_true rfl) hP hD hS (fun q0 H locs hP hD hS => ?_)
  refine w_arr hE rfl hA (lv_at hl 0 rfl) dX3_init_12 (fun k => lv_bipush hx hb dX3_init_13 (by decide) k) dX3_init_15 dX3_init_17 ff_X3_15 (n := 8) (N' := 8) (Nat.le_of_ble_eq_true rfl) (by decide) (by decide) (by decide) (Nat.le_of_ble_eq_true rfl) (Nat.le_of_ble_eq_true rfl) hP hD hS (fun q1 H locs hP hD hS => ?_)
  refine w_arr hE rfl hA (lv_at hl 0 rfl) dX3_init_20 (fun k => lv_bipush hx hb dX3_init_21 (by decide) k) dX3_init_23 dX3_init_25 ff_X3_18 (n := 8) (N' := 8) (Nat.le_of_ble_eq_true rfl) (by decide) (by decide) (by decide) (Nat.le_of_ble_eq_true rfl) (Nat.le_of_ble_eq_true rfl) hP hD hS (fun q2 H locs hP hD hS => ?_)
  exact W.vret hx hb hE.2.2.1 (fun t ht _ => ⟨⟨fun k => [q0, q1, q2].getD k 0, rfl, trivial, by rw [ht]; exact hP, hD⟩, hS.F ht⟩) hS.2.2 dX3_init_28 hE.2.2.2.2.2.2.2.2.1
def W_X8 (cI : ClassId) (h0 : Nat) (ad : Nat → Nat) : va_W := [(h0, .inr (8, [.ref (ad 0), .ref (ad 1), .ref (ad 2), .ref (ad 3), .int 0])), (ad 0, zI cI 6), (ad 1, zI cI 6), (ad 2, zI cI 6), (ad 3, zI cI 6)]
theorem lo_X8 : Cond.methodLink RX8 3 Lib.objectInit ∈ pw_ws := pw_in (by decide +kernel) (by decide +kernel)
set_option maxHeartbeats 4000000 in
set_option maxRecDepth 100000 in
theorem c_X8_init {G : va_G} {cI cB cS : ClassId} {l : Launch} (h0 : Nat) : cMet G [(cI, .int), (cB, .array .int), (cS, .object "StackDepths$Sheet")] l m_X8_init [] h0 (.inr (8, [.null, .null, .null, .null, .int 0])) (W_X8 cI h0) { frames := 1, cells := 4, slots := 24, locals := 12 } := by
  refine ctor (lv := []) rfl rfl (by decide +kernel) (Nat.le_of_ble_eq_true rfl) rfl dX8_init_0 dX8_init_1 lo_X8 (Nat.le_refl _) (Nat.le_refl _) ?_
  intro p e s m below meth c ls hE ha hao hA hl hP hD hS
  have hx := hE.1
  have hb := hE.2.1
  refine w_arr hE rfl hA (lv_at hl 0 rfl) dX8_init_4 (fun k => lv_bipush hx hb dX8_init_5 (by decide) k) dX8_init_7 dX8_init_9 ff_X8_9 (n := 6) (N' := 6) (Nat.le_of_ble_eq_true rfl) (by decide) (by decide) (by decide) (Nat.le_of_ble_eq_true rfl) (Nat.le_of_ble_eq_true rfl) hP hD hS (fun q0 H locs hP hD hS => ?_)
  refine w_arr hE rfl hA (lv_at hl 0 rfl) dX8_init_12 (fun k => lv_bipush hx hb dX8_init_13 (by decide) k) dX8_init_15 dX8_init_17 ff_X8_15 (n := 6) (N' := 6) (Nat.le_of_ble_eq_true rfl) (by decide) (by decide) (by decide) (Nat.le_of_ble_eq_true rfl) (Nat.le_of_ble_eq_true rfl) hP hD hS (fun q1 H locs hP hD hS => ?_)
  refine w_arr hE rfl hA (lv_at hl 0 rfl) dX8_init_20 (fun k => lv_bipush hx hb dX8_init_21 (by decide) k) dX8_init_23 dX8_init_25 ff_X8_18 (n := 6) (N' := 6) (Nat.le_of_ble_eq_true rfl) (by decide) (by decide) (by decide) (Nat.le_of_ble_eq_true rfl) (Nat.le_of_ble_eq_true rfl) hP hD hS (fun q2 H locs hP hD hS => ?_)
  refine w_arr hE rfl hA (lv_at hl 0 rfl) dX8_init_28 (fun k => lv_bipush hx hb dX8_init_29 (by decide) k) dX8_init_31 dX8_init_33 ff_X8_21 (n := 6) (N' := 6) (Nat.le_of_ble_eq_true rfl) (by decide) (by decide) (by decide) (Nat.le_of_ble_eq_true rfl) (Nat.le_of_ble_eq_true rfl) hP hD hS (fun q3 H locs hP hD hS => ?_)
  exact W.vret hx hb hE.2.2.1 (fun t ht _ => ⟨⟨fun k => [q0, q1, q2, q3].getD k 0, rfl, trivial, by rw [ht]; exact hP, hD⟩, hS.F ht⟩) hS.2.2 dX8_init_36 hE.2.2.2.2.2.2.2.2.1
def W_X6 (cI : ClassId) (h0 : Nat) (ad : Nat → Nat) : va_W := [(h0, .inr (6, [.ref (ad 0), .ref (ad 1), .ref (ad 2), .ref (ad 3), .ref (ad 4), .int 0])), (ad 0, zI cI 6), (ad 1, zI cI 6), (ad 2, zI cI 6), (ad 3, zI cI 6), (ad 4, zI cI 6)]
theorem lo_X6 : Cond.methodLink RX6 3 Lib.objectInit ∈ pw_ws := pw_in (by decide +kernel) (by decide +kernel)
set_option maxHeartbeats 4000000 in
set_option maxRecDepth 100000 in
theorem c_X6_init {G : va_G} {cI cB cS : ClassId} {l : Launch} (h0 : Nat) : cMet G [(cI, .int), (cB, .array .int), (cS, .object "StackDepths$Sheet")] l m_X6_init [] h0 (.inr (6, [.null, .null, .null, .null, .null, .int 0])) (W_X6 cI h0) { frames := 1, cells := 5, slots := 30, locals := 12 } := by
  refine ctor (lv := []) rfl rfl (by decide +kernel) (Nat.le_of_ble_eq_true rfl) rfl dX6_init_0 dX6_init_1 lo_X6 (Nat.le_refl _) (Nat.le_refl _) ?_
  intro p e s m below meth c ls hE ha hao hA hl hP hD hS
  have hx := hE.1
  have hb := hE.2.1
  refine w_arr hE rfl hA (lv_at hl 0 rfl) dX6_init_4 (fun k => lv_bipush hx hb dX6_init_5 (by decide) k) dX6_init_7 dX6_init_9 ff_X6_9 (n := 6) (N' := 6) (Nat.le_of_ble_eq_true rfl) (by decide) (by decide) (by decide) (Nat.le_of_ble_eq_true rfl) (Nat.le_of_ble_eq_true rfl) hP hD hS (fun q0 H locs hP hD hS => ?_)
  refine w_arr hE rfl hA (lv_at hl 0 rfl) dX6_init_12 (fun k => lv_bipush hx hb dX6_init_13 (by decide) k) dX6_init_15 dX6_init_17 ff_X6_15 (n := 6) (N' := 6) (Nat.le_of_ble_eq_true rfl) (by decide) (by decide) (by decide) (Nat.le_of_ble_eq_true rfl) (Nat.le_of_ble_eq_true rfl) hP hD hS (fun q1 H locs hP hD hS => ?_)
  refine w_arr hE rfl hA (lv_at hl 0 rfl) dX6_init_20 (fun k => lv_bipush hx hb dX6_init_21 (by decide) k) dX6_init_23 dX6_init_25 ff_X6_18 (n := 6) (N' := 6) (Nat.le_of_ble_eq_true rfl) (by decide) (by decide) (by decide) (Nat.le_of_ble_eq_true rfl) (Nat.le_of_ble_eq_true rfl) hP hD hS (fun q2 H locs hP hD hS => ?_)
  refine w_arr hE rfl hA (lv_at hl 0 rfl) dX6_init_28 (fun k => lv_bipush hx hb dX6_init_29 (by decide) k) dX6_init_31 dX6_init_33 ff_X6_21 (n := 6) (N' := 6) (Nat.le_of_ble_eq_true rfl) (by decide) (by decide) (by decide) (Nat.le_of_ble_eq_true rfl) (Nat.le_of_ble_eq_true rfl) hP hD hS (fun q3 H locs hP hD hS => ?_)
  refine w_arr hE rfl hA (lv_at hl 0 rfl) dX6_init_36 (fun k => lv_bipush hx hb dX6_init_37 (by decide) k) dX6_init_39 dX6_init_41 ff_X6_24 (n := 6) (N' := 6) (Nat.le_of_ble_eq_true rfl) (by decide) (by decide) (by decide) (Nat.le_of_ble_eq_true rfl) (Nat.le_of_ble_eq_true rfl) hP hD hS (fun q4 H locs hP hD hS => ?_)
  exact W.vret hx hb hE.2.2.1 (fun t ht _ => ⟨⟨fun k => [q0, q1, q2, q3, q4].getD k 0, rfl, trivial, by rw [ht]; exact hP, hD⟩, hS.F ht⟩) hS.2.2 dX6_init_44 hE.2.2.2.2.2.2.2.2.1
def W_X9 (cI : ClassId) (h0 : Nat) (ad : Nat → Nat) : va_W := [(h0, .inr (9, [.ref (ad 0), .ref (ad 1), .int 0, .int 0, .int 0, .int 0, .int 0, .int (-1)])), (ad 0, zI cI 40), (ad 1, zI cI 40)]
theorem lo_X9 : Cond.methodLink RX9 3 Lib.objectInit ∈ pw_ws := pw_in (by decide +kernel) (by decide +kernel)
set_option maxHeartbeats 4000000 in
set_option maxRecDepth 100000 in
theorem c_X9_init {G : va_G} {cI cB cS : ClassId} {l : Launch} (h0 : Nat) : cMet G [(cI, .int), (cB, .array .int), (cS, .object "StackDepths$Sheet")] l m_X9_init [] h0 (.inr (9, [.null, .null, .int 0, .int 0, .int 0, .int 0, .int 0, .int 0])) (W_X9 cI h0) { frames := 1, cells := 2, slots := 80, locals := 12 } := by
  refine ctor (lv := []) rfl rfl (by decide +kernel) (Nat.le_of_ble_eq_true rfl) rfl dX9_init_0 dX9_init_1 lo_X9 (Nat.le_refl _) (Nat.le_refl _) ?_
  intro p e s m below meth c ls hE ha hao hA hl hP hD hS
  have hx := hE.1
  have hb := hE.2.1
  refine w_arr hE rfl hA (lv_at hl 0 rfl) dX9_init_4 (fun k => lv_bipush hx hb dX9_init_5 (by decide) k) dX9_init_7 dX9_init_9 ff_X9_9 (n := 40) (N' := 40) (Nat.le_of_ble_eq_true rfl) (by decide) (by decide) (by decide) (Nat.le_of_ble_eq_true rfl) (Nat.le_of_ble_eq_true rfl) hP hD hS (fun q0 H locs hP hD hS => ?_)
  refine w_arr hE rfl hA (lv_at hl 0 rfl) dX9_init_12 (fun k => lv_bipush hx hb dX9_init_13 (by decide) k) dX9_init_15 dX9_init_17 ff_X9_15 (n := 40) (N' := 40) (Nat.le_of_ble_eq_true rfl) (by decide) (by decide) (by decide) (Nat.le_of_ble_eq_true rfl) (Nat.le_of_ble_eq_true rfl) hP hD hS (fun q1 H locs hP hD hS => ?_)
  refine lv_aload_n hx hb dX9_init_20 rfl (lv_at hl 0 rfl) ?_
  refine lv_iconst (v := -1) hx hb dX9_init_21 (by decide) ?_
  refine w_put hE fq_X9_18 rfl rfl (Nat.le_of_ble_eq_true rfl) hP hD hS dX9_init_22 (fun H locs hP hD hS => ?_)
  exact W.vret hx hb hE.2.2.1 (fun t ht _ => ⟨⟨fun k => [q0, q1].getD k 0, rfl, trivial, by rw [ht]; exact hP, hD⟩, hS.F ht⟩) hS.2.2 dX9_init_25 hE.2.2.2.2.2.2.2.2.1
def W_X7 (cI : ClassId) (h0 : Nat) (ad : Nat → Nat) : va_W := [(h0, .inr (7, [.ref (ad 0), .int 0, .int (-1)])), (ad 0, zI cI 60)]
theorem lo_X7 : Cond.methodLink RX7 3 Lib.objectInit ∈ pw_ws := pw_in (by decide +kernel) (by decide +kernel)
set_option maxHeartbeats 4000000 in
set_option maxRecDepth 100000 in
theorem c_X7_init {G : va_G} {cI cB cS : ClassId} {l : Launch} (h0 : Nat) : cMet G [(cI, .int), (cB, .array .int), (cS, .object "StackDepths$Sheet")] l m_X7_init [] h0 (.inr (7, [.null, .int 0, .int 0])) (W_X7 cI h0) { frames := 1, cells := 1, slots := 60, locals := 12 } := by
  refine ctor (lv := []) rfl rfl (by decide +kernel) (Nat.le_of_ble_eq_true rfl) rfl dX7_init_0 dX7_init_1 lo_X7 (Nat.le_refl _) (Nat.le_refl _) ?_
  intro p e s m below meth c ls hE ha hao hA hl hP hD hS
  have hx := hE.1
  have hb := hE.2.1
  refine w_arr hE rfl hA (lv_at hl 0 rfl) dX7_init_4 (fun k => lv_bipush hx hb dX7_init_5 (by decide) k) dX7_init_7 dX7_init_9 ff_X7_9 (n := 60) (N' := 60) (Nat.le_of_ble_eq_true rfl) (by decide) (by decide) (by decide) (Nat.le_of_ble_eq_true rfl) (Nat.le_of_ble_eq_true rfl) hP hD hS (fun q0 H locs hP hD hS => ?_)
  refine lv_aload_n hx hb dX7_init_12 rfl (lv_at hl 0 rfl) ?_
  refine lv_iconst (v := -1) hx hb dX7_init_13 (by decide) ?_
  refine w_put hE fq_X7_15 rfl rfl (Nat.le_of_ble_eq_true rfl) hP hD hS dX7_init_14 (fun H locs hP hD hS => ?_)
  exact W.vret hx hb hE.2.2.1 (fun t ht _ => ⟨⟨fun k => [q0].getD k 0, rfl, trivial, by rw [ht]; exact hP, hD⟩, hS.F ht⟩) hS.2.2 dX7_init_17 hE.2.2.2.2.2.2.2.2.1
