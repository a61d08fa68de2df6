/-! X10_stayedWithinDepth -/
def R_X10_stayedWithinDepth  (σ : pw_Mem) (K : Int32 → pw_Mem → Prop) : Prop := R_X1_measure (-1) σ (fun τ1 => vp_in (τ1 37 7) 20 ∧ (((τ1 21 (Int32.toNatClampNeg (τ1 37 7))) = (-5) → K 1 τ1) ∧ (¬ (τ1 21 (Int32.toNatClampNeg (τ1 37 7))) = (-5) → (((τ1 21 (Int32.toNatClampNeg (τ1 37 7))) < (τ1 37 4) → K 0 τ1) ∧ (¬ (τ1 21 (Int32.toNatClampNeg (τ1 37 7))) < (τ1 37 4) → K 1 τ1)))))
set_option maxHeartbeats 4000000 in
theorem c_X10_stayedWithinDepth {L : pw_Lay} {d : Nat}  {σ : pw_Mem} {K : Int32 → pw_Mem → Prop} (h : R_X10_stayedWithinDepth  σ K) : CT L (d + 5) m_X10_stayedWithinDepth [.ref 0] σ (ki K) := by
  refine pw_enter (by decide) rfl (Nat.le_of_ble_eq_true rfl) (ls := [some (.ref 0), none]) rfl ?_
  unfold R_X10_stayedWithinDepth at h
  refine pw_aload_n (i := 0) dX10_stayedWithinDepth_0 rfl rfl ?_
  refine pw_getR dX10_stayedWithinDepth_1 fl_X10_44 rfl rfl ?_
  refine pw_iconst (v := (-1)) dX10_stayedWithinDepth_4 kc_m1 ?_
  refine pw_cVv [.int (-1)] dX10_stayedWithinDepth_5 mv_X10_176 rfl rfl rfl (Nat.le_of_ble_eq_true rfl) (c_X1_measure h) (fun τ1 h => ?_)
  refine pw_aload_n (i := 0) dX10_stayedWithinDepth_8 rfl rfl ?_
  refine pw_getR dX10_stayedWithinDepth_9 fl_X10_44 rfl rfl ?_
  refine pw_getR dX10_stayedWithinDepth_12 fl_X10_180 rfl rfl ?_
  refine pw_aload_n (i := 0) dX10_stayedWithinDepth_15 rfl rfl ?_
  refine pw_getR dX10_stayedWithinDepth_16 fl_X10_72 rfl rfl ?_
  refine pw_getI dX10_stayedWithinDepth_19 fl_X10_269 rfl rfl ?_
  obtain ⟨hb, h⟩ := h
  refine pw_iald dX10_stayedWithinDepth_22 rfl hb ?_
  refine pw_istore_n (i := 1) (ls' := [some (.ref 0), some (.int (τ1 21 (Int32.toNatClampNeg (τ1 37 7))))]) dX10_stayedWithinDepth_23 rfl (Nat.le_of_ble_eq_true rfl) rfl ?_
  refine pw_iload_n (i := 1) dX10_stayedWithinDepth_24 rfl rfl ?_
  refine pw_bipush (v := (-5)) dX10_stayedWithinDepth_25 kb_m5 ?_
  refine pw_icmp_eq (tgt := 41) dX10_stayedWithinDepth_27 rfl (fun q => ?_) (fun q => ?_)
  · have h := h.1 q
    refine pw_iconst (v := 1) dX10_stayedWithinDepth_41 kc_1 ?_
    refine pw_goto (tgt := 46) dX10_stayedWithinDepth_42 rfl ?_
    exact pw_ret dX10_stayedWithinDepth_46 rfl rfl ⟨_, rfl, h⟩
  · have h := h.2 q
    refine pw_aload_n (i := 0) dX10_stayedWithinDepth_30 rfl rfl ?_
    refine pw_getR dX10_stayedWithinDepth_31 fl_X10_72 rfl rfl ?_
    refine pw_getI dX10_stayedWithinDepth_34 fl_X10_272 rfl rfl ?_
    refine pw_iload_n (i := 1) dX10_stayedWithinDepth_37 rfl rfl ?_
    refine pw_icmp_gt (tgt := 45) dX10_stayedWithinDepth_38 rfl (fun q => ?_) (fun q => ?_)
    · have h := h.1 q
      refine pw_iconst (v := 0) dX10_stayedWithinDepth_45 kc_0 ?_
      exact pw_ret dX10_stayedWithinDepth_46 rfl rfl ⟨_, rfl, h⟩
    · have h := h.2 q
      refine pw_iconst (v := 1) dX10_stayedWithinDepth_41 kc_1 ?_
      refine pw_goto (tgt := 46) dX10_stayedWithinDepth_42 rfl ?_
      exact pw_ret dX10_stayedWithinDepth_46 rfl rfl ⟨_, rfl, h⟩
/-! X10_ran -/
def R_X10_ran (a1 : Int32) (σ : pw_Mem) (K : Int32 → pw_Mem → Prop) : Prop := R_X10_within a1 0 6 σ (fun x2 τ1 => ((¬ x2 = 0 → ((¬ (τ1 37 7) = (-1) → (((a1 = nI 0 ∨ a1 = nI 1 ∨ a1 = nI 2 ∨ a1 = nI 3 ∨ a1 = nI 4 ∨ a1 = nI 5) ∨ ∀ c : Nat, c ≤ 5 → ¬ a1 = nI c) ∧ (a1 = nI 0 → K (τ1 37 3) τ1) ∧ (a1 = nI 1 → K (τ1 37 4) τ1) ∧ (a1 = nI 2 → K (τ1 37 2) τ1) ∧ (a1 = nI 3 → K (τ1 37 5) τ1) ∧ (a1 = nI 4 → K (τ1 37 6) τ1) ∧ (a1 = nI 5 → ((¬ (τ1 37 2) = 0 → R_X9_onTop  τ1 (fun x4 τ3 => K x4 τ3)) ∧ ((τ1 37 2) = 0 → K (-4) τ1))) ∧ ((∀ c : Nat, c ≤ 5 → ¬ a1 = nI c) → R_X10_stayedWithinDepth  τ1 (fun x6 τ5 => ((x6 = 0 → K 0 τ5) ∧ (¬ x6 = 0 → K 1 τ5)))))) ∧ ((τ1 37 7) = (-1) → K (-2) τ1))) ∧ (x2 = 0 → K (-1) τ1)))
set_option maxHeartbeats 4000000 in
theorem c_X10_ran {L : pw_Lay} {d : Nat} {a1 : Int32} {σ : pw_Mem} {K : Int32 → pw_Mem → Prop} (h : R_X10_ran a1 σ K) : CT L (d + 6) m_X10_ran [.ref 0, .int a1] σ (ki K) := by
  refine pw_enter (by decide) rfl (Nat.le_of_ble_eq_true rfl) (ls := [some (.ref 0), some (.int a1)]) rfl ?_
  unfold R_X10_ran at h
  refine pw_iload_n (i := 1) dX10_ran_0 rfl rfl ?_
  refine pw_iconst (v := 0) dX10_ran_1 kc_0 ?_
  refine pw_bipush (v := 6) dX10_ran_2 kb_6 ?_
  refine pw_cSi [.int a1, .int 0, .int 6] dX10_ran_4 ms_X10_83 rfl rfl (Nat.le_of_ble_eq_true rfl) (c_X10_within h) (fun x2 τ1 h => ?_)
  refine pw_if_ne (tgt := 12) dX10_ran_7 rfl (fun q => ?_) (fun q => ?_)
  · have h := h.1 q
    refine pw_aload_n (i := 0) dX10_ran_12 rfl rfl ?_
    refine pw_getR dX10_ran_13 fl_X10_72 rfl rfl ?_
    refine pw_getI dX10_ran_16 fl_X10_269 rfl rfl ?_
    refine pw_iconst (v := (-1)) dX10_ran_19 kc_m1 ?_
    refine pw_icmp_ne (tgt := 26) dX10_ran_20 rfl (fun q => ?_) (fun q => ?_)
    · have h := h.1 q
      refine pw_iload_n (i := 1) dX10_ran_26 rfl rfl ?_
      have hsw := h.1
      have h := h.2
      rcases hsw with hsw | hi
      · rcases hsw with hi | hi | hi | hi | hi | hi
        · have h := h.1 hi
          refine pw_sw (tgt := 64) 0 dX10_ran_27 hi (by decide) (by decide) rfl rfl ?_
          refine pw_aload_n (i := 0) dX10_ran_64 rfl rfl ?_
          refine pw_getR dX10_ran_65 fl_X10_72 rfl rfl ?_
          refine pw_getI dX10_ran_68 fl_X10_244 rfl rfl ?_
          exact pw_ret dX10_ran_71 rfl rfl ⟨_, rfl, h⟩
        · have h := h.2.1 hi
          refine pw_sw (tgt := 72) 1 dX10_ran_27 hi (by decide) (by decide) rfl rfl ?_
          refine pw_aload_n (i := 0) dX10_ran_72 rfl rfl ?_
          refine pw_getR dX10_ran_73 fl_X10_72 rfl rfl ?_
          refine pw_getI dX10_ran_76 fl_X10_272 rfl rfl ?_
          exact pw_ret dX10_ran_79 rfl rfl ⟨_, rfl, h⟩
        · have h := h.2.2.1 hi
          refine pw_sw (tgt := 80) 2 dX10_ran_27 hi (by decide) (by decide) rfl rfl ?_
          refine pw_aload_n (i := 0) dX10_ran_80 rfl rfl ?_
          refine pw_getR dX10_ran_81 fl_X10_72 rfl rfl ?_
          refine pw_getI dX10_ran_84 fl_X10_247 rfl rfl ?_
          exact pw_ret dX10_ran_87 rfl rfl ⟨_, rfl, h⟩
        · have h := h.2.2.2.1 hi
          refine pw_sw (tgt := 88) 3 dX10_ran_27 hi (by decide) (by decide) rfl rfl ?_
          refine pw_aload_n (i := 0) dX10_ran_88 rfl rfl ?_
          refine pw_getR dX10_ran_89 fl_X10_72 rfl rfl ?_
          refine pw_getI dX10_ran_92 fl_X10_275 rfl rfl ?_
          exact pw_ret dX10_ran_95 rfl rfl ⟨_, rfl, h⟩
        · have h := h.2.2.2.2.1 hi
          refine pw_sw (tgt := 96) 4 dX10_ran_27 hi (by decide) (by decide) rfl rfl ?_
          refine pw_aload_n (i := 0) dX10_ran_96 rfl rfl ?_
          refine pw_getR dX10_ran_97 fl_X10_72 rfl rfl ?_
          refine pw_getI dX10_ran_100 fl_X10_278 rfl rfl ?_
          exact pw_ret dX10_ran_103 rfl rfl ⟨_, rfl, h⟩
        · have h := h.2.2.2.2.2.1 hi
          refine pw_sw (tgt := 104) 5 dX10_ran_27 hi (by decide) (by decide) rfl rfl ?_
          refine pw_aload_n (i := 0) dX10_ran_104 rfl rfl ?_
          refine pw_getR dX10_ran_105 fl_X10_72 rfl rfl ?_
          refine pw_getI dX10_ran_108 fl_X10_247 rfl rfl ?_
          refine pw_if_ne (tgt := 119) dX10_ran_111 rfl (fun q => ?_) (fun q => ?_)
          · have h := h.1 q
            refine pw_aload_n (i := 0) dX10_ran_119 rfl rfl ?_
            refine pw_getR dX10_ran_120 fl_X10_72 rfl rfl ?_
            refine pw_cVi [] dX10_ran_123 mv_X10_253 rfl rfl rfl (Nat.le_of_ble_eq_true rfl) (c_X9_onTop h) (fun x4 τ3 h => ?_)
            exact pw_ret dX10_ran_126 rfl rfl ⟨_, rfl, h⟩
          · have h := h.2 q
            refine pw_bipush (v := (-4)) dX10_ran_114 kb_m4 ?_
            refine pw_goto (tgt := 126) dX10_ran_116 rfl ?_
            exact pw_ret dX10_ran_126 rfl rfl ⟨_, rfl, h⟩
      · have h := h.2.2.2.2.2.2 hi
        refine pw_swd (hi := 5) (tgt := 127) dX10_ran_27 (by decide) hi rfl ?_
        refine pw_aload_n (i := 0) dX10_ran_127 rfl rfl ?_
        refine pw_cVi [] dX10_ran_128 mv_X10_281 rfl rfl rfl (Nat.le_of_ble_eq_true rfl) (c_X10_stayedWithinDepth h) (fun x6 τ5 h => ?_)
        refine pw_if_eq (tgt := 138) dX10_ran_131 rfl (fun q => ?_) (fun q => ?_)
        · have h := h.1 q
          refine pw_iconst (v := 0) dX10_ran_138 kc_0 ?_
          exact pw_ret dX10_ran_139 rfl rfl ⟨_, rfl, h⟩
        · have h := h.2 q
          refine pw_iconst (v := 1) dX10_ran_134 kc_1 ?_
          refine pw_goto (tgt := 139) dX10_ran_135 rfl ?_
          exact pw_ret dX10_ran_139 rfl rfl ⟨_, rfl, h⟩
    · have h := h.2 q
      refine pw_bipush (v := (-2)) dX10_ran_23 kb_m2 ?_
      exact pw_ret dX10_ran_25 rfl rfl ⟨_, rfl, h⟩
  · have h := h.2 q
    refine pw_iconst (v := (-1)) dX10_ran_10 kc_m1 ?_
    exact pw_ret dX10_ran_11 rfl rfl ⟨_, rfl, h⟩
/-! X10_isSheet -/
def R_X10_isSheet (a1 : Int32) (σ : pw_Mem) (K : Int32 → pw_Mem → Prop) : Prop := R_X10_within a1 0 3 σ (fun x2 τ1 => narrow .boolean (.int x2) = .int x2 ∧ K x2 τ1)
set_option maxHeartbeats 4000000 in
theorem c_X10_isSheet {L : pw_Lay} {d : Nat} {a1 : Int32} {σ : pw_Mem} {K : Int32 → pw_Mem → Prop} (h : R_X10_isSheet a1 σ K) : CT L (d + 1) m_X10_isSheet [.int a1] σ (ki K) := by
  refine pw_enter (by decide) rfl (Nat.le_of_ble_eq_true rfl) (ls := [some (.int a1)]) rfl ?_
  unfold R_X10_isSheet at h
  refine pw_iload_n (i := 0) dX10_isSheet_0 rfl rfl ?_
  refine pw_iconst (v := 0) dX10_isSheet_1 kc_0 ?_
  refine pw_iconst (v := 3) dX10_isSheet_2 kc_3 ?_
  refine pw_cSi [.int a1, .int 0, .int 3] dX10_isSheet_3 ms_X10_83 rfl rfl (Nat.le_of_ble_eq_true rfl) (c_X10_within h) (fun x2 τ1 h => ?_)
  obtain ⟨hn, h⟩ := h
  exact pw_ret dX10_isSheet_6 rfl hn ⟨_, rfl, h⟩
/-! X10_isLane -/
def R_X10_isLane (a1 : Int32) (σ : pw_Mem) (K : Int32 → pw_Mem → Prop) : Prop := R_X10_within a1 0 2 σ (fun x2 τ1 => narrow .boolean (.int x2) = .int x2 ∧ K x2 τ1)
set_option maxHeartbeats 4000000 in
theorem c_X10_isLane {L : pw_Lay} {d : Nat} {a1 : Int32} {σ : pw_Mem} {K : Int32 → pw_Mem → Prop} (h : R_X10_isLane a1 σ K) : CT L (d + 1) m_X10_isLane [.int a1] σ (ki K) := by
  refine pw_enter (by decide) rfl (Nat.le_of_ble_eq_true rfl) (ls := [some (.int a1)]) rfl ?_
  unfold R_X10_isLane at h
  refine pw_iload_n (i := 0) dX10_isLane_0 rfl rfl ?_
  refine pw_iconst (v := 0) dX10_isLane_1 kc_0 ?_
  refine pw_iconst (v := 2) dX10_isLane_2 kc_2 ?_
  refine pw_cSi [.int a1, .int 0, .int 2] dX10_isLane_3 ms_X10_83 rfl rfl (Nat.le_of_ble_eq_true rfl) (c_X10_within h) (fun x2 τ1 h => ?_)
  obtain ⟨hn, h⟩ := h
  exact pw_ret dX10_isLane_6 rfl hn ⟨_, rfl, h⟩
/-! X7_makeNew_at41 -/
def R_X7_makeNew_at41_L12 (K : pw_Mem → Prop) (KX : Int32 → Int32 → Int32 → pw_Mem → Prop) : Nat → Int32 → Int32 → Int32 → pw_Mem → Prop
  | 0, _, _, _, _ => False
  | n + 1, l1, l2, l3, σ => ((60 ≤ l3 → KX l1 l2 l3 σ) ∧ (¬ 60 ≤ l3 → vp_in l3 60 ∧ ∀ τ3, τ3 = pw_up σ 42 (Int32.toNatClampNeg l3) 0 → R_X7_makeNew_at41_L12 K KX n l1 l2 (l3 + 1) τ3))
def R_X7_makeNew_at41 (a1 : Int32) (a2 : Int32) (σ : pw_Mem) (K : pw_Mem → Prop) : Prop := ∀ τ1, τ1 = pw_up σ 41 1 a1 → ∀ τ2, τ2 = pw_up τ1 41 2 a2 → ∃ n8, R_X7_makeNew_at41_L12 K (fun y4 y5 y6 τ7 => K τ7) n8 a1 a2 0 τ2
set_option maxHeartbeats 4000000 in
theorem t_X7_makeNew_at41_L12 {L : pw_Lay} {d : Nat} {K : pw_Mem → Prop} {KX : Int32 → Int32 → Int32 → pw_Mem → Prop} : ∀ (n : Nat) (l1 : Int32) (l2 : Int32) (l3 : Int32) (σ : pw_Mem), R_X7_makeNew_at41_L12 K KX n l1 l2 l3 σ → (∀ (l1 : Int32) (l2 : Int32) (l3 : Int32) (τ : pw_Mem), KX l1 l2 l3 τ → PW L (d + 0) m_X7_makeNew (kv K) 31 [some (.ref 41), some (.int l1), some (.int l2), some (.int l3)] [] τ) → PW L (d + 0) m_X7_makeNew (kv K) 12 [some (.ref 41), some (.int l1), some (.int l2), some (.int l3)] [] σ := by
  intro n
  induction n with
  | zero => intro l1 l2 l3 _ h _; exact h.elim
  | succ n ih =>
    intro l1 l2 l3 σ h hX
    unfold R_X7_makeNew_at41_L12 at h
    refine pw_iload_n (i := 3) dX7_makeNew_12 rfl rfl ?_
    refine pw_bipush (v := 60) dX7_makeNew_13 kb_60 ?_
    refine pw_icmp_ge (tgt := 31) dX7_makeNew_15 rfl (fun q => ?_) (fun q => ?_)
    · have h := h.1 q
      exact hX _ _ _ _ h
    · have h := h.2 q
      refine pw_aload_n (i := 0) dX7_makeNew_18 rfl rfl ?_
      refine pw_getR dX7_makeNew_19 fl_X7_9 rfl rfl ?_
      refine pw_iload_n (i := 3) dX7_makeNew_22 rfl rfl ?_
      refine pw_iconst (v := 0) dX7_makeNew_23 kc_0 ?_
      obtain ⟨hb, h⟩ := h
      refine pw_iast dX7_makeNew_24 rfl hb ?_
      generalize hτ3 : pw_up σ 42 (Int32.toNatClampNeg l3) 0 = τ3
      have h := h τ3 hτ3.symm
      refine pw_iinc (i := 3) (v := l3 + 1) (ls' := [some (.ref 41), some (.int l1), some (.int l2), some (.int (l3 + 1))]) dX7_makeNew_25 rfl (by rw [kc_1]) (Nat.le_of_ble_eq_true rfl) rfl ?_
      refine pw_goto (tgt := 12) dX7_makeNew_28 rfl ?_
      exact ih _ _ _ _ h hX
set_option maxHeartbeats 4000000 in
theorem c_X7_makeNew_at41 {L : pw_Lay} {d : Nat} {a1 : Int32} {a2 : Int32} {σ : pw_Mem} {K : pw_Mem → Prop} (h : R_X7_makeNew_at41 a1 a2 σ K) : CT L (d + 0) m_X7_makeNew [.ref 41, .int a1, .int a2] σ (kv K) := by
  refine pw_enter (by decide) rfl (Nat.le_of_ble_eq_true rfl) (ls := [some (.ref 41), some (.int a1), some (.int a2), none]) rfl ?_
  unfold R_X7_makeNew_at41 at h
  refine pw_aload_n (i := 0) dX7_makeNew_0 rfl rfl ?_
  refine pw_iload_n (i := 1) dX7_makeNew_1 rfl rfl ?_
  refine pw_put dX7_makeNew_2 fp_X7_19 rfl rfl rfl rfl ?_
  generalize hτ1 : pw_up σ 41 1 a1 = τ1
  have h := h τ1 hτ1.symm
  refine pw_aload_n (i := 0) dX7_makeNew_5 rfl rfl ?_
  refine pw_iload_n (i := 2) dX7_makeNew_6 rfl rfl ?_
  refine pw_put dX7_makeNew_7 fp_X7_15 rfl rfl rfl rfl ?_
  generalize hτ2 : pw_up τ1 41 2 a2 = τ2
  have h := h τ2 hτ2.symm
  refine pw_iconst (v := 0) dX7_makeNew_10 kc_0 ?_
  refine pw_istore_n (i := 3) (ls' := [some (.ref 41), some (.int a1), some (.int a2), some (.int 0)]) dX7_makeNew_11 rfl (Nat.le_of_ble_eq_true rfl) rfl ?_
  obtain ⟨n8, h⟩ := h
  refine t_X7_makeNew_at41_L12 _ _ _ _ _ h (fun y4 y5 y6 τ7 h => ?_)
  exact pw_vret dX7_makeNew_31 rfl ⟨rfl, h⟩
/-! X7_makeNew_at43 -/
def R_X7_makeNew_at43_L12 (K : pw_Mem → Prop) (KX : Int32 → Int32 → Int32 → pw_Mem → Prop) : Nat → Int32 → Int32 → Int32 → pw_Mem → Prop
  | 0, _, _, _, _ => False
  | n + 1, l1, l2, l3, σ => ((60 ≤ l3 → KX l1 l2 l3 σ) ∧ (¬ 60 ≤ l3 → vp_in l3 60 ∧ ∀ τ3, τ3 = pw_up σ 44 (Int32.toNatClampNeg l3) 0 → R_X7_makeNew_at43_L12 K KX n l1 l2 (l3 + 1) τ3))
def R_X7_makeNew_at43 (a1 : Int32) (a2 : Int32) (σ : pw_Mem) (K : pw_Mem → Prop) : Prop := ∀ τ1, τ1 = pw_up σ 43 1 a1 → ∀ τ2, τ2 = pw_up τ1 43 2 a2 → ∃ n8, R_X7_makeNew_at43_L12 K (fun y4 y5 y6 τ7 => K τ7) n8 a1 a2 0 τ2
set_option maxHeartbeats 4000000 in
theorem t_X7_makeNew_at43_L12 {L : pw_Lay} {d : Nat} {K : pw_Mem → Prop} {KX : Int32 → Int32 → Int32 → pw_Mem → Prop} : ∀ (n : Nat) (l1 : Int32) (l2 : Int32) (l3 : Int32) (σ : pw_Mem), R_X7_makeNew_at43_L12 K KX n l1 l2 l3 σ → (∀ (l1 : Int32) (l2 : Int32) (l3 : Int32) (τ : pw_Mem), KX l1 l2 l3 τ → PW L (d + 0) m_X7_makeNew (kv K) 31 [some (.ref 43), some (.int l1), some (.int l2), some (.int l3)] [] τ) → PW L (d + 0) m_X7_makeNew (kv K) 12 [some (.ref 43), some (.int l1), some (.int l2), some (.int l3)] [] σ := by
  intro n
  induction n with
  | zero => intro l1 l2 l3 _ h _; exact h.elim
  | succ n ih =>
    intro l1 l2 l3 σ h hX
    unfold R_X7_makeNew_at43_L12 at h
    refine pw_iload_n (i := 3) dX7_makeNew_12 rfl rfl ?_
    refine pw_bipush (v := 60) dX7_makeNew_13 kb_60 ?_
    refine pw_icmp_ge (tgt := 31) dX7_makeNew_15 rfl (fun q => ?_) (fun q => ?_)
    · have h := h.1 q
      exact hX _ _ _ _ h
    · have h := h.2 q
      refine pw_aload_n (i := 0) dX7_makeNew_18 rfl rfl ?_
      refine pw_getR dX7_makeNew_19 fl_X7_9 rfl rfl ?_
      refine pw_iload_n (i := 3) dX7_makeNew_22 rfl rfl ?_
      refine pw_iconst (v := 0) dX7_makeNew_23 kc_0 ?_
      obtain ⟨hb, h⟩ := h
      refine pw_iast dX7_makeNew_24 rfl hb ?_
      generalize hτ3 : pw_up σ 44 (Int32.toNatClampNeg l3) 0 = τ3
      have h := h τ3 hτ3.symm
      refine pw_iinc (i := 3) (v := l3 + 1) (ls' := [some (.ref 43), some (.int l1), some (.int l2), some (.int (l3 + 1))]) dX7_makeNew_25 rfl (by rw [kc_1]) (Nat.le_of_ble_eq_true rfl) rfl ?_
      refine pw_goto (tgt := 12) dX7_makeNew_28 rfl ?_
      exact ih _ _ _ _ h hX
set_option maxHeartbeats 4000000 in
theorem c_X7_makeNew_at43 {L : pw_Lay} {d : Nat} {a1 : Int32} {a2 : Int32} {σ : pw_Mem} {K : pw_Mem → Prop} (h : R_X7_makeNew_at43 a1 a2 σ K) : CT L (d + 0) m_X7_makeNew [.ref 43, .int a1, .int a2] σ (kv K) := by
  refine pw_enter (by decide) rfl (Nat.le_of_ble_eq_true rfl) (ls := [some (.ref 43), some (.int a1), some (.int a2), none]) rfl ?_
  unfold R_X7_makeNew_at43 at h
  refine pw_aload_n (i := 0) dX7_makeNew_0 rfl rfl ?_
  refine pw_iload_n (i := 1) dX7_makeNew_1 rfl rfl ?_
  refine pw_put dX7_makeNew_2 fp_X7_19 rfl rfl rfl rfl ?_
  generalize hτ1 : pw_up σ 43 1 a1 = τ1
  have h := h τ1 hτ1.symm
  refine pw_aload_n (i := 0) dX7_makeNew_5 rfl rfl ?_
  refine pw_iload_n (i := 2) dX7_makeNew_6 rfl rfl ?_
  refine pw_put dX7_makeNew_7 fp_X7_15 rfl rfl rfl rfl ?_
  generalize hτ2 : pw_up τ1 43 2 a2 = τ2
  have h := h τ2 hτ2.symm
  refine pw_iconst (v := 0) dX7_makeNew_10 kc_0 ?_
  refine pw_istore_n (i := 3) (ls' := [some (.ref 43), some (.int a1), some (.int a2), some (.int 0)]) dX7_makeNew_11 rfl (Nat.le_of_ble_eq_true rfl) rfl ?_
  obtain ⟨n8, h⟩ := h
  refine t_X7_makeNew_at43_L12 _ _ _ _ _ h (fun y4 y5 y6 τ7 h => ?_)
  exact pw_vret dX7_makeNew_31 rfl ⟨rfl, h⟩
/-! X7_makeNew_at45 -/
def R_X7_makeNew_at45_L12 (K : pw_Mem → Prop) (KX : Int32 → Int32 → Int32 → pw_Mem → Prop) : Nat → Int32 → Int32 → Int32 → pw_Mem → Prop
  | 0, _, _, _, _ => False
  | n + 1, l1, l2, l3, σ => ((60 ≤ l3 → KX l1 l2 l3 σ) ∧ (¬ 60 ≤ l3 → vp_in l3 60 ∧ ∀ τ3, τ3 = pw_up σ 46 (Int32.toNatClampNeg l3) 0 → R_X7_makeNew_at45_L12 K KX n l1 l2 (l3 + 1) τ3))
def R_X7_makeNew_at45 (a1 : Int32) (a2 : Int32) (σ : pw_Mem) (K : pw_Mem → Prop) : Prop := ∀ τ1, τ1 = pw_up σ 45 1 a1 → ∀ τ2, τ2 = pw_up τ1 45 2 a2 → ∃ n8, R_X7_makeNew_at45_L12 K (fun y4 y5 y6 τ7 => K τ7) n8 a1 a2 0 τ2
set_option maxHeartbeats 4000000 in
theorem t_X7_makeNew_at45_L12 {L : pw_Lay} {d : Nat} {K : pw_Mem → Prop} {KX : Int32 → Int32 → Int32 → pw_Mem → Prop} : ∀ (n : Nat) (l1 : Int32) (l2 : Int32) (l3 : Int32) (σ : pw_Mem), R_X7_makeNew_at45_L12 K KX n l1 l2 l3 σ → (∀ (l1 : Int32) (l2 : Int32) (l3 : Int32) (τ : pw_Mem), KX l1 l2 l3 τ → PW L (d + 0) m_X7_makeNew (kv K) 31 [some (.ref 45), some (.int l1), some (.int l2), some (.int l3)] [] τ) → PW L (d + 0) m_X7_makeNew (kv K) 12 [some (.ref 45), some (.int l1), some (.int l2), some (.int l3)] [] σ := by
  intro n
  induction n with
  | zero => intro l1 l2 l3 _ h _; exact h.elim
  | succ n ih =>
    intro l1 l2 l3 σ h hX
    unfold R_X7_makeNew_at45_L12 at h
    refine pw_iload_n (i := 3) dX7_makeNew_12 rfl rfl ?_
    refine pw_bipush (v := 60) dX7_makeNew_13 kb_60 ?_
    refine pw_icmp_ge (tgt := 31) dX7_makeNew_15 rfl (fun q => ?_) (fun q => ?_)
    · have h := h.1 q
      exact hX _ _ _ _ h
    · have h := h.2 q
      refine pw_aload_n (i := 0) dX7_makeNew_18 rfl rfl ?_
      refine pw_getR dX7_makeNew_19 fl_X7_9 rfl rfl ?_
      refine pw_iload_n (i := 3) dX7_makeNew_22 rfl rfl ?_
      refine pw_iconst (v := 0) dX7_makeNew_23 kc_0 ?_
      obtain ⟨hb, h⟩ := h
      refine pw_iast dX7_makeNew_24 rfl hb ?_
      generalize hτ3 : pw_up σ 46 (Int32.toNatClampNeg l3) 0 = τ3
      have h := h τ3 hτ3.symm
      refine pw_iinc (i := 3) (v := l3 + 1) (ls' := [some (.ref 45), some (.int l1), some (.int l2), some (.int (l3 + 1))]) dX7_makeNew_25 rfl (by rw [kc_1]) (Nat.le_of_ble_eq_true rfl) rfl ?_
      refine pw_goto (tgt := 12) dX7_makeNew_28 rfl ?_
      exact ih _ _ _ _ h hX
set_option maxHeartbeats 4000000 in
theorem c_X7_makeNew_at45 {L : pw_Lay} {d : Nat} {a1 : Int32} {a2 : Int32} {σ : pw_Mem} {K : pw_Mem → Prop} (h : R_X7_makeNew_at45 a1 a2 σ K) : CT L (d + 0) m_X7_makeNew [.ref 45, .int a1, .int a2] σ (kv K) := by
  refine pw_enter (by decide) rfl (Nat.le_of_ble_eq_true rfl) (ls := [some (.ref 45), some (.int a1), some (.int a2), none]) rfl ?_
  unfold R_X7_makeNew_at45 at h
  refine pw_aload_n (i := 0) dX7_makeNew_0 rfl rfl ?_
  refine pw_iload_n (i := 1) dX7_makeNew_1 rfl rfl ?_
  refine pw_put dX7_makeNew_2 fp_X7_19 rfl rfl rfl rfl ?_
  generalize hτ1 : pw_up σ 45 1 a1 = τ1
  have h := h τ1 hτ1.symm
  refine pw_aload_n (i := 0) dX7_makeNew_5 rfl rfl ?_
  refine pw_iload_n (i := 2) dX7_makeNew_6 rfl rfl ?_
  refine pw_put dX7_makeNew_7 fp_X7_15 rfl rfl rfl rfl ?_
  generalize hτ2 : pw_up τ1 45 2 a2 = τ2
  have h := h τ2 hτ2.symm
  refine pw_iconst (v := 0) dX7_makeNew_10 kc_0 ?_
  refine pw_istore_n (i := 3) (ls' := [some (.ref 45), some (.int a1), some (.int a2), some (.int 0)]) dX7_makeNew_11 rfl (Nat.le_of_ble_eq_true rfl) rfl ?_
  obtain ⟨n8, h⟩ := h
  refine t_X7_makeNew_at45_L12 _ _ _ _ _ h (fun y4 y5 y6 τ7 h => ?_)
  exact pw_vret dX7_makeNew_31 rfl ⟨rfl, h⟩
/-! X7_makeNew_at47 -/
def R_X7_makeNew_at47_L12 (K : pw_Mem → Prop) (KX : Int32 → Int32 → Int32 → pw_Mem → Prop) : Nat → Int32 → Int32 → Int32 → pw_Mem → Prop
  | 0, _, _, _, _ => False
  | n + 1, l1, l2, l3, σ => ((60 ≤ l3 → KX l1 l2 l3 σ) ∧ (¬ 60 ≤ l3 → vp_in l3 60 ∧ ∀ τ3, τ3 = pw_up σ 48 (Int32.toNatClampNeg l3) 0 → R_X7_makeNew_at47_L12 K KX n l1 l2 (l3 + 1) τ3))
def R_X7_makeNew_at47 (a1 : Int32) (a2 : Int32) (σ : pw_Mem) (K : pw_Mem → Prop) : Prop := ∀ τ1, τ1 = pw_up σ 47 1 a1 → ∀ τ2, τ2 = pw_up τ1 47 2 a2 → ∃ n8, R_X7_makeNew_at47_L12 K (fun y4 y5 y6 τ7 => K τ7) n8 a1 a2 0 τ2
set_option maxHeartbeats 4000000 in
theorem t_X7_makeNew_at47_L12 {L : pw_Lay} {d : Nat} {K : pw_Mem → Prop} {KX : Int32 → Int32 → Int32 → pw_Mem → Prop} : ∀ (n : Nat) (l1 : Int32) (l2 : Int32) (l3 : Int32) (σ : pw_Mem), R_X7_makeNew_at47_L12 K KX n l1 l2 l3 σ → (∀ (l1 : Int32) (l2 : Int32) (l3 : Int32) (τ : pw_Mem), KX l1 l2 l3 τ → PW L (d + 0) m_X7_makeNew (kv K) 31 [some (.ref 47), some (.int l1), some (.int l2), some (.int l3)] [] τ) → PW L (d + 0) m_X7_makeNew (kv K) 12 [some (.ref 47), some (.int l1), some (.int l2), some (.int l3)] [] σ := by
  intro n
  induction n with
  | zero => intro l1 l2 l3 _ h _; exact h.elim
  | succ n ih =>
    intro l1 l2 l3 σ h hX
    unfold R_X7_makeNew_at47_L12 at h
    refine pw_iload_n (i := 3) dX7_makeNew_12 rfl rfl ?_
    refine pw_bipush (v := 60) dX7_makeNew_13 kb_60 ?_
    refine pw_icmp_ge (tgt := 31) dX7_makeNew_15 rfl (fun q => ?_) (fun q => ?_)
    · have h := h.1 q
      exact hX _ _ _ _ h
    · have h := h.2 q
      refine pw_aload_n (i := 0) dX7_makeNew_18 rfl rfl ?_
      refine pw_getR dX7_makeNew_19 fl_X7_9 rfl rfl ?_
      refine pw_iload_n (i := 3) dX7_makeNew_22 rfl rfl ?_
      refine pw_iconst (v := 0) dX7_makeNew_23 kc_0 ?_
      obtain ⟨hb, h⟩ := h
      refine pw_iast dX7_makeNew_24 rfl hb ?_
      generalize hτ3 : pw_up σ 48 (Int32.toNatClampNeg l3) 0 = τ3
      have h := h τ3 hτ3.symm
      refine pw_iinc (i := 3) (v := l3 + 1) (ls' := [some (.ref 47), some (.int l1), some (.int l2), some (.int (l3 + 1))]) dX7_makeNew_25 rfl (by rw [kc_1]) (Nat.le_of_ble_eq_true rfl) rfl ?_
      refine pw_goto (tgt := 12) dX7_makeNew_28 rfl ?_
      exact ih _ _ _ _ h hX
set_option maxHeartbeats 4000000 in
theorem c_X7_makeNew_at47 {L : pw_Lay} {d : Nat} {a1 : Int32} {a2 : Int32} {σ : pw_Mem} {K : pw_Mem → Prop} (h : R_X7_makeNew_at47 a1 a2 σ K) : CT L (d + 0) m_X7_makeNew [.ref 47, .int a1, .int a2] σ (kv K) := by
  refine pw_enter (by decide) rfl (Nat.le_of_ble_eq_true rfl) (ls := [some (.ref 47), some (.int a1), some (.int a2), none]) rfl ?_
  unfold R_X7_makeNew_at47 at h
  refine pw_aload_n (i := 0) dX7_makeNew_0 rfl rfl ?_
  refine pw_iload_n (i := 1) dX7_makeNew_1 rfl rfl ?_
  refine pw_put dX7_makeNew_2 fp_X7_19 rfl rfl rfl rfl ?_
  generalize hτ1 : pw_up σ 47 1 a1 = τ1
  have h := h τ1 hτ1.symm
  refine pw_aload_n (i := 0) dX7_makeNew_5 rfl rfl ?_
  refine pw_iload_n (i := 2) dX7_makeNew_6 rfl rfl ?_
  refine pw_put dX7_makeNew_7 fp_X7_15 rfl rfl rfl rfl ?_
  generalize hτ2 : pw_up τ1 47 2 a2 = τ2
  have h := h τ2 hτ2.symm
  refine pw_iconst (v := 0) dX7_makeNew_10 kc_0 ?_
  refine pw_istore_n (i := 3) (ls' := [some (.ref 47), some (.int a1), some (.int a2), some (.int 0)]) dX7_makeNew_11 rfl (Nat.le_of_ble_eq_true rfl) rfl ?_
  obtain ⟨n8, h⟩ := h
  refine t_X7_makeNew_at47_L12 _ _ _ _ _ h (fun y4 y5 y6 τ7 h => ?_)
  exact pw_vret dX7_makeNew_31 rfl ⟨rfl, h⟩
/-! X10_sheet -/
def R_X10_sheet (a1 : Int32) (a2 : Int32) (a3 : Int32) (σ : pw_Mem) (K : Int32 → pw_Mem → Prop) : Prop := R_X10_isSheet a1 σ (fun x2 τ1 => ((x2 = 0 → K (-1) τ1) ∧ (¬ x2 = 0 → R_X10_isLane a2 τ1 (fun x4 τ3 => ((x4 = 0 → K (-1) τ3) ∧ (¬ x4 = 0 → ((a3 ≤ 60 → ((0 ≤ a3 → ((a1 = 0 ∨ a1 = 1 ∨ a1 = 2 ∨ a1 = 3) ∧ (a1 = 0 → R_X7_makeNew_at41 a2 a3 τ3 (fun τ5 => K 1 τ5)) ∧ (a1 = 1 → R_X7_makeNew_at43 a2 a3 τ3 (fun τ6 => K 1 τ6)) ∧ (a1 = 2 → R_X7_makeNew_at45 a2 a3 τ3 (fun τ7 => K 1 τ7)) ∧ (a1 = 3 → R_X7_makeNew_at47 a2 a3 τ3 (fun τ8 => K 1 τ8)))) ∧ (¬ 0 ≤ a3 → K (-14) τ3))) ∧ (¬ a3 ≤ 60 → K (-1) τ3))))))))
set_option maxHeartbeats 4000000 in
theorem c_X10_sheet {L : pw_Lay} {d : Nat} {a1 : Int32} {a2 : Int32} {a3 : Int32} {σ : pw_Mem} {K : Int32 → pw_Mem → Prop} (h : R_X10_sheet a1 a2 a3 σ K) : CT L (d + 2) m_X10_sheet [.ref 0, .int a1, .int a2, .int a3] σ (ki K) := by
  refine pw_enter (by decide) rfl (Nat.le_of_ble_eq_true rfl) (ls := [some (.ref 0), some (.int a1), some (.int a2), some (.int a3)]) rfl ?_
  unfold R_X10_sheet at h
  refine pw_iload_n (i := 1) dX10_sheet_0 rfl rfl ?_
  refine pw_cSi [.int a1] dX10_sheet_1 ms_X10_285 rfl rfl (Nat.le_of_ble_eq_true rfl) (c_X10_isSheet h) (fun x2 τ1 h => ?_)
  refine pw_if_eq (tgt := 20) dX10_sheet_4 rfl (fun q => ?_) (fun q => ?_)
  · have h := h.1 q
    refine pw_iconst (v := (-1)) dX10_sheet_20 kc_m1 ?_
    exact pw_ret dX10_sheet_21 rfl rfl ⟨_, rfl, h⟩
  · have h := h.2 q
    refine pw_iload_n (i := 2) dX10_sheet_7 rfl rfl ?_
    refine pw_cSi [.int a2] dX10_sheet_8 ms_X10_288 rfl rfl (Nat.le_of_ble_eq_true rfl) (c_X10_isLane h) (fun x4 τ3 h => ?_)
    refine pw_if_eq (tgt := 20) dX10_sheet_11 rfl (fun q => ?_) (fun q => ?_)
    · have h := h.1 q
      refine pw_iconst (v := (-1)) dX10_sheet_20 kc_m1 ?_
      exact pw_ret dX10_sheet_21 rfl rfl ⟨_, rfl, h⟩
    · have h := h.2 q
      refine pw_iload_n (i := 3) dX10_sheet_14 rfl rfl ?_
      refine pw_bipush (v := 60) dX10_sheet_15 kb_60 ?_
      refine pw_icmp_le (tgt := 22) dX10_sheet_17 rfl (fun q => ?_) (fun q => ?_)
      · have h := h.1 q
        refine pw_iload_n (i := 3) dX10_sheet_22 rfl rfl ?_
        refine pw_if_ge (tgt := 29) dX10_sheet_23 rfl (fun q => ?_) (fun q => ?_)
        · have h := h.1 q
          refine pw_aload_n (i := 0) dX10_sheet_29 rfl rfl ?_
          refine pw_getR dX10_sheet_30 fl_X10_78 rfl rfl ?_
          refine pw_iload_n (i := 1) dX10_sheet_33 rfl rfl ?_
          have hc4 := h.1
          have h := h.2
          rcases hc4 with hi | hi | hi | hi
          · have h := h.1 hi
            refine pw_aaldS dX10_sheet_34 rfl (by rw [hi]; exact vi4_0) (by rw [hi]; rfl) ?_
            refine pw_iload_n (i := 2) dX10_sheet_35 rfl rfl ?_
            refine pw_iload_n (i := 3) dX10_sheet_36 rfl rfl ?_
            refine pw_cVv [.int a2, .int a3] dX10_sheet_37 mv_X10_291 rfl rfl rfl (Nat.le_of_ble_eq_true rfl) (c_X7_makeNew_at41 h) (fun τ5 h => ?_)
            refine pw_iconst (v := 1) dX10_sheet_40 kc_1 ?_
            exact pw_ret dX10_sheet_41 rfl rfl ⟨_, rfl, h⟩
          · have h := h.2.1 hi
            refine pw_aaldS dX10_sheet_34 rfl (by rw [hi]; exact vi4_1) (by rw [hi]; rfl) ?_
            refine pw_iload_n (i := 2) dX10_sheet_35 rfl rfl ?_
            refine pw_iload_n (i := 3) dX10_sheet_36 rfl rfl ?_
            refine pw_cVv [.int a2, .int a3] dX10_sheet_37 mv_X10_291 rfl rfl rfl (Nat.le_of_ble_eq_true rfl) (c_X7_makeNew_at43 h) (fun τ6 h => ?_)
            refine pw_iconst (v := 1) dX10_sheet_40 kc_1 ?_
            exact pw_ret dX10_sheet_41 rfl rfl ⟨_, rfl, h⟩
          · have h := h.2.2.1 hi
            refine pw_aaldS dX10_sheet_34 rfl (by rw [hi]; exact vi4_2) (by rw [hi]; rfl) ?_
            refine pw_iload_n (i := 2) dX10_sheet_35 rfl rfl ?_
            refine pw_iload_n (i := 3) dX10_sheet_36 rfl rfl ?_
            refine pw_cVv [.int a2, .int a3] dX10_sheet_37 mv_X10_291 rfl rfl rfl (Nat.le_of_ble_eq_true rfl) (c_X7_makeNew_at45 h) (fun τ7 h => ?_)
            refine pw_iconst (v := 1) dX10_sheet_40 kc_1 ?_
            exact pw_ret dX10_sheet_41 rfl rfl ⟨_, rfl, h⟩
          · have h := h.2.2.2 hi
            refine pw_aaldS dX10_sheet_34 rfl (by rw [hi]; exact vi4_3) (by rw [hi]; rfl) ?_
            refine pw_iload_n (i := 2) dX10_sheet_35 rfl rfl ?_
            refine pw_iload_n (i := 3) dX10_sheet_36 rfl rfl ?_
            refine pw_cVv [.int a2, .int a3] dX10_sheet_37 mv_X10_291 rfl rfl rfl (Nat.le_of_ble_eq_true rfl) (c_X7_makeNew_at47 h) (fun τ8 h => ?_)
            refine pw_iconst (v := 1) dX10_sheet_40 kc_1 ?_
            exact pw_ret dX10_sheet_41 rfl rfl ⟨_, rfl, h⟩
        · have h := h.2 q
          refine pw_bipush (v := (-14)) dX10_sheet_26 kb_m14 ?_
          exact pw_ret dX10_sheet_28 rfl rfl ⟨_, rfl, h⟩
      · have h := h.2 q
        refine pw_iconst (v := (-1)) dX10_sheet_20 kc_m1 ?_
        exact pw_ret dX10_sheet_21 rfl rfl ⟨_, rfl, h⟩
/-! X7_isNothing_at41 -/
def R_X7_isNothing_at41  (σ : pw_Mem) (K : Int32 → pw_Mem → Prop) : Prop := ((¬ (σ 41 2) = (-1) → K 0 σ) ∧ ((σ 41 2) = (-1) → K 1 σ))
set_option maxHeartbeats 4000000 in
theorem c_X7_isNothing_at41 {L : pw_Lay} {d : Nat}  {σ : pw_Mem} {K : Int32 → pw_Mem → Prop} (h : R_X7_isNothing_at41  σ K) : CT L (d + 0) m_X7_isNothing [.ref 41] σ (ki K) := by
  refine pw_enter (by decide) rfl (Nat.le_of_ble_eq_true rfl) (ls := [some (.ref 41)]) rfl ?_
  unfold R_X7_isNothing_at41 at h
  refine pw_aload_n (i := 0) dX7_isNothing_0 rfl rfl ?_
  refine pw_getI dX7_isNothing_1 fl_X7_15 rfl rfl ?_
  refine pw_iconst (v := (-1)) dX7_isNothing_4 kc_m1 ?_
  refine pw_icmp_ne (tgt := 12) dX7_isNothing_5 rfl (fun q => ?_) (fun q => ?_)
  · have h := h.1 q
    refine pw_iconst (v := 0) dX7_isNothing_12 kc_0 ?_
    exact pw_ret dX7_isNothing_13 rfl rfl ⟨_, rfl, h⟩
  · have h := h.2 q
    refine pw_iconst (v := 1) dX7_isNothing_8 kc_1 ?_
    refine pw_goto (tgt := 13) dX7_isNothing_9 rfl ?_
    exact pw_ret dX7_isNothing_13 rfl rfl ⟨_, rfl, h⟩
/-! X7_put_at41 -/
def R_X7_put_at41 (a1 : Int32) (a2 : Int32) (σ : pw_Mem) (K : pw_Mem → Prop) : Prop := ((¬ (σ 41 1) = 0 → ((¬ (σ 41 1) = 1 → vp_in a1 60 ∧ ∀ τ1, τ1 = pw_up σ 42 (Int32.toNatClampNeg a1) a2 → K τ1) ∧ ((σ 41 1) = 1 → vp_in a1 60 ∧ ∀ τ2, τ2 = pw_up σ 42 (Int32.toNatClampNeg a1) (Int16.toInt32 (Int32.toInt16 a2)) → K τ2))) ∧ ((σ 41 1) = 0 → vp_in a1 60 ∧ ∀ τ3, τ3 = pw_up σ 42 (Int32.toNatClampNeg a1) (Int8.toInt32 (Int32.toInt8 a2)) → K τ3))
set_option maxHeartbeats 4000000 in
theorem c_X7_put_at41 {L : pw_Lay} {d : Nat} {a1 : Int32} {a2 : Int32} {σ : pw_Mem} {K : pw_Mem → Prop} (h : R_X7_put_at41 a1 a2 σ K) : CT L (d + 0) m_X7_put [.ref 41, .int a1, .int a2] σ (kv K) := by
  refine pw_enter (by decide) rfl (Nat.le_of_ble_eq_true rfl) (ls := [some (.ref 41), some (.int a1), some (.int a2)]) rfl ?_
  unfold R_X7_put_at41 at h
  refine pw_aload_n (i := 0) dX7_put_0 rfl rfl ?_
  refine pw_getI dX7_put_1 fl_X7_19 rfl rfl ?_
  refine pw_if_ne (tgt := 18) dX7_put_4 rfl (fun q => ?_) (fun q => ?_)
  · have h := h.1 q
    refine pw_aload_n (i := 0) dX7_put_18 rfl rfl ?_
    refine pw_getI dX7_put_19 fl_X7_19 rfl rfl ?_
    refine pw_iconst (v := 1) dX7_put_22 kc_1 ?_
    refine pw_icmp_ne (tgt := 37) dX7_put_23 rfl (fun q => ?_) (fun q => ?_)
    · have h := h.1 q
      refine pw_aload_n (i := 0) dX7_put_37 rfl rfl ?_
      refine pw_getR dX7_put_38 fl_X7_9 rfl rfl ?_
      refine pw_iload_n (i := 1) dX7_put_41 rfl rfl ?_
      refine pw_iload_n (i := 2) dX7_put_42 rfl rfl ?_
      obtain ⟨hb, h⟩ := h
      refine pw_iast dX7_put_43 rfl hb ?_
      generalize hτ1 : pw_up σ 42 (Int32.toNatClampNeg a1) a2 = τ1
      have h := h τ1 hτ1.symm
      exact pw_vret dX7_put_44 rfl ⟨rfl, h⟩
    · have h := h.2 q
      refine pw_aload_n (i := 0) dX7_put_26 rfl rfl ?_
      refine pw_getR dX7_put_27 fl_X7_9 rfl rfl ?_
      refine pw_iload_n (i := 1) dX7_put_30 rfl rfl ?_
      refine pw_iload_n (i := 2) dX7_put_31 rfl rfl ?_
      refine pw_i2s dX7_put_32 ?_
      obtain ⟨hb, h⟩ := h
      refine pw_iast dX7_put_33 rfl hb ?_
      generalize hτ2 : pw_up σ 42 (Int32.toNatClampNeg a1) (Int16.toInt32 (Int32.toInt16 a2)) = τ2
      have h := h τ2 hτ2.symm
      refine pw_goto (tgt := 44) dX7_put_34 rfl ?_
      exact pw_vret dX7_put_44 rfl ⟨rfl, h⟩
  · have h := h.2 q
    refine pw_aload_n (i := 0) dX7_put_7 rfl rfl ?_
    refine pw_getR dX7_put_8 fl_X7_9 rfl rfl ?_
    refine pw_iload_n (i := 1) dX7_put_11 rfl rfl ?_
    refine pw_iload_n (i := 2) dX7_put_12 rfl rfl ?_
    refine pw_i2b dX7_put_13 ?_
    obtain ⟨hb, h⟩ := h
    refine pw_iast dX7_put_14 rfl hb ?_
    generalize hτ3 : pw_up σ 42 (Int32.toNatClampNeg a1) (Int8.toInt32 (Int32.toInt8 a2)) = τ3
    have h := h τ3 hτ3.symm
    refine pw_goto (tgt := 44) dX7_put_15 rfl ?_
    exact pw_vret dX7_put_44 rfl ⟨rfl, h⟩
/-! X7_isNothing_at43 -/
def R_X7_isNothing_at43  (σ : pw_Mem) (K : Int32 → pw_Mem → Prop) : Prop := ((¬ (σ 43 2) = (-1) → K 0 σ) ∧ ((σ 43 2) = (-1) → K 1 σ))
set_option maxHeartbeats 4000000 in
theorem c_X7_isNothing_at43 {L : pw_Lay} {d : Nat}  {σ : pw_Mem} {K : Int32 → pw_Mem → Prop} (h : R_X7_isNothing_at43  σ K) : CT L (d + 0) m_X7_isNothing [.ref 43] σ (ki K) := by
  refine pw_enter (by decide) rfl (Nat.le_of_ble_eq_true rfl) (ls := [some (.ref 43)]) rfl ?_
  unfold R_X7_isNothing_at43 at h
  refine pw_aload_n (i := 0) dX7_isNothing_0 rfl rfl ?_
  refine pw_getI dX7_isNothing_1 fl_X7_15 rfl rfl ?_
  refine pw_iconst (v := (-1)) dX7_isNothing_4 kc_m1 ?_
  refine pw_icmp_ne (tgt := 12) dX7_isNothing_5 rfl (fun q => ?_) (fun q => ?_)
  · have h := h.1 q
    refine pw_iconst (v := 0) dX7_isNothing_12 kc_0 ?_
    exact pw_ret dX7_isNothing_13 rfl rfl ⟨_, rfl, h⟩
  · have h := h.2 q
    refine pw_iconst (v := 1) dX7_isNothing_8 kc_1 ?_
    refine pw_goto (tgt := 13) dX7_isNothing_9 rfl ?_
    exact pw_ret dX7_isNothing_13 rfl rfl ⟨_, rfl, h⟩
/-! X7_put_at43 -/
def R_X7_put_at43 (a1 : Int32) (a2 : Int32) (σ : pw_Mem) (K : pw_Mem → Prop) : Prop := ((¬ (σ 43 1) = 0 → ((¬ (σ 43 1) = 1 → vp_in a1 60 ∧ ∀ τ1, τ1 = pw_up σ 44 (Int32.toNatClampNeg a1) a2 → K τ1) ∧ ((σ 43 1) = 1 → vp_in a1 60 ∧ ∀ τ2, τ2 = pw_up σ 44 (Int32.toNatClampNeg a1) (Int16.toInt32 (Int32.toInt16 a2)) → K τ2))) ∧ ((σ 43 1) = 0 → vp_in a1 60 ∧ ∀ τ3, τ3 = pw_up σ 44 (Int32.toNatClampNeg a1) (Int8.toInt32 (Int32.toInt8 a2)) → K τ3))
set_option maxHeartbeats 4000000 in
theorem c_X7_put_at43 {L : pw_Lay} {d : Nat} {a1 : Int32} {a2 : Int32} {σ : pw_Mem} {K : pw_Mem → Prop} (h : R_X7_put_at43 a1 a2 σ K) : CT L (d + 0) m_X7_put [.ref 43, .int a1, .int a2] σ (kv K) := by
  refine pw_enter (by decide) rfl (Nat.le_of_ble_eq_true rfl) (ls := [some (.ref 43), some (.int a1), some (.int a2)]) rfl ?_
  unfold R_X7_put_at43 at h
  refine pw_aload_n (i := 0) dX7_put_0 rfl rfl ?_
  refine pw_getI dX7_put_1 fl_X7_19 rfl rfl ?_
  refine pw_if_ne (tgt := 18) dX7_put_4 rfl (fun q => ?_) (fun q => ?_)
  · have h := h.1 q
    refine pw_aload_n (i := 0) dX7_put_18 rfl rfl ?_
    refine pw_getI dX7_put_19 fl_X7_19 rfl rfl ?_
    refine pw_iconst (v := 1) dX7_put_22 kc_1 ?_
    refine pw_icmp_ne (tgt := 37) dX7_put_23 rfl (fun q => ?_) (fun q => ?_)
    · have h := h.1 q
      refine pw_aload_n (i := 0) dX7_put_37 rfl rfl ?_
      refine pw_getR dX7_put_38 fl_X7_9 rfl rfl ?_
      refine pw_iload_n (i := 1) dX7_put_41 rfl rfl ?_
      refine pw_iload_n (i := 2) dX7_put_42 rfl rfl ?_
      obtain ⟨hb, h⟩ := h
      refine pw_iast dX7_put_43 rfl hb ?_
      generalize hτ1 : pw_up σ 44 (Int32.toNatClampNeg a1) a2 = τ1
      have h := h τ1 hτ1.symm
      exact pw_vret dX7_put_44 rfl ⟨rfl, h⟩
    · have h := h.2 q
      refine pw_aload_n (i := 0) dX7_put_26 rfl rfl ?_
      refine pw_getR dX7_put_27 fl_X7_9 rfl rfl ?_
      refine pw_iload_n (i := 1) dX7_put_30 rfl rfl ?_
      refine pw_iload_n (i := 2) dX7_put_31 rfl rfl ?_
      refine pw_i2s dX7_put_32 ?_
      obtain ⟨hb, h⟩ := h
      refine pw_iast dX7_put_33 rfl hb ?_
      generalize hτ2 : pw_up σ 44 (Int32.toNatClampNeg a1) (Int16.toInt32 (Int32.toInt16 a2)) = τ2
      have h := h τ2 hτ2.symm
      refine pw_goto (tgt := 44) dX7_put_34 rfl ?_
      exact pw_vret dX7_put_44 rfl ⟨rfl, h⟩
  · have h := h.2 q
    refine pw_aload_n (i := 0) dX7_put_7 rfl rfl ?_
    refine pw_getR dX7_put_8 fl_X7_9 rfl rfl ?_
    refine pw_iload_n (i := 1) dX7_put_11 rfl rfl ?_
    refine pw_iload_n (i := 2) dX7_put_12 rfl rfl ?_
    refine pw_i2b dX7_put_13 ?_
    obtain ⟨hb, h⟩ := h
    refine pw_iast dX7_put_14 rfl hb ?_
    generalize hτ3 : pw_up σ 44 (Int32.toNatClampNeg a1) (Int8.toInt32 (Int32.toInt8 a2)) = τ3
    have h := h τ3 hτ3.symm
    refine pw_goto (tgt := 44) dX7_put_15 rfl ?_
    exact pw_vret dX7_put_44 rfl ⟨rfl, h⟩
/-! X7_isNothing_at45 -/
def R_X7_isNothing_at45  (σ : pw_Mem) (K : Int32 → pw_Mem → Prop) : Prop := ((¬ (σ 45 2) = (-1) → K 0 σ) ∧ ((σ 45 2) = (-1) → K 1 σ))
set_option maxHeartbeats 4000000 in
theorem c_X7_isNothing_at45 {L : pw_Lay} {d : Nat}  {σ : pw_Mem} {K : Int32 → pw_Mem → Prop} (h : R_X7_isNothing_at45  σ K) : CT L (d + 0) m_X7_isNothing [.ref 45] σ (ki K) := by
  refine pw_enter (by decide) rfl (Nat.le_of_ble_eq_true rfl) (ls := [some (.ref 45)]) rfl ?_
  unfold R_X7_isNothing_at45 at h
  refine pw_aload_n (i := 0) dX7_isNothing_0 rfl rfl ?_
  refine pw_getI dX7_isNothing_1 fl_X7_15 rfl rfl ?_
  refine pw_iconst (v := (-1)) dX7_isNothing_4 kc_m1 ?_
  refine pw_icmp_ne (tgt := 12) dX7_isNothing_5 rfl (fun q => ?_) (fun q => ?_)
  · have h := h.1 q
    refine pw_iconst (v := 0) dX7_isNothing_12 kc_0 ?_
    exact pw_ret dX7_isNothing_13 rfl rfl ⟨_, rfl, h⟩
  · have h := h.2 q
    refine pw_iconst (v := 1) dX7_isNothing_8 kc_1 ?_
    refine pw_goto (tgt := 13) dX7_isNothing_9 rfl ?_
    exact pw_ret dX7_isNothing_13 rfl rfl ⟨_, rfl, h⟩
/-! X7_put_at45 -/
def R_X7_put_at45 (a1 : Int32) (a2 : Int32) (σ : pw_Mem) (K : pw_Mem → Prop) : Prop := ((¬ (σ 45 1) = 0 → ((¬ (σ 45 1) = 1 → vp_in a1 60 ∧ ∀ τ1, τ1 = pw_up σ 46 (Int32.toNatClampNeg a1) a2 → K τ1) ∧ ((σ 45 1) = 1 → vp_in a1 60 ∧ ∀ τ2, τ2 = pw_up σ 46 (Int32.toNatClampNeg a1) (Int16.toInt32 (Int32.toInt16 a2)) → K τ2))) ∧ ((σ 45 1) = 0 → vp_in a1 60 ∧ ∀ τ3, τ3 = pw_up σ 46 (Int32.toNatClampNeg a1) (Int8.toInt32 (Int32.toInt8 a2)) → K τ3))
set_option maxHeartbeats 4000000 in
theorem c_X7_put_at45 {L : pw_Lay} {d : Nat} {a1 : Int32} {a2 : Int32} {σ : pw_Mem} {K : pw_Mem → Prop} (h : R_X7_put_at45 a1 a2 σ K) : CT L (d + 0) m_X7_put [.ref 45, .int a1, .int a2] σ (kv K) := by
  refine pw_enter (by decide) rfl (Nat.le_of_ble_eq_true rfl) (ls := [some (.ref 45), some (.int a1), some (.int a2)]) rfl ?_
  unfold R_X7_put_at45 at h
  refine pw_aload_n (i := 0) dX7_put_0 rfl rfl ?_
  refine pw_getI dX7_put_1 fl_X7_19 rfl rfl ?_
  refine pw_if_ne (tgt := 18) dX7_put_4 rfl (fun q => ?_) (fun q => ?_)
  · have h := h.1 q
    refine pw_aload_n (i := 0) dX7_put_18 rfl rfl ?_
    refine pw_getI dX7_put_19 fl_X7_19 rfl rfl ?_
    refine pw_iconst (v := 1) dX7_put_22 kc_1 ?_
    refine pw_icmp_ne (tgt := 37) dX7_put_23 rfl (fun q => ?_) (fun q => ?_)
    · have h := h.1 q
      refine pw_aload_n (i := 0) dX7_put_37 rfl rfl ?_
      refine pw_getR dX7_put_38 fl_X7_9 rfl rfl ?_
      refine pw_iload_n (i := 1) dX7_put_41 rfl rfl ?_
      refine pw_iload_n (i := 2) dX7_put_42 rfl rfl ?_
      obtain ⟨hb, h⟩ := h
      refine pw_iast dX7_put_43 rfl hb ?_
      generalize hτ1 : pw_up σ 46 (Int32.toNatClampNeg a1) a2 = τ1
      have h := h τ1 hτ1.symm
      exact pw_vret dX7_put_44 rfl ⟨rfl, h⟩
    · have h := h.2 q
      refine pw_aload_n (i := 0) dX7_put_26 rfl rfl ?_
      refine pw_getR dX7_put_27 fl_X7_9 rfl rfl ?_
      refine pw_iload_n (i := 1) dX7_put_30 rfl rfl ?_
      refine pw_iload_n (i := 2) dX7_put_31 rfl rfl ?_
      refine pw_i2s dX7_put_32 ?_
      obtain ⟨hb, h⟩ := h
      refine pw_iast dX7_put_33 rfl hb ?_
      generalize hτ2 : pw_up σ 46 (Int32.toNatClampNeg a1) (Int16.toInt32 (Int32.toInt16 a2)) = τ2
      have h := h τ2 hτ2.symm
      refine pw_goto (tgt := 44) dX7_put_34 rfl ?_
      exact pw_vret dX7_put_44 rfl ⟨rfl, h⟩
  · have h := h.2 q
    refine pw_aload_n (i := 0) dX7_put_7 rfl rfl ?_
    refine pw_getR dX7_put_8 fl_X7_9 rfl rfl ?_
    refine pw_iload_n (i := 1) dX7_put_11 rfl rfl ?_
    refine pw_iload_n (i := 2) dX7_put_12 rfl rfl ?_
    refine pw_i2b dX7_put_13 ?_
    obtain ⟨hb, h⟩ := h
    refine pw_iast dX7_put_14 rfl hb ?_
    generalize hτ3 : pw_up σ 46 (Int32.toNatClampNeg a1) (Int8.toInt32 (Int32.toInt8 a2)) = τ3
    have h := h τ3 hτ3.symm
    refine pw_goto (tgt := 44) dX7_put_15 rfl ?_
    exact pw_vret dX7_put_44 rfl ⟨rfl, h⟩
/-! X7_isNothing_at47 -/
def R_X7_isNothing_at47  (σ : pw_Mem) (K : Int32 → pw_Mem → Prop) : Prop := ((¬ (σ 47 2) = (-1) → K 0 σ) ∧ ((σ 47 2) = (-1) → K 1 σ))
set_option maxHeartbeats 4000000 in
theorem c_X7_isNothing_at47 {L : pw_Lay} {d : Nat}  {σ : pw_Mem} {K : Int32 → pw_Mem → Prop} (h : R_X7_isNothing_at47  σ K) : CT L (d + 0) m_X7_isNothing [.ref 47] σ (ki K) := by
  refine pw_enter (by decide) rfl (Nat.le_of_ble_eq_true rfl) (ls := [some (.ref 47)]) rfl ?_
  unfold R_X7_isNothing_at47 at h
  refine pw_aload_n (i := 0) dX7_isNothing_0 rfl rfl ?_
  refine pw_getI dX7_isNothing_1 fl_X7_15 rfl rfl ?_
  refine pw_iconst (v := (-1)) dX7_isNothing_4 kc_m1 ?_
  refine pw_icmp_ne (tgt := 12) dX7_isNothing_5 rfl (fun q => ?_) (fun q => ?_)
  · have h := h.1 q
    refine pw_iconst (v := 0) dX7_isNothing_12 kc_0 ?_
    exact pw_ret dX7_isNothing_13 rfl rfl ⟨_, rfl, h⟩
  · have h := h.2 q
    refine pw_iconst (v := 1) dX7_isNothing_8 kc_1 ?_
    refine pw_goto (tgt := 13) dX7_isNothing_9 rfl ?_
    exact pw_ret dX7_isNothing_13 rfl rfl ⟨_, rfl, h⟩
/-! X7_put_at47 -/
def R_X7_put_at47 (a1 : Int32) (a2 : Int32) (σ : pw_Mem) (K : pw_Mem → Prop) : Prop := ((¬ (σ 47 1) = 0 → ((¬ (σ 47 1) = 1 → vp_in a1 60 ∧ ∀ τ1, τ1 = pw_up σ 48 (Int32.toNatClampNeg a1) a2 → K τ1) ∧ ((σ 47 1) = 1 → vp_in a1 60 ∧ ∀ τ2, τ2 = pw_up σ 48 (Int32.toNatClampNeg a1) (Int16.toInt32 (Int32.toInt16 a2)) → K τ2))) ∧ ((σ 47 1) = 0 → vp_in a1 60 ∧ ∀ τ3, τ3 = pw_up σ 48 (Int32.toNatClampNeg a1) (Int8.toInt32 (Int32.toInt8 a2)) → K τ3))
set_option maxHeartbeats 4000000 in
theorem c_X7_put_at47 {L : pw_Lay} {d : Nat} {a1 : Int32} {a2 : Int32} {σ : pw_Mem} {K : pw_Mem → Prop} (h : R_X7_put_at47 a1 a2 σ K) : CT L (d + 0) m_X7_put [.ref 47, .int a1, .int a2] σ (kv K) := by
  refine pw_enter (by decide) rfl (Nat.le_of_ble_eq_true rfl) (ls := [some (.ref 47), some (.int a1), some (.int a2)]) rfl ?_
  unfold R_X7_put_at47 at h
  refine pw_aload_n (i := 0) dX7_put_0 rfl rfl ?_
  refine pw_getI dX7_put_1 fl_X7_19 rfl rfl ?_
  refine pw_if_ne (tgt := 18) dX7_put_4 rfl (fun q => ?_) (fun q => ?_)
  · have h := h.1 q
    refine pw_aload_n (i := 0) dX7_put_18 rfl rfl ?_
    refine pw_getI dX7_put_19 fl_X7_19 rfl rfl ?_
    refine pw_iconst (v := 1) dX7_put_22 kc_1 ?_
    refine pw_icmp_ne (tgt := 37) dX7_put_23 rfl (fun q => ?_) (fun q => ?_)
    · have h := h.1 q
      refine pw_aload_n (i := 0) dX7_put_37 rfl rfl ?_
      refine pw_getR dX7_put_38 fl_X7_9 rfl rfl ?_
      refine pw_iload_n (i := 1) dX7_put_41 rfl rfl ?_
      refine pw_iload_n (i := 2) dX7_put_42 rfl rfl ?_
      obtain ⟨hb, h⟩ := h
      refine pw_iast dX7_put_43 rfl hb ?_
      generalize hτ1 : pw_up σ 48 (Int32.toNatClampNeg a1) a2 = τ1
      have h := h τ1 hτ1.symm
      exact pw_vret dX7_put_44 rfl ⟨rfl, h⟩
    · have h := h.2 q
      refine pw_aload_n (i := 0) dX7_put_26 rfl rfl ?_
      refine pw_getR dX7_put_27 fl_X7_9 rfl rfl ?_
      refine pw_iload_n (i := 1) dX7_put_30 rfl rfl ?_
      refine pw_iload_n (i := 2) dX7_put_31 rfl rfl ?_
      refine pw_i2s dX7_put_32 ?_
      obtain ⟨hb, h⟩ := h
      refine pw_iast dX7_put_33 rfl hb ?_
      generalize hτ2 : pw_up σ 48 (Int32.toNatClampNeg a1) (Int16.toInt32 (Int32.toInt16 a2)) = τ2
      have h := h τ2 hτ2.symm
      refine pw_goto (tgt := 44) dX7_put_34 rfl ?_
      exact pw_vret dX7_put_44 rfl ⟨rfl, h⟩
  · have h := h.2 q
    refine pw_aload_n (i := 0) dX7_put_7 rfl rfl ?_
    refine pw_getR dX7_put_8 fl_X7_9 rfl rfl ?_
    refine pw_iload_n (i := 1) dX7_put_11 rfl rfl ?_
    refine pw_iload_n (i := 2) dX7_put_12 rfl rfl ?_
    refine pw_i2b dX7_put_13 ?_
    obtain ⟨hb, h⟩ := h
    refine pw_iast dX7_put_14 rfl hb ?_
    generalize hτ3 : pw_up σ 48 (Int32.toNatClampNeg a1) (Int8.toInt32 (Int32.toInt8 a2)) = τ3
    have h := h τ3 hτ3.symm
    refine pw_goto (tgt := 44) dX7_put_15 rfl ?_
    exact pw_vret dX7_put_44 rfl ⟨rfl, h⟩
/-! X10_lay -/
def R_X10_lay (a1 : Int32) (a2 : Int32) (a3 : Int32) (σ : pw_Mem) (K : Int32 → pw_Mem → Prop) : Prop := R_X10_isSheet a1 σ (fun x2 τ1 => ((¬ x2 = 0 → ((a1 = 0 ∨ a1 = 1 ∨ a1 = 2 ∨ a1 = 3) ∧ (a1 = 0 → R_X7_isNothing_at41  τ1 (fun x4 τ3 => ((x4 = 0 → R_X10_within a2 0 ((τ3 41 2) - 1) τ3 (fun x6 τ5 => ((¬ x6 = 0 → R_X7_put_at41 a2 a3 τ5 (fun τ7 => K 1 τ7)) ∧ (x6 = 0 → K (-12) τ5)))) ∧ (¬ x4 = 0 → K (-11) τ3)))) ∧ (a1 = 1 → R_X7_isNothing_at43  τ1 (fun x9 τ8 => ((x9 = 0 → R_X10_within a2 0 ((τ8 43 2) - 1) τ8 (fun x11 τ10 => ((¬ x11 = 0 → R_X7_put_at43 a2 a3 τ10 (fun τ12 => K 1 τ12)) ∧ (x11 = 0 → K (-12) τ10)))) ∧ (¬ x9 = 0 → K (-11) τ8)))) ∧ (a1 = 2 → R_X7_isNothing_at45  τ1 (fun x14 τ13 => ((x14 = 0 → R_X10_within a2 0 ((τ13 45 2) - 1) τ13 (fun x16 τ15 => ((¬ x16 = 0 → R_X7_put_at45 a2 a3 τ15 (fun τ17 => K 1 τ17)) ∧ (x16 = 0 → K (-12) τ15)))) ∧ (¬ x14 = 0 → K (-11) τ13)))) ∧ (a1 = 3 → R_X7_isNothing_at47  τ1 (fun x19 τ18 => ((x19 = 0 → R_X10_within a2 0 ((τ18 47 2) - 1) τ18 (fun x21 τ20 => ((¬ x21 = 0 → R_X7_put_at47 a2 a3 τ20 (fun τ22 => K 1 τ22)) ∧ (x21 = 0 → K (-12) τ20)))) ∧ (¬ x19 = 0 → K (-11) τ18)))))) ∧ (x2 = 0 → K (-1) τ1)))
set_option maxHeartbeats 4000000 in
theorem c_X10_lay {L : pw_Lay} {d : Nat} {a1 : Int32} {a2 : Int32} {a3 : Int32} {σ : pw_Mem} {K : Int32 → pw_Mem → Prop} (h : R_X10_lay a1 a2 a3 σ K) : CT L (d + 2) m_X10_lay [.ref 0, .int a1, .int a2, .int a3] σ (ki K) := by
  refine pw_enter (by decide) rfl (Nat.le_of_ble_eq_true rfl) (ls := [some (.ref 0), some (.int a1), some (.int a2), some (.int a3), none]) rfl ?_
  unfold R_X10_lay at h
  refine pw_iload_n (i := 1) dX10_lay_0 rfl rfl ?_
  refine pw_cSi [.int a1] dX10_lay_1 ms_X10_285 rfl rfl (Nat.le_of_ble_eq_true rfl) (c_X10_isSheet h) (fun x2 τ1 h => ?_)
  refine pw_if_ne (tgt := 9) dX10_lay_4 rfl (fun q => ?_) (fun q => ?_)
  · have h := h.1 q
    refine pw_aload_n (i := 0) dX10_lay_9 rfl rfl ?_
    refine pw_getR dX10_lay_10 fl_X10_78 rfl rfl ?_
    refine pw_iload_n (i := 1) dX10_lay_13 rfl rfl ?_
    have hc4 := h.1
    have h := h.2
    rcases hc4 with hi | hi | hi | hi
    · have h := h.1 hi
      refine pw_aaldS dX10_lay_14 rfl (by rw [hi]; exact vi4_0) (by rw [hi]; rfl) ?_
      refine pw_astore (i := 4) (ls' := [some (.ref 0), some (.int a1), some (.int a2), some (.int a3), some (.ref 41)]) dX10_lay_15 (Nat.le_of_ble_eq_true rfl) rfl ?_
      refine pw_aload dX10_lay_17 rfl ?_
      refine pw_cVi [] dX10_lay_19 mv_X10_294 rfl rfl rfl (Nat.le_of_ble_eq_true rfl) (c_X7_isNothing_at41 h) (fun x4 τ3 h => ?_)
      refine pw_if_eq (tgt := 28) dX10_lay_22 rfl (fun q => ?_) (fun q => ?_)
      · have h := h.1 q
        refine pw_iload_n (i := 2) dX10_lay_28 rfl rfl ?_
        refine pw_iconst (v := 0) dX10_lay_29 kc_0 ?_
        refine pw_aload dX10_lay_30 rfl ?_
        refine pw_getI dX10_lay_32 fl_X10_297 rfl rfl ?_
        refine pw_iconst (v := 1) dX10_lay_35 kc_1 ?_
        refine pw_isub dX10_lay_36 ?_
        refine pw_cSi [.int a2, .int 0, .int ((τ3 41 2) - 1)] dX10_lay_37 ms_X10_83 rfl rfl (Nat.le_of_ble_eq_true rfl) (c_X10_within h) (fun x6 τ5 h => ?_)
        refine pw_if_ne (tgt := 46) dX10_lay_40 rfl (fun q => ?_) (fun q => ?_)
        · have h := h.1 q
          refine pw_aload dX10_lay_46 rfl ?_
          refine pw_iload_n (i := 2) dX10_lay_48 rfl rfl ?_
          refine pw_iload_n (i := 3) dX10_lay_49 rfl rfl ?_
          refine pw_cVv [.int a2, .int a3] dX10_lay_50 mv_X10_300 rfl rfl rfl (Nat.le_of_ble_eq_true rfl) (c_X7_put_at41 h) (fun τ7 h => ?_)
          refine pw_iconst (v := 1) dX10_lay_53 kc_1 ?_
          exact pw_ret dX10_lay_54 rfl rfl ⟨_, rfl, h⟩
        · have h := h.2 q
          refine pw_bipush (v := (-12)) dX10_lay_43 kb_m12 ?_
          exact pw_ret dX10_lay_45 rfl rfl ⟨_, rfl, h⟩
      · have h := h.2 q
        refine pw_bipush (v := (-11)) dX10_lay_25 kb_m11 ?_
        exact pw_ret dX10_lay_27 rfl rfl ⟨_, rfl, h⟩
    · have h := h.2.1 hi
      refine pw_aaldS dX10_lay_14 rfl (by rw [hi]; exact vi4_1) (by rw [hi]; rfl) ?_
      refine pw_astore (i := 4) (ls' := [some (.ref 0), some (.int a1), some (.int a2), some (.int a3), some (.ref 43)]) dX10_lay_15 (Nat.le_of_ble_eq_true rfl) rfl ?_
      refine pw_aload dX10_lay_17 rfl ?_
      refine pw_cVi [] dX10_lay_19 mv_X10_294 rfl rfl rfl (Nat.le_of_ble_eq_true rfl) (c_X7_isNothing_at43 h) (fun x9 τ8 h => ?_)
      refine pw_if_eq (tgt := 28) dX10_lay_22 rfl (fun q => ?_) (fun q => ?_)
      · have h := h.1 q
        refine pw_iload_n (i := 2) dX10_lay_28 rfl rfl ?_
        refine pw_iconst (v := 0) dX10_lay_29 kc_0 ?_
        refine pw_aload dX10_lay_30 rfl ?_
        refine pw_getI dX10_lay_32 fl_X10_297 rfl rfl ?_
        refine pw_iconst (v := 1) dX10_lay_35 kc_1 ?_
        refine pw_isub dX10_lay_36 ?_
        refine pw_cSi [.int a2, .int 0, .int ((τ8 43 2) - 1)] dX10_lay_37 ms_X10_83 rfl rfl (Nat.le_of_ble_eq_true rfl) (c_X10_within h) (fun x11 τ10 h => ?_)
        refine pw_if_ne (tgt := 46) dX10_lay_40 rfl (fun q => ?_) (fun q => ?_)
        · have h := h.1 q
          refine pw_aload dX10_lay_46 rfl ?_
          refine pw_iload_n (i := 2) dX10_lay_48 rfl rfl ?_
          refine pw_iload_n (i := 3) dX10_lay_49 rfl rfl ?_
          refine pw_cVv [.int a2, .int a3] dX10_lay_50 mv_X10_300 rfl rfl rfl (Nat.le_of_ble_eq_true rfl) (c_X7_put_at43 h) (fun τ12 h => ?_)
          refine pw_iconst (v := 1) dX10_lay_53 kc_1 ?_
          exact pw_ret dX10_lay_54 rfl rfl ⟨_, rfl, h⟩
        · have h := h.2 q
          refine pw_bipush (v := (-12)) dX10_lay_43 kb_m12 ?_
          exact pw_ret dX10_lay_45 rfl rfl ⟨_, rfl, h⟩
      · have h := h.2 q
        refine pw_bipush (v := (-11)) dX10_lay_25 kb_m11 ?_
        exact pw_ret dX10_lay_27 rfl rfl ⟨_, rfl, h⟩
    · have h := h.2.2.1 hi
      refine pw_aaldS dX10_lay_14 rfl (by rw [hi]; exact vi4_2) (by rw [hi]; rfl) ?_
      refine pw_astore (i := 4) (ls' := [some (.ref 0), some (.int a1), some (.int a2), some (.int a3), some (.ref 45)]) dX10_lay_15 (Nat.le_of_ble_eq_true rfl) rfl ?_
      refine pw_aload dX10_lay_17 rfl ?_
      refine pw_cVi [] dX10_lay_19 mv_X10_294 rfl rfl rfl (Nat.le_of_ble_eq_true rfl) (c_X7_isNothing_at45 h) (fun x14 τ13 h => ?_)
      refine pw_if_eq (tgt := 28) dX10_lay_22 rfl (fun q => ?_) (fun q => ?_)
      · have h := h.1 q
        refine pw_iload_n (i := 2) dX10_lay_28 rfl rfl ?_
        refine pw_iconst (v := 0) dX10_lay_29 kc_0 ?_
        refine pw_aload dX10_lay_30 rfl ?_
        refine pw_getI dX10_lay_32 fl_X10_297 rfl rfl ?_
        refine pw_iconst (v := 1) dX10_lay_35 kc_1 ?_
        refine pw_isub dX10_lay_36 ?_
        refine pw_cSi [.int a2, .int 0, .int ((τ13 45 2) - 1)] dX10_lay_37 ms_X10_83 rfl rfl (Nat.le_of_ble_eq_true rfl) (c_X10_within h) (fun x16 τ15 h => ?_)
        refine pw_if_ne (tgt := 46) dX10_lay_40 rfl (fun q => ?_) (fun q => ?_)
        · have h := h.1 q
          refine pw_aload dX10_lay_46 rfl ?_
          refine pw_iload_n (i := 2) dX10_lay_48 rfl rfl ?_
          refine pw_iload_n (i := 3) dX10_lay_49 rfl rfl ?_
          refine pw_cVv [.int a2, .int a3] dX10_lay_50 mv_X10_300 rfl rfl rfl (Nat.le_of_ble_eq_true rfl) (c_X7_put_at45 h) (fun τ17 h => ?_)
          refine pw_iconst (v := 1) dX10_lay_53 kc_1 ?_
          exact pw_ret dX10_lay_54 rfl rfl ⟨_, rfl, h⟩
        · have h := h.2 q
          refine pw_bipush (v := (-12)) dX10_lay_43 kb_m12 ?_
          exact pw_ret dX10_lay_45 rfl rfl ⟨_, rfl, h⟩
      · have h := h.2 q
        refine pw_bipush (v := (-11)) dX10_lay_25 kb_m11 ?_
        exact pw_ret dX10_lay_27 rfl rfl ⟨_, rfl, h⟩
    · have h := h.2.2.2 hi
      refine pw_aaldS dX10_lay_14 rfl (by rw [hi]; exact vi4_3) (by rw [hi]; rfl) ?_
      refine pw_astore (i := 4) (ls' := [some (.ref 0), some (.int a1), some (.int a2), some (.int a3), some (.ref 47)]) dX10_lay_15 (Nat.le_of_ble_eq_true rfl) rfl ?_
      refine pw_aload dX10_lay_17 rfl ?_
      refine pw_cVi [] dX10_lay_19 mv_X10_294 rfl rfl rfl (Nat.le_of_ble_eq_true rfl) (c_X7_isNothing_at47 h) (fun x19 τ18 h => ?_)
      refine pw_if_eq (tgt := 28) dX10_lay_22 rfl (fun q => ?_) (fun q => ?_)
      · have h := h.1 q
        refine pw_iload_n (i := 2) dX10_lay_28 rfl rfl ?_
        refine pw_iconst (v := 0) dX10_lay_29 kc_0 ?_
        refine pw_aload dX10_lay_30 rfl ?_
        refine pw_getI dX10_lay_32 fl_X10_297 rfl rfl ?_
        refine pw_iconst (v := 1) dX10_lay_35 kc_1 ?_
        refine pw_isub dX10_lay_36 ?_
        refine pw_cSi [.int a2, .int 0, .int ((τ18 47 2) - 1)] dX10_lay_37 ms_X10_83 rfl rfl (Nat.le_of_ble_eq_true rfl) (c_X10_within h) (fun x21 τ20 h => ?_)
        refine pw_if_ne (tgt := 46) dX10_lay_40 rfl (fun q => ?_) (fun q => ?_)
        · have h := h.1 q
          refine pw_aload dX10_lay_46 rfl ?_
          refine pw_iload_n (i := 2) dX10_lay_48 rfl rfl ?_
          refine pw_iload_n (i := 3) dX10_lay_49 rfl rfl ?_
          refine pw_cVv [.int a2, .int a3] dX10_lay_50 mv_X10_300 rfl rfl rfl (Nat.le_of_ble_eq_true rfl) (c_X7_put_at47 h) (fun τ22 h => ?_)
          refine pw_iconst (v := 1) dX10_lay_53 kc_1 ?_
          exact pw_ret dX10_lay_54 rfl rfl ⟨_, rfl, h⟩
        · have h := h.2 q
          refine pw_bipush (v := (-12)) dX10_lay_43 kb_m12 ?_
          exact pw_ret dX10_lay_45 rfl rfl ⟨_, rfl, h⟩
      · have h := h.2 q
        refine pw_bipush (v := (-11)) dX10_lay_25 kb_m11 ?_
        exact pw_ret dX10_lay_27 rfl rfl ⟨_, rfl, h⟩
  · have h := h.2 q
    refine pw_iconst (v := (-1)) dX10_lay_7 kc_m1 ?_
    exact pw_ret dX10_lay_8 rfl rfl ⟨_, rfl, h⟩
/-! X7_holdsCall_at41 -/
def R_X7_holdsCall_at41 (a1 : Int32) (a2 : Int32) (σ : pw_Mem) (K : Int32 → pw_Mem → Prop) : Prop := ((a1 < 0 → K 0 σ) ∧ (¬ a1 < 0 → ((((σ 41 2) - (3 * (a2 + 1))) < a1 → K 0 σ) ∧ (¬ ((σ 41 2) - (3 * (a2 + 1))) < a1 → K 1 σ))))
set_option maxHeartbeats 4000000 in
theorem c_X7_holdsCall_at41 {L : pw_Lay} {d : Nat} {a1 : Int32} {a2 : Int32} {σ : pw_Mem} {K : Int32 → pw_Mem → Prop} (h : R_X7_holdsCall_at41 a1 a2 σ K) : CT L (d + 0) m_X7_holdsCall [.ref 41, .int a1, .int a2] σ (ki K) := by
  refine pw_enter (by decide) rfl (Nat.le_of_ble_eq_true rfl) (ls := [some (.ref 41), some (.int a1), some (.int a2)]) rfl ?_
  unfold R_X7_holdsCall_at41 at h
  refine pw_iload_n (i := 1) dX7_holdsCall_0 rfl rfl ?_
  refine pw_if_lt (tgt := 22) dX7_holdsCall_1 rfl (fun q => ?_) (fun q => ?_)
  · have h := h.1 q
    refine pw_iconst (v := 0) dX7_holdsCall_22 kc_0 ?_
    exact pw_ret dX7_holdsCall_23 rfl rfl ⟨_, rfl, h⟩
  · have h := h.2 q
    refine pw_iload_n (i := 1) dX7_holdsCall_4 rfl rfl ?_
    refine pw_aload_n (i := 0) dX7_holdsCall_5 rfl rfl ?_
    refine pw_getI dX7_holdsCall_6 fl_X7_15 rfl rfl ?_
    refine pw_iconst (v := 3) dX7_holdsCall_9 kc_3 ?_
    refine pw_iload_n (i := 2) dX7_holdsCall_10 rfl rfl ?_
    refine pw_iconst (v := 1) dX7_holdsCall_11 kc_1 ?_
    refine pw_iadd dX7_holdsCall_12 ?_
    refine pw_imul dX7_holdsCall_13 ?_
    refine pw_isub dX7_holdsCall_14 ?_
    refine pw_icmp_gt (tgt := 22) dX7_holdsCall_15 rfl (fun q => ?_) (fun q => ?_)
    · have h := h.1 q
      refine pw_iconst (v := 0) dX7_holdsCall_22 kc_0 ?_
      exact pw_ret dX7_holdsCall_23 rfl rfl ⟨_, rfl, h⟩
    · have h := h.2 q
      refine pw_iconst (v := 1) dX7_holdsCall_18 kc_1 ?_
      refine pw_goto (tgt := 23) dX7_holdsCall_19 rfl ?_
      exact pw_ret dX7_holdsCall_23 rfl rfl ⟨_, rfl, h⟩
/-! X10_addFromSheet_at0_41 -/
def R_X10_addFromSheet_at0_41 (a2 : Int32) (a3 : Int32) (σ : pw_Mem) (K : Int32 → pw_Mem → Prop) : Prop := R_X7_holdsCall_at41 a2 a3 σ (fun x2 τ1 => ((¬ x2 = 0 → vp_in (a2 + (3 * a3)) 60 ∧ vp_in ((a2 + (3 * a3)) + 1) 60 ∧ vp_in ((a2 + (3 * a3)) + 2) 60 ∧ R_X10_refusalOfCall (τ1 42 (Int32.toNatClampNeg (a2 + (3 * a3)))) (τ1 42 (Int32.toNatClampNeg ((a2 + (3 * a3)) + 1))) (τ1 42 (Int32.toNatClampNeg ((a2 + (3 * a3)) + 2))) τ1 (fun x4 τ3 => ((x4 = 0 → R_X0_add (τ1 42 (Int32.toNatClampNeg (a2 + (3 * a3)))) (τ1 42 (Int32.toNatClampNeg ((a2 + (3 * a3)) + 1))) (τ1 42 (Int32.toNatClampNeg ((a2 + (3 * a3)) + 2))) τ3 (fun τ5 => K 0 τ5)) ∧ (¬ x4 = 0 → K ((-20) + x4) τ3)))) ∧ (x2 = 0 → K (-12) τ1)))
set_option maxHeartbeats 4000000 in
theorem c_X10_addFromSheet_at0_41 {L : pw_Lay} {d : Nat} {a2 : Int32} {a3 : Int32} {σ : pw_Mem} {K : Int32 → pw_Mem → Prop} (h : R_X10_addFromSheet_at0_41 a2 a3 σ K) : CT L (d + 4) m_X10_addFromSheet [.ref 0, .ref 41, .int a2, .int a3] σ (ki K) := by
  refine pw_enter (by decide) rfl (Nat.le_of_ble_eq_true rfl) (ls := [some (.ref 0), some (.ref 41), some (.int a2), some (.int a3), none, none, none, none, none]) rfl ?_
  unfold R_X10_addFromSheet_at0_41 at h
  refine pw_aload_n (i := 1) dX10_addFromSheet_0 rfl rfl ?_
  refine pw_iload_n (i := 2) dX10_addFromSheet_1 rfl rfl ?_
  refine pw_iload_n (i := 3) dX10_addFromSheet_2 rfl rfl ?_
  refine pw_cVi [.int a2, .int a3] dX10_addFromSheet_3 mv_X10_317 rfl rfl rfl (Nat.le_of_ble_eq_true rfl) (c_X7_holdsCall_at41 h) (fun x2 τ1 h => ?_)
  refine pw_if_ne (tgt := 12) dX10_addFromSheet_6 rfl (fun q => ?_) (fun q => ?_)
  · have h := h.1 q
    refine pw_iload_n (i := 2) dX10_addFromSheet_12 rfl rfl ?_
    refine pw_iconst (v := 3) dX10_addFromSheet_13 kc_3 ?_
    refine pw_iload_n (i := 3) dX10_addFromSheet_14 rfl rfl ?_
    refine pw_imul dX10_addFromSheet_15 ?_
    refine pw_iadd dX10_addFromSheet_16 ?_
    refine pw_istore (i := 4) (ls' := [some (.ref 0), some (.ref 41), some (.int a2), some (.int a3), some (.int (a2 + (3 * a3))), none, none, none, none]) dX10_addFromSheet_17 (Nat.le_of_ble_eq_true rfl) rfl ?_
    refine pw_aload_n (i := 1) dX10_addFromSheet_19 rfl rfl ?_
    refine pw_getR dX10_addFromSheet_20 fl_X10_320 rfl rfl ?_
    refine pw_iload dX10_addFromSheet_23 rfl ?_
    obtain ⟨hb, h⟩ := h
    refine pw_iald dX10_addFromSheet_25 rfl hb ?_
    refine pw_istore (i := 5) (ls' := [some (.ref 0), some (.ref 41), some (.int a2), some (.int a3), some (.int (a2 + (3 * a3))), some (.int (τ1 42 (Int32.toNatClampNeg (a2 + (3 * a3))))), none, none, none]) dX10_addFromSheet_26 (Nat.le_of_ble_eq_true rfl) rfl ?_
    refine pw_aload_n (i := 1) dX10_addFromSheet_28 rfl rfl ?_
    refine pw_getR dX10_addFromSheet_29 fl_X10_320 rfl rfl ?_
    refine pw_iload dX10_addFromSheet_32 rfl ?_
    refine pw_iconst (v := 1) dX10_addFromSheet_34 kc_1 ?_
    refine pw_iadd dX10_addFromSheet_35 ?_
    obtain ⟨hb, h⟩ := h
    refine pw_iald dX10_addFromSheet_36 rfl hb ?_
    refine pw_istore (i := 6) (ls' := [some (.ref 0), some (.ref 41), some (.int a2), some (.int a3), some (.int (a2 + (3 * a3))), some (.int (τ1 42 (Int32.toNatClampNeg (a2 + (3 * a3))))), some (.int (τ1 42 (Int32.toNatClampNeg ((a2 + (3 * a3)) + 1)))), none, none]) dX10_addFromSheet_37 (Nat.le_of_ble_eq_true rfl) rfl ?_
    refine pw_aload_n (i := 1) dX10_addFromSheet_39 rfl rfl ?_
    refine pw_getR dX10_addFromSheet_40 fl_X10_320 rfl rfl ?_
    refine pw_iload dX10_addFromSheet_43 rfl ?_
    refine pw_iconst (v := 2) dX10_addFromSheet_45 kc_2 ?_
    refine pw_iadd dX10_addFromSheet_46 ?_
    obtain ⟨hb, h⟩ := h
    refine pw_iald dX10_addFromSheet_47 rfl hb ?_
    refine pw_istore (i := 7) (ls' := [some (.ref 0), some (.ref 41), some (.int a2), some (.int a3), some (.int (a2 + (3 * a3))), some (.int (τ1 42 (Int32.toNatClampNeg (a2 + (3 * a3))))), some (.int (τ1 42 (Int32.toNatClampNeg ((a2 + (3 * a3)) + 1)))), some (.int (τ1 42 (Int32.toNatClampNeg ((a2 + (3 * a3)) + 2)))), none]) dX10_addFromSheet_48 (Nat.le_of_ble_eq_true rfl) rfl ?_
    refine pw_aload_n (i := 0) dX10_addFromSheet_50 rfl rfl ?_
    refine pw_iload dX10_addFromSheet_51 rfl ?_
    refine pw_iload dX10_addFromSheet_53 rfl ?_
    refine pw_iload dX10_addFromSheet_55 rfl ?_
    refine pw_cVi [.int (τ1 42 (Int32.toNatClampNeg (a2 + (3 * a3)))), .int (τ1 42 (Int32.toNatClampNeg ((a2 + (3 * a3)) + 1))), .int (τ1 42 (Int32.toNatClampNeg ((a2 + (3 * a3)) + 2)))] dX10_addFromSheet_57 mv_X10_113 rfl rfl rfl (Nat.le_of_ble_eq_true rfl) (c_X10_refusalOfCall h) (fun x4 τ3 h => ?_)
    refine pw_istore (i := 8) (ls' := [some (.ref 0), some (.ref 41), some (.int a2), some (.int a3), some (.int (a2 + (3 * a3))), some (.int (τ1 42 (Int32.toNatClampNeg (a2 + (3 * a3))))), some (.int (τ1 42 (Int32.toNatClampNeg ((a2 + (3 * a3)) + 1)))), some (.int (τ1 42 (Int32.toNatClampNeg ((a2 + (3 * a3)) + 2)))), some (.int x4)]) dX10_addFromSheet_60 (Nat.le_of_ble_eq_true rfl) rfl ?_
    refine pw_iload dX10_addFromSheet_62 rfl ?_
    refine pw_if_eq (tgt := 73) dX10_addFromSheet_64 rfl (fun q => ?_) (fun q => ?_)
    · have h := h.1 q
      refine pw_aload_n (i := 0) dX10_addFromSheet_73 rfl rfl ?_
      refine pw_getR dX10_addFromSheet_74 fl_X10_26 rfl rfl ?_
      refine pw_iload dX10_addFromSheet_77 rfl ?_
      refine pw_iload dX10_addFromSheet_79 rfl ?_
      refine pw_iload dX10_addFromSheet_81 rfl ?_
      refine pw_cVv [.int (τ1 42 (Int32.toNatClampNeg (a2 + (3 * a3)))), .int (τ1 42 (Int32.toNatClampNeg ((a2 + (3 * a3)) + 1))), .int (τ1 42 (Int32.toNatClampNeg ((a2 + (3 * a3)) + 2)))] dX10_addFromSheet_83 mv_X10_117 rfl rfl rfl (Nat.le_of_ble_eq_true rfl) (c_X0_add h) (fun τ5 h => ?_)
      refine pw_iconst (v := 0) dX10_addFromSheet_86 kc_0 ?_
      exact pw_ret dX10_addFromSheet_87 rfl rfl ⟨_, rfl, h⟩
    · have h := h.2 q
      refine pw_bipush (v := (-20)) dX10_addFromSheet_67 kb_m20 ?_
      refine pw_iload dX10_addFromSheet_69 rfl ?_
      refine pw_iadd dX10_addFromSheet_71 ?_
      exact pw_ret dX10_addFromSheet_72 rfl rfl ⟨_, rfl, h⟩
  · have h := h.2 q
    refine pw_bipush (v := (-12)) dX10_addFromSheet_9 kb_m12 ?_
    exact pw_ret dX10_addFromSheet_11 rfl rfl ⟨_, rfl, h⟩
/-! X10_removeFromSheet_at0_41 -/
def R_X10_removeFromSheet_at0_41_L3 (K : pw_Mem → Prop) (KX : Int32 → Int32 → Int32 → pw_Mem → Prop) : Nat → Int32 → Int32 → Int32 → pw_Mem → Prop
  | 0, _, _, _, _ => False
  | n + 1, l2, l3, l4, σ => ((l3 ≤ l4 → KX l2 l3 l4 σ) ∧ (¬ l3 ≤ l4 → vp_in (l2 + (3 * l4)) 60 ∧ vp_in ((l2 + (3 * l4)) + 1) 60 ∧ vp_in ((l2 + (3 * l4)) + 2) 60 ∧ R_X0_remove (σ 42 (Int32.toNatClampNeg (l2 + (3 * l4)))) (σ 42 (Int32.toNatClampNeg ((l2 + (3 * l4)) + 1))) (σ 42 (Int32.toNatClampNeg ((l2 + (3 * l4)) + 2))) σ (fun τ1 => R_X10_removeFromSheet_at0_41_L3 K KX n l2 l3 (l4 + 1) τ1)))
def R_X10_removeFromSheet_at0_41 (a2 : Int32) (a3 : Int32) (σ : pw_Mem) (K : pw_Mem → Prop) : Prop := ∃ n6, R_X10_removeFromSheet_at0_41_L3 K (fun y2 y3 y4 τ5 => K τ5) n6 a2 a3 0 σ
set_option maxHeartbeats 4000000 in
theorem t_X10_removeFromSheet_at0_41_L3 {L : pw_Lay} {d : Nat} {K : pw_Mem → Prop} {KX : Int32 → Int32 → Int32 → pw_Mem → Prop} : ∀ (n : Nat) (l2 : Int32) (l3 : Int32) (l4 : Int32) (σ : pw_Mem), R_X10_removeFromSheet_at0_41_L3 K KX n l2 l3 l4 σ → (∀ (l2 : Int32) (l3 : Int32) (l4 : Int32) (τ : pw_Mem), KX l2 l3 l4 τ → PW L (d + 1) m_X10_removeFromSheet (kv K) 55 [some (.ref 0), some (.ref 41), some (.int l2), some (.int l3), some (.int l4), none] [] τ) → PW L (d + 1) m_X10_removeFromSheet (kv K) 3 [some (.ref 0), some (.ref 41), some (.int l2), some (.int l3), some (.int l4), none] [] σ := by
  intro n
  induction n with
  | zero => intro l2 l3 l4 _ h _; exact h.elim
  | succ n ih =>
    intro l2 l3 l4 σ h hX
    unfold R_X10_removeFromSheet_at0_41_L3 at h
    refine pw_iload dX10_removeFromSheet_3 rfl ?_
    refine pw_iload_n (i := 3) dX10_removeFromSheet_5 rfl rfl ?_
    refine pw_icmp_ge (tgt := 55) dX10_removeFromSheet_6 rfl (fun q => ?_) (fun q => ?_)
    · have h := h.1 q
      exact hX _ _ _ _ h
    · have h := h.2 q
      refine pw_iload_n (i := 2) dX10_removeFromSheet_9 rfl rfl ?_
      refine pw_iconst (v := 3) dX10_removeFromSheet_10 kc_3 ?_
      refine pw_iload dX10_removeFromSheet_11 rfl ?_
      refine pw_imul dX10_removeFromSheet_13 ?_
      refine pw_iadd dX10_removeFromSheet_14 ?_
      refine pw_istore (i := 5) (ls' := [some (.ref 0), some (.ref 41), some (.int l2), some (.int l3), some (.int l4), some (.int (l2 + (3 * l4)))]) dX10_removeFromSheet_15 (Nat.le_of_ble_eq_true rfl) rfl ?_
      refine pw_aload_n (i := 0) dX10_removeFromSheet_17 rfl rfl ?_
      refine pw_getR dX10_removeFromSheet_18 fl_X10_26 rfl rfl ?_
      refine pw_aload_n (i := 1) dX10_removeFromSheet_21 rfl rfl ?_
      refine pw_getR dX10_removeFromSheet_22 fl_X10_320 rfl rfl ?_
      refine pw_iload dX10_removeFromSheet_25 rfl ?_
      obtain ⟨hb, h⟩ := h
      refine pw_iald dX10_removeFromSheet_27 rfl hb ?_
      refine pw_aload_n (i := 1) dX10_removeFromSheet_28 rfl rfl ?_
      refine pw_getR dX10_removeFromSheet_29 fl_X10_320 rfl rfl ?_
      refine pw_iload dX10_removeFromSheet_32 rfl ?_
      refine pw_iconst (v := 1) dX10_removeFromSheet_34 kc_1 ?_
      refine pw_iadd dX10_removeFromSheet_35 ?_
      obtain ⟨hb, h⟩ := h
      refine pw_iald dX10_removeFromSheet_36 rfl hb ?_
      refine pw_aload_n (i := 1) dX10_removeFromSheet_37 rfl rfl ?_
      refine pw_getR dX10_removeFromSheet_38 fl_X10_320 rfl rfl ?_
      refine pw_iload dX10_removeFromSheet_41 rfl ?_
      refine pw_iconst (v := 2) dX10_removeFromSheet_43 kc_2 ?_
      refine pw_iadd dX10_removeFromSheet_44 ?_
      obtain ⟨hb, h⟩ := h
      refine pw_iald dX10_removeFromSheet_45 rfl hb ?_
      refine pw_cVv [.int (σ 42 (Int32.toNatClampNeg (l2 + (3 * l4)))), .int (σ 42 (Int32.toNatClampNeg ((l2 + (3 * l4)) + 1))), .int (σ 42 (Int32.toNatClampNeg ((l2 + (3 * l4)) + 2)))] dX10_removeFromSheet_46 mv_X10_127 rfl rfl rfl (Nat.le_of_ble_eq_true rfl) (c_X0_remove h) (fun τ1 h => ?_)
      refine pw_iinc (i := 4) (v := l4 + 1) (ls' := [some (.ref 0), some (.ref 41), some (.int l2), some (.int l3), some (.int (l4 + 1)), some (.int (l2 + (3 * l4)))]) dX10_removeFromSheet_49 rfl (by rw [kc_1]) (Nat.le_of_ble_eq_true rfl) rfl ?_
      refine pw_goto (tgt := 3) dX10_removeFromSheet_52 rfl ?_
      refine pw_forget (ls' := [some (.ref 0), some (.ref 41), some (.int l2), some (.int l3), some (.int (l4 + 1)), none]) (And.intro rfl (And.intro rfl (And.intro rfl (And.intro rfl (And.intro rfl trivial))))) ?_
      exact ih _ _ _ _ h hX
set_option maxHeartbeats 4000000 in
theorem c_X10_removeFromSheet_at0_41 {L : pw_Lay} {d : Nat} {a2 : Int32} {a3 : Int32} {σ : pw_Mem} {K : pw_Mem → Prop} (h : R_X10_removeFromSheet_at0_41 a2 a3 σ K) : CT L (d + 1) m_X10_removeFromSheet [.ref 0, .ref 41, .int a2, .int a3] σ (kv K) := by
  refine pw_enter (by decide) rfl (Nat.le_of_ble_eq_true rfl) (ls := [some (.ref 0), some (.ref 41), some (.int a2), some (.int a3), none, none]) rfl ?_
  unfold R_X10_removeFromSheet_at0_41 at h
  refine pw_iconst (v := 0) dX10_removeFromSheet_0 kc_0 ?_
  refine pw_istore (i := 4) (ls' := [some (.ref 0), some (.ref 41), some (.int a2), some (.int a3), some (.int 0), none]) dX10_removeFromSheet_1 (Nat.le_of_ble_eq_true rfl) rfl ?_
  obtain ⟨n6, h⟩ := h
  refine t_X10_removeFromSheet_at0_41_L3 _ _ _ _ _ h (fun y2 y3 y4 τ5 h => ?_)
  exact pw_vret dX10_removeFromSheet_55 rfl ⟨rfl, h⟩
/-! X7_holdsCall_at43 -/
def R_X7_holdsCall_at43 (a1 : Int32) (a2 : Int32) (σ : pw_Mem) (K : Int32 → pw_Mem → Prop) : Prop := ((a1 < 0 → K 0 σ) ∧ (¬ a1 < 0 → ((((σ 43 2) - (3 * (a2 + 1))) < a1 → K 0 σ) ∧ (¬ ((σ 43 2) - (3 * (a2 + 1))) < a1 → K 1 σ))))
set_option maxHeartbeats 4000000 in
theorem c_X7_holdsCall_at43 {L : pw_Lay} {d : Nat} {a1 : Int32} {a2 : Int32} {σ : pw_Mem} {K : Int32 → pw_Mem → Prop} (h : R_X7_holdsCall_at43 a1 a2 σ K) : CT L (d + 0) m_X7_holdsCall [.ref 43, .int a1, .int a2] σ (ki K) := by
  refine pw_enter (by decide) rfl (Nat.le_of_ble_eq_true rfl) (ls := [some (.ref 43), some (.int a1), some (.int a2)]) rfl ?_
  unfold R_X7_holdsCall_at43 at h
  refine pw_iload_n (i := 1) dX7_holdsCall_0 rfl rfl ?_
  refine pw_if_lt (tgt := 22) dX7_holdsCall_1 rfl (fun q => ?_) (fun q => ?_)
  · have h := h.1 q
    refine pw_iconst (v := 0) dX7_holdsCall_22 kc_0 ?_
    exact pw_ret dX7_holdsCall_23 rfl rfl ⟨_, rfl, h⟩
  · have h := h.2 q
    refine pw_iload_n (i := 1) dX7_holdsCall_4 rfl rfl ?_
    refine pw_aload_n (i := 0) dX7_holdsCall_5 rfl rfl ?_
    refine pw_getI dX7_holdsCall_6 fl_X7_15 rfl rfl ?_
    refine pw_iconst (v := 3) dX7_holdsCall_9 kc_3 ?_
    refine pw_iload_n (i := 2) dX7_holdsCall_10 rfl rfl ?_
    refine pw_iconst (v := 1) dX7_holdsCall_11 kc_1 ?_
    refine pw_iadd dX7_holdsCall_12 ?_
    refine pw_imul dX7_holdsCall_13 ?_
    refine pw_isub dX7_holdsCall_14 ?_
    refine pw_icmp_gt (tgt := 22) dX7_holdsCall_15 rfl (fun q => ?_) (fun q => ?_)
    · have h := h.1 q
      refine pw_iconst (v := 0) dX7_holdsCall_22 kc_0 ?_
      exact pw_ret dX7_holdsCall_23 rfl rfl ⟨_, rfl, h⟩
    · have h := h.2 q
      refine pw_iconst (v := 1) dX7_holdsCall_18 kc_1 ?_
      refine pw_goto (tgt := 23) dX7_holdsCall_19 rfl ?_
      exact pw_ret dX7_holdsCall_23 rfl rfl ⟨_, rfl, h⟩
/-! X10_addFromSheet_at0_43 -/
def R_X10_addFromSheet_at0_43 (a2 : Int32) (a3 : Int32) (σ : pw_Mem) (K : Int32 → pw_Mem → Prop) : Prop := R_X7_holdsCall_at43 a2 a3 σ (fun x2 τ1 => ((¬ x2 = 0 → vp_in (a2 + (3 * a3)) 60 ∧ vp_in ((a2 + (3 * a3)) + 1) 60 ∧ vp_in ((a2 + (3 * a3)) + 2) 60 ∧ R_X10_refusalOfCall (τ1 44 (Int32.toNatClampNeg (a2 + (3 * a3)))) (τ1 44 (Int32.toNatClampNeg ((a2 + (3 * a3)) + 1))) (τ1 44 (Int32.toNatClampNeg ((a2 + (3 * a3)) + 2))) τ1 (fun x4 τ3 => ((x4 = 0 → R_X0_add (τ1 44 (Int32.toNatClampNeg (a2 + (3 * a3)))) (τ1 44 (Int32.toNatClampNeg ((a2 + (3 * a3)) + 1))) (τ1 44 (Int32.toNatClampNeg ((a2 + (3 * a3)) + 2))) τ3 (fun τ5 => K 0 τ5)) ∧ (¬ x4 = 0 → K ((-20) + x4) τ3)))) ∧ (x2 = 0 → K (-12) τ1)))
set_option maxHeartbeats 4000000 in
theorem c_X10_addFromSheet_at0_43 {L : pw_Lay} {d : Nat} {a2 : Int32} {a3 : Int32} {σ : pw_Mem} {K : Int32 → pw_Mem → Prop} (h : R_X10_addFromSheet_at0_43 a2 a3 σ K) : CT L (d + 4) m_X10_addFromSheet [.ref 0, .ref 43, .int a2, .int a3] σ (ki K) := by
  refine pw_enter (by decide) rfl (Nat.le_of_ble_eq_true rfl) (ls := [some (.ref 0), some (.ref 43), some (.int a2), some (.int a3), none, none, none, none, none]) rfl ?_
  unfold R_X10_addFromSheet_at0_43 at h
  refine pw_aload_n (i := 1) dX10_addFromSheet_0 rfl rfl ?_
  refine pw_iload_n (i := 2) dX10_addFromSheet_1 rfl rfl ?_
  refine pw_iload_n (i := 3) dX10_addFromSheet_2 rfl rfl ?_
  refine pw_cVi [.int a2, .int a3] dX10_addFromSheet_3 mv_X10_317 rfl rfl rfl (Nat.le_of_ble_eq_true rfl) (c_X7_holdsCall_at43 h) (fun x2 τ1 h => ?_)
  refine pw_if_ne (tgt := 12) dX10_addFromSheet_6 rfl (fun q => ?_) (fun q => ?_)
  · have h := h.1 q
    refine pw_iload_n (i := 2) dX10_addFromSheet_12 rfl rfl ?_
    refine pw_iconst (v := 3) dX10_addFromSheet_13 kc_3 ?_
    refine pw_iload_n (i := 3) dX10_addFromSheet_14 rfl rfl ?_
    refine pw_imul dX10_addFromSheet_15 ?_
    refine pw_iadd dX10_addFromSheet_16 ?_
    refine pw_istore (i := 4) (ls' := [some (.ref 0), some (.ref 43), some (.int a2), some (.int a3), some (.int (a2 + (3 * a3))), none, none, none, none]) dX10_addFromSheet_17 (Nat.le_of_ble_eq_true rfl) rfl ?_
    refine pw_aload_n (i := 1) dX10_addFromSheet_19 rfl rfl ?_
    refine pw_getR dX10_addFromSheet_20 fl_X10_320 rfl rfl ?_
    refine pw_iload dX10_addFromSheet_23 rfl ?_
    obtain ⟨hb, h⟩ := h
    refine pw_iald dX10_addFromSheet_25 rfl hb ?_
    refine pw_istore (i := 5) (ls' := [some (.ref 0), some (.ref 43), some (.int a2), some (.int a3), some (.int (a2 + (3 * a3))), some (.int (τ1 44 (Int32.toNatClampNeg (a2 + (3 * a3))))), none, none, none]) dX10_addFromSheet_26 (Nat.le_of_ble_eq_true rfl) rfl ?_
    refine pw_aload_n (i := 1) dX10_addFromSheet_28 rfl rfl ?_
    refine pw_getR dX10_addFromSheet_29 fl_X10_320 rfl rfl ?_
    refine pw_iload dX10_addFromSheet_32 rfl ?_
    refine pw_iconst (v := 1) dX10_addFromSheet_34 kc_1 ?_
    refine pw_iadd dX10_addFromSheet_35 ?_
    obtain ⟨hb, h⟩ := h
    refine pw_iald dX10_addFromSheet_36 rfl hb ?_
    refine pw_istore (i := 6) (ls' := [some (.ref 0), some (.ref 43), some (.int a2), some (.int a3), some (.int (a2 + (3 * a3))), some (.int (τ1 44 (Int32.toNatClampNeg (a2 + (3 * a3))))), some (.int (τ1 44 (Int32.toNatClampNeg ((a2 + (3 * a3)) + 1)))), none, none]) dX10_addFromSheet_37 (Nat.le_of_ble_eq_true rfl) rfl ?_
    refine pw_aload_n (i := 1) dX10_addFromSheet_39 rfl rfl ?_
    refine pw_getR dX10_addFromSheet_40 fl_X10_320 rfl rfl ?_
    refine pw_iload dX10_addFromSheet_43 rfl ?_
    refine pw_iconst (v := 2) dX10_addFromSheet_45 kc_2 ?_
    refine pw_iadd dX10_addFromSheet_46 ?_
    obtain ⟨hb, h⟩ := h
    refine pw_iald dX10_addFromSheet_47 rfl hb ?_
    refine pw_istore (i := 7) (ls' := [some (.ref 0), some (.ref 43), some (.int a2), some (.int a3), some (.int (a2 + (3 * a3))), some (.int (τ1 44 (Int32.toNatClampNeg (a2 + (3 * a3))))), some (.int (τ1 44 (Int32.toNatClampNeg ((a2 + (3 * a3)) + 1)))), some (.int (τ1 44 (Int32.toNatClampNeg ((a2 + (3 * a3)) + 2)))), none]) dX10_addFromSheet_48 (Nat.le_of_ble_eq_true rfl) rfl ?_
    refine pw_aload_n (i := 0) dX10_addFromSheet_50 rfl rfl ?_
    refine pw_iload dX10_addFromSheet_51 rfl ?_
    refine pw_iload dX10_addFromSheet_53 rfl ?_
    refine pw_iload dX10_addFromSheet_55 rfl ?_
    refine pw_cVi [.int (τ1 44 (Int32.toNatClampNeg (a2 + (3 * a3)))), .int (τ1 44 (Int32.toNatClampNeg ((a2 + (3 * a3)) + 1))), .int (τ1 44 (Int32.toNatClampNeg ((a2 + (3 * a3)) + 2)))] dX10_addFromSheet_57 mv_X10_113 rfl rfl rfl (Nat.le_of_ble_eq_true rfl) (c_X10_refusalOfCall h) (fun x4 τ3 h => ?_)
    refine pw_istore (i := 8) (ls' := [some (.ref 0), some (.ref 43), some (.int a2), some (.int a3), some (.int (a2 + (3 * a3))), some (.int (τ1 44 (Int32.toNatClampNeg (a2 + (3 * a3))))), some (.int (τ1 44 (Int32.toNatClampNeg ((a2 + (3 * a3)) + 1)))), some (.int (τ1 44 (Int32.toNatClampNeg ((a2 + (3 * a3)) + 2)))), some (.int x4)]) dX10_addFromSheet_60 (Nat.le_of_ble_eq_true rfl) rfl ?_
    refine pw_iload dX10_addFromSheet_62 rfl ?_
    refine pw_if_eq (tgt := 73) dX10_addFromSheet_64 rfl (fun q => ?_) (fun q => ?_)
    · have h := h.1 q
      refine pw_aload_n (i := 0) dX10_addFromSheet_73 rfl rfl ?_
      refine pw_getR dX10_addFromSheet_74 fl_X10_26 rfl rfl ?_
      refine pw_iload dX10_addFromSheet_77 rfl ?_
      refine pw_iload dX10_addFromSheet_79 rfl ?_
      refine pw_iload dX10_addFromSheet_81 rfl ?_
      refine pw_cVv [.int (τ1 44 (Int32.toNatClampNeg (a2 + (3 * a3)))), .int (τ1 44 (Int32.toNatClampNeg ((a2 + (3 * a3)) + 1))), .int (τ1 44 (Int32.toNatClampNeg ((a2 + (3 * a3)) + 2)))] dX10_addFromSheet_83 mv_X10_117 rfl rfl rfl (Nat.le_of_ble_eq_true rfl) (c_X0_add h) (fun τ5 h => ?_)
      refine pw_iconst (v := 0) dX10_addFromSheet_86 kc_0 ?_
      exact pw_ret dX10_addFromSheet_87 rfl rfl ⟨_, rfl, h⟩
    · have h := h.2 q
      refine pw_bipush (v := (-20)) dX10_addFromSheet_67 kb_m20 ?_
      refine pw_iload dX10_addFromSheet_69 rfl ?_
      refine pw_iadd dX10_addFromSheet_71 ?_
      exact pw_ret dX10_addFromSheet_72 rfl rfl ⟨_, rfl, h⟩
  · have h := h.2 q
    refine pw_bipush (v := (-12)) dX10_addFromSheet_9 kb_m12 ?_
    exact pw_ret dX10_addFromSheet_11 rfl rfl ⟨_, rfl, h⟩
/-! X10_removeFromSheet_at0_43 -/
def R_X10_removeFromSheet_at0_43_L3 (K : pw_Mem → Prop) (KX : Int32 → Int32 → Int32 → pw_Mem → Prop) : Nat → Int32 → Int32 → Int32 → pw_Mem → Prop
  | 0, _, _, _, _ => False
  | n + 1, l2, l3, l4, σ => ((l3 ≤ l4 → KX l2 l3 l4 σ) ∧ (¬ l3 ≤ l4 → vp_in (l2 + (3 * l4)) 60 ∧ vp_in ((l2 + (3 * l4)) + 1) 60 ∧ vp_in ((l2 + (3 * l4)) + 2) 60 ∧ R_X0_remove (σ 44 (Int32.toNatClampNeg (l2 + (3 * l4)))) (σ 44 (Int32.toNatClampNeg ((l2 + (3 * l4)) + 1))) (σ 44 (Int32.toNatClampNeg ((l2 + (3 * l4)) + 2))) σ (fun τ1 => R_X10_removeFromSheet_at0_43_L3 K KX n l2 l3 (l4 + 1) τ1)))
def R_X10_removeFromSheet_at0_43 (a2 : Int32) (a3 : Int32) (σ : pw_Mem) (K : pw_Mem → Prop) : Prop := ∃ n6, R_X10_removeFromSheet_at0_43_L3 K (fun y2 y3 y4 τ5 => K τ5) n6 a2 a3 0 σ
set_option maxHeartbeats 4000000 in
theorem t_X10_removeFromSheet_at0_43_L3 {L : pw_Lay} {d : Nat} {K : pw_Mem → Prop} {KX : Int32 → Int32 → Int32 → pw_Mem → Prop} : ∀ (n : Nat) (l2 : Int32) (l3 : Int32) (l4 : Int32) (σ : pw_Mem), R_X10_removeFromSheet_at0_43_L3 K KX n l2 l3 l4 σ → (∀ (l2 : Int32) (l3 : Int32) (l4 : Int32) (τ : pw_Mem), KX l2 l3 l4 τ → PW L (d + 1) m_X10_removeFromSheet (kv K) 55 [some (.ref 0), some (.ref 43), some (.int l2), some (.int l3), some (.int l4), none] [] τ) → PW L (d + 1) m_X10_removeFromSheet (kv K) 3 [some (.ref 0), some (.ref 43), some (.int l2), some (.int l3), some (.int l4), none] [] σ := by
  intro n
  induction n with
  | zero => intro l2 l3 l4 _ h _; exact h.elim
  | succ n ih =>
    intro l2 l3 l4 σ h hX
    unfold R_X10_removeFromSheet_at0_43_L3 at h
    refine pw_iload dX10_removeFromSheet_3 rfl ?_
    refine pw_iload_n (i := 3) dX10_removeFromSheet_5 rfl rfl ?_
    refine pw_icmp_ge (tgt := 55) dX10_removeFromSheet_6 rfl (fun q => ?_) (fun q => ?_)
    · have h := h.1 q
      exact hX _ _ _ _ h
    · have h := h.2 q
      refine pw_iload_n (i := 2) dX10_removeFromSheet_9 rfl rfl ?_
      refine pw_iconst (v := 3) dX10_removeFromSheet_10 kc_3 ?_
      refine pw_iload dX10_removeFromSheet_11 rfl ?_
      refine pw_imul dX10_removeFromSheet_13 ?_
      refine pw_iadd dX10_removeFromSheet_14 ?_
      refine pw_istore (i := 5) (ls' := [some (.ref 0), some (.ref 43), some (.int l2), some (.int l3), some (.int l4), some (.int (l2 + (3 * l4)))]) dX10_removeFromSheet_15 (Nat.le_of_ble_eq_true rfl) rfl ?_
      refine pw_aload_n (i := 0) dX10_removeFromSheet_17 rfl rfl ?_
      refine pw_getR dX10_removeFromSheet_18 fl_X10_26 rfl rfl ?_
      refine pw_aload_n (i := 1) dX10_removeFromSheet_21 rfl rfl ?_
      refine pw_getR dX10_removeFromSheet_22 fl_X10_320 rfl rfl ?_
      refine pw_iload dX10_removeFromSheet_25 rfl ?_
      obtain ⟨hb, h⟩ := h
      refine pw_iald dX10_removeFromSheet_27 rfl hb ?_
      refine pw_aload_n (i := 1) dX10_removeFromSheet_28 rfl rfl ?_
      refine pw_getR dX10_removeFromSheet_29 fl_X10_320 rfl rfl ?_
      refine pw_iload dX10_removeFromSheet_32 rfl ?_
      refine pw_iconst (v := 1) dX10_removeFromSheet_34 kc_1 ?_
      refine pw_iadd dX10_removeFromSheet_35 ?_
      obtain ⟨hb, h⟩ := h
      refine pw_iald dX10_removeFromSheet_36 rfl hb ?_
      refine pw_aload_n (i := 1) dX10_removeFromSheet_37 rfl rfl ?_
      refine pw_getR dX10_removeFromSheet_38 fl_X10_320 rfl rfl ?_
      refine pw_iload dX10_removeFromSheet_41 rfl ?_
      refine pw_iconst (v := 2) dX10_removeFromSheet_43 kc_2 ?_
      refine pw_iadd dX10_removeFromSheet_44 ?_
      obtain ⟨hb, h⟩ := h
      refine pw_iald dX10_removeFromSheet_45 rfl hb ?_
      refine pw_cVv [.int (σ 44 (Int32.toNatClampNeg (l2 + (3 * l4)))), .int (σ 44 (Int32.toNatClampNeg ((l2 + (3 * l4)) + 1))), .int (σ 44 (Int32.toNatClampNeg ((l2 + (3 * l4)) + 2)))] dX10_removeFromSheet_46 mv_X10_127 rfl rfl rfl (Nat.le_of_ble_eq_true rfl) (c_X0_remove h) (fun τ1 h => ?_)
      refine pw_iinc (i := 4) (v := l4 + 1) (ls' := [some (.ref 0), some (.ref 43), some (.int l2), some (.int l3), some (.int (l4 + 1)), some (.int (l2 + (3 * l4)))]) dX10_removeFromSheet_49 rfl (by rw [kc_1]) (Nat.le_of_ble_eq_true rfl) rfl ?_
      refine pw_goto (tgt := 3) dX10_removeFromSheet_52 rfl ?_
      refine pw_forget (ls' := [some (.ref 0), some (.ref 43), some (.int l2), some (.int l3), some (.int (l4 + 1)), none]) (And.intro rfl (And.intro rfl (And.intro rfl (And.intro rfl (And.intro rfl trivial))))) ?_
      exact ih _ _ _ _ h hX
set_option maxHeartbeats 4000000 in
theorem c_X10_removeFromSheet_at0_43 {L : pw_Lay} {d : Nat} {a2 : Int32} {a3 : Int32} {σ : pw_Mem} {K : pw_Mem → Prop} (h : R_X10_removeFromSheet_at0_43 a2 a3 σ K) : CT L (d + 1) m_X10_removeFromSheet [.ref 0, .ref 43, .int a2, .int a3] σ (kv K) := by
  refine pw_enter (by decide) rfl (Nat.le_of_ble_eq_true rfl) (ls := [some (.ref 0), some (.ref 43), some (.int a2), some (.int a3), none, none]) rfl ?_
  unfold R_X10_removeFromSheet_at0_43 at h
  refine pw_iconst (v := 0) dX10_removeFromSheet_0 kc_0 ?_
  refine pw_istore (i := 4) (ls' := [some (.ref 0), some (.ref 43), some (.int a2), some (.int a3), some (.int 0), none]) dX10_removeFromSheet_1 (Nat.le_of_ble_eq_true rfl) rfl ?_
  obtain ⟨n6, h⟩ := h
  refine t_X10_removeFromSheet_at0_43_L3 _ _ _ _ _ h (fun y2 y3 y4 τ5 h => ?_)
  exact pw_vret dX10_removeFromSheet_55 rfl ⟨rfl, h⟩
/-! X7_holdsCall_at45 -/
def R_X7_holdsCall_at45 (a1 : Int32) (a2 : Int32) (σ : pw_Mem) (K : Int32 → pw_Mem → Prop) : Prop := ((a1 < 0 → K 0 σ) ∧ (¬ a1 < 0 → ((((σ 45 2) - (3 * (a2 + 1))) < a1 → K 0 σ) ∧ (¬ ((σ 45 2) - (3 * (a2 + 1))) < a1 → K 1 σ))))
set_option maxHeartbeats 4000000 in
theorem c_X7_holdsCall_at45 {L : pw_Lay} {d : Nat} {a1 : Int32} {a2 : Int32} {σ : pw_Mem} {K : Int32 → pw_Mem → Prop} (h : R_X7_holdsCall_at45 a1 a2 σ K) : CT L (d + 0) m_X7_holdsCall [.ref 45, .int a1, .int a2] σ (ki K) := by
  refine pw_enter (by decide) rfl (Nat.le_of_ble_eq_true rfl) (ls := [some (.ref 45), some (.int a1), some (.int a2)]) rfl ?_
  unfold R_X7_holdsCall_at45 at h
  refine pw_iload_n (i := 1) dX7_holdsCall_0 rfl rfl ?_
  refine pw_if_lt (tgt := 22) dX7_holdsCall_1 rfl (fun q => ?_) (fun q => ?_)
  · have h := h.1 q
    refine pw_iconst (v := 0) dX7_holdsCall_22 kc_0 ?_
    exact pw_ret dX7_holdsCall_23 rfl rfl ⟨_, rfl, h⟩
  · have h := h.2 q
    refine pw_iload_n (i := 1) dX7_holdsCall_4 rfl rfl ?_
    refine pw_aload_n (i := 0) dX7_holdsCall_5 rfl rfl ?_
    refine pw_getI dX7_holdsCall_6 fl_X7_15 rfl rfl ?_
    refine pw_iconst (v := 3) dX7_holdsCall_9 kc_3 ?_
    refine pw_iload_n (i := 2) dX7_holdsCall_10 rfl rfl ?_
    refine pw_iconst (v := 1) dX7_holdsCall_11 kc_1 ?_
    refine pw_iadd dX7_holdsCall_12 ?_
    refine pw_imul dX7_holdsCall_13 ?_
    refine pw_isub dX7_holdsCall_14 ?_
    refine pw_icmp_gt (tgt := 22) dX7_holdsCall_15 rfl (fun q => ?_) (fun q => ?_)
    · have h := h.1 q
      refine pw_iconst (v := 0) dX7_holdsCall_22 kc_0 ?_
      exact pw_ret dX7_holdsCall_23 rfl rfl ⟨_, rfl, h⟩
    · have h := h.2 q
      refine pw_iconst (v := 1) dX7_holdsCall_18 kc_1 ?_
      refine pw_goto (tgt := 23) dX7_holdsCall_19 rfl ?_
      exact pw_ret dX7_holdsCall_23 rfl rfl ⟨_, rfl, h⟩
/-! X10_addFromSheet_at0_45 -/
def R_X10_addFromSheet_at0_45 (a2 : Int32) (a3 : Int32) (σ : pw_Mem) (K : Int32 → pw_Mem → Prop) : Prop := R_X7_holdsCall_at45 a2 a3 σ (fun x2 τ1 => ((¬ x2 = 0 → vp_in (a2 + (3 * a3)) 60 ∧ vp_in ((a2 + (3 * a3)) + 1) 60 ∧ vp_in ((a2 + (3 * a3)) + 2) 60 ∧ R_X10_refusalOfCall (τ1 46 (Int32.toNatClampNeg (a2 + (3 * a3)))) (τ1 46 (Int32.toNatClampNeg ((a2 + (3 * a3)) + 1))) (τ1 46 (Int32.toNatClampNeg ((a2 + (3 * a3)) + 2))) τ1 (fun x4 τ3 => ((x4 = 0 → R_X0_add (τ1 46 (Int32.toNatClampNeg (a2 + (3 * a3)))) (τ1 46 (Int32.toNatClampNeg ((a2 + (3 * a3)) + 1))) (τ1 46 (Int32.toNatClampNeg ((a2 + (3 * a3)) + 2))) τ3 (fun τ5 => K 0 τ5)) ∧ (¬ x4 = 0 → K ((-20) + x4) τ3)))) ∧ (x2 = 0 → K (-12) τ1)))
set_option maxHeartbeats 4000000 in
theorem c_X10_addFromSheet_at0_45 {L : pw_Lay} {d : Nat} {a2 : Int32} {a3 : Int32} {σ : pw_Mem} {K : Int32 → pw_Mem → Prop} (h : R_X10_addFromSheet_at0_45 a2 a3 σ K) : CT L (d + 4) m_X10_addFromSheet [.ref 0, .ref 45, .int a2, .int a3] σ (ki K) := by
  refine pw_enter (by decide) rfl (Nat.le_of_ble_eq_true rfl) (ls := [some (.ref 0), some (.ref 45), some (.int a2), some (.int a3), none, none, none, none, none]) rfl ?_
  unfold R_X10_addFromSheet_at0_45 at h
  refine pw_aload_n (i := 1) dX10_addFromSheet_0 rfl rfl ?_
  refine pw_iload_n (i := 2) dX10_addFromSheet_1 rfl rfl ?_
  refine pw_iload_n (i := 3) dX10_addFromSheet_2 rfl rfl ?_
  refine pw_cVi [.int a2, .int a3] dX10_addFromSheet_3 mv_X10_317 rfl rfl rfl (Nat.le_of_ble_eq_true rfl) (c_X7_holdsCall_at45 h) (fun x2 τ1 h => ?_)
  refine pw_if_ne (tgt := 12) dX10_addFromSheet_6 rfl (fun q => ?_) (fun q => ?_)
  · have h := h.1 q
    refine pw_iload_n (i := 2) dX10_addFromSheet_12 rfl rfl ?_
    refine pw_iconst (v := 3) dX10_addFromSheet_13 kc_3 ?_
    refine pw_iload_n (i := 3) dX10_addFromSheet_14 rfl rfl ?_
    refine pw_imul dX10_addFromSheet_15 ?_
    refine pw_iadd dX10_addFromSheet_16 ?_
    refine pw_istore (i := 4) (ls' := [some (.ref 0), some (.ref 45), some (.int a2), some (.int a3), some (.int (a2 + (3 * a3))), none, none, none, none]) dX10_addFromSheet_17 (Nat.le_of_ble_eq_true rfl) rfl ?_
    refine pw_aload_n (i := 1) dX10_addFromSheet_19 rfl rfl ?_
    refine pw_getR dX10_addFromSheet_20 fl_X10_320 rfl rfl ?_
    refine pw_iload dX10_addFromSheet_23 rfl ?_
    obtain ⟨hb, h⟩ := h
    refine pw_iald dX10_addFromSheet_25 rfl hb ?_
    refine pw_istore (i := 5) (ls' := [some (.ref 0), some (.ref 45), some (.int a2), some (.int a3), some (.int (a2 + (3 * a3))), some (.int (τ1 46 (Int32.toNatClampNeg (a2 + (3 * a3))))), none, none, none]) dX10_addFromSheet_26 (Nat.le_of_ble_eq_true rfl) rfl ?_
    refine pw_aload_n (i := 1) dX10_addFromSheet_28 rfl rfl ?_
    refine pw_getR dX10_addFromSheet_29 fl_X10_320 rfl rfl ?_
    refine pw_iload dX10_addFromSheet_32 rfl ?_
    refine pw_iconst (v := 1) dX10_addFromSheet_34 kc_1 ?_
    refine pw_iadd dX10_addFromSheet_35 ?_
    obtain ⟨hb, h⟩ := h
    refine pw_iald dX10_addFromSheet_36 rfl hb ?_
    refine pw_istore (i := 6) (ls' := [some (.ref 0), some (.ref 45), some (.int a2), some (.int a3), some (.int (a2 + (3 * a3))), some (.int (τ1 46 (Int32.toNatClampNeg (a2 + (3 * a3))))), some (.int (τ1 46 (Int32.toNatClampNeg ((a2 + (3 * a3)) + 1)))), none, none]) dX10_addFromSheet_37 (Nat.le_of_ble_eq_true rfl) rfl ?_
    refine pw_aload_n (i := 1) dX10_addFromSheet_39 rfl rfl ?_
    refine pw_getR dX10_addFromSheet_40 fl_X10_320 rfl rfl ?_
    refine pw_iload dX10_addFromSheet_43 rfl ?_
    refine pw_iconst (v := 2) dX10_addFromSheet_45 kc_2 ?_
    refine pw_iadd dX10_addFromSheet_46 ?_
    obtain ⟨hb, h⟩ := h
    refine pw_iald dX10_addFromSheet_47 rfl hb ?_
    refine pw_istore (i := 7) (ls' := [some (.ref 0), some (.ref 45), some (.int a2), some (.int a3), some (.int (a2 + (3 * a3))), some (.int (τ1 46 (Int32.toNatClampNeg (a2 + (3 * a3))))), some (.int (τ1 46 (Int32.toNatClampNeg ((a2 + (3 * a3)) + 1)))), some (.int (τ1 46 (Int32.toNatClampNeg ((a2 + (3 * a3)) + 2)))), none]) dX10_addFromSheet_48 (Nat.le_of_ble_eq_true rfl) rfl ?_
    refine pw_aload_n (i := 0) dX10_addFromSheet_50 rfl rfl ?_
    refine pw_iload dX10_addFromSheet_51 rfl ?_
    refine pw_iload dX10_addFromSheet_53 rfl ?_
    refine pw_iload dX10_addFromSheet_55 rfl ?_
    refine pw_cVi [.int (τ1 46 (Int32.toNatClampNeg (a2 + (3 * a3)))), .int (τ1 46 (Int32.toNatClampNeg ((a2 + (3 * a3)) + 1))), .int (τ1 46 (Int32.toNatClampNeg ((a2 + (3 * a3)) + 2)))] dX10_addFromSheet_57 mv_X10_113 rfl rfl rfl (Nat.le_of_ble_eq_true rfl) (c_X10_refusalOfCall h) (fun x4 τ3 h => ?_)
    refine pw_istore (i := 8) (ls' := [some (.ref 0), some (.ref 45), some (.int a2), some (.int a3), some (.int (a2 + (3 * a3))), some (.int (τ1 46 (Int32.toNatClampNeg (a2 + (3 * a3))))), some (.int (τ1 46 (Int32.toNatClampNeg ((a2 + (3 * a3)) + 1)))), some (.int (τ1 46 (Int32.toNatClampNeg ((a2 + (3 * a3)) + 2)))), some (.int x4)]) dX10_addFromSheet_60 (Nat.le_of_ble_eq_true rfl) rfl ?_
    refine pw_iload dX10_addFromSheet_62 rfl ?_
    refine pw_if_eq (tgt := 73) dX10_addFromSheet_64 rfl (fun q => ?_) (fun q => ?_)
    · have h := h.1 q
      refine pw_aload_n (i := 0) dX10_addFromSheet_73 rfl rfl ?_
      refine pw_getR dX10_addFromSheet_74 fl_X10_26 rfl rfl ?_
      refine pw_iload dX10_addFromSheet_77 rfl ?_
      refine pw_iload dX10_addFromSheet_79 rfl ?_
      refine pw_iload dX10_addFromSheet_81 rfl ?_
      refine pw_cVv [.int (τ1 46 (Int32.toNatClampNeg (a2 + (3 * a3)))), .int (τ1 46 (Int32.toNatClampNeg ((a2 + (3 * a3)) + 1))), .int (τ1 46 (Int32.toNatClampNeg ((a2 + (3 * a3)) + 2)))] dX10_addFromSheet_83 mv_X10_117 rfl rfl rfl (Nat.le_of_ble_eq_true rfl) (c_X0_add h) (fun τ5 h => ?_)
      refine pw_iconst (v := 0) dX10_addFromSheet_86 kc_0 ?_
      exact pw_ret dX10_addFromSheet_87 rfl rfl ⟨_, rfl, h⟩
    · have h := h.2 q
      refine pw_bipush (v := (-20)) dX10_addFromSheet_67 kb_m20 ?_
      refine pw_iload dX10_addFromSheet_69 rfl ?_
      refine pw_iadd dX10_addFromSheet_71 ?_
      exact pw_ret dX10_addFromSheet_72 rfl rfl ⟨_, rfl, h⟩
  · have h := h.2 q
    refine pw_bipush (v := (-12)) dX10_addFromSheet_9 kb_m12 ?_
    exact pw_ret dX10_addFromSheet_11 rfl rfl ⟨_, rfl, h⟩
/-! X10_removeFromSheet_at0_45 -/
def R_X10_removeFromSheet_at0_45_L3 (K : pw_Mem → Prop) (KX : Int32 → Int32 → Int32 → pw_Mem → Prop) : Nat → Int32 → Int32 → Int32 → pw_Mem → Prop
  | 0, _, _, _, _ => False
  | n + 1, l2, l3, l4, σ => ((l3 ≤ l4 → KX l2 l3 l4 σ) ∧ (¬ l3 ≤ l4 → vp_in (l2 + (3 * l4)) 60 ∧ vp_in ((l2 + (3 * l4)) + 1) 60 ∧ vp_in ((l2 + (3 * l4)) + 2) 60 ∧ R_X0_remove (σ 46 (Int32.toNatClampNeg (l2 + (3 * l4)))) (σ 46 (Int32.toNatClampNeg ((l2 + (3 * l4)) + 1))) (σ 46 (Int32.toNatClampNeg ((l2 + (3 * l4)) + 2))) σ (fun τ1 => R_X10_removeFromSheet_at0_45_L3 K KX n l2 l3 (l4 + 1) τ1)))
def R_X10_removeFromSheet_at0_45 (a2 : Int32) (a3 : Int32) (σ : pw_Mem) (K : pw_Mem → Prop) : Prop := ∃ n6, R_X10_removeFromSheet_at0_45_L3 K (fun y2 y3 y4 τ5 => K τ5) n6 a2 a3 0 σ
set_option maxHeartbeats 4000000 in
theorem t_X10_removeFromSheet_at0_45_L3 {L : pw_Lay} {d : Nat} {K : pw_Mem → Prop} {KX : Int32 → Int32 → Int32 → pw_Mem → Prop} : ∀ (n : Nat) (l2 : Int32) (l3 : Int32) (l4 : Int32) (σ : pw_Mem), R_X10_removeFromSheet_at0_45_L3 K KX n l2 l3 l4 σ → (∀ (l2 : Int32) (l3 : Int32) (l4 : Int32) (τ : pw_Mem), KX l2 l3 l4 τ → PW L (d + 1) m_X10_removeFromSheet (kv K) 55 [some (.ref 0), some (.ref 45), some (.int l2), some (.int l3), some (.int l4), none] [] τ) → PW L (d + 1) m_X10_removeFromSheet (kv K) 3 [some (.ref 0), some (.ref 45), some (.int l2), some (.int l3), some (.int l4), none] [] σ := by
  intro n
  induction n with
  | zero => intro l2 l3 l4 _ h _; exact h.elim
  | succ n ih =>
    intro l2 l3 l4 σ h hX
    unfold R_X10_removeFromSheet_at0_45_L3 at h
    refine pw_iload dX10_removeFromSheet_3 rfl ?_
    refine pw_iload_n (i := 3) dX10_removeFromSheet_5 rfl rfl ?_
    refine pw_icmp_ge (tgt := 55) dX10_removeFromSheet_6 rfl (fun q => ?_) (fun q => ?_)
    · have h := h.1 q
      exact hX _ _ _ _ h
    · have h := h.2 q
      refine pw_iload_n (i := 2) dX10_removeFromSheet_9 rfl rfl ?_
      refine pw_iconst (v := 3) dX10_removeFromSheet_10 kc_3 ?_
      refine pw_iload dX10_removeFromSheet_11 rfl ?_
      refine pw_imul dX10_removeFromSheet_13 ?_
      refine pw_iadd dX10_removeFromSheet_14 ?_
      refine pw_istore (i := 5) (ls' := [some (.ref 0), some (.ref 45), some (.int l2), some (.int l3), some (.int l4), some (.int (l2 + (3 * l4)))]) dX10_removeFromSheet_15 (Nat.le_of_ble_eq_true rfl) rfl ?_
      refine pw_aload_n (i := 0) dX10_removeFromSheet_17 rfl rfl ?_
      refine pw_getR dX10_removeFromSheet_18 fl_X10_26 rfl rfl ?_
      refine pw_aload_n (i := 1) dX10_removeFromSheet_21 rfl rfl ?_
      refine pw_getR dX10_removeFromSheet_22 fl_X10_320 rfl rfl ?_
      refine pw_iload dX10_removeFromSheet_25 rfl ?_
      obtain ⟨hb, h⟩ := h
      refine pw_iald dX10_removeFromSheet_27 rfl hb ?_
      refine pw_aload_n (i := 1) dX10_removeFromSheet_28 rfl rfl ?_
      refine pw_getR dX10_removeFromSheet_29 fl_X10_320 rfl rfl ?_
      refine pw_iload dX10_removeFromSheet_32 rfl ?_
      refine pw_iconst (v := 1) dX10_removeFromSheet_34 kc_1 ?_
      refine pw_iadd dX10_removeFromSheet_35 ?_
      obtain ⟨hb, h⟩ := h
      refine pw_iald dX10_removeFromSheet_36 rfl hb ?_
      refine pw_aload_n (i := 1) dX10_removeFromSheet_37 rfl rfl ?_
      refine pw_getR dX10_removeFromSheet_38 fl_X10_320 rfl rfl ?_
      refine pw_iload dX10_removeFromSheet_41 rfl ?_
      refine pw_iconst (v := 2) dX10_removeFromSheet_43 kc_2 ?_
      refine pw_iadd dX10_removeFromSheet_44 ?_
      obtain ⟨hb, h⟩ := h
      refine pw_iald dX10_removeFromSheet_45 rfl hb ?_
      refine pw_cVv [.int (σ 46 (Int32.toNatClampNeg (l2 + (3 * l4)))), .int (σ 46 (Int32.toNatClampNeg ((l2 + (3 * l4)) + 1))), .int (σ 46 (Int32.toNatClampNeg ((l2 + (3 * l4)) + 2)))] dX10_removeFromSheet_46 mv_X10_127 rfl rfl rfl (Nat.le_of_ble_eq_true rfl) (c_X0_remove h) (fun τ1 h => ?_)
      refine pw_iinc (i := 4) (v := l4 + 1) (ls' := [some (.ref 0), some (.ref 45), some (.int l2), some (.int l3), some (.int (l4 + 1)), some (.int (l2 + (3 * l4)))]) dX10_removeFromSheet_49 rfl (by rw [kc_1]) (Nat.le_of_ble_eq_true rfl) rfl ?_
      refine pw_goto (tgt := 3) dX10_removeFromSheet_52 rfl ?_
      refine pw_forget (ls' := [some (.ref 0), some (.ref 45), some (.int l2), some (.int l3), some (.int (l4 + 1)), none]) (And.intro rfl (And.intro rfl (And.intro rfl (And.intro rfl (And.intro rfl trivial))))) ?_
      exact ih _ _ _ _ h hX
set_option maxHeartbeats 4000000 in
theorem c_X10_removeFromSheet_at0_45 {L : pw_Lay} {d : Nat} {a2 : Int32} {a3 : Int32} {σ : pw_Mem} {K : pw_Mem → Prop} (h : R_X10_removeFromSheet_at0_45 a2 a3 σ K) : CT L (d + 1) m_X10_removeFromSheet [.ref 0, .ref 45, .int a2, .int a3] σ (kv K) := by
  refine pw_enter (by decide) rfl (Nat.le_of_ble_eq_true rfl) (ls := [some (.ref 0), some (.ref 45), some (.int a2), some (.int a3), none, none]) rfl ?_
  unfold R_X10_removeFromSheet_at0_45 at h
  refine pw_iconst (v := 0) dX10_removeFromSheet_0 kc_0 ?_
  refine pw_istore (i := 4) (ls' := [some (.ref 0), some (.ref 45), some (.int a2), some (.int a3), some (.int 0), none]) dX10_removeFromSheet_1 (Nat.le_of_ble_eq_true rfl) rfl ?_
  obtain ⟨n6, h⟩ := h
  refine t_X10_removeFromSheet_at0_45_L3 _ _ _ _ _ h (fun y2 y3 y4 τ5 h => ?_)
  exact pw_vret dX10_removeFromSheet_55 rfl ⟨rfl, h⟩
/-! X7_holdsCall_at47 -/
def R_X7_holdsCall_at47 (a1 : Int32) (a2 : Int32) (σ : pw_Mem) (K : Int32 → pw_Mem → Prop) : Prop := ((a1 < 0 → K 0 σ) ∧ (¬ a1 < 0 → ((((σ 47 2) - (3 * (a2 + 1))) < a1 → K 0 σ) ∧ (¬ ((σ 47 2) - (3 * (a2 + 1))) < a1 → K 1 σ))))
set_option maxHeartbeats 4000000 in
theorem c_X7_holdsCall_at47 {L : pw_Lay} {d : Nat} {a1 : Int32} {a2 : Int32} {σ : pw_Mem} {K : Int32 → pw_Mem → Prop} (h : R_X7_holdsCall_at47 a1 a2 σ K) : CT L (d + 0) m_X7_holdsCall [.ref 47, .int a1, .int a2] σ (ki K) := by
  refine pw_enter (by decide) rfl (Nat.le_of_ble_eq_true rfl) (ls := [some (.ref 47), some (.int a1), some (.int a2)]) rfl ?_
  unfold R_X7_holdsCall_at47 at h
  refine pw_iload_n (i := 1) dX7_holdsCall_0 rfl rfl ?_
  refine pw_if_lt (tgt := 22) dX7_holdsCall_1 rfl (fun q => ?_) (fun q => ?_)
  · have h := h.1 q
    refine pw_iconst (v := 0) dX7_holdsCall_22 kc_0 ?_
    exact pw_ret dX7_holdsCall_23 rfl rfl ⟨_, rfl, h⟩
  · have h := h.2 q
    refine pw_iload_n (i := 1) dX7_holdsCall_4 rfl rfl ?_
    refine pw_aload_n (i := 0) dX7_holdsCall_5 rfl rfl ?_
    refine pw_getI dX7_holdsCall_6 fl_X7_15 rfl rfl ?_
    refine pw_iconst (v := 3) dX7_holdsCall_9 kc_3 ?_
    refine pw_iload_n (i := 2) dX7_holdsCall_10 rfl rfl ?_
    refine pw_iconst (v := 1) dX7_holdsCall_11 kc_1 ?_
    refine pw_iadd dX7_holdsCall_12 ?_
    refine pw_imul dX7_holdsCall_13 ?_
    refine pw_isub dX7_holdsCall_14 ?_
    refine pw_icmp_gt (tgt := 22) dX7_holdsCall_15 rfl (fun q => ?_) (fun q => ?_)
    · have h := h.1 q
      refine pw_iconst (v := 0) dX7_holdsCall_22 kc_0 ?_
      exact pw_ret dX7_holdsCall_23 rfl rfl ⟨_, rfl, h⟩
    · have h := h.2 q
      refine pw_iconst (v := 1) dX7_holdsCall_18 kc_1 ?_
      refine pw_goto (tgt := 23) dX7_holdsCall_19 rfl ?_
      exact pw_ret dX7_holdsCall_23 rfl rfl ⟨_, rfl, h⟩
/-! X10_addFromSheet_at0_47 -/
def R_X10_addFromSheet_at0_47 (a2 : Int32) (a3 : Int32) (σ : pw_Mem) (K : Int32 → pw_Mem → Prop) : Prop := R_X7_holdsCall_at47 a2 a3 σ (fun x2 τ1 => ((¬ x2 = 0 → vp_in (a2 + (3 * a3)) 60 ∧ vp_in ((a2 + (3 * a3)) + 1) 60 ∧ vp_in ((a2 + (3 * a3)) + 2) 60 ∧ R_X10_refusalOfCall (τ1 48 (Int32.toNatClampNeg (a2 + (3 * a3)))) (τ1 48 (Int32.toNatClampNeg ((a2 + (3 * a3)) + 1))) (τ1 48 (Int32.toNatClampNeg ((a2 + (3 * a3)) + 2))) τ1 (fun x4 τ3 => ((x4 = 0 → R_X0_add (τ1 48 (Int32.toNatClampNeg (a2 + (3 * a3)))) (τ1 48 (Int32.toNatClampNeg ((a2 + (3 * a3)) + 1))) (τ1 48 (Int32.toNatClampNeg ((a2 + (3 * a3)) + 2))) τ3 (fun τ5 => K 0 τ5)) ∧ (¬ x4 = 0 → K ((-20) + x4) τ3)))) ∧ (x2 = 0 → K (-12) τ1)))
set_option maxHeartbeats 4000000 in
theorem c_X10_addFromSheet_at0_47 {L : pw_Lay} {d : Nat} {a2 : Int32} {a3 : Int32} {σ : pw_Mem} {K : Int32 → pw_Mem → Prop} (h : R_X10_addFromSheet_at0_47 a2 a3 σ K) : CT L (d + 4) m_X10_addFromSheet [.ref 0, .ref 47, .int a2, .int a3] σ (ki K) := by
  refine pw_enter (by decide) rfl (Nat.le_of_ble_eq_true rfl) (ls := [some (.ref 0), some (.ref 47), some (.int a2), some (.int a3), none, none, none, none, none]) rfl ?_
  unfold R_X10_addFromSheet_at0_47 at h
  refine pw_aload_n (i := 1) dX10_addFromSheet_0 rfl rfl ?_
  refine pw_iload_n (i := 2) dX10_addFromSheet_1 rfl rfl ?_
  refine pw_iload_n (i := 3) dX10_addFromSheet_2 rfl rfl ?_
  refine pw_cVi [.int a2, .int a3] dX10_addFromSheet_3 mv_X10_317 rfl rfl rfl (Nat.le_of_ble_eq_true rfl) (c_X7_holdsCall_at47 h) (fun x2 τ1 h => ?_)
  refine pw_if_ne (tgt := 12) dX10_addFromSheet_6 rfl (fun q => ?_) (fun q => ?_)
  · have h := h.1 q
    refine pw_iload_n (i := 2) dX10_addFromSheet_12 rfl rfl ?_
    refine pw_iconst (v := 3) dX10_addFromSheet_13 kc_3 ?_
    refine pw_iload_n (i := 3) dX10_addFromSheet_14 rfl rfl ?_
    refine pw_imul dX10_addFromSheet_15 ?_
    refine pw_iadd dX10_addFromSheet_16 ?_
    refine pw_istore (i := 4) (ls' := [some (.ref 0), some (.ref 47), some (.int a2), some (.int a3), some (.int (a2 + (3 * a3))), none, none, none, none]) dX10_addFromSheet_17 (Nat.le_of_ble_eq_true rfl) rfl ?_
    refine pw_aload_n (i := 1) dX10_addFromSheet_19 rfl rfl ?_
    refine pw_getR dX10_addFromSheet_20 fl_X10_320 rfl rfl ?_
    refine pw_iload dX10_addFromSheet_23 rfl ?_
    obtain ⟨hb, h⟩ := h
    refine pw_iald dX10_addFromSheet_25 rfl hb ?_
    refine pw_istore (i := 5) (ls' := [some (.ref 0), some (.ref 47), some (.int a2), some (.int a3), some (.int (a2 + (3 * a3))), some (.int (τ1 48 (Int32.toNatClampNeg (a2 + (3 * a3))))), none, none, none]) dX10_addFromSheet_26 (Nat.le_of_ble_eq_true rfl) rfl ?_
    refine pw_aload_n (i := 1) dX10_addFromSheet_28 rfl rfl ?_
    refine pw_getR dX10_addFromSheet_29 fl_X10_320 rfl rfl ?_
    refine pw_iload dX10_addFromSheet_32 rfl ?_
    refine pw_iconst (v := 1) dX10_addFromSheet_34 kc_1 ?_
    refine pw_iadd dX10_addFromSheet_35 ?_
    obtain ⟨hb, h⟩ := h
    refine pw_iald dX10_addFromSheet_36 rfl hb ?_
    refine pw_istore (i := 6) (ls' := [some (.ref 0), some (.ref 47), some (.int a2), some (.int a3), some (.int (a2 + (3 * a3))), some (.int (τ1 48 (Int32.toNatClampNeg (a2 + (3 * a3))))), some (.int (τ1 48 (Int32.toNatClampNeg ((a2 + (3 * a3)) + 1)))), none, none]) dX10_addFromSheet_37 (Nat.le_of_ble_eq_true rfl) rfl ?_
    refine pw_aload_n (i := 1) dX10_addFromSheet_39 rfl rfl ?_
    refine pw_getR dX10_addFromSheet_40 fl_X10_320 rfl rfl ?_
    refine pw_iload dX10_addFromSheet_43 rfl ?_
    refine pw_iconst (v := 2) dX10_addFromSheet_45 kc_2 ?_
    refine pw_iadd dX10_addFromSheet_46 ?_
    obtain ⟨hb, h⟩ := h
    refine pw_iald dX10_addFromSheet_47 rfl hb ?_
    refine pw_istore (i := 7) (ls' := [some (.ref 0), some (.ref 47), some (.int a2), some (.int a3), some (.int (a2 + (3 * a3))), some (.int (τ1 48 (Int32.toNatClampNeg (a2 + (3 * a3))))), some (.int (τ1 48 (Int32.toNatClampNeg ((a2 + (3 * a3)) + 1)))), some (.int (τ1 48 (Int32.toNatClampNeg ((a2 + (3 * a3)) + 2)))), none]) dX10_addFromSheet_48 (Nat.le_of_ble_eq_true rfl) rfl ?_
    refine pw_aload_n (i := 0) dX10_addFromSheet_50 rfl rfl ?_
    refine pw_iload dX10_addFromSheet_51 rfl ?_
    refine pw_iload dX10_addFromSheet_53 rfl ?_
    refine pw_iload dX10_addFromSheet_55 rfl ?_
    refine pw_cVi [.int (τ1 48 (Int32.toNatClampNeg (a2 + (3 * a3)))), .int (τ1 48 (Int32.toNatClampNeg ((a2 + (3 * a3)) + 1))), .int (τ1 48 (Int32.toNatClampNeg ((a2 + (3 * a3)) + 2)))] dX10_addFromSheet_57 mv_X10_113 rfl rfl rfl (Nat.le_of_ble_eq_true rfl) (c_X10_refusalOfCall h) (fun x4 τ3 h => ?_)
    refine pw_istore (i := 8) (ls' := [some (.ref 0), some (.ref 47), some (.int a2), some (.int a3), some (.int (a2 + (3 * a3))), some (.int (τ1 48 (Int32.toNatClampNeg (a2 + (3 * a3))))), some (.int (τ1 48 (Int32.toNatClampNeg ((a2 + (3 * a3)) + 1)))), some (.int (τ1 48 (Int32.toNatClampNeg ((a2 + (3 * a3)) + 2)))), some (.int x4)]) dX10_addFromSheet_60 (Nat.le_of_ble_eq_true rfl) rfl ?_
    refine pw_iload dX10_addFromSheet_62 rfl ?_
    refine pw_if_eq (tgt := 73) dX10_addFromSheet_64 rfl (fun q => ?_) (fun q => ?_)
    · have h := h.1 q
      refine pw_aload_n (i := 0) dX10_addFromSheet_73 rfl rfl ?_
      refine pw_getR dX10_addFromSheet_74 fl_X10_26 rfl rfl ?_
      refine pw_iload dX10_addFromSheet_77 rfl ?_
      refine pw_iload dX10_addFromSheet_79 rfl ?_
      refine pw_iload dX10_addFromSheet_81 rfl ?_
      refine pw_cVv [.int (τ1 48 (Int32.toNatClampNeg (a2 + (3 * a3)))), .int (τ1 48 (Int32.toNatClampNeg ((a2 + (3 * a3)) + 1))), .int (τ1 48 (Int32.toNatClampNeg ((a2 + (3 * a3)) + 2)))] dX10_addFromSheet_83 mv_X10_117 rfl rfl rfl (Nat.le_of_ble_eq_true rfl) (c_X0_add h) (fun τ5 h => ?_)
      refine pw_iconst (v := 0) dX10_addFromSheet_86 kc_0 ?_
      exact pw_ret dX10_addFromSheet_87 rfl rfl ⟨_, rfl, h⟩
    · have h := h.2 q
      refine pw_bipush (v := (-20)) dX10_addFromSheet_67 kb_m20 ?_
      refine pw_iload dX10_addFromSheet_69 rfl ?_
      refine pw_iadd dX10_addFromSheet_71 ?_
      exact pw_ret dX10_addFromSheet_72 rfl rfl ⟨_, rfl, h⟩
  · have h := h.2 q
    refine pw_bipush (v := (-12)) dX10_addFromSheet_9 kb_m12 ?_
    exact pw_ret dX10_addFromSheet_11 rfl rfl ⟨_, rfl, h⟩
/-! X10_removeFromSheet_at0_47 -/
def R_X10_removeFromSheet_at0_47_L3 (K : pw_Mem → Prop) (KX : Int32 → Int32 → Int32 → pw_Mem → Prop) : Nat → Int32 → Int32 → Int32 → pw_Mem → Prop
  | 0, _, _, _, _ => False
  | n + 1, l2, l3, l4, σ => ((l3 ≤ l4 → KX l2 l3 l4 σ) ∧ (¬ l3 ≤ l4 → vp_in (l2 + (3 * l4)) 60 ∧ vp_in ((l2 + (3 * l4)) + 1) 60 ∧ vp_in ((l2 + (3 * l4)) + 2) 60 ∧ R_X0_remove (σ 48 (Int32.toNatClampNeg (l2 + (3 * l4)))) (σ 48 (Int32.toNatClampNeg ((l2 + (3 * l4)) + 1))) (σ 48 (Int32.toNatClampNeg ((l2 + (3 * l4)) + 2))) σ (fun τ1 => R_X10_removeFromSheet_at0_47_L3 K KX n l2 l3 (l4 + 1) τ1)))
def R_X10_removeFromSheet_at0_47 (a2 : Int32) (a3 : Int32) (σ : pw_Mem) (K : pw_Mem → Prop) : Prop := ∃ n6, R_X10_removeFromSheet_at0_47_L3 K (fun y2 y3 y4 τ5 => K τ5) n6 a2 a3 0 σ
set_option maxHeartbeats 4000000 in
theorem t_X10_removeFromSheet_at0_47_L3 {L : pw_Lay} {d : Nat} {K : pw_Mem → Prop} {KX : Int32 → Int32 → Int32 → pw_Mem → Prop} : ∀ (n : Nat) (l2 : Int32) (l3 : Int32) (l4 : Int32) (σ : pw_Mem), R_X10_removeFromSheet_at0_47_L3 K KX n l2 l3 l4 σ → (∀ (l2 : Int32) (l3 : Int32) (l4 : Int32) (τ : pw_Mem), KX l2 l3 l4 τ → PW L (d + 1) m_X10_removeFromSheet (kv K) 55 [some (.ref 0), some (.ref 47), some (.int l2), some (.int l3), some (.int l4), none] [] τ) → PW L (d + 1) m_X10_removeFromSheet (kv K) 3 [some (.ref 0), some (.ref 47), some (.int l2), some (.int l3), some (.int l4), none] [] σ := by
  intro n
  induction n with
  | zero => intro l2 l3 l4 _ h _; exact h.elim
  | succ n ih =>
    intro l2 l3 l4 σ h hX
    unfold R_X10_removeFromSheet_at0_47_L3 at h
    refine pw_iload dX10_removeFromSheet_3 rfl ?_
    refine pw_iload_n (i := 3) dX10_removeFromSheet_5 rfl rfl ?_
    refine pw_icmp_ge (tgt := 55) dX10_removeFromSheet_6 rfl (fun q => ?_) (fun q => ?_)
    · have h := h.1 q
      exact hX _ _ _ _ h
    · have h := h.2 q
      refine pw_iload_n (i := 2) dX10_removeFromSheet_9 rfl rfl ?_
      refine pw_iconst (v := 3) dX10_removeFromSheet_10 kc_3 ?_
      refine pw_iload dX10_removeFromSheet_11 rfl ?_
      refine pw_imul dX10_removeFromSheet_13 ?_
      refine pw_iadd dX10_removeFromSheet_14 ?_
      refine pw_istore (i := 5) (ls' := [some (.ref 0), some (.ref 47), some (.int l2), some (.int l3), some (.int l4), some (.int (l2 + (3 * l4)))]) dX10_removeFromSheet_15 (Nat.le_of_ble_eq_true rfl) rfl ?_
      refine pw_aload_n (i := 0) dX10_removeFromSheet_17 rfl rfl ?_
      refine pw_getR dX10_removeFromSheet_18 fl_X10_26 rfl rfl ?_
      refine pw_aload_n (i := 1) dX10_removeFromSheet_21 rfl rfl ?_
      refine pw_getR dX10_removeFromSheet_22 fl_X10_320 rfl rfl ?_
      refine pw_iload dX10_removeFromSheet_25 rfl ?_
      obtain ⟨hb, h⟩ := h
      refine pw_iald dX10_removeFromSheet_27 rfl hb ?_
      refine pw_aload_n (i := 1) dX10_removeFromSheet_28 rfl rfl ?_
      refine pw_getR dX10_removeFromSheet_29 fl_X10_320 rfl rfl ?_
      refine pw_iload dX10_removeFromSheet_32 rfl ?_
      refine pw_iconst (v := 1) dX10_removeFromSheet_34 kc_1 ?_
      refine pw_iadd dX10_removeFromSheet_35 ?_
      obtain ⟨hb, h⟩ := h
      refine pw_iald dX10_removeFromSheet_36 rfl hb ?_
      refine pw_aload_n (i := 1) dX10_removeFromSheet_37 rfl rfl ?_
      refine pw_getR dX10_removeFromSheet_38 fl_X10_320 rfl rfl ?_
      refine pw_iload dX10_removeFromSheet_41 rfl ?_
      refine pw_iconst (v := 2) dX10_removeFromSheet_43 kc_2 ?_
      refine pw_iadd dX10_removeFromSheet_44 ?_
      obtain ⟨hb, h⟩ := h
      refine pw_iald dX10_removeFromSheet_45 rfl hb ?_
      refine pw_cVv [.int (σ 48 (Int32.toNatClampNeg (l2 + (3 * l4)))), .int (σ 48 (Int32.toNatClampNeg ((l2 + (3 * l4)) + 1))), .int (σ 48 (Int32.toNatClampNeg ((l2 + (3 * l4)) + 2)))] dX10_removeFromSheet_46 mv_X10_127 rfl rfl rfl (Nat.le_of_ble_eq_true rfl) (c_X0_remove h) (fun τ1 h => ?_)
      refine pw_iinc (i := 4) (v := l4 + 1) (ls' := [some (.ref 0), some (.ref 47), some (.int l2), some (.int l3), some (.int (l4 + 1)), some (.int (l2 + (3 * l4)))]) dX10_removeFromSheet_49 rfl (by rw [kc_1]) (Nat.le_of_ble_eq_true rfl) rfl ?_
      refine pw_goto (tgt := 3) dX10_removeFromSheet_52 rfl ?_
      refine pw_forget (ls' := [some (.ref 0), some (.ref 47), some (.int l2), some (.int l3), some (.int (l4 + 1)), none]) (And.intro rfl (And.intro rfl (And.intro rfl (And.intro rfl (And.intro rfl trivial))))) ?_
      exact ih _ _ _ _ h hX
set_option maxHeartbeats 4000000 in
theorem c_X10_removeFromSheet_at0_47 {L : pw_Lay} {d : Nat} {a2 : Int32} {a3 : Int32} {σ : pw_Mem} {K : pw_Mem → Prop} (h : R_X10_removeFromSheet_at0_47 a2 a3 σ K) : CT L (d + 1) m_X10_removeFromSheet [.ref 0, .ref 47, .int a2, .int a3] σ (kv K) := by
  refine pw_enter (by decide) rfl (Nat.le_of_ble_eq_true rfl) (ls := [some (.ref 0), some (.ref 47), some (.int a2), some (.int a3), none, none]) rfl ?_
  unfold R_X10_removeFromSheet_at0_47 at h
  refine pw_iconst (v := 0) dX10_removeFromSheet_0 kc_0 ?_
  refine pw_istore (i := 4) (ls' := [some (.ref 0), some (.ref 47), some (.int a2), some (.int a3), some (.int 0), none]) dX10_removeFromSheet_1 (Nat.le_of_ble_eq_true rfl) rfl ?_
  obtain ⟨n6, h⟩ := h
  refine t_X10_removeFromSheet_at0_47_L3 _ _ _ _ _ h (fun y2 y3 y4 τ5 h => ?_)
  exact pw_vret dX10_removeFromSheet_55 rfl ⟨rfl, h⟩
/-! X10_scan -/
def R_X10_scan_L68 (K : Int32 → pw_Mem → Prop) (KX : Int32 → Int32 → Int32 → Int32 → Int32 → pw_Mem → Prop) : Nat → Int32 → Int32 → Int32 → Int32 → Int32 → pw_Mem → Prop
  | 0, _, _, _, _, _, _ => False
  | n + 1, l1, l2, l3, l4, l6, σ => ((l4 ≤ l6 → KX l1 l2 l3 l4 l6 σ) ∧ (¬ l4 ≤ l6 → R_X10_addFromSheet_at0_41 l3 l6 σ (fun x11 τ10 => ((x11 = 0 → R_X10_scan_L68 K KX n l1 l2 l3 l4 (l6 + 1) τ10) ∧ (¬ x11 = 0 → R_X10_removeFromSheet_at0_41 l3 l6 τ10 (fun τ12 => K x11 τ12))))))
def R_X10_scan_L68v1 (K : Int32 → pw_Mem → Prop) (KX : Int32 → Int32 → Int32 → Int32 → Int32 → pw_Mem → Prop) : Nat → Int32 → Int32 → Int32 → Int32 → Int32 → pw_Mem → Prop
  | 0, _, _, _, _, _, _ => False
  | n + 1, l1, l2, l3, l4, l6, σ => ((l4 ≤ l6 → KX l1 l2 l3 l4 l6 σ) ∧ (¬ l4 ≤ l6 → R_X10_addFromSheet_at0_43 l3 l6 σ (fun x24 τ23 => ((x24 = 0 → R_X10_scan_L68v1 K KX n l1 l2 l3 l4 (l6 + 1) τ23) ∧ (¬ x24 = 0 → R_X10_removeFromSheet_at0_43 l3 l6 τ23 (fun τ25 => K x24 τ25))))))
def R_X10_scan_L68v2 (K : Int32 → pw_Mem → Prop) (KX : Int32 → Int32 → Int32 → Int32 → Int32 → pw_Mem → Prop) : Nat → Int32 → Int32 → Int32 → Int32 → Int32 → pw_Mem → Prop
  | 0, _, _, _, _, _, _ => False
  | n + 1, l1, l2, l3, l4, l6, σ => ((l4 ≤ l6 → KX l1 l2 l3 l4 l6 σ) ∧ (¬ l4 ≤ l6 → R_X10_addFromSheet_at0_45 l3 l6 σ (fun x37 τ36 => ((x37 = 0 → R_X10_scan_L68v2 K KX n l1 l2 l3 l4 (l6 + 1) τ36) ∧ (¬ x37 = 0 → R_X10_removeFromSheet_at0_45 l3 l6 τ36 (fun τ38 => K x37 τ38))))))
def R_X10_scan_L68v3 (K : Int32 → pw_Mem → Prop) (KX : Int32 → Int32 → Int32 → Int32 → Int32 → pw_Mem → Prop) : Nat → Int32 → Int32 → Int32 → Int32 → Int32 → pw_Mem → Prop
  | 0, _, _, _, _, _, _ => False
  | n + 1, l1, l2, l3, l4, l6, σ => ((l4 ≤ l6 → KX l1 l2 l3 l4 l6 σ) ∧ (¬ l4 ≤ l6 → R_X10_addFromSheet_at0_47 l3 l6 σ (fun x50 τ49 => ((x50 = 0 → R_X10_scan_L68v3 K KX n l1 l2 l3 l4 (l6 + 1) τ49) ∧ (¬ x50 = 0 → R_X10_removeFromSheet_at0_47 l3 l6 τ49 (fun τ51 => K x50 τ51))))))
def R_X10_scan (a1 : Int32) (a2 : Int32) (a3 : Int32) (a4 : Int32) (σ : pw_Mem) (K : Int32 → pw_Mem → Prop) : Prop := R_X10_isSheet a1 σ (fun x2 τ1 => ((x2 = 0 → K (-1) τ1) ∧ (¬ x2 = 0 → R_X10_isLane a2 τ1 (fun x4 τ3 => ((x4 = 0 → K (-1) τ3) ∧ (¬ x4 = 0 → R_X10_within a4 0 20 τ3 (fun x6 τ5 => ((¬ x6 = 0 → ((a1 = 0 ∨ a1 = 1 ∨ a1 = 2 ∨ a1 = 3) ∧ (a1 = 0 → R_X7_isNothing_at41  τ5 (fun x8 τ7 => ((x8 = 0 → (((τ7 41 1) = a2 → R_X2_outdate  τ7 (fun τ9 => ∃ n19, R_X10_scan_L68 K (fun y13 y14 y15 y16 y17 τ18 => K (τ18 8 1) τ18) n19 a1 a2 a3 a4 0 τ9)) ∧ (¬ (τ7 41 1) = a2 → K (-13) τ7))) ∧ (¬ x8 = 0 → K (-11) τ7)))) ∧ (a1 = 1 → R_X7_isNothing_at43  τ5 (fun x21 τ20 => ((x21 = 0 → (((τ20 43 1) = a2 → R_X2_outdate  τ20 (fun τ22 => ∃ n32, R_X10_scan_L68v1 K (fun y26 y27 y28 y29 y30 τ31 => K (τ31 8 1) τ31) n32 a1 a2 a3 a4 0 τ22)) ∧ (¬ (τ20 43 1) = a2 → K (-13) τ20))) ∧ (¬ x21 = 0 → K (-11) τ20)))) ∧ (a1 = 2 → R_X7_isNothing_at45  τ5 (fun x34 τ33 => ((x34 = 0 → (((τ33 45 1) = a2 → R_X2_outdate  τ33 (fun τ35 => ∃ n45, R_X10_scan_L68v2 K (fun y39 y40 y41 y42 y43 τ44 => K (τ44 8 1) τ44) n45 a1 a2 a3 a4 0 τ35)) ∧ (¬ (τ33 45 1) = a2 → K (-13) τ33))) ∧ (¬ x34 = 0 → K (-11) τ33)))) ∧ (a1 = 3 → R_X7_isNothing_at47  τ5 (fun x47 τ46 => ((x47 = 0 → (((τ46 47 1) = a2 → R_X2_outdate  τ46 (fun τ48 => ∃ n58, R_X10_scan_L68v3 K (fun y52 y53 y54 y55 y56 τ57 => K (τ57 8 1) τ57) n58 a1 a2 a3 a4 0 τ48)) ∧ (¬ (τ46 47 1) = a2 → K (-13) τ46))) ∧ (¬ x47 = 0 → K (-11) τ46)))))) ∧ (x6 = 0 → K (-1) τ5)))))))))
set_option maxHeartbeats 4000000 in
theorem t_X10_scan_L68 {L : pw_Lay} {d : Nat} {K : Int32 → pw_Mem → Prop} {KX : Int32 → Int32 → Int32 → Int32 → Int32 → pw_Mem → Prop} : ∀ (n : Nat) (l1 : Int32) (l2 : Int32) (l3 : Int32) (l4 : Int32) (l6 : Int32) (σ : pw_Mem), R_X10_scan_L68 K KX n l1 l2 l3 l4 l6 σ → (∀ (l1 : Int32) (l2 : Int32) (l3 : Int32) (l4 : Int32) (l6 : Int32) (τ : pw_Mem), KX l1 l2 l3 l4 l6 τ → PW L (d + 5) m_X10_scan (ki K) 109 [some (.ref 0), some (.int l1), some (.int l2), some (.int l3), some (.int l4), some (.ref 41), some (.int l6), none] [] τ) → PW L (d + 5) m_X10_scan (ki K) 68 [some (.ref 0), some (.int l1), some (.int l2), some (.int l3), some (.int l4), some (.ref 41), some (.int l6), none] [] σ := by
  intro n
  induction n with
  | zero => intro l1 l2 l3 l4 l6 _ h _; exact h.elim
  | succ n ih =>
    intro l1 l2 l3 l4 l6 σ h hX
    unfold R_X10_scan_L68 at h
    refine pw_iload dX10_scan_68 rfl ?_
    refine pw_iload dX10_scan_70 rfl ?_
    refine pw_icmp_ge (tgt := 109) dX10_scan_72 rfl (fun q => ?_) (fun q => ?_)
    · have h := h.1 q
      exact hX _ _ _ _ _ _ h
    · have h := h.2 q
      refine pw_aload_n (i := 0) dX10_scan_75 rfl rfl ?_
      refine pw_aload dX10_scan_76 rfl ?_
      refine pw_iload_n (i := 3) dX10_scan_78 rfl rfl ?_
      refine pw_iload dX10_scan_79 rfl ?_
      refine pw_cVi [.ref 41, .int l3, .int l6] dX10_scan_81 mv_X10_306 rfl rfl rfl (Nat.le_of_ble_eq_true rfl) (c_X10_addFromSheet_at0_41 h) (fun x11 τ10 h => ?_)
      refine pw_istore (i := 7) (ls' := [some (.ref 0), some (.int l1), some (.int l2), some (.int l3), some (.int l4), some (.ref 41), some (.int l6), some (.int x11)]) dX10_scan_84 (Nat.le_of_ble_eq_true rfl) rfl ?_
      refine pw_iload dX10_scan_86 rfl ?_
      refine pw_if_eq (tgt := 103) dX10_scan_88 rfl (fun q => ?_) (fun q => ?_)
      · have h := h.1 q
        refine pw_iinc (i := 6) (v := l6 + 1) (ls' := [some (.ref 0), some (.int l1), some (.int l2), some (.int l3), some (.int l4), some (.ref 41), some (.int (l6 + 1)), some (.int x11)]) dX10_scan_103 rfl (by rw [kc_1]) (Nat.le_of_ble_eq_true rfl) rfl ?_
        refine pw_goto (tgt := 68) dX10_scan_106 rfl ?_
        refine pw_forget (ls' := [some (.ref 0), some (.int l1), some (.int l2), some (.int l3), some (.int l4), some (.ref 41), some (.int (l6 + 1)), none]) (And.intro rfl (And.intro rfl (And.intro rfl (And.intro rfl (And.intro rfl (And.intro rfl (And.intro rfl trivial))))))) ?_
        exact ih _ _ _ _ _ _ h hX
      · have h := h.2 q
        refine pw_aload_n (i := 0) dX10_scan_91 rfl rfl ?_
        refine pw_aload dX10_scan_92 rfl ?_
        refine pw_iload_n (i := 3) dX10_scan_94 rfl rfl ?_
        refine pw_iload dX10_scan_95 rfl ?_
        refine pw_cVv [.ref 41, .int l3, .int l6] dX10_scan_97 mv_X10_310 rfl rfl rfl (Nat.le_of_ble_eq_true rfl) (c_X10_removeFromSheet_at0_41 h) (fun τ12 h => ?_)
        refine pw_iload dX10_scan_100 rfl ?_
        exact pw_ret dX10_scan_102 rfl rfl ⟨_, rfl, h⟩
set_option maxHeartbeats 4000000 in
theorem t_X10_scan_L68v1 {L : pw_Lay} {d : Nat} {K : Int32 → pw_Mem → Prop} {KX : Int32 → Int32 → Int32 → Int32 → Int32 → pw_Mem → Prop} : ∀ (n : Nat) (l1 : Int32) (l2 : Int32) (l3 : Int32) (l4 : Int32) (l6 : Int32) (σ : pw_Mem), R_X10_scan_L68v1 K KX n l1 l2 l3 l4 l6 σ → (∀ (l1 : Int32) (l2 : Int32) (l3 : Int32) (l4 : Int32) (l6 : Int32) (τ : pw_Mem), KX l1 l2 l3 l4 l6 τ → PW L (d + 5) m_X10_scan (ki K) 109 [some (.ref 0), some (.int l1), some (.int l2), some (.int l3), some (.int l4), some (.ref 43), some (.int l6), none] [] τ) → PW L (d + 5) m_X10_scan (ki K) 68 [some (.ref 0), some (.int l1), some (.int l2), some (.int l3), some (.int l4), some (.ref 43), some (.int l6), none] [] σ := by
  intro n
  induction n with
  | zero => intro l1 l2 l3 l4 l6 _ h _; exact h.elim
  | succ n ih =>
    intro l1 l2 l3 l4 l6 σ h hX
    unfold R_X10_scan_L68v1 at h
    refine pw_iload dX10_scan_68 rfl ?_
    refine pw_iload dX10_scan_70 rfl ?_
    refine pw_icmp_ge (tgt := 109) dX10_scan_72 rfl (fun q => ?_) (fun q => ?_)
    · have h := h.1 q
      exact hX _ _ _ _ _ _ h
    · have h := h.2 q
      refine pw_aload_n (i := 0) dX10_scan_75 rfl rfl ?_
      refine pw_aload dX10_scan_76 rfl ?_
      refine pw_iload_n (i := 3) dX10_scan_78 rfl rfl ?_
      refine pw_iload dX10_scan_79 rfl ?_
      refine pw_cVi [.ref 43, .int l3, .int l6] dX10_scan_81 mv_X10_306 rfl rfl rfl (Nat.le_of_ble_eq_true rfl) (c_X10_addFromSheet_at0_43 h) (fun x24 τ23 h => ?_)
      refine pw_istore (i := 7) (ls' := [some (.ref 0), some (.int l1), some (.int l2), some (.int l3), some (.int l4), some (.ref 43), some (.int l6), some (.int x24)]) dX10_scan_84 (Nat.le_of_ble_eq_true rfl) rfl ?_
      refine pw_iload dX10_scan_86 rfl ?_
      refine pw_if_eq (tgt := 103) dX10_scan_88 rfl (fun q => ?_) (fun q => ?_)
      · have h := h.1 q
        refine pw_iinc (i := 6) (v := l6 + 1) (ls' := [some (.ref 0), some (.int l1), some (.int l2), some (.int l3), some (.int l4), some (.ref 43), some (.int (l6 + 1)), some (.int x24)]) dX10_scan_103 rfl (by rw [kc_1]) (Nat.le_of_ble_eq_true rfl) rfl ?_
        refine pw_goto (tgt := 68) dX10_scan_106 rfl ?_
        refine pw_forget (ls' := [some (.ref 0), some (.int l1), some (.int l2), some (.int l3), some (.int l4), some (.ref 43), some (.int (l6 + 1)), none]) (And.intro rfl (And.intro rfl (And.intro rfl (And.intro rfl (And.intro rfl (And.intro rfl (And.intro rfl trivial))))))) ?_
        exact ih _ _ _ _ _ _ h hX
      · have h := h.2 q
        refine pw_aload_n (i := 0) dX10_scan_91 rfl rfl ?_
        refine pw_aload dX10_scan_92 rfl ?_
        refine pw_iload_n (i := 3) dX10_scan_94 rfl rfl ?_
        refine pw_iload dX10_scan_95 rfl ?_
        refine pw_cVv [.ref 43, .int l3, .int l6] dX10_scan_97 mv_X10_310 rfl rfl rfl (Nat.le_of_ble_eq_true rfl) (c_X10_removeFromSheet_at0_43 h) (fun τ25 h => ?_)
        refine pw_iload dX10_scan_100 rfl ?_
        exact pw_ret dX10_scan_102 rfl rfl ⟨_, rfl, h⟩
set_option maxHeartbeats 4000000 in
theorem t_X10_scan_L68v2 {L : pw_Lay} {d : Nat} {K : Int32 → pw_Mem → Prop} {KX : Int32 → Int32 → Int32 → Int32 → Int32 → pw_Mem → Prop} : ∀ (n : Nat) (l1 : Int32) (l2 : Int32) (l3 : Int32) (l4 : Int32) (l6 : Int32) (σ : pw_Mem), R_X10_scan_L68v2 K KX n l1 l2 l3 l4 l6 σ → (∀ (l1 : Int32) (l2 : Int32) (l3 : Int32) (l4 : Int32) (l6 : Int32) (τ : pw_Mem), KX l1 l2 l3 l4 l6 τ → PW L (d + 5) m_X10_scan (ki K) 109 [some (.ref 0), some (.int l1), some (.int l2), some (.int l3), some (.int l4), some (.ref 45), some (.int l6), none] [] τ) → PW L (d + 5) m_X10_scan (ki K) 68 [some (.ref 0), some (.int l1), some (.int l2), some (.int l3), some (.int l4), some (.ref 45), some (.int l6), none] [] σ := by
  intro n
  induction n with
  | zero => intro l1 l2 l3 l4 l6 _ h _; exact h.elim
  | succ n ih =>
    intro l1 l2 l3 l4 l6 σ h hX
    unfold R_X10_scan_L68v2 at h
    refine pw_iload dX10_scan_68 rfl ?_
    refine pw_iload dX10_scan_70 rfl ?_
    refine pw_icmp_ge (tgt := 109) dX10_scan_72 rfl (fun q => ?_) (fun q => ?_)
    · have h := h.1 q
      exact hX _ _ _ _ _ _ h
    · have h := h.2 q
      refine pw_aload_n (i := 0) dX10_scan_75 rfl rfl ?_
      refine pw_aload dX10_scan_76 rfl ?_
      refine pw_iload_n (i := 3) dX10_scan_78 rfl rfl ?_
      refine pw_iload dX10_scan_79 rfl ?_
      refine pw_cVi [.ref 45, .int l3, .int l6] dX10_scan_81 mv_X10_306 rfl rfl rfl (Nat.le_of_ble_eq_true rfl) (c_X10_addFromSheet_at0_45 h) (fun x37 τ36 h => ?_)
      refine pw_istore (i := 7) (ls' := [some (.ref 0), some (.int l1), some (.int l2), some (.int l3), some (.int l4), some (.ref 45), some (.int l6), some (.int x37)]) dX10_scan_84 (Nat.le_of_ble_eq_true rfl) rfl ?_
      refine pw_iload dX10_scan_86 rfl ?_
      refine pw_if_eq (tgt := 103) dX10_scan_88 rfl (fun q => ?_) (fun q => ?_)
      · have h := h.1 q
        refine pw_iinc (i := 6) (v := l6 + 1) (ls' := [some (.ref 0), some (.int l1), some (.int l2), some (.int l3), some (.int l4), some (.ref 45), some (.int (l6 + 1)), some (.int x37)]) dX10_scan_103 rfl (by rw [kc_1]) (Nat.le_of_ble_eq_true rfl) rfl ?_
        refine pw_goto (tgt := 68) dX10_scan_106 rfl ?_
        refine pw_forget (ls' := [some (.ref 0), some (.int l1), some (.int l2), some (.int l3), some (.int l4), some (.ref 45), some (.int (l6 + 1)), none]) (And.intro rfl (And.intro rfl (And.intro rfl (And.intro rfl (And.intro rfl (And.intro rfl (And.intro rfl trivial))))))) ?_
        exact ih _ _ _ _ _ _ h hX
      · have h := h.2 q
        refine pw_aload_n (i := 0) dX10_scan_91 rfl rfl ?_
        refine pw_aload dX10_scan_92 rfl ?_
        refine pw_iload_n (i := 3) dX10_scan_94 rfl rfl ?_
        refine pw_iload dX10_scan_95 rfl ?_
        refine pw_cVv [.ref 45, .int l3, .int l6] dX10_scan_97 mv_X10_310 rfl rfl rfl (Nat.le_of_ble_eq_true rfl) (c_X10_removeFromSheet_at0_45 h) (fun τ38 h => ?_)
        refine pw_iload dX10_scan_100 rfl ?_
        exact pw_ret dX10_scan_102 rfl rfl ⟨_, rfl, h⟩
set_option maxHeartbeats 4000000 in
theorem t_X10_scan_L68v3 {L : pw_Lay} {d : Nat} {K : Int32 → pw_Mem → Prop} {KX : Int32 → Int32 → Int32 → Int32 → Int32 → pw_Mem → Prop} : ∀ (n : Nat) (l1 : Int32) (l2 : Int32) (l3 : Int32) (l4 : Int32) (l6 : Int32) (σ : pw_Mem), R_X10_scan_L68v3 K KX n l1 l2 l3 l4 l6 σ → (∀ (l1 : Int32) (l2 : Int32) (l3 : Int32) (l4 : Int32) (l6 : Int32) (τ : pw_Mem), KX l1 l2 l3 l4 l6 τ → PW L (d + 5) m_X10_scan (ki K) 109 [some (.ref 0), some (.int l1), some (.int l2), some (.int l3), some (.int l4), some (.ref 47), some (.int l6), none] [] τ) → PW L (d + 5) m_X10_scan (ki K) 68 [some (.ref 0), some (.int l1), some (.int l2), some (.int l3), some (.int l4), some (.ref 47), some (.int l6), none] [] σ := by
  intro n
  induction n with
  | zero => intro l1 l2 l3 l4 l6 _ h _; exact h.elim
  | succ n ih =>
    intro l1 l2 l3 l4 l6 σ h hX
    unfold R_X10_scan_L68v3 at h
    refine pw_iload dX10_scan_68 rfl ?_
    refine pw_iload dX10_scan_70 rfl ?_
    refine pw_icmp_ge (tgt := 109) dX10_scan_72 rfl (fun q => ?_) (fun q => ?_)
    · have h := h.1 q
      exact hX _ _ _ _ _ _ h
    · have h := h.2 q
      refine pw_aload_n (i := 0) dX10_scan_75 rfl rfl ?_
      refine pw_aload dX10_scan_76 rfl ?_
      refine pw_iload_n (i := 3) dX10_scan_78 rfl rfl ?_
      refine pw_iload dX10_scan_79 rfl ?_
      refine pw_cVi [.ref 47, .int l3, .int l6] dX10_scan_81 mv_X10_306 rfl rfl rfl (Nat.le_of_ble_eq_true rfl) (c_X10_addFromSheet_at0_47 h) (fun x50 τ49 h => ?_)
      refine pw_istore (i := 7) (ls' := [some (.ref 0), some (.int l1), some (.int l2), some (.int l3), some (.int l4), some (.ref 47), some (.int l6), some (.int x50)]) dX10_scan_84 (Nat.le_of_ble_eq_true rfl) rfl ?_
      refine pw_iload dX10_scan_86 rfl ?_
      refine pw_if_eq (tgt := 103) dX10_scan_88 rfl (fun q => ?_) (fun q => ?_)
      · have h := h.1 q
        refine pw_iinc (i := 6) (v := l6 + 1) (ls' := [some (.ref 0), some (.int l1), some (.int l2), some (.int l3), some (.int l4), some (.ref 47), some (.int (l6 + 1)), some (.int x50)]) dX10_scan_103 rfl (by rw [kc_1]) (Nat.le_of_ble_eq_true rfl) rfl ?_
        refine pw_goto (tgt := 68) dX10_scan_106 rfl ?_
        refine pw_forget (ls' := [some (.ref 0), some (.int l1), some (.int l2), some (.int l3), some (.int l4), some (.ref 47), some (.int (l6 + 1)), none]) (And.intro rfl (And.intro rfl (And.intro rfl (And.intro rfl (And.intro rfl (And.intro rfl (And.intro rfl trivial))))))) ?_
        exact ih _ _ _ _ _ _ h hX
      · have h := h.2 q
        refine pw_aload_n (i := 0) dX10_scan_91 rfl rfl ?_
        refine pw_aload dX10_scan_92 rfl ?_
        refine pw_iload_n (i := 3) dX10_scan_94 rfl rfl ?_
        refine pw_iload dX10_scan_95 rfl ?_
        refine pw_cVv [.ref 47, .int l3, .int l6] dX10_scan_97 mv_X10_310 rfl rfl rfl (Nat.le_of_ble_eq_true rfl) (c_X10_removeFromSheet_at0_47 h) (fun τ51 h => ?_)
        refine pw_iload dX10_scan_100 rfl ?_
        exact pw_ret dX10_scan_102 rfl rfl ⟨_, rfl, h⟩
set_option maxHeartbeats 4000000 in
theorem c_X10_scan {L : pw_Lay} {d : Nat} {a1 : Int32} {a2 : Int32} {a3 : Int32} {a4 : Int32} {σ : pw_Mem} {K : Int32 → pw_Mem → Prop} (h : R_X10_scan a1 a2 a3 a4 σ K) : CT L (d + 5) m_X10_scan [.ref 0, .int a1, .int a2, .int a3, .int a4] σ (ki K) := by
  refine pw_enter (by decide) rfl (Nat.le_of_ble_eq_true rfl) (ls := [some (.ref 0), some (.int a1), some (.int a2), some (.int a3), some (.int a4), none, none, none]) rfl ?_
  unfold R_X10_scan at h
  refine pw_iload_n (i := 1) dX10_scan_0 rfl rfl ?_
  refine pw_cSi [.int a1] dX10_scan_1 ms_X10_285 rfl rfl (Nat.le_of_ble_eq_true rfl) (c_X10_isSheet h) (fun x2 τ1 h => ?_)
  refine pw_if_eq (tgt := 25) dX10_scan_4 rfl (fun q => ?_) (fun q => ?_)
  · have h := h.1 q
    refine pw_iconst (v := (-1)) dX10_scan_25 kc_m1 ?_
    exact pw_ret dX10_scan_26 rfl rfl ⟨_, rfl, h⟩
  · have h := h.2 q
    refine pw_iload_n (i := 2) dX10_scan_7 rfl rfl ?_
    refine pw_cSi [.int a2] dX10_scan_8 ms_X10_288 rfl rfl (Nat.le_of_ble_eq_true rfl) (c_X10_isLane h) (fun x4 τ3 h => ?_)
    refine pw_if_eq (tgt := 25) dX10_scan_11 rfl (fun q => ?_) (fun q => ?_)
    · have h := h.1 q
      refine pw_iconst (v := (-1)) dX10_scan_25 kc_m1 ?_
      exact pw_ret dX10_scan_26 rfl rfl ⟨_, rfl, h⟩
    · have h := h.2 q
      refine pw_iload dX10_scan_14 rfl ?_
      refine pw_iconst (v := 0) dX10_scan_16 kc_0 ?_
      refine pw_bipush (v := 20) dX10_scan_17 kb_20 ?_
      refine pw_cSi [.int a4, .int 0, .int 20] dX10_scan_19 ms_X10_83 rfl rfl (Nat.le_of_ble_eq_true rfl) (c_X10_within h) (fun x6 τ5 h => ?_)
      refine pw_if_ne (tgt := 27) dX10_scan_22 rfl (fun q => ?_) (fun q => ?_)
      · have h := h.1 q
        refine pw_aload_n (i := 0) dX10_scan_27 rfl rfl ?_
        refine pw_getR dX10_scan_28 fl_X10_78 rfl rfl ?_
        refine pw_iload_n (i := 1) dX10_scan_31 rfl rfl ?_
        have hc4 := h.1
        have h := h.2
        rcases hc4 with hi | hi | hi | hi
        · have h := h.1 hi
          refine pw_aaldS dX10_scan_32 rfl (by rw [hi]; exact vi4_0) (by rw [hi]; rfl) ?_
          refine pw_astore (i := 5) (ls' := [some (.ref 0), some (.int a1), some (.int a2), some (.int a3), some (.int a4), some (.ref 41), none, none]) dX10_scan_33 (Nat.le_of_ble_eq_true rfl) rfl ?_
          refine pw_aload dX10_scan_35 rfl ?_
          refine pw_cVi [] dX10_scan_37 mv_X10_294 rfl rfl rfl (Nat.le_of_ble_eq_true rfl) (c_X7_isNothing_at41 h) (fun x8 τ7 h => ?_)
          refine pw_if_eq (tgt := 46) dX10_scan_40 rfl (fun q => ?_) (fun q => ?_)
          · have h := h.1 q
            refine pw_aload dX10_scan_46 rfl ?_
            refine pw_getI dX10_scan_48 fl_X10_303 rfl rfl ?_
            refine pw_iload_n (i := 2) dX10_scan_51 rfl rfl ?_
            refine pw_icmp_eq (tgt := 58) dX10_scan_52 rfl (fun q => ?_) (fun q => ?_)
            · have h := h.1 q
              refine pw_aload_n (i := 0) dX10_scan_58 rfl rfl ?_
              refine pw_getR dX10_scan_59 fl_X10_35 rfl rfl ?_
              refine pw_cVv [] dX10_scan_62 mv_X10_91 rfl rfl rfl (Nat.le_of_ble_eq_true rfl) (c_X2_outdate h) (fun τ9 h => ?_)
              refine pw_iconst (v := 0) dX10_scan_65 kc_0 ?_
              refine pw_istore (i := 6) (ls' := [some (.ref 0), some (.int a1), some (.int a2), some (.int a3), some (.int a4), some (.ref 41), some (.int 0), none]) dX10_scan_66 (Nat.le_of_ble_eq_true rfl) rfl ?_
              obtain ⟨n19, h⟩ := h
              refine t_X10_scan_L68 _ _ _ _ _ _ _ h (fun y13 y14 y15 y16 y17 τ18 h => ?_)
              refine pw_aload_n (i := 0) dX10_scan_109 rfl rfl ?_
              refine pw_getR dX10_scan_110 fl_X10_26 rfl rfl ?_
              refine pw_getI dX10_scan_113 fl_X10_120 rfl rfl ?_
              exact pw_ret dX10_scan_116 rfl rfl ⟨_, rfl, h⟩
            · have h := h.2 q
              refine pw_bipush (v := (-13)) dX10_scan_55 kb_m13 ?_
              exact pw_ret dX10_scan_57 rfl rfl ⟨_, rfl, h⟩
          · have h := h.2 q
            refine pw_bipush (v := (-11)) dX10_scan_43 kb_m11 ?_
            exact pw_ret dX10_scan_45 rfl rfl ⟨_, rfl, h⟩
        · have h := h.2.1 hi
          refine pw_aaldS dX10_scan_32 rfl (by rw [hi]; exact vi4_1) (by rw [hi]; rfl) ?_
          refine pw_astore (i := 5) (ls' := [some (.ref 0), some (.int a1), some (.int a2), some (.int a3), some (.int a4), some (.ref 43), none, none]) dX10_scan_33 (Nat.le_of_ble_eq_true rfl) rfl ?_
          refine pw_aload dX10_scan_35 rfl ?_
          refine pw_cVi [] dX10_scan_37 mv_X10_294 rfl rfl rfl (Nat.le_of_ble_eq_true rfl) (c_X7_isNothing_at43 h) (fun x21 τ20 h => ?_)
          refine pw_if_eq (tgt := 46) dX10_scan_40 rfl (fun q => ?_) (fun q => ?_)
          · have h := h.1 q
            refine pw_aload dX10_scan_46 rfl ?_
            refine pw_getI dX10_scan_48 fl_X10_303 rfl rfl ?_
            refine pw_iload_n (i := 2) dX10_scan_51 rfl rfl ?_
            refine pw_icmp_eq (tgt := 58) dX10_scan_52 rfl (fun q => ?_) (fun q => ?_)
            · have h := h.1 q
              refine pw_aload_n (i := 0) dX10_scan_58 rfl rfl ?_
              refine pw_getR dX10_scan_59 fl_X10_35 rfl rfl ?_
              refine pw_cVv [] dX10_scan_62 mv_X10_91 rfl rfl rfl (Nat.le_of_ble_eq_true rfl) (c_X2_outdate h) (fun τ22 h => ?_)
              refine pw_iconst (v := 0) dX10_scan_65 kc_0 ?_
              refine pw_istore (i := 6) (ls' := [some (.ref 0), some (.int a1), some (.int a2), some (.int a3), some (.int a4), some (.ref 43), some (.int 0), none]) dX10_scan_66 (Nat.le_of_ble_eq_true rfl) rfl ?_
              obtain ⟨n32, h⟩ := h
              refine t_X10_scan_L68v1 _ _ _ _ _ _ _ h (fun y26 y27 y28 y29 y30 τ31 h => ?_)
              refine pw_aload_n (i := 0) dX10_scan_109 rfl rfl ?_
              refine pw_getR dX10_scan_110 fl_X10_26 rfl rfl ?_
              refine pw_getI dX10_scan_113 fl_X10_120 rfl rfl ?_
              exact pw_ret dX10_scan_116 rfl rfl ⟨_, rfl, h⟩
            · have h := h.2 q
              refine pw_bipush (v := (-13)) dX10_scan_55 kb_m13 ?_
              exact pw_ret dX10_scan_57 rfl rfl ⟨_, rfl, h⟩
          · have h := h.2 q
            refine pw_bipush (v := (-11)) dX10_scan_43 kb_m11 ?_
            exact pw_ret dX10_scan_45 rfl rfl ⟨_, rfl, h⟩
        · have h := h.2.2.1 hi
          refine pw_aaldS dX10_scan_32 rfl (by rw [hi]; exact vi4_2) (by rw [hi]; rfl) ?_
          refine pw_astore (i := 5) (ls' := [some (.ref 0), some (.int a1), some (.int a2), some (.int a3), some (.int a4), some (.ref 45), none, none]) dX10_scan_33 (Nat.le_of_ble_eq_true rfl) rfl ?_
          refine pw_aload dX10_scan_35 rfl ?_
          refine pw_cVi [] dX10_scan_37 mv_X10_294 rfl rfl rfl (Nat.le_of_ble_eq_true rfl) (c_X7_isNothing_at45 h) (fun x34 τ33 h => ?_)
          refine pw_if_eq (tgt := 46) dX10_scan_40 rfl (fun q => ?_) (fun q => ?_)
          · have h := h.1 q
            refine pw_aload dX10_scan_46 rfl ?_
            refine pw_getI dX10_scan_48 fl_X10_303 rfl rfl ?_
            refine pw_iload_n (i := 2) dX10_scan_51 rfl rfl ?_
            refine pw_icmp_eq (tgt := 58) dX10_scan_52 rfl (fun q => ?_) (fun q => ?_)
            · have h := h.1 q
              refine pw_aload_n (i := 0) dX10_scan_58 rfl rfl ?_
              refine pw_getR dX10_scan_59 fl_X10_35 rfl rfl ?_
              refine pw_cVv [] dX10_scan_62 mv_X10_91 rfl rfl rfl (Nat.le_of_ble_eq_true rfl) (c_X2_outdate h) (fun τ35 h => ?_)
              refine pw_iconst (v := 0) dX10_scan_65 kc_0 ?_
              refine pw_istore (i := 6) (ls' := [some (.ref 0), some (.int a1), some (.int a2), some (.int a3), some (.int a4), some (.ref 45), some (.int 0), none]) dX10_scan_66 (Nat.le_of_ble_eq_true rfl) rfl ?_
              obtain ⟨n45, h⟩ := h
              refine t_X10_scan_L68v2 _ _ _ _ _ _ _ h (fun y39 y40 y41 y42 y43 τ44 h => ?_)
              refine pw_aload_n (i := 0) dX10_scan_109 rfl rfl ?_
              refine pw_getR dX10_scan_110 fl_X10_26 rfl rfl ?_
              refine pw_getI dX10_scan_113 fl_X10_120 rfl rfl ?_
              exact pw_ret dX10_scan_116 rfl rfl ⟨_, rfl, h⟩
            · have h := h.2 q
              refine pw_bipush (v := (-13)) dX10_scan_55 kb_m13 ?_
              exact pw_ret dX10_scan_57 rfl rfl ⟨_, rfl, h⟩
          · have h := h.2 q
            refine pw_bipush (v := (-11)) dX10_scan_43 kb_m11 ?_
            exact pw_ret dX10_scan_45 rfl rfl ⟨_, rfl, h⟩
        · have h := h.2.2.2 hi
          refine pw_aaldS dX10_scan_32 rfl (by rw [hi]; exact vi4_3) (by rw [hi]; rfl) ?_
          refine pw_astore (i := 5) (ls' := [some (.ref 0), some (.int a1), some (.int a2), some (.int a3), some (.int a4), some (.ref 47), none, none]) dX10_scan_33 (Nat.le_of_ble_eq_true rfl) rfl ?_
          refine pw_aload dX10_scan_35 rfl ?_
          refine pw_cVi [] dX10_scan_37 mv_X10_294 rfl rfl rfl (Nat.le_of_ble_eq_true rfl) (c_X7_isNothing_at47 h) (fun x47 τ46 h => ?_)
          refine pw_if_eq (tgt := 46) dX10_scan_40 rfl (fun q => ?_) (fun q => ?_)
          · have h := h.1 q
            refine pw_aload dX10_scan_46 rfl ?_
            refine pw_getI dX10_scan_48 fl_X10_303 rfl rfl ?_
            refine pw_iload_n (i := 2) dX10_scan_51 rfl rfl ?_
            refine pw_icmp_eq (tgt := 58) dX10_scan_52 rfl (fun q => ?_) (fun q => ?_)
            · have h := h.1 q
              refine pw_aload_n (i := 0) dX10_scan_58 rfl rfl ?_
              refine pw_getR dX10_scan_59 fl_X10_35 rfl rfl ?_
              refine pw_cVv [] dX10_scan_62 mv_X10_91 rfl rfl rfl (Nat.le_of_ble_eq_true rfl) (c_X2_outdate h) (fun τ48 h => ?_)
              refine pw_iconst (v := 0) dX10_scan_65 kc_0 ?_
              refine pw_istore (i := 6) (ls' := [some (.ref 0), some (.int a1), some (.int a2), some (.int a3), some (.int a4), some (.ref 47), some (.int 0), none]) dX10_scan_66 (Nat.le_of_ble_eq_true rfl) rfl ?_
              obtain ⟨n58, h⟩ := h
              refine t_X10_scan_L68v3 _ _ _ _ _ _ _ h (fun y52 y53 y54 y55 y56 τ57 h => ?_)
              refine pw_aload_n (i := 0) dX10_scan_109 rfl rfl ?_
              refine pw_getR dX10_scan_110 fl_X10_26 rfl rfl ?_
              refine pw_getI dX10_scan_113 fl_X10_120 rfl rfl ?_
              exact pw_ret dX10_scan_116 rfl rfl ⟨_, rfl, h⟩
            · have h := h.2 q
              refine pw_bipush (v := (-13)) dX10_scan_55 kb_m13 ?_
              exact pw_ret dX10_scan_57 rfl rfl ⟨_, rfl, h⟩
          · have h := h.2 q
            refine pw_bipush (v := (-11)) dX10_scan_43 kb_m11 ?_
            exact pw_ret dX10_scan_45 rfl rfl ⟨_, rfl, h⟩
      · have h := h.2 q
        refine pw_iconst (v := (-1)) dX10_scan_25 kc_m1 ?_
        exact pw_ret dX10_scan_26 rfl rfl ⟨_, rfl, h⟩
/-! X2_howManyRings -/
def R_X2_howManyRings_L4 (K : Int32 → pw_Mem → Prop) (KX : Int32 → Int32 → pw_Mem → Prop) : Nat → Int32 → Int32 → pw_Mem → Prop
  | 0, _, _, _ => False
  | n + 1, l1, l2, σ => (((σ 14 10) ≤ l2 → KX l1 l2 σ) ∧ (¬ (σ 14 10) ≤ l2 → vp_in l2 20 ∧ R_X10_holds (σ 14 8) (σ 19 (Int32.toNatClampNeg l2)) σ (fun x2 τ1 => ((x2 = 0 → R_X2_howManyRings_L4 K KX n l1 (l2 + 1) τ1) ∧ (¬ x2 = 0 → R_X2_howManyRings_L4 K KX n (l1 + 1) (l2 + 1) τ1)))))
def R_X2_howManyRings  (σ : pw_Mem) (K : Int32 → pw_Mem → Prop) : Prop := ∃ n6, R_X2_howManyRings_L4 K (fun y3 y4 τ5 => K y3 τ5) n6 0 0 σ
set_option maxHeartbeats 4000000 in
theorem t_X2_howManyRings_L4 {L : pw_Lay} {d : Nat} {K : Int32 → pw_Mem → Prop} {KX : Int32 → Int32 → pw_Mem → Prop} : ∀ (n : Nat) (l1 : Int32) (l2 : Int32) (σ : pw_Mem), R_X2_howManyRings_L4 K KX n l1 l2 σ → (∀ (l1 : Int32) (l2 : Int32) (τ : pw_Mem), KX l1 l2 τ → PW L (d + 1) m_X2_howManyRings (ki K) 37 [some (.ref 14), some (.int l1), some (.int l2)] [] τ) → PW L (d + 1) m_X2_howManyRings (ki K) 4 [some (.ref 14), some (.int l1), some (.int l2)] [] σ := by
  intro n
  induction n with
  | zero => intro l1 l2 _ h _; exact h.elim
  | succ n ih =>
    intro l1 l2 σ h hX
    unfold R_X2_howManyRings_L4 at h
    refine pw_iload_n (i := 2) dX2_howManyRings_4 rfl rfl ?_
    refine pw_aload_n (i := 0) dX2_howManyRings_5 rfl rfl ?_
    refine pw_getI dX2_howManyRings_6 fl_X2_68 rfl rfl ?_
    refine pw_icmp_ge (tgt := 37) dX2_howManyRings_9 rfl (fun q => ?_) (fun q => ?_)
    · have h := h.1 q
      exact hX _ _ _ h
    · have h := h.2 q
      refine pw_aload_n (i := 0) dX2_howManyRings_12 rfl rfl ?_
      refine pw_getI dX2_howManyRings_13 fl_X2_71 rfl rfl ?_
      refine pw_aload_n (i := 0) dX2_howManyRings_16 rfl rfl ?_
      refine pw_getR dX2_howManyRings_17 fl_X2_28 rfl rfl ?_
      refine pw_iload_n (i := 2) dX2_howManyRings_20 rfl rfl ?_
      obtain ⟨hb, h⟩ := h
      refine pw_iald dX2_howManyRings_21 rfl hb ?_
      refine pw_cNi [.int (σ 14 8), .int (σ 19 (Int32.toNatClampNeg l2))] dX2_howManyRings_22 mn_X2_64 rfl rfl (Nat.le_of_ble_eq_true rfl) (c_X10_holds h) (fun x2 τ1 h => ?_)
      refine pw_if_eq (tgt := 31) dX2_howManyRings_25 rfl (fun q => ?_) (fun q => ?_)
      · have h := h.1 q
        refine pw_iinc (i := 2) (v := l2 + 1) (ls' := [some (.ref 14), some (.int l1), some (.int (l2 + 1))]) dX2_howManyRings_31 rfl (by rw [kc_1]) (Nat.le_of_ble_eq_true rfl) rfl ?_
        refine pw_goto (tgt := 4) dX2_howManyRings_34 rfl ?_
        exact ih _ _ _ h hX
      · have h := h.2 q
        refine pw_iinc (i := 1) (v := l1 + 1) (ls' := [some (.ref 14), some (.int (l1 + 1)), some (.int l2)]) dX2_howManyRings_28 rfl (by rw [kc_1]) (Nat.le_of_ble_eq_true rfl) rfl ?_
        refine pw_iinc (i := 2) (v := l2 + 1) (ls' := [some (.ref 14), some (.int (l1 + 1)), some (.int (l2 + 1))]) dX2_howManyRings_31 rfl (by rw [kc_1]) (Nat.le_of_ble_eq_true rfl) rfl ?_
        refine pw_goto (tgt := 4) dX2_howManyRings_34 rfl ?_
        exact ih _ _ _ h hX
set_option maxHeartbeats 4000000 in
theorem c_X2_howManyRings {L : pw_Lay} {d : Nat}  {σ : pw_Mem} {K : Int32 → pw_Mem → Prop} (h : R_X2_howManyRings  σ K) : CT L (d + 1) m_X2_howManyRings [.ref 14] σ (ki K) := by
  refine pw_enter (by decide) rfl (Nat.le_of_ble_eq_true rfl) (ls := [some (.ref 14), none, none]) rfl ?_
  unfold R_X2_howManyRings at h
  refine pw_iconst (v := 0) dX2_howManyRings_0 kc_0 ?_
  refine pw_istore_n (i := 1) (ls' := [some (.ref 14), some (.int 0), none]) dX2_howManyRings_1 rfl (Nat.le_of_ble_eq_true rfl) rfl ?_
  refine pw_iconst (v := 0) dX2_howManyRings_2 kc_0 ?_
  refine pw_istore_n (i := 2) (ls' := [some (.ref 14), some (.int 0), some (.int 0)]) dX2_howManyRings_3 rfl (Nat.le_of_ble_eq_true rfl) rfl ?_
  obtain ⟨n6, h⟩ := h
  refine t_X2_howManyRings_L4 _ _ _ _ h (fun y3 y4 τ5 h => ?_)
  refine pw_iload_n (i := 1) dX2_howManyRings_37 rfl rfl ?_
  exact pw_ret dX2_howManyRings_38 rfl rfl ⟨_, rfl, h⟩
/-! X10_count -/
def R_X10_count (a1 : Int32) (σ : pw_Mem) (K : Int32 → pw_Mem → Prop) : Prop := (((a1 = nI 0 ∨ a1 = nI 1 ∨ a1 = nI 2 ∨ a1 = nI 3 ∨ a1 = nI 4 ∨ a1 = nI 5) ∨ ∀ c : Nat, c ≤ 5 → ¬ a1 = nI c) ∧ (a1 = nI 0 → K (σ 1 2) σ) ∧ (a1 = nI 1 → K (σ 8 1) σ) ∧ (a1 = nI 2 → K (σ 22 3) σ) ∧ (a1 = nI 3 → K (σ 26 4) σ) ∧ (a1 = nI 4 → R_X2_refresh  σ (fun τ1 => R_X2_howManyRings  τ1 (fun x3 τ2 => K x3 τ2))) ∧ (a1 = nI 5 → R_X7_isNothing_at41  σ (fun x5 τ4 => ((x5 = 0 → K (τ4 41 2) τ4) ∧ (¬ x5 = 0 → K (-4) τ4)))) ∧ ((∀ c : Nat, c ≤ 5 → ¬ a1 = nI c) → K (-1) σ))
set_option maxHeartbeats 4000000 in
theorem c_X10_count {L : pw_Lay} {d : Nat} {a1 : Int32} {σ : pw_Mem} {K : Int32 → pw_Mem → Prop} (h : R_X10_count a1 σ K) : CT L (d + 4) m_X10_count [.ref 0, .int a1] σ (ki K) := by
  refine pw_enter (by decide) rfl (Nat.le_of_ble_eq_true rfl) (ls := [some (.ref 0), some (.int a1)]) rfl ?_
  unfold R_X10_count at h
  refine pw_iload_n (i := 1) dX10_count_0 rfl rfl ?_
  have hsw := h.1
  have h := h.2
  rcases hsw with hsw | hi
  · rcases hsw with hi | hi | hi | hi | hi | hi
    · have h := h.1 hi
      refine pw_sw (tgt := 40) 0 dX10_count_1 hi (by decide) (by decide) rfl rfl ?_
      refine pw_aload_n (i := 0) dX10_count_40 rfl rfl ?_
      refine pw_getR dX10_count_41 fl_X10_10 rfl rfl ?_
      refine pw_getI dX10_count_44 fl_X10_87 rfl rfl ?_
      exact pw_ret dX10_count_47 rfl rfl ⟨_, rfl, h⟩
    · have h := h.2.1 hi
      refine pw_sw (tgt := 48) 1 dX10_count_1 hi (by decide) (by decide) rfl rfl ?_
      refine pw_aload_n (i := 0) dX10_count_48 rfl rfl ?_
      refine pw_getR dX10_count_49 fl_X10_26 rfl rfl ?_
      refine pw_getI dX10_count_52 fl_X10_120 rfl rfl ?_
      exact pw_ret dX10_count_55 rfl rfl ⟨_, rfl, h⟩
    · have h := h.2.2.1 hi
      refine pw_sw (tgt := 56) 2 dX10_count_1 hi (by decide) (by decide) rfl rfl ?_
      refine pw_aload_n (i := 0) dX10_count_56 rfl rfl ?_
      refine pw_getR dX10_count_57 fl_X10_51 rfl rfl ?_
      refine pw_getI dX10_count_60 fl_X10_199 rfl rfl ?_
      exact pw_ret dX10_count_63 rfl rfl ⟨_, rfl, h⟩
    · have h := h.2.2.2.1 hi
      refine pw_sw (tgt := 64) 3 dX10_count_1 hi (by decide) (by decide) rfl rfl ?_
      refine pw_aload_n (i := 0) dX10_count_64 rfl rfl ?_
      refine pw_getR dX10_count_65 fl_X10_58 rfl rfl ?_
      refine pw_getI dX10_count_68 fl_X10_202 rfl rfl ?_
      exact pw_ret dX10_count_71 rfl rfl ⟨_, rfl, h⟩
    · have h := h.2.2.2.2.1 hi
      refine pw_sw (tgt := 72) 4 dX10_count_1 hi (by decide) (by decide) rfl rfl ?_
      refine pw_aload_n (i := 0) dX10_count_72 rfl rfl ?_
      refine pw_getR dX10_count_73 fl_X10_35 rfl rfl ?_
      refine pw_cVv [] dX10_count_76 mv_X10_153 rfl rfl rfl (Nat.le_of_ble_eq_true rfl) (c_X2_refresh h) (fun τ1 h => ?_)
      refine pw_aload_n (i := 0) dX10_count_79 rfl rfl ?_
      refine pw_getR dX10_count_80 fl_X10_35 rfl rfl ?_
      refine pw_cVi [] dX10_count_83 mv_X10_314 rfl rfl rfl (Nat.le_of_ble_eq_true rfl) (c_X2_howManyRings h) (fun x3 τ2 h => ?_)
      exact pw_ret dX10_count_86 rfl rfl ⟨_, rfl, h⟩
    · have h := h.2.2.2.2.2.1 hi
      refine pw_sw (tgt := 87) 5 dX10_count_1 hi (by decide) (by decide) rfl rfl ?_
      refine pw_aload_n (i := 0) dX10_count_87 rfl rfl ?_
      refine pw_getR dX10_count_88 fl_X10_78 rfl rfl ?_
      refine pw_iconst (v := 0) dX10_count_91 kc_0 ?_
      refine pw_aaldS dX10_count_92 rfl vi4_0 rfl ?_
      refine pw_cVi [] dX10_count_93 mv_X10_294 rfl rfl rfl (Nat.le_of_ble_eq_true rfl) (c_X7_isNothing_at41 h) (fun x5 τ4 h => ?_)
      refine pw_if_eq (tgt := 104) dX10_count_96 rfl (fun q => ?_) (fun q => ?_)
      · have h := h.1 q
        refine pw_aload_n (i := 0) dX10_count_104 rfl rfl ?_
        refine pw_getR dX10_count_105 fl_X10_78 rfl rfl ?_
        refine pw_iconst (v := 0) dX10_count_108 kc_0 ?_
        refine pw_aaldS dX10_count_109 rfl vi4_0 rfl ?_
        refine pw_getI dX10_count_110 fl_X10_297 rfl rfl ?_
        exact pw_ret dX10_count_113 rfl rfl ⟨_, rfl, h⟩
      · have h := h.2 q
        refine pw_bipush (v := (-4)) dX10_count_99 kb_m4 ?_
        refine pw_goto (tgt := 113) dX10_count_101 rfl ?_
        exact pw_ret dX10_count_113 rfl rfl ⟨_, rfl, h⟩
  · have h := h.2.2.2.2.2.2 hi
    refine pw_swd (hi := 5) (tgt := 114) dX10_count_1 (by decide) hi rfl ?_
    refine pw_iconst (v := (-1)) dX10_count_114 kc_m1 ?_
    exact pw_ret dX10_count_115 rfl rfl ⟨_, rfl, h⟩
