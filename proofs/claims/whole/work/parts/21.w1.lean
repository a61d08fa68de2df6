/-! X1_depthOfRing -/
def R_X1_depthOfRing_L7 (K : Int32 → pw_Mem → Prop) (KX : Int32 → Int32 → Int32 → Int32 → pw_Mem → Prop) : Nat → Int32 → Int32 → Int32 → Int32 → pw_Mem → Prop
  | 0, _, _, _, _, _ => False
  | n + 1, l1, l2, l3, l4, σ => (((σ 1 2) ≤ l4 → KX l1 l2 l3 l4 σ) ∧ (¬ (σ 1 2) ≤ l4 → R_X10_holds l1 l4 σ (fun x2 τ1 => ((x2 = 0 → R_X1_depthOfRing_L7 K KX n l1 l2 l3 (l4 + 1) τ1) ∧ (¬ x2 = 0 → vp_in l4 20 ∧ ((¬ (τ1 3 (Int32.toNatClampNeg l4)) = 0 → R_X1_frameOf l4 τ1 (fun x4 τ3 => vp_in l4 20 ∧ vp_in l4 20 ∧ vp_in l4 20 ∧ R_X1_greatestOf (((τ3 15 (Int32.toNatClampNeg l4)) ||| (τ3 16 (Int32.toNatClampNeg l4))) &&& (l1 ^^^ (-1))) τ3 (fun x6 τ5 => R_X10_greater l3 x6 τ5 (fun x8 τ7 => R_X1_depthOfRing_L7 K KX n l1 (l2 + (x4 * (τ3 3 (Int32.toNatClampNeg l4)))) x8 (l4 + 1) τ7)))) ∧ ((τ1 3 (Int32.toNatClampNeg l4)) = 0 → K (-5) τ1)))))))
def R_X1_depthOfRing (a1 : Int32) (σ : pw_Mem) (K : Int32 → pw_Mem → Prop) : Prop := ∃ n16, R_X1_depthOfRing_L7 K (fun y9 y10 y11 y12 τ13 => R_X10_plus y10 y11 τ13 (fun x15 τ14 => K x15 τ14)) n16 a1 0 0 0 σ
set_option maxHeartbeats 4000000 in
theorem t_X1_depthOfRing_L7 {L : pw_Lay} {d : Nat} {K : Int32 → pw_Mem → Prop} {KX : Int32 → Int32 → Int32 → Int32 → pw_Mem → Prop} : ∀ (n : Nat) (l1 : Int32) (l2 : Int32) (l3 : Int32) (l4 : Int32) (σ : pw_Mem), R_X1_depthOfRing_L7 K KX n l1 l2 l3 l4 σ → (∀ (l1 : Int32) (l2 : Int32) (l3 : Int32) (l4 : Int32) (τ : pw_Mem), KX l1 l2 l3 l4 τ → PW L (d + 2) m_X1_depthOfRing (ki K) 104 [some (.ref 20), some (.int l1), some (.int l2), some (.int l3), some (.int l4)] [] τ) → PW L (d + 2) m_X1_depthOfRing (ki K) 7 [some (.ref 20), some (.int l1), some (.int l2), some (.int l3), some (.int l4)] [] σ := by
  intro n
  induction n with
  | zero => intro l1 l2 l3 l4 _ h _; exact h.elim
  | succ n ih =>
    intro l1 l2 l3 l4 σ h hX
    unfold R_X1_depthOfRing_L7 at h
    refine pw_iload dX1_depthOfRing_7 rfl ?_
    refine pw_aload_n (i := 0) dX1_depthOfRing_9 rfl rfl ?_
    refine pw_getR dX1_depthOfRing_10 fl_X1_19 rfl rfl ?_
    refine pw_getI dX1_depthOfRing_13 fl_X1_78 rfl rfl ?_
    refine pw_icmp_ge (tgt := 104) dX1_depthOfRing_16 rfl (fun q => ?_) (fun q => ?_)
    · have h := h.1 q
      exact hX _ _ _ _ _ h
    · have h := h.2 q
      refine pw_iload_n (i := 1) dX1_depthOfRing_19 rfl rfl ?_
      refine pw_iload dX1_depthOfRing_20 rfl ?_
      refine pw_cNi [.int l1, .int l4] dX1_depthOfRing_22 mn_X1_44 rfl rfl (Nat.le_of_ble_eq_true rfl) (c_X10_holds h) (fun x2 τ1 h => ?_)
      refine pw_if_eq (tgt := 98) dX1_depthOfRing_25 rfl (fun q => ?_) (fun q => ?_)
      · have h := h.1 q
        refine pw_iinc (i := 4) (v := l4 + 1) (ls' := [some (.ref 20), some (.int l1), some (.int l2), some (.int l3), some (.int (l4 + 1))]) dX1_depthOfRing_98 rfl (by rw [kc_1]) (Nat.le_of_ble_eq_true rfl) rfl ?_
        refine pw_goto (tgt := 7) dX1_depthOfRing_101 rfl ?_
        exact ih _ _ _ _ _ h hX
      · have h := h.2 q
        refine pw_aload_n (i := 0) dX1_depthOfRing_28 rfl rfl ?_
        refine pw_getR dX1_depthOfRing_29 fl_X1_19 rfl rfl ?_
        refine pw_getR dX1_depthOfRing_32 fl_X1_83 rfl rfl ?_
        refine pw_iload dX1_depthOfRing_35 rfl ?_
        obtain ⟨hb, h⟩ := h
        refine pw_iald dX1_depthOfRing_37 rfl hb ?_
        refine pw_if_ne (tgt := 44) dX1_depthOfRing_38 rfl (fun q => ?_) (fun q => ?_)
        · have h := h.1 q
          refine pw_iload_n (i := 2) dX1_depthOfRing_44 rfl rfl ?_
          refine pw_aload_n (i := 0) dX1_depthOfRing_45 rfl rfl ?_
          refine pw_iload dX1_depthOfRing_46 rfl ?_
          refine pw_cVi [.int l4] dX1_depthOfRing_48 mv_X1_69 rfl rfl rfl (Nat.le_of_ble_eq_true rfl) (c_X1_frameOf h) (fun x4 τ3 h => ?_)
          refine pw_aload_n (i := 0) dX1_depthOfRing_51 rfl rfl ?_
          refine pw_getR dX1_depthOfRing_52 fl_X1_19 rfl rfl ?_
          refine pw_getR dX1_depthOfRing_55 fl_X1_83 rfl rfl ?_
          refine pw_iload dX1_depthOfRing_58 rfl ?_
          obtain ⟨hb, h⟩ := h
          refine pw_iald dX1_depthOfRing_60 rfl hb ?_
          refine pw_imul dX1_depthOfRing_61 ?_
          refine pw_iadd dX1_depthOfRing_62 ?_
          refine pw_istore_n (i := 2) (ls' := [some (.ref 20), some (.int l1), some (.int (l2 + (x4 * (τ3 3 (Int32.toNatClampNeg l4))))), some (.int l3), some (.int l4)]) dX1_depthOfRing_63 rfl (Nat.le_of_ble_eq_true rfl) rfl ?_
          refine pw_iload_n (i := 3) dX1_depthOfRing_64 rfl rfl ?_
          refine pw_aload_n (i := 0) dX1_depthOfRing_65 rfl rfl ?_
          refine pw_aload_n (i := 0) dX1_depthOfRing_66 rfl rfl ?_
          refine pw_getR dX1_depthOfRing_67 fl_X1_23 rfl rfl ?_
          refine pw_getR dX1_depthOfRing_70 fl_X1_66 rfl rfl ?_
          refine pw_iload dX1_depthOfRing_73 rfl ?_
          obtain ⟨hb, h⟩ := h
          refine pw_iald dX1_depthOfRing_75 rfl hb ?_
          refine pw_aload_n (i := 0) dX1_depthOfRing_76 rfl rfl ?_
          refine pw_getR dX1_depthOfRing_77 fl_X1_23 rfl rfl ?_
          refine pw_getR dX1_depthOfRing_80 fl_X1_75 rfl rfl ?_
          refine pw_iload dX1_depthOfRing_83 rfl ?_
          obtain ⟨hb, h⟩ := h
          refine pw_iald dX1_depthOfRing_85 rfl hb ?_
          refine pw_ior dX1_depthOfRing_86 ?_
          refine pw_iload_n (i := 1) dX1_depthOfRing_87 rfl rfl ?_
          refine pw_iconst (v := (-1)) dX1_depthOfRing_88 kc_m1 ?_
          refine pw_ixor dX1_depthOfRing_89 ?_
          refine pw_iand dX1_depthOfRing_90 ?_
          refine pw_cVi [.int (((τ3 15 (Int32.toNatClampNeg l4)) ||| (τ3 16 (Int32.toNatClampNeg l4))) &&& (l1 ^^^ (-1)))] dX1_depthOfRing_91 mv_X1_86 rfl rfl rfl (Nat.le_of_ble_eq_true rfl) (c_X1_greatestOf h) (fun x6 τ5 h => ?_)
          refine pw_cNi [.int l3, .int x6] dX1_depthOfRing_94 mn_X1_89 rfl rfl (Nat.le_of_ble_eq_true rfl) (c_X10_greater h) (fun x8 τ7 h => ?_)
          refine pw_istore_n (i := 3) (ls' := [some (.ref 20), some (.int l1), some (.int (l2 + (x4 * (τ3 3 (Int32.toNatClampNeg l4))))), some (.int x8), some (.int l4)]) dX1_depthOfRing_97 rfl (Nat.le_of_ble_eq_true rfl) rfl ?_
          refine pw_iinc (i := 4) (v := l4 + 1) (ls' := [some (.ref 20), some (.int l1), some (.int (l2 + (x4 * (τ3 3 (Int32.toNatClampNeg l4))))), some (.int x8), some (.int (l4 + 1))]) dX1_depthOfRing_98 rfl (by rw [kc_1]) (Nat.le_of_ble_eq_true rfl) rfl ?_
          refine pw_goto (tgt := 7) dX1_depthOfRing_101 rfl ?_
          exact ih _ _ _ _ _ h hX
        · have h := h.2 q
          refine pw_bipush (v := (-5)) dX1_depthOfRing_41 kb_m5 ?_
          exact pw_ret dX1_depthOfRing_43 rfl rfl ⟨_, rfl, h⟩
set_option maxHeartbeats 4000000 in
theorem c_X1_depthOfRing {L : pw_Lay} {d : Nat} {a1 : Int32} {σ : pw_Mem} {K : Int32 → pw_Mem → Prop} (h : R_X1_depthOfRing a1 σ K) : CT L (d + 2) m_X1_depthOfRing [.ref 20, .int a1] σ (ki K) := by
  refine pw_enter (by decide) rfl (Nat.le_of_ble_eq_true rfl) (ls := [some (.ref 20), some (.int a1), none, none, none]) rfl ?_
  unfold R_X1_depthOfRing at h
  refine pw_iconst (v := 0) dX1_depthOfRing_0 kc_0 ?_
  refine pw_istore_n (i := 2) (ls' := [some (.ref 20), some (.int a1), some (.int 0), none, none]) dX1_depthOfRing_1 rfl (Nat.le_of_ble_eq_true rfl) rfl ?_
  refine pw_iconst (v := 0) dX1_depthOfRing_2 kc_0 ?_
  refine pw_istore_n (i := 3) (ls' := [some (.ref 20), some (.int a1), some (.int 0), some (.int 0), none]) dX1_depthOfRing_3 rfl (Nat.le_of_ble_eq_true rfl) rfl ?_
  refine pw_iconst (v := 0) dX1_depthOfRing_4 kc_0 ?_
  refine pw_istore (i := 4) (ls' := [some (.ref 20), some (.int a1), some (.int 0), some (.int 0), some (.int 0)]) dX1_depthOfRing_5 (Nat.le_of_ble_eq_true rfl) rfl ?_
  obtain ⟨n16, h⟩ := h
  refine t_X1_depthOfRing_L7 _ _ _ _ _ _ h (fun y9 y10 y11 y12 τ13 h => ?_)
  refine pw_iload_n (i := 2) dX1_depthOfRing_104 rfl rfl ?_
  refine pw_iload_n (i := 3) dX1_depthOfRing_105 rfl rfl ?_
  refine pw_cNi [.int y10, .int y11] dX1_depthOfRing_106 mn_X1_92 rfl rfl (Nat.le_of_ble_eq_true rfl) (c_X10_plus h) (fun x15 τ14 h => ?_)
  exact pw_ret dX1_depthOfRing_109 rfl rfl ⟨_, rfl, h⟩
/-! X1_measure -/
def R_X1_measure_L14 (K : pw_Mem → Prop) (KX : Int32 → Int32 → pw_Mem → Prop) : Nat → Int32 → Int32 → pw_Mem → Prop
  | 0, _, _, _ => False
  | n + 1, l1, l2, σ => (((σ 14 10) ≤ l2 → KX l1 l2 σ) ∧ (¬ (σ 14 10) ≤ l2 → vp_in l2 20 ∧ vp_in (σ 19 (Int32.toNatClampNeg l2)) 20 ∧ R_X10_holds (σ 14 8) (σ 19 (Int32.toNatClampNeg l2)) σ (fun x4 τ3 => ((x4 = 0 → R_X1_depthOfTails (σ 18 (Int32.toNatClampNeg (σ 19 (Int32.toNatClampNeg l2)))) τ3 (fun x6 τ5 => R_X1_spread (σ 18 (Int32.toNatClampNeg (σ 19 (Int32.toNatClampNeg l2)))) x6 τ5 (fun τ7 => R_X1_measure_L14 K KX n l1 (l2 + 1) τ7))) ∧ (¬ x4 = 0 → R_X1_depthOfRing (σ 18 (Int32.toNatClampNeg (σ 19 (Int32.toNatClampNeg l2)))) τ3 (fun x9 τ8 => R_X1_spread (σ 18 (Int32.toNatClampNeg (σ 19 (Int32.toNatClampNeg l2)))) x9 τ8 (fun τ10 => R_X1_measure_L14 K KX n l1 (l2 + 1) τ10)))))))
def R_X1_measure (a1 : Int32) (σ : pw_Mem) (K : pw_Mem → Prop) : Prop := R_X2_refresh  σ (fun τ1 => ∀ τ2, τ2 = pw_up τ1 20 2 a1 → ∃ n14, R_X1_measure_L14 K (fun y11 y12 τ13 => K τ13) n14 a1 0 τ2)
set_option maxHeartbeats 4000000 in
theorem t_X1_measure_L14 {L : pw_Lay} {d : Nat} {K : pw_Mem → Prop} {KX : Int32 → Int32 → pw_Mem → Prop} : ∀ (n : Nat) (l1 : Int32) (l2 : Int32) (σ : pw_Mem), R_X1_measure_L14 K KX n l1 l2 σ → (∀ (l1 : Int32) (l2 : Int32) (τ : pw_Mem), KX l1 l2 τ → PW L (d + 4) m_X1_measure (kv K) 87 [some (.ref 20), some (.int l1), some (.int l2), none, none] [] τ) → PW L (d + 4) m_X1_measure (kv K) 14 [some (.ref 20), some (.int l1), some (.int l2), none, none] [] σ := by
  intro n
  induction n with
  | zero => intro l1 l2 _ h _; exact h.elim
  | succ n ih =>
    intro l1 l2 σ h hX
    unfold R_X1_measure_L14 at h
    refine pw_iload_n (i := 2) dX1_measure_14 rfl rfl ?_
    refine pw_aload_n (i := 0) dX1_measure_15 rfl rfl ?_
    refine pw_getR dX1_measure_16 fl_X1_23 rfl rfl ?_
    refine pw_getI dX1_measure_19 fl_X1_32 rfl rfl ?_
    refine pw_icmp_ge (tgt := 87) dX1_measure_22 rfl (fun q => ?_) (fun q => ?_)
    · have h := h.1 q
      exact hX _ _ _ h
    · have h := h.2 q
      refine pw_aload_n (i := 0) dX1_measure_25 rfl rfl ?_
      refine pw_getR dX1_measure_26 fl_X1_23 rfl rfl ?_
      refine pw_getR dX1_measure_29 fl_X1_35 rfl rfl ?_
      refine pw_iload_n (i := 2) dX1_measure_32 rfl rfl ?_
      obtain ⟨hb, h⟩ := h
      refine pw_iald dX1_measure_33 rfl hb ?_
      refine pw_istore_n (i := 3) (ls' := [some (.ref 20), some (.int l1), some (.int l2), some (.int (σ 19 (Int32.toNatClampNeg l2))), none]) dX1_measure_34 rfl (Nat.le_of_ble_eq_true rfl) rfl ?_
      refine pw_aload_n (i := 0) dX1_measure_35 rfl rfl ?_
      refine pw_getR dX1_measure_36 fl_X1_23 rfl rfl ?_
      refine pw_getR dX1_measure_39 fl_X1_38 rfl rfl ?_
      refine pw_iload_n (i := 3) dX1_measure_42 rfl rfl ?_
      obtain ⟨hb, h⟩ := h
      refine pw_iald dX1_measure_43 rfl hb ?_
      refine pw_istore (i := 4) (ls' := [some (.ref 20), some (.int l1), some (.int l2), some (.int (σ 19 (Int32.toNatClampNeg l2))), some (.int (σ 18 (Int32.toNatClampNeg (σ 19 (Int32.toNatClampNeg l2)))))]) dX1_measure_44 (Nat.le_of_ble_eq_true rfl) rfl ?_
      refine pw_aload_n (i := 0) dX1_measure_46 rfl rfl ?_
      refine pw_iload dX1_measure_47 rfl ?_
      refine pw_aload_n (i := 0) dX1_measure_49 rfl rfl ?_
      refine pw_getR dX1_measure_50 fl_X1_23 rfl rfl ?_
      refine pw_getI dX1_measure_53 fl_X1_41 rfl rfl ?_
      refine pw_iload_n (i := 3) dX1_measure_56 rfl rfl ?_
      refine pw_cNi [.int (σ 14 8), .int (σ 19 (Int32.toNatClampNeg l2))] dX1_measure_57 mn_X1_44 rfl rfl (Nat.le_of_ble_eq_true rfl) (c_X10_holds h) (fun x4 τ3 h => ?_)
      refine pw_if_eq (tgt := 72) dX1_measure_60 rfl (fun q => ?_) (fun q => ?_)
      · have h := h.1 q
        refine pw_aload_n (i := 0) dX1_measure_72 rfl rfl ?_
        refine pw_iload dX1_measure_73 rfl ?_
        refine pw_cVi [.int (σ 18 (Int32.toNatClampNeg (σ 19 (Int32.toNatClampNeg l2))))] dX1_measure_75 mv_X1_52 rfl rfl rfl (Nat.le_of_ble_eq_true rfl) (c_X1_depthOfTails h) (fun x6 τ5 h => ?_)
        refine pw_cVv [.int (σ 18 (Int32.toNatClampNeg (σ 19 (Int32.toNatClampNeg l2)))), .int x6] dX1_measure_78 mv_X1_55 rfl rfl rfl (Nat.le_of_ble_eq_true rfl) (c_X1_spread h) (fun τ7 h => ?_)
        refine pw_iinc (i := 2) (v := l2 + 1) (ls' := [some (.ref 20), some (.int l1), some (.int (l2 + 1)), some (.int (σ 19 (Int32.toNatClampNeg l2))), some (.int (σ 18 (Int32.toNatClampNeg (σ 19 (Int32.toNatClampNeg l2)))))]) dX1_measure_81 rfl (by rw [kc_1]) (Nat.le_of_ble_eq_true rfl) rfl ?_
        refine pw_goto (tgt := 14) dX1_measure_84 rfl ?_
        refine pw_forget (ls' := [some (.ref 20), some (.int l1), some (.int (l2 + 1)), none, none]) (And.intro rfl (And.intro rfl (And.intro rfl trivial))) ?_
        exact ih _ _ _ h hX
      · have h := h.2 q
        refine pw_aload_n (i := 0) dX1_measure_63 rfl rfl ?_
        refine pw_iload dX1_measure_64 rfl ?_
        refine pw_cVi [.int (σ 18 (Int32.toNatClampNeg (σ 19 (Int32.toNatClampNeg l2))))] dX1_measure_66 mv_X1_48 rfl rfl rfl (Nat.le_of_ble_eq_true rfl) (c_X1_depthOfRing h) (fun x9 τ8 h => ?_)
        refine pw_goto (tgt := 78) dX1_measure_69 rfl ?_
        refine pw_cVv [.int (σ 18 (Int32.toNatClampNeg (σ 19 (Int32.toNatClampNeg l2)))), .int x9] dX1_measure_78 mv_X1_55 rfl rfl rfl (Nat.le_of_ble_eq_true rfl) (c_X1_spread h) (fun τ10 h => ?_)
        refine pw_iinc (i := 2) (v := l2 + 1) (ls' := [some (.ref 20), some (.int l1), some (.int (l2 + 1)), some (.int (σ 19 (Int32.toNatClampNeg l2))), some (.int (σ 18 (Int32.toNatClampNeg (σ 19 (Int32.toNatClampNeg l2)))))]) dX1_measure_81 rfl (by rw [kc_1]) (Nat.le_of_ble_eq_true rfl) rfl ?_
        refine pw_goto (tgt := 14) dX1_measure_84 rfl ?_
        refine pw_forget (ls' := [some (.ref 20), some (.int l1), some (.int (l2 + 1)), none, none]) (And.intro rfl (And.intro rfl (And.intro rfl trivial))) ?_
        exact ih _ _ _ h hX
set_option maxHeartbeats 4000000 in
theorem c_X1_measure {L : pw_Lay} {d : Nat} {a1 : Int32} {σ : pw_Mem} {K : pw_Mem → Prop} (h : R_X1_measure a1 σ K) : CT L (d + 4) m_X1_measure [.ref 20, .int a1] σ (kv K) := by
  refine pw_enter (by decide) rfl (Nat.le_of_ble_eq_true rfl) (ls := [some (.ref 20), some (.int a1), none, none, none]) rfl ?_
  unfold R_X1_measure at h
  refine pw_aload_n (i := 0) dX1_measure_0 rfl rfl ?_
  refine pw_getR dX1_measure_1 fl_X1_23 rfl rfl ?_
  refine pw_cVv [] dX1_measure_4 mv_X1_27 rfl rfl rfl (Nat.le_of_ble_eq_true rfl) (c_X2_refresh h) (fun τ1 h => ?_)
  refine pw_aload_n (i := 0) dX1_measure_7 rfl rfl ?_
  refine pw_iload_n (i := 1) dX1_measure_8 rfl rfl ?_
  refine pw_put dX1_measure_9 fp_X1_9 rfl rfl rfl rfl ?_
  generalize hτ2 : pw_up τ1 20 2 a1 = τ2
  have h := h τ2 hτ2.symm
  refine pw_iconst (v := 0) dX1_measure_12 kc_0 ?_
  refine pw_istore_n (i := 2) (ls' := [some (.ref 20), some (.int a1), some (.int 0), none, none]) dX1_measure_13 rfl (Nat.le_of_ble_eq_true rfl) rfl ?_
  obtain ⟨n14, h⟩ := h
  refine t_X1_measure_L14 _ _ _ _ h (fun y11 y12 τ13 h => ?_)
  exact pw_vret dX1_measure_87 rfl ⟨rfl, h⟩
/-! X10_depth -/
def R_X10_depth (a1 : Int32) (σ : pw_Mem) (K : Int32 → pw_Mem → Prop) : Prop := R_X10_isRoutine a1 σ (fun x2 τ1 => ((¬ x2 = 0 → R_X1_measure (-1) τ1 (fun τ3 => vp_in a1 20 ∧ K (τ3 21 (Int32.toNatClampNeg a1)) τ3)) ∧ (x2 = 0 → K (-1) τ1)))
set_option maxHeartbeats 4000000 in
theorem c_X10_depth {L : pw_Lay} {d : Nat} {a1 : Int32} {σ : pw_Mem} {K : Int32 → pw_Mem → Prop} (h : R_X10_depth a1 σ K) : CT L (d + 5) m_X10_depth [.ref 0, .int a1] σ (ki K) := by
  refine pw_enter (by decide) rfl (Nat.le_of_ble_eq_true rfl) (ls := [some (.ref 0), some (.int a1)]) rfl ?_
  unfold R_X10_depth at h
  refine pw_aload_n (i := 0) dX10_depth_0 rfl rfl ?_
  refine pw_iload_n (i := 1) dX10_depth_1 rfl rfl ?_
  refine pw_cVi [.int a1] dX10_depth_2 mv_X10_98 rfl rfl rfl (Nat.le_of_ble_eq_true rfl) (c_X10_isRoutine h) (fun x2 τ1 h => ?_)
  refine pw_if_ne (tgt := 10) dX10_depth_5 rfl (fun q => ?_) (fun q => ?_)
  · have h := h.1 q
    refine pw_aload_n (i := 0) dX10_depth_10 rfl rfl ?_
    refine pw_getR dX10_depth_11 fl_X10_44 rfl rfl ?_
    refine pw_iconst (v := (-1)) dX10_depth_14 kc_m1 ?_
    refine pw_cVv [.int (-1)] dX10_depth_15 mv_X10_176 rfl rfl rfl (Nat.le_of_ble_eq_true rfl) (c_X1_measure h) (fun τ3 h => ?_)
    refine pw_aload_n (i := 0) dX10_depth_18 rfl rfl ?_
    refine pw_getR dX10_depth_19 fl_X10_44 rfl rfl ?_
    refine pw_getR dX10_depth_22 fl_X10_180 rfl rfl ?_
    refine pw_iload_n (i := 1) dX10_depth_25 rfl rfl ?_
    obtain ⟨hb, h⟩ := h
    refine pw_iald dX10_depth_26 rfl hb ?_
    exact pw_ret dX10_depth_27 rfl rfl ⟨_, rfl, h⟩
  · have h := h.2 q
    refine pw_iconst (v := (-1)) dX10_depth_8 kc_m1 ?_
    exact pw_ret dX10_depth_9 rfl rfl ⟨_, rfl, h⟩
/-! X1_leastThatHas -/
def R_X1_leastThatHas_L2 (K : Int32 → pw_Mem → Prop) (KX : Int32 → Int32 → Int32 → pw_Mem → Prop) : Nat → Int32 → Int32 → Int32 → pw_Mem → Prop
  | 0, _, _, _, _ => False
  | n + 1, l1, l2, l3, σ => (((σ 1 2) ≤ l3 → KX l1 l2 l3 σ) ∧ (¬ (σ 1 2) ≤ l3 → R_X10_holds l1 l3 σ (fun x2 τ1 => ((x2 = 0 → R_X1_leastThatHas_L2 K KX n l1 l2 (l3 + 1) τ1) ∧ (¬ x2 = 0 → vp_in l3 20 ∧ ((¬ (τ1 21 (Int32.toNatClampNeg l3)) = l2 → R_X1_leastThatHas_L2 K KX n l1 l2 (l3 + 1) τ1) ∧ ((τ1 21 (Int32.toNatClampNeg l3)) = l2 → K l3 τ1)))))))
def R_X1_leastThatHas (a1 : Int32) (a2 : Int32) (σ : pw_Mem) (K : Int32 → pw_Mem → Prop) : Prop := ∃ n7, R_X1_leastThatHas_L2 K (fun y3 y4 y5 τ6 => K (-4) τ6) n7 a1 a2 0 σ
set_option maxHeartbeats 4000000 in
theorem t_X1_leastThatHas_L2 {L : pw_Lay} {d : Nat} {K : Int32 → pw_Mem → Prop} {KX : Int32 → Int32 → Int32 → pw_Mem → Prop} : ∀ (n : Nat) (l1 : Int32) (l2 : Int32) (l3 : Int32) (σ : pw_Mem), R_X1_leastThatHas_L2 K KX n l1 l2 l3 σ → (∀ (l1 : Int32) (l2 : Int32) (l3 : Int32) (τ : pw_Mem), KX l1 l2 l3 τ → PW L (d + 1) m_X1_leastThatHas (ki K) 39 [some (.ref 20), some (.int l1), some (.int l2), some (.int l3)] [] τ) → PW L (d + 1) m_X1_leastThatHas (ki K) 2 [some (.ref 20), some (.int l1), some (.int l2), some (.int l3)] [] σ := by
  intro n
  induction n with
  | zero => intro l1 l2 l3 _ h _; exact h.elim
  | succ n ih =>
    intro l1 l2 l3 σ h hX
    unfold R_X1_leastThatHas_L2 at h
    refine pw_iload_n (i := 3) dX1_leastThatHas_2 rfl rfl ?_
    refine pw_aload_n (i := 0) dX1_leastThatHas_3 rfl rfl ?_
    refine pw_getR dX1_leastThatHas_4 fl_X1_19 rfl rfl ?_
    refine pw_getI dX1_leastThatHas_7 fl_X1_78 rfl rfl ?_
    refine pw_icmp_ge (tgt := 39) dX1_leastThatHas_10 rfl (fun q => ?_) (fun q => ?_)
    · have h := h.1 q
      exact hX _ _ _ _ h
    · have h := h.2 q
      refine pw_iload_n (i := 1) dX1_leastThatHas_13 rfl rfl ?_
      refine pw_iload_n (i := 3) dX1_leastThatHas_14 rfl rfl ?_
      refine pw_cNi [.int l1, .int l3] dX1_leastThatHas_15 mn_X1_44 rfl rfl (Nat.le_of_ble_eq_true rfl) (c_X10_holds h) (fun x2 τ1 h => ?_)
      refine pw_if_eq (tgt := 33) dX1_leastThatHas_18 rfl (fun q => ?_) (fun q => ?_)
      · have h := h.1 q
        refine pw_iinc (i := 3) (v := l3 + 1) (ls' := [some (.ref 20), some (.int l1), some (.int l2), some (.int (l3 + 1))]) dX1_leastThatHas_33 rfl (by rw [kc_1]) (Nat.le_of_ble_eq_true rfl) rfl ?_
        refine pw_goto (tgt := 2) dX1_leastThatHas_36 rfl ?_
        exact ih _ _ _ _ h hX
      · have h := h.2 q
        refine pw_aload_n (i := 0) dX1_leastThatHas_21 rfl rfl ?_
        refine pw_getR dX1_leastThatHas_22 fl_X1_15 rfl rfl ?_
        refine pw_iload_n (i := 3) dX1_leastThatHas_25 rfl rfl ?_
        obtain ⟨hb, h⟩ := h
        refine pw_iald dX1_leastThatHas_26 rfl hb ?_
        refine pw_iload_n (i := 2) dX1_leastThatHas_27 rfl rfl ?_
        refine pw_icmp_ne (tgt := 33) dX1_leastThatHas_28 rfl (fun q => ?_) (fun q => ?_)
        · have h := h.1 q
          refine pw_iinc (i := 3) (v := l3 + 1) (ls' := [some (.ref 20), some (.int l1), some (.int l2), some (.int (l3 + 1))]) dX1_leastThatHas_33 rfl (by rw [kc_1]) (Nat.le_of_ble_eq_true rfl) rfl ?_
          refine pw_goto (tgt := 2) dX1_leastThatHas_36 rfl ?_
          exact ih _ _ _ _ h hX
        · have h := h.2 q
          refine pw_iload_n (i := 3) dX1_leastThatHas_31 rfl rfl ?_
          exact pw_ret dX1_leastThatHas_32 rfl rfl ⟨_, rfl, h⟩
set_option maxHeartbeats 4000000 in
theorem c_X1_leastThatHas {L : pw_Lay} {d : Nat} {a1 : Int32} {a2 : Int32} {σ : pw_Mem} {K : Int32 → pw_Mem → Prop} (h : R_X1_leastThatHas a1 a2 σ K) : CT L (d + 1) m_X1_leastThatHas [.ref 20, .int a1, .int a2] σ (ki K) := by
  refine pw_enter (by decide) rfl (Nat.le_of_ble_eq_true rfl) (ls := [some (.ref 20), some (.int a1), some (.int a2), none]) rfl ?_
  unfold R_X1_leastThatHas at h
  refine pw_iconst (v := 0) dX1_leastThatHas_0 kc_0 ?_
  refine pw_istore_n (i := 3) (ls' := [some (.ref 20), some (.int a1), some (.int a2), some (.int 0)]) dX1_leastThatHas_1 rfl (Nat.le_of_ble_eq_true rfl) rfl ?_
  obtain ⟨n7, h⟩ := h
  refine t_X1_leastThatHas_L2 _ _ _ _ _ h (fun y3 y4 y5 τ6 h => ?_)
  refine pw_bipush (v := (-4)) dX1_leastThatHas_39 kb_m4 ?_
  exact pw_ret dX1_leastThatHas_41 rfl rfl ⟨_, rfl, h⟩
/-! X1_leastThatTells -/
def R_X1_leastThatTells_L2 (K : Int32 → pw_Mem → Prop) (KX : Int32 → Int32 → Int32 → pw_Mem → Prop) : Nat → Int32 → Int32 → Int32 → pw_Mem → Prop
  | 0, _, _, _, _ => False
  | n + 1, l1, l2, l3, σ => (((σ 1 2) ≤ l3 → KX l1 l2 l3 σ) ∧ (¬ (σ 1 2) ≤ l3 → R_X10_holds l1 l3 σ (fun x2 τ1 => ((x2 = 0 → R_X1_leastThatTells_L2 K KX n l1 l2 (l3 + 1) τ1) ∧ (¬ x2 = 0 → R_X1_depthOfItself l3 τ1 (fun x4 τ3 => ((¬ x4 = l2 → R_X1_leastThatTells_L2 K KX n l1 l2 (l3 + 1) τ3) ∧ (x4 = l2 → K l3 τ3))))))))
def R_X1_leastThatTells (a1 : Int32) (a2 : Int32) (σ : pw_Mem) (K : Int32 → pw_Mem → Prop) : Prop := ∃ n9, R_X1_leastThatTells_L2 K (fun y5 y6 y7 τ8 => K (-4) τ8) n9 a1 a2 0 σ
set_option maxHeartbeats 4000000 in
theorem t_X1_leastThatTells_L2 {L : pw_Lay} {d : Nat} {K : Int32 → pw_Mem → Prop} {KX : Int32 → Int32 → Int32 → pw_Mem → Prop} : ∀ (n : Nat) (l1 : Int32) (l2 : Int32) (l3 : Int32) (σ : pw_Mem), R_X1_leastThatTells_L2 K KX n l1 l2 l3 σ → (∀ (l1 : Int32) (l2 : Int32) (l3 : Int32) (τ : pw_Mem), KX l1 l2 l3 τ → PW L (d + 3) m_X1_leastThatTells (ki K) 38 [some (.ref 20), some (.int l1), some (.int l2), some (.int l3)] [] τ) → PW L (d + 3) m_X1_leastThatTells (ki K) 2 [some (.ref 20), some (.int l1), some (.int l2), some (.int l3)] [] σ := by
  intro n
  induction n with
  | zero => intro l1 l2 l3 _ h _; exact h.elim
  | succ n ih =>
    intro l1 l2 l3 σ h hX
    unfold R_X1_leastThatTells_L2 at h
    refine pw_iload_n (i := 3) dX1_leastThatTells_2 rfl rfl ?_
    refine pw_aload_n (i := 0) dX1_leastThatTells_3 rfl rfl ?_
    refine pw_getR dX1_leastThatTells_4 fl_X1_19 rfl rfl ?_
    refine pw_getI dX1_leastThatTells_7 fl_X1_78 rfl rfl ?_
    refine pw_icmp_ge (tgt := 38) dX1_leastThatTells_10 rfl (fun q => ?_) (fun q => ?_)
    · have h := h.1 q
      exact hX _ _ _ _ h
    · have h := h.2 q
      refine pw_iload_n (i := 1) dX1_leastThatTells_13 rfl rfl ?_
      refine pw_iload_n (i := 3) dX1_leastThatTells_14 rfl rfl ?_
      refine pw_cNi [.int l1, .int l3] dX1_leastThatTells_15 mn_X1_44 rfl rfl (Nat.le_of_ble_eq_true rfl) (c_X10_holds h) (fun x2 τ1 h => ?_)
      refine pw_if_eq (tgt := 32) dX1_leastThatTells_18 rfl (fun q => ?_) (fun q => ?_)
      · have h := h.1 q
        refine pw_iinc (i := 3) (v := l3 + 1) (ls' := [some (.ref 20), some (.int l1), some (.int l2), some (.int (l3 + 1))]) dX1_leastThatTells_32 rfl (by rw [kc_1]) (Nat.le_of_ble_eq_true rfl) rfl ?_
        refine pw_goto (tgt := 2) dX1_leastThatTells_35 rfl ?_
        exact ih _ _ _ _ h hX
      · have h := h.2 q
        refine pw_aload_n (i := 0) dX1_leastThatTells_21 rfl rfl ?_
        refine pw_iload_n (i := 3) dX1_leastThatTells_22 rfl rfl ?_
        refine pw_cVi [.int l3] dX1_leastThatTells_23 mv_X1_59 rfl rfl rfl (Nat.le_of_ble_eq_true rfl) (c_X1_depthOfItself h) (fun x4 τ3 h => ?_)
        refine pw_iload_n (i := 2) dX1_leastThatTells_26 rfl rfl ?_
        refine pw_icmp_ne (tgt := 32) dX1_leastThatTells_27 rfl (fun q => ?_) (fun q => ?_)
        · have h := h.1 q
          refine pw_iinc (i := 3) (v := l3 + 1) (ls' := [some (.ref 20), some (.int l1), some (.int l2), some (.int (l3 + 1))]) dX1_leastThatTells_32 rfl (by rw [kc_1]) (Nat.le_of_ble_eq_true rfl) rfl ?_
          refine pw_goto (tgt := 2) dX1_leastThatTells_35 rfl ?_
          exact ih _ _ _ _ h hX
        · have h := h.2 q
          refine pw_iload_n (i := 3) dX1_leastThatTells_30 rfl rfl ?_
          exact pw_ret dX1_leastThatTells_31 rfl rfl ⟨_, rfl, h⟩
set_option maxHeartbeats 4000000 in
theorem c_X1_leastThatTells {L : pw_Lay} {d : Nat} {a1 : Int32} {a2 : Int32} {σ : pw_Mem} {K : Int32 → pw_Mem → Prop} (h : R_X1_leastThatTells a1 a2 σ K) : CT L (d + 3) m_X1_leastThatTells [.ref 20, .int a1, .int a2] σ (ki K) := by
  refine pw_enter (by decide) rfl (Nat.le_of_ble_eq_true rfl) (ls := [some (.ref 20), some (.int a1), some (.int a2), none]) rfl ?_
  unfold R_X1_leastThatTells at h
  refine pw_iconst (v := 0) dX1_leastThatTells_0 kc_0 ?_
  refine pw_istore_n (i := 3) (ls' := [some (.ref 20), some (.int a1), some (.int a2), some (.int 0)]) dX1_leastThatTells_1 rfl (Nat.le_of_ble_eq_true rfl) rfl ?_
  obtain ⟨n9, h⟩ := h
  refine t_X1_leastThatTells_L2 _ _ _ _ _ h (fun y5 y6 y7 τ8 h => ?_)
  refine pw_bipush (v := (-4)) dX1_leastThatTells_38 kb_m4 ?_
  exact pw_ret dX1_leastThatTells_40 rfl rfl ⟨_, rfl, h⟩
/-! X1_nextOnWay -/
def R_X1_nextOnWay (a1 : Int32) (σ : pw_Mem) (K : Int32 → pw_Mem → Prop) : Prop := vp_in a1 20 ∧ R_X1_depthOfItself a1 σ (fun x2 τ1 => (((σ 21 (Int32.toNatClampNeg a1)) ≤ x2 → vp_in a1 20 ∧ R_X1_frameOf a1 τ1 (fun x4 τ3 => R_X1_leastThatHas (τ1 15 (Int32.toNatClampNeg a1)) ((σ 21 (Int32.toNatClampNeg a1)) - x4) τ3 (fun x6 τ5 => ((x6 = (-4) → vp_in a1 20 ∧ vp_in a1 20 ∧ R_X1_leastThatHas ((τ5 16 (Int32.toNatClampNeg a1)) &&& ((τ5 18 (Int32.toNatClampNeg a1)) ^^^ (-1))) (σ 21 (Int32.toNatClampNeg a1)) τ5 (fun x8 τ7 => K x8 τ7)) ∧ (¬ x6 = (-4) → K x6 τ5))))) ∧ (¬ (σ 21 (Int32.toNatClampNeg a1)) ≤ x2 → vp_in a1 20 ∧ R_X1_leastThatTells (τ1 18 (Int32.toNatClampNeg a1)) (σ 21 (Int32.toNatClampNeg a1)) τ1 (fun x10 τ9 => K x10 τ9))))
set_option maxHeartbeats 4000000 in
theorem c_X1_nextOnWay {L : pw_Lay} {d : Nat} {a1 : Int32} {σ : pw_Mem} {K : Int32 → pw_Mem → Prop} (h : R_X1_nextOnWay a1 σ K) : CT L (d + 4) m_X1_nextOnWay [.ref 20, .int a1] σ (ki K) := by
  refine pw_enter (by decide) rfl (Nat.le_of_ble_eq_true rfl) (ls := [some (.ref 20), some (.int a1), none, none]) rfl ?_
  unfold R_X1_nextOnWay at h
  refine pw_aload_n (i := 0) dX1_nextOnWay_0 rfl rfl ?_
  refine pw_getR dX1_nextOnWay_1 fl_X1_15 rfl rfl ?_
  refine pw_iload_n (i := 1) dX1_nextOnWay_4 rfl rfl ?_
  obtain ⟨hb, h⟩ := h
  refine pw_iald dX1_nextOnWay_5 rfl hb ?_
  refine pw_istore_n (i := 2) (ls' := [some (.ref 20), some (.int a1), some (.int (σ 21 (Int32.toNatClampNeg a1))), none]) dX1_nextOnWay_6 rfl (Nat.le_of_ble_eq_true rfl) rfl ?_
  refine pw_aload_n (i := 0) dX1_nextOnWay_7 rfl rfl ?_
  refine pw_iload_n (i := 1) dX1_nextOnWay_8 rfl rfl ?_
  refine pw_cVi [.int a1] dX1_nextOnWay_9 mv_X1_59 rfl rfl rfl (Nat.le_of_ble_eq_true rfl) (c_X1_depthOfItself h) (fun x2 τ1 h => ?_)
  refine pw_iload_n (i := 2) dX1_nextOnWay_12 rfl rfl ?_
  refine pw_icmp_ge (tgt := 31) dX1_nextOnWay_13 rfl (fun q => ?_) (fun q => ?_)
  · have h := h.1 q
    refine pw_aload_n (i := 0) dX1_nextOnWay_31 rfl rfl ?_
    refine pw_aload_n (i := 0) dX1_nextOnWay_32 rfl rfl ?_
    refine pw_getR dX1_nextOnWay_33 fl_X1_23 rfl rfl ?_
    refine pw_getR dX1_nextOnWay_36 fl_X1_66 rfl rfl ?_
    refine pw_iload_n (i := 1) dX1_nextOnWay_39 rfl rfl ?_
    obtain ⟨hb, h⟩ := h
    refine pw_iald dX1_nextOnWay_40 rfl hb ?_
    refine pw_iload_n (i := 2) dX1_nextOnWay_41 rfl rfl ?_
    refine pw_aload_n (i := 0) dX1_nextOnWay_42 rfl rfl ?_
    refine pw_iload_n (i := 1) dX1_nextOnWay_43 rfl rfl ?_
    refine pw_cVi [.int a1] dX1_nextOnWay_44 mv_X1_69 rfl rfl rfl (Nat.le_of_ble_eq_true rfl) (c_X1_frameOf h) (fun x4 τ3 h => ?_)
    refine pw_isub dX1_nextOnWay_47 ?_
    refine pw_cVi [.int (τ1 15 (Int32.toNatClampNeg a1)), .int ((σ 21 (Int32.toNatClampNeg a1)) - x4)] dX1_nextOnWay_48 mv_X1_72 rfl rfl rfl (Nat.le_of_ble_eq_true rfl) (c_X1_leastThatHas h) (fun x6 τ5 h => ?_)
    refine pw_istore_n (i := 3) (ls' := [some (.ref 20), some (.int a1), some (.int (σ 21 (Int32.toNatClampNeg a1))), some (.int x6)]) dX1_nextOnWay_51 rfl (Nat.le_of_ble_eq_true rfl) rfl ?_
    refine pw_iload_n (i := 3) dX1_nextOnWay_52 rfl rfl ?_
    refine pw_bipush (v := (-4)) dX1_nextOnWay_53 kb_m4 ?_
    refine pw_icmp_eq (tgt := 60) dX1_nextOnWay_55 rfl (fun q => ?_) (fun q => ?_)
    · have h := h.1 q
      refine pw_aload_n (i := 0) dX1_nextOnWay_60 rfl rfl ?_
      refine pw_aload_n (i := 0) dX1_nextOnWay_61 rfl rfl ?_
      refine pw_getR dX1_nextOnWay_62 fl_X1_23 rfl rfl ?_
      refine pw_getR dX1_nextOnWay_65 fl_X1_75 rfl rfl ?_
      refine pw_iload_n (i := 1) dX1_nextOnWay_68 rfl rfl ?_
      obtain ⟨hb, h⟩ := h
      refine pw_iald dX1_nextOnWay_69 rfl hb ?_
      refine pw_aload_n (i := 0) dX1_nextOnWay_70 rfl rfl ?_
      refine pw_getR dX1_nextOnWay_71 fl_X1_23 rfl rfl ?_
      refine pw_getR dX1_nextOnWay_74 fl_X1_38 rfl rfl ?_
      refine pw_iload_n (i := 1) dX1_nextOnWay_77 rfl rfl ?_
      obtain ⟨hb, h⟩ := h
      refine pw_iald dX1_nextOnWay_78 rfl hb ?_
      refine pw_iconst (v := (-1)) dX1_nextOnWay_79 kc_m1 ?_
      refine pw_ixor dX1_nextOnWay_80 ?_
      refine pw_iand dX1_nextOnWay_81 ?_
      refine pw_iload_n (i := 2) dX1_nextOnWay_82 rfl rfl ?_
      refine pw_cVi [.int ((τ5 16 (Int32.toNatClampNeg a1)) &&& ((τ5 18 (Int32.toNatClampNeg a1)) ^^^ (-1))), .int (σ 21 (Int32.toNatClampNeg a1))] dX1_nextOnWay_83 mv_X1_72 rfl rfl rfl (Nat.le_of_ble_eq_true rfl) (c_X1_leastThatHas h) (fun x8 τ7 h => ?_)
      exact pw_ret dX1_nextOnWay_86 rfl rfl ⟨_, rfl, h⟩
    · have h := h.2 q
      refine pw_iload_n (i := 3) dX1_nextOnWay_58 rfl rfl ?_
      exact pw_ret dX1_nextOnWay_59 rfl rfl ⟨_, rfl, h⟩
  · have h := h.2 q
    refine pw_aload_n (i := 0) dX1_nextOnWay_16 rfl rfl ?_
    refine pw_aload_n (i := 0) dX1_nextOnWay_17 rfl rfl ?_
    refine pw_getR dX1_nextOnWay_18 fl_X1_23 rfl rfl ?_
    refine pw_getR dX1_nextOnWay_21 fl_X1_38 rfl rfl ?_
    refine pw_iload_n (i := 1) dX1_nextOnWay_24 rfl rfl ?_
    obtain ⟨hb, h⟩ := h
    refine pw_iald dX1_nextOnWay_25 rfl hb ?_
    refine pw_iload_n (i := 2) dX1_nextOnWay_26 rfl rfl ?_
    refine pw_cVi [.int (τ1 18 (Int32.toNatClampNeg a1)), .int (σ 21 (Int32.toNatClampNeg a1))] dX1_nextOnWay_27 mv_X1_62 rfl rfl rfl (Nat.le_of_ble_eq_true rfl) (c_X1_leastThatTells h) (fun x10 τ9 h => ?_)
    exact pw_ret dX1_nextOnWay_30 rfl rfl ⟨_, rfl, h⟩
/-! X10_way -/
def R_X10_way_L64 (K : Int32 → pw_Mem → Prop) (KX : Int32 → Int32 → Int32 → Int32 → Int32 → pw_Mem → Prop) : Nat → Int32 → Int32 → Int32 → Int32 → Int32 → pw_Mem → Prop
  | 0, _, _, _, _, _, _ => False
  | n + 1, l1, l2, l3, l4, l5, σ => ((l3 ≤ l5 → KX l1 l2 l3 l4 l5 σ) ∧ (¬ l3 ≤ l5 → ((l4 = (-4) → KX l1 l2 l3 l4 l5 σ) ∧ (¬ l4 = (-4) → R_X1_nextOnWay l4 σ (fun x8 τ7 => R_X10_way_L64 K KX n l1 l2 l3 x8 (l5 + 1) τ7)))))
def R_X10_way (a1 : Int32) (a2 : Int32) (σ : pw_Mem) (K : Int32 → pw_Mem → Prop) : Prop := R_X10_isRoutine a1 σ (fun x2 τ1 => ((x2 = 0 → K (-1) τ1) ∧ (¬ x2 = 0 → ((0 ≤ a2 → R_X2_refresh  τ1 (fun τ3 => R_X2_selfAndReached a1 τ3 (fun x5 τ4 => (((x5 &&& (τ4 14 8)) = 0 → R_X1_measure (-1) τ4 (fun τ6 => ∃ n15, R_X10_way_L64 K (fun y9 y10 y11 y12 y13 τ14 => K y12 τ14) n15 a1 a2 (if 20 < a2 then 20 else a2) a1 0 τ6)) ∧ (¬ (x5 &&& (τ4 14 8)) = 0 → K (-2) τ4))))) ∧ (¬ 0 ≤ a2 → K (-1) τ1)))))
set_option maxHeartbeats 4000000 in
theorem t_X10_way_L64 {L : pw_Lay} {d : Nat} {K : Int32 → pw_Mem → Prop} {KX : Int32 → Int32 → Int32 → Int32 → Int32 → pw_Mem → Prop} : ∀ (n : Nat) (l1 : Int32) (l2 : Int32) (l3 : Int32) (l4 : Int32) (l5 : Int32) (σ : pw_Mem), R_X10_way_L64 K KX n l1 l2 l3 l4 l5 σ → (∀ (l1 : Int32) (l2 : Int32) (l3 : Int32) (l4 : Int32) (l5 : Int32) (τ : pw_Mem), KX l1 l2 l3 l4 l5 τ → PW L (d + 5) m_X10_way (ki K) 94 [some (.ref 0), some (.int l1), some (.int l2), some (.int l3), some (.int l4), some (.int l5)] [] τ) → PW L (d + 5) m_X10_way (ki K) 64 [some (.ref 0), some (.int l1), some (.int l2), some (.int l3), some (.int l4), some (.int l5)] [] σ := by
  intro n
  induction n with
  | zero => intro l1 l2 l3 l4 l5 _ h _; exact h.elim
  | succ n ih =>
    intro l1 l2 l3 l4 l5 σ h hX
    unfold R_X10_way_L64 at h
    refine pw_iload dX10_way_64 rfl ?_
    refine pw_iload_n (i := 3) dX10_way_66 rfl rfl ?_
    refine pw_icmp_ge (tgt := 94) dX10_way_67 rfl (fun q => ?_) (fun q => ?_)
    · have h := h.1 q
      exact hX _ _ _ _ _ _ h
    · have h := h.2 q
      refine pw_iload dX10_way_70 rfl ?_
      refine pw_bipush (v := (-4)) dX10_way_72 kb_m4 ?_
      refine pw_icmp_eq (tgt := 94) dX10_way_74 rfl (fun q => ?_) (fun q => ?_)
      · have h := h.1 q
        exact hX _ _ _ _ _ _ h
      · have h := h.2 q
        refine pw_aload_n (i := 0) dX10_way_77 rfl rfl ?_
        refine pw_getR dX10_way_78 fl_X10_44 rfl rfl ?_
        refine pw_iload dX10_way_81 rfl ?_
        refine pw_cVi [.int l4] dX10_way_83 mv_X10_192 rfl rfl rfl (Nat.le_of_ble_eq_true rfl) (c_X1_nextOnWay h) (fun x8 τ7 h => ?_)
        refine pw_istore (i := 4) (ls' := [some (.ref 0), some (.int l1), some (.int l2), some (.int l3), some (.int x8), some (.int l5)]) dX10_way_86 (Nat.le_of_ble_eq_true rfl) rfl ?_
        refine pw_iinc (i := 5) (v := l5 + 1) (ls' := [some (.ref 0), some (.int l1), some (.int l2), some (.int l3), some (.int x8), some (.int (l5 + 1))]) dX10_way_88 rfl (by rw [kc_1]) (Nat.le_of_ble_eq_true rfl) rfl ?_
        refine pw_goto (tgt := 64) dX10_way_91 rfl ?_
        exact ih _ _ _ _ _ _ h hX
set_option maxHeartbeats 4000000 in
theorem c_X10_way {L : pw_Lay} {d : Nat} {a1 : Int32} {a2 : Int32} {σ : pw_Mem} {K : Int32 → pw_Mem → Prop} (h : R_X10_way a1 a2 σ K) : CT L (d + 5) m_X10_way [.ref 0, .int a1, .int a2] σ (ki K) := by
  refine pw_enter (by decide) rfl (Nat.le_of_ble_eq_true rfl) (ls := [some (.ref 0), some (.int a1), some (.int a2), none, none, none]) rfl ?_
  unfold R_X10_way at h
  refine pw_aload_n (i := 0) dX10_way_0 rfl rfl ?_
  refine pw_iload_n (i := 1) dX10_way_1 rfl rfl ?_
  refine pw_cVi [.int a1] dX10_way_2 mv_X10_98 rfl rfl rfl (Nat.le_of_ble_eq_true rfl) (c_X10_isRoutine h) (fun x2 τ1 h => ?_)
  refine pw_if_eq (tgt := 12) dX10_way_5 rfl (fun q => ?_) (fun q => ?_)
  · have h := h.1 q
    refine pw_iconst (v := (-1)) dX10_way_12 kc_m1 ?_
    exact pw_ret dX10_way_13 rfl rfl ⟨_, rfl, h⟩
  · have h := h.2 q
    refine pw_iload_n (i := 2) dX10_way_8 rfl rfl ?_
    refine pw_if_ge (tgt := 14) dX10_way_9 rfl (fun q => ?_) (fun q => ?_)
    · have h := h.1 q
      refine pw_aload_n (i := 0) dX10_way_14 rfl rfl ?_
      refine pw_getR dX10_way_15 fl_X10_35 rfl rfl ?_
      refine pw_cVv [] dX10_way_18 mv_X10_153 rfl rfl rfl (Nat.le_of_ble_eq_true rfl) (c_X2_refresh h) (fun τ3 h => ?_)
      refine pw_aload_n (i := 0) dX10_way_21 rfl rfl ?_
      refine pw_getR dX10_way_22 fl_X10_35 rfl rfl ?_
      refine pw_iload_n (i := 1) dX10_way_25 rfl rfl ?_
      refine pw_cVi [.int a1] dX10_way_26 mv_X10_183 rfl rfl rfl (Nat.le_of_ble_eq_true rfl) (c_X2_selfAndReached h) (fun x5 τ4 h => ?_)
      refine pw_aload_n (i := 0) dX10_way_29 rfl rfl ?_
      refine pw_getR dX10_way_30 fl_X10_35 rfl rfl ?_
      refine pw_getI dX10_way_33 fl_X10_156 rfl rfl ?_
      refine pw_iand dX10_way_36 ?_
      refine pw_if_eq (tgt := 43) dX10_way_37 rfl (fun q => ?_) (fun q => ?_)
      · have h := h.1 q
        refine pw_aload_n (i := 0) dX10_way_43 rfl rfl ?_
        refine pw_getR dX10_way_44 fl_X10_44 rfl rfl ?_
        refine pw_iconst (v := (-1)) dX10_way_47 kc_m1 ?_
        refine pw_cVv [.int (-1)] dX10_way_48 mv_X10_176 rfl rfl rfl (Nat.le_of_ble_eq_true rfl) (c_X1_measure h) (fun τ6 h => ?_)
        refine pw_iload_n (i := 2) dX10_way_51 rfl rfl ?_
        refine pw_bipush (v := 20) dX10_way_52 kb_20 ?_
        refine pw_mmin dX10_way_54 ms_X10_186 (Nat.le_of_ble_eq_true rfl) ?_
        refine pw_istore_n (i := 3) (ls' := [some (.ref 0), some (.int a1), some (.int a2), some (.int (if 20 < a2 then 20 else a2)), none, none]) dX10_way_57 rfl (Nat.le_of_ble_eq_true rfl) rfl ?_
        refine pw_iload_n (i := 1) dX10_way_58 rfl rfl ?_
        refine pw_istore (i := 4) (ls' := [some (.ref 0), some (.int a1), some (.int a2), some (.int (if 20 < a2 then 20 else a2)), some (.int a1), none]) dX10_way_59 (Nat.le_of_ble_eq_true rfl) rfl ?_
        refine pw_iconst (v := 0) dX10_way_61 kc_0 ?_
        refine pw_istore (i := 5) (ls' := [some (.ref 0), some (.int a1), some (.int a2), some (.int (if 20 < a2 then 20 else a2)), some (.int a1), some (.int 0)]) dX10_way_62 (Nat.le_of_ble_eq_true rfl) rfl ?_
        obtain ⟨n15, h⟩ := h
        refine t_X10_way_L64 _ _ _ _ _ _ _ h (fun y9 y10 y11 y12 y13 τ14 h => ?_)
        refine pw_iload dX10_way_94 rfl ?_
        exact pw_ret dX10_way_96 rfl rfl ⟨_, rfl, h⟩
      · have h := h.2 q
        refine pw_bipush (v := (-2)) dX10_way_40 kb_m2 ?_
        exact pw_ret dX10_way_42 rfl rfl ⟨_, rfl, h⟩
    · have h := h.2 q
      refine pw_iconst (v := (-1)) dX10_way_12 kc_m1 ?_
      exact pw_ret dX10_way_13 rfl rfl ⟨_, rfl, h⟩
/-! X5_withoutTurns -/
def R_X5_withoutTurns_L4 (K : Int32 → pw_Mem → Prop) (KX : Int32 → Int32 → pw_Mem → Prop) : Nat → Int32 → Int32 → pw_Mem → Prop
  | 0, _, _, _ => False
  | n + 1, l1, l2, σ => (((σ 1 2) ≤ l2 → KX l1 l2 σ) ∧ (¬ (σ 1 2) ≤ l2 → vp_in l2 20 ∧ ((¬ (σ 3 (Int32.toNatClampNeg l2)) = 0 → R_X5_withoutTurns_L4 K KX n l1 (l2 + 1) σ) ∧ ((σ 3 (Int32.toNatClampNeg l2)) = 0 → R_X5_withoutTurns_L4 K KX n (l1 ||| (1 <<< (l2 &&& 31))) (l2 + 1) σ))))
def R_X5_withoutTurns  (σ : pw_Mem) (K : Int32 → pw_Mem → Prop) : Prop := ∃ n4, R_X5_withoutTurns_L4 K (fun y1 y2 τ3 => K y1 τ3) n4 0 0 σ
set_option maxHeartbeats 4000000 in
theorem t_X5_withoutTurns_L4 {L : pw_Lay} {d : Nat} {K : Int32 → pw_Mem → Prop} {KX : Int32 → Int32 → pw_Mem → Prop} : ∀ (n : Nat) (l1 : Int32) (l2 : Int32) (σ : pw_Mem), R_X5_withoutTurns_L4 K KX n l1 l2 σ → (∀ (l1 : Int32) (l2 : Int32) (τ : pw_Mem), KX l1 l2 τ → PW L (d + 0) m_X5_withoutTurns (ki K) 33 [some (.ref 1), some (.int l1), some (.int l2)] [] τ) → PW L (d + 0) m_X5_withoutTurns (ki K) 4 [some (.ref 1), some (.int l1), some (.int l2)] [] σ := by
  intro n
  induction n with
  | zero => intro l1 l2 _ h _; exact h.elim
  | succ n ih =>
    intro l1 l2 σ h hX
    unfold R_X5_withoutTurns_L4 at h
    refine pw_iload_n (i := 2) dX5_withoutTurns_4 rfl rfl ?_
    refine pw_aload_n (i := 0) dX5_withoutTurns_5 rfl rfl ?_
    refine pw_getI dX5_withoutTurns_6 fl_X5_18 rfl rfl ?_
    refine pw_icmp_ge (tgt := 33) dX5_withoutTurns_9 rfl (fun q => ?_) (fun q => ?_)
    · have h := h.1 q
      exact hX _ _ _ h
    · have h := h.2 q
      refine pw_aload_n (i := 0) dX5_withoutTurns_12 rfl rfl ?_
      refine pw_getR dX5_withoutTurns_13 fl_X5_15 rfl rfl ?_
      refine pw_iload_n (i := 2) dX5_withoutTurns_16 rfl rfl ?_
      obtain ⟨hb, h⟩ := h
      refine pw_iald dX5_withoutTurns_17 rfl hb ?_
      refine pw_if_ne (tgt := 27) dX5_withoutTurns_18 rfl (fun q => ?_) (fun q => ?_)
      · have h := h.1 q
        refine pw_iinc (i := 2) (v := l2 + 1) (ls' := [some (.ref 1), some (.int l1), some (.int (l2 + 1))]) dX5_withoutTurns_27 rfl (by rw [kc_1]) (Nat.le_of_ble_eq_true rfl) rfl ?_
        refine pw_goto (tgt := 4) dX5_withoutTurns_30 rfl ?_
        exact ih _ _ _ h hX
      · have h := h.2 q
        refine pw_iload_n (i := 1) dX5_withoutTurns_21 rfl rfl ?_
        refine pw_iconst (v := 1) dX5_withoutTurns_22 kc_1 ?_
        refine pw_iload_n (i := 2) dX5_withoutTurns_23 rfl rfl ?_
        refine pw_ishl dX5_withoutTurns_24 ?_
        refine pw_ior dX5_withoutTurns_25 ?_
        refine pw_istore_n (i := 1) (ls' := [some (.ref 1), some (.int (l1 ||| (1 <<< (l2 &&& 31)))), some (.int l2)]) dX5_withoutTurns_26 rfl (Nat.le_of_ble_eq_true rfl) rfl ?_
        refine pw_iinc (i := 2) (v := l2 + 1) (ls' := [some (.ref 1), some (.int (l1 ||| (1 <<< (l2 &&& 31)))), some (.int (l2 + 1))]) dX5_withoutTurns_27 rfl (by rw [kc_1]) (Nat.le_of_ble_eq_true rfl) rfl ?_
        refine pw_goto (tgt := 4) dX5_withoutTurns_30 rfl ?_
        exact ih _ _ _ h hX
set_option maxHeartbeats 4000000 in
theorem c_X5_withoutTurns {L : pw_Lay} {d : Nat}  {σ : pw_Mem} {K : Int32 → pw_Mem → Prop} (h : R_X5_withoutTurns  σ K) : CT L (d + 0) m_X5_withoutTurns [.ref 1] σ (ki K) := by
  refine pw_enter (by decide) rfl (Nat.le_of_ble_eq_true rfl) (ls := [some (.ref 1), none, none]) rfl ?_
  unfold R_X5_withoutTurns at h
  refine pw_iconst (v := 0) dX5_withoutTurns_0 kc_0 ?_
  refine pw_istore_n (i := 1) (ls' := [some (.ref 1), some (.int 0), none]) dX5_withoutTurns_1 rfl (Nat.le_of_ble_eq_true rfl) rfl ?_
  refine pw_iconst (v := 0) dX5_withoutTurns_2 kc_0 ?_
  refine pw_istore_n (i := 2) (ls' := [some (.ref 1), some (.int 0), some (.int 0)]) dX5_withoutTurns_3 rfl (Nat.le_of_ble_eq_true rfl) rfl ?_
  obtain ⟨n4, h⟩ := h
  refine t_X5_withoutTurns_L4 _ _ _ _ h (fun y1 y2 τ3 h => ?_)
  refine pw_iload_n (i := 1) dX5_withoutTurns_33 rfl rfl ?_
  exact pw_ret dX5_withoutTurns_34 rfl rfl ⟨_, rfl, h⟩
/-! X10_endless -/
def R_X10_endless (a1 : Int32) (σ : pw_Mem) (K : Int32 → pw_Mem → Prop) : Prop := R_X10_isRoutine a1 σ (fun x2 τ1 => ((¬ x2 = 0 → R_X2_refresh  τ1 (fun τ3 => R_X2_selfAndReached a1 τ3 (fun x5 τ4 => R_X5_withoutTurns  τ4 (fun x7 τ6 => R_X10_leastOf ((x5 &&& (τ4 14 8)) &&& x7) τ6 (fun x9 τ8 => K x9 τ8))))) ∧ (x2 = 0 → K (-1) τ1)))
set_option maxHeartbeats 4000000 in
theorem c_X10_endless {L : pw_Lay} {d : Nat} {a1 : Int32} {σ : pw_Mem} {K : Int32 → pw_Mem → Prop} (h : R_X10_endless a1 σ K) : CT L (d + 4) m_X10_endless [.ref 0, .int a1] σ (ki K) := by
  refine pw_enter (by decide) rfl (Nat.le_of_ble_eq_true rfl) (ls := [some (.ref 0), some (.int a1)]) rfl ?_
  unfold R_X10_endless at h
  refine pw_aload_n (i := 0) dX10_endless_0 rfl rfl ?_
  refine pw_iload_n (i := 1) dX10_endless_1 rfl rfl ?_
  refine pw_cVi [.int a1] dX10_endless_2 mv_X10_98 rfl rfl rfl (Nat.le_of_ble_eq_true rfl) (c_X10_isRoutine h) (fun x2 τ1 h => ?_)
  refine pw_if_ne (tgt := 10) dX10_endless_5 rfl (fun q => ?_) (fun q => ?_)
  · have h := h.1 q
    refine pw_aload_n (i := 0) dX10_endless_10 rfl rfl ?_
    refine pw_getR dX10_endless_11 fl_X10_35 rfl rfl ?_
    refine pw_cVv [] dX10_endless_14 mv_X10_153 rfl rfl rfl (Nat.le_of_ble_eq_true rfl) (c_X2_refresh h) (fun τ3 h => ?_)
    refine pw_aload_n (i := 0) dX10_endless_17 rfl rfl ?_
    refine pw_getR dX10_endless_18 fl_X10_35 rfl rfl ?_
    refine pw_iload_n (i := 1) dX10_endless_21 rfl rfl ?_
    refine pw_cVi [.int a1] dX10_endless_22 mv_X10_183 rfl rfl rfl (Nat.le_of_ble_eq_true rfl) (c_X2_selfAndReached h) (fun x5 τ4 h => ?_)
    refine pw_aload_n (i := 0) dX10_endless_25 rfl rfl ?_
    refine pw_getR dX10_endless_26 fl_X10_35 rfl rfl ?_
    refine pw_getI dX10_endless_29 fl_X10_156 rfl rfl ?_
    refine pw_iand dX10_endless_32 ?_
    refine pw_aload_n (i := 0) dX10_endless_33 rfl rfl ?_
    refine pw_getR dX10_endless_34 fl_X10_10 rfl rfl ?_
    refine pw_cVi [] dX10_endless_37 mv_X10_195 rfl rfl rfl (Nat.le_of_ble_eq_true rfl) (c_X5_withoutTurns h) (fun x7 τ6 h => ?_)
    refine pw_iand dX10_endless_40 ?_
    refine pw_cSi [.int ((x5 &&& (τ4 14 8)) &&& x7)] dX10_endless_41 ms_X10_162 rfl rfl (Nat.le_of_ble_eq_true rfl) (c_X10_leastOf h) (fun x9 τ8 h => ?_)
    exact pw_ret dX10_endless_44 rfl rfl ⟨_, rfl, h⟩
  · have h := h.2 q
    refine pw_iconst (v := (-1)) dX10_endless_8 kc_m1 ?_
    exact pw_ret dX10_endless_9 rfl rfl ⟨_, rfl, h⟩
/-! X3_add -/
def R_X3_add (a1 : Int32) (a2 : Int32) (a3 : Int32) (σ : pw_Mem) (K : Int32 → pw_Mem → Prop) : Prop := vp_in (σ 22 3) 8 ∧ ∀ τ1, τ1 = pw_up σ 23 (Int32.toNatClampNeg (σ 22 3)) a1 → vp_in (τ1 22 3) 8 ∧ ∀ τ2, τ2 = pw_up τ1 24 (Int32.toNatClampNeg (τ1 22 3)) a2 → vp_in (τ2 22 3) 8 ∧ ∀ τ3, τ3 = pw_up τ2 25 (Int32.toNatClampNeg (τ2 22 3)) a3 → ∀ τ4, τ4 = pw_up τ3 22 3 ((τ3 22 3) + 1) → K ((τ4 22 3) - 1) τ4
set_option maxHeartbeats 4000000 in
theorem c_X3_add {L : pw_Lay} {d : Nat} {a1 : Int32} {a2 : Int32} {a3 : Int32} {σ : pw_Mem} {K : Int32 → pw_Mem → Prop} (h : R_X3_add a1 a2 a3 σ K) : CT L (d + 0) m_X3_add [.ref 22, .int a1, .int a2, .int a3] σ (ki K) := by
  refine pw_enter (by decide) rfl (Nat.le_of_ble_eq_true rfl) (ls := [some (.ref 22), some (.int a1), some (.int a2), some (.int a3)]) rfl ?_
  unfold R_X3_add at h
  refine pw_aload_n (i := 0) dX3_add_0 rfl rfl ?_
  refine pw_getR dX3_add_1 fl_X3_9 rfl rfl ?_
  refine pw_aload_n (i := 0) dX3_add_4 rfl rfl ?_
  refine pw_getI dX3_add_5 fl_X3_21 rfl rfl ?_
  refine pw_iload_n (i := 1) dX3_add_8 rfl rfl ?_
  obtain ⟨hb, h⟩ := h
  refine pw_iast dX3_add_9 rfl hb ?_
  generalize hτ1 : pw_up σ 23 (Int32.toNatClampNeg (σ 22 3)) a1 = τ1
  have h := h τ1 hτ1.symm
  refine pw_aload_n (i := 0) dX3_add_10 rfl rfl ?_
  refine pw_getR dX3_add_11 fl_X3_15 rfl rfl ?_
  refine pw_aload_n (i := 0) dX3_add_14 rfl rfl ?_
  refine pw_getI dX3_add_15 fl_X3_21 rfl rfl ?_
  refine pw_iload_n (i := 2) dX3_add_18 rfl rfl ?_
  obtain ⟨hb, h⟩ := h
  refine pw_iast dX3_add_19 rfl hb ?_
  generalize hτ2 : pw_up τ1 24 (Int32.toNatClampNeg (τ1 22 3)) a2 = τ2
  have h := h τ2 hτ2.symm
  refine pw_aload_n (i := 0) dX3_add_20 rfl rfl ?_
  refine pw_getR dX3_add_21 fl_X3_18 rfl rfl ?_
  refine pw_aload_n (i := 0) dX3_add_24 rfl rfl ?_
  refine pw_getI dX3_add_25 fl_X3_21 rfl rfl ?_
  refine pw_iload_n (i := 3) dX3_add_28 rfl rfl ?_
  obtain ⟨hb, h⟩ := h
  refine pw_iast dX3_add_29 rfl hb ?_
  generalize hτ3 : pw_up τ2 25 (Int32.toNatClampNeg (τ2 22 3)) a3 = τ3
  have h := h τ3 hτ3.symm
  refine pw_aload_n (i := 0) dX3_add_30 rfl rfl ?_
  refine pw_dup dX3_add_31 rfl ?_
  refine pw_getI dX3_add_32 fl_X3_21 rfl rfl ?_
  refine pw_iconst (v := 1) dX3_add_35 kc_1 ?_
  refine pw_iadd dX3_add_36 ?_
  refine pw_put dX3_add_37 fp_X3_21 rfl rfl rfl rfl ?_
  generalize hτ4 : pw_up τ3 22 3 ((τ3 22 3) + 1) = τ4
  have h := h τ4 hτ4.symm
  refine pw_aload_n (i := 0) dX3_add_40 rfl rfl ?_
  refine pw_getI dX3_add_41 fl_X3_21 rfl rfl ?_
  refine pw_iconst (v := 1) dX3_add_44 kc_1 ?_
  refine pw_isub dX3_add_45 ?_
  exact pw_ret dX3_add_46 rfl rfl ⟨_, rfl, h⟩
/-! X10_interrupt -/
def R_X10_interrupt (a1 : Int32) (a2 : Int32) (a3 : Int32) (σ : pw_Mem) (K : Int32 → pw_Mem → Prop) : Prop := R_X10_within a1 1 7 σ (fun x2 τ1 => ((x2 = 0 → K (-1) τ1) ∧ (¬ x2 = 0 → R_X10_isRoutine a2 τ1 (fun x4 τ3 => ((x4 = 0 → K (-1) τ3) ∧ (¬ x4 = 0 → R_X10_within a3 0 100 τ3 (fun x6 τ5 => ((¬ x6 = 0 → (((τ5 22 3) < 8 → R_X3_add a1 a2 a3 τ5 (fun x8 τ7 => K x8 τ7)) ∧ (¬ (τ5 22 3) < 8 → K (-3) τ5))) ∧ (x6 = 0 → K (-1) τ5)))))))))
set_option maxHeartbeats 4000000 in
theorem c_X10_interrupt {L : pw_Lay} {d : Nat} {a1 : Int32} {a2 : Int32} {a3 : Int32} {σ : pw_Mem} {K : Int32 → pw_Mem → Prop} (h : R_X10_interrupt a1 a2 a3 σ K) : CT L (d + 2) m_X10_interrupt [.ref 0, .int a1, .int a2, .int a3] σ (ki K) := by
  refine pw_enter (by decide) rfl (Nat.le_of_ble_eq_true rfl) (ls := [some (.ref 0), some (.int a1), some (.int a2), some (.int a3)]) rfl ?_
  unfold R_X10_interrupt at h
  refine pw_iload_n (i := 1) dX10_interrupt_0 rfl rfl ?_
  refine pw_iconst (v := 1) dX10_interrupt_1 kc_1 ?_
  refine pw_bipush (v := 7) dX10_interrupt_2 kb_7 ?_
  refine pw_cSi [.int a1, .int 1, .int 7] dX10_interrupt_4 ms_X10_83 rfl rfl (Nat.le_of_ble_eq_true rfl) (c_X10_within h) (fun x2 τ1 h => ?_)
  refine pw_if_eq (tgt := 28) dX10_interrupt_7 rfl (fun q => ?_) (fun q => ?_)
  · have h := h.1 q
    refine pw_iconst (v := (-1)) dX10_interrupt_28 kc_m1 ?_
    exact pw_ret dX10_interrupt_29 rfl rfl ⟨_, rfl, h⟩
  · have h := h.2 q
    refine pw_aload_n (i := 0) dX10_interrupt_10 rfl rfl ?_
    refine pw_iload_n (i := 2) dX10_interrupt_11 rfl rfl ?_
    refine pw_cVi [.int a2] dX10_interrupt_12 mv_X10_98 rfl rfl rfl (Nat.le_of_ble_eq_true rfl) (c_X10_isRoutine h) (fun x4 τ3 h => ?_)
    refine pw_if_eq (tgt := 28) dX10_interrupt_15 rfl (fun q => ?_) (fun q => ?_)
    · have h := h.1 q
      refine pw_iconst (v := (-1)) dX10_interrupt_28 kc_m1 ?_
      exact pw_ret dX10_interrupt_29 rfl rfl ⟨_, rfl, h⟩
    · have h := h.2 q
      refine pw_iload_n (i := 3) dX10_interrupt_18 rfl rfl ?_
      refine pw_iconst (v := 0) dX10_interrupt_19 kc_0 ?_
      refine pw_bipush (v := 100) dX10_interrupt_20 kb_100 ?_
      refine pw_cSi [.int a3, .int 0, .int 100] dX10_interrupt_22 ms_X10_83 rfl rfl (Nat.le_of_ble_eq_true rfl) (c_X10_within h) (fun x6 τ5 h => ?_)
      refine pw_if_ne (tgt := 30) dX10_interrupt_25 rfl (fun q => ?_) (fun q => ?_)
      · have h := h.1 q
        refine pw_aload_n (i := 0) dX10_interrupt_30 rfl rfl ?_
        refine pw_getR dX10_interrupt_31 fl_X10_51 rfl rfl ?_
        refine pw_getI dX10_interrupt_34 fl_X10_199 rfl rfl ?_
        refine pw_bipush (v := 8) dX10_interrupt_37 kb_8 ?_
        refine pw_icmp_lt (tgt := 45) dX10_interrupt_39 rfl (fun q => ?_) (fun q => ?_)
        · have h := h.1 q
          refine pw_aload_n (i := 0) dX10_interrupt_45 rfl rfl ?_
          refine pw_getR dX10_interrupt_46 fl_X10_51 rfl rfl ?_
          refine pw_iload_n (i := 1) dX10_interrupt_49 rfl rfl ?_
          refine pw_iload_n (i := 2) dX10_interrupt_50 rfl rfl ?_
          refine pw_iload_n (i := 3) dX10_interrupt_51 rfl rfl ?_
          refine pw_cVi [.int a1, .int a2, .int a3] dX10_interrupt_52 mv_X10_200 rfl rfl rfl (Nat.le_of_ble_eq_true rfl) (c_X3_add h) (fun x8 τ7 h => ?_)
          exact pw_ret dX10_interrupt_55 rfl rfl ⟨_, rfl, h⟩
        · have h := h.2 q
          refine pw_bipush (v := (-3)) dX10_interrupt_42 kb_m3 ?_
          exact pw_ret dX10_interrupt_44 rfl rfl ⟨_, rfl, h⟩
      · have h := h.2 q
        refine pw_iconst (v := (-1)) dX10_interrupt_28 kc_m1 ?_
        exact pw_ret dX10_interrupt_29 rfl rfl ⟨_, rfl, h⟩
/-! X8_add -/
def R_X8_add (a1 : Int32) (a2 : Int32) (a3 : Int32) (σ : pw_Mem) (K : Int32 → pw_Mem → Prop) : Prop := vp_in (σ 26 4) 6 ∧ ∀ τ1, τ1 = pw_up σ 27 (Int32.toNatClampNeg (σ 26 4)) a1 → vp_in (τ1 26 4) 6 ∧ ∀ τ2, τ2 = pw_up τ1 28 (Int32.toNatClampNeg (τ1 26 4)) a2 → vp_in (τ2 26 4) 6 ∧ ∀ τ3, τ3 = pw_up τ2 29 (Int32.toNatClampNeg (τ2 26 4)) a3 → ∀ τ4, τ4 = pw_up τ3 26 4 ((τ3 26 4) + 1) → K ((τ4 26 4) - 1) τ4
set_option maxHeartbeats 4000000 in
theorem c_X8_add {L : pw_Lay} {d : Nat} {a1 : Int32} {a2 : Int32} {a3 : Int32} {σ : pw_Mem} {K : Int32 → pw_Mem → Prop} (h : R_X8_add a1 a2 a3 σ K) : CT L (d + 0) m_X8_add [.ref 26, .int a1, .int a2, .int a3] σ (ki K) := by
  refine pw_enter (by decide) rfl (Nat.le_of_ble_eq_true rfl) (ls := [some (.ref 26), some (.int a1), some (.int a2), some (.int a3)]) rfl ?_
  unfold R_X8_add at h
  refine pw_aload_n (i := 0) dX8_add_0 rfl rfl ?_
  refine pw_getR dX8_add_1 fl_X8_9 rfl rfl ?_
  refine pw_aload_n (i := 0) dX8_add_4 rfl rfl ?_
  refine pw_getI dX8_add_5 fl_X8_24 rfl rfl ?_
  refine pw_iload_n (i := 1) dX8_add_8 rfl rfl ?_
  obtain ⟨hb, h⟩ := h
  refine pw_iast dX8_add_9 rfl hb ?_
  generalize hτ1 : pw_up σ 27 (Int32.toNatClampNeg (σ 26 4)) a1 = τ1
  have h := h τ1 hτ1.symm
  refine pw_aload_n (i := 0) dX8_add_10 rfl rfl ?_
  refine pw_getR dX8_add_11 fl_X8_15 rfl rfl ?_
  refine pw_aload_n (i := 0) dX8_add_14 rfl rfl ?_
  refine pw_getI dX8_add_15 fl_X8_24 rfl rfl ?_
  refine pw_iload_n (i := 2) dX8_add_18 rfl rfl ?_
  obtain ⟨hb, h⟩ := h
  refine pw_iast dX8_add_19 rfl hb ?_
  generalize hτ2 : pw_up τ1 28 (Int32.toNatClampNeg (τ1 26 4)) a2 = τ2
  have h := h τ2 hτ2.symm
  refine pw_aload_n (i := 0) dX8_add_20 rfl rfl ?_
  refine pw_getR dX8_add_21 fl_X8_18 rfl rfl ?_
  refine pw_aload_n (i := 0) dX8_add_24 rfl rfl ?_
  refine pw_getI dX8_add_25 fl_X8_24 rfl rfl ?_
  refine pw_iload_n (i := 3) dX8_add_28 rfl rfl ?_
  obtain ⟨hb, h⟩ := h
  refine pw_iast dX8_add_29 rfl hb ?_
  generalize hτ3 : pw_up τ2 29 (Int32.toNatClampNeg (τ2 26 4)) a3 = τ3
  have h := h τ3 hτ3.symm
  refine pw_aload_n (i := 0) dX8_add_30 rfl rfl ?_
  refine pw_dup dX8_add_31 rfl ?_
  refine pw_getI dX8_add_32 fl_X8_24 rfl rfl ?_
  refine pw_iconst (v := 1) dX8_add_35 kc_1 ?_
  refine pw_iadd dX8_add_36 ?_
  refine pw_put dX8_add_37 fp_X8_24 rfl rfl rfl rfl ?_
  generalize hτ4 : pw_up τ3 26 4 ((τ3 26 4) + 1) = τ4
  have h := h τ4 hτ4.symm
  refine pw_aload_n (i := 0) dX8_add_40 rfl rfl ?_
  refine pw_getI dX8_add_41 fl_X8_24 rfl rfl ?_
  refine pw_iconst (v := 1) dX8_add_44 kc_1 ?_
  refine pw_isub dX8_add_45 ?_
  exact pw_ret dX8_add_46 rfl rfl ⟨_, rfl, h⟩
/-! X10_task -/
def R_X10_task (a1 : Int32) (a2 : Int32) (a3 : Int32) (σ : pw_Mem) (K : Int32 → pw_Mem → Prop) : Prop := R_X10_isRoutine a1 σ (fun x2 τ1 => ((x2 = 0 → K (-1) τ1) ∧ (¬ x2 = 0 → R_X10_within a2 0 7 τ1 (fun x4 τ3 => ((x4 = 0 → K (-1) τ3) ∧ (¬ x4 = 0 → R_X10_within a3 0 100 τ3 (fun x6 τ5 => ((¬ x6 = 0 → (((τ5 26 4) < 6 → R_X8_add a1 a2 a3 τ5 (fun x8 τ7 => K x8 τ7)) ∧ (¬ (τ5 26 4) < 6 → K (-3) τ5))) ∧ (x6 = 0 → K (-1) τ5)))))))))
set_option maxHeartbeats 4000000 in
theorem c_X10_task {L : pw_Lay} {d : Nat} {a1 : Int32} {a2 : Int32} {a3 : Int32} {σ : pw_Mem} {K : Int32 → pw_Mem → Prop} (h : R_X10_task a1 a2 a3 σ K) : CT L (d + 2) m_X10_task [.ref 0, .int a1, .int a2, .int a3] σ (ki K) := by
  refine pw_enter (by decide) rfl (Nat.le_of_ble_eq_true rfl) (ls := [some (.ref 0), some (.int a1), some (.int a2), some (.int a3)]) rfl ?_
  unfold R_X10_task at h
  refine pw_aload_n (i := 0) dX10_task_0 rfl rfl ?_
  refine pw_iload_n (i := 1) dX10_task_1 rfl rfl ?_
  refine pw_cVi [.int a1] dX10_task_2 mv_X10_98 rfl rfl rfl (Nat.le_of_ble_eq_true rfl) (c_X10_isRoutine h) (fun x2 τ1 h => ?_)
  refine pw_if_eq (tgt := 28) dX10_task_5 rfl (fun q => ?_) (fun q => ?_)
  · have h := h.1 q
    refine pw_iconst (v := (-1)) dX10_task_28 kc_m1 ?_
    exact pw_ret dX10_task_29 rfl rfl ⟨_, rfl, h⟩
  · have h := h.2 q
    refine pw_iload_n (i := 2) dX10_task_8 rfl rfl ?_
    refine pw_iconst (v := 0) dX10_task_9 kc_0 ?_
    refine pw_bipush (v := 7) dX10_task_10 kb_7 ?_
    refine pw_cSi [.int a2, .int 0, .int 7] dX10_task_12 ms_X10_83 rfl rfl (Nat.le_of_ble_eq_true rfl) (c_X10_within h) (fun x4 τ3 h => ?_)
    refine pw_if_eq (tgt := 28) dX10_task_15 rfl (fun q => ?_) (fun q => ?_)
    · have h := h.1 q
      refine pw_iconst (v := (-1)) dX10_task_28 kc_m1 ?_
      exact pw_ret dX10_task_29 rfl rfl ⟨_, rfl, h⟩
    · have h := h.2 q
      refine pw_iload_n (i := 3) dX10_task_18 rfl rfl ?_
      refine pw_iconst (v := 0) dX10_task_19 kc_0 ?_
      refine pw_bipush (v := 100) dX10_task_20 kb_100 ?_
      refine pw_cSi [.int a3, .int 0, .int 100] dX10_task_22 ms_X10_83 rfl rfl (Nat.le_of_ble_eq_true rfl) (c_X10_within h) (fun x6 τ5 h => ?_)
      refine pw_if_ne (tgt := 30) dX10_task_25 rfl (fun q => ?_) (fun q => ?_)
      · have h := h.1 q
        refine pw_aload_n (i := 0) dX10_task_30 rfl rfl ?_
        refine pw_getR dX10_task_31 fl_X10_58 rfl rfl ?_
        refine pw_getI dX10_task_34 fl_X10_202 rfl rfl ?_
        refine pw_bipush (v := 6) dX10_task_37 kb_6 ?_
        refine pw_icmp_lt (tgt := 45) dX10_task_39 rfl (fun q => ?_) (fun q => ?_)
        · have h := h.1 q
          refine pw_aload_n (i := 0) dX10_task_45 rfl rfl ?_
          refine pw_getR dX10_task_46 fl_X10_58 rfl rfl ?_
          refine pw_iload_n (i := 1) dX10_task_49 rfl rfl ?_
          refine pw_iload_n (i := 2) dX10_task_50 rfl rfl ?_
          refine pw_iload_n (i := 3) dX10_task_51 rfl rfl ?_
          refine pw_cVi [.int a1, .int a2, .int a3] dX10_task_52 mv_X10_203 rfl rfl rfl (Nat.le_of_ble_eq_true rfl) (c_X8_add h) (fun x8 τ7 h => ?_)
          exact pw_ret dX10_task_55 rfl rfl ⟨_, rfl, h⟩
        · have h := h.2 q
          refine pw_bipush (v := (-3)) dX10_task_42 kb_m3 ?_
          exact pw_ret dX10_task_44 rfl rfl ⟨_, rfl, h⟩
      · have h := h.2 q
        refine pw_iconst (v := (-1)) dX10_task_28 kc_m1 ?_
        exact pw_ret dX10_task_29 rfl rfl ⟨_, rfl, h⟩
/-! X10_isTask -/
def R_X10_isTask (a1 : Int32) (σ : pw_Mem) (K : Int32 → pw_Mem → Prop) : Prop := R_X10_within a1 0 ((σ 26 4) - 1) σ (fun x2 τ1 => narrow .boolean (.int x2) = .int x2 ∧ K x2 τ1)
set_option maxHeartbeats 4000000 in
theorem c_X10_isTask {L : pw_Lay} {d : Nat} {a1 : Int32} {σ : pw_Mem} {K : Int32 → pw_Mem → Prop} (h : R_X10_isTask a1 σ K) : CT L (d + 1) m_X10_isTask [.ref 0, .int a1] σ (ki K) := by
  refine pw_enter (by decide) rfl (Nat.le_of_ble_eq_true rfl) (ls := [some (.ref 0), some (.int a1)]) rfl ?_
  unfold R_X10_isTask at h
  refine pw_iload_n (i := 1) dX10_isTask_0 rfl rfl ?_
  refine pw_iconst (v := 0) dX10_isTask_1 kc_0 ?_
  refine pw_aload_n (i := 0) dX10_isTask_2 rfl rfl ?_
  refine pw_getR dX10_isTask_3 fl_X10_58 rfl rfl ?_
  refine pw_getI dX10_isTask_6 fl_X10_202 rfl rfl ?_
  refine pw_iconst (v := 1) dX10_isTask_9 kc_1 ?_
  refine pw_isub dX10_isTask_10 ?_
  refine pw_cSi [.int a1, .int 0, .int ((σ 26 4) - 1)] dX10_isTask_11 ms_X10_83 rfl rfl (Nat.le_of_ble_eq_true rfl) (c_X10_within h) (fun x2 τ1 h => ?_)
  obtain ⟨hn, h⟩ := h
  exact pw_ret dX10_isTask_14 rfl hn ⟨_, rfl, h⟩
/-! X3_greatestAt -/
def R_X3_greatestAt_L5 (K : Int32 → pw_Mem → Prop) (KX : Int32 → Int32 → Int32 → pw_Mem → Prop) : Nat → Int32 → Int32 → Int32 → pw_Mem → Prop
  | 0, _, _, _, _ => False
  | n + 1, l1, l3, l4, σ => (((σ 22 3) ≤ l4 → KX l1 l3 l4 σ) ∧ (¬ (σ 22 3) ≤ l4 → vp_in l4 8 ∧ ((¬ (σ 23 (Int32.toNatClampNeg l4)) = l1 → R_X3_greatestAt_L5 K KX n l1 l3 (l4 + 1) σ) ∧ ((σ 23 (Int32.toNatClampNeg l4)) = l1 → vp_in l4 8 ∧ vp_in l4 8 ∧ vp_in (σ 24 (Int32.toNatClampNeg l4)) 20 ∧ R_X10_plus (σ 25 (Int32.toNatClampNeg l4)) (σ 21 (Int32.toNatClampNeg (σ 24 (Int32.toNatClampNeg l4)))) σ (fun x2 τ1 => R_X10_greater l3 x2 τ1 (fun x4 τ3 => R_X3_greatestAt_L5 K KX n l1 x4 (l4 + 1) τ3))))))
def R_X3_greatestAt (a1 : Int32) (σ : pw_Mem) (K : Int32 → pw_Mem → Prop) : Prop := ∃ n9, R_X3_greatestAt_L5 K (fun y5 y6 y7 τ8 => K y6 τ8) n9 a1 0 0 σ
set_option maxHeartbeats 4000000 in
theorem t_X3_greatestAt_L5 {L : pw_Lay} {d : Nat} {K : Int32 → pw_Mem → Prop} {KX : Int32 → Int32 → Int32 → pw_Mem → Prop} : ∀ (n : Nat) (l1 : Int32) (l3 : Int32) (l4 : Int32) (σ : pw_Mem), R_X3_greatestAt_L5 K KX n l1 l3 l4 σ → (∀ (l1 : Int32) (l3 : Int32) (l4 : Int32) (τ : pw_Mem), KX l1 l3 l4 τ → PW L (d + 1) m_X3_greatestAt (ki K) 55 [some (.ref 22), some (.int l1), some (.ref 21), some (.int l3), some (.int l4)] [] τ) → PW L (d + 1) m_X3_greatestAt (ki K) 5 [some (.ref 22), some (.int l1), some (.ref 21), some (.int l3), some (.int l4)] [] σ := by
  intro n
  induction n with
  | zero => intro l1 l3 l4 _ h _; exact h.elim
  | succ n ih =>
    intro l1 l3 l4 σ h hX
    unfold R_X3_greatestAt_L5 at h
    refine pw_iload dX3_greatestAt_5 rfl ?_
    refine pw_aload_n (i := 0) dX3_greatestAt_7 rfl rfl ?_
    refine pw_getI dX3_greatestAt_8 fl_X3_21 rfl rfl ?_
    refine pw_icmp_ge (tgt := 55) dX3_greatestAt_11 rfl (fun q => ?_) (fun q => ?_)
    · have h := h.1 q
      exact hX _ _ _ _ h
    · have h := h.2 q
      refine pw_aload_n (i := 0) dX3_greatestAt_14 rfl rfl ?_
      refine pw_getR dX3_greatestAt_15 fl_X3_9 rfl rfl ?_
      refine pw_iload dX3_greatestAt_18 rfl ?_
      obtain ⟨hb, h⟩ := h
      refine pw_iald dX3_greatestAt_20 rfl hb ?_
      refine pw_iload_n (i := 1) dX3_greatestAt_21 rfl rfl ?_
      refine pw_icmp_ne (tgt := 49) dX3_greatestAt_22 rfl (fun q => ?_) (fun q => ?_)
      · have h := h.1 q
        refine pw_iinc (i := 4) (v := l4 + 1) (ls' := [some (.ref 22), some (.int l1), some (.ref 21), some (.int l3), some (.int (l4 + 1))]) dX3_greatestAt_49 rfl (by rw [kc_1]) (Nat.le_of_ble_eq_true rfl) rfl ?_
        refine pw_goto (tgt := 5) dX3_greatestAt_52 rfl ?_
        exact ih _ _ _ _ h hX
      · have h := h.2 q
        refine pw_iload_n (i := 3) dX3_greatestAt_25 rfl rfl ?_
        refine pw_aload_n (i := 0) dX3_greatestAt_26 rfl rfl ?_
        refine pw_getR dX3_greatestAt_27 fl_X3_18 rfl rfl ?_
        refine pw_iload dX3_greatestAt_30 rfl ?_
        obtain ⟨hb, h⟩ := h
        refine pw_iald dX3_greatestAt_32 rfl hb ?_
        refine pw_aload_n (i := 2) dX3_greatestAt_33 rfl rfl ?_
        refine pw_aload_n (i := 0) dX3_greatestAt_34 rfl rfl ?_
        refine pw_getR dX3_greatestAt_35 fl_X3_15 rfl rfl ?_
        refine pw_iload dX3_greatestAt_38 rfl ?_
        obtain ⟨hb, h⟩ := h
        refine pw_iald dX3_greatestAt_40 rfl hb ?_
        obtain ⟨hb, h⟩ := h
        refine pw_iald dX3_greatestAt_41 rfl hb ?_
        refine pw_cNi [.int (σ 25 (Int32.toNatClampNeg l4)), .int (σ 21 (Int32.toNatClampNeg (σ 24 (Int32.toNatClampNeg l4))))] dX3_greatestAt_42 mn_X3_29 rfl rfl (Nat.le_of_ble_eq_true rfl) (c_X10_plus h) (fun x2 τ1 h => ?_)
        refine pw_cNi [.int l3, .int x2] dX3_greatestAt_45 mn_X3_33 rfl rfl (Nat.le_of_ble_eq_true rfl) (c_X10_greater h) (fun x4 τ3 h => ?_)
        refine pw_istore_n (i := 3) (ls' := [some (.ref 22), some (.int l1), some (.ref 21), some (.int x4), some (.int l4)]) dX3_greatestAt_48 rfl (Nat.le_of_ble_eq_true rfl) rfl ?_
        refine pw_iinc (i := 4) (v := l4 + 1) (ls' := [some (.ref 22), some (.int l1), some (.ref 21), some (.int x4), some (.int (l4 + 1))]) dX3_greatestAt_49 rfl (by rw [kc_1]) (Nat.le_of_ble_eq_true rfl) rfl ?_
        refine pw_goto (tgt := 5) dX3_greatestAt_52 rfl ?_
        exact ih _ _ _ _ h hX
set_option maxHeartbeats 4000000 in
theorem c_X3_greatestAt {L : pw_Lay} {d : Nat} {a1 : Int32} {σ : pw_Mem} {K : Int32 → pw_Mem → Prop} (h : R_X3_greatestAt a1 σ K) : CT L (d + 1) m_X3_greatestAt [.ref 22, .int a1, .ref 21] σ (ki K) := by
  refine pw_enter (by decide) rfl (Nat.le_of_ble_eq_true rfl) (ls := [some (.ref 22), some (.int a1), some (.ref 21), none, none]) rfl ?_
  unfold R_X3_greatestAt at h
  refine pw_iconst (v := 0) dX3_greatestAt_0 kc_0 ?_
  refine pw_istore_n (i := 3) (ls' := [some (.ref 22), some (.int a1), some (.ref 21), some (.int 0), none]) dX3_greatestAt_1 rfl (Nat.le_of_ble_eq_true rfl) rfl ?_
  refine pw_iconst (v := 0) dX3_greatestAt_2 kc_0 ?_
  refine pw_istore (i := 4) (ls' := [some (.ref 22), some (.int a1), some (.ref 21), some (.int 0), some (.int 0)]) dX3_greatestAt_3 (Nat.le_of_ble_eq_true rfl) rfl ?_
  obtain ⟨n9, h⟩ := h
  refine t_X3_greatestAt_L5 _ _ _ _ _ h (fun y5 y6 y7 τ8 h => ?_)
  refine pw_iload_n (i := 3) dX3_greatestAt_55 rfl rfl ?_
  exact pw_ret dX3_greatestAt_56 rfl rfl ⟨_, rfl, h⟩
/-! X3_topAbove -/
def R_X3_topAbove_L7 (K : Int32 → pw_Mem → Prop) (KX : Int32 → Int32 → Int32 → pw_Mem → Prop) : Nat → Int32 → Int32 → Int32 → pw_Mem → Prop
  | 0, _, _, _, _ => False
  | n + 1, l1, l3, l4, σ => ((7 < l4 → KX l1 l3 l4 σ) ∧ (¬ 7 < l4 → R_X3_greatestAt l4 σ (fun x2 τ1 => R_X10_plus l3 x2 τ1 (fun x4 τ3 => R_X3_topAbove_L7 K KX n l1 x4 (l4 + 1) τ3))))
def R_X3_topAbove (a1 : Int32) (σ : pw_Mem) (K : Int32 → pw_Mem → Prop) : Prop := ∃ n9, R_X3_topAbove_L7 K (fun y5 y6 y7 τ8 => K y6 τ8) n9 a1 0 (a1 + 1) σ
set_option maxHeartbeats 4000000 in
theorem t_X3_topAbove_L7 {L : pw_Lay} {d : Nat} {K : Int32 → pw_Mem → Prop} {KX : Int32 → Int32 → Int32 → pw_Mem → Prop} : ∀ (n : Nat) (l1 : Int32) (l3 : Int32) (l4 : Int32) (σ : pw_Mem), R_X3_topAbove_L7 K KX n l1 l3 l4 σ → (∀ (l1 : Int32) (l3 : Int32) (l4 : Int32) (τ : pw_Mem), KX l1 l3 l4 τ → PW L (d + 2) m_X3_topAbove (ki K) 32 [some (.ref 22), some (.int l1), some (.ref 21), some (.int l3), some (.int l4)] [] τ) → PW L (d + 2) m_X3_topAbove (ki K) 7 [some (.ref 22), some (.int l1), some (.ref 21), some (.int l3), some (.int l4)] [] σ := by
  intro n
  induction n with
  | zero => intro l1 l3 l4 _ h _; exact h.elim
  | succ n ih =>
    intro l1 l3 l4 σ h hX
    unfold R_X3_topAbove_L7 at h
    refine pw_iload dX3_topAbove_7 rfl ?_
    refine pw_bipush (v := 7) dX3_topAbove_9 kb_7 ?_
    refine pw_icmp_gt (tgt := 32) dX3_topAbove_11 rfl (fun q => ?_) (fun q => ?_)
    · have h := h.1 q
      exact hX _ _ _ _ h
    · have h := h.2 q
      refine pw_iload_n (i := 3) dX3_topAbove_14 rfl rfl ?_
      refine pw_aload_n (i := 0) dX3_topAbove_15 rfl rfl ?_
      refine pw_iload dX3_topAbove_16 rfl ?_
      refine pw_aload_n (i := 2) dX3_topAbove_18 rfl rfl ?_
      refine pw_cVi [.int l4, .ref 21] dX3_topAbove_19 mv_X3_25 rfl rfl rfl (Nat.le_of_ble_eq_true rfl) (c_X3_greatestAt h) (fun x2 τ1 h => ?_)
      refine pw_cNi [.int l3, .int x2] dX3_topAbove_22 mn_X3_29 rfl rfl (Nat.le_of_ble_eq_true rfl) (c_X10_plus h) (fun x4 τ3 h => ?_)
      refine pw_istore_n (i := 3) (ls' := [some (.ref 22), some (.int l1), some (.ref 21), some (.int x4), some (.int l4)]) dX3_topAbove_25 rfl (Nat.le_of_ble_eq_true rfl) rfl ?_
      refine pw_iinc (i := 4) (v := l4 + 1) (ls' := [some (.ref 22), some (.int l1), some (.ref 21), some (.int x4), some (.int (l4 + 1))]) dX3_topAbove_26 rfl (by rw [kc_1]) (Nat.le_of_ble_eq_true rfl) rfl ?_
      refine pw_goto (tgt := 7) dX3_topAbove_29 rfl ?_
      exact ih _ _ _ _ h hX
set_option maxHeartbeats 4000000 in
theorem c_X3_topAbove {L : pw_Lay} {d : Nat} {a1 : Int32} {σ : pw_Mem} {K : Int32 → pw_Mem → Prop} (h : R_X3_topAbove a1 σ K) : CT L (d + 2) m_X3_topAbove [.ref 22, .int a1, .ref 21] σ (ki K) := by
  refine pw_enter (by decide) rfl (Nat.le_of_ble_eq_true rfl) (ls := [some (.ref 22), some (.int a1), some (.ref 21), none, none]) rfl ?_
  unfold R_X3_topAbove at h
  refine pw_iconst (v := 0) dX3_topAbove_0 kc_0 ?_
  refine pw_istore_n (i := 3) (ls' := [some (.ref 22), some (.int a1), some (.ref 21), some (.int 0), none]) dX3_topAbove_1 rfl (Nat.le_of_ble_eq_true rfl) rfl ?_
  refine pw_iload_n (i := 1) dX3_topAbove_2 rfl rfl ?_
  refine pw_iconst (v := 1) dX3_topAbove_3 kc_1 ?_
  refine pw_iadd dX3_topAbove_4 ?_
  refine pw_istore (i := 4) (ls' := [some (.ref 22), some (.int a1), some (.ref 21), some (.int 0), some (.int (a1 + 1))]) dX3_topAbove_5 (Nat.le_of_ble_eq_true rfl) rfl ?_
  obtain ⟨n9, h⟩ := h
  refine t_X3_topAbove_L7 _ _ _ _ _ h (fun y5 y6 y7 τ8 h => ?_)
  refine pw_iload_n (i := 3) dX3_topAbove_32 rfl rfl ?_
  exact pw_ret dX3_topAbove_33 rfl rfl ⟨_, rfl, h⟩
/-! X10_totalAsMeasured -/
def R_X10_totalAsMeasured (a1 : Int32) (σ : pw_Mem) (K : Int32 → pw_Mem → Prop) : Prop := vp_in a1 6 ∧ vp_in (σ 27 (Int32.toNatClampNeg a1)) 20 ∧ vp_in a1 6 ∧ R_X3_topAbove (σ 28 (Int32.toNatClampNeg a1)) σ (fun x2 τ1 => R_X10_plus (σ 21 (Int32.toNatClampNeg (σ 27 (Int32.toNatClampNeg a1)))) x2 τ1 (fun x4 τ3 => K x4 τ3))
set_option maxHeartbeats 4000000 in
theorem c_X10_totalAsMeasured {L : pw_Lay} {d : Nat} {a1 : Int32} {σ : pw_Mem} {K : Int32 → pw_Mem → Prop} (h : R_X10_totalAsMeasured a1 σ K) : CT L (d + 3) m_X10_totalAsMeasured [.ref 0, .int a1] σ (ki K) := by
  refine pw_enter (by decide) rfl (Nat.le_of_ble_eq_true rfl) (ls := [some (.ref 0), some (.int a1)]) rfl ?_
  unfold R_X10_totalAsMeasured at h
  refine pw_aload_n (i := 0) dX10_totalAsMeasured_0 rfl rfl ?_
  refine pw_getR dX10_totalAsMeasured_1 fl_X10_44 rfl rfl ?_
  refine pw_getR dX10_totalAsMeasured_4 fl_X10_180 rfl rfl ?_
  refine pw_aload_n (i := 0) dX10_totalAsMeasured_7 rfl rfl ?_
  refine pw_getR dX10_totalAsMeasured_8 fl_X10_58 rfl rfl ?_
  refine pw_getR dX10_totalAsMeasured_11 fl_X10_207 rfl rfl ?_
  refine pw_iload_n (i := 1) dX10_totalAsMeasured_14 rfl rfl ?_
  obtain ⟨hb, h⟩ := h
  refine pw_iald dX10_totalAsMeasured_15 rfl hb ?_
  obtain ⟨hb, h⟩ := h
  refine pw_iald dX10_totalAsMeasured_16 rfl hb ?_
  refine pw_aload_n (i := 0) dX10_totalAsMeasured_17 rfl rfl ?_
  refine pw_getR dX10_totalAsMeasured_18 fl_X10_51 rfl rfl ?_
  refine pw_aload_n (i := 0) dX10_totalAsMeasured_21 rfl rfl ?_
  refine pw_getR dX10_totalAsMeasured_22 fl_X10_58 rfl rfl ?_
  refine pw_getR dX10_totalAsMeasured_25 fl_X10_209 rfl rfl ?_
  refine pw_iload_n (i := 1) dX10_totalAsMeasured_28 rfl rfl ?_
  obtain ⟨hb, h⟩ := h
  refine pw_iald dX10_totalAsMeasured_29 rfl hb ?_
  refine pw_aload_n (i := 0) dX10_totalAsMeasured_30 rfl rfl ?_
  refine pw_getR dX10_totalAsMeasured_31 fl_X10_44 rfl rfl ?_
  refine pw_getR dX10_totalAsMeasured_34 fl_X10_180 rfl rfl ?_
  refine pw_cVi [.int (σ 28 (Int32.toNatClampNeg a1)), .ref 21] dX10_totalAsMeasured_37 mv_X10_212 rfl rfl rfl (Nat.le_of_ble_eq_true rfl) (c_X3_topAbove h) (fun x2 τ1 h => ?_)
  refine pw_cSi [.int (σ 21 (Int32.toNatClampNeg (σ 27 (Int32.toNatClampNeg a1)))), .int x2] dX10_totalAsMeasured_40 ms_X10_323 rfl rfl (Nat.le_of_ble_eq_true rfl) (c_X10_plus h) (fun x4 τ3 h => ?_)
  exact pw_ret dX10_totalAsMeasured_43 rfl rfl ⟨_, rfl, h⟩
/-! X10_roomAsMeasured -/
def R_X10_roomAsMeasured (a1 : Int32) (σ : pw_Mem) (K : Int32 → pw_Mem → Prop) : Prop := R_X10_totalAsMeasured a1 σ (fun x2 τ1 => vp_in a1 6 ∧ R_X10_plus x2 (τ1 29 (Int32.toNatClampNeg a1)) τ1 (fun x4 τ3 => K x4 τ3))
set_option maxHeartbeats 4000000 in
theorem c_X10_roomAsMeasured {L : pw_Lay} {d : Nat} {a1 : Int32} {σ : pw_Mem} {K : Int32 → pw_Mem → Prop} (h : R_X10_roomAsMeasured a1 σ K) : CT L (d + 4) m_X10_roomAsMeasured [.ref 0, .int a1] σ (ki K) := by
  refine pw_enter (by decide) rfl (Nat.le_of_ble_eq_true rfl) (ls := [some (.ref 0), some (.int a1)]) rfl ?_
  unfold R_X10_roomAsMeasured at h
  refine pw_aload_n (i := 0) dX10_roomAsMeasured_0 rfl rfl ?_
  refine pw_iload_n (i := 1) dX10_roomAsMeasured_1 rfl rfl ?_
  refine pw_cVi [.int a1] dX10_roomAsMeasured_2 mv_X10_216 rfl rfl rfl (Nat.le_of_ble_eq_true rfl) (c_X10_totalAsMeasured h) (fun x2 τ1 h => ?_)
  refine pw_aload_n (i := 0) dX10_roomAsMeasured_5 rfl rfl ?_
  refine pw_getR dX10_roomAsMeasured_6 fl_X10_58 rfl rfl ?_
  refine pw_getR dX10_roomAsMeasured_9 fl_X10_326 rfl rfl ?_
  refine pw_iload_n (i := 1) dX10_roomAsMeasured_12 rfl rfl ?_
  obtain ⟨hb, h⟩ := h
  refine pw_iald dX10_roomAsMeasured_13 rfl hb ?_
  refine pw_cSi [.int x2, .int (τ1 29 (Int32.toNatClampNeg a1))] dX10_roomAsMeasured_14 ms_X10_323 rfl rfl (Nat.le_of_ble_eq_true rfl) (c_X10_plus h) (fun x4 τ3 h => ?_)
  exact pw_ret dX10_roomAsMeasured_17 rfl rfl ⟨_, rfl, h⟩
/-! X10_total -/
def R_X10_total (a1 : Int32) (a2 : Int32) (σ : pw_Mem) (K : Int32 → pw_Mem → Prop) : Prop := R_X10_isTask a1 σ (fun x2 τ1 => ((¬ x2 = 0 → R_X1_measure (-1) τ1 (fun τ3 => (((a2 = nI 0 ∨ a2 = nI 1 ∨ a2 = nI 2 ∨ a2 = nI 3) ∨ ∀ c : Nat, c ≤ 3 → ¬ a2 = nI c) ∧ (a2 = nI 0 → vp_in a1 6 ∧ vp_in (τ3 27 (Int32.toNatClampNeg a1)) 20 ∧ K (τ3 21 (Int32.toNatClampNeg (τ3 27 (Int32.toNatClampNeg a1)))) τ3) ∧ (a2 = nI 1 → vp_in a1 6 ∧ R_X3_topAbove (τ3 28 (Int32.toNatClampNeg a1)) τ3 (fun x5 τ4 => K x5 τ4)) ∧ (a2 = nI 2 → R_X10_totalAsMeasured a1 τ3 (fun x7 τ6 => K x7 τ6)) ∧ (a2 = nI 3 → R_X10_roomAsMeasured a1 τ3 (fun x9 τ8 => K x9 τ8)) ∧ ((∀ c : Nat, c ≤ 3 → ¬ a2 = nI c) → K (-1) τ3)))) ∧ (x2 = 0 → K (-1) τ1)))
set_option maxHeartbeats 4000000 in
theorem c_X10_total {L : pw_Lay} {d : Nat} {a1 : Int32} {a2 : Int32} {σ : pw_Mem} {K : Int32 → pw_Mem → Prop} (h : R_X10_total a1 a2 σ K) : CT L (d + 5) m_X10_total [.ref 0, .int a1, .int a2] σ (ki K) := by
  refine pw_enter (by decide) rfl (Nat.le_of_ble_eq_true rfl) (ls := [some (.ref 0), some (.int a1), some (.int a2)]) rfl ?_
  unfold R_X10_total at h
  refine pw_aload_n (i := 0) dX10_total_0 rfl rfl ?_
  refine pw_iload_n (i := 1) dX10_total_1 rfl rfl ?_
  refine pw_cVi [.int a1] dX10_total_2 mv_X10_204 rfl rfl rfl (Nat.le_of_ble_eq_true rfl) (c_X10_isTask h) (fun x2 τ1 h => ?_)
  refine pw_if_ne (tgt := 10) dX10_total_5 rfl (fun q => ?_) (fun q => ?_)
  · have h := h.1 q
    refine pw_aload_n (i := 0) dX10_total_10 rfl rfl ?_
    refine pw_getR dX10_total_11 fl_X10_44 rfl rfl ?_
    refine pw_iconst (v := (-1)) dX10_total_14 kc_m1 ?_
    refine pw_cVv [.int (-1)] dX10_total_15 mv_X10_176 rfl rfl rfl (Nat.le_of_ble_eq_true rfl) (c_X1_measure h) (fun τ3 h => ?_)
    refine pw_iload_n (i := 2) dX10_total_18 rfl rfl ?_
    have hsw := h.1
    have h := h.2
    rcases hsw with hsw | hi
    · rcases hsw with hi | hi | hi | hi
      · have h := h.1 hi
        refine pw_sw (tgt := 48) 0 dX10_total_19 hi (by decide) (by decide) rfl rfl ?_
        refine pw_aload_n (i := 0) dX10_total_48 rfl rfl ?_
        refine pw_getR dX10_total_49 fl_X10_44 rfl rfl ?_
        refine pw_getR dX10_total_52 fl_X10_180 rfl rfl ?_
        refine pw_aload_n (i := 0) dX10_total_55 rfl rfl ?_
        refine pw_getR dX10_total_56 fl_X10_58 rfl rfl ?_
        refine pw_getR dX10_total_59 fl_X10_207 rfl rfl ?_
        refine pw_iload_n (i := 1) dX10_total_62 rfl rfl ?_
        obtain ⟨hb, h⟩ := h
        refine pw_iald dX10_total_63 rfl hb ?_
        obtain ⟨hb, h⟩ := h
        refine pw_iald dX10_total_64 rfl hb ?_
        exact pw_ret dX10_total_65 rfl rfl ⟨_, rfl, h⟩
      · have h := h.2.1 hi
        refine pw_sw (tgt := 66) 1 dX10_total_19 hi (by decide) (by decide) rfl rfl ?_
        refine pw_aload_n (i := 0) dX10_total_66 rfl rfl ?_
        refine pw_getR dX10_total_67 fl_X10_51 rfl rfl ?_
        refine pw_aload_n (i := 0) dX10_total_70 rfl rfl ?_
        refine pw_getR dX10_total_71 fl_X10_58 rfl rfl ?_
        refine pw_getR dX10_total_74 fl_X10_209 rfl rfl ?_
        refine pw_iload_n (i := 1) dX10_total_77 rfl rfl ?_
        obtain ⟨hb, h⟩ := h
        refine pw_iald dX10_total_78 rfl hb ?_
        refine pw_aload_n (i := 0) dX10_total_79 rfl rfl ?_
        refine pw_getR dX10_total_80 fl_X10_44 rfl rfl ?_
        refine pw_getR dX10_total_83 fl_X10_180 rfl rfl ?_
        refine pw_cVi [.int (τ3 28 (Int32.toNatClampNeg a1)), .ref 21] dX10_total_86 mv_X10_212 rfl rfl rfl (Nat.le_of_ble_eq_true rfl) (c_X3_topAbove h) (fun x5 τ4 h => ?_)
        exact pw_ret dX10_total_89 rfl rfl ⟨_, rfl, h⟩
      · have h := h.2.2.1 hi
        refine pw_sw (tgt := 90) 2 dX10_total_19 hi (by decide) (by decide) rfl rfl ?_
        refine pw_aload_n (i := 0) dX10_total_90 rfl rfl ?_
        refine pw_iload_n (i := 1) dX10_total_91 rfl rfl ?_
        refine pw_cVi [.int a1] dX10_total_92 mv_X10_216 rfl rfl rfl (Nat.le_of_ble_eq_true rfl) (c_X10_totalAsMeasured h) (fun x7 τ6 h => ?_)
        exact pw_ret dX10_total_95 rfl rfl ⟨_, rfl, h⟩
      · have h := h.2.2.2.1 hi
        refine pw_sw (tgt := 96) 3 dX10_total_19 hi (by decide) (by decide) rfl rfl ?_
        refine pw_aload_n (i := 0) dX10_total_96 rfl rfl ?_
        refine pw_iload_n (i := 1) dX10_total_97 rfl rfl ?_
        refine pw_cVi [.int a1] dX10_total_98 mv_X10_219 rfl rfl rfl (Nat.le_of_ble_eq_true rfl) (c_X10_roomAsMeasured h) (fun x9 τ8 h => ?_)
        exact pw_ret dX10_total_101 rfl rfl ⟨_, rfl, h⟩
    · have h := h.2.2.2.2 hi
      refine pw_swd (hi := 3) (tgt := 102) dX10_total_19 (by decide) hi rfl ?_
      refine pw_iconst (v := (-1)) dX10_total_102 kc_m1 ?_
      exact pw_ret dX10_total_103 rfl rfl ⟨_, rfl, h⟩
  · have h := h.2 q
    refine pw_iconst (v := (-1)) dX10_total_8 kc_m1 ?_
    exact pw_ret dX10_total_9 rfl rfl ⟨_, rfl, h⟩
/-! X8_setApart -/
def R_X8_setApart (a1 : Int32) (a2 : Int32) (a3 : Int32) (σ : pw_Mem) (K : pw_Mem → Prop) : Prop := ((a3 = 0 → vp_in a1 6 ∧ vp_in a1 6 ∧ ∀ τ1, τ1 = pw_up σ 30 (Int32.toNatClampNeg a1) ((σ 30 (Int32.toNatClampNeg a1)) &&& ((1 <<< (a2 &&& 31)) ^^^ (-1))) → vp_in a2 6 ∧ vp_in a2 6 ∧ ∀ τ2, τ2 = pw_up τ1 30 (Int32.toNatClampNeg a2) ((τ1 30 (Int32.toNatClampNeg a2)) &&& ((1 <<< (a1 &&& 31)) ^^^ (-1))) → K τ2) ∧ (¬ a3 = 0 → vp_in a1 6 ∧ vp_in a1 6 ∧ ∀ τ3, τ3 = pw_up σ 30 (Int32.toNatClampNeg a1) ((σ 30 (Int32.toNatClampNeg a1)) ||| (1 <<< (a2 &&& 31))) → vp_in a2 6 ∧ vp_in a2 6 ∧ ∀ τ4, τ4 = pw_up τ3 30 (Int32.toNatClampNeg a2) ((τ3 30 (Int32.toNatClampNeg a2)) ||| (1 <<< (a1 &&& 31))) → K τ4))
set_option maxHeartbeats 4000000 in
theorem c_X8_setApart {L : pw_Lay} {d : Nat} {a1 : Int32} {a2 : Int32} {a3 : Int32} {σ : pw_Mem} {K : pw_Mem → Prop} (h : R_X8_setApart a1 a2 a3 σ K) : CT L (d + 0) m_X8_setApart [.ref 26, .int a1, .int a2, .int a3] σ (kv K) := by
  refine pw_enter (by decide) rfl (Nat.le_of_ble_eq_true rfl) (ls := [some (.ref 26), some (.int a1), some (.int a2), some (.int a3)]) rfl ?_
  unfold R_X8_setApart at h
  refine pw_iload_n (i := 3) dX8_setApart_0 rfl rfl ?_
  refine pw_if_eq (tgt := 31) dX8_setApart_1 rfl (fun q => ?_) (fun q => ?_)
  · have h := h.1 q
    refine pw_aload_n (i := 0) dX8_setApart_31 rfl rfl ?_
    refine pw_getR dX8_setApart_32 fl_X8_21 rfl rfl ?_
    refine pw_iload_n (i := 1) dX8_setApart_35 rfl rfl ?_
    refine pw_dup2 dX8_setApart_36 rfl rfl ?_
    obtain ⟨hb, h⟩ := h
    refine pw_iald dX8_setApart_37 rfl hb ?_
    refine pw_iconst (v := 1) dX8_setApart_38 kc_1 ?_
    refine pw_iload_n (i := 2) dX8_setApart_39 rfl rfl ?_
    refine pw_ishl dX8_setApart_40 ?_
    refine pw_iconst (v := (-1)) dX8_setApart_41 kc_m1 ?_
    refine pw_ixor dX8_setApart_42 ?_
    refine pw_iand dX8_setApart_43 ?_
    obtain ⟨hb, h⟩ := h
    refine pw_iast dX8_setApart_44 rfl hb ?_
    generalize hτ1 : pw_up σ 30 (Int32.toNatClampNeg a1) ((σ 30 (Int32.toNatClampNeg a1)) &&& ((1 <<< (a2 &&& 31)) ^^^ (-1))) = τ1
    have h := h τ1 hτ1.symm
    refine pw_aload_n (i := 0) dX8_setApart_45 rfl rfl ?_
    refine pw_getR dX8_setApart_46 fl_X8_21 rfl rfl ?_
    refine pw_iload_n (i := 2) dX8_setApart_49 rfl rfl ?_
    refine pw_dup2 dX8_setApart_50 rfl rfl ?_
    obtain ⟨hb, h⟩ := h
    refine pw_iald dX8_setApart_51 rfl hb ?_
    refine pw_iconst (v := 1) dX8_setApart_52 kc_1 ?_
    refine pw_iload_n (i := 1) dX8_setApart_53 rfl rfl ?_
    refine pw_ishl dX8_setApart_54 ?_
    refine pw_iconst (v := (-1)) dX8_setApart_55 kc_m1 ?_
    refine pw_ixor dX8_setApart_56 ?_
    refine pw_iand dX8_setApart_57 ?_
    obtain ⟨hb, h⟩ := h
    refine pw_iast dX8_setApart_58 rfl hb ?_
    generalize hτ2 : pw_up τ1 30 (Int32.toNatClampNeg a2) ((τ1 30 (Int32.toNatClampNeg a2)) &&& ((1 <<< (a1 &&& 31)) ^^^ (-1))) = τ2
    have h := h τ2 hτ2.symm
    exact pw_vret dX8_setApart_59 rfl ⟨rfl, h⟩
  · have h := h.2 q
    refine pw_aload_n (i := 0) dX8_setApart_4 rfl rfl ?_
    refine pw_getR dX8_setApart_5 fl_X8_21 rfl rfl ?_
    refine pw_iload_n (i := 1) dX8_setApart_8 rfl rfl ?_
    refine pw_dup2 dX8_setApart_9 rfl rfl ?_
    obtain ⟨hb, h⟩ := h
    refine pw_iald dX8_setApart_10 rfl hb ?_
    refine pw_iconst (v := 1) dX8_setApart_11 kc_1 ?_
    refine pw_iload_n (i := 2) dX8_setApart_12 rfl rfl ?_
    refine pw_ishl dX8_setApart_13 ?_
    refine pw_ior dX8_setApart_14 ?_
    obtain ⟨hb, h⟩ := h
    refine pw_iast dX8_setApart_15 rfl hb ?_
    generalize hτ3 : pw_up σ 30 (Int32.toNatClampNeg a1) ((σ 30 (Int32.toNatClampNeg a1)) ||| (1 <<< (a2 &&& 31))) = τ3
    have h := h τ3 hτ3.symm
    refine pw_aload_n (i := 0) dX8_setApart_16 rfl rfl ?_
    refine pw_getR dX8_setApart_17 fl_X8_21 rfl rfl ?_
    refine pw_iload_n (i := 2) dX8_setApart_20 rfl rfl ?_
    refine pw_dup2 dX8_setApart_21 rfl rfl ?_
    obtain ⟨hb, h⟩ := h
    refine pw_iald dX8_setApart_22 rfl hb ?_
    refine pw_iconst (v := 1) dX8_setApart_23 kc_1 ?_
    refine pw_iload_n (i := 1) dX8_setApart_24 rfl rfl ?_
    refine pw_ishl dX8_setApart_25 ?_
    refine pw_ior dX8_setApart_26 ?_
    obtain ⟨hb, h⟩ := h
    refine pw_iast dX8_setApart_27 rfl hb ?_
    generalize hτ4 : pw_up τ3 30 (Int32.toNatClampNeg a2) ((τ3 30 (Int32.toNatClampNeg a2)) ||| (1 <<< (a1 &&& 31))) = τ4
    have h := h τ4 hτ4.symm
    refine pw_goto (tgt := 59) dX8_setApart_28 rfl ?_
    exact pw_vret dX8_setApart_59 rfl ⟨rfl, h⟩
/-! X10_apart -/
def R_X10_apart (a1 : Int32) (a2 : Int32) (a3 : Int32) (σ : pw_Mem) (K : Int32 → pw_Mem → Prop) : Prop := R_X10_isTask a1 σ (fun x2 τ1 => ((x2 = 0 → K (-1) τ1) ∧ (¬ x2 = 0 → R_X10_isTask a2 τ1 (fun x4 τ3 => ((x4 = 0 → K (-1) τ3) ∧ (¬ x4 = 0 → ((¬ a1 = a2 → vp_in a1 6 ∧ R_X10_holds (τ3 30 (Int32.toNatClampNeg a1)) a2 τ3 (fun x6 τ5 => ((x6 = 0 → R_X8_setApart a1 a2 a3 τ5 (fun τ7 => K 0 τ7)) ∧ (¬ x6 = 0 → R_X8_setApart a1 a2 a3 τ5 (fun τ8 => K 1 τ8))))) ∧ (a1 = a2 → K (-1) τ3))))))))
set_option maxHeartbeats 4000000 in
theorem c_X10_apart {L : pw_Lay} {d : Nat} {a1 : Int32} {a2 : Int32} {a3 : Int32} {σ : pw_Mem} {K : Int32 → pw_Mem → Prop} (h : R_X10_apart a1 a2 a3 σ K) : CT L (d + 2) m_X10_apart [.ref 0, .int a1, .int a2, .int a3] σ (ki K) := by
  refine pw_enter (by decide) rfl (Nat.le_of_ble_eq_true rfl) (ls := [some (.ref 0), some (.int a1), some (.int a2), some (.int a3), none]) rfl ?_
  unfold R_X10_apart at h
  refine pw_aload_n (i := 0) dX10_apart_0 rfl rfl ?_
  refine pw_iload_n (i := 1) dX10_apart_1 rfl rfl ?_
  refine pw_cVi [.int a1] dX10_apart_2 mv_X10_204 rfl rfl rfl (Nat.le_of_ble_eq_true rfl) (c_X10_isTask h) (fun x2 τ1 h => ?_)
  refine pw_if_eq (tgt := 21) dX10_apart_5 rfl (fun q => ?_) (fun q => ?_)
  · have h := h.1 q
    refine pw_iconst (v := (-1)) dX10_apart_21 kc_m1 ?_
    exact pw_ret dX10_apart_22 rfl rfl ⟨_, rfl, h⟩
  · have h := h.2 q
    refine pw_aload_n (i := 0) dX10_apart_8 rfl rfl ?_
    refine pw_iload_n (i := 2) dX10_apart_9 rfl rfl ?_
    refine pw_cVi [.int a2] dX10_apart_10 mv_X10_204 rfl rfl rfl (Nat.le_of_ble_eq_true rfl) (c_X10_isTask h) (fun x4 τ3 h => ?_)
    refine pw_if_eq (tgt := 21) dX10_apart_13 rfl (fun q => ?_) (fun q => ?_)
    · have h := h.1 q
      refine pw_iconst (v := (-1)) dX10_apart_21 kc_m1 ?_
      exact pw_ret dX10_apart_22 rfl rfl ⟨_, rfl, h⟩
    · have h := h.2 q
      refine pw_iload_n (i := 1) dX10_apart_16 rfl rfl ?_
      refine pw_iload_n (i := 2) dX10_apart_17 rfl rfl ?_
      refine pw_icmp_ne (tgt := 23) dX10_apart_18 rfl (fun q => ?_) (fun q => ?_)
      · have h := h.1 q
        refine pw_aload_n (i := 0) dX10_apart_23 rfl rfl ?_
        refine pw_getR dX10_apart_24 fl_X10_58 rfl rfl ?_
        refine pw_getR dX10_apart_27 fl_X10_222 rfl rfl ?_
        refine pw_iload_n (i := 1) dX10_apart_30 rfl rfl ?_
        obtain ⟨hb, h⟩ := h
        refine pw_iald dX10_apart_31 rfl hb ?_
        refine pw_iload_n (i := 2) dX10_apart_32 rfl rfl ?_
        refine pw_cSi [.int (τ3 30 (Int32.toNatClampNeg a1)), .int a2] dX10_apart_33 ms_X10_136 rfl rfl (Nat.le_of_ble_eq_true rfl) (c_X10_holds h) (fun x6 τ5 h => ?_)
        refine pw_if_eq (tgt := 43) dX10_apart_36 rfl (fun q => ?_) (fun q => ?_)
        · have h := h.1 q
          refine pw_iconst (v := 0) dX10_apart_43 kc_0 ?_
          refine pw_istore (i := 4) (ls' := [some (.ref 0), some (.int a1), some (.int a2), some (.int a3), some (.int 0)]) dX10_apart_44 (Nat.le_of_ble_eq_true rfl) rfl ?_
          refine pw_aload_n (i := 0) dX10_apart_46 rfl rfl ?_
          refine pw_getR dX10_apart_47 fl_X10_58 rfl rfl ?_
          refine pw_iload_n (i := 1) dX10_apart_50 rfl rfl ?_
          refine pw_iload_n (i := 2) dX10_apart_51 rfl rfl ?_
          refine pw_iload_n (i := 3) dX10_apart_52 rfl rfl ?_
          refine pw_cVv [.int a1, .int a2, .int a3] dX10_apart_53 mv_X10_225 rfl rfl rfl (Nat.le_of_ble_eq_true rfl) (c_X8_setApart h) (fun τ7 h => ?_)
          refine pw_iload dX10_apart_56 rfl ?_
          exact pw_ret dX10_apart_58 rfl rfl ⟨_, rfl, h⟩
        · have h := h.2 q
          refine pw_iconst (v := 1) dX10_apart_39 kc_1 ?_
          refine pw_goto (tgt := 44) dX10_apart_40 rfl ?_
          refine pw_istore (i := 4) (ls' := [some (.ref 0), some (.int a1), some (.int a2), some (.int a3), some (.int 1)]) dX10_apart_44 (Nat.le_of_ble_eq_true rfl) rfl ?_
          refine pw_aload_n (i := 0) dX10_apart_46 rfl rfl ?_
          refine pw_getR dX10_apart_47 fl_X10_58 rfl rfl ?_
          refine pw_iload_n (i := 1) dX10_apart_50 rfl rfl ?_
          refine pw_iload_n (i := 2) dX10_apart_51 rfl rfl ?_
          refine pw_iload_n (i := 3) dX10_apart_52 rfl rfl ?_
          refine pw_cVv [.int a1, .int a2, .int a3] dX10_apart_53 mv_X10_225 rfl rfl rfl (Nat.le_of_ble_eq_true rfl) (c_X8_setApart h) (fun τ8 h => ?_)
          refine pw_iload dX10_apart_56 rfl ?_
          exact pw_ret dX10_apart_58 rfl rfl ⟨_, rfl, h⟩
      · have h := h.2 q
        refine pw_iconst (v := (-1)) dX10_apart_21 kc_m1 ?_
        exact pw_ret dX10_apart_22 rfl rfl ⟨_, rfl, h⟩
/-! X6_keep -/
def R_X6_keep_L7 (K : pw_Mem → Prop) (KX : Int32 → Int32 → pw_Mem → Prop) : Nat → Int32 → Int32 → pw_Mem → Prop
  | 0, _, _, _ => False
  | n + 1, l1, l2, σ => ((6 ≤ l2 → KX l1 l2 σ) ∧ (¬ 6 ≤ l2 → vp_in l2 6 ∧ vp_in l2 6 ∧ ∀ τ2, τ2 = pw_up σ 33 (Int32.toNatClampNeg l2) (σ 34 (Int32.toNatClampNeg l2)) → R_X6_keep_L7 K KX n l1 (l2 + 1) τ2))
def R_X6_keep (a1 : Int32) (σ : pw_Mem) (K : pw_Mem → Prop) : Prop := ∀ τ1, τ1 = pw_up σ 31 5 a1 → ∃ n6, R_X6_keep_L7 K (fun y3 y4 τ5 => K τ5) n6 a1 0 τ1
set_option maxHeartbeats 4000000 in
theorem t_X6_keep_L7 {L : pw_Lay} {d : Nat} {K : pw_Mem → Prop} {KX : Int32 → Int32 → pw_Mem → Prop} : ∀ (n : Nat) (l1 : Int32) (l2 : Int32) (σ : pw_Mem), R_X6_keep_L7 K KX n l1 l2 σ → (∀ (l1 : Int32) (l2 : Int32) (τ : pw_Mem), KX l1 l2 τ → PW L (d + 0) m_X6_keep (kv K) 31 [some (.ref 31), some (.int l1), some (.int l2)] [] τ) → PW L (d + 0) m_X6_keep (kv K) 7 [some (.ref 31), some (.int l1), some (.int l2)] [] σ := by
  intro n
  induction n with
  | zero => intro l1 l2 _ h _; exact h.elim
  | succ n ih =>
    intro l1 l2 σ h hX
    unfold R_X6_keep_L7 at h
    refine pw_iload_n (i := 2) dX6_keep_7 rfl rfl ?_
    refine pw_bipush (v := 6) dX6_keep_8 kb_6 ?_
    refine pw_icmp_ge (tgt := 31) dX6_keep_10 rfl (fun q => ?_) (fun q => ?_)
    · have h := h.1 q
      exact hX _ _ _ h
    · have h := h.2 q
      refine pw_aload_n (i := 0) dX6_keep_13 rfl rfl ?_
      refine pw_getR dX6_keep_14 fl_X6_15 rfl rfl ?_
      refine pw_iload_n (i := 2) dX6_keep_17 rfl rfl ?_
      refine pw_aload_n (i := 0) dX6_keep_18 rfl rfl ?_
      refine pw_getR dX6_keep_19 fl_X6_18 rfl rfl ?_
      refine pw_iload_n (i := 2) dX6_keep_22 rfl rfl ?_
      obtain ⟨hb, h⟩ := h
      refine pw_iald dX6_keep_23 rfl hb ?_
      obtain ⟨hb, h⟩ := h
      refine pw_iast dX6_keep_24 rfl hb ?_
      generalize hτ2 : pw_up σ 33 (Int32.toNatClampNeg l2) (σ 34 (Int32.toNatClampNeg l2)) = τ2
      have h := h τ2 hτ2.symm
      refine pw_iinc (i := 2) (v := l2 + 1) (ls' := [some (.ref 31), some (.int l1), some (.int (l2 + 1))]) dX6_keep_25 rfl (by rw [kc_1]) (Nat.le_of_ble_eq_true rfl) rfl ?_
      refine pw_goto (tgt := 7) dX6_keep_28 rfl ?_
      exact ih _ _ _ h hX
set_option maxHeartbeats 4000000 in
theorem c_X6_keep {L : pw_Lay} {d : Nat} {a1 : Int32} {σ : pw_Mem} {K : pw_Mem → Prop} (h : R_X6_keep a1 σ K) : CT L (d + 0) m_X6_keep [.ref 31, .int a1] σ (kv K) := by
  refine pw_enter (by decide) rfl (Nat.le_of_ble_eq_true rfl) (ls := [some (.ref 31), some (.int a1), none]) rfl ?_
  unfold R_X6_keep at h
  refine pw_aload_n (i := 0) dX6_keep_0 rfl rfl ?_
  refine pw_iload_n (i := 1) dX6_keep_1 rfl rfl ?_
  refine pw_put dX6_keep_2 fp_X6_27 rfl rfl rfl rfl ?_
  generalize hτ1 : pw_up σ 31 5 a1 = τ1
  have h := h τ1 hτ1.symm
  refine pw_iconst (v := 0) dX6_keep_5 kc_0 ?_
  refine pw_istore_n (i := 2) (ls' := [some (.ref 31), some (.int a1), some (.int 0)]) dX6_keep_6 rfl (Nat.le_of_ble_eq_true rfl) rfl ?_
  obtain ⟨n6, h⟩ := h
  refine t_X6_keep_L7 _ _ _ _ h (fun y3 y4 τ5 h => ?_)
  exact pw_vret dX6_keep_31 rfl ⟨rfl, h⟩
/-! X6_place -/
def R_X6_place_L28 (RC : Int32 → Int32 → Int32 → pw_Mem → (pw_Mem → Prop) → Prop) (K : pw_Mem → Prop) (KX : Int32 → Int32 → Int32 → Int32 → pw_Mem → Prop) : Nat → Int32 → Int32 → Int32 → Int32 → pw_Mem → Prop
  | 0, _, _, _, _, _ => False
  | n + 1, l2, l3, l4, l5, σ => ((l3 < l5 → KX l2 l3 l4 l5 σ) ∧ (¬ l3 < l5 → ((6 ≤ l5 → KX l2 l3 l4 l5 σ) ∧ (¬ 6 ≤ l5 → vp_in l5 6 ∧ vp_in l2 6 ∧ ((¬ ((σ 35 (Int32.toNatClampNeg l5)) &&& ((σ 30 (Int32.toNatClampNeg l2)) ^^^ (-1))) = 0 → R_X6_place_L28 RC K KX n l2 l3 l4 (l5 + 1) σ) ∧ (((σ 35 (Int32.toNatClampNeg l5)) &&& ((σ 30 (Int32.toNatClampNeg l2)) ^^^ (-1))) = 0 → vp_in l5 6 ∧ vp_in l2 6 ∧ vp_in l5 6 ∧ ∀ τ1, τ1 = pw_up σ 36 (Int32.toNatClampNeg l5) (if (σ 36 (Int32.toNatClampNeg l5)) < (σ 32 (Int32.toNatClampNeg l2)) then (σ 32 (Int32.toNatClampNeg l2)) else (σ 36 (Int32.toNatClampNeg l5))) → vp_in l5 6 ∧ vp_in l5 6 ∧ ∀ τ2, τ2 = pw_up τ1 35 (Int32.toNatClampNeg l5) ((τ1 35 (Int32.toNatClampNeg l5)) ||| (1 <<< (l2 &&& 31))) → vp_in l2 6 ∧ ∀ τ3, τ3 = pw_up τ2 34 (Int32.toNatClampNeg l2) l5 → vp_in l5 6 ∧ RC (l2 + 1) (if l3 < (l5 + 1) then (l5 + 1) else l3) ((l4 - (σ 36 (Int32.toNatClampNeg l5))) + (τ3 36 (Int32.toNatClampNeg l5))) τ3 (fun τ4 => vp_in l5 6 ∧ vp_in l5 6 ∧ ∀ τ5, τ5 = pw_up τ4 35 (Int32.toNatClampNeg l5) ((τ4 35 (Int32.toNatClampNeg l5)) &&& ((1 <<< (l2 &&& 31)) ^^^ (-1))) → vp_in l5 6 ∧ ∀ τ6, τ6 = pw_up τ5 36 (Int32.toNatClampNeg l5) (σ 36 (Int32.toNatClampNeg l5)) → R_X6_place_L28 RC K KX n l2 l3 l4 (l5 + 1) τ6)))))))
def R_X6_place (RC : Int32 → Int32 → Int32 → pw_Mem → (pw_Mem → Prop) → Prop) (a2 : Int32) (a3 : Int32) (a4 : Int32) (σ : pw_Mem) (K : pw_Mem → Prop) : Prop := ((a4 < (σ 31 5) → ((a2 < (σ 26 4) → ∃ n12, R_X6_place_L28 RC K (fun y7 y8 y9 y10 τ11 => K τ11) n12 a2 a3 a4 0 σ) ∧ (¬ a2 < (σ 26 4) → R_X6_keep a4 σ (fun τ13 => K τ13)))) ∧ (¬ a4 < (σ 31 5) → K σ))
set_option maxHeartbeats 4000000 in
theorem t_X6_place_L28 {L : pw_Lay} {d : Nat} {K : pw_Mem → Prop} {KX : Int32 → Int32 → Int32 → Int32 → pw_Mem → Prop} {RC : Int32 → Int32 → Int32 → pw_Mem → (pw_Mem → Prop) → Prop} (hRC : ∀ (a2 : Int32) (a3 : Int32) (a4 : Int32) (σ : pw_Mem) (K : pw_Mem → Prop), RC a2 a3 a4 σ K → CT L (d + 0) m_X6_place [.ref 31, .ref 26, .int a2, .int a3, .int a4] σ (kv K)) : ∀ (n : Nat) (l2 : Int32) (l3 : Int32) (l4 : Int32) (l5 : Int32) (σ : pw_Mem), R_X6_place_L28 RC K KX n l2 l3 l4 l5 σ → (∀ (l2 : Int32) (l3 : Int32) (l4 : Int32) (l5 : Int32) (τ : pw_Mem), KX l2 l3 l4 l5 τ → PW L (d + 1) m_X6_place (kv K) 167 [some (.ref 31), some (.ref 26), some (.int l2), some (.int l3), some (.int l4), some (.int l5), none] [] τ) → PW L (d + 1) m_X6_place (kv K) 28 [some (.ref 31), some (.ref 26), some (.int l2), some (.int l3), some (.int l4), some (.int l5), none] [] σ := by
  intro n
  induction n with
  | zero => intro l2 l3 l4 l5 _ h _; exact h.elim
  | succ n ih =>
    intro l2 l3 l4 l5 σ h hX
    unfold R_X6_place_L28 at h
    refine pw_iload dX6_place_28 rfl ?_
    refine pw_iload_n (i := 3) dX6_place_30 rfl rfl ?_
    refine pw_icmp_gt (tgt := 167) dX6_place_31 rfl (fun q => ?_) (fun q => ?_)
    · have h := h.1 q
      exact hX _ _ _ _ _ h
    · have h := h.2 q
      refine pw_iload dX6_place_34 rfl ?_
      refine pw_bipush (v := 6) dX6_place_36 kb_6 ?_
      refine pw_icmp_ge (tgt := 167) dX6_place_38 rfl (fun q => ?_) (fun q => ?_)
      · have h := h.1 q
        exact hX _ _ _ _ _ h
      · have h := h.2 q
        refine pw_aload_n (i := 0) dX6_place_41 rfl rfl ?_
        refine pw_getR dX6_place_42 fl_X6_21 rfl rfl ?_
        refine pw_iload dX6_place_45 rfl ?_
        obtain ⟨hb, h⟩ := h
        refine pw_iald dX6_place_47 rfl hb ?_
        refine pw_aload_n (i := 1) dX6_place_48 rfl rfl ?_
        refine pw_getR dX6_place_49 fl_X6_44 rfl rfl ?_
        refine pw_iload_n (i := 2) dX6_place_52 rfl rfl ?_
        obtain ⟨hb, h⟩ := h
        refine pw_iald dX6_place_53 rfl hb ?_
        refine pw_iconst (v := (-1)) dX6_place_54 kc_m1 ?_
        refine pw_ixor dX6_place_55 ?_
        refine pw_iand dX6_place_56 ?_
        refine pw_if_ne (tgt := 161) dX6_place_57 rfl (fun q => ?_) (fun q => ?_)
        · have h := h.1 q
          refine pw_iinc (i := 5) (v := l5 + 1) (ls' := [some (.ref 31), some (.ref 26), some (.int l2), some (.int l3), some (.int l4), some (.int (l5 + 1)), none]) dX6_place_161 rfl (by rw [kc_1]) (Nat.le_of_ble_eq_true rfl) rfl ?_
          refine pw_goto (tgt := 28) dX6_place_164 rfl ?_
          exact ih _ _ _ _ _ h hX
        · have h := h.2 q
          refine pw_aload_n (i := 0) dX6_place_60 rfl rfl ?_
          refine pw_getR dX6_place_61 fl_X6_24 rfl rfl ?_
          refine pw_iload dX6_place_64 rfl ?_
          obtain ⟨hb, h⟩ := h
          refine pw_iald dX6_place_66 rfl hb ?_
          refine pw_istore (i := 6) (ls' := [some (.ref 31), some (.ref 26), some (.int l2), some (.int l3), some (.int l4), some (.int l5), some (.int (σ 36 (Int32.toNatClampNeg l5)))]) dX6_place_67 (Nat.le_of_ble_eq_true rfl) rfl ?_
          refine pw_aload_n (i := 0) dX6_place_69 rfl rfl ?_
          refine pw_getR dX6_place_70 fl_X6_24 rfl rfl ?_
          refine pw_iload dX6_place_73 rfl ?_
          refine pw_iload dX6_place_75 rfl ?_
          refine pw_aload_n (i := 0) dX6_place_77 rfl rfl ?_
          refine pw_getR dX6_place_78 fl_X6_9 rfl rfl ?_
          refine pw_iload_n (i := 2) dX6_place_81 rfl rfl ?_
          obtain ⟨hb, h⟩ := h
          refine pw_iald dX6_place_82 rfl hb ?_
          refine pw_mmax dX6_place_83 ms_X6_47 (Nat.le_of_ble_eq_true rfl) ?_
          obtain ⟨hb, h⟩ := h
          refine pw_iast dX6_place_86 rfl hb ?_
          generalize hτ1 : pw_up σ 36 (Int32.toNatClampNeg l5) (if (σ 36 (Int32.toNatClampNeg l5)) < (σ 32 (Int32.toNatClampNeg l2)) then (σ 32 (Int32.toNatClampNeg l2)) else (σ 36 (Int32.toNatClampNeg l5))) = τ1
          have h := h τ1 hτ1.symm
          refine pw_aload_n (i := 0) dX6_place_87 rfl rfl ?_
          refine pw_getR dX6_place_88 fl_X6_21 rfl rfl ?_
          refine pw_iload dX6_place_91 rfl ?_
          refine pw_dup2 dX6_place_93 rfl rfl ?_
          obtain ⟨hb, h⟩ := h
          refine pw_iald dX6_place_94 rfl hb ?_
          refine pw_iconst (v := 1) dX6_place_95 kc_1 ?_
          refine pw_iload_n (i := 2) dX6_place_96 rfl rfl ?_
          refine pw_ishl dX6_place_97 ?_
          refine pw_ior dX6_place_98 ?_
          obtain ⟨hb, h⟩ := h
          refine pw_iast dX6_place_99 rfl hb ?_
          generalize hτ2 : pw_up τ1 35 (Int32.toNatClampNeg l5) ((τ1 35 (Int32.toNatClampNeg l5)) ||| (1 <<< (l2 &&& 31))) = τ2
          have h := h τ2 hτ2.symm
          refine pw_aload_n (i := 0) dX6_place_100 rfl rfl ?_
          refine pw_getR dX6_place_101 fl_X6_18 rfl rfl ?_
          refine pw_iload_n (i := 2) dX6_place_104 rfl rfl ?_
          refine pw_iload dX6_place_105 rfl ?_
          obtain ⟨hb, h⟩ := h
          refine pw_iast dX6_place_107 rfl hb ?_
          generalize hτ3 : pw_up τ2 34 (Int32.toNatClampNeg l2) l5 = τ3
          have h := h τ3 hτ3.symm
          refine pw_aload_n (i := 0) dX6_place_108 rfl rfl ?_
          refine pw_aload_n (i := 1) dX6_place_109 rfl rfl ?_
          refine pw_iload_n (i := 2) dX6_place_110 rfl rfl ?_
          refine pw_iconst (v := 1) dX6_place_111 kc_1 ?_
          refine pw_iadd dX6_place_112 ?_
          refine pw_iload_n (i := 3) dX6_place_113 rfl rfl ?_
          refine pw_iload dX6_place_114 rfl ?_
          refine pw_iconst (v := 1) dX6_place_116 kc_1 ?_
          refine pw_iadd dX6_place_117 ?_
          refine pw_mmax dX6_place_118 ms_X6_47 (Nat.le_of_ble_eq_true rfl) ?_
          refine pw_iload dX6_place_121 rfl ?_
          refine pw_iload dX6_place_123 rfl ?_
          refine pw_isub dX6_place_125 ?_
          refine pw_aload_n (i := 0) dX6_place_126 rfl rfl ?_
          refine pw_getR dX6_place_127 fl_X6_24 rfl rfl ?_
          refine pw_iload dX6_place_130 rfl ?_
          obtain ⟨hb, h⟩ := h
          refine pw_iald dX6_place_132 rfl hb ?_
          refine pw_iadd dX6_place_133 ?_
          refine pw_cVv [.ref 26, .int (l2 + 1), .int (if l3 < (l5 + 1) then (l5 + 1) else l3), .int ((l4 - (σ 36 (Int32.toNatClampNeg l5))) + (τ3 36 (Int32.toNatClampNeg l5)))] dX6_place_134 mv_X6_36 rfl rfl rfl (Nat.le_of_ble_eq_true rfl) (hRC _ _ _ _ _ h) (fun τ4 h => ?_)
          refine pw_aload_n (i := 0) dX6_place_137 rfl rfl ?_
          refine pw_getR dX6_place_138 fl_X6_21 rfl rfl ?_
          refine pw_iload dX6_place_141 rfl ?_
          refine pw_dup2 dX6_place_143 rfl rfl ?_
          obtain ⟨hb, h⟩ := h
          refine pw_iald dX6_place_144 rfl hb ?_
          refine pw_iconst (v := 1) dX6_place_145 kc_1 ?_
          refine pw_iload_n (i := 2) dX6_place_146 rfl rfl ?_
          refine pw_ishl dX6_place_147 ?_
          refine pw_iconst (v := (-1)) dX6_place_148 kc_m1 ?_
          refine pw_ixor dX6_place_149 ?_
          refine pw_iand dX6_place_150 ?_
          obtain ⟨hb, h⟩ := h
          refine pw_iast dX6_place_151 rfl hb ?_
          generalize hτ5 : pw_up τ4 35 (Int32.toNatClampNeg l5) ((τ4 35 (Int32.toNatClampNeg l5)) &&& ((1 <<< (l2 &&& 31)) ^^^ (-1))) = τ5
          have h := h τ5 hτ5.symm
          refine pw_aload_n (i := 0) dX6_place_152 rfl rfl ?_
          refine pw_getR dX6_place_153 fl_X6_24 rfl rfl ?_
          refine pw_iload dX6_place_156 rfl ?_
          refine pw_iload dX6_place_158 rfl ?_
          obtain ⟨hb, h⟩ := h
          refine pw_iast dX6_place_160 rfl hb ?_
          generalize hτ6 : pw_up τ5 36 (Int32.toNatClampNeg l5) (σ 36 (Int32.toNatClampNeg l5)) = τ6
          have h := h τ6 hτ6.symm
          refine pw_iinc (i := 5) (v := l5 + 1) (ls' := [some (.ref 31), some (.ref 26), some (.int l2), some (.int l3), some (.int l4), some (.int (l5 + 1)), some (.int (σ 36 (Int32.toNatClampNeg l5)))]) dX6_place_161 rfl (by rw [kc_1]) (Nat.le_of_ble_eq_true rfl) rfl ?_
          refine pw_goto (tgt := 28) dX6_place_164 rfl ?_
          refine pw_forget (ls' := [some (.ref 31), some (.ref 26), some (.int l2), some (.int l3), some (.int l4), some (.int (l5 + 1)), none]) (And.intro rfl (And.intro rfl (And.intro rfl (And.intro rfl (And.intro rfl (And.intro rfl trivial)))))) ?_
          exact ih _ _ _ _ _ h hX
set_option maxHeartbeats 4000000 in
theorem c_X6_place {L : pw_Lay} {d : Nat} {a2 : Int32} {a3 : Int32} {a4 : Int32} {σ : pw_Mem} {K : pw_Mem → Prop} {RC : Int32 → Int32 → Int32 → pw_Mem → (pw_Mem → Prop) → Prop} (hRC : ∀ (a2 : Int32) (a3 : Int32) (a4 : Int32) (σ : pw_Mem) (K : pw_Mem → Prop), RC a2 a3 a4 σ K → CT L (d + 0) m_X6_place [.ref 31, .ref 26, .int a2, .int a3, .int a4] σ (kv K)) (h : R_X6_place RC a2 a3 a4 σ K) : CT L (d + 1) m_X6_place [.ref 31, .ref 26, .int a2, .int a3, .int a4] σ (kv K) := by
  refine pw_enter (by decide) rfl (Nat.le_of_ble_eq_true rfl) (ls := [some (.ref 31), some (.ref 26), some (.int a2), some (.int a3), some (.int a4), none, none]) rfl ?_
  unfold R_X6_place at h
  refine pw_iload dX6_place_0 rfl ?_
  refine pw_aload_n (i := 0) dX6_place_2 rfl rfl ?_
  refine pw_getI dX6_place_3 fl_X6_27 rfl rfl ?_
  refine pw_icmp_lt (tgt := 10) dX6_place_6 rfl (fun q => ?_) (fun q => ?_)
  · have h := h.1 q
    refine pw_iload_n (i := 2) dX6_place_10 rfl rfl ?_
    refine pw_aload_n (i := 1) dX6_place_11 rfl rfl ?_
    refine pw_getI dX6_place_12 fl_X6_31 rfl rfl ?_
    refine pw_icmp_lt (tgt := 25) dX6_place_15 rfl (fun q => ?_) (fun q => ?_)
    · have h := h.1 q
      refine pw_iconst (v := 0) dX6_place_25 kc_0 ?_
      refine pw_istore (i := 5) (ls' := [some (.ref 31), some (.ref 26), some (.int a2), some (.int a3), some (.int a4), some (.int 0), none]) dX6_place_26 (Nat.le_of_ble_eq_true rfl) rfl ?_
      obtain ⟨n12, h⟩ := h
      refine t_X6_place_L28 hRC _ _ _ _ _ _ h (fun y7 y8 y9 y10 τ11 h => ?_)
      exact pw_vret dX6_place_167 rfl ⟨rfl, h⟩
    · have h := h.2 q
      refine pw_aload_n (i := 0) dX6_place_18 rfl rfl ?_
      refine pw_iload dX6_place_19 rfl ?_
      refine pw_cVv [.int a4] dX6_place_21 mv_X6_40 rfl rfl rfl (Nat.le_of_ble_eq_true rfl) (c_X6_keep h) (fun τ13 h => ?_)
      exact pw_vret dX6_place_24 rfl ⟨rfl, h⟩
  · have h := h.2 q
    exact pw_vret dX6_place_9 rfl ⟨rfl, h⟩
def R_X6_place_D : Nat → Int32 → Int32 → Int32 → pw_Mem → (pw_Mem → Prop) → Prop
  | 0, _, _, _, _, _ => False
  | D + 1, a2, a3, a4, σ, K => R_X6_place (R_X6_place_D D) a2 a3 a4 σ K
theorem c_X6_place_D {L : pw_Lay} {d : Nat} : ∀ (D : Nat) {a2 a3 a4 : Int32} {σ : pw_Mem} {K : pw_Mem → Prop}, R_X6_place_D D a2 a3 a4 σ K → CT L (d + D + 1) m_X6_place [.ref 31, .ref 26, .int a2, .int a3, .int a4] σ (kv K) := by
  intro D
  induction D with
  | zero => intro a2 a3 a4 σ K h; exact h.elim
  | succ D ih => intro a2 a3 a4 σ K h; exact c_X6_place (L := L) (d := d + D + 1) (fun a2 a3 a4 σ K h => ih h) h
/-! X6_divide -/
def R_X6_divide_L7 (K : Int32 → pw_Mem → Prop) (KX : Int32 → pw_Mem → Prop) : Nat → Int32 → pw_Mem → Prop
  | 0, _, _ => False
  | n + 1, l2, σ => (((σ 26 4) ≤ l2 → KX l2 σ) ∧ (¬ (σ 26 4) ≤ l2 → vp_in l2 6 ∧ ∀ τ2, τ2 = pw_up σ 31 5 ((σ 31 5) + (σ 32 (Int32.toNatClampNeg l2))) → R_X6_divide_L7 K KX n (l2 + 1) τ2))
def R_X6_divide  (σ : pw_Mem) (K : Int32 → pw_Mem → Prop) : Prop := ∀ τ1, τ1 = pw_up σ 31 5 1 → ∃ n6, R_X6_divide_L7 K (fun y3 τ4 => R_X6_place_D 7 0 0 0 τ4 (fun τ5 => K (τ5 31 5) τ5)) n6 0 τ1
set_option maxHeartbeats 4000000 in
theorem t_X6_divide_L7 {L : pw_Lay} {d : Nat} {K : Int32 → pw_Mem → Prop} {KX : Int32 → pw_Mem → Prop} : ∀ (n : Nat) (l2 : Int32) (σ : pw_Mem), R_X6_divide_L7 K KX n l2 σ → (∀ (l2 : Int32) (τ : pw_Mem), KX l2 τ → PW L (d + 9) m_X6_divide (ki K) 36 [some (.ref 31), some (.ref 26), some (.int l2)] [] τ) → PW L (d + 9) m_X6_divide (ki K) 7 [some (.ref 31), some (.ref 26), some (.int l2)] [] σ := by
  intro n
  induction n with
  | zero => intro l2 _ h _; exact h.elim
  | succ n ih =>
    intro l2 σ h hX
    unfold R_X6_divide_L7 at h
    refine pw_iload_n (i := 2) dX6_divide_7 rfl rfl ?_
    refine pw_aload_n (i := 1) dX6_divide_8 rfl rfl ?_
    refine pw_getI dX6_divide_9 fl_X6_31 rfl rfl ?_
    refine pw_icmp_ge (tgt := 36) dX6_divide_12 rfl (fun q => ?_) (fun q => ?_)
    · have h := h.1 q
      exact hX _ _ h
    · have h := h.2 q
      refine pw_aload_n (i := 0) dX6_divide_15 rfl rfl ?_
      refine pw_dup dX6_divide_16 rfl ?_
      refine pw_getI dX6_divide_17 fl_X6_27 rfl rfl ?_
      refine pw_aload_n (i := 0) dX6_divide_20 rfl rfl ?_
      refine pw_getR dX6_divide_21 fl_X6_9 rfl rfl ?_
      refine pw_iload_n (i := 2) dX6_divide_24 rfl rfl ?_
      obtain ⟨hb, h⟩ := h
      refine pw_iald dX6_divide_25 rfl hb ?_
      refine pw_iadd dX6_divide_26 ?_
      refine pw_put dX6_divide_27 fp_X6_27 rfl rfl rfl rfl ?_
      generalize hτ2 : pw_up σ 31 5 ((σ 31 5) + (σ 32 (Int32.toNatClampNeg l2))) = τ2
      have h := h τ2 hτ2.symm
      refine pw_iinc (i := 2) (v := l2 + 1) (ls' := [some (.ref 31), some (.ref 26), some (.int (l2 + 1))]) dX6_divide_30 rfl (by rw [kc_1]) (Nat.le_of_ble_eq_true rfl) rfl ?_
      refine pw_goto (tgt := 7) dX6_divide_33 rfl ?_
      exact ih _ _ h hX
set_option maxHeartbeats 4000000 in
theorem c_X6_divide {L : pw_Lay} {d : Nat}  {σ : pw_Mem} {K : Int32 → pw_Mem → Prop} (h : R_X6_divide  σ K) : CT L (d + 9) m_X6_divide [.ref 31, .ref 26] σ (ki K) := by
  refine pw_enter (by decide) rfl (Nat.le_of_ble_eq_true rfl) (ls := [some (.ref 31), some (.ref 26), none]) rfl ?_
  unfold R_X6_divide at h
  refine pw_aload_n (i := 0) dX6_divide_0 rfl rfl ?_
  refine pw_iconst (v := 1) dX6_divide_1 kc_1 ?_
  refine pw_put dX6_divide_2 fp_X6_27 rfl rfl rfl rfl ?_
  generalize hτ1 : pw_up σ 31 5 1 = τ1
  have h := h τ1 hτ1.symm
  refine pw_iconst (v := 0) dX6_divide_5 kc_0 ?_
  refine pw_istore_n (i := 2) (ls' := [some (.ref 31), some (.ref 26), some (.int 0)]) dX6_divide_6 rfl (Nat.le_of_ble_eq_true rfl) rfl ?_
  obtain ⟨n6, h⟩ := h
  refine t_X6_divide_L7 _ _ _ h (fun y3 τ4 h => ?_)
  refine pw_aload_n (i := 0) dX6_divide_36 rfl rfl ?_
  refine pw_aload_n (i := 1) dX6_divide_37 rfl rfl ?_
  refine pw_iconst (v := 0) dX6_divide_38 kc_0 ?_
  refine pw_iconst (v := 0) dX6_divide_39 kc_0 ?_
  refine pw_iconst (v := 0) dX6_divide_40 kc_0 ?_
  refine pw_cVv [.ref 26, .int 0, .int 0, .int 0] dX6_divide_41 mv_X6_36 rfl rfl rfl (Nat.le_of_ble_eq_true rfl) (c_X6_place_D 7 h) (fun τ5 h => ?_)
  refine pw_aload_n (i := 0) dX6_divide_44 rfl rfl ?_
  refine pw_getI dX6_divide_45 fl_X6_27 rfl rfl ?_
  exact pw_ret dX6_divide_48 rfl rfl ⟨_, rfl, h⟩
/-! X10_shareRooms -/
def R_X10_shareRooms_L10 (K : Int32 → pw_Mem → Prop) (KX : Int32 → pw_Mem → Prop) : Nat → Int32 → pw_Mem → Prop
  | 0, _, _ => False
  | n + 1, l1, σ => (((σ 26 4) ≤ l1 → KX l1 σ) ∧ (¬ (σ 26 4) ≤ l1 → R_X10_roomAsMeasured l1 σ (fun x3 τ2 => ((¬ x3 = (-5) → vp_in l1 6 ∧ ∀ τ4, τ4 = pw_up τ2 32 (Int32.toNatClampNeg l1) x3 → R_X10_shareRooms_L10 K KX n (l1 + 1) τ4) ∧ (x3 = (-5) → K (-5) τ2)))))
def R_X10_shareRooms  (σ : pw_Mem) (K : Int32 → pw_Mem → Prop) : Prop := R_X1_measure (-1) σ (fun τ1 => ∃ n9, R_X10_shareRooms_L10 K (fun y5 τ6 => R_X6_divide  τ6 (fun x8 τ7 => K x8 τ7)) n9 0 τ1)
set_option maxHeartbeats 4000000 in
theorem t_X10_shareRooms_L10 {L : pw_Lay} {d : Nat} {K : Int32 → pw_Mem → Prop} {KX : Int32 → pw_Mem → Prop} : ∀ (n : Nat) (l1 : Int32) (σ : pw_Mem), R_X10_shareRooms_L10 K KX n l1 σ → (∀ (l1 : Int32) (τ : pw_Mem), KX l1 τ → PW L (d + 10) m_X10_shareRooms (ki K) 52 [some (.ref 0), some (.int l1), none] [] τ) → PW L (d + 10) m_X10_shareRooms (ki K) 10 [some (.ref 0), some (.int l1), none] [] σ := by
  intro n
  induction n with
  | zero => intro l1 _ h _; exact h.elim
  | succ n ih =>
    intro l1 σ h hX
    unfold R_X10_shareRooms_L10 at h
    refine pw_iload_n (i := 1) dX10_shareRooms_10 rfl rfl ?_
    refine pw_aload_n (i := 0) dX10_shareRooms_11 rfl rfl ?_
    refine pw_getR dX10_shareRooms_12 fl_X10_58 rfl rfl ?_
    refine pw_getI dX10_shareRooms_15 fl_X10_202 rfl rfl ?_
    refine pw_icmp_ge (tgt := 52) dX10_shareRooms_18 rfl (fun q => ?_) (fun q => ?_)
    · have h := h.1 q
      exact hX _ _ h
    · have h := h.2 q
      refine pw_aload_n (i := 0) dX10_shareRooms_21 rfl rfl ?_
      refine pw_iload_n (i := 1) dX10_shareRooms_22 rfl rfl ?_
      refine pw_cVi [.int l1] dX10_shareRooms_23 mv_X10_219 rfl rfl rfl (Nat.le_of_ble_eq_true rfl) (c_X10_roomAsMeasured h) (fun x3 τ2 h => ?_)
      refine pw_istore_n (i := 2) (ls' := [some (.ref 0), some (.int l1), some (.int x3)]) dX10_shareRooms_26 rfl (Nat.le_of_ble_eq_true rfl) rfl ?_
      refine pw_iload_n (i := 2) dX10_shareRooms_27 rfl rfl ?_
      refine pw_bipush (v := (-5)) dX10_shareRooms_28 kb_m5 ?_
      refine pw_icmp_ne (tgt := 36) dX10_shareRooms_30 rfl (fun q => ?_) (fun q => ?_)
      · have h := h.1 q
        refine pw_aload_n (i := 0) dX10_shareRooms_36 rfl rfl ?_
        refine pw_getR dX10_shareRooms_37 fl_X10_65 rfl rfl ?_
        refine pw_getR dX10_shareRooms_40 fl_X10_329 rfl rfl ?_
        refine pw_iload_n (i := 1) dX10_shareRooms_43 rfl rfl ?_
        refine pw_iload_n (i := 2) dX10_shareRooms_44 rfl rfl ?_
        obtain ⟨hb, h⟩ := h
        refine pw_iast dX10_shareRooms_45 rfl hb ?_
        generalize hτ4 : pw_up τ2 32 (Int32.toNatClampNeg l1) x3 = τ4
        have h := h τ4 hτ4.symm
        refine pw_iinc (i := 1) (v := l1 + 1) (ls' := [some (.ref 0), some (.int (l1 + 1)), some (.int x3)]) dX10_shareRooms_46 rfl (by rw [kc_1]) (Nat.le_of_ble_eq_true rfl) rfl ?_
        refine pw_goto (tgt := 10) dX10_shareRooms_49 rfl ?_
        refine pw_forget (ls' := [some (.ref 0), some (.int (l1 + 1)), none]) (And.intro rfl (And.intro rfl trivial)) ?_
        exact ih _ _ h hX
      · have h := h.2 q
        refine pw_bipush (v := (-5)) dX10_shareRooms_33 kb_m5 ?_
        exact pw_ret dX10_shareRooms_35 rfl rfl ⟨_, rfl, h⟩
set_option maxHeartbeats 4000000 in
theorem c_X10_shareRooms {L : pw_Lay} {d : Nat}  {σ : pw_Mem} {K : Int32 → pw_Mem → Prop} (h : R_X10_shareRooms  σ K) : CT L (d + 10) m_X10_shareRooms [.ref 0] σ (ki K) := by
  refine pw_enter (by decide) rfl (Nat.le_of_ble_eq_true rfl) (ls := [some (.ref 0), none, none]) rfl ?_
  unfold R_X10_shareRooms at h
  refine pw_aload_n (i := 0) dX10_shareRooms_0 rfl rfl ?_
  refine pw_getR dX10_shareRooms_1 fl_X10_44 rfl rfl ?_
  refine pw_iconst (v := (-1)) dX10_shareRooms_4 kc_m1 ?_
  refine pw_cVv [.int (-1)] dX10_shareRooms_5 mv_X10_176 rfl rfl rfl (Nat.le_of_ble_eq_true rfl) (c_X1_measure h) (fun τ1 h => ?_)
  refine pw_iconst (v := 0) dX10_shareRooms_8 kc_0 ?_
  refine pw_istore_n (i := 1) (ls' := [some (.ref 0), some (.int 0), none]) dX10_shareRooms_9 rfl (Nat.le_of_ble_eq_true rfl) rfl ?_
  obtain ⟨n9, h⟩ := h
  refine t_X10_shareRooms_L10 _ _ _ h (fun y5 τ6 h => ?_)
  refine pw_aload_n (i := 0) dX10_shareRooms_52 rfl rfl ?_
  refine pw_getR dX10_shareRooms_53 fl_X10_65 rfl rfl ?_
  refine pw_aload_n (i := 0) dX10_shareRooms_56 rfl rfl ?_
  refine pw_getR dX10_shareRooms_57 fl_X10_58 rfl rfl ?_
  refine pw_cVi [.ref 26] dX10_shareRooms_60 mv_X10_332 rfl rfl rfl (Nat.le_of_ble_eq_true rfl) (c_X6_divide h) (fun x8 τ7 h => ?_)
  exact pw_ret dX10_shareRooms_63 rfl rfl ⟨_, rfl, h⟩
/-! X10_shared -/
def R_X10_shared  (σ : pw_Mem) (K : Int32 → pw_Mem → Prop) : Prop := R_X10_shareRooms  σ (fun x2 τ1 => K x2 τ1)
set_option maxHeartbeats 4000000 in
theorem c_X10_shared {L : pw_Lay} {d : Nat}  {σ : pw_Mem} {K : Int32 → pw_Mem → Prop} (h : R_X10_shared  σ K) : CT L (d + 11) m_X10_shared [.ref 0] σ (ki K) := by
  refine pw_enter (by decide) rfl (Nat.le_of_ble_eq_true rfl) (ls := [some (.ref 0)]) rfl ?_
  unfold R_X10_shared at h
  refine pw_aload_n (i := 0) dX10_shared_0 rfl rfl ?_
  refine pw_cVi [] dX10_shared_1 mv_X10_229 rfl rfl rfl (Nat.le_of_ble_eq_true rfl) (c_X10_shareRooms h) (fun x2 τ1 h => ?_)
  exact pw_ret dX10_shared_4 rfl rfl ⟨_, rfl, h⟩
/-! X10_group -/
def R_X10_group (a1 : Int32) (σ : pw_Mem) (K : Int32 → pw_Mem → Prop) : Prop := R_X10_isTask a1 σ (fun x2 τ1 => ((¬ x2 = 0 → R_X10_shareRooms  τ1 (fun x4 τ3 => ((¬ x4 = (-5) → vp_in a1 6 ∧ K (τ3 33 (Int32.toNatClampNeg a1)) τ3) ∧ (x4 = (-5) → K (-5) τ3)))) ∧ (x2 = 0 → K (-1) τ1)))
set_option maxHeartbeats 4000000 in
theorem c_X10_group {L : pw_Lay} {d : Nat} {a1 : Int32} {σ : pw_Mem} {K : Int32 → pw_Mem → Prop} (h : R_X10_group a1 σ K) : CT L (d + 11) m_X10_group [.ref 0, .int a1] σ (ki K) := by
  refine pw_enter (by decide) rfl (Nat.le_of_ble_eq_true rfl) (ls := [some (.ref 0), some (.int a1)]) rfl ?_
  unfold R_X10_group at h
  refine pw_aload_n (i := 0) dX10_group_0 rfl rfl ?_
  refine pw_iload_n (i := 1) dX10_group_1 rfl rfl ?_
  refine pw_cVi [.int a1] dX10_group_2 mv_X10_204 rfl rfl rfl (Nat.le_of_ble_eq_true rfl) (c_X10_isTask h) (fun x2 τ1 h => ?_)
  refine pw_if_ne (tgt := 10) dX10_group_5 rfl (fun q => ?_) (fun q => ?_)
  · have h := h.1 q
    refine pw_aload_n (i := 0) dX10_group_10 rfl rfl ?_
    refine pw_cVi [] dX10_group_11 mv_X10_229 rfl rfl rfl (Nat.le_of_ble_eq_true rfl) (c_X10_shareRooms h) (fun x4 τ3 h => ?_)
    refine pw_bipush (v := (-5)) dX10_group_14 kb_m5 ?_
    refine pw_icmp_ne (tgt := 24) dX10_group_16 rfl (fun q => ?_) (fun q => ?_)
    · have h := h.1 q
      refine pw_aload_n (i := 0) dX10_group_24 rfl rfl ?_
      refine pw_getR dX10_group_25 fl_X10_65 rfl rfl ?_
      refine pw_getR dX10_group_28 fl_X10_232 rfl rfl ?_
      refine pw_iload_n (i := 1) dX10_group_31 rfl rfl ?_
      obtain ⟨hb, h⟩ := h
      refine pw_iald dX10_group_32 rfl hb ?_
      exact pw_ret dX10_group_33 rfl rfl ⟨_, rfl, h⟩
    · have h := h.2 q
      refine pw_bipush (v := (-5)) dX10_group_19 kb_m5 ?_
      refine pw_goto (tgt := 33) dX10_group_21 rfl ?_
      exact pw_ret dX10_group_33 rfl rfl ⟨_, rfl, h⟩
  · have h := h.2 q
    refine pw_iconst (v := (-1)) dX10_group_8 kc_m1 ?_
    exact pw_ret dX10_group_9 rfl rfl ⟨_, rfl, h⟩
/-! X10_totalWithout -/
def R_X10_totalWithout (a1 : Int32) (a2 : Int32) (σ : pw_Mem) (K : Int32 → pw_Mem → Prop) : Prop := R_X1_measure a2 σ (fun τ1 => R_X10_totalAsMeasured a1 τ1 (fun x3 τ2 => K x3 τ2))
set_option maxHeartbeats 4000000 in
theorem c_X10_totalWithout {L : pw_Lay} {d : Nat} {a1 : Int32} {a2 : Int32} {σ : pw_Mem} {K : Int32 → pw_Mem → Prop} (h : R_X10_totalWithout a1 a2 σ K) : CT L (d + 5) m_X10_totalWithout [.ref 0, .int a1, .int a2] σ (ki K) := by
  refine pw_enter (by decide) rfl (Nat.le_of_ble_eq_true rfl) (ls := [some (.ref 0), some (.int a1), some (.int a2)]) rfl ?_
  unfold R_X10_totalWithout at h
  refine pw_aload_n (i := 0) dX10_totalWithout_0 rfl rfl ?_
  refine pw_getR dX10_totalWithout_1 fl_X10_44 rfl rfl ?_
  refine pw_iload_n (i := 2) dX10_totalWithout_4 rfl rfl ?_
  refine pw_cVv [.int a2] dX10_totalWithout_5 mv_X10_176 rfl rfl rfl (Nat.le_of_ble_eq_true rfl) (c_X1_measure h) (fun τ1 h => ?_)
  refine pw_aload_n (i := 0) dX10_totalWithout_8 rfl rfl ?_
  refine pw_iload_n (i := 1) dX10_totalWithout_9 rfl rfl ?_
  refine pw_cVi [.int a1] dX10_totalWithout_10 mv_X10_216 rfl rfl rfl (Nat.le_of_ble_eq_true rfl) (c_X10_totalAsMeasured h) (fun x3 τ2 h => ?_)
  exact pw_ret dX10_totalWithout_13 rfl rfl ⟨_, rfl, h⟩
/-! X10_saves -/
def R_X10_saves (a1 : Int32) (a2 : Int32) (σ : pw_Mem) (K : Int32 → pw_Mem → Prop) : Prop := R_X10_isTask a1 σ (fun x2 τ1 => ((x2 = 0 → K (-1) τ1) ∧ (¬ x2 = 0 → R_X10_isRoutine a2 τ1 (fun x4 τ3 => ((¬ x4 = 0 → R_X10_totalWithout a1 (-1) τ3 (fun x6 τ5 => ((¬ x6 = (-5) → R_X10_totalWithout a1 a2 τ5 (fun x8 τ7 => K (x6 - x8) τ7)) ∧ (x6 = (-5) → K (-5) τ5)))) ∧ (x4 = 0 → K (-1) τ3))))))
set_option maxHeartbeats 4000000 in
theorem c_X10_saves {L : pw_Lay} {d : Nat} {a1 : Int32} {a2 : Int32} {σ : pw_Mem} {K : Int32 → pw_Mem → Prop} (h : R_X10_saves a1 a2 σ K) : CT L (d + 6) m_X10_saves [.ref 0, .int a1, .int a2] σ (ki K) := by
  refine pw_enter (by decide) rfl (Nat.le_of_ble_eq_true rfl) (ls := [some (.ref 0), some (.int a1), some (.int a2), none]) rfl ?_
  unfold R_X10_saves at h
  refine pw_aload_n (i := 0) dX10_saves_0 rfl rfl ?_
  refine pw_iload_n (i := 1) dX10_saves_1 rfl rfl ?_
  refine pw_cVi [.int a1] dX10_saves_2 mv_X10_204 rfl rfl rfl (Nat.le_of_ble_eq_true rfl) (c_X10_isTask h) (fun x2 τ1 h => ?_)
  refine pw_if_eq (tgt := 16) dX10_saves_5 rfl (fun q => ?_) (fun q => ?_)
  · have h := h.1 q
    refine pw_iconst (v := (-1)) dX10_saves_16 kc_m1 ?_
    exact pw_ret dX10_saves_17 rfl rfl ⟨_, rfl, h⟩
  · have h := h.2 q
    refine pw_aload_n (i := 0) dX10_saves_8 rfl rfl ?_
    refine pw_iload_n (i := 2) dX10_saves_9 rfl rfl ?_
    refine pw_cVi [.int a2] dX10_saves_10 mv_X10_98 rfl rfl rfl (Nat.le_of_ble_eq_true rfl) (c_X10_isRoutine h) (fun x4 τ3 h => ?_)
    refine pw_if_ne (tgt := 18) dX10_saves_13 rfl (fun q => ?_) (fun q => ?_)
    · have h := h.1 q
      refine pw_aload_n (i := 0) dX10_saves_18 rfl rfl ?_
      refine pw_iload_n (i := 1) dX10_saves_19 rfl rfl ?_
      refine pw_iconst (v := (-1)) dX10_saves_20 kc_m1 ?_
      refine pw_cVi [.int a1, .int (-1)] dX10_saves_21 mv_X10_235 rfl rfl rfl (Nat.le_of_ble_eq_true rfl) (c_X10_totalWithout h) (fun x6 τ5 h => ?_)
      refine pw_istore_n (i := 3) (ls' := [some (.ref 0), some (.int a1), some (.int a2), some (.int x6)]) dX10_saves_24 rfl (Nat.le_of_ble_eq_true rfl) rfl ?_
      refine pw_iload_n (i := 3) dX10_saves_25 rfl rfl ?_
      refine pw_bipush (v := (-5)) dX10_saves_26 kb_m5 ?_
      refine pw_icmp_ne (tgt := 36) dX10_saves_28 rfl (fun q => ?_) (fun q => ?_)
      · have h := h.1 q
        refine pw_iload_n (i := 3) dX10_saves_36 rfl rfl ?_
        refine pw_aload_n (i := 0) dX10_saves_37 rfl rfl ?_
        refine pw_iload_n (i := 1) dX10_saves_38 rfl rfl ?_
        refine pw_iload_n (i := 2) dX10_saves_39 rfl rfl ?_
        refine pw_cVi [.int a1, .int a2] dX10_saves_40 mv_X10_235 rfl rfl rfl (Nat.le_of_ble_eq_true rfl) (c_X10_totalWithout h) (fun x8 τ7 h => ?_)
        refine pw_isub dX10_saves_43 ?_
        exact pw_ret dX10_saves_44 rfl rfl ⟨_, rfl, h⟩
      · have h := h.2 q
        refine pw_bipush (v := (-5)) dX10_saves_31 kb_m5 ?_
        refine pw_goto (tgt := 44) dX10_saves_33 rfl ?_
        exact pw_ret dX10_saves_44 rfl rfl ⟨_, rfl, h⟩
    · have h := h.2 q
      refine pw_iconst (v := (-1)) dX10_saves_16 kc_m1 ?_
      exact pw_ret dX10_saves_17 rfl rfl ⟨_, rfl, h⟩
/-! X10_best -/
def R_X10_best_L35 (K : Int32 → pw_Mem → Prop) (KX : Int32 → Int32 → Int32 → Int32 → Int32 → pw_Mem → Prop) : Nat → Int32 → Int32 → Int32 → Int32 → Int32 → pw_Mem → Prop
  | 0, _, _, _, _, _, _ => False
  | n + 1, l1, l2, l3, l4, l5, σ => (((σ 1 2) ≤ l5 → KX l1 l2 l3 l4 l5 σ) ∧ (¬ (σ 1 2) ≤ l5 → R_X10_totalWithout l1 l5 σ (fun x6 τ5 => ((l3 ≤ x6 → R_X10_best_L35 K KX n l1 l2 l3 l4 (l5 + 1) τ5) ∧ (¬ l3 ≤ x6 → R_X10_best_L35 K KX n l1 l2 x6 l5 (l5 + 1) τ5)))))
def R_X10_best (a1 : Int32) (σ : pw_Mem) (K : Int32 → pw_Mem → Prop) : Prop := R_X10_isTask a1 σ (fun x2 τ1 => ((¬ x2 = 0 → R_X10_totalWithout a1 (-1) τ1 (fun x4 τ3 => ((¬ x4 = (-5) → ∃ n13, R_X10_best_L35 K (fun y7 y8 y9 y10 y11 τ12 => K y10 τ12) n13 a1 x4 x4 (-4) 0 τ3) ∧ (x4 = (-5) → K (-5) τ3)))) ∧ (x2 = 0 → K (-1) τ1)))
set_option maxHeartbeats 4000000 in
theorem t_X10_best_L35 {L : pw_Lay} {d : Nat} {K : Int32 → pw_Mem → Prop} {KX : Int32 → Int32 → Int32 → Int32 → Int32 → pw_Mem → Prop} : ∀ (n : Nat) (l1 : Int32) (l2 : Int32) (l3 : Int32) (l4 : Int32) (l5 : Int32) (σ : pw_Mem), R_X10_best_L35 K KX n l1 l2 l3 l4 l5 σ → (∀ (l1 : Int32) (l2 : Int32) (l3 : Int32) (l4 : Int32) (l5 : Int32) (τ : pw_Mem), KX l1 l2 l3 l4 l5 τ → PW L (d + 6) m_X10_best (ki K) 75 [some (.ref 0), some (.int l1), some (.int l2), some (.int l3), some (.int l4), some (.int l5), none] [] τ) → PW L (d + 6) m_X10_best (ki K) 35 [some (.ref 0), some (.int l1), some (.int l2), some (.int l3), some (.int l4), some (.int l5), none] [] σ := by
  intro n
  induction n with
  | zero => intro l1 l2 l3 l4 l5 _ h _; exact h.elim
  | succ n ih =>
    intro l1 l2 l3 l4 l5 σ h hX
    unfold R_X10_best_L35 at h
    refine pw_iload dX10_best_35 rfl ?_
    refine pw_aload_n (i := 0) dX10_best_37 rfl rfl ?_
    refine pw_getR dX10_best_38 fl_X10_10 rfl rfl ?_
    refine pw_getI dX10_best_41 fl_X10_87 rfl rfl ?_
    refine pw_icmp_ge (tgt := 75) dX10_best_44 rfl (fun q => ?_) (fun q => ?_)
    · have h := h.1 q
      exact hX _ _ _ _ _ _ h
    · have h := h.2 q
      refine pw_aload_n (i := 0) dX10_best_47 rfl rfl ?_
      refine pw_iload_n (i := 1) dX10_best_48 rfl rfl ?_
      refine pw_iload dX10_best_49 rfl ?_
      refine pw_cVi [.int l1, .int l5] dX10_best_51 mv_X10_235 rfl rfl rfl (Nat.le_of_ble_eq_true rfl) (c_X10_totalWithout h) (fun x6 τ5 h => ?_)
      refine pw_istore (i := 6) (ls' := [some (.ref 0), some (.int l1), some (.int l2), some (.int l3), some (.int l4), some (.int l5), some (.int x6)]) dX10_best_54 (Nat.le_of_ble_eq_true rfl) rfl ?_
      refine pw_iload dX10_best_56 rfl ?_
      refine pw_iload_n (i := 3) dX10_best_58 rfl rfl ?_
      refine pw_icmp_ge (tgt := 69) dX10_best_59 rfl (fun q => ?_) (fun q => ?_)
      · have h := h.1 q
        refine pw_iinc (i := 5) (v := l5 + 1) (ls' := [some (.ref 0), some (.int l1), some (.int l2), some (.int l3), some (.int l4), some (.int (l5 + 1)), some (.int x6)]) dX10_best_69 rfl (by rw [kc_1]) (Nat.le_of_ble_eq_true rfl) rfl ?_
        refine pw_goto (tgt := 35) dX10_best_72 rfl ?_
        refine pw_forget (ls' := [some (.ref 0), some (.int l1), some (.int l2), some (.int l3), some (.int l4), some (.int (l5 + 1)), none]) (And.intro rfl (And.intro rfl (And.intro rfl (And.intro rfl (And.intro rfl (And.intro rfl trivial)))))) ?_
        exact ih _ _ _ _ _ _ h hX
      · have h := h.2 q
        refine pw_iload dX10_best_62 rfl ?_
        refine pw_istore_n (i := 3) (ls' := [some (.ref 0), some (.int l1), some (.int l2), some (.int x6), some (.int l4), some (.int l5), some (.int x6)]) dX10_best_64 rfl (Nat.le_of_ble_eq_true rfl) rfl ?_
        refine pw_iload dX10_best_65 rfl ?_
        refine pw_istore (i := 4) (ls' := [some (.ref 0), some (.int l1), some (.int l2), some (.int x6), some (.int l5), some (.int l5), some (.int x6)]) dX10_best_67 (Nat.le_of_ble_eq_true rfl) rfl ?_
        refine pw_iinc (i := 5) (v := l5 + 1) (ls' := [some (.ref 0), some (.int l1), some (.int l2), some (.int x6), some (.int l5), some (.int (l5 + 1)), some (.int x6)]) dX10_best_69 rfl (by rw [kc_1]) (Nat.le_of_ble_eq_true rfl) rfl ?_
        refine pw_goto (tgt := 35) dX10_best_72 rfl ?_
        refine pw_forget (ls' := [some (.ref 0), some (.int l1), some (.int l2), some (.int x6), some (.int l5), some (.int (l5 + 1)), none]) (And.intro rfl (And.intro rfl (And.intro rfl (And.intro rfl (And.intro rfl (And.intro rfl trivial)))))) ?_
        exact ih _ _ _ _ _ _ h hX
set_option maxHeartbeats 4000000 in
theorem c_X10_best {L : pw_Lay} {d : Nat} {a1 : Int32} {σ : pw_Mem} {K : Int32 → pw_Mem → Prop} (h : R_X10_best a1 σ K) : CT L (d + 6) m_X10_best [.ref 0, .int a1] σ (ki K) := by
  refine pw_enter (by decide) rfl (Nat.le_of_ble_eq_true rfl) (ls := [some (.ref 0), some (.int a1), none, none, none, none, none]) rfl ?_
  unfold R_X10_best at h
  refine pw_aload_n (i := 0) dX10_best_0 rfl rfl ?_
  refine pw_iload_n (i := 1) dX10_best_1 rfl rfl ?_
  refine pw_cVi [.int a1] dX10_best_2 mv_X10_204 rfl rfl rfl (Nat.le_of_ble_eq_true rfl) (c_X10_isTask h) (fun x2 τ1 h => ?_)
  refine pw_if_ne (tgt := 10) dX10_best_5 rfl (fun q => ?_) (fun q => ?_)
  · have h := h.1 q
    refine pw_aload_n (i := 0) dX10_best_10 rfl rfl ?_
    refine pw_iload_n (i := 1) dX10_best_11 rfl rfl ?_
    refine pw_iconst (v := (-1)) dX10_best_12 kc_m1 ?_
    refine pw_cVi [.int a1, .int (-1)] dX10_best_13 mv_X10_235 rfl rfl rfl (Nat.le_of_ble_eq_true rfl) (c_X10_totalWithout h) (fun x4 τ3 h => ?_)
    refine pw_istore_n (i := 2) (ls' := [some (.ref 0), some (.int a1), some (.int x4), none, none, none, none]) dX10_best_16 rfl (Nat.le_of_ble_eq_true rfl) rfl ?_
    refine pw_iload_n (i := 2) dX10_best_17 rfl rfl ?_
    refine pw_bipush (v := (-5)) dX10_best_18 kb_m5 ?_
    refine pw_icmp_ne (tgt := 26) dX10_best_20 rfl (fun q => ?_) (fun q => ?_)
    · have h := h.1 q
      refine pw_iload_n (i := 2) dX10_best_26 rfl rfl ?_
      refine pw_istore_n (i := 3) (ls' := [some (.ref 0), some (.int a1), some (.int x4), some (.int x4), none, none, none]) dX10_best_27 rfl (Nat.le_of_ble_eq_true rfl) rfl ?_
      refine pw_bipush (v := (-4)) dX10_best_28 kb_m4 ?_
      refine pw_istore (i := 4) (ls' := [some (.ref 0), some (.int a1), some (.int x4), some (.int x4), some (.int (-4)), none, none]) dX10_best_30 (Nat.le_of_ble_eq_true rfl) rfl ?_
      refine pw_iconst (v := 0) dX10_best_32 kc_0 ?_
      refine pw_istore (i := 5) (ls' := [some (.ref 0), some (.int a1), some (.int x4), some (.int x4), some (.int (-4)), some (.int 0), none]) dX10_best_33 (Nat.le_of_ble_eq_true rfl) rfl ?_
      obtain ⟨n13, h⟩ := h
      refine t_X10_best_L35 _ _ _ _ _ _ _ h (fun y7 y8 y9 y10 y11 τ12 h => ?_)
      refine pw_iload dX10_best_75 rfl ?_
      exact pw_ret dX10_best_77 rfl rfl ⟨_, rfl, h⟩
    · have h := h.2 q
      refine pw_bipush (v := (-5)) dX10_best_23 kb_m5 ?_
      exact pw_ret dX10_best_25 rfl rfl ⟨_, rfl, h⟩
  · have h := h.2 q
    refine pw_iconst (v := (-1)) dX10_best_8 kc_m1 ?_
    exact pw_ret dX10_best_9 rfl rfl ⟨_, rfl, h⟩
/-! X9_begin -/
def R_X9_begin (a1 : Int32) (σ : pw_Mem) (K : pw_Mem → Prop) : Prop := ∀ τ1, τ1 = pw_up σ 37 2 0 → ∀ τ2, τ2 = pw_up τ1 37 3 0 → ∀ τ3, τ3 = pw_up τ2 37 4 0 → ∀ τ4, τ4 = pw_up τ3 37 5 0 → ∀ τ5, τ5 = pw_up τ4 37 6 0 → ∀ τ6, τ6 = pw_up τ5 37 7 a1 → K τ6
set_option maxHeartbeats 4000000 in
theorem c_X9_begin {L : pw_Lay} {d : Nat} {a1 : Int32} {σ : pw_Mem} {K : pw_Mem → Prop} (h : R_X9_begin a1 σ K) : CT L (d + 0) m_X9_begin [.ref 37, .int a1] σ (kv K) := by
  refine pw_enter (by decide) rfl (Nat.le_of_ble_eq_true rfl) (ls := [some (.ref 37), some (.int a1)]) rfl ?_
  unfold R_X9_begin at h
  refine pw_aload_n (i := 0) dX9_begin_0 rfl rfl ?_
  refine pw_iconst (v := 0) dX9_begin_1 kc_0 ?_
  refine pw_put dX9_begin_2 fp_X9_22 rfl rfl rfl rfl ?_
  generalize hτ1 : pw_up σ 37 2 0 = τ1
  have h := h τ1 hτ1.symm
  refine pw_aload_n (i := 0) dX9_begin_5 rfl rfl ?_
  refine pw_iconst (v := 0) dX9_begin_6 kc_0 ?_
  refine pw_put dX9_begin_7 fp_X9_25 rfl rfl rfl rfl ?_
  generalize hτ2 : pw_up τ1 37 3 0 = τ2
  have h := h τ2 hτ2.symm
  refine pw_aload_n (i := 0) dX9_begin_10 rfl rfl ?_
  refine pw_iconst (v := 0) dX9_begin_11 kc_0 ?_
  refine pw_put dX9_begin_12 fp_X9_28 rfl rfl rfl rfl ?_
  generalize hτ3 : pw_up τ2 37 4 0 = τ3
  have h := h τ3 hτ3.symm
  refine pw_aload_n (i := 0) dX9_begin_15 rfl rfl ?_
  refine pw_iconst (v := 0) dX9_begin_16 kc_0 ?_
  refine pw_put dX9_begin_17 fp_X9_31 rfl rfl rfl rfl ?_
  generalize hτ4 : pw_up τ3 37 5 0 = τ4
  have h := h τ4 hτ4.symm
  refine pw_aload_n (i := 0) dX9_begin_20 rfl rfl ?_
  refine pw_iconst (v := 0) dX9_begin_21 kc_0 ?_
  refine pw_put dX9_begin_22 fp_X9_34 rfl rfl rfl rfl ?_
  generalize hτ5 : pw_up τ4 37 6 0 = τ5
  have h := h τ5 hτ5.symm
  refine pw_aload_n (i := 0) dX9_begin_25 rfl rfl ?_
  refine pw_iload_n (i := 1) dX9_begin_26 rfl rfl ?_
  refine pw_put dX9_begin_27 fp_X9_18 rfl rfl rfl rfl ?_
  generalize hτ6 : pw_up τ5 37 7 a1 = τ6
  have h := h τ6 hτ6.symm
  exact pw_vret dX9_begin_30 rfl ⟨rfl, h⟩
/-! X9_push -/
def R_X9_push (a1 : Int32) (a2 : Int32) (σ : pw_Mem) (K : pw_Mem → Prop) : Prop := vp_in (σ 37 2) 40 ∧ ∀ τ1, τ1 = pw_up σ 38 (Int32.toNatClampNeg (σ 37 2)) a1 → vp_in (τ1 37 2) 40 ∧ ∀ τ2, τ2 = pw_up τ1 39 (Int32.toNatClampNeg (τ1 37 2)) a2 → ∀ τ3, τ3 = pw_up τ2 37 2 ((τ2 37 2) + 1) → ∀ τ4, τ4 = pw_up τ3 37 3 ((τ3 37 3) + a2) → ∀ τ5, τ5 = pw_up τ4 37 4 (if (τ4 37 4) < (τ4 37 3) then (τ4 37 3) else (τ4 37 4)) → K τ5
set_option maxHeartbeats 4000000 in
theorem c_X9_push {L : pw_Lay} {d : Nat} {a1 : Int32} {a2 : Int32} {σ : pw_Mem} {K : pw_Mem → Prop} (h : R_X9_push a1 a2 σ K) : CT L (d + 1) m_X9_push [.ref 37, .int a1, .int a2] σ (kv K) := by
  refine pw_enter (by decide) rfl (Nat.le_of_ble_eq_true rfl) (ls := [some (.ref 37), some (.int a1), some (.int a2)]) rfl ?_
  unfold R_X9_push at h
  refine pw_aload_n (i := 0) dX9_push_0 rfl rfl ?_
  refine pw_getR dX9_push_1 fl_X9_9 rfl rfl ?_
  refine pw_aload_n (i := 0) dX9_push_4 rfl rfl ?_
  refine pw_getI dX9_push_5 fl_X9_22 rfl rfl ?_
  refine pw_iload_n (i := 1) dX9_push_8 rfl rfl ?_
  obtain ⟨hb, h⟩ := h
  refine pw_iast dX9_push_9 rfl hb ?_
  generalize hτ1 : pw_up σ 38 (Int32.toNatClampNeg (σ 37 2)) a1 = τ1
  have h := h τ1 hτ1.symm
  refine pw_aload_n (i := 0) dX9_push_10 rfl rfl ?_
  refine pw_getR dX9_push_11 fl_X9_15 rfl rfl ?_
  refine pw_aload_n (i := 0) dX9_push_14 rfl rfl ?_
  refine pw_getI dX9_push_15 fl_X9_22 rfl rfl ?_
  refine pw_iload_n (i := 2) dX9_push_18 rfl rfl ?_
  obtain ⟨hb, h⟩ := h
  refine pw_iast dX9_push_19 rfl hb ?_
  generalize hτ2 : pw_up τ1 39 (Int32.toNatClampNeg (τ1 37 2)) a2 = τ2
  have h := h τ2 hτ2.symm
  refine pw_aload_n (i := 0) dX9_push_20 rfl rfl ?_
  refine pw_dup dX9_push_21 rfl ?_
  refine pw_getI dX9_push_22 fl_X9_22 rfl rfl ?_
  refine pw_iconst (v := 1) dX9_push_25 kc_1 ?_
  refine pw_iadd dX9_push_26 ?_
  refine pw_put dX9_push_27 fp_X9_22 rfl rfl rfl rfl ?_
  generalize hτ3 : pw_up τ2 37 2 ((τ2 37 2) + 1) = τ3
  have h := h τ3 hτ3.symm
  refine pw_aload_n (i := 0) dX9_push_30 rfl rfl ?_
  refine pw_dup dX9_push_31 rfl ?_
  refine pw_getI dX9_push_32 fl_X9_25 rfl rfl ?_
  refine pw_iload_n (i := 2) dX9_push_35 rfl rfl ?_
  refine pw_iadd dX9_push_36 ?_
  refine pw_put dX9_push_37 fp_X9_25 rfl rfl rfl rfl ?_
  generalize hτ4 : pw_up τ3 37 3 ((τ3 37 3) + a2) = τ4
  have h := h τ4 hτ4.symm
  refine pw_aload_n (i := 0) dX9_push_40 rfl rfl ?_
  refine pw_aload_n (i := 0) dX9_push_41 rfl rfl ?_
  refine pw_getI dX9_push_42 fl_X9_28 rfl rfl ?_
  refine pw_aload_n (i := 0) dX9_push_45 rfl rfl ?_
  refine pw_getI dX9_push_46 fl_X9_25 rfl rfl ?_
  refine pw_mmax dX9_push_49 ms_X9_37 (Nat.le_of_ble_eq_true rfl) ?_
  refine pw_put dX9_push_52 fp_X9_28 rfl rfl rfl rfl ?_
  generalize hτ5 : pw_up τ4 37 4 (if (τ4 37 4) < (τ4 37 3) then (τ4 37 3) else (τ4 37 4)) = τ5
  have h := h τ5 hτ5.symm
  exact pw_vret dX9_push_55 rfl ⟨rfl, h⟩
/-! X10_run -/
def R_X10_run (a1 : Int32) (σ : pw_Mem) (K : Int32 → pw_Mem → Prop) : Prop := R_X10_isRoutine a1 σ (fun x2 τ1 => ((¬ x2 = 0 → R_X9_begin a1 τ1 (fun τ3 => vp_in a1 20 ∧ R_X9_push a1 (τ3 2 (Int32.toNatClampNeg a1)) τ3 (fun τ4 => K (τ4 37 3) τ4))) ∧ (x2 = 0 → K (-1) τ1)))
set_option maxHeartbeats 4000000 in
theorem c_X10_run {L : pw_Lay} {d : Nat} {a1 : Int32} {σ : pw_Mem} {K : Int32 → pw_Mem → Prop} (h : R_X10_run a1 σ K) : CT L (d + 2) m_X10_run [.ref 0, .int a1] σ (ki K) := by
  refine pw_enter (by decide) rfl (Nat.le_of_ble_eq_true rfl) (ls := [some (.ref 0), some (.int a1)]) rfl ?_
  unfold R_X10_run at h
  refine pw_aload_n (i := 0) dX10_run_0 rfl rfl ?_
  refine pw_iload_n (i := 1) dX10_run_1 rfl rfl ?_
  refine pw_cVi [.int a1] dX10_run_2 mv_X10_98 rfl rfl rfl (Nat.le_of_ble_eq_true rfl) (c_X10_isRoutine h) (fun x2 τ1 h => ?_)
  refine pw_if_ne (tgt := 10) dX10_run_5 rfl (fun q => ?_) (fun q => ?_)
  · have h := h.1 q
    refine pw_aload_n (i := 0) dX10_run_10 rfl rfl ?_
    refine pw_getR dX10_run_11 fl_X10_72 rfl rfl ?_
    refine pw_iload_n (i := 1) dX10_run_14 rfl rfl ?_
    refine pw_cVv [.int a1] dX10_run_15 mv_X10_238 rfl rfl rfl (Nat.le_of_ble_eq_true rfl) (c_X9_begin h) (fun τ3 h => ?_)
    refine pw_aload_n (i := 0) dX10_run_18 rfl rfl ?_
    refine pw_getR dX10_run_19 fl_X10_72 rfl rfl ?_
    refine pw_iload_n (i := 1) dX10_run_22 rfl rfl ?_
    refine pw_aload_n (i := 0) dX10_run_23 rfl rfl ?_
    refine pw_getR dX10_run_24 fl_X10_10 rfl rfl ?_
    refine pw_getR dX10_run_27 fl_X10_102 rfl rfl ?_
    refine pw_iload_n (i := 1) dX10_run_30 rfl rfl ?_
    obtain ⟨hb, h⟩ := h
    refine pw_iald dX10_run_31 rfl hb ?_
    refine pw_cVv [.int a1, .int (τ3 2 (Int32.toNatClampNeg a1))] dX10_run_32 mv_X10_241 rfl rfl rfl (Nat.le_of_ble_eq_true rfl) (c_X9_push h) (fun τ4 h => ?_)
    refine pw_aload_n (i := 0) dX10_run_35 rfl rfl ?_
    refine pw_getR dX10_run_36 fl_X10_72 rfl rfl ?_
    refine pw_getI dX10_run_39 fl_X10_244 rfl rfl ?_
    exact pw_ret dX10_run_42 rfl rfl ⟨_, rfl, h⟩
  · have h := h.2 q
    refine pw_iconst (v := (-1)) dX10_run_8 kc_m1 ?_
    exact pw_ret dX10_run_9 rfl rfl ⟨_, rfl, h⟩
/-! X9_onTop -/
def R_X9_onTop  (σ : pw_Mem) (K : Int32 → pw_Mem → Prop) : Prop := vp_in ((σ 37 2) - 1) 40 ∧ K (σ 38 (Int32.toNatClampNeg ((σ 37 2) - 1))) σ
set_option maxHeartbeats 4000000 in
theorem c_X9_onTop {L : pw_Lay} {d : Nat}  {σ : pw_Mem} {K : Int32 → pw_Mem → Prop} (h : R_X9_onTop  σ K) : CT L (d + 0) m_X9_onTop [.ref 37] σ (ki K) := by
  refine pw_enter (by decide) rfl (Nat.le_of_ble_eq_true rfl) (ls := [some (.ref 37)]) rfl ?_
  unfold R_X9_onTop at h
  refine pw_aload_n (i := 0) dX9_onTop_0 rfl rfl ?_
  refine pw_getR dX9_onTop_1 fl_X9_9 rfl rfl ?_
  refine pw_aload_n (i := 0) dX9_onTop_4 rfl rfl ?_
  refine pw_getI dX9_onTop_5 fl_X9_22 rfl rfl ?_
  refine pw_iconst (v := 1) dX9_onTop_8 kc_1 ?_
  refine pw_isub dX9_onTop_9 ?_
  obtain ⟨hb, h⟩ := h
  refine pw_iald dX9_onTop_10 rfl hb ?_
  exact pw_ret dX9_onTop_11 rfl rfl ⟨_, rfl, h⟩
/-! X9_markStep -/
def R_X9_markStep (a1 : Int32) (σ : pw_Mem) (K : pw_Mem → Prop) : Prop := ((¬ a1 = 0 → K σ) ∧ (a1 = 0 → ∀ τ1, τ1 = pw_up σ 37 5 ((σ 37 5) + 1) → K τ1))
set_option maxHeartbeats 4000000 in
theorem c_X9_markStep {L : pw_Lay} {d : Nat} {a1 : Int32} {σ : pw_Mem} {K : pw_Mem → Prop} (h : R_X9_markStep a1 σ K) : CT L (d + 0) m_X9_markStep [.ref 37, .int a1] σ (kv K) := by
  refine pw_enter (by decide) rfl (Nat.le_of_ble_eq_true rfl) (ls := [some (.ref 37), some (.int a1)]) rfl ?_
  unfold R_X9_markStep at h
  refine pw_iload_n (i := 1) dX9_markStep_0 rfl rfl ?_
  refine pw_if_ne (tgt := 14) dX9_markStep_1 rfl (fun q => ?_) (fun q => ?_)
  · have h := h.1 q
    exact pw_vret dX9_markStep_14 rfl ⟨rfl, h⟩
  · have h := h.2 q
    refine pw_aload_n (i := 0) dX9_markStep_4 rfl rfl ?_
    refine pw_dup dX9_markStep_5 rfl ?_
    refine pw_getI dX9_markStep_6 fl_X9_31 rfl rfl ?_
    refine pw_iconst (v := 1) dX9_markStep_9 kc_1 ?_
    refine pw_iadd dX9_markStep_10 ?_
    refine pw_put dX9_markStep_11 fp_X9_31 rfl rfl rfl rfl ?_
    generalize hτ1 : pw_up σ 37 5 ((σ 37 5) + 1) = τ1
    have h := h τ1 hτ1.symm
    exact pw_vret dX9_markStep_14 rfl ⟨rfl, h⟩
/-! X9_howOften -/
def R_X9_howOften_L4 (K : Int32 → pw_Mem → Prop) (KX : Int32 → Int32 → Int32 → pw_Mem → Prop) : Nat → Int32 → Int32 → Int32 → pw_Mem → Prop
  | 0, _, _, _, _ => False
  | n + 1, l1, l2, l3, σ => (((σ 37 2) ≤ l3 → KX l1 l2 l3 σ) ∧ (¬ (σ 37 2) ≤ l3 → vp_in l3 40 ∧ ((¬ (σ 38 (Int32.toNatClampNeg l3)) = l1 → R_X9_howOften_L4 K KX n l1 l2 (l3 + 1) σ) ∧ ((σ 38 (Int32.toNatClampNeg l3)) = l1 → R_X9_howOften_L4 K KX n l1 (l2 + 1) (l3 + 1) σ))))
def R_X9_howOften (a1 : Int32) (σ : pw_Mem) (K : Int32 → pw_Mem → Prop) : Prop := ∃ n5, R_X9_howOften_L4 K (fun y1 y2 y3 τ4 => K y2 τ4) n5 a1 0 0 σ
set_option maxHeartbeats 4000000 in
theorem t_X9_howOften_L4 {L : pw_Lay} {d : Nat} {K : Int32 → pw_Mem → Prop} {KX : Int32 → Int32 → Int32 → pw_Mem → Prop} : ∀ (n : Nat) (l1 : Int32) (l2 : Int32) (l3 : Int32) (σ : pw_Mem), R_X9_howOften_L4 K KX n l1 l2 l3 σ → (∀ (l1 : Int32) (l2 : Int32) (l3 : Int32) (τ : pw_Mem), KX l1 l2 l3 τ → PW L (d + 0) m_X9_howOften (ki K) 31 [some (.ref 37), some (.int l1), some (.int l2), some (.int l3)] [] τ) → PW L (d + 0) m_X9_howOften (ki K) 4 [some (.ref 37), some (.int l1), some (.int l2), some (.int l3)] [] σ := by
  intro n
  induction n with
  | zero => intro l1 l2 l3 _ h _; exact h.elim
  | succ n ih =>
    intro l1 l2 l3 σ h hX
    unfold R_X9_howOften_L4 at h
    refine pw_iload_n (i := 3) dX9_howOften_4 rfl rfl ?_
    refine pw_aload_n (i := 0) dX9_howOften_5 rfl rfl ?_
    refine pw_getI dX9_howOften_6 fl_X9_22 rfl rfl ?_
    refine pw_icmp_ge (tgt := 31) dX9_howOften_9 rfl (fun q => ?_) (fun q => ?_)
    · have h := h.1 q
      exact hX _ _ _ _ h
    · have h := h.2 q
      refine pw_aload_n (i := 0) dX9_howOften_12 rfl rfl ?_
      refine pw_getR dX9_howOften_13 fl_X9_9 rfl rfl ?_
      refine pw_iload_n (i := 3) dX9_howOften_16 rfl rfl ?_
      obtain ⟨hb, h⟩ := h
      refine pw_iald dX9_howOften_17 rfl hb ?_
      refine pw_iload_n (i := 1) dX9_howOften_18 rfl rfl ?_
      refine pw_icmp_ne (tgt := 25) dX9_howOften_19 rfl (fun q => ?_) (fun q => ?_)
      · have h := h.1 q
        refine pw_iinc (i := 3) (v := l3 + 1) (ls' := [some (.ref 37), some (.int l1), some (.int l2), some (.int (l3 + 1))]) dX9_howOften_25 rfl (by rw [kc_1]) (Nat.le_of_ble_eq_true rfl) rfl ?_
        refine pw_goto (tgt := 4) dX9_howOften_28 rfl ?_
        exact ih _ _ _ _ h hX
      · have h := h.2 q
        refine pw_iinc (i := 2) (v := l2 + 1) (ls' := [some (.ref 37), some (.int l1), some (.int (l2 + 1)), some (.int l3)]) dX9_howOften_22 rfl (by rw [kc_1]) (Nat.le_of_ble_eq_true rfl) rfl ?_
        refine pw_iinc (i := 3) (v := l3 + 1) (ls' := [some (.ref 37), some (.int l1), some (.int (l2 + 1)), some (.int (l3 + 1))]) dX9_howOften_25 rfl (by rw [kc_1]) (Nat.le_of_ble_eq_true rfl) rfl ?_
        refine pw_goto (tgt := 4) dX9_howOften_28 rfl ?_
        exact ih _ _ _ _ h hX
set_option maxHeartbeats 4000000 in
theorem c_X9_howOften {L : pw_Lay} {d : Nat} {a1 : Int32} {σ : pw_Mem} {K : Int32 → pw_Mem → Prop} (h : R_X9_howOften a1 σ K) : CT L (d + 0) m_X9_howOften [.ref 37, .int a1] σ (ki K) := by
  refine pw_enter (by decide) rfl (Nat.le_of_ble_eq_true rfl) (ls := [some (.ref 37), some (.int a1), none, none]) rfl ?_
  unfold R_X9_howOften at h
  refine pw_iconst (v := 0) dX9_howOften_0 kc_0 ?_
  refine pw_istore_n (i := 2) (ls' := [some (.ref 37), some (.int a1), some (.int 0), none]) dX9_howOften_1 rfl (Nat.le_of_ble_eq_true rfl) rfl ?_
  refine pw_iconst (v := 0) dX9_howOften_2 kc_0 ?_
  refine pw_istore_n (i := 3) (ls' := [some (.ref 37), some (.int a1), some (.int 0), some (.int 0)]) dX9_howOften_3 rfl (Nat.le_of_ble_eq_true rfl) rfl ?_
  obtain ⟨n5, h⟩ := h
  refine t_X9_howOften_L4 _ _ _ _ _ h (fun y1 y2 y3 τ4 h => ?_)
  refine pw_iload_n (i := 2) dX9_howOften_31 rfl rfl ?_
  exact pw_ret dX9_howOften_32 rfl rfl ⟨_, rfl, h⟩
/-! X10_pushMarked -/
def R_X10_pushMarked (a1 : Int32) (σ : pw_Mem) (K : Int32 → pw_Mem → Prop) : Prop := vp_in a1 20 ∧ (((σ 3 (Int32.toNatClampNeg a1)) = 0 → vp_in a1 20 ∧ R_X9_push a1 (σ 2 (Int32.toNatClampNeg a1)) σ (fun τ1 => K (τ1 37 3) τ1)) ∧ (¬ (σ 3 (Int32.toNatClampNeg a1)) = 0 → R_X9_howOften a1 σ (fun x3 τ2 => ((x3 < (σ 3 (Int32.toNatClampNeg a1)) → vp_in a1 20 ∧ R_X9_push a1 (τ2 2 (Int32.toNatClampNeg a1)) τ2 (fun τ4 => K (τ4 37 3) τ4)) ∧ (¬ x3 < (σ 3 (Int32.toNatClampNeg a1)) → ∀ τ5, τ5 = pw_up τ2 37 6 ((τ2 37 6) + 1) → vp_in a1 20 ∧ R_X9_push a1 (τ5 2 (Int32.toNatClampNeg a1)) τ5 (fun τ6 => K (τ6 37 3) τ6))))))
set_option maxHeartbeats 4000000 in
theorem c_X10_pushMarked {L : pw_Lay} {d : Nat} {a1 : Int32} {σ : pw_Mem} {K : Int32 → pw_Mem → Prop} (h : R_X10_pushMarked a1 σ K) : CT L (d + 2) m_X10_pushMarked [.ref 0, .int a1] σ (ki K) := by
  refine pw_enter (by decide) rfl (Nat.le_of_ble_eq_true rfl) (ls := [some (.ref 0), some (.int a1), none]) rfl ?_
  unfold R_X10_pushMarked at h
  refine pw_aload_n (i := 0) dX10_pushMarked_0 rfl rfl ?_
  refine pw_getR dX10_pushMarked_1 fl_X10_10 rfl rfl ?_
  refine pw_getR dX10_pushMarked_4 fl_X10_106 rfl rfl ?_
  refine pw_iload_n (i := 1) dX10_pushMarked_7 rfl rfl ?_
  obtain ⟨hb, h⟩ := h
  refine pw_iald dX10_pushMarked_8 rfl hb ?_
  refine pw_istore_n (i := 2) (ls' := [some (.ref 0), some (.int a1), some (.int (σ 3 (Int32.toNatClampNeg a1)))]) dX10_pushMarked_9 rfl (Nat.le_of_ble_eq_true rfl) rfl ?_
  refine pw_iload_n (i := 2) dX10_pushMarked_10 rfl rfl ?_
  refine pw_if_eq (tgt := 39) dX10_pushMarked_11 rfl (fun q => ?_) (fun q => ?_)
  · have h := h.1 q
    refine pw_aload_n (i := 0) dX10_pushMarked_39 rfl rfl ?_
    refine pw_getR dX10_pushMarked_40 fl_X10_72 rfl rfl ?_
    refine pw_iload_n (i := 1) dX10_pushMarked_43 rfl rfl ?_
    refine pw_aload_n (i := 0) dX10_pushMarked_44 rfl rfl ?_
    refine pw_getR dX10_pushMarked_45 fl_X10_10 rfl rfl ?_
    refine pw_getR dX10_pushMarked_48 fl_X10_102 rfl rfl ?_
    refine pw_iload_n (i := 1) dX10_pushMarked_51 rfl rfl ?_
    obtain ⟨hb, h⟩ := h
    refine pw_iald dX10_pushMarked_52 rfl hb ?_
    refine pw_cVv [.int a1, .int (σ 2 (Int32.toNatClampNeg a1))] dX10_pushMarked_53 mv_X10_241 rfl rfl rfl (Nat.le_of_ble_eq_true rfl) (c_X9_push h) (fun τ1 h => ?_)
    refine pw_aload_n (i := 0) dX10_pushMarked_56 rfl rfl ?_
    refine pw_getR dX10_pushMarked_57 fl_X10_72 rfl rfl ?_
    refine pw_getI dX10_pushMarked_60 fl_X10_244 rfl rfl ?_
    exact pw_ret dX10_pushMarked_63 rfl rfl ⟨_, rfl, h⟩
  · have h := h.2 q
    refine pw_aload_n (i := 0) dX10_pushMarked_14 rfl rfl ?_
    refine pw_getR dX10_pushMarked_15 fl_X10_72 rfl rfl ?_
    refine pw_iload_n (i := 1) dX10_pushMarked_18 rfl rfl ?_
    refine pw_cVi [.int a1] dX10_pushMarked_19 mv_X10_336 rfl rfl rfl (Nat.le_of_ble_eq_true rfl) (c_X9_howOften h) (fun x3 τ2 h => ?_)
    refine pw_iload_n (i := 2) dX10_pushMarked_22 rfl rfl ?_
    refine pw_icmp_lt (tgt := 39) dX10_pushMarked_23 rfl (fun q => ?_) (fun q => ?_)
    · have h := h.1 q
      refine pw_aload_n (i := 0) dX10_pushMarked_39 rfl rfl ?_
      refine pw_getR dX10_pushMarked_40 fl_X10_72 rfl rfl ?_
      refine pw_iload_n (i := 1) dX10_pushMarked_43 rfl rfl ?_
      refine pw_aload_n (i := 0) dX10_pushMarked_44 rfl rfl ?_
      refine pw_getR dX10_pushMarked_45 fl_X10_10 rfl rfl ?_
      refine pw_getR dX10_pushMarked_48 fl_X10_102 rfl rfl ?_
      refine pw_iload_n (i := 1) dX10_pushMarked_51 rfl rfl ?_
      obtain ⟨hb, h⟩ := h
      refine pw_iald dX10_pushMarked_52 rfl hb ?_
      refine pw_cVv [.int a1, .int (τ2 2 (Int32.toNatClampNeg a1))] dX10_pushMarked_53 mv_X10_241 rfl rfl rfl (Nat.le_of_ble_eq_true rfl) (c_X9_push h) (fun τ4 h => ?_)
      refine pw_aload_n (i := 0) dX10_pushMarked_56 rfl rfl ?_
      refine pw_getR dX10_pushMarked_57 fl_X10_72 rfl rfl ?_
      refine pw_getI dX10_pushMarked_60 fl_X10_244 rfl rfl ?_
      exact pw_ret dX10_pushMarked_63 rfl rfl ⟨_, rfl, h⟩
    · have h := h.2 q
      refine pw_aload_n (i := 0) dX10_pushMarked_26 rfl rfl ?_
      refine pw_getR dX10_pushMarked_27 fl_X10_72 rfl rfl ?_
      refine pw_dup dX10_pushMarked_30 rfl ?_
      refine pw_getI dX10_pushMarked_31 fl_X10_278 rfl rfl ?_
      refine pw_iconst (v := 1) dX10_pushMarked_34 kc_1 ?_
      refine pw_iadd dX10_pushMarked_35 ?_
      refine pw_put dX10_pushMarked_36 fp_X10_278 rfl rfl rfl rfl ?_
      generalize hτ5 : pw_up τ2 37 6 ((τ2 37 6) + 1) = τ5
      have h := h τ5 hτ5.symm
      refine pw_aload_n (i := 0) dX10_pushMarked_39 rfl rfl ?_
      refine pw_getR dX10_pushMarked_40 fl_X10_72 rfl rfl ?_
      refine pw_iload_n (i := 1) dX10_pushMarked_43 rfl rfl ?_
      refine pw_aload_n (i := 0) dX10_pushMarked_44 rfl rfl ?_
      refine pw_getR dX10_pushMarked_45 fl_X10_10 rfl rfl ?_
      refine pw_getR dX10_pushMarked_48 fl_X10_102 rfl rfl ?_
      refine pw_iload_n (i := 1) dX10_pushMarked_51 rfl rfl ?_
      obtain ⟨hb, h⟩ := h
      refine pw_iald dX10_pushMarked_52 rfl hb ?_
      refine pw_cVv [.int a1, .int (τ5 2 (Int32.toNatClampNeg a1))] dX10_pushMarked_53 mv_X10_241 rfl rfl rfl (Nat.le_of_ble_eq_true rfl) (c_X9_push h) (fun τ6 h => ?_)
      refine pw_aload_n (i := 0) dX10_pushMarked_56 rfl rfl ?_
      refine pw_getR dX10_pushMarked_57 fl_X10_72 rfl rfl ?_
      refine pw_getI dX10_pushMarked_60 fl_X10_244 rfl rfl ?_
      exact pw_ret dX10_pushMarked_63 rfl rfl ⟨_, rfl, h⟩
/-! X10_enter -/
def R_X10_enter (a1 : Int32) (σ : pw_Mem) (K : Int32 → pw_Mem → Prop) : Prop := R_X10_isRoutine a1 σ (fun x2 τ1 => ((¬ x2 = 0 → ((¬ (τ1 37 2) = 0 → (((τ1 37 2) < 40 → R_X2_refresh  τ1 (fun τ3 => R_X9_onTop  τ3 (fun x5 τ4 => vp_in x5 20 ∧ R_X10_holds (τ4 15 (Int32.toNatClampNeg x5)) a1 τ4 (fun x7 τ6 => R_X9_markStep x7 τ6 (fun τ8 => R_X10_pushMarked a1 τ8 (fun x10 τ9 => K x10 τ9)))))) ∧ (¬ (τ1 37 2) < 40 → K (-3) τ1))) ∧ ((τ1 37 2) = 0 → K (-2) τ1))) ∧ (x2 = 0 → K (-1) τ1)))
set_option maxHeartbeats 4000000 in
theorem c_X10_enter {L : pw_Lay} {d : Nat} {a1 : Int32} {σ : pw_Mem} {K : Int32 → pw_Mem → Prop} (h : R_X10_enter a1 σ K) : CT L (d + 4) m_X10_enter [.ref 0, .int a1] σ (ki K) := by
  refine pw_enter (by decide) rfl (Nat.le_of_ble_eq_true rfl) (ls := [some (.ref 0), some (.int a1)]) rfl ?_
  unfold R_X10_enter at h
  refine pw_aload_n (i := 0) dX10_enter_0 rfl rfl ?_
  refine pw_iload_n (i := 1) dX10_enter_1 rfl rfl ?_
  refine pw_cVi [.int a1] dX10_enter_2 mv_X10_98 rfl rfl rfl (Nat.le_of_ble_eq_true rfl) (c_X10_isRoutine h) (fun x2 τ1 h => ?_)
  refine pw_if_ne (tgt := 10) dX10_enter_5 rfl (fun q => ?_) (fun q => ?_)
  · have h := h.1 q
    refine pw_aload_n (i := 0) dX10_enter_10 rfl rfl ?_
    refine pw_getR dX10_enter_11 fl_X10_72 rfl rfl ?_
    refine pw_getI dX10_enter_14 fl_X10_247 rfl rfl ?_
    refine pw_if_ne (tgt := 23) dX10_enter_17 rfl (fun q => ?_) (fun q => ?_)
    · have h := h.1 q
      refine pw_aload_n (i := 0) dX10_enter_23 rfl rfl ?_
      refine pw_getR dX10_enter_24 fl_X10_72 rfl rfl ?_
      refine pw_getI dX10_enter_27 fl_X10_247 rfl rfl ?_
      refine pw_bipush (v := 40) dX10_enter_30 kb_40 ?_
      refine pw_icmp_lt (tgt := 38) dX10_enter_32 rfl (fun q => ?_) (fun q => ?_)
      · have h := h.1 q
        refine pw_aload_n (i := 0) dX10_enter_38 rfl rfl ?_
        refine pw_getR dX10_enter_39 fl_X10_35 rfl rfl ?_
        refine pw_cVv [] dX10_enter_42 mv_X10_153 rfl rfl rfl (Nat.le_of_ble_eq_true rfl) (c_X2_refresh h) (fun τ3 h => ?_)
        refine pw_aload_n (i := 0) dX10_enter_45 rfl rfl ?_
        refine pw_getR dX10_enter_46 fl_X10_72 rfl rfl ?_
        refine pw_aload_n (i := 0) dX10_enter_49 rfl rfl ?_
        refine pw_getR dX10_enter_50 fl_X10_35 rfl rfl ?_
        refine pw_getR dX10_enter_53 fl_X10_250 rfl rfl ?_
        refine pw_aload_n (i := 0) dX10_enter_56 rfl rfl ?_
        refine pw_getR dX10_enter_57 fl_X10_72 rfl rfl ?_
        refine pw_cVi [] dX10_enter_60 mv_X10_253 rfl rfl rfl (Nat.le_of_ble_eq_true rfl) (c_X9_onTop h) (fun x5 τ4 h => ?_)
        obtain ⟨hb, h⟩ := h
        refine pw_iald dX10_enter_63 rfl hb ?_
        refine pw_iload_n (i := 1) dX10_enter_64 rfl rfl ?_
        refine pw_cSi [.int (τ4 15 (Int32.toNatClampNeg x5)), .int a1] dX10_enter_65 ms_X10_136 rfl rfl (Nat.le_of_ble_eq_true rfl) (c_X10_holds h) (fun x7 τ6 h => ?_)
        refine pw_cVv [.int x7] dX10_enter_68 mv_X10_256 rfl rfl rfl (Nat.le_of_ble_eq_true rfl) (c_X9_markStep h) (fun τ8 h => ?_)
        refine pw_aload_n (i := 0) dX10_enter_71 rfl rfl ?_
        refine pw_iload_n (i := 1) dX10_enter_72 rfl rfl ?_
        refine pw_cVi [.int a1] dX10_enter_73 mv_X10_260 rfl rfl rfl (Nat.le_of_ble_eq_true rfl) (c_X10_pushMarked h) (fun x10 τ9 h => ?_)
        exact pw_ret dX10_enter_76 rfl rfl ⟨_, rfl, h⟩
      · have h := h.2 q
        refine pw_bipush (v := (-3)) dX10_enter_35 kb_m3 ?_
        exact pw_ret dX10_enter_37 rfl rfl ⟨_, rfl, h⟩
    · have h := h.2 q
      refine pw_bipush (v := (-2)) dX10_enter_20 kb_m2 ?_
      exact pw_ret dX10_enter_22 rfl rfl ⟨_, rfl, h⟩
  · have h := h.2 q
    refine pw_iconst (v := (-1)) dX10_enter_8 kc_m1 ?_
    exact pw_ret dX10_enter_9 rfl rfl ⟨_, rfl, h⟩
/-! X9_pop -/
def R_X9_pop  (σ : pw_Mem) (K : pw_Mem → Prop) : Prop := ∀ τ1, τ1 = pw_up σ 37 2 ((σ 37 2) - 1) → vp_in (τ1 37 2) 40 ∧ ∀ τ2, τ2 = pw_up τ1 37 3 ((τ1 37 3) - (τ1 39 (Int32.toNatClampNeg (τ1 37 2)))) → K τ2
set_option maxHeartbeats 4000000 in
theorem c_X9_pop {L : pw_Lay} {d : Nat}  {σ : pw_Mem} {K : pw_Mem → Prop} (h : R_X9_pop  σ K) : CT L (d + 0) m_X9_pop [.ref 37] σ (kv K) := by
  refine pw_enter (by decide) rfl (Nat.le_of_ble_eq_true rfl) (ls := [some (.ref 37)]) rfl ?_
  unfold R_X9_pop at h
  refine pw_aload_n (i := 0) dX9_pop_0 rfl rfl ?_
  refine pw_dup dX9_pop_1 rfl ?_
  refine pw_getI dX9_pop_2 fl_X9_22 rfl rfl ?_
  refine pw_iconst (v := 1) dX9_pop_5 kc_1 ?_
  refine pw_isub dX9_pop_6 ?_
  refine pw_put dX9_pop_7 fp_X9_22 rfl rfl rfl rfl ?_
  generalize hτ1 : pw_up σ 37 2 ((σ 37 2) - 1) = τ1
  have h := h τ1 hτ1.symm
  refine pw_aload_n (i := 0) dX9_pop_10 rfl rfl ?_
  refine pw_dup dX9_pop_11 rfl ?_
  refine pw_getI dX9_pop_12 fl_X9_25 rfl rfl ?_
  refine pw_aload_n (i := 0) dX9_pop_15 rfl rfl ?_
  refine pw_getR dX9_pop_16 fl_X9_15 rfl rfl ?_
  refine pw_aload_n (i := 0) dX9_pop_19 rfl rfl ?_
  refine pw_getI dX9_pop_20 fl_X9_22 rfl rfl ?_
  obtain ⟨hb, h⟩ := h
  refine pw_iald dX9_pop_23 rfl hb ?_
  refine pw_isub dX9_pop_24 ?_
  refine pw_put dX9_pop_25 fp_X9_25 rfl rfl rfl rfl ?_
  generalize hτ2 : pw_up τ1 37 3 ((τ1 37 3) - (τ1 39 (Int32.toNatClampNeg (τ1 37 2)))) = τ2
  have h := h τ2 hτ2.symm
  exact pw_vret dX9_pop_28 rfl ⟨rfl, h⟩
/-! X10_over -/
def R_X10_over (a1 : Int32) (σ : pw_Mem) (K : Int32 → pw_Mem → Prop) : Prop := R_X10_isRoutine a1 σ (fun x2 τ1 => ((¬ x2 = 0 → ((¬ (τ1 37 2) = 0 → R_X2_refresh  τ1 (fun τ3 => R_X9_onTop  τ3 (fun x5 τ4 => vp_in x5 20 ∧ R_X10_holds (τ4 16 (Int32.toNatClampNeg x5)) a1 τ4 (fun x7 τ6 => R_X9_markStep x7 τ6 (fun τ8 => R_X9_pop  τ8 (fun τ9 => R_X10_pushMarked a1 τ9 (fun x11 τ10 => K x11 τ10))))))) ∧ ((τ1 37 2) = 0 → K (-2) τ1))) ∧ (x2 = 0 → K (-1) τ1)))
set_option maxHeartbeats 4000000 in
theorem c_X10_over {L : pw_Lay} {d : Nat} {a1 : Int32} {σ : pw_Mem} {K : Int32 → pw_Mem → Prop} (h : R_X10_over a1 σ K) : CT L (d + 4) m_X10_over [.ref 0, .int a1] σ (ki K) := by
  refine pw_enter (by decide) rfl (Nat.le_of_ble_eq_true rfl) (ls := [some (.ref 0), some (.int a1)]) rfl ?_
  unfold R_X10_over at h
  refine pw_aload_n (i := 0) dX10_over_0 rfl rfl ?_
  refine pw_iload_n (i := 1) dX10_over_1 rfl rfl ?_
  refine pw_cVi [.int a1] dX10_over_2 mv_X10_98 rfl rfl rfl (Nat.le_of_ble_eq_true rfl) (c_X10_isRoutine h) (fun x2 τ1 h => ?_)
  refine pw_if_ne (tgt := 10) dX10_over_5 rfl (fun q => ?_) (fun q => ?_)
  · have h := h.1 q
    refine pw_aload_n (i := 0) dX10_over_10 rfl rfl ?_
    refine pw_getR dX10_over_11 fl_X10_72 rfl rfl ?_
    refine pw_getI dX10_over_14 fl_X10_247 rfl rfl ?_
    refine pw_if_ne (tgt := 23) dX10_over_17 rfl (fun q => ?_) (fun q => ?_)
    · have h := h.1 q
      refine pw_aload_n (i := 0) dX10_over_23 rfl rfl ?_
      refine pw_getR dX10_over_24 fl_X10_35 rfl rfl ?_
      refine pw_cVv [] dX10_over_27 mv_X10_153 rfl rfl rfl (Nat.le_of_ble_eq_true rfl) (c_X2_refresh h) (fun τ3 h => ?_)
      refine pw_aload_n (i := 0) dX10_over_30 rfl rfl ?_
      refine pw_getR dX10_over_31 fl_X10_72 rfl rfl ?_
      refine pw_aload_n (i := 0) dX10_over_34 rfl rfl ?_
      refine pw_getR dX10_over_35 fl_X10_35 rfl rfl ?_
      refine pw_getR dX10_over_38 fl_X10_263 rfl rfl ?_
      refine pw_aload_n (i := 0) dX10_over_41 rfl rfl ?_
      refine pw_getR dX10_over_42 fl_X10_72 rfl rfl ?_
      refine pw_cVi [] dX10_over_45 mv_X10_253 rfl rfl rfl (Nat.le_of_ble_eq_true rfl) (c_X9_onTop h) (fun x5 τ4 h => ?_)
      obtain ⟨hb, h⟩ := h
      refine pw_iald dX10_over_48 rfl hb ?_
      refine pw_iload_n (i := 1) dX10_over_49 rfl rfl ?_
      refine pw_cSi [.int (τ4 16 (Int32.toNatClampNeg x5)), .int a1] dX10_over_50 ms_X10_136 rfl rfl (Nat.le_of_ble_eq_true rfl) (c_X10_holds h) (fun x7 τ6 h => ?_)
      refine pw_cVv [.int x7] dX10_over_53 mv_X10_256 rfl rfl rfl (Nat.le_of_ble_eq_true rfl) (c_X9_markStep h) (fun τ8 h => ?_)
      refine pw_aload_n (i := 0) dX10_over_56 rfl rfl ?_
      refine pw_getR dX10_over_57 fl_X10_72 rfl rfl ?_
      refine pw_cVv [] dX10_over_60 mv_X10_266 rfl rfl rfl (Nat.le_of_ble_eq_true rfl) (c_X9_pop h) (fun τ9 h => ?_)
      refine pw_aload_n (i := 0) dX10_over_63 rfl rfl ?_
      refine pw_iload_n (i := 1) dX10_over_64 rfl rfl ?_
      refine pw_cVi [.int a1] dX10_over_65 mv_X10_260 rfl rfl rfl (Nat.le_of_ble_eq_true rfl) (c_X10_pushMarked h) (fun x11 τ10 h => ?_)
      exact pw_ret dX10_over_68 rfl rfl ⟨_, rfl, h⟩
    · have h := h.2 q
      refine pw_bipush (v := (-2)) dX10_over_20 kb_m2 ?_
      exact pw_ret dX10_over_22 rfl rfl ⟨_, rfl, h⟩
  · have h := h.2 q
    refine pw_iconst (v := (-1)) dX10_over_8 kc_m1 ?_
    exact pw_ret dX10_over_9 rfl rfl ⟨_, rfl, h⟩
/-! X10_leave -/
def R_X10_leave  (σ : pw_Mem) (K : Int32 → pw_Mem → Prop) : Prop := ((¬ (σ 37 2) = 0 → R_X9_pop  σ (fun τ1 => K (τ1 37 3) τ1)) ∧ ((σ 37 2) = 0 → K (-2) σ))
set_option maxHeartbeats 4000000 in
theorem c_X10_leave {L : pw_Lay} {d : Nat}  {σ : pw_Mem} {K : Int32 → pw_Mem → Prop} (h : R_X10_leave  σ K) : CT L (d + 1) m_X10_leave [.ref 0] σ (ki K) := by
  refine pw_enter (by decide) rfl (Nat.le_of_ble_eq_true rfl) (ls := [some (.ref 0)]) rfl ?_
  unfold R_X10_leave at h
  refine pw_aload_n (i := 0) dX10_leave_0 rfl rfl ?_
  refine pw_getR dX10_leave_1 fl_X10_72 rfl rfl ?_
  refine pw_getI dX10_leave_4 fl_X10_247 rfl rfl ?_
  refine pw_if_ne (tgt := 13) dX10_leave_7 rfl (fun q => ?_) (fun q => ?_)
  · have h := h.1 q
    refine pw_aload_n (i := 0) dX10_leave_13 rfl rfl ?_
    refine pw_getR dX10_leave_14 fl_X10_72 rfl rfl ?_
    refine pw_cVv [] dX10_leave_17 mv_X10_266 rfl rfl rfl (Nat.le_of_ble_eq_true rfl) (c_X9_pop h) (fun τ1 h => ?_)
    refine pw_aload_n (i := 0) dX10_leave_20 rfl rfl ?_
    refine pw_getR dX10_leave_21 fl_X10_72 rfl rfl ?_
    refine pw_getI dX10_leave_24 fl_X10_244 rfl rfl ?_
    exact pw_ret dX10_leave_27 rfl rfl ⟨_, rfl, h⟩
  · have h := h.2 q
    refine pw_bipush (v := (-2)) dX10_leave_10 kb_m2 ?_
    exact pw_ret dX10_leave_12 rfl rfl ⟨_, rfl, h⟩
