/-! X11_sumOf -/
def R_X11_sumOf_L69 (K : Int32 → pw_Mem → Prop) (KX : Int32 → Int32 → Int32 → Int32 → Int32 → Int32 → pw_Mem → Prop) : Nat → Int32 → Int32 → Int32 → Int32 → Int32 → Int32 → pw_Mem → Prop
  | 0, _, _, _, _, _, _, _ => False
  | n + 1, l1, l2, l3, l4, l5, l6, σ => ((l4 ≤ l6 → KX l1 l2 l3 l4 l5 l6 σ) ∧ (¬ l4 ≤ l6 → vp_in l6 6 ∧ ((¬ (σ 70 (Int32.toNatClampNeg l6)) = l2 → R_X11_sumOf_L69 K KX n l1 l2 l3 l4 l5 (l6 + 1) σ) ∧ ((σ 70 (Int32.toNatClampNeg l6)) = l2 → vp_in l4 6 ∧ ((¬ (((σ 69 (Int32.toNatClampNeg l4)) >>> (l6 &&& 31)) &&& 1) = 0 → R_X11_sumOf_L69 K KX n l1 l2 l3 l4 l5 (l6 + 1) σ) ∧ ((((σ 69 (Int32.toNatClampNeg l4)) >>> (l6 &&& 31)) &&& 1) = 0 → K (-4) σ))))))
def R_X11_sumOf_L17 (K : Int32 → pw_Mem → Prop) (KX : Int32 → Int32 → Int32 → Int32 → pw_Mem → Prop) : Nat → Int32 → Int32 → Int32 → Int32 → pw_Mem → Prop
  | 0, _, _, _, _, _ => False
  | n + 1, l1, l2, l3, l4, σ => (((σ 49 19) ≤ l4 → KX l1 l2 l3 l4 σ) ∧ (¬ (σ 49 19) ≤ l4 → vp_in l4 6 ∧ ((¬ (σ 70 (Int32.toNatClampNeg l4)) = l2 → R_X11_sumOf_L17 K KX n l1 l2 l3 (l4 + 1) σ) ∧ ((σ 70 (Int32.toNatClampNeg l4)) = l2 → R_X11_totalOf l4 σ (fun x2 τ1 => vp_in l4 6 ∧ (((x2 + (τ1 68 (Int32.toNatClampNeg l4))) ≤ l3 → ∃ n10, R_X11_sumOf_L69 K (fun y3 y4 y5 y6 y7 y8 τ9 => R_X11_sumOf_L17 K KX n y3 y4 y5 (y6 + 1) τ9) n10 l1 l2 l3 l4 (x2 + (τ1 68 (Int32.toNatClampNeg l4))) 0 τ1) ∧ (¬ (x2 + (τ1 68 (Int32.toNatClampNeg l4))) ≤ l3 → ∃ n18, R_X11_sumOf_L69 K (fun y11 y12 y13 y14 y15 y16 τ17 => R_X11_sumOf_L17 K KX n y11 y12 y13 (y14 + 1) τ17) n18 l1 l2 (x2 + (τ1 68 (Int32.toNatClampNeg l4))) l4 (x2 + (τ1 68 (Int32.toNatClampNeg l4))) 0 τ1)))))))
def R_X11_sumOf_L4 (K : Int32 → pw_Mem → Prop) (KX : Int32 → Int32 → pw_Mem → Prop) : Nat → Int32 → Int32 → pw_Mem → Prop
  | 0, _, _, _ => False
  | n + 1, l1, l2, σ => (((σ 49 19) ≤ l2 → KX l1 l2 σ) ∧ (¬ (σ 49 19) ≤ l2 → ∃ n24, R_X11_sumOf_L17 K (fun y19 y20 y21 y22 τ23 => R_X11_sumOf_L4 K KX n (y19 + y21) (y20 + 1) τ23) n24 l1 l2 0 0 σ))
def R_X11_sumOf  (σ : pw_Mem) (K : Int32 → pw_Mem → Prop) : Prop := ∃ n28, R_X11_sumOf_L4 K (fun y25 y26 τ27 => K y25 τ27) n28 0 0 σ
set_option maxHeartbeats 4000000 in
theorem t_X11_sumOf_L69 {L : pw_Lay} {d : Nat} {K : Int32 → pw_Mem → Prop} {KX : Int32 → Int32 → Int32 → Int32 → Int32 → Int32 → pw_Mem → Prop} : ∀ (n : Nat) (l1 : Int32) (l2 : Int32) (l3 : Int32) (l4 : Int32) (l5 : Int32) (l6 : Int32) (σ : pw_Mem), R_X11_sumOf_L69 K KX n l1 l2 l3 l4 l5 l6 σ → (∀ (l1 : Int32) (l2 : Int32) (l3 : Int32) (l4 : Int32) (l5 : Int32) (l6 : Int32) (τ : pw_Mem), KX l1 l2 l3 l4 l5 l6 τ → PW L (d + 2) m_X11_sumOf (ki K) 111 [some (.ref 49), some (.int l1), some (.int l2), some (.int l3), some (.int l4), some (.int l5), some (.int l6)] [] τ) → PW L (d + 2) m_X11_sumOf (ki K) 69 [some (.ref 49), some (.int l1), some (.int l2), some (.int l3), some (.int l4), some (.int l5), some (.int l6)] [] σ := by
  intro n
  induction n with
  | zero => intro l1 l2 l3 l4 l5 l6 _ h _; exact h.elim
  | succ n ih =>
    intro l1 l2 l3 l4 l5 l6 σ h hX
    unfold R_X11_sumOf_L69 at h
    refine pw_iload dX11_sumOf_69 rfl ?_
    refine pw_iload dX11_sumOf_71 rfl ?_
    refine pw_icmp_ge (tgt := 111) dX11_sumOf_73 rfl (fun q => ?_) (fun q => ?_)
    · have h := h.1 q
      exact hX _ _ _ _ _ _ _ h
    · have h := h.2 q
      refine pw_aload_n (i := 0) dX11_sumOf_76 rfl rfl ?_
      refine pw_getR dX11_sumOf_77 fl_X11_70 rfl rfl ?_
      refine pw_iload dX11_sumOf_80 rfl ?_
      obtain ⟨hb, h⟩ := h
      refine pw_iald dX11_sumOf_82 rfl hb ?_
      refine pw_iload_n (i := 2) dX11_sumOf_83 rfl rfl ?_
      refine pw_icmp_ne (tgt := 105) dX11_sumOf_84 rfl (fun q => ?_) (fun q => ?_)
      · have h := h.1 q
        refine pw_iinc (i := 6) (v := l6 + 1) (ls' := [some (.ref 49), some (.int l1), some (.int l2), some (.int l3), some (.int l4), some (.int l5), some (.int (l6 + 1))]) dX11_sumOf_105 rfl (by rw [kc_1]) (Nat.le_of_ble_eq_true rfl) rfl ?_
        refine pw_goto (tgt := 69) dX11_sumOf_108 rfl ?_
        exact ih _ _ _ _ _ _ _ h hX
      · have h := h.2 q
        refine pw_aload_n (i := 0) dX11_sumOf_87 rfl rfl ?_
        refine pw_getR dX11_sumOf_88 fl_X11_67 rfl rfl ?_
        refine pw_iload dX11_sumOf_91 rfl ?_
        obtain ⟨hb, h⟩ := h
        refine pw_iald dX11_sumOf_93 rfl hb ?_
        refine pw_iload dX11_sumOf_94 rfl ?_
        refine pw_ishr dX11_sumOf_96 ?_
        refine pw_iconst (v := 1) dX11_sumOf_97 kc_1 ?_
        refine pw_iand dX11_sumOf_98 ?_
        refine pw_if_ne (tgt := 105) dX11_sumOf_99 rfl (fun q => ?_) (fun q => ?_)
        · have h := h.1 q
          refine pw_iinc (i := 6) (v := l6 + 1) (ls' := [some (.ref 49), some (.int l1), some (.int l2), some (.int l3), some (.int l4), some (.int l5), some (.int (l6 + 1))]) dX11_sumOf_105 rfl (by rw [kc_1]) (Nat.le_of_ble_eq_true rfl) rfl ?_
          refine pw_goto (tgt := 69) dX11_sumOf_108 rfl ?_
          exact ih _ _ _ _ _ _ _ h hX
        · have h := h.2 q
          refine pw_bipush (v := (-4)) dX11_sumOf_102 kb_m4 ?_
          exact pw_ret dX11_sumOf_104 rfl rfl ⟨_, rfl, h⟩
set_option maxHeartbeats 4000000 in
theorem t_X11_sumOf_L17 {L : pw_Lay} {d : Nat} {K : Int32 → pw_Mem → Prop} {KX : Int32 → Int32 → Int32 → Int32 → pw_Mem → Prop} : ∀ (n : Nat) (l1 : Int32) (l2 : Int32) (l3 : Int32) (l4 : Int32) (σ : pw_Mem), R_X11_sumOf_L17 K KX n l1 l2 l3 l4 σ → (∀ (l1 : Int32) (l2 : Int32) (l3 : Int32) (l4 : Int32) (τ : pw_Mem), KX l1 l2 l3 l4 τ → PW L (d + 2) m_X11_sumOf (ki K) 117 [some (.ref 49), some (.int l1), some (.int l2), some (.int l3), some (.int l4), none, none] [] τ) → PW L (d + 2) m_X11_sumOf (ki K) 17 [some (.ref 49), some (.int l1), some (.int l2), some (.int l3), some (.int l4), none, none] [] σ := by
  intro n
  induction n with
  | zero => intro l1 l2 l3 l4 _ h _; exact h.elim
  | succ n ih =>
    intro l1 l2 l3 l4 σ h hX
    unfold R_X11_sumOf_L17 at h
    refine pw_iload dX11_sumOf_17 rfl ?_
    refine pw_aload_n (i := 0) dX11_sumOf_19 rfl rfl ?_
    refine pw_getI dX11_sumOf_20 fl_X11_169 rfl rfl ?_
    refine pw_icmp_ge (tgt := 117) dX11_sumOf_23 rfl (fun q => ?_) (fun q => ?_)
    · have h := h.1 q
      exact hX _ _ _ _ _ h
    · have h := h.2 q
      refine pw_aload_n (i := 0) dX11_sumOf_26 rfl rfl ?_
      refine pw_getR dX11_sumOf_27 fl_X11_70 rfl rfl ?_
      refine pw_iload dX11_sumOf_30 rfl ?_
      obtain ⟨hb, h⟩ := h
      refine pw_iald dX11_sumOf_32 rfl hb ?_
      refine pw_iload_n (i := 2) dX11_sumOf_33 rfl rfl ?_
      refine pw_icmp_ne (tgt := 111) dX11_sumOf_34 rfl (fun q => ?_) (fun q => ?_)
      · have h := h.1 q
        refine pw_iinc (i := 4) (v := l4 + 1) (ls' := [some (.ref 49), some (.int l1), some (.int l2), some (.int l3), some (.int (l4 + 1)), none, none]) dX11_sumOf_111 rfl (by rw [kc_1]) (Nat.le_of_ble_eq_true rfl) rfl ?_
        refine pw_goto (tgt := 17) dX11_sumOf_114 rfl ?_
        exact ih _ _ _ _ _ h hX
      · have h := h.2 q
        refine pw_aload_n (i := 0) dX11_sumOf_37 rfl rfl ?_
        refine pw_iload dX11_sumOf_38 rfl ?_
        refine pw_cVi [.int l4] dX11_sumOf_40 mv_X11_178 rfl rfl rfl (Nat.le_of_ble_eq_true rfl) (c_X11_totalOf h) (fun x2 τ1 h => ?_)
        refine pw_aload_n (i := 0) dX11_sumOf_43 rfl rfl ?_
        refine pw_getR dX11_sumOf_44 fl_X11_64 rfl rfl ?_
        refine pw_iload dX11_sumOf_47 rfl ?_
        obtain ⟨hb, h⟩ := h
        refine pw_iald dX11_sumOf_49 rfl hb ?_
        refine pw_iadd dX11_sumOf_50 ?_
        refine pw_istore (i := 5) (ls' := [some (.ref 49), some (.int l1), some (.int l2), some (.int l3), some (.int l4), some (.int (x2 + (τ1 68 (Int32.toNatClampNeg l4)))), none]) dX11_sumOf_51 (Nat.le_of_ble_eq_true rfl) rfl ?_
        refine pw_iload dX11_sumOf_53 rfl ?_
        refine pw_iload_n (i := 3) dX11_sumOf_55 rfl rfl ?_
        refine pw_icmp_le (tgt := 64) dX11_sumOf_56 rfl (fun q => ?_) (fun q => ?_)
        · have h := h.1 q
          refine pw_iload_n (i := 3) dX11_sumOf_64 rfl rfl ?_
          refine pw_istore_n (i := 3) (ls' := [some (.ref 49), some (.int l1), some (.int l2), some (.int l3), some (.int l4), some (.int (x2 + (τ1 68 (Int32.toNatClampNeg l4)))), none]) dX11_sumOf_65 rfl (Nat.le_of_ble_eq_true rfl) rfl ?_
          refine pw_iconst (v := 0) dX11_sumOf_66 kc_0 ?_
          refine pw_istore (i := 6) (ls' := [some (.ref 49), some (.int l1), some (.int l2), some (.int l3), some (.int l4), some (.int (x2 + (τ1 68 (Int32.toNatClampNeg l4)))), some (.int 0)]) dX11_sumOf_67 (Nat.le_of_ble_eq_true rfl) rfl ?_
          obtain ⟨n10, h⟩ := h
          refine t_X11_sumOf_L69 _ _ _ _ _ _ _ _ h (fun y3 y4 y5 y6 y7 y8 τ9 h => ?_)
          refine pw_iinc (i := 4) (v := y6 + 1) (ls' := [some (.ref 49), some (.int y3), some (.int y4), some (.int y5), some (.int (y6 + 1)), some (.int y7), some (.int y8)]) dX11_sumOf_111 rfl (by rw [kc_1]) (Nat.le_of_ble_eq_true rfl) rfl ?_
          refine pw_goto (tgt := 17) dX11_sumOf_114 rfl ?_
          refine pw_forget (ls' := [some (.ref 49), some (.int y3), some (.int y4), some (.int y5), some (.int (y6 + 1)), none, none]) (And.intro rfl (And.intro rfl (And.intro rfl (And.intro rfl (And.intro rfl trivial))))) ?_
          exact ih _ _ _ _ _ h hX
        · have h := h.2 q
          refine pw_iload dX11_sumOf_59 rfl ?_
          refine pw_goto (tgt := 65) dX11_sumOf_61 rfl ?_
          refine pw_istore_n (i := 3) (ls' := [some (.ref 49), some (.int l1), some (.int l2), some (.int (x2 + (τ1 68 (Int32.toNatClampNeg l4)))), some (.int l4), some (.int (x2 + (τ1 68 (Int32.toNatClampNeg l4)))), none]) dX11_sumOf_65 rfl (Nat.le_of_ble_eq_true rfl) rfl ?_
          refine pw_iconst (v := 0) dX11_sumOf_66 kc_0 ?_
          refine pw_istore (i := 6) (ls' := [some (.ref 49), some (.int l1), some (.int l2), some (.int (x2 + (τ1 68 (Int32.toNatClampNeg l4)))), some (.int l4), some (.int (x2 + (τ1 68 (Int32.toNatClampNeg l4)))), some (.int 0)]) dX11_sumOf_67 (Nat.le_of_ble_eq_true rfl) rfl ?_
          obtain ⟨n18, h⟩ := h
          refine t_X11_sumOf_L69 _ _ _ _ _ _ _ _ h (fun y11 y12 y13 y14 y15 y16 τ17 h => ?_)
          refine pw_iinc (i := 4) (v := y14 + 1) (ls' := [some (.ref 49), some (.int y11), some (.int y12), some (.int y13), some (.int (y14 + 1)), some (.int y15), some (.int y16)]) dX11_sumOf_111 rfl (by rw [kc_1]) (Nat.le_of_ble_eq_true rfl) rfl ?_
          refine pw_goto (tgt := 17) dX11_sumOf_114 rfl ?_
          refine pw_forget (ls' := [some (.ref 49), some (.int y11), some (.int y12), some (.int y13), some (.int (y14 + 1)), none, none]) (And.intro rfl (And.intro rfl (And.intro rfl (And.intro rfl (And.intro rfl trivial))))) ?_
          exact ih _ _ _ _ _ h hX
set_option maxHeartbeats 4000000 in
theorem t_X11_sumOf_L4 {L : pw_Lay} {d : Nat} {K : Int32 → pw_Mem → Prop} {KX : Int32 → Int32 → pw_Mem → Prop} : ∀ (n : Nat) (l1 : Int32) (l2 : Int32) (σ : pw_Mem), R_X11_sumOf_L4 K KX n l1 l2 σ → (∀ (l1 : Int32) (l2 : Int32) (τ : pw_Mem), KX l1 l2 τ → PW L (d + 2) m_X11_sumOf (ki K) 127 [some (.ref 49), some (.int l1), some (.int l2), none, none, none, none] [] τ) → PW L (d + 2) m_X11_sumOf (ki K) 4 [some (.ref 49), some (.int l1), some (.int l2), none, none, none, none] [] σ := by
  intro n
  induction n with
  | zero => intro l1 l2 _ h _; exact h.elim
  | succ n ih =>
    intro l1 l2 σ h hX
    unfold R_X11_sumOf_L4 at h
    refine pw_iload_n (i := 2) dX11_sumOf_4 rfl rfl ?_
    refine pw_aload_n (i := 0) dX11_sumOf_5 rfl rfl ?_
    refine pw_getI dX11_sumOf_6 fl_X11_169 rfl rfl ?_
    refine pw_icmp_ge (tgt := 127) dX11_sumOf_9 rfl (fun q => ?_) (fun q => ?_)
    · have h := h.1 q
      exact hX _ _ _ h
    · have h := h.2 q
      refine pw_iconst (v := 0) dX11_sumOf_12 kc_0 ?_
      refine pw_istore_n (i := 3) (ls' := [some (.ref 49), some (.int l1), some (.int l2), some (.int 0), none, none, none]) dX11_sumOf_13 rfl (Nat.le_of_ble_eq_true rfl) rfl ?_
      refine pw_iconst (v := 0) dX11_sumOf_14 kc_0 ?_
      refine pw_istore (i := 4) (ls' := [some (.ref 49), some (.int l1), some (.int l2), some (.int 0), some (.int 0), none, none]) dX11_sumOf_15 (Nat.le_of_ble_eq_true rfl) rfl ?_
      obtain ⟨n24, h⟩ := h
      refine t_X11_sumOf_L17 _ _ _ _ _ _ h (fun y19 y20 y21 y22 τ23 h => ?_)
      refine pw_iload_n (i := 1) dX11_sumOf_117 rfl rfl ?_
      refine pw_iload_n (i := 3) dX11_sumOf_118 rfl rfl ?_
      refine pw_iadd dX11_sumOf_119 ?_
      refine pw_istore_n (i := 1) (ls' := [some (.ref 49), some (.int (y19 + y21)), some (.int y20), some (.int y21), some (.int y22), none, none]) dX11_sumOf_120 rfl (Nat.le_of_ble_eq_true rfl) rfl ?_
      refine pw_iinc (i := 2) (v := y20 + 1) (ls' := [some (.ref 49), some (.int (y19 + y21)), some (.int (y20 + 1)), some (.int y21), some (.int y22), none, none]) dX11_sumOf_121 rfl (by rw [kc_1]) (Nat.le_of_ble_eq_true rfl) rfl ?_
      refine pw_goto (tgt := 4) dX11_sumOf_124 rfl ?_
      refine pw_forget (ls' := [some (.ref 49), some (.int (y19 + y21)), some (.int (y20 + 1)), none, none, none, none]) (And.intro rfl (And.intro rfl (And.intro rfl trivial))) ?_
      exact ih _ _ _ h hX
set_option maxHeartbeats 4000000 in
theorem c_X11_sumOf {L : pw_Lay} {d : Nat}  {σ : pw_Mem} {K : Int32 → pw_Mem → Prop} (h : R_X11_sumOf  σ K) : CT L (d + 2) m_X11_sumOf [.ref 49] σ (ki K) := by
  refine pw_enter (by decide) rfl (Nat.le_of_ble_eq_true rfl) (ls := [some (.ref 49), none, none, none, none, none, none]) rfl ?_
  unfold R_X11_sumOf at h
  refine pw_iconst (v := 0) dX11_sumOf_0 kc_0 ?_
  refine pw_istore_n (i := 1) (ls' := [some (.ref 49), some (.int 0), none, none, none, none, none]) dX11_sumOf_1 rfl (Nat.le_of_ble_eq_true rfl) rfl ?_
  refine pw_iconst (v := 0) dX11_sumOf_2 kc_0 ?_
  refine pw_istore_n (i := 2) (ls' := [some (.ref 49), some (.int 0), some (.int 0), none, none, none, none]) dX11_sumOf_3 rfl (Nat.le_of_ble_eq_true rfl) rfl ?_
  obtain ⟨n28, h⟩ := h
  refine t_X11_sumOf_L4 _ _ _ _ h (fun y25 y26 τ27 h => ?_)
  refine pw_iload_n (i := 1) dX11_sumOf_127 rfl rfl ?_
  exact pw_ret dX11_sumOf_128 rfl rfl ⟨_, rfl, h⟩
/-! X11_highest -/
def R_X11_highest_L4 (K : Int32 → pw_Mem → Prop) (KX : Int32 → Int32 → Int32 → pw_Mem → Prop) : Nat → Int32 → Int32 → Int32 → pw_Mem → Prop
  | 0, _, _, _, _ => False
  | n + 1, l1, l2, l3, σ => ((l1 ≤ l3 → KX l1 l2 l3 σ) ∧ (¬ l1 ≤ l3 → vp_in l3 6 ∧ (((σ 70 (Int32.toNatClampNeg l3)) ≤ l2 → R_X11_highest_L4 K KX n l1 l2 (l3 + 1) σ) ∧ (¬ (σ 70 (Int32.toNatClampNeg l3)) ≤ l2 → vp_in l3 6 ∧ R_X11_highest_L4 K KX n l1 (σ 70 (Int32.toNatClampNeg l3)) (l3 + 1) σ))))
def R_X11_highest (a1 : Int32) (σ : pw_Mem) (K : Int32 → pw_Mem → Prop) : Prop := ∃ n5, R_X11_highest_L4 K (fun y1 y2 y3 τ4 => K y2 τ4) n5 a1 (-1) 0 σ
set_option maxHeartbeats 4000000 in
theorem t_X11_highest_L4 {L : pw_Lay} {d : Nat} {K : Int32 → pw_Mem → Prop} {KX : Int32 → Int32 → Int32 → pw_Mem → Prop} : ∀ (n : Nat) (l1 : Int32) (l2 : Int32) (l3 : Int32) (σ : pw_Mem), R_X11_highest_L4 K KX n l1 l2 l3 σ → (∀ (l1 : Int32) (l2 : Int32) (l3 : Int32) (τ : pw_Mem), KX l1 l2 l3 τ → PW L (d + 0) m_X11_highest (ki K) 36 [some (.ref 49), some (.int l1), some (.int l2), some (.int l3)] [] τ) → PW L (d + 0) m_X11_highest (ki K) 4 [some (.ref 49), some (.int l1), some (.int l2), some (.int l3)] [] σ := by
  intro n
  induction n with
  | zero => intro l1 l2 l3 _ h _; exact h.elim
  | succ n ih =>
    intro l1 l2 l3 σ h hX
    unfold R_X11_highest_L4 at h
    refine pw_iload_n (i := 3) dX11_highest_4 rfl rfl ?_
    refine pw_iload_n (i := 1) dX11_highest_5 rfl rfl ?_
    refine pw_icmp_ge (tgt := 36) dX11_highest_6 rfl (fun q => ?_) (fun q => ?_)
    · have h := h.1 q
      exact hX _ _ _ _ h
    · have h := h.2 q
      refine pw_aload_n (i := 0) dX11_highest_9 rfl rfl ?_
      refine pw_getR dX11_highest_10 fl_X11_70 rfl rfl ?_
      refine pw_iload_n (i := 3) dX11_highest_13 rfl rfl ?_
      obtain ⟨hb, h⟩ := h
      refine pw_iald dX11_highest_14 rfl hb ?_
      refine pw_iload_n (i := 2) dX11_highest_15 rfl rfl ?_
      refine pw_icmp_le (tgt := 28) dX11_highest_16 rfl (fun q => ?_) (fun q => ?_)
      · have h := h.1 q
        refine pw_iload_n (i := 2) dX11_highest_28 rfl rfl ?_
        refine pw_istore_n (i := 2) (ls' := [some (.ref 49), some (.int l1), some (.int l2), some (.int l3)]) dX11_highest_29 rfl (Nat.le_of_ble_eq_true rfl) rfl ?_
        refine pw_iinc (i := 3) (v := l3 + 1) (ls' := [some (.ref 49), some (.int l1), some (.int l2), some (.int (l3 + 1))]) dX11_highest_30 rfl (by rw [kc_1]) (Nat.le_of_ble_eq_true rfl) rfl ?_
        refine pw_goto (tgt := 4) dX11_highest_33 rfl ?_
        exact ih _ _ _ _ h hX
      · have h := h.2 q
        refine pw_aload_n (i := 0) dX11_highest_19 rfl rfl ?_
        refine pw_getR dX11_highest_20 fl_X11_70 rfl rfl ?_
        refine pw_iload_n (i := 3) dX11_highest_23 rfl rfl ?_
        obtain ⟨hb, h⟩ := h
        refine pw_iald dX11_highest_24 rfl hb ?_
        refine pw_goto (tgt := 29) dX11_highest_25 rfl ?_
        refine pw_istore_n (i := 2) (ls' := [some (.ref 49), some (.int l1), some (.int (σ 70 (Int32.toNatClampNeg l3))), some (.int l3)]) dX11_highest_29 rfl (Nat.le_of_ble_eq_true rfl) rfl ?_
        refine pw_iinc (i := 3) (v := l3 + 1) (ls' := [some (.ref 49), some (.int l1), some (.int (σ 70 (Int32.toNatClampNeg l3))), some (.int (l3 + 1))]) dX11_highest_30 rfl (by rw [kc_1]) (Nat.le_of_ble_eq_true rfl) rfl ?_
        refine pw_goto (tgt := 4) dX11_highest_33 rfl ?_
        exact ih _ _ _ _ h hX
set_option maxHeartbeats 4000000 in
theorem c_X11_highest {L : pw_Lay} {d : Nat} {a1 : Int32} {σ : pw_Mem} {K : Int32 → pw_Mem → Prop} (h : R_X11_highest a1 σ K) : CT L (d + 0) m_X11_highest [.ref 49, .int a1] σ (ki K) := by
  refine pw_enter (by decide) rfl (Nat.le_of_ble_eq_true rfl) (ls := [some (.ref 49), some (.int a1), none, none]) rfl ?_
  unfold R_X11_highest at h
  refine pw_iconst (v := (-1)) dX11_highest_0 kc_m1 ?_
  refine pw_istore_n (i := 2) (ls' := [some (.ref 49), some (.int a1), some (.int (-1)), none]) dX11_highest_1 rfl (Nat.le_of_ble_eq_true rfl) rfl ?_
  refine pw_iconst (v := 0) dX11_highest_2 kc_0 ?_
  refine pw_istore_n (i := 3) (ls' := [some (.ref 49), some (.int a1), some (.int (-1)), some (.int 0)]) dX11_highest_3 rfl (Nat.le_of_ble_eq_true rfl) rfl ?_
  obtain ⟨n5, h⟩ := h
  refine t_X11_highest_L4 _ _ _ _ _ h (fun y1 y2 y3 τ4 h => ?_)
  refine pw_iload_n (i := 2) dX11_highest_36 rfl rfl ?_
  exact pw_ret dX11_highest_37 rfl rfl ⟨_, rfl, h⟩
/-! X11_nextWay -/
def R_X11_nextWay_L7 (K : Int32 → pw_Mem → Prop) (KX : Int32 → pw_Mem → Prop) : Nat → Int32 → pw_Mem → Prop
  | 0, _, _ => False
  | n + 1, l1, σ => ((l1 < 0 → KX l1 σ) ∧ (¬ l1 < 0 → vp_in l1 6 ∧ R_X11_highest l1 σ (fun x2 τ1 => (((σ 70 (Int32.toNatClampNeg l1)) ≤ x2 → KX l1 τ1) ∧ (¬ (σ 70 (Int32.toNatClampNeg l1)) ≤ x2 → R_X11_nextWay_L7 K KX n (l1 + (-1)) τ1)))))
def R_X11_nextWay_L51 (K : Int32 → pw_Mem → Prop) (KX : Int32 → Int32 → pw_Mem → Prop) : Nat → Int32 → Int32 → pw_Mem → Prop
  | 0, _, _, _ => False
  | n + 1, l1, l2, σ => (((σ 49 19) ≤ l2 → KX l1 l2 σ) ∧ (¬ (σ 49 19) ≤ l2 → vp_in l2 6 ∧ ∀ τ6, τ6 = pw_up σ 70 (Int32.toNatClampNeg l2) 0 → R_X11_nextWay_L51 K KX n l1 (l2 + 1) τ6))
def R_X11_nextWay  (σ : pw_Mem) (K : Int32 → pw_Mem → Prop) : Prop := ∃ n11, R_X11_nextWay_L7 K (fun y3 τ4 => ((0 ≤ y3 → vp_in y3 6 ∧ vp_in y3 6 ∧ ∀ τ5, τ5 = pw_up τ4 70 (Int32.toNatClampNeg y3) ((τ4 70 (Int32.toNatClampNeg y3)) + 1) → ∃ n10, R_X11_nextWay_L51 K (fun y7 y8 τ9 => K 1 τ9) n10 y3 (y3 + 1) τ5) ∧ (¬ 0 ≤ y3 → K 0 τ4))) n11 ((σ 49 19) - 1) σ
set_option maxHeartbeats 4000000 in
theorem t_X11_nextWay_L7 {L : pw_Lay} {d : Nat} {K : Int32 → pw_Mem → Prop} {KX : Int32 → pw_Mem → Prop} : ∀ (n : Nat) (l1 : Int32) (σ : pw_Mem), R_X11_nextWay_L7 K KX n l1 σ → (∀ (l1 : Int32) (τ : pw_Mem), KX l1 τ → PW L (d + 1) m_X11_nextWay (ki K) 31 [some (.ref 49), some (.int l1), none] [] τ) → PW L (d + 1) m_X11_nextWay (ki K) 7 [some (.ref 49), some (.int l1), none] [] σ := by
  intro n
  induction n with
  | zero => intro l1 _ h _; exact h.elim
  | succ n ih =>
    intro l1 σ h hX
    unfold R_X11_nextWay_L7 at h
    refine pw_iload_n (i := 1) dX11_nextWay_7 rfl rfl ?_
    refine pw_if_lt (tgt := 31) dX11_nextWay_8 rfl (fun q => ?_) (fun q => ?_)
    · have h := h.1 q
      exact hX _ _ h
    · have h := h.2 q
      refine pw_aload_n (i := 0) dX11_nextWay_11 rfl rfl ?_
      refine pw_getR dX11_nextWay_12 fl_X11_70 rfl rfl ?_
      refine pw_iload_n (i := 1) dX11_nextWay_15 rfl rfl ?_
      obtain ⟨hb, h⟩ := h
      refine pw_iald dX11_nextWay_16 rfl hb ?_
      refine pw_aload_n (i := 0) dX11_nextWay_17 rfl rfl ?_
      refine pw_iload_n (i := 1) dX11_nextWay_18 rfl rfl ?_
      refine pw_cVi [.int l1] dX11_nextWay_19 mv_X11_181 rfl rfl rfl (Nat.le_of_ble_eq_true rfl) (c_X11_highest h) (fun x2 τ1 h => ?_)
      refine pw_icmp_le (tgt := 31) dX11_nextWay_22 rfl (fun q => ?_) (fun q => ?_)
      · have h := h.1 q
        exact hX _ _ h
      · have h := h.2 q
        refine pw_iinc (i := 1) (v := l1 + (-1)) (ls' := [some (.ref 49), some (.int (l1 + (-1))), none]) dX11_nextWay_25 rfl (by rw [kc_m1]) (Nat.le_of_ble_eq_true rfl) rfl ?_
        refine pw_goto (tgt := 7) dX11_nextWay_28 rfl ?_
        exact ih _ _ h hX
set_option maxHeartbeats 4000000 in
theorem t_X11_nextWay_L51 {L : pw_Lay} {d : Nat} {K : Int32 → pw_Mem → Prop} {KX : Int32 → Int32 → pw_Mem → Prop} : ∀ (n : Nat) (l1 : Int32) (l2 : Int32) (σ : pw_Mem), R_X11_nextWay_L51 K KX n l1 l2 σ → (∀ (l1 : Int32) (l2 : Int32) (τ : pw_Mem), KX l1 l2 τ → PW L (d + 1) m_X11_nextWay (ki K) 72 [some (.ref 49), some (.int l1), some (.int l2)] [] τ) → PW L (d + 1) m_X11_nextWay (ki K) 51 [some (.ref 49), some (.int l1), some (.int l2)] [] σ := by
  intro n
  induction n with
  | zero => intro l1 l2 _ h _; exact h.elim
  | succ n ih =>
    intro l1 l2 σ h hX
    unfold R_X11_nextWay_L51 at h
    refine pw_iload_n (i := 2) dX11_nextWay_51 rfl rfl ?_
    refine pw_aload_n (i := 0) dX11_nextWay_52 rfl rfl ?_
    refine pw_getI dX11_nextWay_53 fl_X11_169 rfl rfl ?_
    refine pw_icmp_ge (tgt := 72) dX11_nextWay_56 rfl (fun q => ?_) (fun q => ?_)
    · have h := h.1 q
      exact hX _ _ _ h
    · have h := h.2 q
      refine pw_aload_n (i := 0) dX11_nextWay_59 rfl rfl ?_
      refine pw_getR dX11_nextWay_60 fl_X11_70 rfl rfl ?_
      refine pw_iload_n (i := 2) dX11_nextWay_63 rfl rfl ?_
      refine pw_iconst (v := 0) dX11_nextWay_64 kc_0 ?_
      obtain ⟨hb, h⟩ := h
      refine pw_iast dX11_nextWay_65 rfl hb ?_
      generalize hτ6 : pw_up σ 70 (Int32.toNatClampNeg l2) 0 = τ6
      have h := h τ6 hτ6.symm
      refine pw_iinc (i := 2) (v := l2 + 1) (ls' := [some (.ref 49), some (.int l1), some (.int (l2 + 1))]) dX11_nextWay_66 rfl (by rw [kc_1]) (Nat.le_of_ble_eq_true rfl) rfl ?_
      refine pw_goto (tgt := 51) dX11_nextWay_69 rfl ?_
      exact ih _ _ _ h hX
set_option maxHeartbeats 4000000 in
theorem c_X11_nextWay {L : pw_Lay} {d : Nat}  {σ : pw_Mem} {K : Int32 → pw_Mem → Prop} (h : R_X11_nextWay  σ K) : CT L (d + 1) m_X11_nextWay [.ref 49] σ (ki K) := by
  refine pw_enter (by decide) rfl (Nat.le_of_ble_eq_true rfl) (ls := [some (.ref 49), none, none]) rfl ?_
  unfold R_X11_nextWay at h
  refine pw_aload_n (i := 0) dX11_nextWay_0 rfl rfl ?_
  refine pw_getI dX11_nextWay_1 fl_X11_169 rfl rfl ?_
  refine pw_iconst (v := 1) dX11_nextWay_4 kc_1 ?_
  refine pw_isub dX11_nextWay_5 ?_
  refine pw_istore_n (i := 1) (ls' := [some (.ref 49), some (.int ((σ 49 19) - 1)), none]) dX11_nextWay_6 rfl (Nat.le_of_ble_eq_true rfl) rfl ?_
  obtain ⟨n11, h⟩ := h
  refine t_X11_nextWay_L7 _ _ _ h (fun y3 τ4 h => ?_)
  refine pw_iload_n (i := 1) dX11_nextWay_31 rfl rfl ?_
  refine pw_if_ge (tgt := 37) dX11_nextWay_32 rfl (fun q => ?_) (fun q => ?_)
  · have h := h.1 q
    refine pw_aload_n (i := 0) dX11_nextWay_37 rfl rfl ?_
    refine pw_getR dX11_nextWay_38 fl_X11_70 rfl rfl ?_
    refine pw_iload_n (i := 1) dX11_nextWay_41 rfl rfl ?_
    refine pw_dup2 dX11_nextWay_42 rfl rfl ?_
    obtain ⟨hb, h⟩ := h
    refine pw_iald dX11_nextWay_43 rfl hb ?_
    refine pw_iconst (v := 1) dX11_nextWay_44 kc_1 ?_
    refine pw_iadd dX11_nextWay_45 ?_
    obtain ⟨hb, h⟩ := h
    refine pw_iast dX11_nextWay_46 rfl hb ?_
    generalize hτ5 : pw_up τ4 70 (Int32.toNatClampNeg y3) ((τ4 70 (Int32.toNatClampNeg y3)) + 1) = τ5
    have h := h τ5 hτ5.symm
    refine pw_iload_n (i := 1) dX11_nextWay_47 rfl rfl ?_
    refine pw_iconst (v := 1) dX11_nextWay_48 kc_1 ?_
    refine pw_iadd dX11_nextWay_49 ?_
    refine pw_istore_n (i := 2) (ls' := [some (.ref 49), some (.int y3), some (.int (y3 + 1))]) dX11_nextWay_50 rfl (Nat.le_of_ble_eq_true rfl) rfl ?_
    obtain ⟨n10, h⟩ := h
    refine t_X11_nextWay_L51 _ _ _ _ h (fun y7 y8 τ9 h => ?_)
    refine pw_iconst (v := 1) dX11_nextWay_72 kc_1 ?_
    exact pw_ret dX11_nextWay_73 rfl rfl ⟨_, rfl, h⟩
  · have h := h.2 q
    refine pw_iconst (v := 0) dX11_nextWay_35 kc_0 ?_
    exact pw_ret dX11_nextWay_36 rfl rfl ⟨_, rfl, h⟩
/-! X11_share -/
def R_X11_share_L6 (K : Int32 → pw_Mem → Prop) (KX : Int32 → pw_Mem → Prop) : Nat → Int32 → pw_Mem → Prop
  | 0, _, _ => False
  | n + 1, l1, σ => (((σ 49 19) ≤ l1 → KX l1 σ) ∧ (¬ (σ 49 19) ≤ l1 → vp_in l1 6 ∧ ∀ τ2, τ2 = pw_up σ 70 (Int32.toNatClampNeg l1) 0 → R_X11_totalOf l1 τ2 (fun x4 τ3 => ((¬ x4 = (-5) → R_X11_share_L6 K KX n (l1 + 1) τ3) ∧ (x4 = (-5) → K 0 τ3)))))
def R_X11_share_L86 (K : Int32 → pw_Mem → Prop) (KX : Int32 → Int32 → Int32 → pw_Mem → Prop) : Nat → Int32 → Int32 → Int32 → pw_Mem → Prop
  | 0, _, _, _, _ => False
  | n + 1, l1, l2, l3, σ => (((σ 49 19) ≤ l3 → KX l1 l2 l3 σ) ∧ (¬ (σ 49 19) ≤ l3 → vp_in l3 6 ∧ vp_in l3 6 ∧ ∀ τ13, τ13 = pw_up σ 71 (Int32.toNatClampNeg l3) (σ 70 (Int32.toNatClampNeg l3)) → R_X11_share_L86 K KX n l1 l2 (l3 + 1) τ13))
def R_X11_share_L47 (K : Int32 → pw_Mem → Prop) (KX : Int32 → pw_Mem → Prop) : Nat → Int32 → pw_Mem → Prop
  | 0, _, _ => False
  | n + 1, l1, σ => ((l1 = 0 → KX l1 σ) ∧ (¬ l1 = 0 → R_X11_sumOf  σ (fun x9 τ8 => ((x9 = (-4) → R_X11_nextWay  τ8 (fun x11 τ10 => R_X11_share_L47 K KX n x11 τ10)) ∧ (¬ x9 = (-4) → (((τ8 49 26) = (-4) → ∀ τ12, τ12 = pw_up τ8 49 26 x9 → ∃ n20, R_X11_share_L86 K (fun y14 y15 y16 τ17 => R_X11_nextWay  τ17 (fun x19 τ18 => R_X11_share_L47 K KX n x19 τ18)) n20 l1 x9 0 τ12) ∧ (¬ (τ8 49 26) = (-4) → (((τ8 49 26) ≤ x9 → R_X11_nextWay  τ8 (fun x22 τ21 => R_X11_share_L47 K KX n x22 τ21)) ∧ (¬ (τ8 49 26) ≤ x9 → ∀ τ23, τ23 = pw_up τ8 49 26 x9 → ∃ n30, R_X11_share_L86 K (fun y24 y25 y26 τ27 => R_X11_nextWay  τ27 (fun x29 τ28 => R_X11_share_L47 K KX n x29 τ28)) n30 l1 x9 0 τ23)))))))))
def R_X11_share  (σ : pw_Mem) (K : Int32 → pw_Mem → Prop) : Prop := R_X11_layDepths  σ (fun τ1 => ∃ n34, R_X11_share_L6 K (fun y5 τ6 => ∀ τ7, τ7 = pw_up τ6 49 26 (-4) → ∃ n33, R_X11_share_L47 K (fun y31 τ32 => K 1 τ32) n33 1 τ7) n34 0 τ1)
set_option maxHeartbeats 4000000 in
theorem t_X11_share_L6 {L : pw_Lay} {d : Nat} {K : Int32 → pw_Mem → Prop} {KX : Int32 → pw_Mem → Prop} : ∀ (n : Nat) (l1 : Int32) (σ : pw_Mem), R_X11_share_L6 K KX n l1 σ → (∀ (l1 : Int32) (τ : pw_Mem), KX l1 τ → PW L (d + 4) m_X11_share (ki K) 39 [some (.ref 49), some (.int l1), none, none] [] τ) → PW L (d + 4) m_X11_share (ki K) 6 [some (.ref 49), some (.int l1), none, none] [] σ := by
  intro n
  induction n with
  | zero => intro l1 _ h _; exact h.elim
  | succ n ih =>
    intro l1 σ h hX
    unfold R_X11_share_L6 at h
    refine pw_iload_n (i := 1) dX11_share_6 rfl rfl ?_
    refine pw_aload_n (i := 0) dX11_share_7 rfl rfl ?_
    refine pw_getI dX11_share_8 fl_X11_169 rfl rfl ?_
    refine pw_icmp_ge (tgt := 39) dX11_share_11 rfl (fun q => ?_) (fun q => ?_)
    · have h := h.1 q
      exact hX _ _ h
    · have h := h.2 q
      refine pw_aload_n (i := 0) dX11_share_14 rfl rfl ?_
      refine pw_getR dX11_share_15 fl_X11_70 rfl rfl ?_
      refine pw_iload_n (i := 1) dX11_share_18 rfl rfl ?_
      refine pw_iconst (v := 0) dX11_share_19 kc_0 ?_
      obtain ⟨hb, h⟩ := h
      refine pw_iast dX11_share_20 rfl hb ?_
      generalize hτ2 : pw_up σ 70 (Int32.toNatClampNeg l1) 0 = τ2
      have h := h τ2 hτ2.symm
      refine pw_aload_n (i := 0) dX11_share_21 rfl rfl ?_
      refine pw_iload_n (i := 1) dX11_share_22 rfl rfl ?_
      refine pw_cVi [.int l1] dX11_share_23 mv_X11_178 rfl rfl rfl (Nat.le_of_ble_eq_true rfl) (c_X11_totalOf h) (fun x4 τ3 h => ?_)
      refine pw_bipush (v := (-5)) dX11_share_26 kb_m5 ?_
      refine pw_icmp_ne (tgt := 33) dX11_share_28 rfl (fun q => ?_) (fun q => ?_)
      · have h := h.1 q
        refine pw_iinc (i := 1) (v := l1 + 1) (ls' := [some (.ref 49), some (.int (l1 + 1)), none, none]) dX11_share_33 rfl (by rw [kc_1]) (Nat.le_of_ble_eq_true rfl) rfl ?_
        refine pw_goto (tgt := 6) dX11_share_36 rfl ?_
        exact ih _ _ h hX
      · have h := h.2 q
        refine pw_iconst (v := 0) dX11_share_31 kc_0 ?_
        exact pw_ret dX11_share_32 rfl rfl ⟨_, rfl, h⟩
set_option maxHeartbeats 4000000 in
theorem t_X11_share_L86 {L : pw_Lay} {d : Nat} {K : Int32 → pw_Mem → Prop} {KX : Int32 → Int32 → Int32 → pw_Mem → Prop} : ∀ (n : Nat) (l1 : Int32) (l2 : Int32) (l3 : Int32) (σ : pw_Mem), R_X11_share_L86 K KX n l1 l2 l3 σ → (∀ (l1 : Int32) (l2 : Int32) (l3 : Int32) (τ : pw_Mem), KX l1 l2 l3 τ → PW L (d + 4) m_X11_share (ki K) 112 [some (.ref 49), some (.int l1), some (.int l2), some (.int l3)] [] τ) → PW L (d + 4) m_X11_share (ki K) 86 [some (.ref 49), some (.int l1), some (.int l2), some (.int l3)] [] σ := by
  intro n
  induction n with
  | zero => intro l1 l2 l3 _ h _; exact h.elim
  | succ n ih =>
    intro l1 l2 l3 σ h hX
    unfold R_X11_share_L86 at h
    refine pw_iload_n (i := 3) dX11_share_86 rfl rfl ?_
    refine pw_aload_n (i := 0) dX11_share_87 rfl rfl ?_
    refine pw_getI dX11_share_88 fl_X11_169 rfl rfl ?_
    refine pw_icmp_ge (tgt := 112) dX11_share_91 rfl (fun q => ?_) (fun q => ?_)
    · have h := h.1 q
      exact hX _ _ _ _ h
    · have h := h.2 q
      refine pw_aload_n (i := 0) dX11_share_94 rfl rfl ?_
      refine pw_getR dX11_share_95 fl_X11_73 rfl rfl ?_
      refine pw_iload_n (i := 3) dX11_share_98 rfl rfl ?_
      refine pw_aload_n (i := 0) dX11_share_99 rfl rfl ?_
      refine pw_getR dX11_share_100 fl_X11_70 rfl rfl ?_
      refine pw_iload_n (i := 3) dX11_share_103 rfl rfl ?_
      obtain ⟨hb, h⟩ := h
      refine pw_iald dX11_share_104 rfl hb ?_
      obtain ⟨hb, h⟩ := h
      refine pw_iast dX11_share_105 rfl hb ?_
      generalize hτ13 : pw_up σ 71 (Int32.toNatClampNeg l3) (σ 70 (Int32.toNatClampNeg l3)) = τ13
      have h := h τ13 hτ13.symm
      refine pw_iinc (i := 3) (v := l3 + 1) (ls' := [some (.ref 49), some (.int l1), some (.int l2), some (.int (l3 + 1))]) dX11_share_106 rfl (by rw [kc_1]) (Nat.le_of_ble_eq_true rfl) rfl ?_
      refine pw_goto (tgt := 86) dX11_share_109 rfl ?_
      exact ih _ _ _ _ h hX
set_option maxHeartbeats 4000000 in
theorem t_X11_share_L47 {L : pw_Lay} {d : Nat} {K : Int32 → pw_Mem → Prop} {KX : Int32 → pw_Mem → Prop} : ∀ (n : Nat) (l1 : Int32) (σ : pw_Mem), R_X11_share_L47 K KX n l1 σ → (∀ (l1 : Int32) (τ : pw_Mem), KX l1 τ → PW L (d + 4) m_X11_share (ki K) 120 [some (.ref 49), some (.int l1), none, none] [] τ) → PW L (d + 4) m_X11_share (ki K) 47 [some (.ref 49), some (.int l1), none, none] [] σ := by
  intro n
  induction n with
  | zero => intro l1 _ h _; exact h.elim
  | succ n ih =>
    intro l1 σ h hX
    unfold R_X11_share_L47 at h
    refine pw_iload_n (i := 1) dX11_share_47 rfl rfl ?_
    refine pw_if_eq (tgt := 120) dX11_share_48 rfl (fun q => ?_) (fun q => ?_)
    · have h := h.1 q
      exact hX _ _ h
    · have h := h.2 q
      refine pw_aload_n (i := 0) dX11_share_51 rfl rfl ?_
      refine pw_cVi [] dX11_share_52 mv_X11_187 rfl rfl rfl (Nat.le_of_ble_eq_true rfl) (c_X11_sumOf h) (fun x9 τ8 h => ?_)
      refine pw_istore_n (i := 2) (ls' := [some (.ref 49), some (.int l1), some (.int x9), none]) dX11_share_55 rfl (Nat.le_of_ble_eq_true rfl) rfl ?_
      refine pw_iload_n (i := 2) dX11_share_56 rfl rfl ?_
      refine pw_bipush (v := (-4)) dX11_share_57 kb_m4 ?_
      refine pw_icmp_eq (tgt := 112) dX11_share_59 rfl (fun q => ?_) (fun q => ?_)
      · have h := h.1 q
        refine pw_aload_n (i := 0) dX11_share_112 rfl rfl ?_
        refine pw_cVi [] dX11_share_113 mv_X11_191 rfl rfl rfl (Nat.le_of_ble_eq_true rfl) (c_X11_nextWay h) (fun x11 τ10 h => ?_)
        refine pw_istore_n (i := 1) (ls' := [some (.ref 49), some (.int x11), some (.int x9), none]) dX11_share_116 rfl (Nat.le_of_ble_eq_true rfl) rfl ?_
        refine pw_goto (tgt := 47) dX11_share_117 rfl ?_
        refine pw_forget (ls' := [some (.ref 49), some (.int x11), none, none]) (And.intro rfl (And.intro rfl trivial)) ?_
        exact ih _ _ h hX
      · have h := h.2 q
        refine pw_aload_n (i := 0) dX11_share_62 rfl rfl ?_
        refine pw_getI dX11_share_63 fl_X11_184 rfl rfl ?_
        refine pw_bipush (v := (-4)) dX11_share_66 kb_m4 ?_
        refine pw_icmp_eq (tgt := 79) dX11_share_68 rfl (fun q => ?_) (fun q => ?_)
        · have h := h.1 q
          refine pw_aload_n (i := 0) dX11_share_79 rfl rfl ?_
          refine pw_iload_n (i := 2) dX11_share_80 rfl rfl ?_
          refine pw_put dX11_share_81 fp_X11_184 rfl rfl rfl rfl ?_
          generalize hτ12 : pw_up τ8 49 26 x9 = τ12
          have h := h τ12 hτ12.symm
          refine pw_iconst (v := 0) dX11_share_84 kc_0 ?_
          refine pw_istore_n (i := 3) (ls' := [some (.ref 49), some (.int l1), some (.int x9), some (.int 0)]) dX11_share_85 rfl (Nat.le_of_ble_eq_true rfl) rfl ?_
          obtain ⟨n20, h⟩ := h
          refine t_X11_share_L86 _ _ _ _ _ h (fun y14 y15 y16 τ17 h => ?_)
          refine pw_aload_n (i := 0) dX11_share_112 rfl rfl ?_
          refine pw_cVi [] dX11_share_113 mv_X11_191 rfl rfl rfl (Nat.le_of_ble_eq_true rfl) (c_X11_nextWay h) (fun x19 τ18 h => ?_)
          refine pw_istore_n (i := 1) (ls' := [some (.ref 49), some (.int x19), some (.int y15), some (.int y16)]) dX11_share_116 rfl (Nat.le_of_ble_eq_true rfl) rfl ?_
          refine pw_goto (tgt := 47) dX11_share_117 rfl ?_
          refine pw_forget (ls' := [some (.ref 49), some (.int x19), none, none]) (And.intro rfl (And.intro rfl trivial)) ?_
          exact ih _ _ h hX
        · have h := h.2 q
          refine pw_iload_n (i := 2) dX11_share_71 rfl rfl ?_
          refine pw_aload_n (i := 0) dX11_share_72 rfl rfl ?_
          refine pw_getI dX11_share_73 fl_X11_184 rfl rfl ?_
          refine pw_icmp_ge (tgt := 112) dX11_share_76 rfl (fun q => ?_) (fun q => ?_)
          · have h := h.1 q
            refine pw_aload_n (i := 0) dX11_share_112 rfl rfl ?_
            refine pw_cVi [] dX11_share_113 mv_X11_191 rfl rfl rfl (Nat.le_of_ble_eq_true rfl) (c_X11_nextWay h) (fun x22 τ21 h => ?_)
            refine pw_istore_n (i := 1) (ls' := [some (.ref 49), some (.int x22), some (.int x9), none]) dX11_share_116 rfl (Nat.le_of_ble_eq_true rfl) rfl ?_
            refine pw_goto (tgt := 47) dX11_share_117 rfl ?_
            refine pw_forget (ls' := [some (.ref 49), some (.int x22), none, none]) (And.intro rfl (And.intro rfl trivial)) ?_
            exact ih _ _ h hX
          · have h := h.2 q
            refine pw_aload_n (i := 0) dX11_share_79 rfl rfl ?_
            refine pw_iload_n (i := 2) dX11_share_80 rfl rfl ?_
            refine pw_put dX11_share_81 fp_X11_184 rfl rfl rfl rfl ?_
            generalize hτ23 : pw_up τ8 49 26 x9 = τ23
            have h := h τ23 hτ23.symm
            refine pw_iconst (v := 0) dX11_share_84 kc_0 ?_
            refine pw_istore_n (i := 3) (ls' := [some (.ref 49), some (.int l1), some (.int x9), some (.int 0)]) dX11_share_85 rfl (Nat.le_of_ble_eq_true rfl) rfl ?_
            obtain ⟨n30, h⟩ := h
            refine t_X11_share_L86 _ _ _ _ _ h (fun y24 y25 y26 τ27 h => ?_)
            refine pw_aload_n (i := 0) dX11_share_112 rfl rfl ?_
            refine pw_cVi [] dX11_share_113 mv_X11_191 rfl rfl rfl (Nat.le_of_ble_eq_true rfl) (c_X11_nextWay h) (fun x29 τ28 h => ?_)
            refine pw_istore_n (i := 1) (ls' := [some (.ref 49), some (.int x29), some (.int y25), some (.int y26)]) dX11_share_116 rfl (Nat.le_of_ble_eq_true rfl) rfl ?_
            refine pw_goto (tgt := 47) dX11_share_117 rfl ?_
            refine pw_forget (ls' := [some (.ref 49), some (.int x29), none, none]) (And.intro rfl (And.intro rfl trivial)) ?_
            exact ih _ _ h hX
set_option maxHeartbeats 4000000 in
theorem c_X11_share {L : pw_Lay} {d : Nat}  {σ : pw_Mem} {K : Int32 → pw_Mem → Prop} (h : R_X11_share  σ K) : CT L (d + 4) m_X11_share [.ref 49] σ (ki K) := by
  refine pw_enter (by decide) rfl (Nat.le_of_ble_eq_true rfl) (ls := [some (.ref 49), none, none, none]) rfl ?_
  unfold R_X11_share at h
  refine pw_aload_n (i := 0) dX11_share_0 rfl rfl ?_
  refine pw_cVv [] dX11_share_1 mv_X11_155 rfl rfl rfl (Nat.le_of_ble_eq_true rfl) (c_X11_layDepths h) (fun τ1 h => ?_)
  refine pw_iconst (v := 0) dX11_share_4 kc_0 ?_
  refine pw_istore_n (i := 1) (ls' := [some (.ref 49), some (.int 0), none, none]) dX11_share_5 rfl (Nat.le_of_ble_eq_true rfl) rfl ?_
  obtain ⟨n34, h⟩ := h
  refine t_X11_share_L6 _ _ _ h (fun y5 τ6 h => ?_)
  refine pw_aload_n (i := 0) dX11_share_39 rfl rfl ?_
  refine pw_bipush (v := (-4)) dX11_share_40 kb_m4 ?_
  refine pw_put dX11_share_42 fp_X11_184 rfl rfl rfl rfl ?_
  generalize hτ7 : pw_up τ6 49 26 (-4) = τ7
  have h := h τ7 hτ7.symm
  refine pw_iconst (v := 1) dX11_share_45 kc_1 ?_
  refine pw_istore_n (i := 1) (ls' := [some (.ref 49), some (.int 1), none, none]) dX11_share_46 rfl (Nat.le_of_ble_eq_true rfl) rfl ?_
  obtain ⟨n33, h⟩ := h
  refine t_X11_share_L47 _ _ _ h (fun y31 τ32 h => ?_)
  refine pw_iconst (v := 1) dX11_share_120 kc_1 ?_
  exact pw_ret dX11_share_121 rfl rfl ⟨_, rfl, h⟩
/-! X11_shared -/
def R_X11_shared  (σ : pw_Mem) (K : Int32 → pw_Mem → Prop) : Prop := R_X11_share  σ (fun x2 τ1 => ((x2 = 0 → K (-5) τ1) ∧ (¬ x2 = 0 → K (τ1 49 26) τ1)))
set_option maxHeartbeats 4000000 in
theorem c_X11_shared {L : pw_Lay} {d : Nat}  {σ : pw_Mem} {K : Int32 → pw_Mem → Prop} (h : R_X11_shared  σ K) : CT L (d + 5) m_X11_shared [.ref 49] σ (ki K) := by
  refine pw_enter (by decide) rfl (Nat.le_of_ble_eq_true rfl) (ls := [some (.ref 49)]) rfl ?_
  unfold R_X11_shared at h
  refine pw_aload_n (i := 0) dX11_shared_0 rfl rfl ?_
  refine pw_cVi [] dX11_shared_1 mv_X11_195 rfl rfl rfl (Nat.le_of_ble_eq_true rfl) (c_X11_share h) (fun x2 τ1 h => ?_)
  refine pw_if_eq (tgt := 14) dX11_shared_4 rfl (fun q => ?_) (fun q => ?_)
  · have h := h.1 q
    refine pw_bipush (v := (-5)) dX11_shared_14 kb_m5 ?_
    exact pw_ret dX11_shared_16 rfl rfl ⟨_, rfl, h⟩
  · have h := h.2 q
    refine pw_aload_n (i := 0) dX11_shared_7 rfl rfl ?_
    refine pw_getI dX11_shared_8 fl_X11_184 rfl rfl ?_
    refine pw_goto (tgt := 16) dX11_shared_11 rfl ?_
    exact pw_ret dX11_shared_16 rfl rfl ⟨_, rfl, h⟩
/-! X11_group -/
def R_X11_group (a1 : Int32) (σ : pw_Mem) (K : Int32 → pw_Mem → Prop) : Prop := R_X11_isTask a1 σ (fun x2 τ1 => ((¬ x2 = 0 → R_X11_share  τ1 (fun x4 τ3 => ((x4 = 0 → K (-5) τ3) ∧ (¬ x4 = 0 → vp_in a1 6 ∧ K (τ3 71 (Int32.toNatClampNeg a1)) τ3)))) ∧ (x2 = 0 → K (-1) τ1)))
set_option maxHeartbeats 4000000 in
theorem c_X11_group {L : pw_Lay} {d : Nat} {a1 : Int32} {σ : pw_Mem} {K : Int32 → pw_Mem → Prop} (h : R_X11_group a1 σ K) : CT L (d + 5) m_X11_group [.ref 49, .int a1] σ (ki K) := by
  refine pw_enter (by decide) rfl (Nat.le_of_ble_eq_true rfl) (ls := [some (.ref 49), some (.int a1)]) rfl ?_
  unfold R_X11_group at h
  refine pw_aload_n (i := 0) dX11_group_0 rfl rfl ?_
  refine pw_iload_n (i := 1) dX11_group_1 rfl rfl ?_
  refine pw_cVi [.int a1] dX11_group_2 mv_X11_175 rfl rfl rfl (Nat.le_of_ble_eq_true rfl) (c_X11_isTask h) (fun x2 τ1 h => ?_)
  refine pw_if_ne (tgt := 10) dX11_group_5 rfl (fun q => ?_) (fun q => ?_)
  · have h := h.1 q
    refine pw_aload_n (i := 0) dX11_group_10 rfl rfl ?_
    refine pw_cVi [] dX11_group_11 mv_X11_195 rfl rfl rfl (Nat.le_of_ble_eq_true rfl) (c_X11_share h) (fun x4 τ3 h => ?_)
    refine pw_if_eq (tgt := 26) dX11_group_14 rfl (fun q => ?_) (fun q => ?_)
    · have h := h.1 q
      refine pw_bipush (v := (-5)) dX11_group_26 kb_m5 ?_
      exact pw_ret dX11_group_28 rfl rfl ⟨_, rfl, h⟩
    · have h := h.2 q
      refine pw_aload_n (i := 0) dX11_group_17 rfl rfl ?_
      refine pw_getR dX11_group_18 fl_X11_73 rfl rfl ?_
      refine pw_iload_n (i := 1) dX11_group_21 rfl rfl ?_
      obtain ⟨hb, h⟩ := h
      refine pw_iald dX11_group_22 rfl hb ?_
      refine pw_goto (tgt := 28) dX11_group_23 rfl ?_
      exact pw_ret dX11_group_28 rfl rfl ⟨_, rfl, h⟩
  · have h := h.2 q
    refine pw_iconst (v := (-1)) dX11_group_8 kc_m1 ?_
    exact pw_ret dX11_group_9 rfl rfl ⟨_, rfl, h⟩
/-! X11_savesOf -/
def R_X11_savesOf (a1 : Int32) (a2 : Int32) (σ : pw_Mem) (K : Int32 → pw_Mem → Prop) : Prop := R_X11_layDepths  σ (fun τ1 => R_X11_totalOf a1 τ1 (fun x3 τ2 => ((¬ x3 = (-5) → vp_in a2 20 ∧ vp_in a2 20 ∧ ∀ τ4, τ4 = pw_up τ2 50 (Int32.toNatClampNeg a2) 0 → R_X11_layDepths  τ4 (fun τ5 => R_X11_totalOf a1 τ5 (fun x7 τ6 => vp_in a2 20 ∧ ∀ τ8, τ8 = pw_up τ6 50 (Int32.toNatClampNeg a2) (τ2 50 (Int32.toNatClampNeg a2)) → K (x3 - x7) τ8))) ∧ (x3 = (-5) → K (-5) τ2))))
set_option maxHeartbeats 4000000 in
theorem c_X11_savesOf {L : pw_Lay} {d : Nat} {a1 : Int32} {a2 : Int32} {σ : pw_Mem} {K : Int32 → pw_Mem → Prop} (h : R_X11_savesOf a1 a2 σ K) : CT L (d + 4) m_X11_savesOf [.ref 49, .int a1, .int a2] σ (ki K) := by
  refine pw_enter (by decide) rfl (Nat.le_of_ble_eq_true rfl) (ls := [some (.ref 49), some (.int a1), some (.int a2), none, none, none]) rfl ?_
  unfold R_X11_savesOf at h
  refine pw_aload_n (i := 0) dX11_savesOf_0 rfl rfl ?_
  refine pw_cVv [] dX11_savesOf_1 mv_X11_155 rfl rfl rfl (Nat.le_of_ble_eq_true rfl) (c_X11_layDepths h) (fun τ1 h => ?_)
  refine pw_aload_n (i := 0) dX11_savesOf_4 rfl rfl ?_
  refine pw_iload_n (i := 1) dX11_savesOf_5 rfl rfl ?_
  refine pw_cVi [.int a1] dX11_savesOf_6 mv_X11_178 rfl rfl rfl (Nat.le_of_ble_eq_true rfl) (c_X11_totalOf h) (fun x3 τ2 h => ?_)
  refine pw_istore_n (i := 3) (ls' := [some (.ref 49), some (.int a1), some (.int a2), some (.int x3), none, none]) dX11_savesOf_9 rfl (Nat.le_of_ble_eq_true rfl) rfl ?_
  refine pw_iload_n (i := 3) dX11_savesOf_10 rfl rfl ?_
  refine pw_bipush (v := (-5)) dX11_savesOf_11 kb_m5 ?_
  refine pw_icmp_ne (tgt := 19) dX11_savesOf_13 rfl (fun q => ?_) (fun q => ?_)
  · have h := h.1 q
    refine pw_aload_n (i := 0) dX11_savesOf_19 rfl rfl ?_
    refine pw_getR dX11_savesOf_20 fl_X11_7 rfl rfl ?_
    refine pw_iload_n (i := 2) dX11_savesOf_23 rfl rfl ?_
    obtain ⟨hb, h⟩ := h
    refine pw_iald dX11_savesOf_24 rfl hb ?_
    refine pw_istore (i := 4) (ls' := [some (.ref 49), some (.int a1), some (.int a2), some (.int x3), some (.int (τ2 50 (Int32.toNatClampNeg a2))), none]) dX11_savesOf_25 (Nat.le_of_ble_eq_true rfl) rfl ?_
    refine pw_aload_n (i := 0) dX11_savesOf_27 rfl rfl ?_
    refine pw_getR dX11_savesOf_28 fl_X11_7 rfl rfl ?_
    refine pw_iload_n (i := 2) dX11_savesOf_31 rfl rfl ?_
    refine pw_iconst (v := 0) dX11_savesOf_32 kc_0 ?_
    obtain ⟨hb, h⟩ := h
    refine pw_iast dX11_savesOf_33 rfl hb ?_
    generalize hτ4 : pw_up τ2 50 (Int32.toNatClampNeg a2) 0 = τ4
    have h := h τ4 hτ4.symm
    refine pw_aload_n (i := 0) dX11_savesOf_34 rfl rfl ?_
    refine pw_cVv [] dX11_savesOf_35 mv_X11_155 rfl rfl rfl (Nat.le_of_ble_eq_true rfl) (c_X11_layDepths h) (fun τ5 h => ?_)
    refine pw_aload_n (i := 0) dX11_savesOf_38 rfl rfl ?_
    refine pw_iload_n (i := 1) dX11_savesOf_39 rfl rfl ?_
    refine pw_cVi [.int a1] dX11_savesOf_40 mv_X11_178 rfl rfl rfl (Nat.le_of_ble_eq_true rfl) (c_X11_totalOf h) (fun x7 τ6 h => ?_)
    refine pw_istore (i := 5) (ls' := [some (.ref 49), some (.int a1), some (.int a2), some (.int x3), some (.int (τ2 50 (Int32.toNatClampNeg a2))), some (.int x7)]) dX11_savesOf_43 (Nat.le_of_ble_eq_true rfl) rfl ?_
    refine pw_aload_n (i := 0) dX11_savesOf_45 rfl rfl ?_
    refine pw_getR dX11_savesOf_46 fl_X11_7 rfl rfl ?_
    refine pw_iload_n (i := 2) dX11_savesOf_49 rfl rfl ?_
    refine pw_iload dX11_savesOf_50 rfl ?_
    obtain ⟨hb, h⟩ := h
    refine pw_iast dX11_savesOf_52 rfl hb ?_
    generalize hτ8 : pw_up τ6 50 (Int32.toNatClampNeg a2) (τ2 50 (Int32.toNatClampNeg a2)) = τ8
    have h := h τ8 hτ8.symm
    refine pw_iload_n (i := 3) dX11_savesOf_53 rfl rfl ?_
    refine pw_iload dX11_savesOf_54 rfl ?_
    refine pw_isub dX11_savesOf_56 ?_
    exact pw_ret dX11_savesOf_57 rfl rfl ⟨_, rfl, h⟩
  · have h := h.2 q
    refine pw_bipush (v := (-5)) dX11_savesOf_16 kb_m5 ?_
    exact pw_ret dX11_savesOf_18 rfl rfl ⟨_, rfl, h⟩
/-! X11_saves -/
def R_X11_saves (a1 : Int32) (a2 : Int32) (σ : pw_Mem) (K : Int32 → pw_Mem → Prop) : Prop := R_X11_isTask a1 σ (fun x2 τ1 => ((x2 = 0 → K (-1) τ1) ∧ (¬ x2 = 0 → R_X11_is a2 τ1 (fun x4 τ3 => ((x4 = 0 → K (-1) τ3) ∧ (¬ x4 = 0 → R_X11_savesOf a1 a2 τ3 (fun x6 τ5 => K x6 τ5)))))))
set_option maxHeartbeats 4000000 in
theorem c_X11_saves {L : pw_Lay} {d : Nat} {a1 : Int32} {a2 : Int32} {σ : pw_Mem} {K : Int32 → pw_Mem → Prop} (h : R_X11_saves a1 a2 σ K) : CT L (d + 5) m_X11_saves [.ref 49, .int a1, .int a2] σ (ki K) := by
  refine pw_enter (by decide) rfl (Nat.le_of_ble_eq_true rfl) (ls := [some (.ref 49), some (.int a1), some (.int a2)]) rfl ?_
  unfold R_X11_saves at h
  refine pw_aload_n (i := 0) dX11_saves_0 rfl rfl ?_
  refine pw_iload_n (i := 1) dX11_saves_1 rfl rfl ?_
  refine pw_cVi [.int a1] dX11_saves_2 mv_X11_175 rfl rfl rfl (Nat.le_of_ble_eq_true rfl) (c_X11_isTask h) (fun x2 τ1 h => ?_)
  refine pw_if_eq (tgt := 25) dX11_saves_5 rfl (fun q => ?_) (fun q => ?_)
  · have h := h.1 q
    refine pw_iconst (v := (-1)) dX11_saves_25 kc_m1 ?_
    exact pw_ret dX11_saves_26 rfl rfl ⟨_, rfl, h⟩
  · have h := h.2 q
    refine pw_aload_n (i := 0) dX11_saves_8 rfl rfl ?_
    refine pw_iload_n (i := 2) dX11_saves_9 rfl rfl ?_
    refine pw_cVi [.int a2] dX11_saves_10 mv_X11_103 rfl rfl rfl (Nat.le_of_ble_eq_true rfl) (c_X11_is h) (fun x4 τ3 h => ?_)
    refine pw_if_eq (tgt := 25) dX11_saves_13 rfl (fun q => ?_) (fun q => ?_)
    · have h := h.1 q
      refine pw_iconst (v := (-1)) dX11_saves_25 kc_m1 ?_
      exact pw_ret dX11_saves_26 rfl rfl ⟨_, rfl, h⟩
    · have h := h.2 q
      refine pw_aload_n (i := 0) dX11_saves_16 rfl rfl ?_
      refine pw_iload_n (i := 1) dX11_saves_17 rfl rfl ?_
      refine pw_iload_n (i := 2) dX11_saves_18 rfl rfl ?_
      refine pw_cVi [.int a1, .int a2] dX11_saves_19 mv_X11_198 rfl rfl rfl (Nat.le_of_ble_eq_true rfl) (c_X11_savesOf h) (fun x6 τ5 h => ?_)
      refine pw_goto (tgt := 26) dX11_saves_22 rfl ?_
      exact pw_ret dX11_saves_26 rfl rfl ⟨_, rfl, h⟩
/-! X11_best -/
def R_X11_best_L18 (K : Int32 → pw_Mem → Prop) (KX : Int32 → Int32 → Int32 → Int32 → pw_Mem → Prop) : Nat → Int32 → Int32 → Int32 → Int32 → pw_Mem → Prop
  | 0, _, _, _, _, _ => False
  | n + 1, l1, l2, l3, l4, σ => (((σ 49 0) ≤ l4 → KX l1 l2 l3 l4 σ) ∧ (¬ (σ 49 0) ≤ l4 → R_X11_savesOf l1 l4 σ (fun x4 τ3 => ((¬ x4 = (-5) → ((x4 ≤ l3 → R_X11_best_L18 K KX n l1 l2 l3 (l4 + 1) τ3) ∧ (¬ x4 ≤ l3 → R_X11_best_L18 K KX n l1 l4 x4 (l4 + 1) τ3))) ∧ (x4 = (-5) → K (-5) τ3)))))
def R_X11_best (a1 : Int32) (σ : pw_Mem) (K : Int32 → pw_Mem → Prop) : Prop := R_X11_isTask a1 σ (fun x2 τ1 => ((¬ x2 = 0 → ∃ n10, R_X11_best_L18 K (fun y5 y6 y7 y8 τ9 => K y6 τ9) n10 a1 (-4) 0 0 τ1) ∧ (x2 = 0 → K (-1) τ1)))
set_option maxHeartbeats 4000000 in
theorem t_X11_best_L18 {L : pw_Lay} {d : Nat} {K : Int32 → pw_Mem → Prop} {KX : Int32 → Int32 → Int32 → Int32 → pw_Mem → Prop} : ∀ (n : Nat) (l1 : Int32) (l2 : Int32) (l3 : Int32) (l4 : Int32) (σ : pw_Mem), R_X11_best_L18 K KX n l1 l2 l3 l4 σ → (∀ (l1 : Int32) (l2 : Int32) (l3 : Int32) (l4 : Int32) (τ : pw_Mem), KX l1 l2 l3 l4 τ → PW L (d + 5) m_X11_best (ki K) 64 [some (.ref 49), some (.int l1), some (.int l2), some (.int l3), some (.int l4), none] [] τ) → PW L (d + 5) m_X11_best (ki K) 18 [some (.ref 49), some (.int l1), some (.int l2), some (.int l3), some (.int l4), none] [] σ := by
  intro n
  induction n with
  | zero => intro l1 l2 l3 l4 _ h _; exact h.elim
  | succ n ih =>
    intro l1 l2 l3 l4 σ h hX
    unfold R_X11_best_L18 at h
    refine pw_iload dX11_best_18 rfl ?_
    refine pw_aload_n (i := 0) dX11_best_20 rfl rfl ?_
    refine pw_getI dX11_best_21 fl_X11_91 rfl rfl ?_
    refine pw_icmp_ge (tgt := 64) dX11_best_24 rfl (fun q => ?_) (fun q => ?_)
    · have h := h.1 q
      exact hX _ _ _ _ _ h
    · have h := h.2 q
      refine pw_aload_n (i := 0) dX11_best_27 rfl rfl ?_
      refine pw_iload_n (i := 1) dX11_best_28 rfl rfl ?_
      refine pw_iload dX11_best_29 rfl ?_
      refine pw_cVi [.int l1, .int l4] dX11_best_31 mv_X11_198 rfl rfl rfl (Nat.le_of_ble_eq_true rfl) (c_X11_savesOf h) (fun x4 τ3 h => ?_)
      refine pw_istore (i := 5) (ls' := [some (.ref 49), some (.int l1), some (.int l2), some (.int l3), some (.int l4), some (.int x4)]) dX11_best_34 (Nat.le_of_ble_eq_true rfl) rfl ?_
      refine pw_iload dX11_best_36 rfl ?_
      refine pw_bipush (v := (-5)) dX11_best_38 kb_m5 ?_
      refine pw_icmp_ne (tgt := 46) dX11_best_40 rfl (fun q => ?_) (fun q => ?_)
      · have h := h.1 q
        refine pw_iload dX11_best_46 rfl ?_
        refine pw_iload_n (i := 3) dX11_best_48 rfl rfl ?_
        refine pw_icmp_le (tgt := 58) dX11_best_49 rfl (fun q => ?_) (fun q => ?_)
        · have h := h.1 q
          refine pw_iinc (i := 4) (v := l4 + 1) (ls' := [some (.ref 49), some (.int l1), some (.int l2), some (.int l3), some (.int (l4 + 1)), some (.int x4)]) dX11_best_58 rfl (by rw [kc_1]) (Nat.le_of_ble_eq_true rfl) rfl ?_
          refine pw_goto (tgt := 18) dX11_best_61 rfl ?_
          refine pw_forget (ls' := [some (.ref 49), some (.int l1), some (.int l2), some (.int l3), some (.int (l4 + 1)), none]) (And.intro rfl (And.intro rfl (And.intro rfl (And.intro rfl (And.intro rfl trivial))))) ?_
          exact ih _ _ _ _ _ h hX
        · have h := h.2 q
          refine pw_iload dX11_best_52 rfl ?_
          refine pw_istore_n (i := 3) (ls' := [some (.ref 49), some (.int l1), some (.int l2), some (.int x4), some (.int l4), some (.int x4)]) dX11_best_54 rfl (Nat.le_of_ble_eq_true rfl) rfl ?_
          refine pw_iload dX11_best_55 rfl ?_
          refine pw_istore_n (i := 2) (ls' := [some (.ref 49), some (.int l1), some (.int l4), some (.int x4), some (.int l4), some (.int x4)]) dX11_best_57 rfl (Nat.le_of_ble_eq_true rfl) rfl ?_
          refine pw_iinc (i := 4) (v := l4 + 1) (ls' := [some (.ref 49), some (.int l1), some (.int l4), some (.int x4), some (.int (l4 + 1)), some (.int x4)]) dX11_best_58 rfl (by rw [kc_1]) (Nat.le_of_ble_eq_true rfl) rfl ?_
          refine pw_goto (tgt := 18) dX11_best_61 rfl ?_
          refine pw_forget (ls' := [some (.ref 49), some (.int l1), some (.int l4), some (.int x4), some (.int (l4 + 1)), none]) (And.intro rfl (And.intro rfl (And.intro rfl (And.intro rfl (And.intro rfl trivial))))) ?_
          exact ih _ _ _ _ _ h hX
      · have h := h.2 q
        refine pw_bipush (v := (-5)) dX11_best_43 kb_m5 ?_
        exact pw_ret dX11_best_45 rfl rfl ⟨_, rfl, h⟩
set_option maxHeartbeats 4000000 in
theorem c_X11_best {L : pw_Lay} {d : Nat} {a1 : Int32} {σ : pw_Mem} {K : Int32 → pw_Mem → Prop} (h : R_X11_best a1 σ K) : CT L (d + 5) m_X11_best [.ref 49, .int a1] σ (ki K) := by
  refine pw_enter (by decide) rfl (Nat.le_of_ble_eq_true rfl) (ls := [some (.ref 49), some (.int a1), none, none, none, none]) rfl ?_
  unfold R_X11_best at h
  refine pw_aload_n (i := 0) dX11_best_0 rfl rfl ?_
  refine pw_iload_n (i := 1) dX11_best_1 rfl rfl ?_
  refine pw_cVi [.int a1] dX11_best_2 mv_X11_175 rfl rfl rfl (Nat.le_of_ble_eq_true rfl) (c_X11_isTask h) (fun x2 τ1 h => ?_)
  refine pw_if_ne (tgt := 10) dX11_best_5 rfl (fun q => ?_) (fun q => ?_)
  · have h := h.1 q
    refine pw_bipush (v := (-4)) dX11_best_10 kb_m4 ?_
    refine pw_istore_n (i := 2) (ls' := [some (.ref 49), some (.int a1), some (.int (-4)), none, none, none]) dX11_best_12 rfl (Nat.le_of_ble_eq_true rfl) rfl ?_
    refine pw_iconst (v := 0) dX11_best_13 kc_0 ?_
    refine pw_istore_n (i := 3) (ls' := [some (.ref 49), some (.int a1), some (.int (-4)), some (.int 0), none, none]) dX11_best_14 rfl (Nat.le_of_ble_eq_true rfl) rfl ?_
    refine pw_iconst (v := 0) dX11_best_15 kc_0 ?_
    refine pw_istore (i := 4) (ls' := [some (.ref 49), some (.int a1), some (.int (-4)), some (.int 0), some (.int 0), none]) dX11_best_16 (Nat.le_of_ble_eq_true rfl) rfl ?_
    obtain ⟨n10, h⟩ := h
    refine t_X11_best_L18 _ _ _ _ _ _ h (fun y5 y6 y7 y8 τ9 h => ?_)
    refine pw_iload_n (i := 2) dX11_best_64 rfl rfl ?_
    exact pw_ret dX11_best_65 rfl rfl ⟨_, rfl, h⟩
  · have h := h.2 q
    refine pw_iconst (v := (-1)) dX11_best_8 kc_m1 ?_
    exact pw_ret dX11_best_9 rfl rfl ⟨_, rfl, h⟩
/-! X11_put -/
def R_X11_put_L80 (K : pw_Mem → Prop) (KX : Int32 → Int32 → Int32 → pw_Mem → Prop) : Nat → Int32 → Int32 → Int32 → pw_Mem → Prop
  | 0, _, _, _, _ => False
  | n + 1, l1, l2, l3, σ => (((σ 49 28) ≤ l3 → KX l1 l2 l3 σ) ∧ (¬ (σ 49 28) ≤ l3 → vp_in l3 40 ∧ ((¬ (σ 72 (Int32.toNatClampNeg l3)) = l1 → R_X11_put_L80 K KX n l1 (l2 + 0) (l3 + 1) σ) ∧ ((σ 72 (Int32.toNatClampNeg l3)) = l1 → R_X11_put_L80 K KX n l1 (l2 + 1) (l3 + 1) σ))))
def R_X11_put (a1 : Int32) (σ : pw_Mem) (K : pw_Mem → Prop) : Prop := vp_in (σ 49 28) 40 ∧ ∀ τ1, τ1 = pw_up σ 72 (Int32.toNatClampNeg (σ 49 28)) a1 → vp_in a1 20 ∧ vp_in (τ1 49 28) 40 ∧ ∀ τ2, τ2 = pw_up τ1 73 (Int32.toNatClampNeg (τ1 49 28)) (τ1 50 (Int32.toNatClampNeg a1)) → vp_in a1 20 ∧ ∀ τ3, τ3 = pw_up τ2 49 32 ((τ2 49 32) + (τ2 50 (Int32.toNatClampNeg a1))) → ∀ τ4, τ4 = pw_up τ3 49 28 ((τ3 49 28) + 1) → (((τ4 49 32) ≤ (τ4 49 33) → ∀ τ5, τ5 = pw_up τ4 49 33 (τ4 49 33) → ∃ n13, R_X11_put_L80 K (fun y6 y7 y8 τ9 => vp_in y6 20 ∧ (((τ9 51 (Int32.toNatClampNeg y6)) ≤ 0 → ∀ τ10, τ10 = pw_up τ9 49 35 ((τ9 49 35) + 0) → K τ10) ∧ (¬ (τ9 51 (Int32.toNatClampNeg y6)) ≤ 0 → vp_in y6 20 ∧ ((y7 ≤ (τ9 51 (Int32.toNatClampNeg y6)) → ∀ τ11, τ11 = pw_up τ9 49 35 ((τ9 49 35) + 0) → K τ11) ∧ (¬ y7 ≤ (τ9 51 (Int32.toNatClampNeg y6)) → ∀ τ12, τ12 = pw_up τ9 49 35 ((τ9 49 35) + 1) → K τ12))))) n13 a1 0 0 τ5) ∧ (¬ (τ4 49 32) ≤ (τ4 49 33) → ∀ τ14, τ14 = pw_up τ4 49 33 (τ4 49 32) → ∃ n22, R_X11_put_L80 K (fun y15 y16 y17 τ18 => vp_in y15 20 ∧ (((τ18 51 (Int32.toNatClampNeg y15)) ≤ 0 → ∀ τ19, τ19 = pw_up τ18 49 35 ((τ18 49 35) + 0) → K τ19) ∧ (¬ (τ18 51 (Int32.toNatClampNeg y15)) ≤ 0 → vp_in y15 20 ∧ ((y16 ≤ (τ18 51 (Int32.toNatClampNeg y15)) → ∀ τ20, τ20 = pw_up τ18 49 35 ((τ18 49 35) + 0) → K τ20) ∧ (¬ y16 ≤ (τ18 51 (Int32.toNatClampNeg y15)) → ∀ τ21, τ21 = pw_up τ18 49 35 ((τ18 49 35) + 1) → K τ21))))) n22 a1 0 0 τ14))
set_option maxHeartbeats 4000000 in
theorem t_X11_put_L80 {L : pw_Lay} {d : Nat} {K : pw_Mem → Prop} {KX : Int32 → Int32 → Int32 → pw_Mem → Prop} : ∀ (n : Nat) (l1 : Int32) (l2 : Int32) (l3 : Int32) (σ : pw_Mem), R_X11_put_L80 K KX n l1 l2 l3 σ → (∀ (l1 : Int32) (l2 : Int32) (l3 : Int32) (τ : pw_Mem), KX l1 l2 l3 τ → PW L (d + 0) m_X11_put (kv K) 112 [some (.ref 49), some (.int l1), some (.int l2), some (.int l3)] [] τ) → PW L (d + 0) m_X11_put (kv K) 80 [some (.ref 49), some (.int l1), some (.int l2), some (.int l3)] [] σ := by
  intro n
  induction n with
  | zero => intro l1 l2 l3 _ h _; exact h.elim
  | succ n ih =>
    intro l1 l2 l3 σ h hX
    unfold R_X11_put_L80 at h
    refine pw_iload_n (i := 3) dX11_put_80 rfl rfl ?_
    refine pw_aload_n (i := 0) dX11_put_81 rfl rfl ?_
    refine pw_getI dX11_put_82 fl_X11_202 rfl rfl ?_
    refine pw_icmp_ge (tgt := 112) dX11_put_85 rfl (fun q => ?_) (fun q => ?_)
    · have h := h.1 q
      exact hX _ _ _ _ h
    · have h := h.2 q
      refine pw_iload_n (i := 2) dX11_put_88 rfl rfl ?_
      refine pw_aload_n (i := 0) dX11_put_89 rfl rfl ?_
      refine pw_getR dX11_put_90 fl_X11_76 rfl rfl ?_
      refine pw_iload_n (i := 3) dX11_put_93 rfl rfl ?_
      obtain ⟨hb, h⟩ := h
      refine pw_iald dX11_put_94 rfl hb ?_
      refine pw_iload_n (i := 1) dX11_put_95 rfl rfl ?_
      refine pw_icmp_ne (tgt := 103) dX11_put_96 rfl (fun q => ?_) (fun q => ?_)
      · have h := h.1 q
        refine pw_iconst (v := 0) dX11_put_103 kc_0 ?_
        refine pw_iadd dX11_put_104 ?_
        refine pw_istore_n (i := 2) (ls' := [some (.ref 49), some (.int l1), some (.int (l2 + 0)), some (.int l3)]) dX11_put_105 rfl (Nat.le_of_ble_eq_true rfl) rfl ?_
        refine pw_iinc (i := 3) (v := l3 + 1) (ls' := [some (.ref 49), some (.int l1), some (.int (l2 + 0)), some (.int (l3 + 1))]) dX11_put_106 rfl (by rw [kc_1]) (Nat.le_of_ble_eq_true rfl) rfl ?_
        refine pw_goto (tgt := 80) dX11_put_109 rfl ?_
        exact ih _ _ _ _ h hX
      · have h := h.2 q
        refine pw_iconst (v := 1) dX11_put_99 kc_1 ?_
        refine pw_goto (tgt := 104) dX11_put_100 rfl ?_
        refine pw_iadd dX11_put_104 ?_
        refine pw_istore_n (i := 2) (ls' := [some (.ref 49), some (.int l1), some (.int (l2 + 1)), some (.int l3)]) dX11_put_105 rfl (Nat.le_of_ble_eq_true rfl) rfl ?_
        refine pw_iinc (i := 3) (v := l3 + 1) (ls' := [some (.ref 49), some (.int l1), some (.int (l2 + 1)), some (.int (l3 + 1))]) dX11_put_106 rfl (by rw [kc_1]) (Nat.le_of_ble_eq_true rfl) rfl ?_
        refine pw_goto (tgt := 80) dX11_put_109 rfl ?_
        exact ih _ _ _ _ h hX
set_option maxHeartbeats 4000000 in
theorem c_X11_put {L : pw_Lay} {d : Nat} {a1 : Int32} {σ : pw_Mem} {K : pw_Mem → Prop} (h : R_X11_put a1 σ K) : CT L (d + 0) m_X11_put [.ref 49, .int a1] σ (kv K) := by
  refine pw_enter (by decide) rfl (Nat.le_of_ble_eq_true rfl) (ls := [some (.ref 49), some (.int a1), none, none]) rfl ?_
  unfold R_X11_put at h
  refine pw_aload_n (i := 0) dX11_put_0 rfl rfl ?_
  refine pw_getR dX11_put_1 fl_X11_76 rfl rfl ?_
  refine pw_aload_n (i := 0) dX11_put_4 rfl rfl ?_
  refine pw_getI dX11_put_5 fl_X11_202 rfl rfl ?_
  refine pw_iload_n (i := 1) dX11_put_8 rfl rfl ?_
  obtain ⟨hb, h⟩ := h
  refine pw_iast dX11_put_9 rfl hb ?_
  generalize hτ1 : pw_up σ 72 (Int32.toNatClampNeg (σ 49 28)) a1 = τ1
  have h := h τ1 hτ1.symm
  refine pw_aload_n (i := 0) dX11_put_10 rfl rfl ?_
  refine pw_getR dX11_put_11 fl_X11_79 rfl rfl ?_
  refine pw_aload_n (i := 0) dX11_put_14 rfl rfl ?_
  refine pw_getI dX11_put_15 fl_X11_202 rfl rfl ?_
  refine pw_aload_n (i := 0) dX11_put_18 rfl rfl ?_
  refine pw_getR dX11_put_19 fl_X11_7 rfl rfl ?_
  refine pw_iload_n (i := 1) dX11_put_22 rfl rfl ?_
  obtain ⟨hb, h⟩ := h
  refine pw_iald dX11_put_23 rfl hb ?_
  obtain ⟨hb, h⟩ := h
  refine pw_iast dX11_put_24 rfl hb ?_
  generalize hτ2 : pw_up τ1 73 (Int32.toNatClampNeg (τ1 49 28)) (τ1 50 (Int32.toNatClampNeg a1)) = τ2
  have h := h τ2 hτ2.symm
  refine pw_aload_n (i := 0) dX11_put_25 rfl rfl ?_
  refine pw_dup dX11_put_26 rfl ?_
  refine pw_getI dX11_put_27 fl_X11_205 rfl rfl ?_
  refine pw_aload_n (i := 0) dX11_put_30 rfl rfl ?_
  refine pw_getR dX11_put_31 fl_X11_7 rfl rfl ?_
  refine pw_iload_n (i := 1) dX11_put_34 rfl rfl ?_
  obtain ⟨hb, h⟩ := h
  refine pw_iald dX11_put_35 rfl hb ?_
  refine pw_iadd dX11_put_36 ?_
  refine pw_put dX11_put_37 fp_X11_205 rfl rfl rfl rfl ?_
  generalize hτ3 : pw_up τ2 49 32 ((τ2 49 32) + (τ2 50 (Int32.toNatClampNeg a1))) = τ3
  have h := h τ3 hτ3.symm
  refine pw_aload_n (i := 0) dX11_put_40 rfl rfl ?_
  refine pw_dup dX11_put_41 rfl ?_
  refine pw_getI dX11_put_42 fl_X11_202 rfl rfl ?_
  refine pw_iconst (v := 1) dX11_put_45 kc_1 ?_
  refine pw_iadd dX11_put_46 ?_
  refine pw_put dX11_put_47 fp_X11_202 rfl rfl rfl rfl ?_
  generalize hτ4 : pw_up τ3 49 28 ((τ3 49 28) + 1) = τ4
  have h := h τ4 hτ4.symm
  refine pw_aload_n (i := 0) dX11_put_50 rfl rfl ?_
  refine pw_aload_n (i := 0) dX11_put_51 rfl rfl ?_
  refine pw_getI dX11_put_52 fl_X11_205 rfl rfl ?_
  refine pw_aload_n (i := 0) dX11_put_55 rfl rfl ?_
  refine pw_getI dX11_put_56 fl_X11_208 rfl rfl ?_
  refine pw_icmp_le (tgt := 69) dX11_put_59 rfl (fun q => ?_) (fun q => ?_)
  · have h := h.1 q
    refine pw_aload_n (i := 0) dX11_put_69 rfl rfl ?_
    refine pw_getI dX11_put_70 fl_X11_208 rfl rfl ?_
    refine pw_put dX11_put_73 fp_X11_208 rfl rfl rfl rfl ?_
    generalize hτ5 : pw_up τ4 49 33 (τ4 49 33) = τ5
    have h := h τ5 hτ5.symm
    refine pw_iconst (v := 0) dX11_put_76 kc_0 ?_
    refine pw_istore_n (i := 2) (ls' := [some (.ref 49), some (.int a1), some (.int 0), none]) dX11_put_77 rfl (Nat.le_of_ble_eq_true rfl) rfl ?_
    refine pw_iconst (v := 0) dX11_put_78 kc_0 ?_
    refine pw_istore_n (i := 3) (ls' := [some (.ref 49), some (.int a1), some (.int 0), some (.int 0)]) dX11_put_79 rfl (Nat.le_of_ble_eq_true rfl) rfl ?_
    obtain ⟨n13, h⟩ := h
    refine t_X11_put_L80 _ _ _ _ _ h (fun y6 y7 y8 τ9 h => ?_)
    refine pw_aload_n (i := 0) dX11_put_112 rfl rfl ?_
    refine pw_dup dX11_put_113 rfl ?_
    refine pw_getI dX11_put_114 fl_X11_211 rfl rfl ?_
    refine pw_aload_n (i := 0) dX11_put_117 rfl rfl ?_
    refine pw_getR dX11_put_118 fl_X11_13 rfl rfl ?_
    refine pw_iload_n (i := 1) dX11_put_121 rfl rfl ?_
    obtain ⟨hb, h⟩ := h
    refine pw_iald dX11_put_122 rfl hb ?_
    refine pw_if_le (tgt := 140) dX11_put_123 rfl (fun q => ?_) (fun q => ?_)
    · have h := h.1 q
      refine pw_iconst (v := 0) dX11_put_140 kc_0 ?_
      refine pw_iadd dX11_put_141 ?_
      refine pw_put dX11_put_142 fp_X11_211 rfl rfl rfl rfl ?_
      generalize hτ10 : pw_up τ9 49 35 ((τ9 49 35) + 0) = τ10
      have h := h τ10 hτ10.symm
      exact pw_vret dX11_put_145 rfl ⟨rfl, h⟩
    · have h := h.2 q
      refine pw_iload_n (i := 2) dX11_put_126 rfl rfl ?_
      refine pw_aload_n (i := 0) dX11_put_127 rfl rfl ?_
      refine pw_getR dX11_put_128 fl_X11_13 rfl rfl ?_
      refine pw_iload_n (i := 1) dX11_put_131 rfl rfl ?_
      obtain ⟨hb, h⟩ := h
      refine pw_iald dX11_put_132 rfl hb ?_
      refine pw_icmp_le (tgt := 140) dX11_put_133 rfl (fun q => ?_) (fun q => ?_)
      · have h := h.1 q
        refine pw_iconst (v := 0) dX11_put_140 kc_0 ?_
        refine pw_iadd dX11_put_141 ?_
        refine pw_put dX11_put_142 fp_X11_211 rfl rfl rfl rfl ?_
        generalize hτ11 : pw_up τ9 49 35 ((τ9 49 35) + 0) = τ11
        have h := h τ11 hτ11.symm
        exact pw_vret dX11_put_145 rfl ⟨rfl, h⟩
      · have h := h.2 q
        refine pw_iconst (v := 1) dX11_put_136 kc_1 ?_
        refine pw_goto (tgt := 141) dX11_put_137 rfl ?_
        refine pw_iadd dX11_put_141 ?_
        refine pw_put dX11_put_142 fp_X11_211 rfl rfl rfl rfl ?_
        generalize hτ12 : pw_up τ9 49 35 ((τ9 49 35) + 1) = τ12
        have h := h τ12 hτ12.symm
        exact pw_vret dX11_put_145 rfl ⟨rfl, h⟩
  · have h := h.2 q
    refine pw_aload_n (i := 0) dX11_put_62 rfl rfl ?_
    refine pw_getI dX11_put_63 fl_X11_205 rfl rfl ?_
    refine pw_goto (tgt := 73) dX11_put_66 rfl ?_
    refine pw_put dX11_put_73 fp_X11_208 rfl rfl rfl rfl ?_
    generalize hτ14 : pw_up τ4 49 33 (τ4 49 32) = τ14
    have h := h τ14 hτ14.symm
    refine pw_iconst (v := 0) dX11_put_76 kc_0 ?_
    refine pw_istore_n (i := 2) (ls' := [some (.ref 49), some (.int a1), some (.int 0), none]) dX11_put_77 rfl (Nat.le_of_ble_eq_true rfl) rfl ?_
    refine pw_iconst (v := 0) dX11_put_78 kc_0 ?_
    refine pw_istore_n (i := 3) (ls' := [some (.ref 49), some (.int a1), some (.int 0), some (.int 0)]) dX11_put_79 rfl (Nat.le_of_ble_eq_true rfl) rfl ?_
    obtain ⟨n22, h⟩ := h
    refine t_X11_put_L80 _ _ _ _ _ h (fun y15 y16 y17 τ18 h => ?_)
    refine pw_aload_n (i := 0) dX11_put_112 rfl rfl ?_
    refine pw_dup dX11_put_113 rfl ?_
    refine pw_getI dX11_put_114 fl_X11_211 rfl rfl ?_
    refine pw_aload_n (i := 0) dX11_put_117 rfl rfl ?_
    refine pw_getR dX11_put_118 fl_X11_13 rfl rfl ?_
    refine pw_iload_n (i := 1) dX11_put_121 rfl rfl ?_
    obtain ⟨hb, h⟩ := h
    refine pw_iald dX11_put_122 rfl hb ?_
    refine pw_if_le (tgt := 140) dX11_put_123 rfl (fun q => ?_) (fun q => ?_)
    · have h := h.1 q
      refine pw_iconst (v := 0) dX11_put_140 kc_0 ?_
      refine pw_iadd dX11_put_141 ?_
      refine pw_put dX11_put_142 fp_X11_211 rfl rfl rfl rfl ?_
      generalize hτ19 : pw_up τ18 49 35 ((τ18 49 35) + 0) = τ19
      have h := h τ19 hτ19.symm
      exact pw_vret dX11_put_145 rfl ⟨rfl, h⟩
    · have h := h.2 q
      refine pw_iload_n (i := 2) dX11_put_126 rfl rfl ?_
      refine pw_aload_n (i := 0) dX11_put_127 rfl rfl ?_
      refine pw_getR dX11_put_128 fl_X11_13 rfl rfl ?_
      refine pw_iload_n (i := 1) dX11_put_131 rfl rfl ?_
      obtain ⟨hb, h⟩ := h
      refine pw_iald dX11_put_132 rfl hb ?_
      refine pw_icmp_le (tgt := 140) dX11_put_133 rfl (fun q => ?_) (fun q => ?_)
      · have h := h.1 q
        refine pw_iconst (v := 0) dX11_put_140 kc_0 ?_
        refine pw_iadd dX11_put_141 ?_
        refine pw_put dX11_put_142 fp_X11_211 rfl rfl rfl rfl ?_
        generalize hτ20 : pw_up τ18 49 35 ((τ18 49 35) + 0) = τ20
        have h := h τ20 hτ20.symm
        exact pw_vret dX11_put_145 rfl ⟨rfl, h⟩
      · have h := h.2 q
        refine pw_iconst (v := 1) dX11_put_136 kc_1 ?_
        refine pw_goto (tgt := 141) dX11_put_137 rfl ?_
        refine pw_iadd dX11_put_141 ?_
        refine pw_put dX11_put_142 fp_X11_211 rfl rfl rfl rfl ?_
        generalize hτ21 : pw_up τ18 49 35 ((τ18 49 35) + 1) = τ21
        have h := h τ21 hτ21.symm
        exact pw_vret dX11_put_145 rfl ⟨rfl, h⟩
/-! X11_run -/
def R_X11_run (a1 : Int32) (σ : pw_Mem) (K : Int32 → pw_Mem → Prop) : Prop := R_X11_is a1 σ (fun x2 τ1 => ((¬ x2 = 0 → ∀ τ3, τ3 = pw_up τ1 49 27 1 → ∀ τ4, τ4 = pw_up τ3 49 28 0 → ∀ τ5, τ5 = pw_up τ4 49 32 0 → ∀ τ6, τ6 = pw_up τ5 49 33 0 → ∀ τ7, τ7 = pw_up τ6 49 34 0 → ∀ τ8, τ8 = pw_up τ7 49 35 0 → ∀ τ9, τ9 = pw_up τ8 49 31 a1 → R_X11_put a1 τ9 (fun τ10 => K (τ10 49 32) τ10)) ∧ (x2 = 0 → K (-1) τ1)))
set_option maxHeartbeats 4000000 in
theorem c_X11_run {L : pw_Lay} {d : Nat} {a1 : Int32} {σ : pw_Mem} {K : Int32 → pw_Mem → Prop} (h : R_X11_run a1 σ K) : CT L (d + 2) m_X11_run [.ref 49, .int a1] σ (ki K) := by
  refine pw_enter (by decide) rfl (Nat.le_of_ble_eq_true rfl) (ls := [some (.ref 49), some (.int a1)]) rfl ?_
  unfold R_X11_run at h
  refine pw_aload_n (i := 0) dX11_run_0 rfl rfl ?_
  refine pw_iload_n (i := 1) dX11_run_1 rfl rfl ?_
  refine pw_cVi [.int a1] dX11_run_2 mv_X11_103 rfl rfl rfl (Nat.le_of_ble_eq_true rfl) (c_X11_is h) (fun x2 τ1 h => ?_)
  refine pw_if_ne (tgt := 10) dX11_run_5 rfl (fun q => ?_) (fun q => ?_)
  · have h := h.1 q
    refine pw_aload_n (i := 0) dX11_run_10 rfl rfl ?_
    refine pw_iconst (v := 1) dX11_run_11 kc_1 ?_
    refine pw_put dX11_run_12 fp_X11_214 rfl rfl rfl rfl ?_
    generalize hτ3 : pw_up τ1 49 27 1 = τ3
    have h := h τ3 hτ3.symm
    refine pw_aload_n (i := 0) dX11_run_15 rfl rfl ?_
    refine pw_iconst (v := 0) dX11_run_16 kc_0 ?_
    refine pw_put dX11_run_17 fp_X11_202 rfl rfl rfl rfl ?_
    generalize hτ4 : pw_up τ3 49 28 0 = τ4
    have h := h τ4 hτ4.symm
    refine pw_aload_n (i := 0) dX11_run_20 rfl rfl ?_
    refine pw_iconst (v := 0) dX11_run_21 kc_0 ?_
    refine pw_put dX11_run_22 fp_X11_205 rfl rfl rfl rfl ?_
    generalize hτ5 : pw_up τ4 49 32 0 = τ5
    have h := h τ5 hτ5.symm
    refine pw_aload_n (i := 0) dX11_run_25 rfl rfl ?_
    refine pw_iconst (v := 0) dX11_run_26 kc_0 ?_
    refine pw_put dX11_run_27 fp_X11_208 rfl rfl rfl rfl ?_
    generalize hτ6 : pw_up τ5 49 33 0 = τ6
    have h := h τ6 hτ6.symm
    refine pw_aload_n (i := 0) dX11_run_30 rfl rfl ?_
    refine pw_iconst (v := 0) dX11_run_31 kc_0 ?_
    refine pw_put dX11_run_32 fp_X11_218 rfl rfl rfl rfl ?_
    generalize hτ7 : pw_up τ6 49 34 0 = τ7
    have h := h τ7 hτ7.symm
    refine pw_aload_n (i := 0) dX11_run_35 rfl rfl ?_
    refine pw_iconst (v := 0) dX11_run_36 kc_0 ?_
    refine pw_put dX11_run_37 fp_X11_211 rfl rfl rfl rfl ?_
    generalize hτ8 : pw_up τ7 49 35 0 = τ8
    have h := h τ8 hτ8.symm
    refine pw_aload_n (i := 0) dX11_run_40 rfl rfl ?_
    refine pw_iload_n (i := 1) dX11_run_41 rfl rfl ?_
    refine pw_put dX11_run_42 fp_X11_221 rfl rfl rfl rfl ?_
    generalize hτ9 : pw_up τ8 49 31 a1 = τ9
    have h := h τ9 hτ9.symm
    refine pw_aload_n (i := 0) dX11_run_45 rfl rfl ?_
    refine pw_iload_n (i := 1) dX11_run_46 rfl rfl ?_
    refine pw_cVv [.int a1] dX11_run_47 mv_X11_224 rfl rfl rfl (Nat.le_of_ble_eq_true rfl) (c_X11_put h) (fun τ10 h => ?_)
    refine pw_aload_n (i := 0) dX11_run_50 rfl rfl ?_
    refine pw_getI dX11_run_51 fl_X11_205 rfl rfl ?_
    exact pw_ret dX11_run_54 rfl rfl ⟨_, rfl, h⟩
  · have h := h.2 q
    refine pw_iconst (v := (-1)) dX11_run_8 kc_m1 ?_
    exact pw_ret dX11_run_9 rfl rfl ⟨_, rfl, h⟩
/-! X11_enter -/
def R_X11_enter (a1 : Int32) (σ : pw_Mem) (K : Int32 → pw_Mem → Prop) : Prop := R_X11_is a1 σ (fun x2 τ1 => ((¬ x2 = 0 → ((¬ (τ1 49 28) = 0 → ((¬ (τ1 49 28) = 40 → R_X11_layNet  τ1 (fun τ3 => vp_in ((τ3 49 28) - 1) 40 ∧ vp_in (τ3 72 (Int32.toNatClampNeg ((τ3 49 28) - 1))) 20 ∧ ((¬ (((τ3 58 (Int32.toNatClampNeg (τ3 72 (Int32.toNatClampNeg ((τ3 49 28) - 1))))) >>> (a1 &&& 31)) &&& 1) = 1 → ∀ τ4, τ4 = pw_up τ3 49 34 ((τ3 49 34) + 1) → R_X11_put a1 τ4 (fun τ5 => K (τ5 49 32) τ5)) ∧ ((((τ3 58 (Int32.toNatClampNeg (τ3 72 (Int32.toNatClampNeg ((τ3 49 28) - 1))))) >>> (a1 &&& 31)) &&& 1) = 1 → ∀ τ6, τ6 = pw_up τ3 49 34 ((τ3 49 34) + 0) → R_X11_put a1 τ6 (fun τ7 => K (τ7 49 32) τ7))))) ∧ ((τ1 49 28) = 40 → K (-3) τ1))) ∧ ((τ1 49 28) = 0 → K (-2) τ1))) ∧ (x2 = 0 → K (-1) τ1)))
set_option maxHeartbeats 4000000 in
theorem c_X11_enter {L : pw_Lay} {d : Nat} {a1 : Int32} {σ : pw_Mem} {K : Int32 → pw_Mem → Prop} (h : R_X11_enter a1 σ K) : CT L (d + 2) m_X11_enter [.ref 49, .int a1] σ (ki K) := by
  refine pw_enter (by decide) rfl (Nat.le_of_ble_eq_true rfl) (ls := [some (.ref 49), some (.int a1)]) rfl ?_
  unfold R_X11_enter at h
  refine pw_aload_n (i := 0) dX11_enter_0 rfl rfl ?_
  refine pw_iload_n (i := 1) dX11_enter_1 rfl rfl ?_
  refine pw_cVi [.int a1] dX11_enter_2 mv_X11_103 rfl rfl rfl (Nat.le_of_ble_eq_true rfl) (c_X11_is h) (fun x2 τ1 h => ?_)
  refine pw_if_ne (tgt := 10) dX11_enter_5 rfl (fun q => ?_) (fun q => ?_)
  · have h := h.1 q
    refine pw_aload_n (i := 0) dX11_enter_10 rfl rfl ?_
    refine pw_getI dX11_enter_11 fl_X11_202 rfl rfl ?_
    refine pw_if_ne (tgt := 20) dX11_enter_14 rfl (fun q => ?_) (fun q => ?_)
    · have h := h.1 q
      refine pw_aload_n (i := 0) dX11_enter_20 rfl rfl ?_
      refine pw_getI dX11_enter_21 fl_X11_202 rfl rfl ?_
      refine pw_bipush (v := 40) dX11_enter_24 kb_40 ?_
      refine pw_icmp_ne (tgt := 32) dX11_enter_26 rfl (fun q => ?_) (fun q => ?_)
      · have h := h.1 q
        refine pw_aload_n (i := 0) dX11_enter_32 rfl rfl ?_
        refine pw_cVv [] dX11_enter_33 mv_X11_133 rfl rfl rfl (Nat.le_of_ble_eq_true rfl) (c_X11_layNet h) (fun τ3 h => ?_)
        refine pw_aload_n (i := 0) dX11_enter_36 rfl rfl ?_
        refine pw_dup dX11_enter_37 rfl ?_
        refine pw_getI dX11_enter_38 fl_X11_218 rfl rfl ?_
        refine pw_aload_n (i := 0) dX11_enter_41 rfl rfl ?_
        refine pw_getR dX11_enter_42 fl_X11_34 rfl rfl ?_
        refine pw_aload_n (i := 0) dX11_enter_45 rfl rfl ?_
        refine pw_getR dX11_enter_46 fl_X11_76 rfl rfl ?_
        refine pw_aload_n (i := 0) dX11_enter_49 rfl rfl ?_
        refine pw_getI dX11_enter_50 fl_X11_202 rfl rfl ?_
        refine pw_iconst (v := 1) dX11_enter_53 kc_1 ?_
        refine pw_isub dX11_enter_54 ?_
        obtain ⟨hb, h⟩ := h
        refine pw_iald dX11_enter_55 rfl hb ?_
        obtain ⟨hb, h⟩ := h
        refine pw_iald dX11_enter_56 rfl hb ?_
        refine pw_iload_n (i := 1) dX11_enter_57 rfl rfl ?_
        refine pw_ishr dX11_enter_58 ?_
        refine pw_iconst (v := 1) dX11_enter_59 kc_1 ?_
        refine pw_iand dX11_enter_60 ?_
        refine pw_iconst (v := 1) dX11_enter_61 kc_1 ?_
        refine pw_icmp_ne (tgt := 69) dX11_enter_62 rfl (fun q => ?_) (fun q => ?_)
        · have h := h.1 q
          refine pw_iconst (v := 1) dX11_enter_69 kc_1 ?_
          refine pw_iadd dX11_enter_70 ?_
          refine pw_put dX11_enter_71 fp_X11_218 rfl rfl rfl rfl ?_
          generalize hτ4 : pw_up τ3 49 34 ((τ3 49 34) + 1) = τ4
          have h := h τ4 hτ4.symm
          refine pw_aload_n (i := 0) dX11_enter_74 rfl rfl ?_
          refine pw_iload_n (i := 1) dX11_enter_75 rfl rfl ?_
          refine pw_cVv [.int a1] dX11_enter_76 mv_X11_224 rfl rfl rfl (Nat.le_of_ble_eq_true rfl) (c_X11_put h) (fun τ5 h => ?_)
          refine pw_aload_n (i := 0) dX11_enter_79 rfl rfl ?_
          refine pw_getI dX11_enter_80 fl_X11_205 rfl rfl ?_
          exact pw_ret dX11_enter_83 rfl rfl ⟨_, rfl, h⟩
        · have h := h.2 q
          refine pw_iconst (v := 0) dX11_enter_65 kc_0 ?_
          refine pw_goto (tgt := 70) dX11_enter_66 rfl ?_
          refine pw_iadd dX11_enter_70 ?_
          refine pw_put dX11_enter_71 fp_X11_218 rfl rfl rfl rfl ?_
          generalize hτ6 : pw_up τ3 49 34 ((τ3 49 34) + 0) = τ6
          have h := h τ6 hτ6.symm
          refine pw_aload_n (i := 0) dX11_enter_74 rfl rfl ?_
          refine pw_iload_n (i := 1) dX11_enter_75 rfl rfl ?_
          refine pw_cVv [.int a1] dX11_enter_76 mv_X11_224 rfl rfl rfl (Nat.le_of_ble_eq_true rfl) (c_X11_put h) (fun τ7 h => ?_)
          refine pw_aload_n (i := 0) dX11_enter_79 rfl rfl ?_
          refine pw_getI dX11_enter_80 fl_X11_205 rfl rfl ?_
          exact pw_ret dX11_enter_83 rfl rfl ⟨_, rfl, h⟩
      · have h := h.2 q
        refine pw_bipush (v := (-3)) dX11_enter_29 kb_m3 ?_
        exact pw_ret dX11_enter_31 rfl rfl ⟨_, rfl, h⟩
    · have h := h.2 q
      refine pw_bipush (v := (-2)) dX11_enter_17 kb_m2 ?_
      exact pw_ret dX11_enter_19 rfl rfl ⟨_, rfl, h⟩
  · have h := h.2 q
    refine pw_iconst (v := (-1)) dX11_enter_8 kc_m1 ?_
    exact pw_ret dX11_enter_9 rfl rfl ⟨_, rfl, h⟩
/-! X11_pull -/
def R_X11_pull  (σ : pw_Mem) (K : pw_Mem → Prop) : Prop := ∀ τ1, τ1 = pw_up σ 49 28 ((σ 49 28) - 1) → vp_in (τ1 49 28) 40 ∧ ∀ τ2, τ2 = pw_up τ1 49 32 ((τ1 49 32) - (τ1 73 (Int32.toNatClampNeg (τ1 49 28)))) → K τ2
set_option maxHeartbeats 4000000 in
theorem c_X11_pull {L : pw_Lay} {d : Nat}  {σ : pw_Mem} {K : pw_Mem → Prop} (h : R_X11_pull  σ K) : CT L (d + 0) m_X11_pull [.ref 49] σ (kv K) := by
  refine pw_enter (by decide) rfl (Nat.le_of_ble_eq_true rfl) (ls := [some (.ref 49)]) rfl ?_
  unfold R_X11_pull at h
  refine pw_aload_n (i := 0) dX11_pull_0 rfl rfl ?_
  refine pw_dup dX11_pull_1 rfl ?_
  refine pw_getI dX11_pull_2 fl_X11_202 rfl rfl ?_
  refine pw_iconst (v := 1) dX11_pull_5 kc_1 ?_
  refine pw_isub dX11_pull_6 ?_
  refine pw_put dX11_pull_7 fp_X11_202 rfl rfl rfl rfl ?_
  generalize hτ1 : pw_up σ 49 28 ((σ 49 28) - 1) = τ1
  have h := h τ1 hτ1.symm
  refine pw_aload_n (i := 0) dX11_pull_10 rfl rfl ?_
  refine pw_dup dX11_pull_11 rfl ?_
  refine pw_getI dX11_pull_12 fl_X11_205 rfl rfl ?_
  refine pw_aload_n (i := 0) dX11_pull_15 rfl rfl ?_
  refine pw_getR dX11_pull_16 fl_X11_79 rfl rfl ?_
  refine pw_aload_n (i := 0) dX11_pull_19 rfl rfl ?_
  refine pw_getI dX11_pull_20 fl_X11_202 rfl rfl ?_
  obtain ⟨hb, h⟩ := h
  refine pw_iald dX11_pull_23 rfl hb ?_
  refine pw_isub dX11_pull_24 ?_
  refine pw_put dX11_pull_25 fp_X11_205 rfl rfl rfl rfl ?_
  generalize hτ2 : pw_up τ1 49 32 ((τ1 49 32) - (τ1 73 (Int32.toNatClampNeg (τ1 49 28)))) = τ2
  have h := h τ2 hτ2.symm
  exact pw_vret dX11_pull_28 rfl ⟨rfl, h⟩
/-! X11_over -/
def R_X11_over (a1 : Int32) (σ : pw_Mem) (K : Int32 → pw_Mem → Prop) : Prop := R_X11_is a1 σ (fun x2 τ1 => ((¬ x2 = 0 → ((¬ (τ1 49 28) = 0 → R_X11_layNet  τ1 (fun τ3 => vp_in ((τ3 49 28) - 1) 40 ∧ vp_in (τ3 72 (Int32.toNatClampNeg ((τ3 49 28) - 1))) 20 ∧ ((¬ (((τ3 59 (Int32.toNatClampNeg (τ3 72 (Int32.toNatClampNeg ((τ3 49 28) - 1))))) >>> (a1 &&& 31)) &&& 1) = 1 → ∀ τ4, τ4 = pw_up τ3 49 34 ((τ3 49 34) + 1) → R_X11_pull  τ4 (fun τ5 => R_X11_put a1 τ5 (fun τ6 => K (τ6 49 32) τ6))) ∧ ((((τ3 59 (Int32.toNatClampNeg (τ3 72 (Int32.toNatClampNeg ((τ3 49 28) - 1))))) >>> (a1 &&& 31)) &&& 1) = 1 → ∀ τ7, τ7 = pw_up τ3 49 34 ((τ3 49 34) + 0) → R_X11_pull  τ7 (fun τ8 => R_X11_put a1 τ8 (fun τ9 => K (τ9 49 32) τ9)))))) ∧ ((τ1 49 28) = 0 → K (-2) τ1))) ∧ (x2 = 0 → K (-1) τ1)))
set_option maxHeartbeats 4000000 in
theorem c_X11_over {L : pw_Lay} {d : Nat} {a1 : Int32} {σ : pw_Mem} {K : Int32 → pw_Mem → Prop} (h : R_X11_over a1 σ K) : CT L (d + 2) m_X11_over [.ref 49, .int a1] σ (ki K) := by
  refine pw_enter (by decide) rfl (Nat.le_of_ble_eq_true rfl) (ls := [some (.ref 49), some (.int a1)]) rfl ?_
  unfold R_X11_over at h
  refine pw_aload_n (i := 0) dX11_over_0 rfl rfl ?_
  refine pw_iload_n (i := 1) dX11_over_1 rfl rfl ?_
  refine pw_cVi [.int a1] dX11_over_2 mv_X11_103 rfl rfl rfl (Nat.le_of_ble_eq_true rfl) (c_X11_is h) (fun x2 τ1 h => ?_)
  refine pw_if_ne (tgt := 10) dX11_over_5 rfl (fun q => ?_) (fun q => ?_)
  · have h := h.1 q
    refine pw_aload_n (i := 0) dX11_over_10 rfl rfl ?_
    refine pw_getI dX11_over_11 fl_X11_202 rfl rfl ?_
    refine pw_if_ne (tgt := 20) dX11_over_14 rfl (fun q => ?_) (fun q => ?_)
    · have h := h.1 q
      refine pw_aload_n (i := 0) dX11_over_20 rfl rfl ?_
      refine pw_cVv [] dX11_over_21 mv_X11_133 rfl rfl rfl (Nat.le_of_ble_eq_true rfl) (c_X11_layNet h) (fun τ3 h => ?_)
      refine pw_aload_n (i := 0) dX11_over_24 rfl rfl ?_
      refine pw_dup dX11_over_25 rfl ?_
      refine pw_getI dX11_over_26 fl_X11_218 rfl rfl ?_
      refine pw_aload_n (i := 0) dX11_over_29 rfl rfl ?_
      refine pw_getR dX11_over_30 fl_X11_37 rfl rfl ?_
      refine pw_aload_n (i := 0) dX11_over_33 rfl rfl ?_
      refine pw_getR dX11_over_34 fl_X11_76 rfl rfl ?_
      refine pw_aload_n (i := 0) dX11_over_37 rfl rfl ?_
      refine pw_getI dX11_over_38 fl_X11_202 rfl rfl ?_
      refine pw_iconst (v := 1) dX11_over_41 kc_1 ?_
      refine pw_isub dX11_over_42 ?_
      obtain ⟨hb, h⟩ := h
      refine pw_iald dX11_over_43 rfl hb ?_
      obtain ⟨hb, h⟩ := h
      refine pw_iald dX11_over_44 rfl hb ?_
      refine pw_iload_n (i := 1) dX11_over_45 rfl rfl ?_
      refine pw_ishr dX11_over_46 ?_
      refine pw_iconst (v := 1) dX11_over_47 kc_1 ?_
      refine pw_iand dX11_over_48 ?_
      refine pw_iconst (v := 1) dX11_over_49 kc_1 ?_
      refine pw_icmp_ne (tgt := 57) dX11_over_50 rfl (fun q => ?_) (fun q => ?_)
      · have h := h.1 q
        refine pw_iconst (v := 1) dX11_over_57 kc_1 ?_
        refine pw_iadd dX11_over_58 ?_
        refine pw_put dX11_over_59 fp_X11_218 rfl rfl rfl rfl ?_
        generalize hτ4 : pw_up τ3 49 34 ((τ3 49 34) + 1) = τ4
        have h := h τ4 hτ4.symm
        refine pw_aload_n (i := 0) dX11_over_62 rfl rfl ?_
        refine pw_cVv [] dX11_over_63 mv_X11_228 rfl rfl rfl (Nat.le_of_ble_eq_true rfl) (c_X11_pull h) (fun τ5 h => ?_)
        refine pw_aload_n (i := 0) dX11_over_66 rfl rfl ?_
        refine pw_iload_n (i := 1) dX11_over_67 rfl rfl ?_
        refine pw_cVv [.int a1] dX11_over_68 mv_X11_224 rfl rfl rfl (Nat.le_of_ble_eq_true rfl) (c_X11_put h) (fun τ6 h => ?_)
        refine pw_aload_n (i := 0) dX11_over_71 rfl rfl ?_
        refine pw_getI dX11_over_72 fl_X11_205 rfl rfl ?_
        exact pw_ret dX11_over_75 rfl rfl ⟨_, rfl, h⟩
      · have h := h.2 q
        refine pw_iconst (v := 0) dX11_over_53 kc_0 ?_
        refine pw_goto (tgt := 58) dX11_over_54 rfl ?_
        refine pw_iadd dX11_over_58 ?_
        refine pw_put dX11_over_59 fp_X11_218 rfl rfl rfl rfl ?_
        generalize hτ7 : pw_up τ3 49 34 ((τ3 49 34) + 0) = τ7
        have h := h τ7 hτ7.symm
        refine pw_aload_n (i := 0) dX11_over_62 rfl rfl ?_
        refine pw_cVv [] dX11_over_63 mv_X11_228 rfl rfl rfl (Nat.le_of_ble_eq_true rfl) (c_X11_pull h) (fun τ8 h => ?_)
        refine pw_aload_n (i := 0) dX11_over_66 rfl rfl ?_
        refine pw_iload_n (i := 1) dX11_over_67 rfl rfl ?_
        refine pw_cVv [.int a1] dX11_over_68 mv_X11_224 rfl rfl rfl (Nat.le_of_ble_eq_true rfl) (c_X11_put h) (fun τ9 h => ?_)
        refine pw_aload_n (i := 0) dX11_over_71 rfl rfl ?_
        refine pw_getI dX11_over_72 fl_X11_205 rfl rfl ?_
        exact pw_ret dX11_over_75 rfl rfl ⟨_, rfl, h⟩
    · have h := h.2 q
      refine pw_bipush (v := (-2)) dX11_over_17 kb_m2 ?_
      exact pw_ret dX11_over_19 rfl rfl ⟨_, rfl, h⟩
  · have h := h.2 q
    refine pw_iconst (v := (-1)) dX11_over_8 kc_m1 ?_
    exact pw_ret dX11_over_9 rfl rfl ⟨_, rfl, h⟩
/-! X11_leave -/
def R_X11_leave  (σ : pw_Mem) (K : Int32 → pw_Mem → Prop) : Prop := ((¬ (σ 49 28) = 0 → R_X11_pull  σ (fun τ1 => K (τ1 49 32) τ1)) ∧ ((σ 49 28) = 0 → K (-2) σ))
set_option maxHeartbeats 4000000 in
theorem c_X11_leave {L : pw_Lay} {d : Nat}  {σ : pw_Mem} {K : Int32 → pw_Mem → Prop} (h : R_X11_leave  σ K) : CT L (d + 1) m_X11_leave [.ref 49] σ (ki K) := by
  refine pw_enter (by decide) rfl (Nat.le_of_ble_eq_true rfl) (ls := [some (.ref 49)]) rfl ?_
  unfold R_X11_leave at h
  refine pw_aload_n (i := 0) dX11_leave_0 rfl rfl ?_
  refine pw_getI dX11_leave_1 fl_X11_202 rfl rfl ?_
  refine pw_if_ne (tgt := 10) dX11_leave_4 rfl (fun q => ?_) (fun q => ?_)
  · have h := h.1 q
    refine pw_aload_n (i := 0) dX11_leave_10 rfl rfl ?_
    refine pw_cVv [] dX11_leave_11 mv_X11_228 rfl rfl rfl (Nat.le_of_ble_eq_true rfl) (c_X11_pull h) (fun τ1 h => ?_)
    refine pw_aload_n (i := 0) dX11_leave_14 rfl rfl ?_
    refine pw_getI dX11_leave_15 fl_X11_205 rfl rfl ?_
    exact pw_ret dX11_leave_18 rfl rfl ⟨_, rfl, h⟩
  · have h := h.2 q
    refine pw_bipush (v := (-2)) dX11_leave_7 kb_m2 ?_
    exact pw_ret dX11_leave_9 rfl rfl ⟨_, rfl, h⟩
/-! X11_ran -/
def R_X11_ran (a1 : Int32) (σ : pw_Mem) (K : Int32 → pw_Mem → Prop) : Prop := R_X11_in (Int32.toInt64 a1) 0 6 σ (fun x2 τ1 => ((¬ x2 = 0 → ((¬ (τ1 49 27) = 0 → R_X11_layDepths  τ1 (fun τ3 => vp_in (τ3 49 31) 20 ∧ (((a1 = nI 0 ∨ a1 = nI 1 ∨ a1 = nI 2 ∨ a1 = nI 3 ∨ a1 = nI 4 ∨ a1 = nI 5) ∨ ∀ c : Nat, c ≤ 5 → ¬ a1 = nI c) ∧ (a1 = nI 0 → K (τ3 49 32) τ3) ∧ (a1 = nI 1 → K (τ3 49 33) τ3) ∧ (a1 = nI 2 → K (τ3 49 28) τ3) ∧ (a1 = nI 3 → K (τ3 49 34) τ3) ∧ (a1 = nI 4 → K (τ3 49 35) τ3) ∧ (a1 = nI 5 → ((¬ (τ3 49 28) = 0 → vp_in ((τ3 49 28) - 1) 40 ∧ K (τ3 72 (Int32.toNatClampNeg ((τ3 49 28) - 1))) τ3) ∧ ((τ3 49 28) = 0 → K (-4) τ3))) ∧ ((∀ c : Nat, c ≤ 5 → ¬ a1 = nI c) → (((τ3 62 (Int32.toNatClampNeg (τ3 49 31))) = (-5) → K 1 τ3) ∧ (¬ (τ3 62 (Int32.toNatClampNeg (τ3 49 31))) = (-5) → (((τ3 62 (Int32.toNatClampNeg (τ3 49 31))) < (τ3 49 33) → K 0 τ3) ∧ (¬ (τ3 62 (Int32.toNatClampNeg (τ3 49 31))) < (τ3 49 33) → K 1 τ3)))))))) ∧ ((τ1 49 27) = 0 → K (-2) τ1))) ∧ (x2 = 0 → K (-1) τ1)))
set_option maxHeartbeats 4000000 in
theorem c_X11_ran {L : pw_Lay} {d : Nat} {a1 : Int32} {σ : pw_Mem} {K : Int32 → pw_Mem → Prop} (h : R_X11_ran a1 σ K) : CT L (d + 4) m_X11_ran [.ref 49, .int a1] σ (ki K) := by
  refine pw_enter (by decide) rfl (Nat.le_of_ble_eq_true rfl) (ls := [some (.ref 49), some (.int a1), none]) rfl ?_
  unfold R_X11_ran at h
  refine pw_iload_n (i := 1) dX11_ran_0 rfl rfl ?_
  refine pw_i2l dX11_ran_1 ?_
  refine pw_lconst (v := 0) dX11_ran_2 kl_0 ?_
  refine pw_ldc2 dX11_ran_3 k_X11_231 ?_
  refine pw_cSi [.long (Int32.toInt64 a1), .long 0, .long 6] dX11_ran_6 ms_X11_95 rfl rfl (Nat.le_of_ble_eq_true rfl) (c_X11_in h) (fun x2 τ1 h => ?_)
  refine pw_if_ne (tgt := 14) dX11_ran_9 rfl (fun q => ?_) (fun q => ?_)
  · have h := h.1 q
    refine pw_aload_n (i := 0) dX11_ran_14 rfl rfl ?_
    refine pw_getI dX11_ran_15 fl_X11_214 rfl rfl ?_
    refine pw_if_ne (tgt := 24) dX11_ran_18 rfl (fun q => ?_) (fun q => ?_)
    · have h := h.1 q
      refine pw_aload_n (i := 0) dX11_ran_24 rfl rfl ?_
      refine pw_cVv [] dX11_ran_25 mv_X11_155 rfl rfl rfl (Nat.le_of_ble_eq_true rfl) (c_X11_layDepths h) (fun τ3 h => ?_)
      refine pw_aload_n (i := 0) dX11_ran_28 rfl rfl ?_
      refine pw_getR dX11_ran_29 fl_X11_46 rfl rfl ?_
      refine pw_aload_n (i := 0) dX11_ran_32 rfl rfl ?_
      refine pw_getI dX11_ran_33 fl_X11_221 rfl rfl ?_
      obtain ⟨hb, h⟩ := h
      refine pw_iald dX11_ran_36 rfl hb ?_
      refine pw_istore_n (i := 2) (ls' := [some (.ref 49), some (.int a1), some (.int (τ3 62 (Int32.toNatClampNeg (τ3 49 31))))]) dX11_ran_37 rfl (Nat.le_of_ble_eq_true rfl) rfl ?_
      refine pw_iload_n (i := 1) dX11_ran_38 rfl rfl ?_
      have hsw := h.1
      have h := h.2
      rcases hsw with hsw | hi
      · rcases hsw with hi | hi | hi | hi | hi | hi
        · have h := h.1 hi
          refine pw_sw (tgt := 76) 0 dX11_ran_39 hi (by decide) (by decide) rfl rfl ?_
          refine pw_aload_n (i := 0) dX11_ran_76 rfl rfl ?_
          refine pw_getI dX11_ran_77 fl_X11_205 rfl rfl ?_
          exact pw_ret dX11_ran_80 rfl rfl ⟨_, rfl, h⟩
        · have h := h.2.1 hi
          refine pw_sw (tgt := 81) 1 dX11_ran_39 hi (by decide) (by decide) rfl rfl ?_
          refine pw_aload_n (i := 0) dX11_ran_81 rfl rfl ?_
          refine pw_getI dX11_ran_82 fl_X11_208 rfl rfl ?_
          exact pw_ret dX11_ran_85 rfl rfl ⟨_, rfl, h⟩
        · have h := h.2.2.1 hi
          refine pw_sw (tgt := 86) 2 dX11_ran_39 hi (by decide) (by decide) rfl rfl ?_
          refine pw_aload_n (i := 0) dX11_ran_86 rfl rfl ?_
          refine pw_getI dX11_ran_87 fl_X11_202 rfl rfl ?_
          exact pw_ret dX11_ran_90 rfl rfl ⟨_, rfl, h⟩
        · have h := h.2.2.2.1 hi
          refine pw_sw (tgt := 91) 3 dX11_ran_39 hi (by decide) (by decide) rfl rfl ?_
          refine pw_aload_n (i := 0) dX11_ran_91 rfl rfl ?_
          refine pw_getI dX11_ran_92 fl_X11_218 rfl rfl ?_
          exact pw_ret dX11_ran_95 rfl rfl ⟨_, rfl, h⟩
        · have h := h.2.2.2.2.1 hi
          refine pw_sw (tgt := 96) 4 dX11_ran_39 hi (by decide) (by decide) rfl rfl ?_
          refine pw_aload_n (i := 0) dX11_ran_96 rfl rfl ?_
          refine pw_getI dX11_ran_97 fl_X11_211 rfl rfl ?_
          exact pw_ret dX11_ran_100 rfl rfl ⟨_, rfl, h⟩
        · have h := h.2.2.2.2.2.1 hi
          refine pw_sw (tgt := 101) 5 dX11_ran_39 hi (by decide) (by decide) rfl rfl ?_
          refine pw_aload_n (i := 0) dX11_ran_101 rfl rfl ?_
          refine pw_getI dX11_ran_102 fl_X11_202 rfl rfl ?_
          refine pw_if_ne (tgt := 113) dX11_ran_105 rfl (fun q => ?_) (fun q => ?_)
          · have h := h.1 q
            refine pw_aload_n (i := 0) dX11_ran_113 rfl rfl ?_
            refine pw_getR dX11_ran_114 fl_X11_76 rfl rfl ?_
            refine pw_aload_n (i := 0) dX11_ran_117 rfl rfl ?_
            refine pw_getI dX11_ran_118 fl_X11_202 rfl rfl ?_
            refine pw_iconst (v := 1) dX11_ran_121 kc_1 ?_
            refine pw_isub dX11_ran_122 ?_
            obtain ⟨hb, h⟩ := h
            refine pw_iald dX11_ran_123 rfl hb ?_
            exact pw_ret dX11_ran_124 rfl rfl ⟨_, rfl, h⟩
          · have h := h.2 q
            refine pw_bipush (v := (-4)) dX11_ran_108 kb_m4 ?_
            refine pw_goto (tgt := 124) dX11_ran_110 rfl ?_
            exact pw_ret dX11_ran_124 rfl rfl ⟨_, rfl, h⟩
      · have h := h.2.2.2.2.2.2 hi
        refine pw_swd (hi := 5) (tgt := 125) dX11_ran_39 (by decide) hi rfl ?_
        refine pw_iload_n (i := 2) dX11_ran_125 rfl rfl ?_
        refine pw_bipush (v := (-5)) dX11_ran_126 kb_m5 ?_
        refine pw_icmp_eq (tgt := 139) dX11_ran_128 rfl (fun q => ?_) (fun q => ?_)
        · have h := h.1 q
          refine pw_iconst (v := 1) dX11_ran_139 kc_1 ?_
          refine pw_goto (tgt := 144) dX11_ran_140 rfl ?_
          exact pw_ret dX11_ran_144 rfl rfl ⟨_, rfl, h⟩
        · have h := h.2 q
          refine pw_aload_n (i := 0) dX11_ran_131 rfl rfl ?_
          refine pw_getI dX11_ran_132 fl_X11_208 rfl rfl ?_
          refine pw_iload_n (i := 2) dX11_ran_135 rfl rfl ?_
          refine pw_icmp_gt (tgt := 143) dX11_ran_136 rfl (fun q => ?_) (fun q => ?_)
          · have h := h.1 q
            refine pw_iconst (v := 0) dX11_ran_143 kc_0 ?_
            exact pw_ret dX11_ran_144 rfl rfl ⟨_, rfl, h⟩
          · have h := h.2 q
            refine pw_iconst (v := 1) dX11_ran_139 kc_1 ?_
            refine pw_goto (tgt := 144) dX11_ran_140 rfl ?_
            exact pw_ret dX11_ran_144 rfl rfl ⟨_, rfl, h⟩
    · have h := h.2 q
      refine pw_bipush (v := (-2)) dX11_ran_21 kb_m2 ?_
      exact pw_ret dX11_ran_23 rfl rfl ⟨_, rfl, h⟩
  · have h := h.2 q
    refine pw_iconst (v := (-1)) dX11_ran_12 kc_m1 ?_
    exact pw_ret dX11_ran_13 rfl rfl ⟨_, rfl, h⟩
/-! X11_sheet -/
def R_X11_sheet_L56 (K : Int32 → pw_Mem → Prop) (KX : Int32 → Int32 → Int32 → Int32 → pw_Mem → Prop) : Nat → Int32 → Int32 → Int32 → Int32 → pw_Mem → Prop
  | 0, _, _, _, _, _ => False
  | n + 1, l1, l2, l3, l4, σ => ((60 ≤ l4 → KX l1 l2 l3 l4 σ) ∧ (¬ 60 ≤ l4 → vp_in ((60 * l1) + l4) 240 ∧ ∀ τ7, τ7 = pw_up σ 76 (Int32.toNatClampNeg ((60 * l1) + l4)) 0 → R_X11_sheet_L56 K KX n l1 l2 l3 (l4 + 1) τ7))
def R_X11_sheet (a1 : Int32) (a2 : Int32) (a3 : Int32) (σ : pw_Mem) (K : Int32 → pw_Mem → Prop) : Prop := R_X11_in (Int32.toInt64 a1) 0 3 σ (fun x2 τ1 => ((x2 = 0 → K (-1) τ1) ∧ (¬ x2 = 0 → R_X11_in (Int32.toInt64 a2) 0 2 τ1 (fun x4 τ3 => ((x4 = 0 → K (-1) τ3) ∧ (¬ x4 = 0 → ((a3 ≤ 60 → ((0 ≤ a3 → vp_in a1 4 ∧ ∀ τ5, τ5 = pw_up τ3 74 (Int32.toNatClampNeg a1) a2 → vp_in a1 4 ∧ ∀ τ6, τ6 = pw_up τ5 75 (Int32.toNatClampNeg a1) a3 → ∃ n13, R_X11_sheet_L56 K (fun y8 y9 y10 y11 τ12 => K 1 τ12) n13 a1 a2 a3 0 τ6) ∧ (¬ 0 ≤ a3 → K (-14) τ3))) ∧ (¬ a3 ≤ 60 → K (-1) τ3))))))))
set_option maxHeartbeats 4000000 in
theorem t_X11_sheet_L56 {L : pw_Lay} {d : Nat} {K : Int32 → pw_Mem → Prop} {KX : Int32 → Int32 → Int32 → Int32 → pw_Mem → Prop} : ∀ (n : Nat) (l1 : Int32) (l2 : Int32) (l3 : Int32) (l4 : Int32) (σ : pw_Mem), R_X11_sheet_L56 K KX n l1 l2 l3 l4 σ → (∀ (l1 : Int32) (l2 : Int32) (l3 : Int32) (l4 : Int32) (τ : pw_Mem), KX l1 l2 l3 l4 τ → PW L (d + 1) m_X11_sheet (ki K) 82 [some (.ref 49), some (.int l1), some (.int l2), some (.int l3), some (.int l4)] [] τ) → PW L (d + 1) m_X11_sheet (ki K) 56 [some (.ref 49), some (.int l1), some (.int l2), some (.int l3), some (.int l4)] [] σ := by
  intro n
  induction n with
  | zero => intro l1 l2 l3 l4 _ h _; exact h.elim
  | succ n ih =>
    intro l1 l2 l3 l4 σ h hX
    unfold R_X11_sheet_L56 at h
    refine pw_iload dX11_sheet_56 rfl ?_
    refine pw_bipush (v := 60) dX11_sheet_58 kb_60 ?_
    refine pw_icmp_ge (tgt := 82) dX11_sheet_60 rfl (fun q => ?_) (fun q => ?_)
    · have h := h.1 q
      exact hX _ _ _ _ _ h
    · have h := h.2 q
      refine pw_aload_n (i := 0) dX11_sheet_63 rfl rfl ?_
      refine pw_getR dX11_sheet_64 fl_X11_88 rfl rfl ?_
      refine pw_bipush (v := 60) dX11_sheet_67 kb_60 ?_
      refine pw_iload_n (i := 1) dX11_sheet_69 rfl rfl ?_
      refine pw_imul dX11_sheet_70 ?_
      refine pw_iload dX11_sheet_71 rfl ?_
      refine pw_iadd dX11_sheet_73 ?_
      refine pw_iconst (v := 0) dX11_sheet_74 kc_0 ?_
      obtain ⟨hb, h⟩ := h
      refine pw_iast dX11_sheet_75 rfl hb ?_
      generalize hτ7 : pw_up σ 76 (Int32.toNatClampNeg ((60 * l1) + l4)) 0 = τ7
      have h := h τ7 hτ7.symm
      refine pw_iinc (i := 4) (v := l4 + 1) (ls' := [some (.ref 49), some (.int l1), some (.int l2), some (.int l3), some (.int (l4 + 1))]) dX11_sheet_76 rfl (by rw [kc_1]) (Nat.le_of_ble_eq_true rfl) rfl ?_
      refine pw_goto (tgt := 56) dX11_sheet_79 rfl ?_
      exact ih _ _ _ _ _ h hX
set_option maxHeartbeats 4000000 in
theorem c_X11_sheet {L : pw_Lay} {d : Nat} {a1 : Int32} {a2 : Int32} {a3 : Int32} {σ : pw_Mem} {K : Int32 → pw_Mem → Prop} (h : R_X11_sheet a1 a2 a3 σ K) : CT L (d + 1) m_X11_sheet [.ref 49, .int a1, .int a2, .int a3] σ (ki K) := by
  refine pw_enter (by decide) rfl (Nat.le_of_ble_eq_true rfl) (ls := [some (.ref 49), some (.int a1), some (.int a2), some (.int a3), none]) rfl ?_
  unfold R_X11_sheet at h
  refine pw_iload_n (i := 1) dX11_sheet_0 rfl rfl ?_
  refine pw_i2l dX11_sheet_1 ?_
  refine pw_lconst (v := 0) dX11_sheet_2 kl_0 ?_
  refine pw_ldc2 dX11_sheet_3 k_X11_112 ?_
  refine pw_cSi [.long (Int32.toInt64 a1), .long 0, .long 3] dX11_sheet_6 ms_X11_95 rfl rfl (Nat.le_of_ble_eq_true rfl) (c_X11_in h) (fun x2 τ1 h => ?_)
  refine pw_if_eq (tgt := 30) dX11_sheet_9 rfl (fun q => ?_) (fun q => ?_)
  · have h := h.1 q
    refine pw_iconst (v := (-1)) dX11_sheet_30 kc_m1 ?_
    exact pw_ret dX11_sheet_31 rfl rfl ⟨_, rfl, h⟩
  · have h := h.2 q
    refine pw_iload_n (i := 2) dX11_sheet_12 rfl rfl ?_
    refine pw_i2l dX11_sheet_13 ?_
    refine pw_lconst (v := 0) dX11_sheet_14 kl_0 ?_
    refine pw_ldc2 dX11_sheet_15 k_X11_233 ?_
    refine pw_cSi [.long (Int32.toInt64 a2), .long 0, .long 2] dX11_sheet_18 ms_X11_95 rfl rfl (Nat.le_of_ble_eq_true rfl) (c_X11_in h) (fun x4 τ3 h => ?_)
    refine pw_if_eq (tgt := 30) dX11_sheet_21 rfl (fun q => ?_) (fun q => ?_)
    · have h := h.1 q
      refine pw_iconst (v := (-1)) dX11_sheet_30 kc_m1 ?_
      exact pw_ret dX11_sheet_31 rfl rfl ⟨_, rfl, h⟩
    · have h := h.2 q
      refine pw_iload_n (i := 3) dX11_sheet_24 rfl rfl ?_
      refine pw_bipush (v := 60) dX11_sheet_25 kb_60 ?_
      refine pw_icmp_le (tgt := 32) dX11_sheet_27 rfl (fun q => ?_) (fun q => ?_)
      · have h := h.1 q
        refine pw_iload_n (i := 3) dX11_sheet_32 rfl rfl ?_
        refine pw_if_ge (tgt := 39) dX11_sheet_33 rfl (fun q => ?_) (fun q => ?_)
        · have h := h.1 q
          refine pw_aload_n (i := 0) dX11_sheet_39 rfl rfl ?_
          refine pw_getR dX11_sheet_40 fl_X11_82 rfl rfl ?_
          refine pw_iload_n (i := 1) dX11_sheet_43 rfl rfl ?_
          refine pw_iload_n (i := 2) dX11_sheet_44 rfl rfl ?_
          obtain ⟨hb, h⟩ := h
          refine pw_iast dX11_sheet_45 rfl hb ?_
          generalize hτ5 : pw_up τ3 74 (Int32.toNatClampNeg a1) a2 = τ5
          have h := h τ5 hτ5.symm
          refine pw_aload_n (i := 0) dX11_sheet_46 rfl rfl ?_
          refine pw_getR dX11_sheet_47 fl_X11_85 rfl rfl ?_
          refine pw_iload_n (i := 1) dX11_sheet_50 rfl rfl ?_
          refine pw_iload_n (i := 3) dX11_sheet_51 rfl rfl ?_
          obtain ⟨hb, h⟩ := h
          refine pw_iast dX11_sheet_52 rfl hb ?_
          generalize hτ6 : pw_up τ5 75 (Int32.toNatClampNeg a1) a3 = τ6
          have h := h τ6 hτ6.symm
          refine pw_iconst (v := 0) dX11_sheet_53 kc_0 ?_
          refine pw_istore (i := 4) (ls' := [some (.ref 49), some (.int a1), some (.int a2), some (.int a3), some (.int 0)]) dX11_sheet_54 (Nat.le_of_ble_eq_true rfl) rfl ?_
          obtain ⟨n13, h⟩ := h
          refine t_X11_sheet_L56 _ _ _ _ _ _ h (fun y8 y9 y10 y11 τ12 h => ?_)
          refine pw_iconst (v := 1) dX11_sheet_82 kc_1 ?_
          exact pw_ret dX11_sheet_83 rfl rfl ⟨_, rfl, h⟩
        · have h := h.2 q
          refine pw_bipush (v := (-14)) dX11_sheet_36 kb_m14 ?_
          exact pw_ret dX11_sheet_38 rfl rfl ⟨_, rfl, h⟩
      · have h := h.2 q
        refine pw_iconst (v := (-1)) dX11_sheet_30 kc_m1 ?_
        exact pw_ret dX11_sheet_31 rfl rfl ⟨_, rfl, h⟩
/-! X11_lay -/
def R_X11_lay (a1 : Int32) (a2 : Int32) (a3 : Int32) (σ : pw_Mem) (K : Int32 → pw_Mem → Prop) : Prop := R_X11_in (Int32.toInt64 a1) 0 3 σ (fun x2 τ1 => ((¬ x2 = 0 → vp_in a1 4 ∧ ((¬ (τ1 74 (Int32.toNatClampNeg a1)) = (-4) → vp_in a1 4 ∧ R_X11_in (Int32.toInt64 a2) 0 (Int32.toInt64 ((τ1 75 (Int32.toNatClampNeg a1)) - 1)) τ1 (fun x4 τ3 => ((¬ x4 = 0 → vp_in a1 4 ∧ ((¬ (τ3 74 (Int32.toNatClampNeg a1)) = 0 → vp_in a1 4 ∧ ((¬ (τ3 74 (Int32.toNatClampNeg a1)) = 1 → vp_in ((60 * a1) + a2) 240 ∧ ∀ τ5, τ5 = pw_up τ3 76 (Int32.toNatClampNeg ((60 * a1) + a2)) a3 → K 1 τ5) ∧ ((τ3 74 (Int32.toNatClampNeg a1)) = 1 → vp_in ((60 * a1) + a2) 240 ∧ ∀ τ6, τ6 = pw_up τ3 76 (Int32.toNatClampNeg ((60 * a1) + a2)) ((a3 <<< (16 &&& 31)) >>> (16 &&& 31)) → K 1 τ6))) ∧ ((τ3 74 (Int32.toNatClampNeg a1)) = 0 → vp_in ((60 * a1) + a2) 240 ∧ ∀ τ7, τ7 = pw_up τ3 76 (Int32.toNatClampNeg ((60 * a1) + a2)) ((a3 <<< (24 &&& 31)) >>> (24 &&& 31)) → K 1 τ7))) ∧ (x4 = 0 → K (-12) τ3)))) ∧ ((τ1 74 (Int32.toNatClampNeg a1)) = (-4) → K (-11) τ1))) ∧ (x2 = 0 → K (-1) τ1)))
set_option maxHeartbeats 4000000 in
theorem c_X11_lay {L : pw_Lay} {d : Nat} {a1 : Int32} {a2 : Int32} {a3 : Int32} {σ : pw_Mem} {K : Int32 → pw_Mem → Prop} (h : R_X11_lay a1 a2 a3 σ K) : CT L (d + 1) m_X11_lay [.ref 49, .int a1, .int a2, .int a3] σ (ki K) := by
  refine pw_enter (by decide) rfl (Nat.le_of_ble_eq_true rfl) (ls := [some (.ref 49), some (.int a1), some (.int a2), some (.int a3)]) rfl ?_
  unfold R_X11_lay at h
  refine pw_iload_n (i := 1) dX11_lay_0 rfl rfl ?_
  refine pw_i2l dX11_lay_1 ?_
  refine pw_lconst (v := 0) dX11_lay_2 kl_0 ?_
  refine pw_ldc2 dX11_lay_3 k_X11_112 ?_
  refine pw_cSi [.long (Int32.toInt64 a1), .long 0, .long 3] dX11_lay_6 ms_X11_95 rfl rfl (Nat.le_of_ble_eq_true rfl) (c_X11_in h) (fun x2 τ1 h => ?_)
  refine pw_if_ne (tgt := 14) dX11_lay_9 rfl (fun q => ?_) (fun q => ?_)
  · have h := h.1 q
    refine pw_aload_n (i := 0) dX11_lay_14 rfl rfl ?_
    refine pw_getR dX11_lay_15 fl_X11_82 rfl rfl ?_
    refine pw_iload_n (i := 1) dX11_lay_18 rfl rfl ?_
    obtain ⟨hb, h⟩ := h
    refine pw_iald dX11_lay_19 rfl hb ?_
    refine pw_bipush (v := (-4)) dX11_lay_20 kb_m4 ?_
    refine pw_icmp_ne (tgt := 28) dX11_lay_22 rfl (fun q => ?_) (fun q => ?_)
    · have h := h.1 q
      refine pw_iload_n (i := 2) dX11_lay_28 rfl rfl ?_
      refine pw_i2l dX11_lay_29 ?_
      refine pw_lconst (v := 0) dX11_lay_30 kl_0 ?_
      refine pw_aload_n (i := 0) dX11_lay_31 rfl rfl ?_
      refine pw_getR dX11_lay_32 fl_X11_85 rfl rfl ?_
      refine pw_iload_n (i := 1) dX11_lay_35 rfl rfl ?_
      obtain ⟨hb, h⟩ := h
      refine pw_iald dX11_lay_36 rfl hb ?_
      refine pw_iconst (v := 1) dX11_lay_37 kc_1 ?_
      refine pw_isub dX11_lay_38 ?_
      refine pw_i2l dX11_lay_39 ?_
      refine pw_cSi [.long (Int32.toInt64 a2), .long 0, .long (Int32.toInt64 ((τ1 75 (Int32.toNatClampNeg a1)) - 1))] dX11_lay_40 ms_X11_95 rfl rfl (Nat.le_of_ble_eq_true rfl) (c_X11_in h) (fun x4 τ3 h => ?_)
      refine pw_if_ne (tgt := 49) dX11_lay_43 rfl (fun q => ?_) (fun q => ?_)
      · have h := h.1 q
        refine pw_aload_n (i := 0) dX11_lay_49 rfl rfl ?_
        refine pw_getR dX11_lay_50 fl_X11_88 rfl rfl ?_
        refine pw_bipush (v := 60) dX11_lay_53 kb_60 ?_
        refine pw_iload_n (i := 1) dX11_lay_55 rfl rfl ?_
        refine pw_imul dX11_lay_56 ?_
        refine pw_iload_n (i := 2) dX11_lay_57 rfl rfl ?_
        refine pw_iadd dX11_lay_58 ?_
        refine pw_aload_n (i := 0) dX11_lay_59 rfl rfl ?_
        refine pw_getR dX11_lay_60 fl_X11_82 rfl rfl ?_
        refine pw_iload_n (i := 1) dX11_lay_63 rfl rfl ?_
        obtain ⟨hb, h⟩ := h
        refine pw_iald dX11_lay_64 rfl hb ?_
        refine pw_if_ne (tgt := 78) dX11_lay_65 rfl (fun q => ?_) (fun q => ?_)
        · have h := h.1 q
          refine pw_aload_n (i := 0) dX11_lay_78 rfl rfl ?_
          refine pw_getR dX11_lay_79 fl_X11_82 rfl rfl ?_
          refine pw_iload_n (i := 1) dX11_lay_82 rfl rfl ?_
          obtain ⟨hb, h⟩ := h
          refine pw_iald dX11_lay_83 rfl hb ?_
          refine pw_iconst (v := 1) dX11_lay_84 kc_1 ?_
          refine pw_icmp_ne (tgt := 98) dX11_lay_85 rfl (fun q => ?_) (fun q => ?_)
          · have h := h.1 q
            refine pw_iload_n (i := 3) dX11_lay_98 rfl rfl ?_
            obtain ⟨hb, h⟩ := h
            refine pw_iast dX11_lay_99 rfl hb ?_
            generalize hτ5 : pw_up τ3 76 (Int32.toNatClampNeg ((60 * a1) + a2)) a3 = τ5
            have h := h τ5 hτ5.symm
            refine pw_iconst (v := 1) dX11_lay_100 kc_1 ?_
            exact pw_ret dX11_lay_101 rfl rfl ⟨_, rfl, h⟩
          · have h := h.2 q
            refine pw_iload_n (i := 3) dX11_lay_88 rfl rfl ?_
            refine pw_bipush (v := 16) dX11_lay_89 kb_16 ?_
            refine pw_ishl dX11_lay_91 ?_
            refine pw_bipush (v := 16) dX11_lay_92 kb_16 ?_
            refine pw_ishr dX11_lay_94 ?_
            refine pw_goto (tgt := 99) dX11_lay_95 rfl ?_
            obtain ⟨hb, h⟩ := h
            refine pw_iast dX11_lay_99 rfl hb ?_
            generalize hτ6 : pw_up τ3 76 (Int32.toNatClampNeg ((60 * a1) + a2)) ((a3 <<< (16 &&& 31)) >>> (16 &&& 31)) = τ6
            have h := h τ6 hτ6.symm
            refine pw_iconst (v := 1) dX11_lay_100 kc_1 ?_
            exact pw_ret dX11_lay_101 rfl rfl ⟨_, rfl, h⟩
        · have h := h.2 q
          refine pw_iload_n (i := 3) dX11_lay_68 rfl rfl ?_
          refine pw_bipush (v := 24) dX11_lay_69 kb_24 ?_
          refine pw_ishl dX11_lay_71 ?_
          refine pw_bipush (v := 24) dX11_lay_72 kb_24 ?_
          refine pw_ishr dX11_lay_74 ?_
          refine pw_goto (tgt := 99) dX11_lay_75 rfl ?_
          obtain ⟨hb, h⟩ := h
          refine pw_iast dX11_lay_99 rfl hb ?_
          generalize hτ7 : pw_up τ3 76 (Int32.toNatClampNeg ((60 * a1) + a2)) ((a3 <<< (24 &&& 31)) >>> (24 &&& 31)) = τ7
          have h := h τ7 hτ7.symm
          refine pw_iconst (v := 1) dX11_lay_100 kc_1 ?_
          exact pw_ret dX11_lay_101 rfl rfl ⟨_, rfl, h⟩
      · have h := h.2 q
        refine pw_bipush (v := (-12)) dX11_lay_46 kb_m12 ?_
        exact pw_ret dX11_lay_48 rfl rfl ⟨_, rfl, h⟩
    · have h := h.2 q
      refine pw_bipush (v := (-11)) dX11_lay_25 kb_m11 ?_
      exact pw_ret dX11_lay_27 rfl rfl ⟨_, rfl, h⟩
  · have h := h.2 q
    refine pw_iconst (v := (-1)) dX11_lay_12 kc_m1 ?_
    exact pw_ret dX11_lay_13 rfl rfl ⟨_, rfl, h⟩
/-! X11_scan -/
def R_X11_scan_L77 (K : Int32 → pw_Mem → Prop) (KX : Int32 → Int32 → Int32 → Int32 → Int32 → Int32 → pw_Mem → Prop) : Nat → Int32 → Int32 → Int32 → Int32 → Int32 → Int32 → pw_Mem → Prop
  | 0, _, _, _, _, _, _, _ => False
  | n + 1, l1, l2, l3, l4, l5, l6, σ => ((l4 ≤ l6 → KX l1 l2 l3 l4 l5 l6 σ) ∧ (¬ l4 ≤ l6 → vp_in l1 4 ∧ R_X11_in ((Int32.toInt64 l3) + (Int32.toInt64 (3 * l6))) 0 (Int32.toInt64 ((σ 75 (Int32.toNatClampNeg l1)) - 3)) σ (fun x8 τ7 => ((¬ x8 = 0 → vp_in ((60 * l1) + (Int64.toInt32 ((Int32.toInt64 l3) + (Int32.toInt64 (3 * l6))))) 240 ∧ vp_in (((60 * l1) + (Int64.toInt32 ((Int32.toInt64 l3) + (Int32.toInt64 (3 * l6))))) + 1) 240 ∧ vp_in (((60 * l1) + (Int64.toInt32 ((Int32.toInt64 l3) + (Int32.toInt64 (3 * l6))))) + 2) 240 ∧ R_X11_called (τ7 76 (Int32.toNatClampNeg ((60 * l1) + (Int64.toInt32 ((Int32.toInt64 l3) + (Int32.toInt64 (3 * l6))))))) (τ7 76 (Int32.toNatClampNeg (((60 * l1) + (Int64.toInt32 ((Int32.toInt64 l3) + (Int32.toInt64 (3 * l6))))) + 1))) (τ7 76 (Int32.toNatClampNeg (((60 * l1) + (Int64.toInt32 ((Int32.toInt64 l3) + (Int32.toInt64 (3 * l6))))) + 2))) τ7 (fun x10 τ9 => ((0 ≤ x10 → ((0 ≤ (0 : Int32) → R_X11_scan_L77 K KX n l1 l2 l3 l4 l5 (l6 + 1) τ9) ∧ (¬ 0 ≤ (0 : Int32) → ∀ τ11, τ11 = pw_up τ9 49 3 l5 → K 0 τ11))) ∧ (¬ 0 ≤ x10 → ((0 ≤ ((-20) + x10) → R_X11_scan_L77 K KX n l1 l2 l3 l4 l5 (l6 + 1) τ9) ∧ (¬ 0 ≤ ((-20) + x10) → ∀ τ12, τ12 = pw_up τ9 49 3 l5 → K ((-20) + x10) τ12)))))) ∧ (x8 = 0 → ((0 ≤ ((-12) : Int32) → R_X11_scan_L77 K KX n l1 l2 l3 l4 l5 (l6 + 1) τ7) ∧ (¬ 0 ≤ ((-12) : Int32) → ∀ τ13, τ13 = pw_up τ7 49 3 l5 → K (-12) τ13)))))))
def R_X11_scan (a1 : Int32) (a2 : Int32) (a3 : Int32) (a4 : Int32) (σ : pw_Mem) (K : Int32 → pw_Mem → Prop) : Prop := R_X11_in (Int32.toInt64 a1) 0 3 σ (fun x2 τ1 => ((x2 = 0 → K (-1) τ1) ∧ (¬ x2 = 0 → R_X11_in (Int32.toInt64 a2) 0 2 τ1 (fun x4 τ3 => ((x4 = 0 → K (-1) τ3) ∧ (¬ x4 = 0 → R_X11_in (Int32.toInt64 a4) 0 20 τ3 (fun x6 τ5 => ((¬ x6 = 0 → vp_in a1 4 ∧ (((τ5 74 (Int32.toNatClampNeg a1)) = a2 → ∃ n21, R_X11_scan_L77 K (fun y14 y15 y16 y17 y18 y19 τ20 => K (τ20 49 3) τ20) n21 a1 a2 a3 a4 (τ5 49 3) 0 τ5) ∧ (¬ (τ5 74 (Int32.toNatClampNeg a1)) = a2 → vp_in a1 4 ∧ ((¬ (τ5 74 (Int32.toNatClampNeg a1)) = (-4) → K (-13) τ5) ∧ ((τ5 74 (Int32.toNatClampNeg a1)) = (-4) → K (-11) τ5))))) ∧ (x6 = 0 → K (-1) τ5)))))))))
set_option maxHeartbeats 4000000 in
theorem t_X11_scan_L77 {L : pw_Lay} {d : Nat} {K : Int32 → pw_Mem → Prop} {KX : Int32 → Int32 → Int32 → Int32 → Int32 → Int32 → pw_Mem → Prop} : ∀ (n : Nat) (l1 : Int32) (l2 : Int32) (l3 : Int32) (l4 : Int32) (l5 : Int32) (l6 : Int32) (σ : pw_Mem), R_X11_scan_L77 K KX n l1 l2 l3 l4 l5 l6 σ → (∀ (l1 : Int32) (l2 : Int32) (l3 : Int32) (l4 : Int32) (l5 : Int32) (l6 : Int32) (τ : pw_Mem), KX l1 l2 l3 l4 l5 l6 τ → PW L (d + 3) m_X11_scan (ki K) 199 [some (.ref 49), some (.int l1), some (.int l2), some (.int l3), some (.int l4), some (.int l5), some (.int l6), none, none, none, none, none] [] τ) → PW L (d + 3) m_X11_scan (ki K) 77 [some (.ref 49), some (.int l1), some (.int l2), some (.int l3), some (.int l4), some (.int l5), some (.int l6), none, none, none, none, none] [] σ := by
  intro n
  induction n with
  | zero => intro l1 l2 l3 l4 l5 l6 _ h _; exact h.elim
  | succ n ih =>
    intro l1 l2 l3 l4 l5 l6 σ h hX
    unfold R_X11_scan_L77 at h
    refine pw_iload dX11_scan_77 rfl ?_
    refine pw_iload dX11_scan_79 rfl ?_
    refine pw_icmp_ge (tgt := 199) dX11_scan_81 rfl (fun q => ?_) (fun q => ?_)
    · have h := h.1 q
      exact hX _ _ _ _ _ _ _ h
    · have h := h.2 q
      refine pw_iload_n (i := 3) dX11_scan_84 rfl rfl ?_
      refine pw_i2l dX11_scan_85 ?_
      refine pw_iconst (v := 3) dX11_scan_86 kc_3 ?_
      refine pw_iload dX11_scan_87 rfl ?_
      refine pw_imul dX11_scan_89 ?_
      refine pw_i2l dX11_scan_90 ?_
      refine pw_ladd dX11_scan_91 ?_
      refine pw_lstore (i := 7) (ls' := [some (.ref 49), some (.int l1), some (.int l2), some (.int l3), some (.int l4), some (.int l5), some (.int l6), some (.long ((Int32.toInt64 l3) + (Int32.toInt64 (3 * l6)))), none, none, none, none]) dX11_scan_92 (Nat.le_of_ble_eq_true rfl) rfl ?_
      refine pw_iconst (v := 0) dX11_scan_94 kc_0 ?_
      refine pw_istore (i := 9) (ls' := [some (.ref 49), some (.int l1), some (.int l2), some (.int l3), some (.int l4), some (.int l5), some (.int l6), some (.long ((Int32.toInt64 l3) + (Int32.toInt64 (3 * l6)))), none, some (.int 0), none, none]) dX11_scan_95 (Nat.le_of_ble_eq_true rfl) rfl ?_
      refine pw_lload dX11_scan_97 rfl ?_
      refine pw_lconst (v := 0) dX11_scan_99 kl_0 ?_
      refine pw_aload_n (i := 0) dX11_scan_100 rfl rfl ?_
      refine pw_getR dX11_scan_101 fl_X11_85 rfl rfl ?_
      refine pw_iload_n (i := 1) dX11_scan_104 rfl rfl ?_
      obtain ⟨hb, h⟩ := h
      refine pw_iald dX11_scan_105 rfl hb ?_
      refine pw_iconst (v := 3) dX11_scan_106 kc_3 ?_
      refine pw_isub dX11_scan_107 ?_
      refine pw_i2l dX11_scan_108 ?_
      refine pw_cSi [.long ((Int32.toInt64 l3) + (Int32.toInt64 (3 * l6))), .long 0, .long (Int32.toInt64 ((σ 75 (Int32.toNatClampNeg l1)) - 3))] dX11_scan_109 ms_X11_95 rfl rfl (Nat.le_of_ble_eq_true rfl) (c_X11_in h) (fun x8 τ7 h => ?_)
      refine pw_if_ne (tgt := 122) dX11_scan_112 rfl (fun q => ?_) (fun q => ?_)
      · have h := h.1 q
        refine pw_bipush (v := 60) dX11_scan_122 kb_60 ?_
        refine pw_iload_n (i := 1) dX11_scan_124 rfl rfl ?_
        refine pw_imul dX11_scan_125 ?_
        refine pw_lload dX11_scan_126 rfl ?_
        refine pw_l2i dX11_scan_128 ?_
        refine pw_iadd dX11_scan_129 ?_
        refine pw_istore (i := 10) (ls' := [some (.ref 49), some (.int l1), some (.int l2), some (.int l3), some (.int l4), some (.int l5), some (.int l6), some (.long ((Int32.toInt64 l3) + (Int32.toInt64 (3 * l6)))), none, some (.int 0), some (.int ((60 * l1) + (Int64.toInt32 ((Int32.toInt64 l3) + (Int32.toInt64 (3 * l6)))))), none]) dX11_scan_130 (Nat.le_of_ble_eq_true rfl) rfl ?_
        refine pw_aload_n (i := 0) dX11_scan_132 rfl rfl ?_
        refine pw_aload_n (i := 0) dX11_scan_133 rfl rfl ?_
        refine pw_getR dX11_scan_134 fl_X11_88 rfl rfl ?_
        refine pw_iload dX11_scan_137 rfl ?_
        obtain ⟨hb, h⟩ := h
        refine pw_iald dX11_scan_139 rfl hb ?_
        refine pw_aload_n (i := 0) dX11_scan_140 rfl rfl ?_
        refine pw_getR dX11_scan_141 fl_X11_88 rfl rfl ?_
        refine pw_iload dX11_scan_144 rfl ?_
        refine pw_iconst (v := 1) dX11_scan_146 kc_1 ?_
        refine pw_iadd dX11_scan_147 ?_
        obtain ⟨hb, h⟩ := h
        refine pw_iald dX11_scan_148 rfl hb ?_
        refine pw_aload_n (i := 0) dX11_scan_149 rfl rfl ?_
        refine pw_getR dX11_scan_150 fl_X11_88 rfl rfl ?_
        refine pw_iload dX11_scan_153 rfl ?_
        refine pw_iconst (v := 2) dX11_scan_155 kc_2 ?_
        refine pw_iadd dX11_scan_156 ?_
        obtain ⟨hb, h⟩ := h
        refine pw_iald dX11_scan_157 rfl hb ?_
        refine pw_cVi [.int (τ7 76 (Int32.toNatClampNeg ((60 * l1) + (Int64.toInt32 ((Int32.toInt64 l3) + (Int32.toInt64 (3 * l6))))))), .int (τ7 76 (Int32.toNatClampNeg (((60 * l1) + (Int64.toInt32 ((Int32.toInt64 l3) + (Int32.toInt64 (3 * l6))))) + 1))), .int (τ7 76 (Int32.toNatClampNeg (((60 * l1) + (Int64.toInt32 ((Int32.toInt64 l3) + (Int32.toInt64 (3 * l6))))) + 2)))] dX11_scan_158 mv_X11_125 rfl rfl rfl (Nat.le_of_ble_eq_true rfl) (c_X11_called h) (fun x10 τ9 h => ?_)
        refine pw_istore (i := 11) (ls' := [some (.ref 49), some (.int l1), some (.int l2), some (.int l3), some (.int l4), some (.int l5), some (.int l6), some (.long ((Int32.toInt64 l3) + (Int32.toInt64 (3 * l6)))), none, some (.int 0), some (.int ((60 * l1) + (Int64.toInt32 ((Int32.toInt64 l3) + (Int32.toInt64 (3 * l6)))))), some (.int x10)]) dX11_scan_161 (Nat.le_of_ble_eq_true rfl) rfl ?_
        refine pw_iload dX11_scan_163 rfl ?_
        refine pw_if_ge (tgt := 176) dX11_scan_165 rfl (fun q => ?_) (fun q => ?_)
        · have h := h.1 q
          refine pw_iconst (v := 0) dX11_scan_176 kc_0 ?_
          refine pw_istore (i := 9) (ls' := [some (.ref 49), some (.int l1), some (.int l2), some (.int l3), some (.int l4), some (.int l5), some (.int l6), some (.long ((Int32.toInt64 l3) + (Int32.toInt64 (3 * l6)))), none, some (.int 0), some (.int ((60 * l1) + (Int64.toInt32 ((Int32.toInt64 l3) + (Int32.toInt64 (3 * l6)))))), some (.int x10)]) dX11_scan_177 (Nat.le_of_ble_eq_true rfl) rfl ?_
          refine pw_iload dX11_scan_179 rfl ?_
          refine pw_if_ge (tgt := 193) dX11_scan_181 rfl (fun q => ?_) (fun q => ?_)
          · have h := h.1 q
            refine pw_iinc (i := 6) (v := l6 + 1) (ls' := [some (.ref 49), some (.int l1), some (.int l2), some (.int l3), some (.int l4), some (.int l5), some (.int (l6 + 1)), some (.long ((Int32.toInt64 l3) + (Int32.toInt64 (3 * l6)))), none, some (.int 0), some (.int ((60 * l1) + (Int64.toInt32 ((Int32.toInt64 l3) + (Int32.toInt64 (3 * l6)))))), some (.int x10)]) dX11_scan_193 rfl (by rw [kc_1]) (Nat.le_of_ble_eq_true rfl) rfl ?_
            refine pw_goto (tgt := 77) dX11_scan_196 rfl ?_
            refine pw_forget (ls' := [some (.ref 49), some (.int l1), some (.int l2), some (.int l3), some (.int l4), some (.int l5), some (.int (l6 + 1)), none, none, none, none, none]) (And.intro rfl (And.intro rfl (And.intro rfl (And.intro rfl (And.intro rfl (And.intro rfl (And.intro rfl trivial))))))) ?_
            exact ih _ _ _ _ _ _ _ h hX
          · have h := h.2 q
            refine pw_aload_n (i := 0) dX11_scan_184 rfl rfl ?_
            refine pw_iload dX11_scan_185 rfl ?_
            refine pw_put dX11_scan_187 fp_X11_109 rfl rfl rfl rfl ?_
            generalize hτ11 : pw_up τ9 49 3 l5 = τ11
            have h := h τ11 hτ11.symm
            refine pw_iload dX11_scan_190 rfl ?_
            exact pw_ret dX11_scan_192 rfl rfl ⟨_, rfl, h⟩
        · have h := h.2 q
          refine pw_bipush (v := (-20)) dX11_scan_168 kb_m20 ?_
          refine pw_iload dX11_scan_170 rfl ?_
          refine pw_iadd dX11_scan_172 ?_
          refine pw_goto (tgt := 177) dX11_scan_173 rfl ?_
          refine pw_istore (i := 9) (ls' := [some (.ref 49), some (.int l1), some (.int l2), some (.int l3), some (.int l4), some (.int l5), some (.int l6), some (.long ((Int32.toInt64 l3) + (Int32.toInt64 (3 * l6)))), none, some (.int ((-20) + x10)), some (.int ((60 * l1) + (Int64.toInt32 ((Int32.toInt64 l3) + (Int32.toInt64 (3 * l6)))))), some (.int x10)]) dX11_scan_177 (Nat.le_of_ble_eq_true rfl) rfl ?_
          refine pw_iload dX11_scan_179 rfl ?_
          refine pw_if_ge (tgt := 193) dX11_scan_181 rfl (fun q => ?_) (fun q => ?_)
          · have h := h.1 q
            refine pw_iinc (i := 6) (v := l6 + 1) (ls' := [some (.ref 49), some (.int l1), some (.int l2), some (.int l3), some (.int l4), some (.int l5), some (.int (l6 + 1)), some (.long ((Int32.toInt64 l3) + (Int32.toInt64 (3 * l6)))), none, some (.int ((-20) + x10)), some (.int ((60 * l1) + (Int64.toInt32 ((Int32.toInt64 l3) + (Int32.toInt64 (3 * l6)))))), some (.int x10)]) dX11_scan_193 rfl (by rw [kc_1]) (Nat.le_of_ble_eq_true rfl) rfl ?_
            refine pw_goto (tgt := 77) dX11_scan_196 rfl ?_
            refine pw_forget (ls' := [some (.ref 49), some (.int l1), some (.int l2), some (.int l3), some (.int l4), some (.int l5), some (.int (l6 + 1)), none, none, none, none, none]) (And.intro rfl (And.intro rfl (And.intro rfl (And.intro rfl (And.intro rfl (And.intro rfl (And.intro rfl trivial))))))) ?_
            exact ih _ _ _ _ _ _ _ h hX
          · have h := h.2 q
            refine pw_aload_n (i := 0) dX11_scan_184 rfl rfl ?_
            refine pw_iload dX11_scan_185 rfl ?_
            refine pw_put dX11_scan_187 fp_X11_109 rfl rfl rfl rfl ?_
            generalize hτ12 : pw_up τ9 49 3 l5 = τ12
            have h := h τ12 hτ12.symm
            refine pw_iload dX11_scan_190 rfl ?_
            exact pw_ret dX11_scan_192 rfl rfl ⟨_, rfl, h⟩
      · have h := h.2 q
        refine pw_bipush (v := (-12)) dX11_scan_115 kb_m12 ?_
        refine pw_istore (i := 9) (ls' := [some (.ref 49), some (.int l1), some (.int l2), some (.int l3), some (.int l4), some (.int l5), some (.int l6), some (.long ((Int32.toInt64 l3) + (Int32.toInt64 (3 * l6)))), none, some (.int (-12)), none, none]) dX11_scan_117 (Nat.le_of_ble_eq_true rfl) rfl ?_
        refine pw_goto (tgt := 179) dX11_scan_119 rfl ?_
        refine pw_iload dX11_scan_179 rfl ?_
        refine pw_if_ge (tgt := 193) dX11_scan_181 rfl (fun q => ?_) (fun q => ?_)
        · have h := h.1 q
          refine pw_iinc (i := 6) (v := l6 + 1) (ls' := [some (.ref 49), some (.int l1), some (.int l2), some (.int l3), some (.int l4), some (.int l5), some (.int (l6 + 1)), some (.long ((Int32.toInt64 l3) + (Int32.toInt64 (3 * l6)))), none, some (.int (-12)), none, none]) dX11_scan_193 rfl (by rw [kc_1]) (Nat.le_of_ble_eq_true rfl) rfl ?_
          refine pw_goto (tgt := 77) dX11_scan_196 rfl ?_
          refine pw_forget (ls' := [some (.ref 49), some (.int l1), some (.int l2), some (.int l3), some (.int l4), some (.int l5), some (.int (l6 + 1)), none, none, none, none, none]) (And.intro rfl (And.intro rfl (And.intro rfl (And.intro rfl (And.intro rfl (And.intro rfl (And.intro rfl trivial))))))) ?_
          exact ih _ _ _ _ _ _ _ h hX
        · have h := h.2 q
          refine pw_aload_n (i := 0) dX11_scan_184 rfl rfl ?_
          refine pw_iload dX11_scan_185 rfl ?_
          refine pw_put dX11_scan_187 fp_X11_109 rfl rfl rfl rfl ?_
          generalize hτ13 : pw_up τ7 49 3 l5 = τ13
          have h := h τ13 hτ13.symm
          refine pw_iload dX11_scan_190 rfl ?_
          exact pw_ret dX11_scan_192 rfl rfl ⟨_, rfl, h⟩
set_option maxHeartbeats 4000000 in
theorem c_X11_scan {L : pw_Lay} {d : Nat} {a1 : Int32} {a2 : Int32} {a3 : Int32} {a4 : Int32} {σ : pw_Mem} {K : Int32 → pw_Mem → Prop} (h : R_X11_scan a1 a2 a3 a4 σ K) : CT L (d + 3) m_X11_scan [.ref 49, .int a1, .int a2, .int a3, .int a4] σ (ki K) := by
  refine pw_enter (by decide) rfl (Nat.le_of_ble_eq_true rfl) (ls := [some (.ref 49), some (.int a1), some (.int a2), some (.int a3), some (.int a4), none, none, none, none, none, none, none]) rfl ?_
  unfold R_X11_scan at h
  refine pw_iload_n (i := 1) dX11_scan_0 rfl rfl ?_
  refine pw_i2l dX11_scan_1 ?_
  refine pw_lconst (v := 0) dX11_scan_2 kl_0 ?_
  refine pw_ldc2 dX11_scan_3 k_X11_112 ?_
  refine pw_cSi [.long (Int32.toInt64 a1), .long 0, .long 3] dX11_scan_6 ms_X11_95 rfl rfl (Nat.le_of_ble_eq_true rfl) (c_X11_in h) (fun x2 τ1 h => ?_)
  refine pw_if_eq (tgt := 37) dX11_scan_9 rfl (fun q => ?_) (fun q => ?_)
  · have h := h.1 q
    refine pw_iconst (v := (-1)) dX11_scan_37 kc_m1 ?_
    exact pw_ret dX11_scan_38 rfl rfl ⟨_, rfl, h⟩
  · have h := h.2 q
    refine pw_iload_n (i := 2) dX11_scan_12 rfl rfl ?_
    refine pw_i2l dX11_scan_13 ?_
    refine pw_lconst (v := 0) dX11_scan_14 kl_0 ?_
    refine pw_ldc2 dX11_scan_15 k_X11_233 ?_
    refine pw_cSi [.long (Int32.toInt64 a2), .long 0, .long 2] dX11_scan_18 ms_X11_95 rfl rfl (Nat.le_of_ble_eq_true rfl) (c_X11_in h) (fun x4 τ3 h => ?_)
    refine pw_if_eq (tgt := 37) dX11_scan_21 rfl (fun q => ?_) (fun q => ?_)
    · have h := h.1 q
      refine pw_iconst (v := (-1)) dX11_scan_37 kc_m1 ?_
      exact pw_ret dX11_scan_38 rfl rfl ⟨_, rfl, h⟩
    · have h := h.2 q
      refine pw_iload dX11_scan_24 rfl ?_
      refine pw_i2l dX11_scan_26 ?_
      refine pw_lconst (v := 0) dX11_scan_27 kl_0 ?_
      refine pw_ldc2 dX11_scan_28 k_X11_107 ?_
      refine pw_cSi [.long (Int32.toInt64 a4), .long 0, .long 20] dX11_scan_31 ms_X11_95 rfl rfl (Nat.le_of_ble_eq_true rfl) (c_X11_in h) (fun x6 τ5 h => ?_)
      refine pw_if_ne (tgt := 39) dX11_scan_34 rfl (fun q => ?_) (fun q => ?_)
      · have h := h.1 q
        refine pw_aload_n (i := 0) dX11_scan_39 rfl rfl ?_
        refine pw_getR dX11_scan_40 fl_X11_82 rfl rfl ?_
        refine pw_iload_n (i := 1) dX11_scan_43 rfl rfl ?_
        obtain ⟨hb, h⟩ := h
        refine pw_iald dX11_scan_44 rfl hb ?_
        refine pw_iload_n (i := 2) dX11_scan_45 rfl rfl ?_
        refine pw_icmp_eq (tgt := 68) dX11_scan_46 rfl (fun q => ?_) (fun q => ?_)
        · have h := h.1 q
          refine pw_aload_n (i := 0) dX11_scan_68 rfl rfl ?_
          refine pw_getI dX11_scan_69 fl_X11_109 rfl rfl ?_
          refine pw_istore (i := 5) (ls' := [some (.ref 49), some (.int a1), some (.int a2), some (.int a3), some (.int a4), some (.int (τ5 49 3)), none, none, none, none, none, none]) dX11_scan_72 (Nat.le_of_ble_eq_true rfl) rfl ?_
          refine pw_iconst (v := 0) dX11_scan_74 kc_0 ?_
          refine pw_istore (i := 6) (ls' := [some (.ref 49), some (.int a1), some (.int a2), some (.int a3), some (.int a4), some (.int (τ5 49 3)), some (.int 0), none, none, none, none, none]) dX11_scan_75 (Nat.le_of_ble_eq_true rfl) rfl ?_
          obtain ⟨n21, h⟩ := h
          refine t_X11_scan_L77 _ _ _ _ _ _ _ _ h (fun y14 y15 y16 y17 y18 y19 τ20 h => ?_)
          refine pw_aload_n (i := 0) dX11_scan_199 rfl rfl ?_
          refine pw_getI dX11_scan_200 fl_X11_109 rfl rfl ?_
          exact pw_ret dX11_scan_203 rfl rfl ⟨_, rfl, h⟩
        · have h := h.2 q
          refine pw_aload_n (i := 0) dX11_scan_49 rfl rfl ?_
          refine pw_getR dX11_scan_50 fl_X11_82 rfl rfl ?_
          refine pw_iload_n (i := 1) dX11_scan_53 rfl rfl ?_
          obtain ⟨hb, h⟩ := h
          refine pw_iald dX11_scan_54 rfl hb ?_
          refine pw_bipush (v := (-4)) dX11_scan_55 kb_m4 ?_
          refine pw_icmp_ne (tgt := 65) dX11_scan_57 rfl (fun q => ?_) (fun q => ?_)
          · have h := h.1 q
            refine pw_bipush (v := (-13)) dX11_scan_65 kb_m13 ?_
            exact pw_ret dX11_scan_67 rfl rfl ⟨_, rfl, h⟩
          · have h := h.2 q
            refine pw_bipush (v := (-11)) dX11_scan_60 kb_m11 ?_
            refine pw_goto (tgt := 67) dX11_scan_62 rfl ?_
            exact pw_ret dX11_scan_67 rfl rfl ⟨_, rfl, h⟩
      · have h := h.2 q
        refine pw_iconst (v := (-1)) dX11_scan_37 kc_m1 ?_
        exact pw_ret dX11_scan_38 rfl rfl ⟨_, rfl, h⟩
/-! X11_count -/
def R_X11_count_L68 (K : Int32 → pw_Mem → Prop) (KX : Int32 → Int32 → Int32 → pw_Mem → Prop) : Nat → Int32 → Int32 → Int32 → pw_Mem → Prop
  | 0, _, _, _, _ => False
  | n + 1, l1, l2, l3, σ => (((σ 49 0) ≤ l3 → KX l1 l2 l3 σ) ∧ (¬ (σ 49 0) ≤ l3 → R_X11_isRing l3 σ (fun x3 τ2 => ((x3 = 0 → R_X11_count_L68 K KX n l1 (l2 + 0) (l3 + 1) τ2) ∧ (¬ x3 = 0 → vp_in l3 20 ∧ R_X11_leastOf (τ2 61 (Int32.toNatClampNeg l3)) τ2 (fun x5 τ4 => ((¬ x5 = l3 → R_X11_count_L68 K KX n l1 (l2 + 0) (l3 + 1) τ4) ∧ (x5 = l3 → R_X11_count_L68 K KX n l1 (l2 + 1) (l3 + 1) τ4))))))))
def R_X11_count (a1 : Int32) (σ : pw_Mem) (K : Int32 → pw_Mem → Prop) : Prop := (((a1 = nI 0 ∨ a1 = nI 1 ∨ a1 = nI 2 ∨ a1 = nI 3 ∨ a1 = nI 4 ∨ a1 = nI 5) ∨ ∀ c : Nat, c ≤ 5 → ¬ a1 = nI c) ∧ (a1 = nI 0 → K (σ 49 0) σ) ∧ (a1 = nI 1 → K (σ 49 3) σ) ∧ (a1 = nI 2 → K (σ 49 15) σ) ∧ (a1 = nI 3 → K (σ 49 19) σ) ∧ (a1 = nI 4 → R_X11_layNet  σ (fun τ1 => ∃ n10, R_X11_count_L68 K (fun y6 y7 y8 τ9 => K y7 τ9) n10 a1 0 0 τ1)) ∧ (a1 = nI 5 → vp_in 0 4 ∧ ((¬ (σ 74 (Int32.toNatClampNeg 0)) = (-4) → vp_in 0 4 ∧ K (σ 75 (Int32.toNatClampNeg 0)) σ) ∧ ((σ 74 (Int32.toNatClampNeg 0)) = (-4) → K (-4) σ))) ∧ ((∀ c : Nat, c ≤ 5 → ¬ a1 = nI c) → K (-1) σ))
set_option maxHeartbeats 4000000 in
theorem t_X11_count_L68 {L : pw_Lay} {d : Nat} {K : Int32 → pw_Mem → Prop} {KX : Int32 → Int32 → Int32 → pw_Mem → Prop} : ∀ (n : Nat) (l1 : Int32) (l2 : Int32) (l3 : Int32) (σ : pw_Mem), R_X11_count_L68 K KX n l1 l2 l3 σ → (∀ (l1 : Int32) (l2 : Int32) (l3 : Int32) (τ : pw_Mem), KX l1 l2 l3 τ → PW L (d + 2) m_X11_count (ki K) 111 [some (.ref 49), some (.int l1), some (.int l2), some (.int l3)] [] τ) → PW L (d + 2) m_X11_count (ki K) 68 [some (.ref 49), some (.int l1), some (.int l2), some (.int l3)] [] σ := by
  intro n
  induction n with
  | zero => intro l1 l2 l3 _ h _; exact h.elim
  | succ n ih =>
    intro l1 l2 l3 σ h hX
    unfold R_X11_count_L68 at h
    refine pw_iload_n (i := 3) dX11_count_68 rfl rfl ?_
    refine pw_aload_n (i := 0) dX11_count_69 rfl rfl ?_
    refine pw_getI dX11_count_70 fl_X11_91 rfl rfl ?_
    refine pw_icmp_ge (tgt := 111) dX11_count_73 rfl (fun q => ?_) (fun q => ?_)
    · have h := h.1 q
      exact hX _ _ _ _ h
    · have h := h.2 q
      refine pw_iload_n (i := 2) dX11_count_76 rfl rfl ?_
      refine pw_aload_n (i := 0) dX11_count_77 rfl rfl ?_
      refine pw_iload_n (i := 3) dX11_count_78 rfl rfl ?_
      refine pw_cVi [.int l3] dX11_count_79 mv_X11_136 rfl rfl rfl (Nat.le_of_ble_eq_true rfl) (c_X11_isRing h) (fun x3 τ2 h => ?_)
      refine pw_if_eq (tgt := 102) dX11_count_82 rfl (fun q => ?_) (fun q => ?_)
      · have h := h.1 q
        refine pw_iconst (v := 0) dX11_count_102 kc_0 ?_
        refine pw_iadd dX11_count_103 ?_
        refine pw_istore_n (i := 2) (ls' := [some (.ref 49), some (.int l1), some (.int (l2 + 0)), some (.int l3)]) dX11_count_104 rfl (Nat.le_of_ble_eq_true rfl) rfl ?_
        refine pw_iinc (i := 3) (v := l3 + 1) (ls' := [some (.ref 49), some (.int l1), some (.int (l2 + 0)), some (.int (l3 + 1))]) dX11_count_105 rfl (by rw [kc_1]) (Nat.le_of_ble_eq_true rfl) rfl ?_
        refine pw_goto (tgt := 68) dX11_count_108 rfl ?_
        exact ih _ _ _ _ h hX
      · have h := h.2 q
        refine pw_aload_n (i := 0) dX11_count_85 rfl rfl ?_
        refine pw_getR dX11_count_86 fl_X11_43 rfl rfl ?_
        refine pw_iload_n (i := 3) dX11_count_89 rfl rfl ?_
        obtain ⟨hb, h⟩ := h
        refine pw_iald dX11_count_90 rfl hb ?_
        refine pw_cSi [.int (τ2 61 (Int32.toNatClampNeg l3))] dX11_count_91 ms_X11_139 rfl rfl (Nat.le_of_ble_eq_true rfl) (c_X11_leastOf h) (fun x5 τ4 h => ?_)
        refine pw_iload_n (i := 3) dX11_count_94 rfl rfl ?_
        refine pw_icmp_ne (tgt := 102) dX11_count_95 rfl (fun q => ?_) (fun q => ?_)
        · have h := h.1 q
          refine pw_iconst (v := 0) dX11_count_102 kc_0 ?_
          refine pw_iadd dX11_count_103 ?_
          refine pw_istore_n (i := 2) (ls' := [some (.ref 49), some (.int l1), some (.int (l2 + 0)), some (.int l3)]) dX11_count_104 rfl (Nat.le_of_ble_eq_true rfl) rfl ?_
          refine pw_iinc (i := 3) (v := l3 + 1) (ls' := [some (.ref 49), some (.int l1), some (.int (l2 + 0)), some (.int (l3 + 1))]) dX11_count_105 rfl (by rw [kc_1]) (Nat.le_of_ble_eq_true rfl) rfl ?_
          refine pw_goto (tgt := 68) dX11_count_108 rfl ?_
          exact ih _ _ _ _ h hX
        · have h := h.2 q
          refine pw_iconst (v := 1) dX11_count_98 kc_1 ?_
          refine pw_goto (tgt := 103) dX11_count_99 rfl ?_
          refine pw_iadd dX11_count_103 ?_
          refine pw_istore_n (i := 2) (ls' := [some (.ref 49), some (.int l1), some (.int (l2 + 1)), some (.int l3)]) dX11_count_104 rfl (Nat.le_of_ble_eq_true rfl) rfl ?_
          refine pw_iinc (i := 3) (v := l3 + 1) (ls' := [some (.ref 49), some (.int l1), some (.int (l2 + 1)), some (.int (l3 + 1))]) dX11_count_105 rfl (by rw [kc_1]) (Nat.le_of_ble_eq_true rfl) rfl ?_
          refine pw_goto (tgt := 68) dX11_count_108 rfl ?_
          exact ih _ _ _ _ h hX
set_option maxHeartbeats 4000000 in
theorem c_X11_count {L : pw_Lay} {d : Nat} {a1 : Int32} {σ : pw_Mem} {K : Int32 → pw_Mem → Prop} (h : R_X11_count a1 σ K) : CT L (d + 2) m_X11_count [.ref 49, .int a1] σ (ki K) := by
  refine pw_enter (by decide) rfl (Nat.le_of_ble_eq_true rfl) (ls := [some (.ref 49), some (.int a1), none, none]) rfl ?_
  unfold R_X11_count at h
  refine pw_iload_n (i := 1) dX11_count_0 rfl rfl ?_
  have hsw := h.1
  have h := h.2
  rcases hsw with hsw | hi
  · rcases hsw with hi | hi | hi | hi | hi | hi
    · have h := h.1 hi
      refine pw_sw (tgt := 40) 0 dX11_count_1 hi (by decide) (by decide) rfl rfl ?_
      refine pw_aload_n (i := 0) dX11_count_40 rfl rfl ?_
      refine pw_getI dX11_count_41 fl_X11_91 rfl rfl ?_
      exact pw_ret dX11_count_44 rfl rfl ⟨_, rfl, h⟩
    · have h := h.2.1 hi
      refine pw_sw (tgt := 45) 1 dX11_count_1 hi (by decide) (by decide) rfl rfl ?_
      refine pw_aload_n (i := 0) dX11_count_45 rfl rfl ?_
      refine pw_getI dX11_count_46 fl_X11_109 rfl rfl ?_
      exact pw_ret dX11_count_49 rfl rfl ⟨_, rfl, h⟩
    · have h := h.2.2.1 hi
      refine pw_sw (tgt := 50) 2 dX11_count_1 hi (by decide) (by decide) rfl rfl ?_
      refine pw_aload_n (i := 0) dX11_count_50 rfl rfl ?_
      refine pw_getI dX11_count_51 fl_X11_166 rfl rfl ?_
      exact pw_ret dX11_count_54 rfl rfl ⟨_, rfl, h⟩
    · have h := h.2.2.2.1 hi
      refine pw_sw (tgt := 55) 3 dX11_count_1 hi (by decide) (by decide) rfl rfl ?_
      refine pw_aload_n (i := 0) dX11_count_55 rfl rfl ?_
      refine pw_getI dX11_count_56 fl_X11_169 rfl rfl ?_
      exact pw_ret dX11_count_59 rfl rfl ⟨_, rfl, h⟩
    · have h := h.2.2.2.2.1 hi
      refine pw_sw (tgt := 60) 4 dX11_count_1 hi (by decide) (by decide) rfl rfl ?_
      refine pw_aload_n (i := 0) dX11_count_60 rfl rfl ?_
      refine pw_cVv [] dX11_count_61 mv_X11_133 rfl rfl rfl (Nat.le_of_ble_eq_true rfl) (c_X11_layNet h) (fun τ1 h => ?_)
      refine pw_iconst (v := 0) dX11_count_64 kc_0 ?_
      refine pw_istore_n (i := 2) (ls' := [some (.ref 49), some (.int a1), some (.int 0), none]) dX11_count_65 rfl (Nat.le_of_ble_eq_true rfl) rfl ?_
      refine pw_iconst (v := 0) dX11_count_66 kc_0 ?_
      refine pw_istore_n (i := 3) (ls' := [some (.ref 49), some (.int a1), some (.int 0), some (.int 0)]) dX11_count_67 rfl (Nat.le_of_ble_eq_true rfl) rfl ?_
      obtain ⟨n10, h⟩ := h
      refine t_X11_count_L68 _ _ _ _ _ h (fun y6 y7 y8 τ9 h => ?_)
      refine pw_iload_n (i := 2) dX11_count_111 rfl rfl ?_
      exact pw_ret dX11_count_112 rfl rfl ⟨_, rfl, h⟩
    · have h := h.2.2.2.2.2.1 hi
      refine pw_sw (tgt := 113) 5 dX11_count_1 hi (by decide) (by decide) rfl rfl ?_
      refine pw_aload_n (i := 0) dX11_count_113 rfl rfl ?_
      refine pw_getR dX11_count_114 fl_X11_82 rfl rfl ?_
      refine pw_iconst (v := 0) dX11_count_117 kc_0 ?_
      obtain ⟨hb, h⟩ := h
      refine pw_iald dX11_count_118 rfl hb ?_
      refine pw_bipush (v := (-4)) dX11_count_119 kb_m4 ?_
      refine pw_icmp_ne (tgt := 129) dX11_count_121 rfl (fun q => ?_) (fun q => ?_)
      · have h := h.1 q
        refine pw_aload_n (i := 0) dX11_count_129 rfl rfl ?_
        refine pw_getR dX11_count_130 fl_X11_85 rfl rfl ?_
        refine pw_iconst (v := 0) dX11_count_133 kc_0 ?_
        obtain ⟨hb, h⟩ := h
        refine pw_iald dX11_count_134 rfl hb ?_
        exact pw_ret dX11_count_135 rfl rfl ⟨_, rfl, h⟩
      · have h := h.2 q
        refine pw_bipush (v := (-4)) dX11_count_124 kb_m4 ?_
        refine pw_goto (tgt := 135) dX11_count_126 rfl ?_
        exact pw_ret dX11_count_135 rfl rfl ⟨_, rfl, h⟩
  · have h := h.2.2.2.2.2.2 hi
    refine pw_swd (hi := 5) (tgt := 136) dX11_count_1 (by decide) hi rfl ?_
    refine pw_iconst (v := (-1)) dX11_count_136 kc_m1 ?_
    exact pw_ret dX11_count_137 rfl rfl ⟨_, rfl, h⟩
