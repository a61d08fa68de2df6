/-! X11_own -/
def R_X11_own (a1 : Int32) (σ : pw_Mem) (K : Int32 → pw_Mem → Prop) : Prop := vp_in a1 20 ∧ R_X11_greatest (σ 58 (Int32.toNatClampNeg a1)) σ (fun x2 τ1 => vp_in a1 20 ∧ vp_in a1 20 ∧ R_X11_greatest ((τ1 59 (Int32.toNatClampNeg a1)) &&& ((τ1 61 (Int32.toNatClampNeg a1)) ^^^ (-1))) τ1 (fun x4 τ3 => ((x2 = (-4) → K (-4) τ3) ∧ (¬ x2 = (-4) → ((¬ x4 = (-4) → ((x2 = (-5) → K (-5) τ3) ∧ (¬ x2 = (-5) → ((¬ x4 = (-5) → vp_in a1 20 ∧ ((((τ3 50 (Int32.toNatClampNeg a1)) + x2) ≤ x4 → K x4 τ3) ∧ (¬ ((τ3 50 (Int32.toNatClampNeg a1)) + x2) ≤ x4 → vp_in a1 20 ∧ K ((τ3 50 (Int32.toNatClampNeg a1)) + x2) τ3))) ∧ (x4 = (-5) → K (-5) τ3))))) ∧ (x4 = (-4) → K (-4) τ3))))))
set_option maxHeartbeats 4000000 in
theorem c_X11_own {L : pw_Lay} {d : Nat} {a1 : Int32} {σ : pw_Mem} {K : Int32 → pw_Mem → Prop} (h : R_X11_own a1 σ K) : CT L (d + 1) m_X11_own [.ref 49, .int a1] σ (ki K) := by
  refine pw_enter (by decide) rfl (Nat.le_of_ble_eq_true rfl) (ls := [some (.ref 49), some (.int a1), none, none]) rfl ?_
  unfold R_X11_own at h
  refine pw_aload_n (i := 0) dX11_own_0 rfl rfl ?_
  refine pw_aload_n (i := 0) dX11_own_1 rfl rfl ?_
  refine pw_getR dX11_own_2 fl_X11_34 rfl rfl ?_
  refine pw_iload_n (i := 1) dX11_own_5 rfl rfl ?_
  obtain ⟨hb, h⟩ := h
  refine pw_iald dX11_own_6 rfl hb ?_
  refine pw_cVi [.int (σ 58 (Int32.toNatClampNeg a1))] dX11_own_7 mv_X11_146 rfl rfl rfl (Nat.le_of_ble_eq_true rfl) (c_X11_greatest h) (fun x2 τ1 h => ?_)
  refine pw_istore_n (i := 2) (ls' := [some (.ref 49), some (.int a1), some (.int x2), none]) dX11_own_10 rfl (Nat.le_of_ble_eq_true rfl) rfl ?_
  refine pw_aload_n (i := 0) dX11_own_11 rfl rfl ?_
  refine pw_aload_n (i := 0) dX11_own_12 rfl rfl ?_
  refine pw_getR dX11_own_13 fl_X11_37 rfl rfl ?_
  refine pw_iload_n (i := 1) dX11_own_16 rfl rfl ?_
  obtain ⟨hb, h⟩ := h
  refine pw_iald dX11_own_17 rfl hb ?_
  refine pw_aload_n (i := 0) dX11_own_18 rfl rfl ?_
  refine pw_getR dX11_own_19 fl_X11_43 rfl rfl ?_
  refine pw_iload_n (i := 1) dX11_own_22 rfl rfl ?_
  obtain ⟨hb, h⟩ := h
  refine pw_iald dX11_own_23 rfl hb ?_
  refine pw_iconst (v := (-1)) dX11_own_24 kc_m1 ?_
  refine pw_ixor dX11_own_25 ?_
  refine pw_iand dX11_own_26 ?_
  refine pw_cVi [.int ((τ1 59 (Int32.toNatClampNeg a1)) &&& ((τ1 61 (Int32.toNatClampNeg a1)) ^^^ (-1)))] dX11_own_27 mv_X11_146 rfl rfl rfl (Nat.le_of_ble_eq_true rfl) (c_X11_greatest h) (fun x4 τ3 h => ?_)
  refine pw_istore_n (i := 3) (ls' := [some (.ref 49), some (.int a1), some (.int x2), some (.int x4)]) dX11_own_30 rfl (Nat.le_of_ble_eq_true rfl) rfl ?_
  refine pw_iload_n (i := 2) dX11_own_31 rfl rfl ?_
  refine pw_bipush (v := (-4)) dX11_own_32 kb_m4 ?_
  refine pw_icmp_eq (tgt := 43) dX11_own_34 rfl (fun q => ?_) (fun q => ?_)
  · have h := h.1 q
    refine pw_bipush (v := (-4)) dX11_own_43 kb_m4 ?_
    exact pw_ret dX11_own_45 rfl rfl ⟨_, rfl, h⟩
  · have h := h.2 q
    refine pw_iload_n (i := 3) dX11_own_37 rfl rfl ?_
    refine pw_bipush (v := (-4)) dX11_own_38 kb_m4 ?_
    refine pw_icmp_ne (tgt := 46) dX11_own_40 rfl (fun q => ?_) (fun q => ?_)
    · have h := h.1 q
      refine pw_iload_n (i := 2) dX11_own_46 rfl rfl ?_
      refine pw_bipush (v := (-5)) dX11_own_47 kb_m5 ?_
      refine pw_icmp_eq (tgt := 58) dX11_own_49 rfl (fun q => ?_) (fun q => ?_)
      · have h := h.1 q
        refine pw_bipush (v := (-5)) dX11_own_58 kb_m5 ?_
        exact pw_ret dX11_own_60 rfl rfl ⟨_, rfl, h⟩
      · have h := h.2 q
        refine pw_iload_n (i := 3) dX11_own_52 rfl rfl ?_
        refine pw_bipush (v := (-5)) dX11_own_53 kb_m5 ?_
        refine pw_icmp_ne (tgt := 61) dX11_own_55 rfl (fun q => ?_) (fun q => ?_)
        · have h := h.1 q
          refine pw_aload_n (i := 0) dX11_own_61 rfl rfl ?_
          refine pw_getR dX11_own_62 fl_X11_7 rfl rfl ?_
          refine pw_iload_n (i := 1) dX11_own_65 rfl rfl ?_
          obtain ⟨hb, h⟩ := h
          refine pw_iald dX11_own_66 rfl hb ?_
          refine pw_iload_n (i := 2) dX11_own_67 rfl rfl ?_
          refine pw_iadd dX11_own_68 ?_
          refine pw_iload_n (i := 3) dX11_own_69 rfl rfl ?_
          refine pw_icmp_le (tgt := 84) dX11_own_70 rfl (fun q => ?_) (fun q => ?_)
          · have h := h.1 q
            refine pw_iload_n (i := 3) dX11_own_84 rfl rfl ?_
            exact pw_ret dX11_own_85 rfl rfl ⟨_, rfl, h⟩
          · have h := h.2 q
            refine pw_aload_n (i := 0) dX11_own_73 rfl rfl ?_
            refine pw_getR dX11_own_74 fl_X11_7 rfl rfl ?_
            refine pw_iload_n (i := 1) dX11_own_77 rfl rfl ?_
            obtain ⟨hb, h⟩ := h
            refine pw_iald dX11_own_78 rfl hb ?_
            refine pw_iload_n (i := 2) dX11_own_79 rfl rfl ?_
            refine pw_iadd dX11_own_80 ?_
            refine pw_goto (tgt := 85) dX11_own_81 rfl ?_
            exact pw_ret dX11_own_85 rfl rfl ⟨_, rfl, h⟩
        · have h := h.2 q
          refine pw_bipush (v := (-5)) dX11_own_58 kb_m5 ?_
          exact pw_ret dX11_own_60 rfl rfl ⟨_, rfl, h⟩
    · have h := h.2 q
      refine pw_bipush (v := (-4)) dX11_own_43 kb_m4 ?_
      exact pw_ret dX11_own_45 rfl rfl ⟨_, rfl, h⟩
/-! X11_reckoned -/
def R_X11_reckoned_L168 (K : Int32 → pw_Mem → Prop) (KX : Int32 → Int32 → Int32 → Int32 → Int32 → Int32 → pw_Mem → Prop) : Nat → Int32 → Int32 → Int32 → Int32 → Int32 → Int32 → pw_Mem → Prop
  | 0, _, _, _, _, _, _, _ => False
  | n + 1, l1, l2, l3, l4, l5, l6, σ => (((σ 49 0) ≤ l6 → KX l1 l2 l3 l4 l5 l6 σ) ∧ (¬ (σ 49 0) ≤ l6 → ((¬ ((l2 >>> (l6 &&& 31)) &&& 1) = 1 → R_X11_reckoned_L168 K KX n l1 l2 l3 l4 l5 (l6 + 1) σ) ∧ (((l2 >>> (l6 &&& 31)) &&& 1) = 1 → R_X11_own l6 σ (fun x4 τ3 => ((l4 = 0 → ((l5 = 0 → ((x4 ≤ l3 → R_X11_reckoned_L168 K KX n l1 l2 l3 0 0 (l6 + 1) τ3) ∧ (¬ x4 ≤ l3 → R_X11_reckoned_L168 K KX n l1 l2 x4 0 0 (l6 + 1) τ3))) ∧ (¬ l5 = 0 → ((x4 = (-5) → ((x4 ≤ l3 → R_X11_reckoned_L168 K KX n l1 l2 l3 0 0 (l6 + 1) τ3) ∧ (¬ x4 ≤ l3 → R_X11_reckoned_L168 K KX n l1 l2 x4 0 0 (l6 + 1) τ3))) ∧ (¬ x4 = (-5) → ((x4 ≤ l3 → R_X11_reckoned_L168 K KX n l1 l2 l3 0 1 (l6 + 1) τ3) ∧ (¬ x4 ≤ l3 → R_X11_reckoned_L168 K KX n l1 l2 x4 0 1 (l6 + 1) τ3))))))) ∧ (¬ l4 = 0 → ((x4 = (-4) → ((l5 = 0 → ((x4 ≤ l3 → R_X11_reckoned_L168 K KX n l1 l2 l3 0 0 (l6 + 1) τ3) ∧ (¬ x4 ≤ l3 → R_X11_reckoned_L168 K KX n l1 l2 x4 0 0 (l6 + 1) τ3))) ∧ (¬ l5 = 0 → ((x4 = (-5) → ((x4 ≤ l3 → R_X11_reckoned_L168 K KX n l1 l2 l3 0 0 (l6 + 1) τ3) ∧ (¬ x4 ≤ l3 → R_X11_reckoned_L168 K KX n l1 l2 x4 0 0 (l6 + 1) τ3))) ∧ (¬ x4 = (-5) → ((x4 ≤ l3 → R_X11_reckoned_L168 K KX n l1 l2 l3 0 1 (l6 + 1) τ3) ∧ (¬ x4 ≤ l3 → R_X11_reckoned_L168 K KX n l1 l2 x4 0 1 (l6 + 1) τ3))))))) ∧ (¬ x4 = (-4) → ((l5 = 0 → ((x4 ≤ l3 → R_X11_reckoned_L168 K KX n l1 l2 l3 1 0 (l6 + 1) τ3) ∧ (¬ x4 ≤ l3 → R_X11_reckoned_L168 K KX n l1 l2 x4 1 0 (l6 + 1) τ3))) ∧ (¬ l5 = 0 → ((x4 = (-5) → ((x4 ≤ l3 → R_X11_reckoned_L168 K KX n l1 l2 l3 1 0 (l6 + 1) τ3) ∧ (¬ x4 ≤ l3 → R_X11_reckoned_L168 K KX n l1 l2 x4 1 0 (l6 + 1) τ3))) ∧ (¬ x4 = (-5) → ((x4 ≤ l3 → R_X11_reckoned_L168 K KX n l1 l2 l3 1 1 (l6 + 1) τ3) ∧ (¬ x4 ≤ l3 → R_X11_reckoned_L168 K KX n l1 l2 x4 1 1 (l6 + 1) τ3)))))))))))))))
def R_X11_reckoned_L26 (K : Int32 → pw_Mem → Prop) (KX : Int32 → Int32 → Int32 → Int32 → Int32 → Int32 → pw_Mem → Prop) : Nat → Int32 → Int32 → Int32 → Int32 → Int32 → Int32 → pw_Mem → Prop
  | 0, _, _, _, _, _, _, _ => False
  | n + 1, l1, l2, l3, l4, l5, l6, σ => (((σ 49 0) ≤ l6 → KX l1 l2 l3 l4 l5 l6 σ) ∧ (¬ (σ 49 0) ≤ l6 → ((¬ ((l2 >>> (l6 &&& 31)) &&& 1) = 1 → R_X11_reckoned_L26 K KX n l1 l2 l3 l4 l5 (l6 + 1) σ) ∧ (((l2 >>> (l6 &&& 31)) &&& 1) = 1 → vp_in l6 20 ∧ vp_in l6 20 ∧ vp_in l6 20 ∧ vp_in l6 20 ∧ ((l5 = 0 → R_X11_reckoned_L26 K KX n l1 l2 (l3 ||| ((σ 58 (Int32.toNatClampNeg l6)) ||| (σ 59 (Int32.toNatClampNeg l6)))) (l4 + ((σ 50 (Int32.toNatClampNeg l6)) * (σ 51 (Int32.toNatClampNeg l6)))) 0 (l6 + 1) σ) ∧ (¬ l5 = 0 → vp_in l6 20 ∧ (((σ 51 (Int32.toNatClampNeg l6)) ≤ 0 → R_X11_reckoned_L26 K KX n l1 l2 (l3 ||| ((σ 58 (Int32.toNatClampNeg l6)) ||| (σ 59 (Int32.toNatClampNeg l6)))) (l4 + ((σ 50 (Int32.toNatClampNeg l6)) * (σ 51 (Int32.toNatClampNeg l6)))) 0 (l6 + 1) σ) ∧ (¬ (σ 51 (Int32.toNatClampNeg l6)) ≤ 0 → R_X11_reckoned_L26 K KX n l1 l2 (l3 ||| ((σ 58 (Int32.toNatClampNeg l6)) ||| (σ 59 (Int32.toNatClampNeg l6)))) (l4 + ((σ 50 (Int32.toNatClampNeg l6)) * (σ 51 (Int32.toNatClampNeg l6)))) 1 (l6 + 1) σ))))))))
def R_X11_reckoned (a1 : Int32) (σ : pw_Mem) (K : Int32 → pw_Mem → Prop) : Prop := vp_in a1 20 ∧ R_X11_isRing a1 σ (fun x2 τ1 => ((x2 = 0 → ∃ n12, R_X11_reckoned_L168 K (fun y5 y6 y7 y8 y9 y10 τ11 => ((¬ y8 = 0 → ((y9 = 0 → K (-5) τ11) ∧ (¬ y9 = 0 → K y7 τ11))) ∧ (y8 = 0 → K (-4) τ11))) n12 a1 (σ 61 (Int32.toNatClampNeg a1)) 0 1 1 0 τ1) ∧ (¬ x2 = 0 → ∃ n22, R_X11_reckoned_L26 K (fun y13 y14 y15 y16 y17 y18 τ19 => R_X11_greatest (y15 &&& (y14 ^^^ (-1))) τ19 (fun x21 τ20 => ((¬ x21 = (-4) → ((y17 = 0 → K (-5) τ20) ∧ (¬ y17 = 0 → ((¬ x21 = (-5) → K (y16 + x21) τ20) ∧ (x21 = (-5) → K (-5) τ20))))) ∧ (x21 = (-4) → K (-4) τ20)))) n22 a1 (σ 61 (Int32.toNatClampNeg a1)) 0 0 1 0 τ1)))
set_option maxHeartbeats 4000000 in
theorem t_X11_reckoned_L168 {L : pw_Lay} {d : Nat} {K : Int32 → pw_Mem → Prop} {KX : Int32 → Int32 → Int32 → Int32 → Int32 → Int32 → pw_Mem → Prop} : ∀ (n : Nat) (l1 : Int32) (l2 : Int32) (l3 : Int32) (l4 : Int32) (l5 : Int32) (l6 : Int32) (σ : pw_Mem), R_X11_reckoned_L168 K KX n l1 l2 l3 l4 l5 l6 σ → (∀ (l1 : Int32) (l2 : Int32) (l3 : Int32) (l4 : Int32) (l5 : Int32) (l6 : Int32) (τ : pw_Mem), KX l1 l2 l3 l4 l5 l6 τ → PW L (d + 2) m_X11_reckoned (ki K) 252 [some (.ref 49), some (.int l1), some (.int l2), some (.int l3), some (.int l4), some (.int l5), some (.int l6), none] [] τ) → PW L (d + 2) m_X11_reckoned (ki K) 168 [some (.ref 49), some (.int l1), some (.int l2), some (.int l3), some (.int l4), some (.int l5), some (.int l6), none] [] σ := by
  intro n
  induction n with
  | zero => intro l1 l2 l3 l4 l5 l6 _ h _; exact h.elim
  | succ n ih =>
    intro l1 l2 l3 l4 l5 l6 σ h hX
    unfold R_X11_reckoned_L168 at h
    refine pw_iload dX11_reckoned_168 rfl ?_
    refine pw_aload_n (i := 0) dX11_reckoned_170 rfl rfl ?_
    refine pw_getI dX11_reckoned_171 fl_X11_91 rfl rfl ?_
    refine pw_icmp_ge (tgt := 252) dX11_reckoned_174 rfl (fun q => ?_) (fun q => ?_)
    · have h := h.1 q
      exact hX _ _ _ _ _ _ _ h
    · have h := h.2 q
      refine pw_iload_n (i := 2) dX11_reckoned_177 rfl rfl ?_
      refine pw_iload dX11_reckoned_178 rfl ?_
      refine pw_ishr dX11_reckoned_180 ?_
      refine pw_iconst (v := 1) dX11_reckoned_181 kc_1 ?_
      refine pw_iand dX11_reckoned_182 ?_
      refine pw_iconst (v := 1) dX11_reckoned_183 kc_1 ?_
      refine pw_icmp_ne (tgt := 246) dX11_reckoned_184 rfl (fun q => ?_) (fun q => ?_)
      · have h := h.1 q
        refine pw_iinc (i := 6) (v := l6 + 1) (ls' := [some (.ref 49), some (.int l1), some (.int l2), some (.int l3), some (.int l4), some (.int l5), some (.int (l6 + 1)), none]) dX11_reckoned_246 rfl (by rw [kc_1]) (Nat.le_of_ble_eq_true rfl) rfl ?_
        refine pw_goto (tgt := 168) dX11_reckoned_249 rfl ?_
        exact ih _ _ _ _ _ _ _ h hX
      · have h := h.2 q
        refine pw_aload_n (i := 0) dX11_reckoned_187 rfl rfl ?_
        refine pw_iload dX11_reckoned_188 rfl ?_
        refine pw_cVi [.int l6] dX11_reckoned_190 mv_X11_149 rfl rfl rfl (Nat.le_of_ble_eq_true rfl) (c_X11_own h) (fun x4 τ3 h => ?_)
        refine pw_istore (i := 7) (ls' := [some (.ref 49), some (.int l1), some (.int l2), some (.int l3), some (.int l4), some (.int l5), some (.int l6), some (.int x4)]) dX11_reckoned_193 (Nat.le_of_ble_eq_true rfl) rfl ?_
        refine pw_iload dX11_reckoned_195 rfl ?_
        refine pw_if_eq (tgt := 211) dX11_reckoned_197 rfl (fun q => ?_) (fun q => ?_)
        · have h := h.1 q
          refine pw_iconst (v := 0) dX11_reckoned_211 kc_0 ?_
          refine pw_istore (i := 4) (ls' := [some (.ref 49), some (.int l1), some (.int l2), some (.int l3), some (.int 0), some (.int l5), some (.int l6), some (.int x4)]) dX11_reckoned_212 (Nat.le_of_ble_eq_true rfl) rfl ?_
          refine pw_iload dX11_reckoned_214 rfl ?_
          refine pw_if_eq (tgt := 230) dX11_reckoned_216 rfl (fun q => ?_) (fun q => ?_)
          · have h := h.1 q
            refine pw_iconst (v := 0) dX11_reckoned_230 kc_0 ?_
            refine pw_istore (i := 5) (ls' := [some (.ref 49), some (.int l1), some (.int l2), some (.int l3), some (.int 0), some (.int 0), some (.int l6), some (.int x4)]) dX11_reckoned_231 (Nat.le_of_ble_eq_true rfl) rfl ?_
            refine pw_iload dX11_reckoned_233 rfl ?_
            refine pw_iload_n (i := 3) dX11_reckoned_235 rfl rfl ?_
            refine pw_icmp_le (tgt := 244) dX11_reckoned_236 rfl (fun q => ?_) (fun q => ?_)
            · have h := h.1 q
              refine pw_iload_n (i := 3) dX11_reckoned_244 rfl rfl ?_
              refine pw_istore_n (i := 3) (ls' := [some (.ref 49), some (.int l1), some (.int l2), some (.int l3), some (.int 0), some (.int 0), some (.int l6), some (.int x4)]) dX11_reckoned_245 rfl (Nat.le_of_ble_eq_true rfl) rfl ?_
              refine pw_iinc (i := 6) (v := l6 + 1) (ls' := [some (.ref 49), some (.int l1), some (.int l2), some (.int l3), some (.int 0), some (.int 0), some (.int (l6 + 1)), some (.int x4)]) dX11_reckoned_246 rfl (by rw [kc_1]) (Nat.le_of_ble_eq_true rfl) rfl ?_
              refine pw_goto (tgt := 168) dX11_reckoned_249 rfl ?_
              refine pw_forget (ls' := [some (.ref 49), some (.int l1), some (.int l2), some (.int l3), some (.int 0), some (.int 0), some (.int (l6 + 1)), none]) (And.intro rfl (And.intro rfl (And.intro rfl (And.intro rfl (And.intro rfl (And.intro rfl (And.intro rfl trivial))))))) ?_
              exact ih _ _ _ _ _ _ _ h hX
            · have h := h.2 q
              refine pw_iload dX11_reckoned_239 rfl ?_
              refine pw_goto (tgt := 245) dX11_reckoned_241 rfl ?_
              refine pw_istore_n (i := 3) (ls' := [some (.ref 49), some (.int l1), some (.int l2), some (.int x4), some (.int 0), some (.int 0), some (.int l6), some (.int x4)]) dX11_reckoned_245 rfl (Nat.le_of_ble_eq_true rfl) rfl ?_
              refine pw_iinc (i := 6) (v := l6 + 1) (ls' := [some (.ref 49), some (.int l1), some (.int l2), some (.int x4), some (.int 0), some (.int 0), some (.int (l6 + 1)), some (.int x4)]) dX11_reckoned_246 rfl (by rw [kc_1]) (Nat.le_of_ble_eq_true rfl) rfl ?_
              refine pw_goto (tgt := 168) dX11_reckoned_249 rfl ?_
              refine pw_forget (ls' := [some (.ref 49), some (.int l1), some (.int l2), some (.int x4), some (.int 0), some (.int 0), some (.int (l6 + 1)), none]) (And.intro rfl (And.intro rfl (And.intro rfl (And.intro rfl (And.intro rfl (And.intro rfl (And.intro rfl trivial))))))) ?_
              exact ih _ _ _ _ _ _ _ h hX
          · have h := h.2 q
            refine pw_iload dX11_reckoned_219 rfl ?_
            refine pw_bipush (v := (-5)) dX11_reckoned_221 kb_m5 ?_
            refine pw_icmp_eq (tgt := 230) dX11_reckoned_223 rfl (fun q => ?_) (fun q => ?_)
            · have h := h.1 q
              refine pw_iconst (v := 0) dX11_reckoned_230 kc_0 ?_
              refine pw_istore (i := 5) (ls' := [some (.ref 49), some (.int l1), some (.int l2), some (.int l3), some (.int 0), some (.int 0), some (.int l6), some (.int x4)]) dX11_reckoned_231 (Nat.le_of_ble_eq_true rfl) rfl ?_
              refine pw_iload dX11_reckoned_233 rfl ?_
              refine pw_iload_n (i := 3) dX11_reckoned_235 rfl rfl ?_
              refine pw_icmp_le (tgt := 244) dX11_reckoned_236 rfl (fun q => ?_) (fun q => ?_)
              · have h := h.1 q
                refine pw_iload_n (i := 3) dX11_reckoned_244 rfl rfl ?_
                refine pw_istore_n (i := 3) (ls' := [some (.ref 49), some (.int l1), some (.int l2), some (.int l3), some (.int 0), some (.int 0), some (.int l6), some (.int x4)]) dX11_reckoned_245 rfl (Nat.le_of_ble_eq_true rfl) rfl ?_
                refine pw_iinc (i := 6) (v := l6 + 1) (ls' := [some (.ref 49), some (.int l1), some (.int l2), some (.int l3), some (.int 0), some (.int 0), some (.int (l6 + 1)), some (.int x4)]) dX11_reckoned_246 rfl (by rw [kc_1]) (Nat.le_of_ble_eq_true rfl) rfl ?_
                refine pw_goto (tgt := 168) dX11_reckoned_249 rfl ?_
                refine pw_forget (ls' := [some (.ref 49), some (.int l1), some (.int l2), some (.int l3), some (.int 0), some (.int 0), some (.int (l6 + 1)), none]) (And.intro rfl (And.intro rfl (And.intro rfl (And.intro rfl (And.intro rfl (And.intro rfl (And.intro rfl trivial))))))) ?_
                exact ih _ _ _ _ _ _ _ h hX
              · have h := h.2 q
                refine pw_iload dX11_reckoned_239 rfl ?_
                refine pw_goto (tgt := 245) dX11_reckoned_241 rfl ?_
                refine pw_istore_n (i := 3) (ls' := [some (.ref 49), some (.int l1), some (.int l2), some (.int x4), some (.int 0), some (.int 0), some (.int l6), some (.int x4)]) dX11_reckoned_245 rfl (Nat.le_of_ble_eq_true rfl) rfl ?_
                refine pw_iinc (i := 6) (v := l6 + 1) (ls' := [some (.ref 49), some (.int l1), some (.int l2), some (.int x4), some (.int 0), some (.int 0), some (.int (l6 + 1)), some (.int x4)]) dX11_reckoned_246 rfl (by rw [kc_1]) (Nat.le_of_ble_eq_true rfl) rfl ?_
                refine pw_goto (tgt := 168) dX11_reckoned_249 rfl ?_
                refine pw_forget (ls' := [some (.ref 49), some (.int l1), some (.int l2), some (.int x4), some (.int 0), some (.int 0), some (.int (l6 + 1)), none]) (And.intro rfl (And.intro rfl (And.intro rfl (And.intro rfl (And.intro rfl (And.intro rfl (And.intro rfl trivial))))))) ?_
                exact ih _ _ _ _ _ _ _ h hX
            · have h := h.2 q
              refine pw_iconst (v := 1) dX11_reckoned_226 kc_1 ?_
              refine pw_goto (tgt := 231) dX11_reckoned_227 rfl ?_
              refine pw_istore (i := 5) (ls' := [some (.ref 49), some (.int l1), some (.int l2), some (.int l3), some (.int 0), some (.int 1), some (.int l6), some (.int x4)]) dX11_reckoned_231 (Nat.le_of_ble_eq_true rfl) rfl ?_
              refine pw_iload dX11_reckoned_233 rfl ?_
              refine pw_iload_n (i := 3) dX11_reckoned_235 rfl rfl ?_
              refine pw_icmp_le (tgt := 244) dX11_reckoned_236 rfl (fun q => ?_) (fun q => ?_)
              · have h := h.1 q
                refine pw_iload_n (i := 3) dX11_reckoned_244 rfl rfl ?_
                refine pw_istore_n (i := 3) (ls' := [some (.ref 49), some (.int l1), some (.int l2), some (.int l3), some (.int 0), some (.int 1), some (.int l6), some (.int x4)]) dX11_reckoned_245 rfl (Nat.le_of_ble_eq_true rfl) rfl ?_
                refine pw_iinc (i := 6) (v := l6 + 1) (ls' := [some (.ref 49), some (.int l1), some (.int l2), some (.int l3), some (.int 0), some (.int 1), some (.int (l6 + 1)), some (.int x4)]) dX11_reckoned_246 rfl (by rw [kc_1]) (Nat.le_of_ble_eq_true rfl) rfl ?_
                refine pw_goto (tgt := 168) dX11_reckoned_249 rfl ?_
                refine pw_forget (ls' := [some (.ref 49), some (.int l1), some (.int l2), some (.int l3), some (.int 0), some (.int 1), some (.int (l6 + 1)), none]) (And.intro rfl (And.intro rfl (And.intro rfl (And.intro rfl (And.intro rfl (And.intro rfl (And.intro rfl trivial))))))) ?_
                exact ih _ _ _ _ _ _ _ h hX
              · have h := h.2 q
                refine pw_iload dX11_reckoned_239 rfl ?_
                refine pw_goto (tgt := 245) dX11_reckoned_241 rfl ?_
                refine pw_istore_n (i := 3) (ls' := [some (.ref 49), some (.int l1), some (.int l2), some (.int x4), some (.int 0), some (.int 1), some (.int l6), some (.int x4)]) dX11_reckoned_245 rfl (Nat.le_of_ble_eq_true rfl) rfl ?_
                refine pw_iinc (i := 6) (v := l6 + 1) (ls' := [some (.ref 49), some (.int l1), some (.int l2), some (.int x4), some (.int 0), some (.int 1), some (.int (l6 + 1)), some (.int x4)]) dX11_reckoned_246 rfl (by rw [kc_1]) (Nat.le_of_ble_eq_true rfl) rfl ?_
                refine pw_goto (tgt := 168) dX11_reckoned_249 rfl ?_
                refine pw_forget (ls' := [some (.ref 49), some (.int l1), some (.int l2), some (.int x4), some (.int 0), some (.int 1), some (.int (l6 + 1)), none]) (And.intro rfl (And.intro rfl (And.intro rfl (And.intro rfl (And.intro rfl (And.intro rfl (And.intro rfl trivial))))))) ?_
                exact ih _ _ _ _ _ _ _ h hX
        · have h := h.2 q
          refine pw_iload dX11_reckoned_200 rfl ?_
          refine pw_bipush (v := (-4)) dX11_reckoned_202 kb_m4 ?_
          refine pw_icmp_eq (tgt := 211) dX11_reckoned_204 rfl (fun q => ?_) (fun q => ?_)
          · have h := h.1 q
            refine pw_iconst (v := 0) dX11_reckoned_211 kc_0 ?_
            refine pw_istore (i := 4) (ls' := [some (.ref 49), some (.int l1), some (.int l2), some (.int l3), some (.int 0), some (.int l5), some (.int l6), some (.int x4)]) dX11_reckoned_212 (Nat.le_of_ble_eq_true rfl) rfl ?_
            refine pw_iload dX11_reckoned_214 rfl ?_
            refine pw_if_eq (tgt := 230) dX11_reckoned_216 rfl (fun q => ?_) (fun q => ?_)
            · have h := h.1 q
              refine pw_iconst (v := 0) dX11_reckoned_230 kc_0 ?_
              refine pw_istore (i := 5) (ls' := [some (.ref 49), some (.int l1), some (.int l2), some (.int l3), some (.int 0), some (.int 0), some (.int l6), some (.int x4)]) dX11_reckoned_231 (Nat.le_of_ble_eq_true rfl) rfl ?_
              refine pw_iload dX11_reckoned_233 rfl ?_
              refine pw_iload_n (i := 3) dX11_reckoned_235 rfl rfl ?_
              refine pw_icmp_le (tgt := 244) dX11_reckoned_236 rfl (fun q => ?_) (fun q => ?_)
              · have h := h.1 q
                refine pw_iload_n (i := 3) dX11_reckoned_244 rfl rfl ?_
                refine pw_istore_n (i := 3) (ls' := [some (.ref 49), some (.int l1), some (.int l2), some (.int l3), some (.int 0), some (.int 0), some (.int l6), some (.int x4)]) dX11_reckoned_245 rfl (Nat.le_of_ble_eq_true rfl) rfl ?_
                refine pw_iinc (i := 6) (v := l6 + 1) (ls' := [some (.ref 49), some (.int l1), some (.int l2), some (.int l3), some (.int 0), some (.int 0), some (.int (l6 + 1)), some (.int x4)]) dX11_reckoned_246 rfl (by rw [kc_1]) (Nat.le_of_ble_eq_true rfl) rfl ?_
                refine pw_goto (tgt := 168) dX11_reckoned_249 rfl ?_
                refine pw_forget (ls' := [some (.ref 49), some (.int l1), some (.int l2), some (.int l3), some (.int 0), some (.int 0), some (.int (l6 + 1)), none]) (And.intro rfl (And.intro rfl (And.intro rfl (And.intro rfl (And.intro rfl (And.intro rfl (And.intro rfl trivial))))))) ?_
                exact ih _ _ _ _ _ _ _ h hX
              · have h := h.2 q
                refine pw_iload dX11_reckoned_239 rfl ?_
                refine pw_goto (tgt := 245) dX11_reckoned_241 rfl ?_
                refine pw_istore_n (i := 3) (ls' := [some (.ref 49), some (.int l1), some (.int l2), some (.int x4), some (.int 0), some (.int 0), some (.int l6), some (.int x4)]) dX11_reckoned_245 rfl (Nat.le_of_ble_eq_true rfl) rfl ?_
                refine pw_iinc (i := 6) (v := l6 + 1) (ls' := [some (.ref 49), some (.int l1), some (.int l2), some (.int x4), some (.int 0), some (.int 0), some (.int (l6 + 1)), some (.int x4)]) dX11_reckoned_246 rfl (by rw [kc_1]) (Nat.le_of_ble_eq_true rfl) rfl ?_
                refine pw_goto (tgt := 168) dX11_reckoned_249 rfl ?_
                refine pw_forget (ls' := [some (.ref 49), some (.int l1), some (.int l2), some (.int x4), some (.int 0), some (.int 0), some (.int (l6 + 1)), none]) (And.intro rfl (And.intro rfl (And.intro rfl (And.intro rfl (And.intro rfl (And.intro rfl (And.intro rfl trivial))))))) ?_
                exact ih _ _ _ _ _ _ _ h hX
            · have h := h.2 q
              refine pw_iload dX11_reckoned_219 rfl ?_
              refine pw_bipush (v := (-5)) dX11_reckoned_221 kb_m5 ?_
              refine pw_icmp_eq (tgt := 230) dX11_reckoned_223 rfl (fun q => ?_) (fun q => ?_)
              · have h := h.1 q
                refine pw_iconst (v := 0) dX11_reckoned_230 kc_0 ?_
                refine pw_istore (i := 5) (ls' := [some (.ref 49), some (.int l1), some (.int l2), some (.int l3), some (.int 0), some (.int 0), some (.int l6), some (.int x4)]) dX11_reckoned_231 (Nat.le_of_ble_eq_true rfl) rfl ?_
                refine pw_iload dX11_reckoned_233 rfl ?_
                refine pw_iload_n (i := 3) dX11_reckoned_235 rfl rfl ?_
                refine pw_icmp_le (tgt := 244) dX11_reckoned_236 rfl (fun q => ?_) (fun q => ?_)
                · have h := h.1 q
                  refine pw_iload_n (i := 3) dX11_reckoned_244 rfl rfl ?_
                  refine pw_istore_n (i := 3) (ls' := [some (.ref 49), some (.int l1), some (.int l2), some (.int l3), some (.int 0), some (.int 0), some (.int l6), some (.int x4)]) dX11_reckoned_245 rfl (Nat.le_of_ble_eq_true rfl) rfl ?_
                  refine pw_iinc (i := 6) (v := l6 + 1) (ls' := [some (.ref 49), some (.int l1), some (.int l2), some (.int l3), some (.int 0), some (.int 0), some (.int (l6 + 1)), some (.int x4)]) dX11_reckoned_246 rfl (by rw [kc_1]) (Nat.le_of_ble_eq_true rfl) rfl ?_
                  refine pw_goto (tgt := 168) dX11_reckoned_249 rfl ?_
                  refine pw_forget (ls' := [some (.ref 49), some (.int l1), some (.int l2), some (.int l3), some (.int 0), some (.int 0), some (.int (l6 + 1)), none]) (And.intro rfl (And.intro rfl (And.intro rfl (And.intro rfl (And.intro rfl (And.intro rfl (And.intro rfl trivial))))))) ?_
                  exact ih _ _ _ _ _ _ _ h hX
                · have h := h.2 q
                  refine pw_iload dX11_reckoned_239 rfl ?_
                  refine pw_goto (tgt := 245) dX11_reckoned_241 rfl ?_
                  refine pw_istore_n (i := 3) (ls' := [some (.ref 49), some (.int l1), some (.int l2), some (.int x4), some (.int 0), some (.int 0), some (.int l6), some (.int x4)]) dX11_reckoned_245 rfl (Nat.le_of_ble_eq_true rfl) rfl ?_
                  refine pw_iinc (i := 6) (v := l6 + 1) (ls' := [some (.ref 49), some (.int l1), some (.int l2), some (.int x4), some (.int 0), some (.int 0), some (.int (l6 + 1)), some (.int x4)]) dX11_reckoned_246 rfl (by rw [kc_1]) (Nat.le_of_ble_eq_true rfl) rfl ?_
                  refine pw_goto (tgt := 168) dX11_reckoned_249 rfl ?_
                  refine pw_forget (ls' := [some (.ref 49), some (.int l1), some (.int l2), some (.int x4), some (.int 0), some (.int 0), some (.int (l6 + 1)), none]) (And.intro rfl (And.intro rfl (And.intro rfl (And.intro rfl (And.intro rfl (And.intro rfl (And.intro rfl trivial))))))) ?_
                  exact ih _ _ _ _ _ _ _ h hX
              · have h := h.2 q
                refine pw_iconst (v := 1) dX11_reckoned_226 kc_1 ?_
                refine pw_goto (tgt := 231) dX11_reckoned_227 rfl ?_
                refine pw_istore (i := 5) (ls' := [some (.ref 49), some (.int l1), some (.int l2), some (.int l3), some (.int 0), some (.int 1), some (.int l6), some (.int x4)]) dX11_reckoned_231 (Nat.le_of_ble_eq_true rfl) rfl ?_
                refine pw_iload dX11_reckoned_233 rfl ?_
                refine pw_iload_n (i := 3) dX11_reckoned_235 rfl rfl ?_
                refine pw_icmp_le (tgt := 244) dX11_reckoned_236 rfl (fun q => ?_) (fun q => ?_)
                · have h := h.1 q
                  refine pw_iload_n (i := 3) dX11_reckoned_244 rfl rfl ?_
                  refine pw_istore_n (i := 3) (ls' := [some (.ref 49), some (.int l1), some (.int l2), some (.int l3), some (.int 0), some (.int 1), some (.int l6), some (.int x4)]) dX11_reckoned_245 rfl (Nat.le_of_ble_eq_true rfl) rfl ?_
                  refine pw_iinc (i := 6) (v := l6 + 1) (ls' := [some (.ref 49), some (.int l1), some (.int l2), some (.int l3), some (.int 0), some (.int 1), some (.int (l6 + 1)), some (.int x4)]) dX11_reckoned_246 rfl (by rw [kc_1]) (Nat.le_of_ble_eq_true rfl) rfl ?_
                  refine pw_goto (tgt := 168) dX11_reckoned_249 rfl ?_
                  refine pw_forget (ls' := [some (.ref 49), some (.int l1), some (.int l2), some (.int l3), some (.int 0), some (.int 1), some (.int (l6 + 1)), none]) (And.intro rfl (And.intro rfl (And.intro rfl (And.intro rfl (And.intro rfl (And.intro rfl (And.intro rfl trivial))))))) ?_
                  exact ih _ _ _ _ _ _ _ h hX
                · have h := h.2 q
                  refine pw_iload dX11_reckoned_239 rfl ?_
                  refine pw_goto (tgt := 245) dX11_reckoned_241 rfl ?_
                  refine pw_istore_n (i := 3) (ls' := [some (.ref 49), some (.int l1), some (.int l2), some (.int x4), some (.int 0), some (.int 1), some (.int l6), some (.int x4)]) dX11_reckoned_245 rfl (Nat.le_of_ble_eq_true rfl) rfl ?_
                  refine pw_iinc (i := 6) (v := l6 + 1) (ls' := [some (.ref 49), some (.int l1), some (.int l2), some (.int x4), some (.int 0), some (.int 1), some (.int (l6 + 1)), some (.int x4)]) dX11_reckoned_246 rfl (by rw [kc_1]) (Nat.le_of_ble_eq_true rfl) rfl ?_
                  refine pw_goto (tgt := 168) dX11_reckoned_249 rfl ?_
                  refine pw_forget (ls' := [some (.ref 49), some (.int l1), some (.int l2), some (.int x4), some (.int 0), some (.int 1), some (.int (l6 + 1)), none]) (And.intro rfl (And.intro rfl (And.intro rfl (And.intro rfl (And.intro rfl (And.intro rfl (And.intro rfl trivial))))))) ?_
                  exact ih _ _ _ _ _ _ _ h hX
          · have h := h.2 q
            refine pw_iconst (v := 1) dX11_reckoned_207 kc_1 ?_
            refine pw_goto (tgt := 212) dX11_reckoned_208 rfl ?_
            refine pw_istore (i := 4) (ls' := [some (.ref 49), some (.int l1), some (.int l2), some (.int l3), some (.int 1), some (.int l5), some (.int l6), some (.int x4)]) dX11_reckoned_212 (Nat.le_of_ble_eq_true rfl) rfl ?_
            refine pw_iload dX11_reckoned_214 rfl ?_
            refine pw_if_eq (tgt := 230) dX11_reckoned_216 rfl (fun q => ?_) (fun q => ?_)
            · have h := h.1 q
              refine pw_iconst (v := 0) dX11_reckoned_230 kc_0 ?_
              refine pw_istore (i := 5) (ls' := [some (.ref 49), some (.int l1), some (.int l2), some (.int l3), some (.int 1), some (.int 0), some (.int l6), some (.int x4)]) dX11_reckoned_231 (Nat.le_of_ble_eq_true rfl) rfl ?_
              refine pw_iload dX11_reckoned_233 rfl ?_
              refine pw_iload_n (i := 3) dX11_reckoned_235 rfl rfl ?_
              refine pw_icmp_le (tgt := 244) dX11_reckoned_236 rfl (fun q => ?_) (fun q => ?_)
              · have h := h.1 q
                refine pw_iload_n (i := 3) dX11_reckoned_244 rfl rfl ?_
                refine pw_istore_n (i := 3) (ls' := [some (.ref 49), some (.int l1), some (.int l2), some (.int l3), some (.int 1), some (.int 0), some (.int l6), some (.int x4)]) dX11_reckoned_245 rfl (Nat.le_of_ble_eq_true rfl) rfl ?_
                refine pw_iinc (i := 6) (v := l6 + 1) (ls' := [some (.ref 49), some (.int l1), some (.int l2), some (.int l3), some (.int 1), some (.int 0), some (.int (l6 + 1)), some (.int x4)]) dX11_reckoned_246 rfl (by rw [kc_1]) (Nat.le_of_ble_eq_true rfl) rfl ?_
                refine pw_goto (tgt := 168) dX11_reckoned_249 rfl ?_
                refine pw_forget (ls' := [some (.ref 49), some (.int l1), some (.int l2), some (.int l3), some (.int 1), some (.int 0), some (.int (l6 + 1)), none]) (And.intro rfl (And.intro rfl (And.intro rfl (And.intro rfl (And.intro rfl (And.intro rfl (And.intro rfl trivial))))))) ?_
                exact ih _ _ _ _ _ _ _ h hX
              · have h := h.2 q
                refine pw_iload dX11_reckoned_239 rfl ?_
                refine pw_goto (tgt := 245) dX11_reckoned_241 rfl ?_
                refine pw_istore_n (i := 3) (ls' := [some (.ref 49), some (.int l1), some (.int l2), some (.int x4), some (.int 1), some (.int 0), some (.int l6), some (.int x4)]) dX11_reckoned_245 rfl (Nat.le_of_ble_eq_true rfl) rfl ?_
                refine pw_iinc (i := 6) (v := l6 + 1) (ls' := [some (.ref 49), some (.int l1), some (.int l2), some (.int x4), some (.int 1), some (.int 0), some (.int (l6 + 1)), some (.int x4)]) dX11_reckoned_246 rfl (by rw [kc_1]) (Nat.le_of_ble_eq_true rfl) rfl ?_
                refine pw_goto (tgt := 168) dX11_reckoned_249 rfl ?_
                refine pw_forget (ls' := [some (.ref 49), some (.int l1), some (.int l2), some (.int x4), some (.int 1), some (.int 0), some (.int (l6 + 1)), none]) (And.intro rfl (And.intro rfl (And.intro rfl (And.intro rfl (And.intro rfl (And.intro rfl (And.intro rfl trivial))))))) ?_
                exact ih _ _ _ _ _ _ _ h hX
            · have h := h.2 q
              refine pw_iload dX11_reckoned_219 rfl ?_
              refine pw_bipush (v := (-5)) dX11_reckoned_221 kb_m5 ?_
              refine pw_icmp_eq (tgt := 230) dX11_reckoned_223 rfl (fun q => ?_) (fun q => ?_)
              · have h := h.1 q
                refine pw_iconst (v := 0) dX11_reckoned_230 kc_0 ?_
                refine pw_istore (i := 5) (ls' := [some (.ref 49), some (.int l1), some (.int l2), some (.int l3), some (.int 1), some (.int 0), some (.int l6), some (.int x4)]) dX11_reckoned_231 (Nat.le_of_ble_eq_true rfl) rfl ?_
                refine pw_iload dX11_reckoned_233 rfl ?_
                refine pw_iload_n (i := 3) dX11_reckoned_235 rfl rfl ?_
                refine pw_icmp_le (tgt := 244) dX11_reckoned_236 rfl (fun q => ?_) (fun q => ?_)
                · have h := h.1 q
                  refine pw_iload_n (i := 3) dX11_reckoned_244 rfl rfl ?_
                  refine pw_istore_n (i := 3) (ls' := [some (.ref 49), some (.int l1), some (.int l2), some (.int l3), some (.int 1), some (.int 0), some (.int l6), some (.int x4)]) dX11_reckoned_245 rfl (Nat.le_of_ble_eq_true rfl) rfl ?_
                  refine pw_iinc (i := 6) (v := l6 + 1) (ls' := [some (.ref 49), some (.int l1), some (.int l2), some (.int l3), some (.int 1), some (.int 0), some (.int (l6 + 1)), some (.int x4)]) dX11_reckoned_246 rfl (by rw [kc_1]) (Nat.le_of_ble_eq_true rfl) rfl ?_
                  refine pw_goto (tgt := 168) dX11_reckoned_249 rfl ?_
                  refine pw_forget (ls' := [some (.ref 49), some (.int l1), some (.int l2), some (.int l3), some (.int 1), some (.int 0), some (.int (l6 + 1)), none]) (And.intro rfl (And.intro rfl (And.intro rfl (And.intro rfl (And.intro rfl (And.intro rfl (And.intro rfl trivial))))))) ?_
                  exact ih _ _ _ _ _ _ _ h hX
                · have h := h.2 q
                  refine pw_iload dX11_reckoned_239 rfl ?_
                  refine pw_goto (tgt := 245) dX11_reckoned_241 rfl ?_
                  refine pw_istore_n (i := 3) (ls' := [some (.ref 49), some (.int l1), some (.int l2), some (.int x4), some (.int 1), some (.int 0), some (.int l6), some (.int x4)]) dX11_reckoned_245 rfl (Nat.le_of_ble_eq_true rfl) rfl ?_
                  refine pw_iinc (i := 6) (v := l6 + 1) (ls' := [some (.ref 49), some (.int l1), some (.int l2), some (.int x4), some (.int 1), some (.int 0), some (.int (l6 + 1)), some (.int x4)]) dX11_reckoned_246 rfl (by rw [kc_1]) (Nat.le_of_ble_eq_true rfl) rfl ?_
                  refine pw_goto (tgt := 168) dX11_reckoned_249 rfl ?_
                  refine pw_forget (ls' := [some (.ref 49), some (.int l1), some (.int l2), some (.int x4), some (.int 1), some (.int 0), some (.int (l6 + 1)), none]) (And.intro rfl (And.intro rfl (And.intro rfl (And.intro rfl (And.intro rfl (And.intro rfl (And.intro rfl trivial))))))) ?_
                  exact ih _ _ _ _ _ _ _ h hX
              · have h := h.2 q
                refine pw_iconst (v := 1) dX11_reckoned_226 kc_1 ?_
                refine pw_goto (tgt := 231) dX11_reckoned_227 rfl ?_
                refine pw_istore (i := 5) (ls' := [some (.ref 49), some (.int l1), some (.int l2), some (.int l3), some (.int 1), some (.int 1), some (.int l6), some (.int x4)]) dX11_reckoned_231 (Nat.le_of_ble_eq_true rfl) rfl ?_
                refine pw_iload dX11_reckoned_233 rfl ?_
                refine pw_iload_n (i := 3) dX11_reckoned_235 rfl rfl ?_
                refine pw_icmp_le (tgt := 244) dX11_reckoned_236 rfl (fun q => ?_) (fun q => ?_)
                · have h := h.1 q
                  refine pw_iload_n (i := 3) dX11_reckoned_244 rfl rfl ?_
                  refine pw_istore_n (i := 3) (ls' := [some (.ref 49), some (.int l1), some (.int l2), some (.int l3), some (.int 1), some (.int 1), some (.int l6), some (.int x4)]) dX11_reckoned_245 rfl (Nat.le_of_ble_eq_true rfl) rfl ?_
                  refine pw_iinc (i := 6) (v := l6 + 1) (ls' := [some (.ref 49), some (.int l1), some (.int l2), some (.int l3), some (.int 1), some (.int 1), some (.int (l6 + 1)), some (.int x4)]) dX11_reckoned_246 rfl (by rw [kc_1]) (Nat.le_of_ble_eq_true rfl) rfl ?_
                  refine pw_goto (tgt := 168) dX11_reckoned_249 rfl ?_
                  refine pw_forget (ls' := [some (.ref 49), some (.int l1), some (.int l2), some (.int l3), some (.int 1), some (.int 1), some (.int (l6 + 1)), none]) (And.intro rfl (And.intro rfl (And.intro rfl (And.intro rfl (And.intro rfl (And.intro rfl (And.intro rfl trivial))))))) ?_
                  exact ih _ _ _ _ _ _ _ h hX
                · have h := h.2 q
                  refine pw_iload dX11_reckoned_239 rfl ?_
                  refine pw_goto (tgt := 245) dX11_reckoned_241 rfl ?_
                  refine pw_istore_n (i := 3) (ls' := [some (.ref 49), some (.int l1), some (.int l2), some (.int x4), some (.int 1), some (.int 1), some (.int l6), some (.int x4)]) dX11_reckoned_245 rfl (Nat.le_of_ble_eq_true rfl) rfl ?_
                  refine pw_iinc (i := 6) (v := l6 + 1) (ls' := [some (.ref 49), some (.int l1), some (.int l2), some (.int x4), some (.int 1), some (.int 1), some (.int (l6 + 1)), some (.int x4)]) dX11_reckoned_246 rfl (by rw [kc_1]) (Nat.le_of_ble_eq_true rfl) rfl ?_
                  refine pw_goto (tgt := 168) dX11_reckoned_249 rfl ?_
                  refine pw_forget (ls' := [some (.ref 49), some (.int l1), some (.int l2), some (.int x4), some (.int 1), some (.int 1), some (.int (l6 + 1)), none]) (And.intro rfl (And.intro rfl (And.intro rfl (And.intro rfl (And.intro rfl (And.intro rfl (And.intro rfl trivial))))))) ?_
                  exact ih _ _ _ _ _ _ _ h hX
set_option maxHeartbeats 4000000 in
theorem t_X11_reckoned_L26 {L : pw_Lay} {d : Nat} {K : Int32 → pw_Mem → Prop} {KX : Int32 → Int32 → Int32 → Int32 → Int32 → Int32 → pw_Mem → Prop} : ∀ (n : Nat) (l1 : Int32) (l2 : Int32) (l3 : Int32) (l4 : Int32) (l5 : Int32) (l6 : Int32) (σ : pw_Mem), R_X11_reckoned_L26 K KX n l1 l2 l3 l4 l5 l6 σ → (∀ (l1 : Int32) (l2 : Int32) (l3 : Int32) (l4 : Int32) (l5 : Int32) (l6 : Int32) (τ : pw_Mem), KX l1 l2 l3 l4 l5 l6 τ → PW L (d + 2) m_X11_reckoned (ki K) 111 [some (.ref 49), some (.int l1), some (.int l2), some (.int l3), some (.int l4), some (.int l5), some (.int l6), none] [] τ) → PW L (d + 2) m_X11_reckoned (ki K) 26 [some (.ref 49), some (.int l1), some (.int l2), some (.int l3), some (.int l4), some (.int l5), some (.int l6), none] [] σ := by
  intro n
  induction n with
  | zero => intro l1 l2 l3 l4 l5 l6 _ h _; exact h.elim
  | succ n ih =>
    intro l1 l2 l3 l4 l5 l6 σ h hX
    unfold R_X11_reckoned_L26 at h
    refine pw_iload dX11_reckoned_26 rfl ?_
    refine pw_aload_n (i := 0) dX11_reckoned_28 rfl rfl ?_
    refine pw_getI dX11_reckoned_29 fl_X11_91 rfl rfl ?_
    refine pw_icmp_ge (tgt := 111) dX11_reckoned_32 rfl (fun q => ?_) (fun q => ?_)
    · have h := h.1 q
      exact hX _ _ _ _ _ _ _ h
    · have h := h.2 q
      refine pw_iload_n (i := 2) dX11_reckoned_35 rfl rfl ?_
      refine pw_iload dX11_reckoned_36 rfl ?_
      refine pw_ishr dX11_reckoned_38 ?_
      refine pw_iconst (v := 1) dX11_reckoned_39 kc_1 ?_
      refine pw_iand dX11_reckoned_40 ?_
      refine pw_iconst (v := 1) dX11_reckoned_41 kc_1 ?_
      refine pw_icmp_ne (tgt := 105) dX11_reckoned_42 rfl (fun q => ?_) (fun q => ?_)
      · have h := h.1 q
        refine pw_iinc (i := 6) (v := l6 + 1) (ls' := [some (.ref 49), some (.int l1), some (.int l2), some (.int l3), some (.int l4), some (.int l5), some (.int (l6 + 1)), none]) dX11_reckoned_105 rfl (by rw [kc_1]) (Nat.le_of_ble_eq_true rfl) rfl ?_
        refine pw_goto (tgt := 26) dX11_reckoned_108 rfl ?_
        exact ih _ _ _ _ _ _ _ h hX
      · have h := h.2 q
        refine pw_iload_n (i := 3) dX11_reckoned_45 rfl rfl ?_
        refine pw_aload_n (i := 0) dX11_reckoned_46 rfl rfl ?_
        refine pw_getR dX11_reckoned_47 fl_X11_34 rfl rfl ?_
        refine pw_iload dX11_reckoned_50 rfl ?_
        obtain ⟨hb, h⟩ := h
        refine pw_iald dX11_reckoned_52 rfl hb ?_
        refine pw_aload_n (i := 0) dX11_reckoned_53 rfl rfl ?_
        refine pw_getR dX11_reckoned_54 fl_X11_37 rfl rfl ?_
        refine pw_iload dX11_reckoned_57 rfl ?_
        obtain ⟨hb, h⟩ := h
        refine pw_iald dX11_reckoned_59 rfl hb ?_
        refine pw_ior dX11_reckoned_60 ?_
        refine pw_ior dX11_reckoned_61 ?_
        refine pw_istore_n (i := 3) (ls' := [some (.ref 49), some (.int l1), some (.int l2), some (.int (l3 ||| ((σ 58 (Int32.toNatClampNeg l6)) ||| (σ 59 (Int32.toNatClampNeg l6))))), some (.int l4), some (.int l5), some (.int l6), none]) dX11_reckoned_62 rfl (Nat.le_of_ble_eq_true rfl) rfl ?_
        refine pw_iload dX11_reckoned_63 rfl ?_
        refine pw_aload_n (i := 0) dX11_reckoned_65 rfl rfl ?_
        refine pw_getR dX11_reckoned_66 fl_X11_7 rfl rfl ?_
        refine pw_iload dX11_reckoned_69 rfl ?_
        obtain ⟨hb, h⟩ := h
        refine pw_iald dX11_reckoned_71 rfl hb ?_
        refine pw_aload_n (i := 0) dX11_reckoned_72 rfl rfl ?_
        refine pw_getR dX11_reckoned_73 fl_X11_13 rfl rfl ?_
        refine pw_iload dX11_reckoned_76 rfl ?_
        obtain ⟨hb, h⟩ := h
        refine pw_iald dX11_reckoned_78 rfl hb ?_
        refine pw_imul dX11_reckoned_79 ?_
        refine pw_iadd dX11_reckoned_80 ?_
        refine pw_istore (i := 4) (ls' := [some (.ref 49), some (.int l1), some (.int l2), some (.int (l3 ||| ((σ 58 (Int32.toNatClampNeg l6)) ||| (σ 59 (Int32.toNatClampNeg l6))))), some (.int (l4 + ((σ 50 (Int32.toNatClampNeg l6)) * (σ 51 (Int32.toNatClampNeg l6))))), some (.int l5), some (.int l6), none]) dX11_reckoned_81 (Nat.le_of_ble_eq_true rfl) rfl ?_
        refine pw_iload dX11_reckoned_83 rfl ?_
        refine pw_if_eq (tgt := 102) dX11_reckoned_85 rfl (fun q => ?_) (fun q => ?_)
        · have h := h.1 q
          refine pw_iconst (v := 0) dX11_reckoned_102 kc_0 ?_
          refine pw_istore (i := 5) (ls' := [some (.ref 49), some (.int l1), some (.int l2), some (.int (l3 ||| ((σ 58 (Int32.toNatClampNeg l6)) ||| (σ 59 (Int32.toNatClampNeg l6))))), some (.int (l4 + ((σ 50 (Int32.toNatClampNeg l6)) * (σ 51 (Int32.toNatClampNeg l6))))), some (.int 0), some (.int l6), none]) dX11_reckoned_103 (Nat.le_of_ble_eq_true rfl) rfl ?_
          refine pw_iinc (i := 6) (v := l6 + 1) (ls' := [some (.ref 49), some (.int l1), some (.int l2), some (.int (l3 ||| ((σ 58 (Int32.toNatClampNeg l6)) ||| (σ 59 (Int32.toNatClampNeg l6))))), some (.int (l4 + ((σ 50 (Int32.toNatClampNeg l6)) * (σ 51 (Int32.toNatClampNeg l6))))), some (.int 0), some (.int (l6 + 1)), none]) dX11_reckoned_105 rfl (by rw [kc_1]) (Nat.le_of_ble_eq_true rfl) rfl ?_
          refine pw_goto (tgt := 26) dX11_reckoned_108 rfl ?_
          exact ih _ _ _ _ _ _ _ h hX
        · have h := h.2 q
          refine pw_aload_n (i := 0) dX11_reckoned_88 rfl rfl ?_
          refine pw_getR dX11_reckoned_89 fl_X11_13 rfl rfl ?_
          refine pw_iload dX11_reckoned_92 rfl ?_
          obtain ⟨hb, h⟩ := h
          refine pw_iald dX11_reckoned_94 rfl hb ?_
          refine pw_if_le (tgt := 102) dX11_reckoned_95 rfl (fun q => ?_) (fun q => ?_)
          · have h := h.1 q
            refine pw_iconst (v := 0) dX11_reckoned_102 kc_0 ?_
            refine pw_istore (i := 5) (ls' := [some (.ref 49), some (.int l1), some (.int l2), some (.int (l3 ||| ((σ 58 (Int32.toNatClampNeg l6)) ||| (σ 59 (Int32.toNatClampNeg l6))))), some (.int (l4 + ((σ 50 (Int32.toNatClampNeg l6)) * (σ 51 (Int32.toNatClampNeg l6))))), some (.int 0), some (.int l6), none]) dX11_reckoned_103 (Nat.le_of_ble_eq_true rfl) rfl ?_
            refine pw_iinc (i := 6) (v := l6 + 1) (ls' := [some (.ref 49), some (.int l1), some (.int l2), some (.int (l3 ||| ((σ 58 (Int32.toNatClampNeg l6)) ||| (σ 59 (Int32.toNatClampNeg l6))))), some (.int (l4 + ((σ 50 (Int32.toNatClampNeg l6)) * (σ 51 (Int32.toNatClampNeg l6))))), some (.int 0), some (.int (l6 + 1)), none]) dX11_reckoned_105 rfl (by rw [kc_1]) (Nat.le_of_ble_eq_true rfl) rfl ?_
            refine pw_goto (tgt := 26) dX11_reckoned_108 rfl ?_
            exact ih _ _ _ _ _ _ _ h hX
          · have h := h.2 q
            refine pw_iconst (v := 1) dX11_reckoned_98 kc_1 ?_
            refine pw_goto (tgt := 103) dX11_reckoned_99 rfl ?_
            refine pw_istore (i := 5) (ls' := [some (.ref 49), some (.int l1), some (.int l2), some (.int (l3 ||| ((σ 58 (Int32.toNatClampNeg l6)) ||| (σ 59 (Int32.toNatClampNeg l6))))), some (.int (l4 + ((σ 50 (Int32.toNatClampNeg l6)) * (σ 51 (Int32.toNatClampNeg l6))))), some (.int 1), some (.int l6), none]) dX11_reckoned_103 (Nat.le_of_ble_eq_true rfl) rfl ?_
            refine pw_iinc (i := 6) (v := l6 + 1) (ls' := [some (.ref 49), some (.int l1), some (.int l2), some (.int (l3 ||| ((σ 58 (Int32.toNatClampNeg l6)) ||| (σ 59 (Int32.toNatClampNeg l6))))), some (.int (l4 + ((σ 50 (Int32.toNatClampNeg l6)) * (σ 51 (Int32.toNatClampNeg l6))))), some (.int 1), some (.int (l6 + 1)), none]) dX11_reckoned_105 rfl (by rw [kc_1]) (Nat.le_of_ble_eq_true rfl) rfl ?_
            refine pw_goto (tgt := 26) dX11_reckoned_108 rfl ?_
            exact ih _ _ _ _ _ _ _ h hX
set_option maxHeartbeats 4000000 in
theorem c_X11_reckoned {L : pw_Lay} {d : Nat} {a1 : Int32} {σ : pw_Mem} {K : Int32 → pw_Mem → Prop} (h : R_X11_reckoned a1 σ K) : CT L (d + 2) m_X11_reckoned [.ref 49, .int a1] σ (ki K) := by
  refine pw_enter (by decide) rfl (Nat.le_of_ble_eq_true rfl) (ls := [some (.ref 49), some (.int a1), none, none, none, none, none, none]) rfl ?_
  unfold R_X11_reckoned at h
  refine pw_aload_n (i := 0) dX11_reckoned_0 rfl rfl ?_
  refine pw_getR dX11_reckoned_1 fl_X11_43 rfl rfl ?_
  refine pw_iload_n (i := 1) dX11_reckoned_4 rfl rfl ?_
  obtain ⟨hb, h⟩ := h
  refine pw_iald dX11_reckoned_5 rfl hb ?_
  refine pw_istore_n (i := 2) (ls' := [some (.ref 49), some (.int a1), some (.int (σ 61 (Int32.toNatClampNeg a1))), none, none, none, none, none]) dX11_reckoned_6 rfl (Nat.le_of_ble_eq_true rfl) rfl ?_
  refine pw_aload_n (i := 0) dX11_reckoned_7 rfl rfl ?_
  refine pw_iload_n (i := 1) dX11_reckoned_8 rfl rfl ?_
  refine pw_cVi [.int a1] dX11_reckoned_9 mv_X11_136 rfl rfl rfl (Nat.le_of_ble_eq_true rfl) (c_X11_isRing h) (fun x2 τ1 h => ?_)
  refine pw_if_eq (tgt := 157) dX11_reckoned_12 rfl (fun q => ?_) (fun q => ?_)
  · have h := h.1 q
    refine pw_iconst (v := 0) dX11_reckoned_157 kc_0 ?_
    refine pw_istore_n (i := 3) (ls' := [some (.ref 49), some (.int a1), some (.int (σ 61 (Int32.toNatClampNeg a1))), some (.int 0), none, none, none, none]) dX11_reckoned_158 rfl (Nat.le_of_ble_eq_true rfl) rfl ?_
    refine pw_iconst (v := 1) dX11_reckoned_159 kc_1 ?_
    refine pw_istore (i := 4) (ls' := [some (.ref 49), some (.int a1), some (.int (σ 61 (Int32.toNatClampNeg a1))), some (.int 0), some (.int 1), none, none, none]) dX11_reckoned_160 (Nat.le_of_ble_eq_true rfl) rfl ?_
    refine pw_iconst (v := 1) dX11_reckoned_162 kc_1 ?_
    refine pw_istore (i := 5) (ls' := [some (.ref 49), some (.int a1), some (.int (σ 61 (Int32.toNatClampNeg a1))), some (.int 0), some (.int 1), some (.int 1), none, none]) dX11_reckoned_163 (Nat.le_of_ble_eq_true rfl) rfl ?_
    refine pw_iconst (v := 0) dX11_reckoned_165 kc_0 ?_
    refine pw_istore (i := 6) (ls' := [some (.ref 49), some (.int a1), some (.int (σ 61 (Int32.toNatClampNeg a1))), some (.int 0), some (.int 1), some (.int 1), some (.int 0), none]) dX11_reckoned_166 (Nat.le_of_ble_eq_true rfl) rfl ?_
    obtain ⟨n12, h⟩ := h
    refine t_X11_reckoned_L168 _ _ _ _ _ _ _ _ h (fun y5 y6 y7 y8 y9 y10 τ11 h => ?_)
    refine pw_iload dX11_reckoned_252 rfl ?_
    refine pw_if_ne (tgt := 262) dX11_reckoned_254 rfl (fun q => ?_) (fun q => ?_)
    · have h := h.1 q
      refine pw_iload dX11_reckoned_262 rfl ?_
      refine pw_if_eq (tgt := 271) dX11_reckoned_264 rfl (fun q => ?_) (fun q => ?_)
      · have h := h.1 q
        refine pw_bipush (v := (-5)) dX11_reckoned_271 kb_m5 ?_
        exact pw_ret dX11_reckoned_273 rfl rfl ⟨_, rfl, h⟩
      · have h := h.2 q
        refine pw_iload_n (i := 3) dX11_reckoned_267 rfl rfl ?_
        refine pw_goto (tgt := 273) dX11_reckoned_268 rfl ?_
        exact pw_ret dX11_reckoned_273 rfl rfl ⟨_, rfl, h⟩
    · have h := h.2 q
      refine pw_bipush (v := (-4)) dX11_reckoned_257 kb_m4 ?_
      refine pw_goto (tgt := 273) dX11_reckoned_259 rfl ?_
      exact pw_ret dX11_reckoned_273 rfl rfl ⟨_, rfl, h⟩
  · have h := h.2 q
    refine pw_iconst (v := 0) dX11_reckoned_15 kc_0 ?_
    refine pw_istore_n (i := 3) (ls' := [some (.ref 49), some (.int a1), some (.int (σ 61 (Int32.toNatClampNeg a1))), some (.int 0), none, none, none, none]) dX11_reckoned_16 rfl (Nat.le_of_ble_eq_true rfl) rfl ?_
    refine pw_iconst (v := 0) dX11_reckoned_17 kc_0 ?_
    refine pw_istore (i := 4) (ls' := [some (.ref 49), some (.int a1), some (.int (σ 61 (Int32.toNatClampNeg a1))), some (.int 0), some (.int 0), none, none, none]) dX11_reckoned_18 (Nat.le_of_ble_eq_true rfl) rfl ?_
    refine pw_iconst (v := 1) dX11_reckoned_20 kc_1 ?_
    refine pw_istore (i := 5) (ls' := [some (.ref 49), some (.int a1), some (.int (σ 61 (Int32.toNatClampNeg a1))), some (.int 0), some (.int 0), some (.int 1), none, none]) dX11_reckoned_21 (Nat.le_of_ble_eq_true rfl) rfl ?_
    refine pw_iconst (v := 0) dX11_reckoned_23 kc_0 ?_
    refine pw_istore (i := 6) (ls' := [some (.ref 49), some (.int a1), some (.int (σ 61 (Int32.toNatClampNeg a1))), some (.int 0), some (.int 0), some (.int 1), some (.int 0), none]) dX11_reckoned_24 (Nat.le_of_ble_eq_true rfl) rfl ?_
    obtain ⟨n22, h⟩ := h
    refine t_X11_reckoned_L26 _ _ _ _ _ _ _ _ h (fun y13 y14 y15 y16 y17 y18 τ19 h => ?_)
    refine pw_aload_n (i := 0) dX11_reckoned_111 rfl rfl ?_
    refine pw_iload_n (i := 3) dX11_reckoned_112 rfl rfl ?_
    refine pw_iload_n (i := 2) dX11_reckoned_113 rfl rfl ?_
    refine pw_iconst (v := (-1)) dX11_reckoned_114 kc_m1 ?_
    refine pw_ixor dX11_reckoned_115 ?_
    refine pw_iand dX11_reckoned_116 ?_
    refine pw_cVi [.int (y15 &&& (y14 ^^^ (-1)))] dX11_reckoned_117 mv_X11_146 rfl rfl rfl (Nat.le_of_ble_eq_true rfl) (c_X11_greatest h) (fun x21 τ20 h => ?_)
    refine pw_istore (i := 6) (ls' := [some (.ref 49), some (.int y13), some (.int y14), some (.int y15), some (.int y16), some (.int y17), some (.int x21), none]) dX11_reckoned_120 (Nat.le_of_ble_eq_true rfl) rfl ?_
    refine pw_iload dX11_reckoned_122 rfl ?_
    refine pw_bipush (v := (-4)) dX11_reckoned_124 kb_m4 ?_
    refine pw_icmp_ne (tgt := 134) dX11_reckoned_126 rfl (fun q => ?_) (fun q => ?_)
    · have h := h.1 q
      refine pw_iload dX11_reckoned_134 rfl ?_
      refine pw_if_eq (tgt := 146) dX11_reckoned_136 rfl (fun q => ?_) (fun q => ?_)
      · have h := h.1 q
        refine pw_bipush (v := (-5)) dX11_reckoned_146 kb_m5 ?_
        refine pw_goto (tgt := 156) dX11_reckoned_148 rfl ?_
        exact pw_ret dX11_reckoned_156 rfl rfl ⟨_, rfl, h⟩
      · have h := h.2 q
        refine pw_iload dX11_reckoned_139 rfl ?_
        refine pw_bipush (v := (-5)) dX11_reckoned_141 kb_m5 ?_
        refine pw_icmp_ne (tgt := 151) dX11_reckoned_143 rfl (fun q => ?_) (fun q => ?_)
        · have h := h.1 q
          refine pw_iload dX11_reckoned_151 rfl ?_
          refine pw_iload dX11_reckoned_153 rfl ?_
          refine pw_iadd dX11_reckoned_155 ?_
          exact pw_ret dX11_reckoned_156 rfl rfl ⟨_, rfl, h⟩
        · have h := h.2 q
          refine pw_bipush (v := (-5)) dX11_reckoned_146 kb_m5 ?_
          refine pw_goto (tgt := 156) dX11_reckoned_148 rfl ?_
          exact pw_ret dX11_reckoned_156 rfl rfl ⟨_, rfl, h⟩
    · have h := h.2 q
      refine pw_bipush (v := (-4)) dX11_reckoned_129 kb_m4 ?_
      refine pw_goto (tgt := 156) dX11_reckoned_131 rfl ?_
      exact pw_ret dX11_reckoned_156 rfl rfl ⟨_, rfl, h⟩
/-! X11_layDepths -/
def R_X11_layDepths_L6 (K : pw_Mem → Prop) (KX : Int32 → pw_Mem → Prop) : Nat → Int32 → pw_Mem → Prop
  | 0, _, _ => False
  | n + 1, l1, σ => ((20 ≤ l1 → KX l1 σ) ∧ (¬ 20 ≤ l1 → vp_in l1 20 ∧ ∀ τ2, τ2 = pw_up σ 62 (Int32.toNatClampNeg l1) (-4) → R_X11_layDepths_L6 K KX n (l1 + 1) τ2))
def R_X11_layDepths_L38 (K : pw_Mem → Prop) (KX : Int32 → Int32 → pw_Mem → Prop) : Nat → Int32 → Int32 → pw_Mem → Prop
  | 0, _, _, _ => False
  | n + 1, l1, l2, σ => (((σ 49 0) ≤ l2 → KX l1 l2 σ) ∧ (¬ (σ 49 0) ≤ l2 → vp_in l2 20 ∧ ((¬ (σ 62 (Int32.toNatClampNeg l2)) = (-4) → vp_in l2 20 ∧ vp_in l2 20 ∧ ∀ τ5, τ5 = pw_up σ 62 (Int32.toNatClampNeg l2) (σ 62 (Int32.toNatClampNeg l2)) → R_X11_layDepths_L38 K KX n l1 (l2 + 1) τ5) ∧ ((σ 62 (Int32.toNatClampNeg l2)) = (-4) → R_X11_reckoned l2 σ (fun x7 τ6 => vp_in l2 20 ∧ ∀ τ8, τ8 = pw_up τ6 62 (Int32.toNatClampNeg l2) x7 → R_X11_layDepths_L38 K KX n l1 (l2 + 1) τ8)))))
def R_X11_layDepths_L28 (K : pw_Mem → Prop) (KX : Int32 → pw_Mem → Prop) : Nat → Int32 → pw_Mem → Prop
  | 0, _, _ => False
  | n + 1, l1, σ => (((σ 49 0) ≤ l1 → KX l1 σ) ∧ (¬ (σ 49 0) ≤ l1 → ∃ n12, R_X11_layDepths_L38 K (fun y9 y10 τ11 => R_X11_layDepths_L28 K KX n (y9 + 1) τ11) n12 l1 0 σ))
def R_X11_layDepths  (σ : pw_Mem) (K : pw_Mem → Prop) : Prop := R_X11_layNet  σ (fun τ1 => ∃ n16, R_X11_layDepths_L6 K (fun y3 τ4 => ∃ n15, R_X11_layDepths_L28 K (fun y13 τ14 => K τ14) n15 0 τ4) n16 0 τ1)
set_option maxHeartbeats 4000000 in
theorem t_X11_layDepths_L6 {L : pw_Lay} {d : Nat} {K : pw_Mem → Prop} {KX : Int32 → pw_Mem → Prop} : ∀ (n : Nat) (l1 : Int32) (σ : pw_Mem), R_X11_layDepths_L6 K KX n l1 σ → (∀ (l1 : Int32) (τ : pw_Mem), KX l1 τ → PW L (d + 3) m_X11_layDepths (kv K) 26 [some (.ref 49), some (.int l1), none] [] τ) → PW L (d + 3) m_X11_layDepths (kv K) 6 [some (.ref 49), some (.int l1), none] [] σ := by
  intro n
  induction n with
  | zero => intro l1 _ h _; exact h.elim
  | succ n ih =>
    intro l1 σ h hX
    unfold R_X11_layDepths_L6 at h
    refine pw_iload_n (i := 1) dX11_layDepths_6 rfl rfl ?_
    refine pw_bipush (v := 20) dX11_layDepths_7 kb_20 ?_
    refine pw_icmp_ge (tgt := 26) dX11_layDepths_9 rfl (fun q => ?_) (fun q => ?_)
    · have h := h.1 q
      exact hX _ _ h
    · have h := h.2 q
      refine pw_aload_n (i := 0) dX11_layDepths_12 rfl rfl ?_
      refine pw_getR dX11_layDepths_13 fl_X11_46 rfl rfl ?_
      refine pw_iload_n (i := 1) dX11_layDepths_16 rfl rfl ?_
      refine pw_bipush (v := (-4)) dX11_layDepths_17 kb_m4 ?_
      obtain ⟨hb, h⟩ := h
      refine pw_iast dX11_layDepths_19 rfl hb ?_
      generalize hτ2 : pw_up σ 62 (Int32.toNatClampNeg l1) (-4) = τ2
      have h := h τ2 hτ2.symm
      refine pw_iinc (i := 1) (v := l1 + 1) (ls' := [some (.ref 49), some (.int (l1 + 1)), none]) dX11_layDepths_20 rfl (by rw [kc_1]) (Nat.le_of_ble_eq_true rfl) rfl ?_
      refine pw_goto (tgt := 6) dX11_layDepths_23 rfl ?_
      exact ih _ _ h hX
set_option maxHeartbeats 4000000 in
theorem t_X11_layDepths_L38 {L : pw_Lay} {d : Nat} {K : pw_Mem → Prop} {KX : Int32 → Int32 → pw_Mem → Prop} : ∀ (n : Nat) (l1 : Int32) (l2 : Int32) (σ : pw_Mem), R_X11_layDepths_L38 K KX n l1 l2 σ → (∀ (l1 : Int32) (l2 : Int32) (τ : pw_Mem), KX l1 l2 τ → PW L (d + 3) m_X11_layDepths (kv K) 83 [some (.ref 49), some (.int l1), some (.int l2)] [] τ) → PW L (d + 3) m_X11_layDepths (kv K) 38 [some (.ref 49), some (.int l1), some (.int l2)] [] σ := by
  intro n
  induction n with
  | zero => intro l1 l2 _ h _; exact h.elim
  | succ n ih =>
    intro l1 l2 σ h hX
    unfold R_X11_layDepths_L38 at h
    refine pw_iload_n (i := 2) dX11_layDepths_38 rfl rfl ?_
    refine pw_aload_n (i := 0) dX11_layDepths_39 rfl rfl ?_
    refine pw_getI dX11_layDepths_40 fl_X11_91 rfl rfl ?_
    refine pw_icmp_ge (tgt := 83) dX11_layDepths_43 rfl (fun q => ?_) (fun q => ?_)
    · have h := h.1 q
      exact hX _ _ _ h
    · have h := h.2 q
      refine pw_aload_n (i := 0) dX11_layDepths_46 rfl rfl ?_
      refine pw_getR dX11_layDepths_47 fl_X11_46 rfl rfl ?_
      refine pw_iload_n (i := 2) dX11_layDepths_50 rfl rfl ?_
      refine pw_aload_n (i := 0) dX11_layDepths_51 rfl rfl ?_
      refine pw_getR dX11_layDepths_52 fl_X11_46 rfl rfl ?_
      refine pw_iload_n (i := 2) dX11_layDepths_55 rfl rfl ?_
      obtain ⟨hb, h⟩ := h
      refine pw_iald dX11_layDepths_56 rfl hb ?_
      refine pw_bipush (v := (-4)) dX11_layDepths_57 kb_m4 ?_
      refine pw_icmp_ne (tgt := 70) dX11_layDepths_59 rfl (fun q => ?_) (fun q => ?_)
      · have h := h.1 q
        refine pw_aload_n (i := 0) dX11_layDepths_70 rfl rfl ?_
        refine pw_getR dX11_layDepths_71 fl_X11_46 rfl rfl ?_
        refine pw_iload_n (i := 2) dX11_layDepths_74 rfl rfl ?_
        obtain ⟨hb, h⟩ := h
        refine pw_iald dX11_layDepths_75 rfl hb ?_
        obtain ⟨hb, h⟩ := h
        refine pw_iast dX11_layDepths_76 rfl hb ?_
        generalize hτ5 : pw_up σ 62 (Int32.toNatClampNeg l2) (σ 62 (Int32.toNatClampNeg l2)) = τ5
        have h := h τ5 hτ5.symm
        refine pw_iinc (i := 2) (v := l2 + 1) (ls' := [some (.ref 49), some (.int l1), some (.int (l2 + 1))]) dX11_layDepths_77 rfl (by rw [kc_1]) (Nat.le_of_ble_eq_true rfl) rfl ?_
        refine pw_goto (tgt := 38) dX11_layDepths_80 rfl ?_
        exact ih _ _ _ h hX
      · have h := h.2 q
        refine pw_aload_n (i := 0) dX11_layDepths_62 rfl rfl ?_
        refine pw_iload_n (i := 2) dX11_layDepths_63 rfl rfl ?_
        refine pw_cVi [.int l2] dX11_layDepths_64 mv_X11_152 rfl rfl rfl (Nat.le_of_ble_eq_true rfl) (c_X11_reckoned h) (fun x7 τ6 h => ?_)
        refine pw_goto (tgt := 76) dX11_layDepths_67 rfl ?_
        obtain ⟨hb, h⟩ := h
        refine pw_iast dX11_layDepths_76 rfl hb ?_
        generalize hτ8 : pw_up τ6 62 (Int32.toNatClampNeg l2) x7 = τ8
        have h := h τ8 hτ8.symm
        refine pw_iinc (i := 2) (v := l2 + 1) (ls' := [some (.ref 49), some (.int l1), some (.int (l2 + 1))]) dX11_layDepths_77 rfl (by rw [kc_1]) (Nat.le_of_ble_eq_true rfl) rfl ?_
        refine pw_goto (tgt := 38) dX11_layDepths_80 rfl ?_
        exact ih _ _ _ h hX
set_option maxHeartbeats 4000000 in
theorem t_X11_layDepths_L28 {L : pw_Lay} {d : Nat} {K : pw_Mem → Prop} {KX : Int32 → pw_Mem → Prop} : ∀ (n : Nat) (l1 : Int32) (σ : pw_Mem), R_X11_layDepths_L28 K KX n l1 σ → (∀ (l1 : Int32) (τ : pw_Mem), KX l1 τ → PW L (d + 3) m_X11_layDepths (kv K) 89 [some (.ref 49), some (.int l1), none] [] τ) → PW L (d + 3) m_X11_layDepths (kv K) 28 [some (.ref 49), some (.int l1), none] [] σ := by
  intro n
  induction n with
  | zero => intro l1 _ h _; exact h.elim
  | succ n ih =>
    intro l1 σ h hX
    unfold R_X11_layDepths_L28 at h
    refine pw_iload_n (i := 1) dX11_layDepths_28 rfl rfl ?_
    refine pw_aload_n (i := 0) dX11_layDepths_29 rfl rfl ?_
    refine pw_getI dX11_layDepths_30 fl_X11_91 rfl rfl ?_
    refine pw_icmp_ge (tgt := 89) dX11_layDepths_33 rfl (fun q => ?_) (fun q => ?_)
    · have h := h.1 q
      exact hX _ _ h
    · have h := h.2 q
      refine pw_iconst (v := 0) dX11_layDepths_36 kc_0 ?_
      refine pw_istore_n (i := 2) (ls' := [some (.ref 49), some (.int l1), some (.int 0)]) dX11_layDepths_37 rfl (Nat.le_of_ble_eq_true rfl) rfl ?_
      obtain ⟨n12, h⟩ := h
      refine t_X11_layDepths_L38 _ _ _ _ h (fun y9 y10 τ11 h => ?_)
      refine pw_iinc (i := 1) (v := y9 + 1) (ls' := [some (.ref 49), some (.int (y9 + 1)), some (.int y10)]) dX11_layDepths_83 rfl (by rw [kc_1]) (Nat.le_of_ble_eq_true rfl) rfl ?_
      refine pw_goto (tgt := 28) dX11_layDepths_86 rfl ?_
      refine pw_forget (ls' := [some (.ref 49), some (.int (y9 + 1)), none]) (And.intro rfl (And.intro rfl trivial)) ?_
      exact ih _ _ h hX
set_option maxHeartbeats 4000000 in
theorem c_X11_layDepths {L : pw_Lay} {d : Nat}  {σ : pw_Mem} {K : pw_Mem → Prop} (h : R_X11_layDepths  σ K) : CT L (d + 3) m_X11_layDepths [.ref 49] σ (kv K) := by
  refine pw_enter (by decide) rfl (Nat.le_of_ble_eq_true rfl) (ls := [some (.ref 49), none, none]) rfl ?_
  unfold R_X11_layDepths at h
  refine pw_aload_n (i := 0) dX11_layDepths_0 rfl rfl ?_
  refine pw_cVv [] dX11_layDepths_1 mv_X11_133 rfl rfl rfl (Nat.le_of_ble_eq_true rfl) (c_X11_layNet h) (fun τ1 h => ?_)
  refine pw_iconst (v := 0) dX11_layDepths_4 kc_0 ?_
  refine pw_istore_n (i := 1) (ls' := [some (.ref 49), some (.int 0), none]) dX11_layDepths_5 rfl (Nat.le_of_ble_eq_true rfl) rfl ?_
  obtain ⟨n16, h⟩ := h
  refine t_X11_layDepths_L6 _ _ _ h (fun y3 τ4 h => ?_)
  refine pw_iconst (v := 0) dX11_layDepths_26 kc_0 ?_
  refine pw_istore_n (i := 1) (ls' := [some (.ref 49), some (.int 0), none]) dX11_layDepths_27 rfl (Nat.le_of_ble_eq_true rfl) rfl ?_
  obtain ⟨n15, h⟩ := h
  refine t_X11_layDepths_L28 _ _ _ h (fun y13 τ14 h => ?_)
  exact pw_vret dX11_layDepths_89 rfl ⟨rfl, h⟩
/-! X11_depth -/
def R_X11_depth (a1 : Int32) (σ : pw_Mem) (K : Int32 → pw_Mem → Prop) : Prop := R_X11_is a1 σ (fun x2 τ1 => ((¬ x2 = 0 → R_X11_layDepths  τ1 (fun τ3 => vp_in a1 20 ∧ K (τ3 62 (Int32.toNatClampNeg a1)) τ3)) ∧ (x2 = 0 → K (-1) τ1)))
set_option maxHeartbeats 4000000 in
theorem c_X11_depth {L : pw_Lay} {d : Nat} {a1 : Int32} {σ : pw_Mem} {K : Int32 → pw_Mem → Prop} (h : R_X11_depth a1 σ K) : CT L (d + 4) m_X11_depth [.ref 49, .int a1] σ (ki K) := by
  refine pw_enter (by decide) rfl (Nat.le_of_ble_eq_true rfl) (ls := [some (.ref 49), some (.int a1)]) rfl ?_
  unfold R_X11_depth at h
  refine pw_aload_n (i := 0) dX11_depth_0 rfl rfl ?_
  refine pw_iload_n (i := 1) dX11_depth_1 rfl rfl ?_
  refine pw_cVi [.int a1] dX11_depth_2 mv_X11_103 rfl rfl rfl (Nat.le_of_ble_eq_true rfl) (c_X11_is h) (fun x2 τ1 h => ?_)
  refine pw_if_ne (tgt := 10) dX11_depth_5 rfl (fun q => ?_) (fun q => ?_)
  · have h := h.1 q
    refine pw_aload_n (i := 0) dX11_depth_10 rfl rfl ?_
    refine pw_cVv [] dX11_depth_11 mv_X11_155 rfl rfl rfl (Nat.le_of_ble_eq_true rfl) (c_X11_layDepths h) (fun τ3 h => ?_)
    refine pw_aload_n (i := 0) dX11_depth_14 rfl rfl ?_
    refine pw_getR dX11_depth_15 fl_X11_46 rfl rfl ?_
    refine pw_iload_n (i := 1) dX11_depth_18 rfl rfl ?_
    obtain ⟨hb, h⟩ := h
    refine pw_iald dX11_depth_19 rfl hb ?_
    exact pw_ret dX11_depth_20 rfl rfl ⟨_, rfl, h⟩
  · have h := h.2 q
    refine pw_iconst (v := (-1)) dX11_depth_8 kc_m1 ?_
    exact pw_ret dX11_depth_9 rfl rfl ⟨_, rfl, h⟩
/-! X11_reachesRing -/
def R_X11_reachesRing_L8 (K : Int32 → pw_Mem → Prop) (KX : Int32 → Int32 → Int32 → pw_Mem → Prop) : Nat → Int32 → Int32 → Int32 → pw_Mem → Prop
  | 0, _, _, _, _ => False
  | n + 1, l1, l2, l3, σ => (((σ 49 0) ≤ l3 → KX l1 l2 l3 σ) ∧ (¬ (σ 49 0) ≤ l3 → ((¬ l2 = 0 → R_X11_reachesRing_L8 K KX n l1 1 (l3 + 1) σ) ∧ (l2 = 0 → vp_in l1 20 ∧ ((¬ (((σ 60 (Int32.toNatClampNeg l1)) >>> (l3 &&& 31)) &&& 1) = 1 → R_X11_reachesRing_L8 K KX n l1 0 (l3 + 1) σ) ∧ ((((σ 60 (Int32.toNatClampNeg l1)) >>> (l3 &&& 31)) &&& 1) = 1 → R_X11_isRing l3 σ (fun x4 τ3 => ((x4 = 0 → R_X11_reachesRing_L8 K KX n l1 0 (l3 + 1) τ3) ∧ (¬ x4 = 0 → R_X11_reachesRing_L8 K KX n l1 1 (l3 + 1) τ3)))))))))
def R_X11_reachesRing (a1 : Int32) (σ : pw_Mem) (K : Int32 → pw_Mem → Prop) : Prop := R_X11_isRing a1 σ (fun x2 τ1 => ∃ n9, R_X11_reachesRing_L8 K (fun y5 y6 y7 τ8 => narrow .boolean (.int y6) = .int y6 ∧ K y6 τ8) n9 a1 x2 0 τ1)
set_option maxHeartbeats 4000000 in
theorem t_X11_reachesRing_L8 {L : pw_Lay} {d : Nat} {K : Int32 → pw_Mem → Prop} {KX : Int32 → Int32 → Int32 → pw_Mem → Prop} : ∀ (n : Nat) (l1 : Int32) (l2 : Int32) (l3 : Int32) (σ : pw_Mem), R_X11_reachesRing_L8 K KX n l1 l2 l3 σ → (∀ (l1 : Int32) (l2 : Int32) (l3 : Int32) (τ : pw_Mem), KX l1 l2 l3 τ → PW L (d + 1) m_X11_reachesRing (ki K) 54 [some (.ref 49), some (.int l1), some (.int l2), some (.int l3)] [] τ) → PW L (d + 1) m_X11_reachesRing (ki K) 8 [some (.ref 49), some (.int l1), some (.int l2), some (.int l3)] [] σ := by
  intro n
  induction n with
  | zero => intro l1 l2 l3 _ h _; exact h.elim
  | succ n ih =>
    intro l1 l2 l3 σ h hX
    unfold R_X11_reachesRing_L8 at h
    refine pw_iload_n (i := 3) dX11_reachesRing_8 rfl rfl ?_
    refine pw_aload_n (i := 0) dX11_reachesRing_9 rfl rfl ?_
    refine pw_getI dX11_reachesRing_10 fl_X11_91 rfl rfl ?_
    refine pw_icmp_ge (tgt := 54) dX11_reachesRing_13 rfl (fun q => ?_) (fun q => ?_)
    · have h := h.1 q
      exact hX _ _ _ _ h
    · have h := h.2 q
      refine pw_iload_n (i := 2) dX11_reachesRing_16 rfl rfl ?_
      refine pw_if_ne (tgt := 42) dX11_reachesRing_17 rfl (fun q => ?_) (fun q => ?_)
      · have h := h.1 q
        refine pw_iconst (v := 1) dX11_reachesRing_42 kc_1 ?_
        refine pw_goto (tgt := 47) dX11_reachesRing_43 rfl ?_
        refine pw_istore_n (i := 2) (ls' := [some (.ref 49), some (.int l1), some (.int 1), some (.int l3)]) dX11_reachesRing_47 rfl (Nat.le_of_ble_eq_true rfl) rfl ?_
        refine pw_iinc (i := 3) (v := l3 + 1) (ls' := [some (.ref 49), some (.int l1), some (.int 1), some (.int (l3 + 1))]) dX11_reachesRing_48 rfl (by rw [kc_1]) (Nat.le_of_ble_eq_true rfl) rfl ?_
        refine pw_goto (tgt := 8) dX11_reachesRing_51 rfl ?_
        exact ih _ _ _ _ h hX
      · have h := h.2 q
        refine pw_aload_n (i := 0) dX11_reachesRing_20 rfl rfl ?_
        refine pw_getR dX11_reachesRing_21 fl_X11_40 rfl rfl ?_
        refine pw_iload_n (i := 1) dX11_reachesRing_24 rfl rfl ?_
        obtain ⟨hb, h⟩ := h
        refine pw_iald dX11_reachesRing_25 rfl hb ?_
        refine pw_iload_n (i := 3) dX11_reachesRing_26 rfl rfl ?_
        refine pw_ishr dX11_reachesRing_27 ?_
        refine pw_iconst (v := 1) dX11_reachesRing_28 kc_1 ?_
        refine pw_iand dX11_reachesRing_29 ?_
        refine pw_iconst (v := 1) dX11_reachesRing_30 kc_1 ?_
        refine pw_icmp_ne (tgt := 46) dX11_reachesRing_31 rfl (fun q => ?_) (fun q => ?_)
        · have h := h.1 q
          refine pw_iconst (v := 0) dX11_reachesRing_46 kc_0 ?_
          refine pw_istore_n (i := 2) (ls' := [some (.ref 49), some (.int l1), some (.int 0), some (.int l3)]) dX11_reachesRing_47 rfl (Nat.le_of_ble_eq_true rfl) rfl ?_
          refine pw_iinc (i := 3) (v := l3 + 1) (ls' := [some (.ref 49), some (.int l1), some (.int 0), some (.int (l3 + 1))]) dX11_reachesRing_48 rfl (by rw [kc_1]) (Nat.le_of_ble_eq_true rfl) rfl ?_
          refine pw_goto (tgt := 8) dX11_reachesRing_51 rfl ?_
          exact ih _ _ _ _ h hX
        · have h := h.2 q
          refine pw_aload_n (i := 0) dX11_reachesRing_34 rfl rfl ?_
          refine pw_iload_n (i := 3) dX11_reachesRing_35 rfl rfl ?_
          refine pw_cVi [.int l3] dX11_reachesRing_36 mv_X11_136 rfl rfl rfl (Nat.le_of_ble_eq_true rfl) (c_X11_isRing h) (fun x4 τ3 h => ?_)
          refine pw_if_eq (tgt := 46) dX11_reachesRing_39 rfl (fun q => ?_) (fun q => ?_)
          · have h := h.1 q
            refine pw_iconst (v := 0) dX11_reachesRing_46 kc_0 ?_
            refine pw_istore_n (i := 2) (ls' := [some (.ref 49), some (.int l1), some (.int 0), some (.int l3)]) dX11_reachesRing_47 rfl (Nat.le_of_ble_eq_true rfl) rfl ?_
            refine pw_iinc (i := 3) (v := l3 + 1) (ls' := [some (.ref 49), some (.int l1), some (.int 0), some (.int (l3 + 1))]) dX11_reachesRing_48 rfl (by rw [kc_1]) (Nat.le_of_ble_eq_true rfl) rfl ?_
            refine pw_goto (tgt := 8) dX11_reachesRing_51 rfl ?_
            exact ih _ _ _ _ h hX
          · have h := h.2 q
            refine pw_iconst (v := 1) dX11_reachesRing_42 kc_1 ?_
            refine pw_goto (tgt := 47) dX11_reachesRing_43 rfl ?_
            refine pw_istore_n (i := 2) (ls' := [some (.ref 49), some (.int l1), some (.int 1), some (.int l3)]) dX11_reachesRing_47 rfl (Nat.le_of_ble_eq_true rfl) rfl ?_
            refine pw_iinc (i := 3) (v := l3 + 1) (ls' := [some (.ref 49), some (.int l1), some (.int 1), some (.int (l3 + 1))]) dX11_reachesRing_48 rfl (by rw [kc_1]) (Nat.le_of_ble_eq_true rfl) rfl ?_
            refine pw_goto (tgt := 8) dX11_reachesRing_51 rfl ?_
            exact ih _ _ _ _ h hX
set_option maxHeartbeats 4000000 in
theorem c_X11_reachesRing {L : pw_Lay} {d : Nat} {a1 : Int32} {σ : pw_Mem} {K : Int32 → pw_Mem → Prop} (h : R_X11_reachesRing a1 σ K) : CT L (d + 1) m_X11_reachesRing [.ref 49, .int a1] σ (ki K) := by
  refine pw_enter (by decide) rfl (Nat.le_of_ble_eq_true rfl) (ls := [some (.ref 49), some (.int a1), none, none]) rfl ?_
  unfold R_X11_reachesRing at h
  refine pw_aload_n (i := 0) dX11_reachesRing_0 rfl rfl ?_
  refine pw_iload_n (i := 1) dX11_reachesRing_1 rfl rfl ?_
  refine pw_cVi [.int a1] dX11_reachesRing_2 mv_X11_136 rfl rfl rfl (Nat.le_of_ble_eq_true rfl) (c_X11_isRing h) (fun x2 τ1 h => ?_)
  refine pw_istore_n (i := 2) (ls' := [some (.ref 49), some (.int a1), some (.int x2), none]) dX11_reachesRing_5 rfl (Nat.le_of_ble_eq_true rfl) rfl ?_
  refine pw_iconst (v := 0) dX11_reachesRing_6 kc_0 ?_
  refine pw_istore_n (i := 3) (ls' := [some (.ref 49), some (.int a1), some (.int x2), some (.int 0)]) dX11_reachesRing_7 rfl (Nat.le_of_ble_eq_true rfl) rfl ?_
  obtain ⟨n9, h⟩ := h
  refine t_X11_reachesRing_L8 _ _ _ _ _ h (fun y5 y6 y7 τ8 h => ?_)
  refine pw_iload_n (i := 2) dX11_reachesRing_54 rfl rfl ?_
  obtain ⟨hn, h⟩ := h
  exact pw_ret dX11_reachesRing_55 rfl hn ⟨_, rfl, h⟩
/-! X11_nextOf -/
def R_X11_nextOf_L62 (K : Int32 → pw_Mem → Prop) (KX : Int32 → Int32 → pw_Mem → Prop) : Nat → Int32 → Int32 → pw_Mem → Prop
  | 0, _, _, _ => False
  | n + 1, l1, l2, σ => (((σ 49 0) ≤ l2 → KX l1 l2 σ) ∧ (¬ (σ 49 0) ≤ l2 → vp_in l1 20 ∧ ((¬ (((σ 58 (Int32.toNatClampNeg l1)) >>> (l2 &&& 31)) &&& 1) = 1 → R_X11_nextOf_L62 K KX n l1 (l2 + 1) σ) ∧ ((((σ 58 (Int32.toNatClampNeg l1)) >>> (l2 &&& 31)) &&& 1) = 1 → vp_in l1 20 ∧ vp_in l2 20 ∧ vp_in l1 20 ∧ ((¬ ((σ 50 (Int32.toNatClampNeg l1)) + (σ 62 (Int32.toNatClampNeg l2))) = (σ 62 (Int32.toNatClampNeg l1)) → R_X11_nextOf_L62 K KX n l1 (l2 + 1) σ) ∧ (((σ 50 (Int32.toNatClampNeg l1)) + (σ 62 (Int32.toNatClampNeg l2))) = (σ 62 (Int32.toNatClampNeg l1)) → K l2 σ))))))
def R_X11_nextOf_L116 (K : Int32 → pw_Mem → Prop) (KX : Int32 → Int32 → pw_Mem → Prop) : Nat → Int32 → Int32 → pw_Mem → Prop
  | 0, _, _, _ => False
  | n + 1, l1, l2, σ => (((σ 49 0) ≤ l2 → KX l1 l2 σ) ∧ (¬ (σ 49 0) ≤ l2 → vp_in l1 20 ∧ vp_in l1 20 ∧ ((¬ ((((σ 59 (Int32.toNatClampNeg l1)) &&& ((σ 61 (Int32.toNatClampNeg l1)) ^^^ (-1))) >>> (l2 &&& 31)) &&& 1) = 1 → R_X11_nextOf_L116 K KX n l1 (l2 + 1) σ) ∧ (((((σ 59 (Int32.toNatClampNeg l1)) &&& ((σ 61 (Int32.toNatClampNeg l1)) ^^^ (-1))) >>> (l2 &&& 31)) &&& 1) = 1 → vp_in l2 20 ∧ vp_in l1 20 ∧ ((¬ (σ 62 (Int32.toNatClampNeg l2)) = (σ 62 (Int32.toNatClampNeg l1)) → R_X11_nextOf_L116 K KX n l1 (l2 + 1) σ) ∧ ((σ 62 (Int32.toNatClampNeg l2)) = (σ 62 (Int32.toNatClampNeg l1)) → K l2 σ))))))
def R_X11_nextOf_L16 (K : Int32 → pw_Mem → Prop) (KX : Int32 → Int32 → pw_Mem → Prop) : Nat → Int32 → Int32 → pw_Mem → Prop
  | 0, _, _, _ => False
  | n + 1, l1, l2, σ => (((σ 49 0) ≤ l2 → KX l1 l2 σ) ∧ (¬ (σ 49 0) ≤ l2 → vp_in l1 20 ∧ ((¬ (((σ 61 (Int32.toNatClampNeg l1)) >>> (l2 &&& 31)) &&& 1) = 1 → R_X11_nextOf_L16 K KX n l1 (l2 + 1) σ) ∧ ((((σ 61 (Int32.toNatClampNeg l1)) >>> (l2 &&& 31)) &&& 1) = 1 → R_X11_own l2 σ (fun x12 τ11 => vp_in l1 20 ∧ ((¬ x12 = (τ11 62 (Int32.toNatClampNeg l1)) → R_X11_nextOf_L16 K KX n l1 (l2 + 1) τ11) ∧ (x12 = (τ11 62 (Int32.toNatClampNeg l1)) → K l2 τ11)))))))
def R_X11_nextOf (a1 : Int32) (σ : pw_Mem) (K : Int32 → pw_Mem → Prop) : Prop := R_X11_own a1 σ (fun x2 τ1 => vp_in a1 20 ∧ (((τ1 62 (Int32.toNatClampNeg a1)) ≤ x2 → ∃ n10, R_X11_nextOf_L62 K (fun y3 y4 τ5 => ∃ n9, R_X11_nextOf_L116 K (fun y6 y7 τ8 => K (-4) τ8) n9 y3 0 τ5) n10 a1 0 τ1) ∧ (¬ (τ1 62 (Int32.toNatClampNeg a1)) ≤ x2 → ∃ n24, R_X11_nextOf_L16 K (fun y13 y14 τ15 => ∃ n23, R_X11_nextOf_L62 K (fun y16 y17 τ18 => ∃ n22, R_X11_nextOf_L116 K (fun y19 y20 τ21 => K (-4) τ21) n22 y16 0 τ18) n23 y13 0 τ15) n24 a1 0 τ1)))
set_option maxHeartbeats 4000000 in
theorem t_X11_nextOf_L62 {L : pw_Lay} {d : Nat} {K : Int32 → pw_Mem → Prop} {KX : Int32 → Int32 → pw_Mem → Prop} : ∀ (n : Nat) (l1 : Int32) (l2 : Int32) (σ : pw_Mem), R_X11_nextOf_L62 K KX n l1 l2 σ → (∀ (l1 : Int32) (l2 : Int32) (τ : pw_Mem), KX l1 l2 τ → PW L (d + 2) m_X11_nextOf (ki K) 114 [some (.ref 49), some (.int l1), some (.int l2)] [] τ) → PW L (d + 2) m_X11_nextOf (ki K) 62 [some (.ref 49), some (.int l1), some (.int l2)] [] σ := by
  intro n
  induction n with
  | zero => intro l1 l2 _ h _; exact h.elim
  | succ n ih =>
    intro l1 l2 σ h hX
    unfold R_X11_nextOf_L62 at h
    refine pw_iload_n (i := 2) dX11_nextOf_62 rfl rfl ?_
    refine pw_aload_n (i := 0) dX11_nextOf_63 rfl rfl ?_
    refine pw_getI dX11_nextOf_64 fl_X11_91 rfl rfl ?_
    refine pw_icmp_ge (tgt := 114) dX11_nextOf_67 rfl (fun q => ?_) (fun q => ?_)
    · have h := h.1 q
      exact hX _ _ _ h
    · have h := h.2 q
      refine pw_aload_n (i := 0) dX11_nextOf_70 rfl rfl ?_
      refine pw_getR dX11_nextOf_71 fl_X11_34 rfl rfl ?_
      refine pw_iload_n (i := 1) dX11_nextOf_74 rfl rfl ?_
      obtain ⟨hb, h⟩ := h
      refine pw_iald dX11_nextOf_75 rfl hb ?_
      refine pw_iload_n (i := 2) dX11_nextOf_76 rfl rfl ?_
      refine pw_ishr dX11_nextOf_77 ?_
      refine pw_iconst (v := 1) dX11_nextOf_78 kc_1 ?_
      refine pw_iand dX11_nextOf_79 ?_
      refine pw_iconst (v := 1) dX11_nextOf_80 kc_1 ?_
      refine pw_icmp_ne (tgt := 108) dX11_nextOf_81 rfl (fun q => ?_) (fun q => ?_)
      · have h := h.1 q
        refine pw_iinc (i := 2) (v := l2 + 1) (ls' := [some (.ref 49), some (.int l1), some (.int (l2 + 1))]) dX11_nextOf_108 rfl (by rw [kc_1]) (Nat.le_of_ble_eq_true rfl) rfl ?_
        refine pw_goto (tgt := 62) dX11_nextOf_111 rfl ?_
        exact ih _ _ _ h hX
      · have h := h.2 q
        refine pw_aload_n (i := 0) dX11_nextOf_84 rfl rfl ?_
        refine pw_getR dX11_nextOf_85 fl_X11_7 rfl rfl ?_
        refine pw_iload_n (i := 1) dX11_nextOf_88 rfl rfl ?_
        obtain ⟨hb, h⟩ := h
        refine pw_iald dX11_nextOf_89 rfl hb ?_
        refine pw_aload_n (i := 0) dX11_nextOf_90 rfl rfl ?_
        refine pw_getR dX11_nextOf_91 fl_X11_46 rfl rfl ?_
        refine pw_iload_n (i := 2) dX11_nextOf_94 rfl rfl ?_
        obtain ⟨hb, h⟩ := h
        refine pw_iald dX11_nextOf_95 rfl hb ?_
        refine pw_iadd dX11_nextOf_96 ?_
        refine pw_aload_n (i := 0) dX11_nextOf_97 rfl rfl ?_
        refine pw_getR dX11_nextOf_98 fl_X11_46 rfl rfl ?_
        refine pw_iload_n (i := 1) dX11_nextOf_101 rfl rfl ?_
        obtain ⟨hb, h⟩ := h
        refine pw_iald dX11_nextOf_102 rfl hb ?_
        refine pw_icmp_ne (tgt := 108) dX11_nextOf_103 rfl (fun q => ?_) (fun q => ?_)
        · have h := h.1 q
          refine pw_iinc (i := 2) (v := l2 + 1) (ls' := [some (.ref 49), some (.int l1), some (.int (l2 + 1))]) dX11_nextOf_108 rfl (by rw [kc_1]) (Nat.le_of_ble_eq_true rfl) rfl ?_
          refine pw_goto (tgt := 62) dX11_nextOf_111 rfl ?_
          exact ih _ _ _ h hX
        · have h := h.2 q
          refine pw_iload_n (i := 2) dX11_nextOf_106 rfl rfl ?_
          exact pw_ret dX11_nextOf_107 rfl rfl ⟨_, rfl, h⟩
set_option maxHeartbeats 4000000 in
theorem t_X11_nextOf_L116 {L : pw_Lay} {d : Nat} {K : Int32 → pw_Mem → Prop} {KX : Int32 → Int32 → pw_Mem → Prop} : ∀ (n : Nat) (l1 : Int32) (l2 : Int32) (σ : pw_Mem), R_X11_nextOf_L116 K KX n l1 l2 σ → (∀ (l1 : Int32) (l2 : Int32) (τ : pw_Mem), KX l1 l2 τ → PW L (d + 2) m_X11_nextOf (ki K) 170 [some (.ref 49), some (.int l1), some (.int l2)] [] τ) → PW L (d + 2) m_X11_nextOf (ki K) 116 [some (.ref 49), some (.int l1), some (.int l2)] [] σ := by
  intro n
  induction n with
  | zero => intro l1 l2 _ h _; exact h.elim
  | succ n ih =>
    intro l1 l2 σ h hX
    unfold R_X11_nextOf_L116 at h
    refine pw_iload_n (i := 2) dX11_nextOf_116 rfl rfl ?_
    refine pw_aload_n (i := 0) dX11_nextOf_117 rfl rfl ?_
    refine pw_getI dX11_nextOf_118 fl_X11_91 rfl rfl ?_
    refine pw_icmp_ge (tgt := 170) dX11_nextOf_121 rfl (fun q => ?_) (fun q => ?_)
    · have h := h.1 q
      exact hX _ _ _ h
    · have h := h.2 q
      refine pw_aload_n (i := 0) dX11_nextOf_124 rfl rfl ?_
      refine pw_getR dX11_nextOf_125 fl_X11_37 rfl rfl ?_
      refine pw_iload_n (i := 1) dX11_nextOf_128 rfl rfl ?_
      obtain ⟨hb, h⟩ := h
      refine pw_iald dX11_nextOf_129 rfl hb ?_
      refine pw_aload_n (i := 0) dX11_nextOf_130 rfl rfl ?_
      refine pw_getR dX11_nextOf_131 fl_X11_43 rfl rfl ?_
      refine pw_iload_n (i := 1) dX11_nextOf_134 rfl rfl ?_
      obtain ⟨hb, h⟩ := h
      refine pw_iald dX11_nextOf_135 rfl hb ?_
      refine pw_iconst (v := (-1)) dX11_nextOf_136 kc_m1 ?_
      refine pw_ixor dX11_nextOf_137 ?_
      refine pw_iand dX11_nextOf_138 ?_
      refine pw_iload_n (i := 2) dX11_nextOf_139 rfl rfl ?_
      refine pw_ishr dX11_nextOf_140 ?_
      refine pw_iconst (v := 1) dX11_nextOf_141 kc_1 ?_
      refine pw_iand dX11_nextOf_142 ?_
      refine pw_iconst (v := 1) dX11_nextOf_143 kc_1 ?_
      refine pw_icmp_ne (tgt := 164) dX11_nextOf_144 rfl (fun q => ?_) (fun q => ?_)
      · have h := h.1 q
        refine pw_iinc (i := 2) (v := l2 + 1) (ls' := [some (.ref 49), some (.int l1), some (.int (l2 + 1))]) dX11_nextOf_164 rfl (by rw [kc_1]) (Nat.le_of_ble_eq_true rfl) rfl ?_
        refine pw_goto (tgt := 116) dX11_nextOf_167 rfl ?_
        exact ih _ _ _ h hX
      · have h := h.2 q
        refine pw_aload_n (i := 0) dX11_nextOf_147 rfl rfl ?_
        refine pw_getR dX11_nextOf_148 fl_X11_46 rfl rfl ?_
        refine pw_iload_n (i := 2) dX11_nextOf_151 rfl rfl ?_
        obtain ⟨hb, h⟩ := h
        refine pw_iald dX11_nextOf_152 rfl hb ?_
        refine pw_aload_n (i := 0) dX11_nextOf_153 rfl rfl ?_
        refine pw_getR dX11_nextOf_154 fl_X11_46 rfl rfl ?_
        refine pw_iload_n (i := 1) dX11_nextOf_157 rfl rfl ?_
        obtain ⟨hb, h⟩ := h
        refine pw_iald dX11_nextOf_158 rfl hb ?_
        refine pw_icmp_ne (tgt := 164) dX11_nextOf_159 rfl (fun q => ?_) (fun q => ?_)
        · have h := h.1 q
          refine pw_iinc (i := 2) (v := l2 + 1) (ls' := [some (.ref 49), some (.int l1), some (.int (l2 + 1))]) dX11_nextOf_164 rfl (by rw [kc_1]) (Nat.le_of_ble_eq_true rfl) rfl ?_
          refine pw_goto (tgt := 116) dX11_nextOf_167 rfl ?_
          exact ih _ _ _ h hX
        · have h := h.2 q
          refine pw_iload_n (i := 2) dX11_nextOf_162 rfl rfl ?_
          exact pw_ret dX11_nextOf_163 rfl rfl ⟨_, rfl, h⟩
set_option maxHeartbeats 4000000 in
theorem t_X11_nextOf_L16 {L : pw_Lay} {d : Nat} {K : Int32 → pw_Mem → Prop} {KX : Int32 → Int32 → pw_Mem → Prop} : ∀ (n : Nat) (l1 : Int32) (l2 : Int32) (σ : pw_Mem), R_X11_nextOf_L16 K KX n l1 l2 σ → (∀ (l1 : Int32) (l2 : Int32) (τ : pw_Mem), KX l1 l2 τ → PW L (d + 2) m_X11_nextOf (ki K) 60 [some (.ref 49), some (.int l1), some (.int l2)] [] τ) → PW L (d + 2) m_X11_nextOf (ki K) 16 [some (.ref 49), some (.int l1), some (.int l2)] [] σ := by
  intro n
  induction n with
  | zero => intro l1 l2 _ h _; exact h.elim
  | succ n ih =>
    intro l1 l2 σ h hX
    unfold R_X11_nextOf_L16 at h
    refine pw_iload_n (i := 2) dX11_nextOf_16 rfl rfl ?_
    refine pw_aload_n (i := 0) dX11_nextOf_17 rfl rfl ?_
    refine pw_getI dX11_nextOf_18 fl_X11_91 rfl rfl ?_
    refine pw_icmp_ge (tgt := 60) dX11_nextOf_21 rfl (fun q => ?_) (fun q => ?_)
    · have h := h.1 q
      exact hX _ _ _ h
    · have h := h.2 q
      refine pw_aload_n (i := 0) dX11_nextOf_24 rfl rfl ?_
      refine pw_getR dX11_nextOf_25 fl_X11_43 rfl rfl ?_
      refine pw_iload_n (i := 1) dX11_nextOf_28 rfl rfl ?_
      obtain ⟨hb, h⟩ := h
      refine pw_iald dX11_nextOf_29 rfl hb ?_
      refine pw_iload_n (i := 2) dX11_nextOf_30 rfl rfl ?_
      refine pw_ishr dX11_nextOf_31 ?_
      refine pw_iconst (v := 1) dX11_nextOf_32 kc_1 ?_
      refine pw_iand dX11_nextOf_33 ?_
      refine pw_iconst (v := 1) dX11_nextOf_34 kc_1 ?_
      refine pw_icmp_ne (tgt := 54) dX11_nextOf_35 rfl (fun q => ?_) (fun q => ?_)
      · have h := h.1 q
        refine pw_iinc (i := 2) (v := l2 + 1) (ls' := [some (.ref 49), some (.int l1), some (.int (l2 + 1))]) dX11_nextOf_54 rfl (by rw [kc_1]) (Nat.le_of_ble_eq_true rfl) rfl ?_
        refine pw_goto (tgt := 16) dX11_nextOf_57 rfl ?_
        exact ih _ _ _ h hX
      · have h := h.2 q
        refine pw_aload_n (i := 0) dX11_nextOf_38 rfl rfl ?_
        refine pw_iload_n (i := 2) dX11_nextOf_39 rfl rfl ?_
        refine pw_cVi [.int l2] dX11_nextOf_40 mv_X11_149 rfl rfl rfl (Nat.le_of_ble_eq_true rfl) (c_X11_own h) (fun x12 τ11 h => ?_)
        refine pw_aload_n (i := 0) dX11_nextOf_43 rfl rfl ?_
        refine pw_getR dX11_nextOf_44 fl_X11_46 rfl rfl ?_
        refine pw_iload_n (i := 1) dX11_nextOf_47 rfl rfl ?_
        obtain ⟨hb, h⟩ := h
        refine pw_iald dX11_nextOf_48 rfl hb ?_
        refine pw_icmp_ne (tgt := 54) dX11_nextOf_49 rfl (fun q => ?_) (fun q => ?_)
        · have h := h.1 q
          refine pw_iinc (i := 2) (v := l2 + 1) (ls' := [some (.ref 49), some (.int l1), some (.int (l2 + 1))]) dX11_nextOf_54 rfl (by rw [kc_1]) (Nat.le_of_ble_eq_true rfl) rfl ?_
          refine pw_goto (tgt := 16) dX11_nextOf_57 rfl ?_
          exact ih _ _ _ h hX
        · have h := h.2 q
          refine pw_iload_n (i := 2) dX11_nextOf_52 rfl rfl ?_
          exact pw_ret dX11_nextOf_53 rfl rfl ⟨_, rfl, h⟩
set_option maxHeartbeats 4000000 in
theorem c_X11_nextOf {L : pw_Lay} {d : Nat} {a1 : Int32} {σ : pw_Mem} {K : Int32 → pw_Mem → Prop} (h : R_X11_nextOf a1 σ K) : CT L (d + 2) m_X11_nextOf [.ref 49, .int a1] σ (ki K) := by
  refine pw_enter (by decide) rfl (Nat.le_of_ble_eq_true rfl) (ls := [some (.ref 49), some (.int a1), none]) rfl ?_
  unfold R_X11_nextOf at h
  refine pw_aload_n (i := 0) dX11_nextOf_0 rfl rfl ?_
  refine pw_iload_n (i := 1) dX11_nextOf_1 rfl rfl ?_
  refine pw_cVi [.int a1] dX11_nextOf_2 mv_X11_149 rfl rfl rfl (Nat.le_of_ble_eq_true rfl) (c_X11_own h) (fun x2 τ1 h => ?_)
  refine pw_aload_n (i := 0) dX11_nextOf_5 rfl rfl ?_
  refine pw_getR dX11_nextOf_6 fl_X11_46 rfl rfl ?_
  refine pw_iload_n (i := 1) dX11_nextOf_9 rfl rfl ?_
  obtain ⟨hb, h⟩ := h
  refine pw_iald dX11_nextOf_10 rfl hb ?_
  refine pw_icmp_ge (tgt := 60) dX11_nextOf_11 rfl (fun q => ?_) (fun q => ?_)
  · have h := h.1 q
    refine pw_iconst (v := 0) dX11_nextOf_60 kc_0 ?_
    refine pw_istore_n (i := 2) (ls' := [some (.ref 49), some (.int a1), some (.int 0)]) dX11_nextOf_61 rfl (Nat.le_of_ble_eq_true rfl) rfl ?_
    obtain ⟨n10, h⟩ := h
    refine t_X11_nextOf_L62 _ _ _ _ h (fun y3 y4 τ5 h => ?_)
    refine pw_iconst (v := 0) dX11_nextOf_114 kc_0 ?_
    refine pw_istore_n (i := 2) (ls' := [some (.ref 49), some (.int y3), some (.int 0)]) dX11_nextOf_115 rfl (Nat.le_of_ble_eq_true rfl) rfl ?_
    obtain ⟨n9, h⟩ := h
    refine t_X11_nextOf_L116 _ _ _ _ h (fun y6 y7 τ8 h => ?_)
    refine pw_bipush (v := (-4)) dX11_nextOf_170 kb_m4 ?_
    exact pw_ret dX11_nextOf_172 rfl rfl ⟨_, rfl, h⟩
  · have h := h.2 q
    refine pw_iconst (v := 0) dX11_nextOf_14 kc_0 ?_
    refine pw_istore_n (i := 2) (ls' := [some (.ref 49), some (.int a1), some (.int 0)]) dX11_nextOf_15 rfl (Nat.le_of_ble_eq_true rfl) rfl ?_
    obtain ⟨n24, h⟩ := h
    refine t_X11_nextOf_L16 _ _ _ _ h (fun y13 y14 τ15 h => ?_)
    refine pw_iconst (v := 0) dX11_nextOf_60 kc_0 ?_
    refine pw_istore_n (i := 2) (ls' := [some (.ref 49), some (.int y13), some (.int 0)]) dX11_nextOf_61 rfl (Nat.le_of_ble_eq_true rfl) rfl ?_
    obtain ⟨n23, h⟩ := h
    refine t_X11_nextOf_L62 _ _ _ _ h (fun y16 y17 τ18 h => ?_)
    refine pw_iconst (v := 0) dX11_nextOf_114 kc_0 ?_
    refine pw_istore_n (i := 2) (ls' := [some (.ref 49), some (.int y16), some (.int 0)]) dX11_nextOf_115 rfl (Nat.le_of_ble_eq_true rfl) rfl ?_
    obtain ⟨n22, h⟩ := h
    refine t_X11_nextOf_L116 _ _ _ _ h (fun y19 y20 τ21 h => ?_)
    refine pw_bipush (v := (-4)) dX11_nextOf_170 kb_m4 ?_
    exact pw_ret dX11_nextOf_172 rfl rfl ⟨_, rfl, h⟩
/-! X11_way -/
def R_X11_way_L34 (K : Int32 → pw_Mem → Prop) (KX : Int32 → Int32 → Int32 → Int32 → pw_Mem → Prop) : Nat → Int32 → Int32 → Int32 → Int32 → pw_Mem → Prop
  | 0, _, _, _, _, _ => False
  | n + 1, l1, l2, l3, l4, σ => ((l2 ≤ l4 → KX l1 l2 l3 l4 σ) ∧ (¬ l2 ≤ l4 → ((l3 = (-4) → KX l1 l2 l3 l4 σ) ∧ (¬ l3 = (-4) → R_X11_nextOf l3 σ (fun x7 τ6 => R_X11_way_L34 K KX n l1 l2 x7 (l4 + 1) τ6)))))
def R_X11_way (a1 : Int32) (a2 : Int32) (σ : pw_Mem) (K : Int32 → pw_Mem → Prop) : Prop := R_X11_is a1 σ (fun x2 τ1 => ((x2 = 0 → K (-1) τ1) ∧ (¬ x2 = 0 → ((0 ≤ a2 → R_X11_layDepths  τ1 (fun τ3 => R_X11_reachesRing a1 τ3 (fun x5 τ4 => ((x5 = 0 → ∃ n13, R_X11_way_L34 K (fun y8 y9 y10 y11 τ12 => K y10 τ12) n13 a1 a2 a1 0 τ4) ∧ (¬ x5 = 0 → K (-2) τ4))))) ∧ (¬ 0 ≤ a2 → K (-1) τ1)))))
set_option maxHeartbeats 4000000 in
theorem t_X11_way_L34 {L : pw_Lay} {d : Nat} {K : Int32 → pw_Mem → Prop} {KX : Int32 → Int32 → Int32 → Int32 → pw_Mem → Prop} : ∀ (n : Nat) (l1 : Int32) (l2 : Int32) (l3 : Int32) (l4 : Int32) (σ : pw_Mem), R_X11_way_L34 K KX n l1 l2 l3 l4 σ → (∀ (l1 : Int32) (l2 : Int32) (l3 : Int32) (l4 : Int32) (τ : pw_Mem), KX l1 l2 l3 l4 τ → PW L (d + 4) m_X11_way (ki K) 58 [some (.ref 49), some (.int l1), some (.int l2), some (.int l3), some (.int l4)] [] τ) → PW L (d + 4) m_X11_way (ki K) 34 [some (.ref 49), some (.int l1), some (.int l2), some (.int l3), some (.int l4)] [] σ := by
  intro n
  induction n with
  | zero => intro l1 l2 l3 l4 _ h _; exact h.elim
  | succ n ih =>
    intro l1 l2 l3 l4 σ h hX
    unfold R_X11_way_L34 at h
    refine pw_iload dX11_way_34 rfl ?_
    refine pw_iload_n (i := 2) dX11_way_36 rfl rfl ?_
    refine pw_icmp_ge (tgt := 58) dX11_way_37 rfl (fun q => ?_) (fun q => ?_)
    · have h := h.1 q
      exact hX _ _ _ _ _ h
    · have h := h.2 q
      refine pw_iload_n (i := 3) dX11_way_40 rfl rfl ?_
      refine pw_bipush (v := (-4)) dX11_way_41 kb_m4 ?_
      refine pw_icmp_eq (tgt := 58) dX11_way_43 rfl (fun q => ?_) (fun q => ?_)
      · have h := h.1 q
        exact hX _ _ _ _ _ h
      · have h := h.2 q
        refine pw_aload_n (i := 0) dX11_way_46 rfl rfl ?_
        refine pw_iload_n (i := 3) dX11_way_47 rfl rfl ?_
        refine pw_cVi [.int l3] dX11_way_48 mv_X11_161 rfl rfl rfl (Nat.le_of_ble_eq_true rfl) (c_X11_nextOf h) (fun x7 τ6 h => ?_)
        refine pw_istore_n (i := 3) (ls' := [some (.ref 49), some (.int l1), some (.int l2), some (.int x7), some (.int l4)]) dX11_way_51 rfl (Nat.le_of_ble_eq_true rfl) rfl ?_
        refine pw_iinc (i := 4) (v := l4 + 1) (ls' := [some (.ref 49), some (.int l1), some (.int l2), some (.int x7), some (.int (l4 + 1))]) dX11_way_52 rfl (by rw [kc_1]) (Nat.le_of_ble_eq_true rfl) rfl ?_
        refine pw_goto (tgt := 34) dX11_way_55 rfl ?_
        exact ih _ _ _ _ _ h hX
set_option maxHeartbeats 4000000 in
theorem c_X11_way {L : pw_Lay} {d : Nat} {a1 : Int32} {a2 : Int32} {σ : pw_Mem} {K : Int32 → pw_Mem → Prop} (h : R_X11_way a1 a2 σ K) : CT L (d + 4) m_X11_way [.ref 49, .int a1, .int a2] σ (ki K) := by
  refine pw_enter (by decide) rfl (Nat.le_of_ble_eq_true rfl) (ls := [some (.ref 49), some (.int a1), some (.int a2), none, none]) rfl ?_
  unfold R_X11_way at h
  refine pw_aload_n (i := 0) dX11_way_0 rfl rfl ?_
  refine pw_iload_n (i := 1) dX11_way_1 rfl rfl ?_
  refine pw_cVi [.int a1] dX11_way_2 mv_X11_103 rfl rfl rfl (Nat.le_of_ble_eq_true rfl) (c_X11_is h) (fun x2 τ1 h => ?_)
  refine pw_if_eq (tgt := 12) dX11_way_5 rfl (fun q => ?_) (fun q => ?_)
  · have h := h.1 q
    refine pw_iconst (v := (-1)) dX11_way_12 kc_m1 ?_
    exact pw_ret dX11_way_13 rfl rfl ⟨_, rfl, h⟩
  · have h := h.2 q
    refine pw_iload_n (i := 2) dX11_way_8 rfl rfl ?_
    refine pw_if_ge (tgt := 14) dX11_way_9 rfl (fun q => ?_) (fun q => ?_)
    · have h := h.1 q
      refine pw_aload_n (i := 0) dX11_way_14 rfl rfl ?_
      refine pw_cVv [] dX11_way_15 mv_X11_155 rfl rfl rfl (Nat.le_of_ble_eq_true rfl) (c_X11_layDepths h) (fun τ3 h => ?_)
      refine pw_aload_n (i := 0) dX11_way_18 rfl rfl ?_
      refine pw_iload_n (i := 1) dX11_way_19 rfl rfl ?_
      refine pw_cVi [.int a1] dX11_way_20 mv_X11_158 rfl rfl rfl (Nat.le_of_ble_eq_true rfl) (c_X11_reachesRing h) (fun x5 τ4 h => ?_)
      refine pw_if_eq (tgt := 29) dX11_way_23 rfl (fun q => ?_) (fun q => ?_)
      · have h := h.1 q
        refine pw_iload_n (i := 1) dX11_way_29 rfl rfl ?_
        refine pw_istore_n (i := 3) (ls' := [some (.ref 49), some (.int a1), some (.int a2), some (.int a1), none]) dX11_way_30 rfl (Nat.le_of_ble_eq_true rfl) rfl ?_
        refine pw_iconst (v := 0) dX11_way_31 kc_0 ?_
        refine pw_istore (i := 4) (ls' := [some (.ref 49), some (.int a1), some (.int a2), some (.int a1), some (.int 0)]) dX11_way_32 (Nat.le_of_ble_eq_true rfl) rfl ?_
        obtain ⟨n13, h⟩ := h
        refine t_X11_way_L34 _ _ _ _ _ _ h (fun y8 y9 y10 y11 τ12 h => ?_)
        refine pw_iload_n (i := 3) dX11_way_58 rfl rfl ?_
        exact pw_ret dX11_way_59 rfl rfl ⟨_, rfl, h⟩
      · have h := h.2 q
        refine pw_bipush (v := (-2)) dX11_way_26 kb_m2 ?_
        exact pw_ret dX11_way_28 rfl rfl ⟨_, rfl, h⟩
    · have h := h.2 q
      refine pw_iconst (v := (-1)) dX11_way_12 kc_m1 ?_
      exact pw_ret dX11_way_13 rfl rfl ⟨_, rfl, h⟩
/-! X11_endless -/
def R_X11_endless_L16 (K : Int32 → pw_Mem → Prop) (KX : Int32 → Int32 → pw_Mem → Prop) : Nat → Int32 → Int32 → pw_Mem → Prop
  | 0, _, _, _ => False
  | n + 1, l1, l2, σ => (((σ 49 0) ≤ l2 → KX l1 l2 σ) ∧ (¬ (σ 49 0) ≤ l2 → ((l2 = l1 → R_X11_isRing l2 σ (fun x5 τ4 => ((x5 = 0 → R_X11_endless_L16 K KX n l1 (l2 + 1) τ4) ∧ (¬ x5 = 0 → vp_in l2 20 ∧ ((¬ (τ4 51 (Int32.toNatClampNeg l2)) = 0 → R_X11_endless_L16 K KX n l1 (l2 + 1) τ4) ∧ ((τ4 51 (Int32.toNatClampNeg l2)) = 0 → K l2 τ4)))))) ∧ (¬ l2 = l1 → vp_in l1 20 ∧ ((¬ (((σ 60 (Int32.toNatClampNeg l1)) >>> (l2 &&& 31)) &&& 1) = 1 → R_X11_endless_L16 K KX n l1 (l2 + 1) σ) ∧ ((((σ 60 (Int32.toNatClampNeg l1)) >>> (l2 &&& 31)) &&& 1) = 1 → R_X11_isRing l2 σ (fun x7 τ6 => ((x7 = 0 → R_X11_endless_L16 K KX n l1 (l2 + 1) τ6) ∧ (¬ x7 = 0 → vp_in l2 20 ∧ ((¬ (τ6 51 (Int32.toNatClampNeg l2)) = 0 → R_X11_endless_L16 K KX n l1 (l2 + 1) τ6) ∧ ((τ6 51 (Int32.toNatClampNeg l2)) = 0 → K l2 τ6)))))))))))
def R_X11_endless (a1 : Int32) (σ : pw_Mem) (K : Int32 → pw_Mem → Prop) : Prop := R_X11_is a1 σ (fun x2 τ1 => ((¬ x2 = 0 → R_X11_layNet  τ1 (fun τ3 => ∃ n11, R_X11_endless_L16 K (fun y8 y9 τ10 => K (-4) τ10) n11 a1 0 τ3)) ∧ (x2 = 0 → K (-1) τ1)))
set_option maxHeartbeats 4000000 in
theorem t_X11_endless_L16 {L : pw_Lay} {d : Nat} {K : Int32 → pw_Mem → Prop} {KX : Int32 → Int32 → pw_Mem → Prop} : ∀ (n : Nat) (l1 : Int32) (l2 : Int32) (σ : pw_Mem), R_X11_endless_L16 K KX n l1 l2 σ → (∀ (l1 : Int32) (l2 : Int32) (τ : pw_Mem), KX l1 l2 τ → PW L (d + 2) m_X11_endless (ki K) 68 [some (.ref 49), some (.int l1), some (.int l2)] [] τ) → PW L (d + 2) m_X11_endless (ki K) 16 [some (.ref 49), some (.int l1), some (.int l2)] [] σ := by
  intro n
  induction n with
  | zero => intro l1 l2 _ h _; exact h.elim
  | succ n ih =>
    intro l1 l2 σ h hX
    unfold R_X11_endless_L16 at h
    refine pw_iload_n (i := 2) dX11_endless_16 rfl rfl ?_
    refine pw_aload_n (i := 0) dX11_endless_17 rfl rfl ?_
    refine pw_getI dX11_endless_18 fl_X11_91 rfl rfl ?_
    refine pw_icmp_ge (tgt := 68) dX11_endless_21 rfl (fun q => ?_) (fun q => ?_)
    · have h := h.1 q
      exact hX _ _ _ h
    · have h := h.2 q
      refine pw_iload_n (i := 2) dX11_endless_24 rfl rfl ?_
      refine pw_iload_n (i := 1) dX11_endless_25 rfl rfl ?_
      refine pw_icmp_eq (tgt := 43) dX11_endless_26 rfl (fun q => ?_) (fun q => ?_)
      · have h := h.1 q
        refine pw_aload_n (i := 0) dX11_endless_43 rfl rfl ?_
        refine pw_iload_n (i := 2) dX11_endless_44 rfl rfl ?_
        refine pw_cVi [.int l2] dX11_endless_45 mv_X11_136 rfl rfl rfl (Nat.le_of_ble_eq_true rfl) (c_X11_isRing h) (fun x5 τ4 h => ?_)
        refine pw_if_eq (tgt := 62) dX11_endless_48 rfl (fun q => ?_) (fun q => ?_)
        · have h := h.1 q
          refine pw_iinc (i := 2) (v := l2 + 1) (ls' := [some (.ref 49), some (.int l1), some (.int (l2 + 1))]) dX11_endless_62 rfl (by rw [kc_1]) (Nat.le_of_ble_eq_true rfl) rfl ?_
          refine pw_goto (tgt := 16) dX11_endless_65 rfl ?_
          exact ih _ _ _ h hX
        · have h := h.2 q
          refine pw_aload_n (i := 0) dX11_endless_51 rfl rfl ?_
          refine pw_getR dX11_endless_52 fl_X11_13 rfl rfl ?_
          refine pw_iload_n (i := 2) dX11_endless_55 rfl rfl ?_
          obtain ⟨hb, h⟩ := h
          refine pw_iald dX11_endless_56 rfl hb ?_
          refine pw_if_ne (tgt := 62) dX11_endless_57 rfl (fun q => ?_) (fun q => ?_)
          · have h := h.1 q
            refine pw_iinc (i := 2) (v := l2 + 1) (ls' := [some (.ref 49), some (.int l1), some (.int (l2 + 1))]) dX11_endless_62 rfl (by rw [kc_1]) (Nat.le_of_ble_eq_true rfl) rfl ?_
            refine pw_goto (tgt := 16) dX11_endless_65 rfl ?_
            exact ih _ _ _ h hX
          · have h := h.2 q
            refine pw_iload_n (i := 2) dX11_endless_60 rfl rfl ?_
            exact pw_ret dX11_endless_61 rfl rfl ⟨_, rfl, h⟩
      · have h := h.2 q
        refine pw_aload_n (i := 0) dX11_endless_29 rfl rfl ?_
        refine pw_getR dX11_endless_30 fl_X11_40 rfl rfl ?_
        refine pw_iload_n (i := 1) dX11_endless_33 rfl rfl ?_
        obtain ⟨hb, h⟩ := h
        refine pw_iald dX11_endless_34 rfl hb ?_
        refine pw_iload_n (i := 2) dX11_endless_35 rfl rfl ?_
        refine pw_ishr dX11_endless_36 ?_
        refine pw_iconst (v := 1) dX11_endless_37 kc_1 ?_
        refine pw_iand dX11_endless_38 ?_
        refine pw_iconst (v := 1) dX11_endless_39 kc_1 ?_
        refine pw_icmp_ne (tgt := 62) dX11_endless_40 rfl (fun q => ?_) (fun q => ?_)
        · have h := h.1 q
          refine pw_iinc (i := 2) (v := l2 + 1) (ls' := [some (.ref 49), some (.int l1), some (.int (l2 + 1))]) dX11_endless_62 rfl (by rw [kc_1]) (Nat.le_of_ble_eq_true rfl) rfl ?_
          refine pw_goto (tgt := 16) dX11_endless_65 rfl ?_
          exact ih _ _ _ h hX
        · have h := h.2 q
          refine pw_aload_n (i := 0) dX11_endless_43 rfl rfl ?_
          refine pw_iload_n (i := 2) dX11_endless_44 rfl rfl ?_
          refine pw_cVi [.int l2] dX11_endless_45 mv_X11_136 rfl rfl rfl (Nat.le_of_ble_eq_true rfl) (c_X11_isRing h) (fun x7 τ6 h => ?_)
          refine pw_if_eq (tgt := 62) dX11_endless_48 rfl (fun q => ?_) (fun q => ?_)
          · have h := h.1 q
            refine pw_iinc (i := 2) (v := l2 + 1) (ls' := [some (.ref 49), some (.int l1), some (.int (l2 + 1))]) dX11_endless_62 rfl (by rw [kc_1]) (Nat.le_of_ble_eq_true rfl) rfl ?_
            refine pw_goto (tgt := 16) dX11_endless_65 rfl ?_
            exact ih _ _ _ h hX
          · have h := h.2 q
            refine pw_aload_n (i := 0) dX11_endless_51 rfl rfl ?_
            refine pw_getR dX11_endless_52 fl_X11_13 rfl rfl ?_
            refine pw_iload_n (i := 2) dX11_endless_55 rfl rfl ?_
            obtain ⟨hb, h⟩ := h
            refine pw_iald dX11_endless_56 rfl hb ?_
            refine pw_if_ne (tgt := 62) dX11_endless_57 rfl (fun q => ?_) (fun q => ?_)
            · have h := h.1 q
              refine pw_iinc (i := 2) (v := l2 + 1) (ls' := [some (.ref 49), some (.int l1), some (.int (l2 + 1))]) dX11_endless_62 rfl (by rw [kc_1]) (Nat.le_of_ble_eq_true rfl) rfl ?_
              refine pw_goto (tgt := 16) dX11_endless_65 rfl ?_
              exact ih _ _ _ h hX
            · have h := h.2 q
              refine pw_iload_n (i := 2) dX11_endless_60 rfl rfl ?_
              exact pw_ret dX11_endless_61 rfl rfl ⟨_, rfl, h⟩
set_option maxHeartbeats 4000000 in
theorem c_X11_endless {L : pw_Lay} {d : Nat} {a1 : Int32} {σ : pw_Mem} {K : Int32 → pw_Mem → Prop} (h : R_X11_endless a1 σ K) : CT L (d + 2) m_X11_endless [.ref 49, .int a1] σ (ki K) := by
  refine pw_enter (by decide) rfl (Nat.le_of_ble_eq_true rfl) (ls := [some (.ref 49), some (.int a1), none]) rfl ?_
  unfold R_X11_endless at h
  refine pw_aload_n (i := 0) dX11_endless_0 rfl rfl ?_
  refine pw_iload_n (i := 1) dX11_endless_1 rfl rfl ?_
  refine pw_cVi [.int a1] dX11_endless_2 mv_X11_103 rfl rfl rfl (Nat.le_of_ble_eq_true rfl) (c_X11_is h) (fun x2 τ1 h => ?_)
  refine pw_if_ne (tgt := 10) dX11_endless_5 rfl (fun q => ?_) (fun q => ?_)
  · have h := h.1 q
    refine pw_aload_n (i := 0) dX11_endless_10 rfl rfl ?_
    refine pw_cVv [] dX11_endless_11 mv_X11_133 rfl rfl rfl (Nat.le_of_ble_eq_true rfl) (c_X11_layNet h) (fun τ3 h => ?_)
    refine pw_iconst (v := 0) dX11_endless_14 kc_0 ?_
    refine pw_istore_n (i := 2) (ls' := [some (.ref 49), some (.int a1), some (.int 0)]) dX11_endless_15 rfl (Nat.le_of_ble_eq_true rfl) rfl ?_
    obtain ⟨n11, h⟩ := h
    refine t_X11_endless_L16 _ _ _ _ h (fun y8 y9 τ10 h => ?_)
    refine pw_bipush (v := (-4)) dX11_endless_68 kb_m4 ?_
    exact pw_ret dX11_endless_70 rfl rfl ⟨_, rfl, h⟩
  · have h := h.2 q
    refine pw_iconst (v := (-1)) dX11_endless_8 kc_m1 ?_
    exact pw_ret dX11_endless_9 rfl rfl ⟨_, rfl, h⟩
/-! X11_interrupt -/
def R_X11_interrupt (a1 : Int32) (a2 : Int32) (a3 : Int32) (σ : pw_Mem) (K : Int32 → pw_Mem → Prop) : Prop := R_X11_in (Int32.toInt64 a1) 1 7 σ (fun x2 τ1 => ((x2 = 0 → K (-1) τ1) ∧ (¬ x2 = 0 → R_X11_is a2 τ1 (fun x4 τ3 => ((x4 = 0 → K (-1) τ3) ∧ (¬ x4 = 0 → R_X11_in (Int32.toInt64 a3) 0 100 τ3 (fun x6 τ5 => ((¬ x6 = 0 → ((¬ (τ5 49 15) = 8 → vp_in (τ5 49 15) 8 ∧ ∀ τ7, τ7 = pw_up τ5 63 (Int32.toNatClampNeg (τ5 49 15)) a1 → vp_in (τ7 49 15) 8 ∧ ∀ τ8, τ8 = pw_up τ7 64 (Int32.toNatClampNeg (τ7 49 15)) a2 → vp_in (τ8 49 15) 8 ∧ ∀ τ9, τ9 = pw_up τ8 65 (Int32.toNatClampNeg (τ8 49 15)) a3 → ∀ τ10, τ10 = pw_up τ9 49 15 ((τ9 49 15) + 1) → K ((τ10 49 15) - 1) τ10) ∧ ((τ5 49 15) = 8 → K (-3) τ5))) ∧ (x6 = 0 → K (-1) τ5)))))))))
set_option maxHeartbeats 4000000 in
theorem c_X11_interrupt {L : pw_Lay} {d : Nat} {a1 : Int32} {a2 : Int32} {a3 : Int32} {σ : pw_Mem} {K : Int32 → pw_Mem → Prop} (h : R_X11_interrupt a1 a2 a3 σ K) : CT L (d + 2) m_X11_interrupt [.ref 49, .int a1, .int a2, .int a3] σ (ki K) := by
  refine pw_enter (by decide) rfl (Nat.le_of_ble_eq_true rfl) (ls := [some (.ref 49), some (.int a1), some (.int a2), some (.int a3)]) rfl ?_
  unfold R_X11_interrupt at h
  refine pw_iload_n (i := 1) dX11_interrupt_0 rfl rfl ?_
  refine pw_i2l dX11_interrupt_1 ?_
  refine pw_lconst (v := 1) dX11_interrupt_2 kl_1 ?_
  refine pw_ldc2 dX11_interrupt_3 k_X11_99 ?_
  refine pw_cSi [.long (Int32.toInt64 a1), .long 1, .long 7] dX11_interrupt_6 ms_X11_95 rfl rfl (Nat.le_of_ble_eq_true rfl) (c_X11_in h) (fun x2 τ1 h => ?_)
  refine pw_if_eq (tgt := 32) dX11_interrupt_9 rfl (fun q => ?_) (fun q => ?_)
  · have h := h.1 q
    refine pw_iconst (v := (-1)) dX11_interrupt_32 kc_m1 ?_
    exact pw_ret dX11_interrupt_33 rfl rfl ⟨_, rfl, h⟩
  · have h := h.2 q
    refine pw_aload_n (i := 0) dX11_interrupt_12 rfl rfl ?_
    refine pw_iload_n (i := 2) dX11_interrupt_13 rfl rfl ?_
    refine pw_cVi [.int a2] dX11_interrupt_14 mv_X11_103 rfl rfl rfl (Nat.le_of_ble_eq_true rfl) (c_X11_is h) (fun x4 τ3 h => ?_)
    refine pw_if_eq (tgt := 32) dX11_interrupt_17 rfl (fun q => ?_) (fun q => ?_)
    · have h := h.1 q
      refine pw_iconst (v := (-1)) dX11_interrupt_32 kc_m1 ?_
      exact pw_ret dX11_interrupt_33 rfl rfl ⟨_, rfl, h⟩
    · have h := h.2 q
      refine pw_iload_n (i := 3) dX11_interrupt_20 rfl rfl ?_
      refine pw_i2l dX11_interrupt_21 ?_
      refine pw_lconst (v := 0) dX11_interrupt_22 kl_0 ?_
      refine pw_ldc2 dX11_interrupt_23 k_X11_164 ?_
      refine pw_cSi [.long (Int32.toInt64 a3), .long 0, .long 100] dX11_interrupt_26 ms_X11_95 rfl rfl (Nat.le_of_ble_eq_true rfl) (c_X11_in h) (fun x6 τ5 h => ?_)
      refine pw_if_ne (tgt := 34) dX11_interrupt_29 rfl (fun q => ?_) (fun q => ?_)
      · have h := h.1 q
        refine pw_aload_n (i := 0) dX11_interrupt_34 rfl rfl ?_
        refine pw_getI dX11_interrupt_35 fl_X11_166 rfl rfl ?_
        refine pw_bipush (v := 8) dX11_interrupt_38 kb_8 ?_
        refine pw_icmp_ne (tgt := 46) dX11_interrupt_40 rfl (fun q => ?_) (fun q => ?_)
        · have h := h.1 q
          refine pw_aload_n (i := 0) dX11_interrupt_46 rfl rfl ?_
          refine pw_getR dX11_interrupt_47 fl_X11_49 rfl rfl ?_
          refine pw_aload_n (i := 0) dX11_interrupt_50 rfl rfl ?_
          refine pw_getI dX11_interrupt_51 fl_X11_166 rfl rfl ?_
          refine pw_iload_n (i := 1) dX11_interrupt_54 rfl rfl ?_
          obtain ⟨hb, h⟩ := h
          refine pw_iast dX11_interrupt_55 rfl hb ?_
          generalize hτ7 : pw_up τ5 63 (Int32.toNatClampNeg (τ5 49 15)) a1 = τ7
          have h := h τ7 hτ7.symm
          refine pw_aload_n (i := 0) dX11_interrupt_56 rfl rfl ?_
          refine pw_getR dX11_interrupt_57 fl_X11_52 rfl rfl ?_
          refine pw_aload_n (i := 0) dX11_interrupt_60 rfl rfl ?_
          refine pw_getI dX11_interrupt_61 fl_X11_166 rfl rfl ?_
          refine pw_iload_n (i := 2) dX11_interrupt_64 rfl rfl ?_
          obtain ⟨hb, h⟩ := h
          refine pw_iast dX11_interrupt_65 rfl hb ?_
          generalize hτ8 : pw_up τ7 64 (Int32.toNatClampNeg (τ7 49 15)) a2 = τ8
          have h := h τ8 hτ8.symm
          refine pw_aload_n (i := 0) dX11_interrupt_66 rfl rfl ?_
          refine pw_getR dX11_interrupt_67 fl_X11_55 rfl rfl ?_
          refine pw_aload_n (i := 0) dX11_interrupt_70 rfl rfl ?_
          refine pw_getI dX11_interrupt_71 fl_X11_166 rfl rfl ?_
          refine pw_iload_n (i := 3) dX11_interrupt_74 rfl rfl ?_
          obtain ⟨hb, h⟩ := h
          refine pw_iast dX11_interrupt_75 rfl hb ?_
          generalize hτ9 : pw_up τ8 65 (Int32.toNatClampNeg (τ8 49 15)) a3 = τ9
          have h := h τ9 hτ9.symm
          refine pw_aload_n (i := 0) dX11_interrupt_76 rfl rfl ?_
          refine pw_dup dX11_interrupt_77 rfl ?_
          refine pw_getI dX11_interrupt_78 fl_X11_166 rfl rfl ?_
          refine pw_iconst (v := 1) dX11_interrupt_81 kc_1 ?_
          refine pw_iadd dX11_interrupt_82 ?_
          refine pw_put dX11_interrupt_83 fp_X11_166 rfl rfl rfl rfl ?_
          generalize hτ10 : pw_up τ9 49 15 ((τ9 49 15) + 1) = τ10
          have h := h τ10 hτ10.symm
          refine pw_aload_n (i := 0) dX11_interrupt_86 rfl rfl ?_
          refine pw_getI dX11_interrupt_87 fl_X11_166 rfl rfl ?_
          refine pw_iconst (v := 1) dX11_interrupt_90 kc_1 ?_
          refine pw_isub dX11_interrupt_91 ?_
          exact pw_ret dX11_interrupt_92 rfl rfl ⟨_, rfl, h⟩
        · have h := h.2 q
          refine pw_bipush (v := (-3)) dX11_interrupt_43 kb_m3 ?_
          exact pw_ret dX11_interrupt_45 rfl rfl ⟨_, rfl, h⟩
      · have h := h.2 q
        refine pw_iconst (v := (-1)) dX11_interrupt_32 kc_m1 ?_
        exact pw_ret dX11_interrupt_33 rfl rfl ⟨_, rfl, h⟩
/-! X11_task -/
def R_X11_task (a1 : Int32) (a2 : Int32) (a3 : Int32) (σ : pw_Mem) (K : Int32 → pw_Mem → Prop) : Prop := R_X11_is a1 σ (fun x2 τ1 => ((x2 = 0 → K (-1) τ1) ∧ (¬ x2 = 0 → R_X11_in (Int32.toInt64 a2) 0 7 τ1 (fun x4 τ3 => ((x4 = 0 → K (-1) τ3) ∧ (¬ x4 = 0 → R_X11_in (Int32.toInt64 a3) 0 100 τ3 (fun x6 τ5 => ((¬ x6 = 0 → ((¬ (τ5 49 19) = 6 → vp_in (τ5 49 19) 6 ∧ ∀ τ7, τ7 = pw_up τ5 66 (Int32.toNatClampNeg (τ5 49 19)) a1 → vp_in (τ7 49 19) 6 ∧ ∀ τ8, τ8 = pw_up τ7 67 (Int32.toNatClampNeg (τ7 49 19)) a2 → vp_in (τ8 49 19) 6 ∧ ∀ τ9, τ9 = pw_up τ8 68 (Int32.toNatClampNeg (τ8 49 19)) a3 → ∀ τ10, τ10 = pw_up τ9 49 19 ((τ9 49 19) + 1) → K ((τ10 49 19) - 1) τ10) ∧ ((τ5 49 19) = 6 → K (-3) τ5))) ∧ (x6 = 0 → K (-1) τ5)))))))))
set_option maxHeartbeats 4000000 in
theorem c_X11_task {L : pw_Lay} {d : Nat} {a1 : Int32} {a2 : Int32} {a3 : Int32} {σ : pw_Mem} {K : Int32 → pw_Mem → Prop} (h : R_X11_task a1 a2 a3 σ K) : CT L (d + 2) m_X11_task [.ref 49, .int a1, .int a2, .int a3] σ (ki K) := by
  refine pw_enter (by decide) rfl (Nat.le_of_ble_eq_true rfl) (ls := [some (.ref 49), some (.int a1), some (.int a2), some (.int a3)]) rfl ?_
  unfold R_X11_task at h
  refine pw_aload_n (i := 0) dX11_task_0 rfl rfl ?_
  refine pw_iload_n (i := 1) dX11_task_1 rfl rfl ?_
  refine pw_cVi [.int a1] dX11_task_2 mv_X11_103 rfl rfl rfl (Nat.le_of_ble_eq_true rfl) (c_X11_is h) (fun x2 τ1 h => ?_)
  refine pw_if_eq (tgt := 32) dX11_task_5 rfl (fun q => ?_) (fun q => ?_)
  · have h := h.1 q
    refine pw_iconst (v := (-1)) dX11_task_32 kc_m1 ?_
    exact pw_ret dX11_task_33 rfl rfl ⟨_, rfl, h⟩
  · have h := h.2 q
    refine pw_iload_n (i := 2) dX11_task_8 rfl rfl ?_
    refine pw_i2l dX11_task_9 ?_
    refine pw_lconst (v := 0) dX11_task_10 kl_0 ?_
    refine pw_ldc2 dX11_task_11 k_X11_99 ?_
    refine pw_cSi [.long (Int32.toInt64 a2), .long 0, .long 7] dX11_task_14 ms_X11_95 rfl rfl (Nat.le_of_ble_eq_true rfl) (c_X11_in h) (fun x4 τ3 h => ?_)
    refine pw_if_eq (tgt := 32) dX11_task_17 rfl (fun q => ?_) (fun q => ?_)
    · have h := h.1 q
      refine pw_iconst (v := (-1)) dX11_task_32 kc_m1 ?_
      exact pw_ret dX11_task_33 rfl rfl ⟨_, rfl, h⟩
    · have h := h.2 q
      refine pw_iload_n (i := 3) dX11_task_20 rfl rfl ?_
      refine pw_i2l dX11_task_21 ?_
      refine pw_lconst (v := 0) dX11_task_22 kl_0 ?_
      refine pw_ldc2 dX11_task_23 k_X11_164 ?_
      refine pw_cSi [.long (Int32.toInt64 a3), .long 0, .long 100] dX11_task_26 ms_X11_95 rfl rfl (Nat.le_of_ble_eq_true rfl) (c_X11_in h) (fun x6 τ5 h => ?_)
      refine pw_if_ne (tgt := 34) dX11_task_29 rfl (fun q => ?_) (fun q => ?_)
      · have h := h.1 q
        refine pw_aload_n (i := 0) dX11_task_34 rfl rfl ?_
        refine pw_getI dX11_task_35 fl_X11_169 rfl rfl ?_
        refine pw_bipush (v := 6) dX11_task_38 kb_6 ?_
        refine pw_icmp_ne (tgt := 46) dX11_task_40 rfl (fun q => ?_) (fun q => ?_)
        · have h := h.1 q
          refine pw_aload_n (i := 0) dX11_task_46 rfl rfl ?_
          refine pw_getR dX11_task_47 fl_X11_58 rfl rfl ?_
          refine pw_aload_n (i := 0) dX11_task_50 rfl rfl ?_
          refine pw_getI dX11_task_51 fl_X11_169 rfl rfl ?_
          refine pw_iload_n (i := 1) dX11_task_54 rfl rfl ?_
          obtain ⟨hb, h⟩ := h
          refine pw_iast dX11_task_55 rfl hb ?_
          generalize hτ7 : pw_up τ5 66 (Int32.toNatClampNeg (τ5 49 19)) a1 = τ7
          have h := h τ7 hτ7.symm
          refine pw_aload_n (i := 0) dX11_task_56 rfl rfl ?_
          refine pw_getR dX11_task_57 fl_X11_61 rfl rfl ?_
          refine pw_aload_n (i := 0) dX11_task_60 rfl rfl ?_
          refine pw_getI dX11_task_61 fl_X11_169 rfl rfl ?_
          refine pw_iload_n (i := 2) dX11_task_64 rfl rfl ?_
          obtain ⟨hb, h⟩ := h
          refine pw_iast dX11_task_65 rfl hb ?_
          generalize hτ8 : pw_up τ7 67 (Int32.toNatClampNeg (τ7 49 19)) a2 = τ8
          have h := h τ8 hτ8.symm
          refine pw_aload_n (i := 0) dX11_task_66 rfl rfl ?_
          refine pw_getR dX11_task_67 fl_X11_64 rfl rfl ?_
          refine pw_aload_n (i := 0) dX11_task_70 rfl rfl ?_
          refine pw_getI dX11_task_71 fl_X11_169 rfl rfl ?_
          refine pw_iload_n (i := 3) dX11_task_74 rfl rfl ?_
          obtain ⟨hb, h⟩ := h
          refine pw_iast dX11_task_75 rfl hb ?_
          generalize hτ9 : pw_up τ8 68 (Int32.toNatClampNeg (τ8 49 19)) a3 = τ9
          have h := h τ9 hτ9.symm
          refine pw_aload_n (i := 0) dX11_task_76 rfl rfl ?_
          refine pw_dup dX11_task_77 rfl ?_
          refine pw_getI dX11_task_78 fl_X11_169 rfl rfl ?_
          refine pw_iconst (v := 1) dX11_task_81 kc_1 ?_
          refine pw_iadd dX11_task_82 ?_
          refine pw_put dX11_task_83 fp_X11_169 rfl rfl rfl rfl ?_
          generalize hτ10 : pw_up τ9 49 19 ((τ9 49 19) + 1) = τ10
          have h := h τ10 hτ10.symm
          refine pw_aload_n (i := 0) dX11_task_86 rfl rfl ?_
          refine pw_getI dX11_task_87 fl_X11_169 rfl rfl ?_
          refine pw_iconst (v := 1) dX11_task_90 kc_1 ?_
          refine pw_isub dX11_task_91 ?_
          exact pw_ret dX11_task_92 rfl rfl ⟨_, rfl, h⟩
        · have h := h.2 q
          refine pw_bipush (v := (-3)) dX11_task_43 kb_m3 ?_
          exact pw_ret dX11_task_45 rfl rfl ⟨_, rfl, h⟩
      · have h := h.2 q
        refine pw_iconst (v := (-1)) dX11_task_32 kc_m1 ?_
        exact pw_ret dX11_task_33 rfl rfl ⟨_, rfl, h⟩
/-! X11_isTask -/
def R_X11_isTask (a1 : Int32) (σ : pw_Mem) (K : Int32 → pw_Mem → Prop) : Prop := R_X11_in (Int32.toInt64 a1) 0 (Int32.toInt64 ((σ 49 19) - 1)) σ (fun x2 τ1 => narrow .boolean (.int x2) = .int x2 ∧ K x2 τ1)
set_option maxHeartbeats 4000000 in
theorem c_X11_isTask {L : pw_Lay} {d : Nat} {a1 : Int32} {σ : pw_Mem} {K : Int32 → pw_Mem → Prop} (h : R_X11_isTask a1 σ K) : CT L (d + 1) m_X11_isTask [.ref 49, .int a1] σ (ki K) := by
  refine pw_enter (by decide) rfl (Nat.le_of_ble_eq_true rfl) (ls := [some (.ref 49), some (.int a1)]) rfl ?_
  unfold R_X11_isTask at h
  refine pw_iload_n (i := 1) dX11_isTask_0 rfl rfl ?_
  refine pw_i2l dX11_isTask_1 ?_
  refine pw_lconst (v := 0) dX11_isTask_2 kl_0 ?_
  refine pw_aload_n (i := 0) dX11_isTask_3 rfl rfl ?_
  refine pw_getI dX11_isTask_4 fl_X11_169 rfl rfl ?_
  refine pw_iconst (v := 1) dX11_isTask_7 kc_1 ?_
  refine pw_isub dX11_isTask_8 ?_
  refine pw_i2l dX11_isTask_9 ?_
  refine pw_cSi [.long (Int32.toInt64 a1), .long 0, .long (Int32.toInt64 ((σ 49 19) - 1))] dX11_isTask_10 ms_X11_95 rfl rfl (Nat.le_of_ble_eq_true rfl) (c_X11_in h) (fun x2 τ1 h => ?_)
  obtain ⟨hn, h⟩ := h
  exact pw_ret dX11_isTask_13 rfl hn ⟨_, rfl, h⟩
/-! X11_top -/
def R_X11_top_L23 (K : Int32 → pw_Mem → Prop) (KX : Int32 → Int32 → Int32 → Int32 → Int32 → pw_Mem → Prop) : Nat → Int32 → Int32 → Int32 → Int32 → Int32 → pw_Mem → Prop
  | 0, _, _, _, _, _, _ => False
  | n + 1, l1, l2, l3, l4, l5, σ => (((σ 49 15) ≤ l5 → KX l1 l2 l3 l4 l5 σ) ∧ (¬ (σ 49 15) ≤ l5 → vp_in l5 8 ∧ ((¬ (σ 63 (Int32.toNatClampNeg l5)) = l3 → R_X11_top_L23 K KX n l1 l2 l3 l4 (l5 + 1) σ) ∧ ((σ 63 (Int32.toNatClampNeg l5)) = l3 → vp_in l5 8 ∧ vp_in (σ 64 (Int32.toNatClampNeg l5)) 20 ∧ ((¬ (σ 62 (Int32.toNatClampNeg (σ 64 (Int32.toNatClampNeg l5)))) = (-5) → vp_in l5 8 ∧ ((((σ 65 (Int32.toNatClampNeg l5)) + (σ 62 (Int32.toNatClampNeg (σ 64 (Int32.toNatClampNeg l5))))) ≤ l4 → R_X11_top_L23 K KX n l1 l2 l3 l4 (l5 + 1) σ) ∧ (¬ ((σ 65 (Int32.toNatClampNeg l5)) + (σ 62 (Int32.toNatClampNeg (σ 64 (Int32.toNatClampNeg l5))))) ≤ l4 → vp_in l5 8 ∧ R_X11_top_L23 K KX n l1 l2 l3 ((σ 65 (Int32.toNatClampNeg l5)) + (σ 62 (Int32.toNatClampNeg (σ 64 (Int32.toNatClampNeg l5))))) (l5 + 1) σ))) ∧ ((σ 62 (Int32.toNatClampNeg (σ 64 (Int32.toNatClampNeg l5)))) = (-5) → K (-5) σ))))))
def R_X11_top_L11 (K : Int32 → pw_Mem → Prop) (KX : Int32 → Int32 → Int32 → pw_Mem → Prop) : Nat → Int32 → Int32 → Int32 → pw_Mem → Prop
  | 0, _, _, _, _ => False
  | n + 1, l1, l2, l3, σ => ((8 ≤ l3 → KX l1 l2 l3 σ) ∧ (¬ 8 ≤ l3 → ∃ n7, R_X11_top_L23 K (fun y1 y2 y3 y4 y5 τ6 => R_X11_top_L11 K KX n y1 (y2 + y4) (y3 + 1) τ6) n7 l1 l2 l3 0 0 σ))
def R_X11_top (a1 : Int32) (σ : pw_Mem) (K : Int32 → pw_Mem → Prop) : Prop := vp_in a1 6 ∧ ∃ n12, R_X11_top_L11 K (fun y8 y9 y10 τ11 => K y9 τ11) n12 a1 0 ((σ 67 (Int32.toNatClampNeg a1)) + 1) σ
set_option maxHeartbeats 4000000 in
theorem t_X11_top_L23 {L : pw_Lay} {d : Nat} {K : Int32 → pw_Mem → Prop} {KX : Int32 → Int32 → Int32 → Int32 → Int32 → pw_Mem → Prop} : ∀ (n : Nat) (l1 : Int32) (l2 : Int32) (l3 : Int32) (l4 : Int32) (l5 : Int32) (σ : pw_Mem), R_X11_top_L23 K KX n l1 l2 l3 l4 l5 σ → (∀ (l1 : Int32) (l2 : Int32) (l3 : Int32) (l4 : Int32) (l5 : Int32) (τ : pw_Mem), KX l1 l2 l3 l4 l5 τ → PW L (d + 0) m_X11_top (ki K) 105 [some (.ref 49), some (.int l1), some (.int l2), some (.int l3), some (.int l4), some (.int l5), none] [] τ) → PW L (d + 0) m_X11_top (ki K) 23 [some (.ref 49), some (.int l1), some (.int l2), some (.int l3), some (.int l4), some (.int l5), none] [] σ := by
  intro n
  induction n with
  | zero => intro l1 l2 l3 l4 l5 _ h _; exact h.elim
  | succ n ih =>
    intro l1 l2 l3 l4 l5 σ h hX
    unfold R_X11_top_L23 at h
    refine pw_iload dX11_top_23 rfl ?_
    refine pw_aload_n (i := 0) dX11_top_25 rfl rfl ?_
    refine pw_getI dX11_top_26 fl_X11_166 rfl rfl ?_
    refine pw_icmp_ge (tgt := 105) dX11_top_29 rfl (fun q => ?_) (fun q => ?_)
    · have h := h.1 q
      exact hX _ _ _ _ _ _ h
    · have h := h.2 q
      refine pw_aload_n (i := 0) dX11_top_32 rfl rfl ?_
      refine pw_getR dX11_top_33 fl_X11_49 rfl rfl ?_
      refine pw_iload dX11_top_36 rfl ?_
      obtain ⟨hb, h⟩ := h
      refine pw_iald dX11_top_38 rfl hb ?_
      refine pw_iload_n (i := 3) dX11_top_39 rfl rfl ?_
      refine pw_icmp_ne (tgt := 99) dX11_top_40 rfl (fun q => ?_) (fun q => ?_)
      · have h := h.1 q
        refine pw_iinc (i := 5) (v := l5 + 1) (ls' := [some (.ref 49), some (.int l1), some (.int l2), some (.int l3), some (.int l4), some (.int (l5 + 1)), none]) dX11_top_99 rfl (by rw [kc_1]) (Nat.le_of_ble_eq_true rfl) rfl ?_
        refine pw_goto (tgt := 23) dX11_top_102 rfl ?_
        exact ih _ _ _ _ _ _ h hX
      · have h := h.2 q
        refine pw_aload_n (i := 0) dX11_top_43 rfl rfl ?_
        refine pw_getR dX11_top_44 fl_X11_46 rfl rfl ?_
        refine pw_aload_n (i := 0) dX11_top_47 rfl rfl ?_
        refine pw_getR dX11_top_48 fl_X11_52 rfl rfl ?_
        refine pw_iload dX11_top_51 rfl ?_
        obtain ⟨hb, h⟩ := h
        refine pw_iald dX11_top_53 rfl hb ?_
        obtain ⟨hb, h⟩ := h
        refine pw_iald dX11_top_54 rfl hb ?_
        refine pw_istore (i := 6) (ls' := [some (.ref 49), some (.int l1), some (.int l2), some (.int l3), some (.int l4), some (.int l5), some (.int (σ 62 (Int32.toNatClampNeg (σ 64 (Int32.toNatClampNeg l5)))))]) dX11_top_55 (Nat.le_of_ble_eq_true rfl) rfl ?_
        refine pw_iload dX11_top_57 rfl ?_
        refine pw_bipush (v := (-5)) dX11_top_59 kb_m5 ?_
        refine pw_icmp_ne (tgt := 67) dX11_top_61 rfl (fun q => ?_) (fun q => ?_)
        · have h := h.1 q
          refine pw_aload_n (i := 0) dX11_top_67 rfl rfl ?_
          refine pw_getR dX11_top_68 fl_X11_55 rfl rfl ?_
          refine pw_iload dX11_top_71 rfl ?_
          obtain ⟨hb, h⟩ := h
          refine pw_iald dX11_top_73 rfl hb ?_
          refine pw_iload dX11_top_74 rfl ?_
          refine pw_iadd dX11_top_76 ?_
          refine pw_iload dX11_top_77 rfl ?_
          refine pw_icmp_le (tgt := 95) dX11_top_79 rfl (fun q => ?_) (fun q => ?_)
          · have h := h.1 q
            refine pw_iload dX11_top_95 rfl ?_
            refine pw_istore (i := 4) (ls' := [some (.ref 49), some (.int l1), some (.int l2), some (.int l3), some (.int l4), some (.int l5), some (.int (σ 62 (Int32.toNatClampNeg (σ 64 (Int32.toNatClampNeg l5)))))]) dX11_top_97 (Nat.le_of_ble_eq_true rfl) rfl ?_
            refine pw_iinc (i := 5) (v := l5 + 1) (ls' := [some (.ref 49), some (.int l1), some (.int l2), some (.int l3), some (.int l4), some (.int (l5 + 1)), some (.int (σ 62 (Int32.toNatClampNeg (σ 64 (Int32.toNatClampNeg l5)))))]) dX11_top_99 rfl (by rw [kc_1]) (Nat.le_of_ble_eq_true rfl) rfl ?_
            refine pw_goto (tgt := 23) dX11_top_102 rfl ?_
            refine pw_forget (ls' := [some (.ref 49), some (.int l1), some (.int l2), some (.int l3), some (.int l4), some (.int (l5 + 1)), none]) (And.intro rfl (And.intro rfl (And.intro rfl (And.intro rfl (And.intro rfl (And.intro rfl trivial)))))) ?_
            exact ih _ _ _ _ _ _ h hX
          · have h := h.2 q
            refine pw_aload_n (i := 0) dX11_top_82 rfl rfl ?_
            refine pw_getR dX11_top_83 fl_X11_55 rfl rfl ?_
            refine pw_iload dX11_top_86 rfl ?_
            obtain ⟨hb, h⟩ := h
            refine pw_iald dX11_top_88 rfl hb ?_
            refine pw_iload dX11_top_89 rfl ?_
            refine pw_iadd dX11_top_91 ?_
            refine pw_goto (tgt := 97) dX11_top_92 rfl ?_
            refine pw_istore (i := 4) (ls' := [some (.ref 49), some (.int l1), some (.int l2), some (.int l3), some (.int ((σ 65 (Int32.toNatClampNeg l5)) + (σ 62 (Int32.toNatClampNeg (σ 64 (Int32.toNatClampNeg l5)))))), some (.int l5), some (.int (σ 62 (Int32.toNatClampNeg (σ 64 (Int32.toNatClampNeg l5)))))]) dX11_top_97 (Nat.le_of_ble_eq_true rfl) rfl ?_
            refine pw_iinc (i := 5) (v := l5 + 1) (ls' := [some (.ref 49), some (.int l1), some (.int l2), some (.int l3), some (.int ((σ 65 (Int32.toNatClampNeg l5)) + (σ 62 (Int32.toNatClampNeg (σ 64 (Int32.toNatClampNeg l5)))))), some (.int (l5 + 1)), some (.int (σ 62 (Int32.toNatClampNeg (σ 64 (Int32.toNatClampNeg l5)))))]) dX11_top_99 rfl (by rw [kc_1]) (Nat.le_of_ble_eq_true rfl) rfl ?_
            refine pw_goto (tgt := 23) dX11_top_102 rfl ?_
            refine pw_forget (ls' := [some (.ref 49), some (.int l1), some (.int l2), some (.int l3), some (.int ((σ 65 (Int32.toNatClampNeg l5)) + (σ 62 (Int32.toNatClampNeg (σ 64 (Int32.toNatClampNeg l5)))))), some (.int (l5 + 1)), none]) (And.intro rfl (And.intro rfl (And.intro rfl (And.intro rfl (And.intro rfl (And.intro rfl trivial)))))) ?_
            exact ih _ _ _ _ _ _ h hX
        · have h := h.2 q
          refine pw_bipush (v := (-5)) dX11_top_64 kb_m5 ?_
          exact pw_ret dX11_top_66 rfl rfl ⟨_, rfl, h⟩
set_option maxHeartbeats 4000000 in
theorem t_X11_top_L11 {L : pw_Lay} {d : Nat} {K : Int32 → pw_Mem → Prop} {KX : Int32 → Int32 → Int32 → pw_Mem → Prop} : ∀ (n : Nat) (l1 : Int32) (l2 : Int32) (l3 : Int32) (σ : pw_Mem), R_X11_top_L11 K KX n l1 l2 l3 σ → (∀ (l1 : Int32) (l2 : Int32) (l3 : Int32) (τ : pw_Mem), KX l1 l2 l3 τ → PW L (d + 0) m_X11_top (ki K) 116 [some (.ref 49), some (.int l1), some (.int l2), some (.int l3), none, none, none] [] τ) → PW L (d + 0) m_X11_top (ki K) 11 [some (.ref 49), some (.int l1), some (.int l2), some (.int l3), none, none, none] [] σ := by
  intro n
  induction n with
  | zero => intro l1 l2 l3 _ h _; exact h.elim
  | succ n ih =>
    intro l1 l2 l3 σ h hX
    unfold R_X11_top_L11 at h
    refine pw_iload_n (i := 3) dX11_top_11 rfl rfl ?_
    refine pw_bipush (v := 8) dX11_top_12 kb_8 ?_
    refine pw_icmp_ge (tgt := 116) dX11_top_14 rfl (fun q => ?_) (fun q => ?_)
    · have h := h.1 q
      exact hX _ _ _ _ h
    · have h := h.2 q
      refine pw_iconst (v := 0) dX11_top_17 kc_0 ?_
      refine pw_istore (i := 4) (ls' := [some (.ref 49), some (.int l1), some (.int l2), some (.int l3), some (.int 0), none, none]) dX11_top_18 (Nat.le_of_ble_eq_true rfl) rfl ?_
      refine pw_iconst (v := 0) dX11_top_20 kc_0 ?_
      refine pw_istore (i := 5) (ls' := [some (.ref 49), some (.int l1), some (.int l2), some (.int l3), some (.int 0), some (.int 0), none]) dX11_top_21 (Nat.le_of_ble_eq_true rfl) rfl ?_
      obtain ⟨n7, h⟩ := h
      refine t_X11_top_L23 _ _ _ _ _ _ _ h (fun y1 y2 y3 y4 y5 τ6 h => ?_)
      refine pw_iload_n (i := 2) dX11_top_105 rfl rfl ?_
      refine pw_iload dX11_top_106 rfl ?_
      refine pw_iadd dX11_top_108 ?_
      refine pw_istore_n (i := 2) (ls' := [some (.ref 49), some (.int y1), some (.int (y2 + y4)), some (.int y3), some (.int y4), some (.int y5), none]) dX11_top_109 rfl (Nat.le_of_ble_eq_true rfl) rfl ?_
      refine pw_iinc (i := 3) (v := y3 + 1) (ls' := [some (.ref 49), some (.int y1), some (.int (y2 + y4)), some (.int (y3 + 1)), some (.int y4), some (.int y5), none]) dX11_top_110 rfl (by rw [kc_1]) (Nat.le_of_ble_eq_true rfl) rfl ?_
      refine pw_goto (tgt := 11) dX11_top_113 rfl ?_
      refine pw_forget (ls' := [some (.ref 49), some (.int y1), some (.int (y2 + y4)), some (.int (y3 + 1)), none, none, none]) (And.intro rfl (And.intro rfl (And.intro rfl (And.intro rfl trivial)))) ?_
      exact ih _ _ _ _ h hX
set_option maxHeartbeats 4000000 in
theorem c_X11_top {L : pw_Lay} {d : Nat} {a1 : Int32} {σ : pw_Mem} {K : Int32 → pw_Mem → Prop} (h : R_X11_top a1 σ K) : CT L (d + 0) m_X11_top [.ref 49, .int a1] σ (ki K) := by
  refine pw_enter (by decide) rfl (Nat.le_of_ble_eq_true rfl) (ls := [some (.ref 49), some (.int a1), none, none, none, none, none]) rfl ?_
  unfold R_X11_top at h
  refine pw_iconst (v := 0) dX11_top_0 kc_0 ?_
  refine pw_istore_n (i := 2) (ls' := [some (.ref 49), some (.int a1), some (.int 0), none, none, none, none]) dX11_top_1 rfl (Nat.le_of_ble_eq_true rfl) rfl ?_
  refine pw_aload_n (i := 0) dX11_top_2 rfl rfl ?_
  refine pw_getR dX11_top_3 fl_X11_61 rfl rfl ?_
  refine pw_iload_n (i := 1) dX11_top_6 rfl rfl ?_
  obtain ⟨hb, h⟩ := h
  refine pw_iald dX11_top_7 rfl hb ?_
  refine pw_iconst (v := 1) dX11_top_8 kc_1 ?_
  refine pw_iadd dX11_top_9 ?_
  refine pw_istore_n (i := 3) (ls' := [some (.ref 49), some (.int a1), some (.int 0), some (.int ((σ 67 (Int32.toNatClampNeg a1)) + 1)), none, none, none]) dX11_top_10 rfl (Nat.le_of_ble_eq_true rfl) rfl ?_
  obtain ⟨n12, h⟩ := h
  refine t_X11_top_L11 _ _ _ _ _ h (fun y8 y9 y10 τ11 h => ?_)
  refine pw_iload_n (i := 2) dX11_top_116 rfl rfl ?_
  exact pw_ret dX11_top_117 rfl rfl ⟨_, rfl, h⟩
/-! X11_totalOf -/
def R_X11_totalOf (a1 : Int32) (σ : pw_Mem) (K : Int32 → pw_Mem → Prop) : Prop := vp_in a1 6 ∧ vp_in (σ 66 (Int32.toNatClampNeg a1)) 20 ∧ R_X11_top a1 σ (fun x2 τ1 => (((σ 62 (Int32.toNatClampNeg (σ 66 (Int32.toNatClampNeg a1)))) = (-5) → K (-5) τ1) ∧ (¬ (σ 62 (Int32.toNatClampNeg (σ 66 (Int32.toNatClampNeg a1)))) = (-5) → ((¬ x2 = (-5) → K ((σ 62 (Int32.toNatClampNeg (σ 66 (Int32.toNatClampNeg a1)))) + x2) τ1) ∧ (x2 = (-5) → K (-5) τ1)))))
set_option maxHeartbeats 4000000 in
theorem c_X11_totalOf {L : pw_Lay} {d : Nat} {a1 : Int32} {σ : pw_Mem} {K : Int32 → pw_Mem → Prop} (h : R_X11_totalOf a1 σ K) : CT L (d + 1) m_X11_totalOf [.ref 49, .int a1] σ (ki K) := by
  refine pw_enter (by decide) rfl (Nat.le_of_ble_eq_true rfl) (ls := [some (.ref 49), some (.int a1), none, none]) rfl ?_
  unfold R_X11_totalOf at h
  refine pw_aload_n (i := 0) dX11_totalOf_0 rfl rfl ?_
  refine pw_getR dX11_totalOf_1 fl_X11_46 rfl rfl ?_
  refine pw_aload_n (i := 0) dX11_totalOf_4 rfl rfl ?_
  refine pw_getR dX11_totalOf_5 fl_X11_58 rfl rfl ?_
  refine pw_iload_n (i := 1) dX11_totalOf_8 rfl rfl ?_
  obtain ⟨hb, h⟩ := h
  refine pw_iald dX11_totalOf_9 rfl hb ?_
  obtain ⟨hb, h⟩ := h
  refine pw_iald dX11_totalOf_10 rfl hb ?_
  refine pw_istore_n (i := 2) (ls' := [some (.ref 49), some (.int a1), some (.int (σ 62 (Int32.toNatClampNeg (σ 66 (Int32.toNatClampNeg a1))))), none]) dX11_totalOf_11 rfl (Nat.le_of_ble_eq_true rfl) rfl ?_
  refine pw_aload_n (i := 0) dX11_totalOf_12 rfl rfl ?_
  refine pw_iload_n (i := 1) dX11_totalOf_13 rfl rfl ?_
  refine pw_cVi [.int a1] dX11_totalOf_14 mv_X11_172 rfl rfl rfl (Nat.le_of_ble_eq_true rfl) (c_X11_top h) (fun x2 τ1 h => ?_)
  refine pw_istore_n (i := 3) (ls' := [some (.ref 49), some (.int a1), some (.int (σ 62 (Int32.toNatClampNeg (σ 66 (Int32.toNatClampNeg a1))))), some (.int x2)]) dX11_totalOf_17 rfl (Nat.le_of_ble_eq_true rfl) rfl ?_
  refine pw_iload_n (i := 2) dX11_totalOf_18 rfl rfl ?_
  refine pw_bipush (v := (-5)) dX11_totalOf_19 kb_m5 ?_
  refine pw_icmp_eq (tgt := 30) dX11_totalOf_21 rfl (fun q => ?_) (fun q => ?_)
  · have h := h.1 q
    refine pw_bipush (v := (-5)) dX11_totalOf_30 kb_m5 ?_
    refine pw_goto (tgt := 38) dX11_totalOf_32 rfl ?_
    exact pw_ret dX11_totalOf_38 rfl rfl ⟨_, rfl, h⟩
  · have h := h.2 q
    refine pw_iload_n (i := 3) dX11_totalOf_24 rfl rfl ?_
    refine pw_bipush (v := (-5)) dX11_totalOf_25 kb_m5 ?_
    refine pw_icmp_ne (tgt := 35) dX11_totalOf_27 rfl (fun q => ?_) (fun q => ?_)
    · have h := h.1 q
      refine pw_iload_n (i := 2) dX11_totalOf_35 rfl rfl ?_
      refine pw_iload_n (i := 3) dX11_totalOf_36 rfl rfl ?_
      refine pw_iadd dX11_totalOf_37 ?_
      exact pw_ret dX11_totalOf_38 rfl rfl ⟨_, rfl, h⟩
    · have h := h.2 q
      refine pw_bipush (v := (-5)) dX11_totalOf_30 kb_m5 ?_
      refine pw_goto (tgt := 38) dX11_totalOf_32 rfl ?_
      exact pw_ret dX11_totalOf_38 rfl rfl ⟨_, rfl, h⟩
/-! X11_total -/
def R_X11_total (a1 : Int32) (a2 : Int32) (σ : pw_Mem) (K : Int32 → pw_Mem → Prop) : Prop := R_X11_isTask a1 σ (fun x2 τ1 => ((x2 = 0 → K (-1) τ1) ∧ (¬ x2 = 0 → R_X11_in (Int32.toInt64 a2) 0 3 τ1 (fun x4 τ3 => ((¬ x4 = 0 → R_X11_layDepths  τ3 (fun τ5 => R_X11_totalOf a1 τ5 (fun x7 τ6 => ((¬ a2 = 0 → ((¬ a2 = 1 → ((a2 = 2 → K x7 τ6) ∧ (¬ a2 = 2 → ((¬ x7 = (-5) → vp_in a1 6 ∧ K (x7 + (τ6 68 (Int32.toNatClampNeg a1))) τ6) ∧ (x7 = (-5) → K x7 τ6))))) ∧ (a2 = 1 → R_X11_top a1 τ6 (fun x9 τ8 => K x9 τ8)))) ∧ (a2 = 0 → vp_in a1 6 ∧ vp_in (τ6 66 (Int32.toNatClampNeg a1)) 20 ∧ K (τ6 62 (Int32.toNatClampNeg (τ6 66 (Int32.toNatClampNeg a1)))) τ6))))) ∧ (x4 = 0 → K (-1) τ3))))))
set_option maxHeartbeats 4000000 in
theorem c_X11_total {L : pw_Lay} {d : Nat} {a1 : Int32} {a2 : Int32} {σ : pw_Mem} {K : Int32 → pw_Mem → Prop} (h : R_X11_total a1 a2 σ K) : CT L (d + 4) m_X11_total [.ref 49, .int a1, .int a2] σ (ki K) := by
  refine pw_enter (by decide) rfl (Nat.le_of_ble_eq_true rfl) (ls := [some (.ref 49), some (.int a1), some (.int a2), none]) rfl ?_
  unfold R_X11_total at h
  refine pw_aload_n (i := 0) dX11_total_0 rfl rfl ?_
  refine pw_iload_n (i := 1) dX11_total_1 rfl rfl ?_
  refine pw_cVi [.int a1] dX11_total_2 mv_X11_175 rfl rfl rfl (Nat.le_of_ble_eq_true rfl) (c_X11_isTask h) (fun x2 τ1 h => ?_)
  refine pw_if_eq (tgt := 20) dX11_total_5 rfl (fun q => ?_) (fun q => ?_)
  · have h := h.1 q
    refine pw_iconst (v := (-1)) dX11_total_20 kc_m1 ?_
    exact pw_ret dX11_total_21 rfl rfl ⟨_, rfl, h⟩
  · have h := h.2 q
    refine pw_iload_n (i := 2) dX11_total_8 rfl rfl ?_
    refine pw_i2l dX11_total_9 ?_
    refine pw_lconst (v := 0) dX11_total_10 kl_0 ?_
    refine pw_ldc2 dX11_total_11 k_X11_112 ?_
    refine pw_cSi [.long (Int32.toInt64 a2), .long 0, .long 3] dX11_total_14 ms_X11_95 rfl rfl (Nat.le_of_ble_eq_true rfl) (c_X11_in h) (fun x4 τ3 h => ?_)
    refine pw_if_ne (tgt := 22) dX11_total_17 rfl (fun q => ?_) (fun q => ?_)
    · have h := h.1 q
      refine pw_aload_n (i := 0) dX11_total_22 rfl rfl ?_
      refine pw_cVv [] dX11_total_23 mv_X11_155 rfl rfl rfl (Nat.le_of_ble_eq_true rfl) (c_X11_layDepths h) (fun τ5 h => ?_)
      refine pw_aload_n (i := 0) dX11_total_26 rfl rfl ?_
      refine pw_iload_n (i := 1) dX11_total_27 rfl rfl ?_
      refine pw_cVi [.int a1] dX11_total_28 mv_X11_178 rfl rfl rfl (Nat.le_of_ble_eq_true rfl) (c_X11_totalOf h) (fun x7 τ6 h => ?_)
      refine pw_istore_n (i := 3) (ls' := [some (.ref 49), some (.int a1), some (.int a2), some (.int x7)]) dX11_total_31 rfl (Nat.le_of_ble_eq_true rfl) rfl ?_
      refine pw_iload_n (i := 2) dX11_total_32 rfl rfl ?_
      refine pw_if_ne (tgt := 50) dX11_total_33 rfl (fun q => ?_) (fun q => ?_)
      · have h := h.1 q
        refine pw_iload_n (i := 2) dX11_total_50 rfl rfl ?_
        refine pw_iconst (v := 1) dX11_total_51 kc_1 ?_
        refine pw_icmp_ne (tgt := 63) dX11_total_52 rfl (fun q => ?_) (fun q => ?_)
        · have h := h.1 q
          refine pw_iload_n (i := 2) dX11_total_63 rfl rfl ?_
          refine pw_iconst (v := 2) dX11_total_64 kc_2 ?_
          refine pw_icmp_eq (tgt := 74) dX11_total_65 rfl (fun q => ?_) (fun q => ?_)
          · have h := h.1 q
            refine pw_iload_n (i := 3) dX11_total_74 rfl rfl ?_
            refine pw_goto (tgt := 86) dX11_total_75 rfl ?_
            exact pw_ret dX11_total_86 rfl rfl ⟨_, rfl, h⟩
          · have h := h.2 q
            refine pw_iload_n (i := 3) dX11_total_68 rfl rfl ?_
            refine pw_bipush (v := (-5)) dX11_total_69 kb_m5 ?_
            refine pw_icmp_ne (tgt := 78) dX11_total_71 rfl (fun q => ?_) (fun q => ?_)
            · have h := h.1 q
              refine pw_iload_n (i := 3) dX11_total_78 rfl rfl ?_
              refine pw_aload_n (i := 0) dX11_total_79 rfl rfl ?_
              refine pw_getR dX11_total_80 fl_X11_64 rfl rfl ?_
              refine pw_iload_n (i := 1) dX11_total_83 rfl rfl ?_
              obtain ⟨hb, h⟩ := h
              refine pw_iald dX11_total_84 rfl hb ?_
              refine pw_iadd dX11_total_85 ?_
              exact pw_ret dX11_total_86 rfl rfl ⟨_, rfl, h⟩
            · have h := h.2 q
              refine pw_iload_n (i := 3) dX11_total_74 rfl rfl ?_
              refine pw_goto (tgt := 86) dX11_total_75 rfl ?_
              exact pw_ret dX11_total_86 rfl rfl ⟨_, rfl, h⟩
        · have h := h.2 q
          refine pw_aload_n (i := 0) dX11_total_55 rfl rfl ?_
          refine pw_iload_n (i := 1) dX11_total_56 rfl rfl ?_
          refine pw_cVi [.int a1] dX11_total_57 mv_X11_172 rfl rfl rfl (Nat.le_of_ble_eq_true rfl) (c_X11_top h) (fun x9 τ8 h => ?_)
          refine pw_goto (tgt := 86) dX11_total_60 rfl ?_
          exact pw_ret dX11_total_86 rfl rfl ⟨_, rfl, h⟩
      · have h := h.2 q
        refine pw_aload_n (i := 0) dX11_total_36 rfl rfl ?_
        refine pw_getR dX11_total_37 fl_X11_46 rfl rfl ?_
        refine pw_aload_n (i := 0) dX11_total_40 rfl rfl ?_
        refine pw_getR dX11_total_41 fl_X11_58 rfl rfl ?_
        refine pw_iload_n (i := 1) dX11_total_44 rfl rfl ?_
        obtain ⟨hb, h⟩ := h
        refine pw_iald dX11_total_45 rfl hb ?_
        obtain ⟨hb, h⟩ := h
        refine pw_iald dX11_total_46 rfl hb ?_
        refine pw_goto (tgt := 86) dX11_total_47 rfl ?_
        exact pw_ret dX11_total_86 rfl rfl ⟨_, rfl, h⟩
    · have h := h.2 q
      refine pw_iconst (v := (-1)) dX11_total_20 kc_m1 ?_
      exact pw_ret dX11_total_21 rfl rfl ⟨_, rfl, h⟩
/-! X11_apart -/
def R_X11_apart (a1 : Int32) (a2 : Int32) (a3 : Int32) (σ : pw_Mem) (K : Int32 → pw_Mem → Prop) : Prop := R_X11_isTask a1 σ (fun x2 τ1 => ((x2 = 0 → K (-1) τ1) ∧ (¬ x2 = 0 → R_X11_isTask a2 τ1 (fun x4 τ3 => ((x4 = 0 → K (-1) τ3) ∧ (¬ x4 = 0 → ((¬ a1 = a2 → vp_in a1 6 ∧ ((a3 = 0 → vp_in a1 6 ∧ vp_in a1 6 ∧ ∀ τ5, τ5 = pw_up τ3 69 (Int32.toNatClampNeg a1) ((τ3 69 (Int32.toNatClampNeg a1)) &&& ((1 <<< (a2 &&& 31)) ^^^ (-1))) → ((a3 = 0 → vp_in a2 6 ∧ vp_in a2 6 ∧ ∀ τ6, τ6 = pw_up τ5 69 (Int32.toNatClampNeg a2) ((τ5 69 (Int32.toNatClampNeg a2)) &&& ((1 <<< (a1 &&& 31)) ^^^ (-1))) → K (((τ3 69 (Int32.toNatClampNeg a1)) >>> (a2 &&& 31)) &&& 1) τ6) ∧ (¬ a3 = 0 → vp_in a2 6 ∧ vp_in a2 6 ∧ ∀ τ7, τ7 = pw_up τ5 69 (Int32.toNatClampNeg a2) ((τ5 69 (Int32.toNatClampNeg a2)) ||| (1 <<< (a1 &&& 31))) → K (((τ3 69 (Int32.toNatClampNeg a1)) >>> (a2 &&& 31)) &&& 1) τ7))) ∧ (¬ a3 = 0 → vp_in a1 6 ∧ vp_in a1 6 ∧ ∀ τ8, τ8 = pw_up τ3 69 (Int32.toNatClampNeg a1) ((τ3 69 (Int32.toNatClampNeg a1)) ||| (1 <<< (a2 &&& 31))) → ((a3 = 0 → vp_in a2 6 ∧ vp_in a2 6 ∧ ∀ τ9, τ9 = pw_up τ8 69 (Int32.toNatClampNeg a2) ((τ8 69 (Int32.toNatClampNeg a2)) &&& ((1 <<< (a1 &&& 31)) ^^^ (-1))) → K (((τ3 69 (Int32.toNatClampNeg a1)) >>> (a2 &&& 31)) &&& 1) τ9) ∧ (¬ a3 = 0 → vp_in a2 6 ∧ vp_in a2 6 ∧ ∀ τ10, τ10 = pw_up τ8 69 (Int32.toNatClampNeg a2) ((τ8 69 (Int32.toNatClampNeg a2)) ||| (1 <<< (a1 &&& 31))) → K (((τ3 69 (Int32.toNatClampNeg a1)) >>> (a2 &&& 31)) &&& 1) τ10))))) ∧ (a1 = a2 → K (-1) τ3))))))))
set_option maxHeartbeats 4000000 in
theorem c_X11_apart {L : pw_Lay} {d : Nat} {a1 : Int32} {a2 : Int32} {a3 : Int32} {σ : pw_Mem} {K : Int32 → pw_Mem → Prop} (h : R_X11_apart a1 a2 a3 σ K) : CT L (d + 2) m_X11_apart [.ref 49, .int a1, .int a2, .int a3] σ (ki K) := by
  refine pw_enter (by decide) rfl (Nat.le_of_ble_eq_true rfl) (ls := [some (.ref 49), some (.int a1), some (.int a2), some (.int a3), none]) rfl ?_
  unfold R_X11_apart at h
  refine pw_aload_n (i := 0) dX11_apart_0 rfl rfl ?_
  refine pw_iload_n (i := 1) dX11_apart_1 rfl rfl ?_
  refine pw_cVi [.int a1] dX11_apart_2 mv_X11_175 rfl rfl rfl (Nat.le_of_ble_eq_true rfl) (c_X11_isTask h) (fun x2 τ1 h => ?_)
  refine pw_if_eq (tgt := 21) dX11_apart_5 rfl (fun q => ?_) (fun q => ?_)
  · have h := h.1 q
    refine pw_iconst (v := (-1)) dX11_apart_21 kc_m1 ?_
    exact pw_ret dX11_apart_22 rfl rfl ⟨_, rfl, h⟩
  · have h := h.2 q
    refine pw_aload_n (i := 0) dX11_apart_8 rfl rfl ?_
    refine pw_iload_n (i := 2) dX11_apart_9 rfl rfl ?_
    refine pw_cVi [.int a2] dX11_apart_10 mv_X11_175 rfl rfl rfl (Nat.le_of_ble_eq_true rfl) (c_X11_isTask h) (fun x4 τ3 h => ?_)
    refine pw_if_eq (tgt := 21) dX11_apart_13 rfl (fun q => ?_) (fun q => ?_)
    · have h := h.1 q
      refine pw_iconst (v := (-1)) dX11_apart_21 kc_m1 ?_
      exact pw_ret dX11_apart_22 rfl rfl ⟨_, rfl, h⟩
    · have h := h.2 q
      refine pw_iload_n (i := 1) dX11_apart_16 rfl rfl ?_
      refine pw_iload_n (i := 2) dX11_apart_17 rfl rfl ?_
      refine pw_icmp_ne (tgt := 23) dX11_apart_18 rfl (fun q => ?_) (fun q => ?_)
      · have h := h.1 q
        refine pw_aload_n (i := 0) dX11_apart_23 rfl rfl ?_
        refine pw_getR dX11_apart_24 fl_X11_67 rfl rfl ?_
        refine pw_iload_n (i := 1) dX11_apart_27 rfl rfl ?_
        obtain ⟨hb, h⟩ := h
        refine pw_iald dX11_apart_28 rfl hb ?_
        refine pw_iload_n (i := 2) dX11_apart_29 rfl rfl ?_
        refine pw_ishr dX11_apart_30 ?_
        refine pw_iconst (v := 1) dX11_apart_31 kc_1 ?_
        refine pw_iand dX11_apart_32 ?_
        refine pw_istore (i := 4) (ls' := [some (.ref 49), some (.int a1), some (.int a2), some (.int a3), some (.int (((τ3 69 (Int32.toNatClampNeg a1)) >>> (a2 &&& 31)) &&& 1))]) dX11_apart_33 (Nat.le_of_ble_eq_true rfl) rfl ?_
        refine pw_aload_n (i := 0) dX11_apart_35 rfl rfl ?_
        refine pw_getR dX11_apart_36 fl_X11_67 rfl rfl ?_
        refine pw_iload_n (i := 1) dX11_apart_39 rfl rfl ?_
        refine pw_iload_n (i := 3) dX11_apart_40 rfl rfl ?_
        refine pw_if_eq (tgt := 57) dX11_apart_41 rfl (fun q => ?_) (fun q => ?_)
        · have h := h.1 q
          refine pw_aload_n (i := 0) dX11_apart_57 rfl rfl ?_
          refine pw_getR dX11_apart_58 fl_X11_67 rfl rfl ?_
          refine pw_iload_n (i := 1) dX11_apart_61 rfl rfl ?_
          obtain ⟨hb, h⟩ := h
          refine pw_iald dX11_apart_62 rfl hb ?_
          refine pw_iconst (v := 1) dX11_apart_63 kc_1 ?_
          refine pw_iload_n (i := 2) dX11_apart_64 rfl rfl ?_
          refine pw_ishl dX11_apart_65 ?_
          refine pw_iconst (v := (-1)) dX11_apart_66 kc_m1 ?_
          refine pw_ixor dX11_apart_67 ?_
          refine pw_iand dX11_apart_68 ?_
          obtain ⟨hb, h⟩ := h
          refine pw_iast dX11_apart_69 rfl hb ?_
          generalize hτ5 : pw_up τ3 69 (Int32.toNatClampNeg a1) ((τ3 69 (Int32.toNatClampNeg a1)) &&& ((1 <<< (a2 &&& 31)) ^^^ (-1))) = τ5
          have h := h τ5 hτ5.symm
          refine pw_aload_n (i := 0) dX11_apart_70 rfl rfl ?_
          refine pw_getR dX11_apart_71 fl_X11_67 rfl rfl ?_
          refine pw_iload_n (i := 2) dX11_apart_74 rfl rfl ?_
          refine pw_iload_n (i := 3) dX11_apart_75 rfl rfl ?_
          refine pw_if_eq (tgt := 92) dX11_apart_76 rfl (fun q => ?_) (fun q => ?_)
          · have h := h.1 q
            refine pw_aload_n (i := 0) dX11_apart_92 rfl rfl ?_
            refine pw_getR dX11_apart_93 fl_X11_67 rfl rfl ?_
            refine pw_iload_n (i := 2) dX11_apart_96 rfl rfl ?_
            obtain ⟨hb, h⟩ := h
            refine pw_iald dX11_apart_97 rfl hb ?_
            refine pw_iconst (v := 1) dX11_apart_98 kc_1 ?_
            refine pw_iload_n (i := 1) dX11_apart_99 rfl rfl ?_
            refine pw_ishl dX11_apart_100 ?_
            refine pw_iconst (v := (-1)) dX11_apart_101 kc_m1 ?_
            refine pw_ixor dX11_apart_102 ?_
            refine pw_iand dX11_apart_103 ?_
            obtain ⟨hb, h⟩ := h
            refine pw_iast dX11_apart_104 rfl hb ?_
            generalize hτ6 : pw_up τ5 69 (Int32.toNatClampNeg a2) ((τ5 69 (Int32.toNatClampNeg a2)) &&& ((1 <<< (a1 &&& 31)) ^^^ (-1))) = τ6
            have h := h τ6 hτ6.symm
            refine pw_iload dX11_apart_105 rfl ?_
            exact pw_ret dX11_apart_107 rfl rfl ⟨_, rfl, h⟩
          · have h := h.2 q
            refine pw_aload_n (i := 0) dX11_apart_79 rfl rfl ?_
            refine pw_getR dX11_apart_80 fl_X11_67 rfl rfl ?_
            refine pw_iload_n (i := 2) dX11_apart_83 rfl rfl ?_
            obtain ⟨hb, h⟩ := h
            refine pw_iald dX11_apart_84 rfl hb ?_
            refine pw_iconst (v := 1) dX11_apart_85 kc_1 ?_
            refine pw_iload_n (i := 1) dX11_apart_86 rfl rfl ?_
            refine pw_ishl dX11_apart_87 ?_
            refine pw_ior dX11_apart_88 ?_
            refine pw_goto (tgt := 104) dX11_apart_89 rfl ?_
            obtain ⟨hb, h⟩ := h
            refine pw_iast dX11_apart_104 rfl hb ?_
            generalize hτ7 : pw_up τ5 69 (Int32.toNatClampNeg a2) ((τ5 69 (Int32.toNatClampNeg a2)) ||| (1 <<< (a1 &&& 31))) = τ7
            have h := h τ7 hτ7.symm
            refine pw_iload dX11_apart_105 rfl ?_
            exact pw_ret dX11_apart_107 rfl rfl ⟨_, rfl, h⟩
        · have h := h.2 q
          refine pw_aload_n (i := 0) dX11_apart_44 rfl rfl ?_
          refine pw_getR dX11_apart_45 fl_X11_67 rfl rfl ?_
          refine pw_iload_n (i := 1) dX11_apart_48 rfl rfl ?_
          obtain ⟨hb, h⟩ := h
          refine pw_iald dX11_apart_49 rfl hb ?_
          refine pw_iconst (v := 1) dX11_apart_50 kc_1 ?_
          refine pw_iload_n (i := 2) dX11_apart_51 rfl rfl ?_
          refine pw_ishl dX11_apart_52 ?_
          refine pw_ior dX11_apart_53 ?_
          refine pw_goto (tgt := 69) dX11_apart_54 rfl ?_
          obtain ⟨hb, h⟩ := h
          refine pw_iast dX11_apart_69 rfl hb ?_
          generalize hτ8 : pw_up τ3 69 (Int32.toNatClampNeg a1) ((τ3 69 (Int32.toNatClampNeg a1)) ||| (1 <<< (a2 &&& 31))) = τ8
          have h := h τ8 hτ8.symm
          refine pw_aload_n (i := 0) dX11_apart_70 rfl rfl ?_
          refine pw_getR dX11_apart_71 fl_X11_67 rfl rfl ?_
          refine pw_iload_n (i := 2) dX11_apart_74 rfl rfl ?_
          refine pw_iload_n (i := 3) dX11_apart_75 rfl rfl ?_
          refine pw_if_eq (tgt := 92) dX11_apart_76 rfl (fun q => ?_) (fun q => ?_)
          · have h := h.1 q
            refine pw_aload_n (i := 0) dX11_apart_92 rfl rfl ?_
            refine pw_getR dX11_apart_93 fl_X11_67 rfl rfl ?_
            refine pw_iload_n (i := 2) dX11_apart_96 rfl rfl ?_
            obtain ⟨hb, h⟩ := h
            refine pw_iald dX11_apart_97 rfl hb ?_
            refine pw_iconst (v := 1) dX11_apart_98 kc_1 ?_
            refine pw_iload_n (i := 1) dX11_apart_99 rfl rfl ?_
            refine pw_ishl dX11_apart_100 ?_
            refine pw_iconst (v := (-1)) dX11_apart_101 kc_m1 ?_
            refine pw_ixor dX11_apart_102 ?_
            refine pw_iand dX11_apart_103 ?_
            obtain ⟨hb, h⟩ := h
            refine pw_iast dX11_apart_104 rfl hb ?_
            generalize hτ9 : pw_up τ8 69 (Int32.toNatClampNeg a2) ((τ8 69 (Int32.toNatClampNeg a2)) &&& ((1 <<< (a1 &&& 31)) ^^^ (-1))) = τ9
            have h := h τ9 hτ9.symm
            refine pw_iload dX11_apart_105 rfl ?_
            exact pw_ret dX11_apart_107 rfl rfl ⟨_, rfl, h⟩
          · have h := h.2 q
            refine pw_aload_n (i := 0) dX11_apart_79 rfl rfl ?_
            refine pw_getR dX11_apart_80 fl_X11_67 rfl rfl ?_
            refine pw_iload_n (i := 2) dX11_apart_83 rfl rfl ?_
            obtain ⟨hb, h⟩ := h
            refine pw_iald dX11_apart_84 rfl hb ?_
            refine pw_iconst (v := 1) dX11_apart_85 kc_1 ?_
            refine pw_iload_n (i := 1) dX11_apart_86 rfl rfl ?_
            refine pw_ishl dX11_apart_87 ?_
            refine pw_ior dX11_apart_88 ?_
            refine pw_goto (tgt := 104) dX11_apart_89 rfl ?_
            obtain ⟨hb, h⟩ := h
            refine pw_iast dX11_apart_104 rfl hb ?_
            generalize hτ10 : pw_up τ8 69 (Int32.toNatClampNeg a2) ((τ8 69 (Int32.toNatClampNeg a2)) ||| (1 <<< (a1 &&& 31))) = τ10
            have h := h τ10 hτ10.symm
            refine pw_iload dX11_apart_105 rfl ?_
            exact pw_ret dX11_apart_107 rfl rfl ⟨_, rfl, h⟩
      · have h := h.2 q
        refine pw_iconst (v := (-1)) dX11_apart_21 kc_m1 ?_
        exact pw_ret dX11_apart_22 rfl rfl ⟨_, rfl, h⟩
