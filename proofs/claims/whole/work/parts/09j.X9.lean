/-! walks of j.X9, printed by wip/gen/mkwalk.py -/
abbrev hd_X9_takesPage_23 (b : Bool) (Q : xm_M → Prop)  (v1 : Int32) (v3 : Int32) (μ : xm_M) : Prop := xs_RT b μ → xR k_X9_takesPage none true (fun r _ μ' => xs_RT b μ' ∧ r = none ∧ Q μ') 23 [some (.ref 75), some (.int v1), none, some (.int v3), none, none, none, none, none] [] xs_sh (0, 0) μ
abbrev hd_X9_takesPage_70 (b : Bool) (Q : xm_M → Prop)  (v1 : Int32) (v3 : Int32) (v4 : Int32) (v5 : Int32) (v6 : Int32) (v7 : Int32) (μ : xm_M) : Prop := xs_RT b μ → xR k_X9_takesPage none true (fun r _ μ' => xs_RT b μ' ∧ r = none ∧ Q μ') 70 [some (.ref 75), some (.int v1), none, some (.int v3), some (.int v4), some (.int v5), some (.int v6), some (.int v7), none] [] xs_sh (0, 0) μ
abbrev hd_X9_takesPage_122 (b : Bool) (Q : xm_M → Prop)  (v1 : Int32) (v3 : Int32) (v4 : Int32) (v5 : Int32) (v6 : Int32) (v7 : Int32) (v8 : Int32) (μ : xm_M) : Prop := xs_RT b μ → xR k_X9_takesPage none true (fun r _ μ' => xs_RT b μ' ∧ r = none ∧ Q μ') 122 [some (.ref 75), some (.int v1), none, some (.int v3), some (.int v4), some (.int v5), some (.int v6), some (.int v7), some (.int v8)] [] xs_sh (0, 0) μ
set_option maxHeartbeats 4000000 in
set_option maxRecDepth 100000 in
theorem l_X9_takesPage_23 {b : Bool} {Q : xm_M → Prop} {μ : xm_M}  (v1 : Int32) (v3 : Int32) 
    (h : (((v3 &&& (nI 1)) = 0 →
       vp_in (v1 + (nI 26)) 6300 ∧
       ∀ x3 : Int32, x3 = ((μ.1 76 ((v1 + (nI 26))).toNatClampNeg) &&& (nI 255)) →
       ∀ x4 : Int32, x4 = ((v1 + (nI 27)) + x3) →
       hd_X9_takesPage_70 b Q  v1 v3 (nI 0) x3 x4 (nI 0) μ) ∧
      (¬ (v3 &&& (nI 1)) = 0 →
       ((¬ (μ.1 75 10) = 0 →
        vp_in (v1 + (nI 26)) 6300 ∧
        ∀ x7 : Int32, x7 = ((μ.1 76 ((v1 + (nI 26))).toNatClampNeg) &&& (nI 255)) →
        ∀ x8 : Int32, x8 = ((v1 + (nI 27)) + x7) →
        hd_X9_takesPage_70 b Q  v1 v3 (nI 0) x7 x8 (nI 0) μ) ∧
       ((μ.1 75 10) = 0 →
        vp_in (v1 + (nI 26)) 6300 ∧
        ∀ x10 : Int32, x10 = ((μ.1 76 ((v1 + (nI 26))).toNatClampNeg) &&& (nI 255)) →
        ∀ x11 : Int32, x11 = ((v1 + (nI 27)) + x10) →
        hd_X9_takesPage_70 b Q  v1 v3 (nI 1) x10 x11 (nI 0) μ))))) :
    hd_X9_takesPage_23 b Q  v1 v3 μ := by
  intro hR
  refine xs_iload_n dX9_takesPage_23 rfl ?_
  refine xs_iconst (nI 1) dX9_takesPage_24 (by decide) ?_
  refine xs_iand dX9_takesPage_25 ?_
  refine xs_if_eq 40 dX9_takesPage_26 (by decide) (fun c1 => ?_) (fun c1 => ?_)
  · replace h := h.1 c1
    refine xs_iconst (nI 0) dX9_takesPage_40 (by decide) ?_
    refine xs_istore [some (.ref 75), some (.int v1), none, some (.int v3), some (.int (nI 0)), none, none, none, none] dX9_takesPage_41 (by decide) rfl ?_
    refine xs_aload_n dX9_takesPage_43 rfl ?_
    refine xs_getR dX9_takesPage_44 fl_X9_13 rfl sc_75 (rt_75_1 hR) ?_
    refine xs_iload_n dX9_takesPage_47 rfl ?_
    refine xs_bipush (nI 26) dX9_takesPage_48 (by decide) ?_
    refine xs_iadd dX9_takesPage_50 ?_
    obtain ⟨s2, h⟩ := h
    refine xs_bald dX9_takesPage_51 sc_76 s2 ?_
    refine xs_sipush (nI 255) dX9_takesPage_52 (by decide) ?_
    refine xs_iand dX9_takesPage_55 ?_
    refine xs_nmI (fun x3 e_x3 => ?_)
    replace h := h x3 e_x3
    refine xs_istore [some (.ref 75), some (.int v1), none, some (.int v3), some (.int (nI 0)), some (.int x3), none, none, none] dX9_takesPage_56 (by decide) rfl ?_
    refine xs_iload_n dX9_takesPage_58 rfl ?_
    refine xs_bipush (nI 27) dX9_takesPage_59 (by decide) ?_
    refine xs_iadd dX9_takesPage_61 ?_
    refine xs_iload dX9_takesPage_62 rfl ?_
    refine xs_iadd dX9_takesPage_64 ?_
    refine xs_nmI (fun x4 e_x4 => ?_)
    replace h := h x4 e_x4
    refine xs_istore [some (.ref 75), some (.int v1), none, some (.int v3), some (.int (nI 0)), some (.int x3), some (.int x4), none, none] dX9_takesPage_65 (by decide) rfl ?_
    refine xs_iconst (nI 0) dX9_takesPage_67 (by decide) ?_
    refine xs_istore [some (.ref 75), some (.int v1), none, some (.int v3), some (.int (nI 0)), some (.int x3), some (.int x4), some (.int (nI 0)), none] dX9_takesPage_68 (by decide) rfl ?_
    exact xs_loc [some (.ref 75), some (.int v1), none, some (.int v3), some (.int (nI 0)), some (.int x3), some (.int x4), some (.int (nI 0)), none] ⟨rfl, ⟨rfl, ⟨rfl, ⟨rfl, ⟨rfl, ⟨rfl, ⟨rfl, trivial⟩⟩⟩⟩⟩⟩⟩ (h hR)
  · replace h := h.2 c1
    refine xs_aload_n dX9_takesPage_29 rfl ?_
    refine xs_getI dX9_takesPage_30 fl_X9_134.g rfl sc_75 ?_
    refine xs_if_ne 40 dX9_takesPage_33 (by decide) (fun c5 => ?_) (fun c5 => ?_)
    · replace h := h.1 c5
      refine xs_iconst (nI 0) dX9_takesPage_40 (by decide) ?_
      refine xs_istore [some (.ref 75), some (.int v1), none, some (.int v3), some (.int (nI 0)), none, none, none, none] dX9_takesPage_41 (by decide) rfl ?_
      refine xs_aload_n dX9_takesPage_43 rfl ?_
      refine xs_getR dX9_takesPage_44 fl_X9_13 rfl sc_75 (rt_75_1 hR) ?_
      refine xs_iload_n dX9_takesPage_47 rfl ?_
      refine xs_bipush (nI 26) dX9_takesPage_48 (by decide) ?_
      refine xs_iadd dX9_takesPage_50 ?_
      obtain ⟨s6, h⟩ := h
      refine xs_bald dX9_takesPage_51 sc_76 s6 ?_
      refine xs_sipush (nI 255) dX9_takesPage_52 (by decide) ?_
      refine xs_iand dX9_takesPage_55 ?_
      refine xs_nmI (fun x7 e_x7 => ?_)
      replace h := h x7 e_x7
      refine xs_istore [some (.ref 75), some (.int v1), none, some (.int v3), some (.int (nI 0)), some (.int x7), none, none, none] dX9_takesPage_56 (by decide) rfl ?_
      refine xs_iload_n dX9_takesPage_58 rfl ?_
      refine xs_bipush (nI 27) dX9_takesPage_59 (by decide) ?_
      refine xs_iadd dX9_takesPage_61 ?_
      refine xs_iload dX9_takesPage_62 rfl ?_
      refine xs_iadd dX9_takesPage_64 ?_
      refine xs_nmI (fun x8 e_x8 => ?_)
      replace h := h x8 e_x8
      refine xs_istore [some (.ref 75), some (.int v1), none, some (.int v3), some (.int (nI 0)), some (.int x7), some (.int x8), none, none] dX9_takesPage_65 (by decide) rfl ?_
      refine xs_iconst (nI 0) dX9_takesPage_67 (by decide) ?_
      refine xs_istore [some (.ref 75), some (.int v1), none, some (.int v3), some (.int (nI 0)), some (.int x7), some (.int x8), some (.int (nI 0)), none] dX9_takesPage_68 (by decide) rfl ?_
      exact xs_loc [some (.ref 75), some (.int v1), none, some (.int v3), some (.int (nI 0)), some (.int x7), some (.int x8), some (.int (nI 0)), none] ⟨rfl, ⟨rfl, ⟨rfl, ⟨rfl, ⟨rfl, ⟨rfl, ⟨rfl, trivial⟩⟩⟩⟩⟩⟩⟩ (h hR)
    · replace h := h.2 c5
      refine xs_iconst (nI 1) dX9_takesPage_36 (by decide) ?_
      refine xs_goto 41 dX9_takesPage_37 (by decide) ?_
      refine xs_istore [some (.ref 75), some (.int v1), none, some (.int v3), some (.int (nI 1)), none, none, none, none] dX9_takesPage_41 (by decide) rfl ?_
      refine xs_aload_n dX9_takesPage_43 rfl ?_
      refine xs_getR dX9_takesPage_44 fl_X9_13 rfl sc_75 (rt_75_1 hR) ?_
      refine xs_iload_n dX9_takesPage_47 rfl ?_
      refine xs_bipush (nI 26) dX9_takesPage_48 (by decide) ?_
      refine xs_iadd dX9_takesPage_50 ?_
      obtain ⟨s9, h⟩ := h
      refine xs_bald dX9_takesPage_51 sc_76 s9 ?_
      refine xs_sipush (nI 255) dX9_takesPage_52 (by decide) ?_
      refine xs_iand dX9_takesPage_55 ?_
      refine xs_nmI (fun x10 e_x10 => ?_)
      replace h := h x10 e_x10
      refine xs_istore [some (.ref 75), some (.int v1), none, some (.int v3), some (.int (nI 1)), some (.int x10), none, none, none] dX9_takesPage_56 (by decide) rfl ?_
      refine xs_iload_n dX9_takesPage_58 rfl ?_
      refine xs_bipush (nI 27) dX9_takesPage_59 (by decide) ?_
      refine xs_iadd dX9_takesPage_61 ?_
      refine xs_iload dX9_takesPage_62 rfl ?_
      refine xs_iadd dX9_takesPage_64 ?_
      refine xs_nmI (fun x11 e_x11 => ?_)
      replace h := h x11 e_x11
      refine xs_istore [some (.ref 75), some (.int v1), none, some (.int v3), some (.int (nI 1)), some (.int x10), some (.int x11), none, none] dX9_takesPage_65 (by decide) rfl ?_
      refine xs_iconst (nI 0) dX9_takesPage_67 (by decide) ?_
      refine xs_istore [some (.ref 75), some (.int v1), none, some (.int v3), some (.int (nI 1)), some (.int x10), some (.int x11), some (.int (nI 0)), none] dX9_takesPage_68 (by decide) rfl ?_
      exact xs_loc [some (.ref 75), some (.int v1), none, some (.int v3), some (.int (nI 1)), some (.int x10), some (.int x11), some (.int (nI 0)), none] ⟨rfl, ⟨rfl, ⟨rfl, ⟨rfl, ⟨rfl, ⟨rfl, ⟨rfl, trivial⟩⟩⟩⟩⟩⟩⟩ (h hR)
set_option maxHeartbeats 4000000 in
set_option maxRecDepth 100000 in
theorem l_X9_takesPage_70 {b : Bool} {Q : xm_M → Prop} {μ : xm_M}  (v1 : Int32) (v3 : Int32) (v4 : Int32) (v5 : Int32) (v6 : Int32) (v7 : Int32) 
    (h : ((v5 ≤ v7 →
       (((v3 &&& (nI 4)) = 0 →
        ∀ m3 : xm_M, m3 = xu_I μ 75 (upd (μ.1 75) 12 (nI 0)) →
        ∃ Q4 : Int64 → xm_M → Prop, xCl b b k_X9_low m3 [.ref 76, .int (v1 + (nI 6)), .int (nI 8)] Q4 ∧
        ∀ (r6 : Int64) (m5 : xm_M), Q4 r6 m5 →
        ∀ m8 : xm_M, m8 = xu_L m5 75 (vp_updL (m5.2.1 75) 13 r6) →
        Q m8) ∧
       (¬ (v3 &&& (nI 4)) = 0 →
        ∀ m9 : xm_M, m9 = xu_I μ 75 (upd (μ.1 75) 12 (nI 1)) →
        ∃ Q10 : Int64 → xm_M → Prop, xCl b b k_X9_low m9 [.ref 76, .int (v1 + (nI 6)), .int (nI 8)] Q10 ∧
        ∀ (r12 : Int64) (m11 : xm_M), Q10 r12 m11 →
        ∀ m14 : xm_M, m14 = xu_L m11 75 (vp_updL (m11.2.1 75) 13 r12) →
        Q m14))) ∧
      (¬ v5 ≤ v7 →
       vp_in ((v1 + (nI 27)) + v7) 6300 ∧
       ∀ x16 : Int32, x16 = ((μ.1 76 (((v1 + (nI 27)) + v7)).toNatClampNeg) &&& (nI 255)) →
       ((¬ v4 = 0 →
        (((nI 255) ≤ x16 →
         hd_X9_takesPage_122 b Q  v1 v3 v4 v5 v6 v7 x16 μ) ∧
        (¬ (nI 255) ≤ x16 →
         hd_X9_takesPage_122 b Q  v1 v3 (nI 0) v5 v6 v7 x16 μ))) ∧
       (v4 = 0 →
        ∃ Q19 : xm_M → Prop, xCv b b k_X9_laces μ [.ref 75, .int v6, .int x16] Q19 ∧
        ∀ m20 : xm_M, Q19 m20 →
        hd_X9_takesPage_122 b Q  v1 v3 v4 v5 v6 v7 x16 m20))))) :
    hd_X9_takesPage_70 b Q  v1 v3 v4 v5 v6 v7 μ := by
  intro hR
  refine xs_iload dX9_takesPage_70 rfl ?_
  refine xs_iload dX9_takesPage_72 rfl ?_
  refine xs_icmp_ge 135 dX9_takesPage_74 (by decide) (fun c1 => ?_) (fun c1 => ?_)
  · replace h := h.1 c1
    refine xs_aload_n dX9_takesPage_135 rfl ?_
    refine xs_iload_n dX9_takesPage_136 rfl ?_
    refine xs_iconst (nI 4) dX9_takesPage_137 (by decide) ?_
    refine xs_iand dX9_takesPage_138 ?_
    refine xs_if_eq 146 dX9_takesPage_139 (by decide) (fun c2 => ?_) (fun c2 => ?_)
    · replace h := h.1 c2
      refine xs_iconst (nI 0) dX9_takesPage_146 (by decide) ?_
      refine xs_putI dX9_takesPage_147 fl_X9_148 rfl rfl rfl sc_75 ?_
      refine xs_nmM (fun m3 e_m3 => ?_)
      replace h := h m3 e_m3
      have hR : xs_RT b m3 := by rw [e_m3]; exact hR
      refine xs_aload_n dX9_takesPage_150 rfl ?_
      refine xs_aload_n dX9_takesPage_151 rfl ?_
      refine xs_getR dX9_takesPage_152 fl_X9_13 rfl sc_75 (rt_75_1 hR) ?_
      refine xs_iload_n dX9_takesPage_155 rfl ?_
      refine xs_bipush (nI 6) dX9_takesPage_156 (by decide) ?_
      refine xs_iadd dX9_takesPage_158 ?_
      refine xs_bipush (nI 8) dX9_takesPage_159 (by decide) ?_
      obtain ⟨Q4, hQ4, h⟩ := h
      refine xs_callS (j := k_X9_low) (As := [.ref 76, .int (v1 + (nI 6)), .int (nI 8)]) (S := [.ref 75]) dX9_takesPage_161 (hQ4 hR) ⟨ml_X9_127, mk_X9_low.1, mk_X9_low.2.1, mk_X9_low.2.2⟩ ms_X9_low ⟨Nat.le_of_ble_eq_true rfl, Nat.le_of_ble_eq_true rfl⟩ rfl (Nat.le_of_ble_eq_true rfl) ⟨rfl, rfl⟩ (fun rr m5 hq7 => ?_)
      obtain ⟨hR, r6, rfl, hq7⟩ := hq7
      replace h := h r6 m5 hq7
      refine xs_putL dX9_takesPage_164 fl_X9_151 rfl sc_75 ?_
      refine xs_nmM (fun m8 e_m8 => ?_)
      replace h := h m8 e_m8
      have hR : xs_RT b m8 := by rw [e_m8]; exact hR
      exact xs_ret none dX9_takesPage_167 trivial rfl ⟨hR, rfl, h⟩
    · replace h := h.2 c2
      refine xs_iconst (nI 1) dX9_takesPage_142 (by decide) ?_
      refine xs_goto 147 dX9_takesPage_143 (by decide) ?_
      refine xs_putI dX9_takesPage_147 fl_X9_148 rfl rfl rfl sc_75 ?_
      refine xs_nmM (fun m9 e_m9 => ?_)
      replace h := h m9 e_m9
      have hR : xs_RT b m9 := by rw [e_m9]; exact hR
      refine xs_aload_n dX9_takesPage_150 rfl ?_
      refine xs_aload_n dX9_takesPage_151 rfl ?_
      refine xs_getR dX9_takesPage_152 fl_X9_13 rfl sc_75 (rt_75_1 hR) ?_
      refine xs_iload_n dX9_takesPage_155 rfl ?_
      refine xs_bipush (nI 6) dX9_takesPage_156 (by decide) ?_
      refine xs_iadd dX9_takesPage_158 ?_
      refine xs_bipush (nI 8) dX9_takesPage_159 (by decide) ?_
      obtain ⟨Q10, hQ10, h⟩ := h
      refine xs_callS (j := k_X9_low) (As := [.ref 76, .int (v1 + (nI 6)), .int (nI 8)]) (S := [.ref 75]) dX9_takesPage_161 (hQ10 hR) ⟨ml_X9_127, mk_X9_low.1, mk_X9_low.2.1, mk_X9_low.2.2⟩ ms_X9_low ⟨Nat.le_of_ble_eq_true rfl, Nat.le_of_ble_eq_true rfl⟩ rfl (Nat.le_of_ble_eq_true rfl) ⟨rfl, rfl⟩ (fun rr m11 hq13 => ?_)
      obtain ⟨hR, r12, rfl, hq13⟩ := hq13
      replace h := h r12 m11 hq13
      refine xs_putL dX9_takesPage_164 fl_X9_151 rfl sc_75 ?_
      refine xs_nmM (fun m14 e_m14 => ?_)
      replace h := h m14 e_m14
      have hR : xs_RT b m14 := by rw [e_m14]; exact hR
      exact xs_ret none dX9_takesPage_167 trivial rfl ⟨hR, rfl, h⟩
  · replace h := h.2 c1
    refine xs_aload_n dX9_takesPage_77 rfl ?_
    refine xs_getR dX9_takesPage_78 fl_X9_13 rfl sc_75 (rt_75_1 hR) ?_
    refine xs_iload_n dX9_takesPage_81 rfl ?_
    refine xs_bipush (nI 27) dX9_takesPage_82 (by decide) ?_
    refine xs_iadd dX9_takesPage_84 ?_
    refine xs_iload dX9_takesPage_85 rfl ?_
    refine xs_iadd dX9_takesPage_87 ?_
    obtain ⟨s15, h⟩ := h
    refine xs_bald dX9_takesPage_88 sc_76 s15 ?_
    refine xs_sipush (nI 255) dX9_takesPage_89 (by decide) ?_
    refine xs_iand dX9_takesPage_92 ?_
    refine xs_nmI (fun x16 e_x16 => ?_)
    replace h := h x16 e_x16
    refine xs_istore [some (.ref 75), some (.int v1), none, some (.int v3), some (.int v4), some (.int v5), some (.int v6), some (.int v7), some (.int x16)] dX9_takesPage_93 (by decide) rfl ?_
    refine xs_iload dX9_takesPage_95 rfl ?_
    refine xs_if_ne 111 dX9_takesPage_97 (by decide) (fun c17 => ?_) (fun c17 => ?_)
    · replace h := h.1 c17
      refine xs_iload dX9_takesPage_111 rfl ?_
      refine xs_sipush (nI 255) dX9_takesPage_113 (by decide) ?_
      refine xs_icmp_ge 122 dX9_takesPage_116 (by decide) (fun c18 => ?_) (fun c18 => ?_)
      · replace h := h.1 c18
        exact xs_loc [some (.ref 75), some (.int v1), none, some (.int v3), some (.int v4), some (.int v5), some (.int v6), some (.int v7), some (.int x16)] ⟨rfl, ⟨rfl, ⟨rfl, ⟨rfl, ⟨rfl, ⟨rfl, ⟨rfl, ⟨rfl, trivial⟩⟩⟩⟩⟩⟩⟩⟩ (h hR)
      · replace h := h.2 c18
        refine xs_iconst (nI 0) dX9_takesPage_119 (by decide) ?_
        refine xs_istore [some (.ref 75), some (.int v1), none, some (.int v3), some (.int (nI 0)), some (.int v5), some (.int v6), some (.int v7), some (.int x16)] dX9_takesPage_120 (by decide) rfl ?_
        exact xs_loc [some (.ref 75), some (.int v1), none, some (.int v3), some (.int (nI 0)), some (.int v5), some (.int v6), some (.int v7), some (.int x16)] ⟨rfl, ⟨rfl, ⟨rfl, ⟨rfl, ⟨rfl, ⟨rfl, ⟨rfl, ⟨rfl, trivial⟩⟩⟩⟩⟩⟩⟩⟩ (h hR)
    · replace h := h.2 c17
      refine xs_aload_n dX9_takesPage_100 rfl ?_
      refine xs_iload dX9_takesPage_101 rfl ?_
      refine xs_iload dX9_takesPage_103 rfl ?_
      obtain ⟨Q19, hQ19, h⟩ := h
      refine xs_callV (j := k_X9_laces) (As := [.int v6, .int x16]) (S := []) dX9_takesPage_105 (hQ19 hR) ⟨ml_X9_144, mk_X9_laces.1, mk_X9_laces.2.1, mk_X9_laces.2.2⟩ mv_X9_laces ⟨Nat.le_of_ble_eq_true rfl, Nat.le_of_ble_eq_true rfl⟩ rfl (Nat.le_of_ble_eq_true rfl) sc_75 rfl ⟨rfl, rfl⟩ (fun rr m20 hq22 => ?_)
      obtain ⟨hR, rfl, hq22⟩ := hq22
      replace h := h m20 hq22
      refine xs_goto 122 dX9_takesPage_108 (by decide) ?_
      exact xs_loc [some (.ref 75), some (.int v1), none, some (.int v3), some (.int v4), some (.int v5), some (.int v6), some (.int v7), some (.int x16)] ⟨rfl, ⟨rfl, ⟨rfl, ⟨rfl, ⟨rfl, ⟨rfl, ⟨rfl, ⟨rfl, trivial⟩⟩⟩⟩⟩⟩⟩⟩ (h hR)
set_option maxHeartbeats 4000000 in
set_option maxRecDepth 100000 in
theorem l_X9_takesPage_122 {b : Bool} {Q : xm_M → Prop} {μ : xm_M}  (v1 : Int32) (v3 : Int32) (v4 : Int32) (v5 : Int32) (v6 : Int32) (v7 : Int32) (v8 : Int32) 
    (h : ∀ x1 : Int32, x1 = (v6 + v8) →
      ∀ x2 : Int32, x2 = v7 + nI 1 →
      hd_X9_takesPage_70 b Q  v1 v3 v4 v5 x1 x2 μ) :
    hd_X9_takesPage_122 b Q  v1 v3 v4 v5 v6 v7 v8 μ := by
  intro hR
  refine xs_iload dX9_takesPage_122 rfl ?_
  refine xs_iload dX9_takesPage_124 rfl ?_
  refine xs_iadd dX9_takesPage_126 ?_
  refine xs_nmI (fun x1 e_x1 => ?_)
  replace h := h x1 e_x1
  refine xs_istore [some (.ref 75), some (.int v1), none, some (.int v3), some (.int v4), some (.int v5), some (.int x1), some (.int v7), some (.int v8)] dX9_takesPage_127 (by decide) rfl ?_
  obtain ⟨x2, e_x2⟩ : ∃ z : Int32, z = v7 + nI 1 := ⟨_, rfl⟩
  replace h := h x2 e_x2
  refine xs_iinc x2 [some (.ref 75), some (.int v1), none, some (.int v3), some (.int v4), some (.int v5), some (.int x1), some (.int x2), some (.int v8)] dX9_takesPage_129 (by decide) rfl (by rw [e_x2]; rfl) rfl ?_
  refine xs_goto 70 dX9_takesPage_132 (by decide) ?_
  exact xs_loc [some (.ref 75), some (.int v1), none, some (.int v3), some (.int v4), some (.int v5), some (.int x1), some (.int x2), none] ⟨rfl, ⟨rfl, ⟨rfl, ⟨rfl, ⟨rfl, ⟨rfl, ⟨rfl, trivial⟩⟩⟩⟩⟩⟩⟩ (h hR)
set_option maxHeartbeats 4000000 in
set_option maxRecDepth 100000 in
theorem g_X9_takesPage {b : Bool} {Q : xm_M → Prop} {μ : xm_M} (v1 : Int32) (v2 : Int32) 
    (h : vp_in (v1 + (nI 5)) 6300 ∧
      ((v2 = 0 →
       ∃ Q3 : xm_M → Prop, xCv b b k_X9_begins μ [.ref 75] Q3 ∧
       ∀ m4 : xm_M, Q3 m4 →
       hd_X9_takesPage_23 b Q  v1 (μ.1 76 ((v1 + (nI 5))).toNatClampNeg) m4) ∧
      (¬ v2 = 0 →
       ((¬ ((μ.1 76 ((v1 + (nI 5))).toNatClampNeg) &&& (nI 1)) = 0 →
        hd_X9_takesPage_23 b Q  v1 (μ.1 76 ((v1 + (nI 5))).toNatClampNeg) μ) ∧
       (((μ.1 76 ((v1 + (nI 5))).toNatClampNeg) &&& (nI 1)) = 0 →
        ∃ Q8 : xm_M → Prop, xCv b b k_X9_begins μ [.ref 75] Q8 ∧
        ∀ m9 : xm_M, Q8 m9 →
        hd_X9_takesPage_23 b Q  v1 (μ.1 76 ((v1 + (nI 5))).toNatClampNeg) m9))))) :
    xCv b b k_X9_takesPage μ [.ref 75, .int v1, .int v2] Q := by
  intro hR
  refine xm_met [some (.ref 75), some (.int v1), some (.int v2), none, none, none, none, none, none] 6 (by decide) (by simp [lg_sl, Value.category]) rfl ?_
  refine xs_aload_n dX9_takesPage_0 rfl ?_
  refine xs_getR dX9_takesPage_1 fl_X9_13 rfl sc_75 (rt_75_1 hR) ?_
  refine xs_iload_n dX9_takesPage_4 rfl ?_
  refine xs_iconst (nI 5) dX9_takesPage_5 (by decide) ?_
  refine xs_iadd dX9_takesPage_6 ?_
  obtain ⟨s1, h⟩ := h
  refine xs_bald dX9_takesPage_7 sc_76 s1 ?_
  refine xs_istore_n [some (.ref 75), some (.int v1), some (.int v2), some (.int (μ.1 76 ((v1 + (nI 5))).toNatClampNeg)), none, none, none, none, none] dX9_takesPage_8 (by decide) rfl ?_
  refine xs_iload_n dX9_takesPage_9 rfl ?_
  refine xs_if_eq 19 dX9_takesPage_10 (by decide) (fun c2 => ?_) (fun c2 => ?_)
  · replace h := h.1 c2
    refine xs_aload_n dX9_takesPage_19 rfl ?_
    obtain ⟨Q3, hQ3, h⟩ := h
    refine xs_callV (j := k_X9_begins) (As := []) (S := []) dX9_takesPage_20 (hQ3 hR) ⟨ml_X9_141, mk_X9_begins.1, mk_X9_begins.2.1, mk_X9_begins.2.2⟩ mv_X9_begins ⟨Nat.le_of_ble_eq_true rfl, Nat.le_of_ble_eq_true rfl⟩ rfl (Nat.le_of_ble_eq_true rfl) sc_75 rfl ⟨rfl, rfl⟩ (fun rr m4 hq6 => ?_)
    obtain ⟨hR, rfl, hq6⟩ := hq6
    replace h := h m4 hq6
    exact xs_loc [some (.ref 75), some (.int v1), none, some (.int (μ.1 76 ((v1 + (nI 5))).toNatClampNeg)), none, none, none, none, none] ⟨rfl, ⟨rfl, ⟨rfl, trivial⟩⟩⟩ (h hR)
  · replace h := h.2 c2
    refine xs_iload_n dX9_takesPage_13 rfl ?_
    refine xs_iconst (nI 1) dX9_takesPage_14 (by decide) ?_
    refine xs_iand dX9_takesPage_15 ?_
    refine xs_if_ne 23 dX9_takesPage_16 (by decide) (fun c7 => ?_) (fun c7 => ?_)
    · replace h := h.1 c7
      exact xs_loc [some (.ref 75), some (.int v1), none, some (.int (μ.1 76 ((v1 + (nI 5))).toNatClampNeg)), none, none, none, none, none] ⟨rfl, ⟨rfl, ⟨rfl, trivial⟩⟩⟩ (h hR)
    · replace h := h.2 c7
      refine xs_aload_n dX9_takesPage_19 rfl ?_
      obtain ⟨Q8, hQ8, h⟩ := h
      refine xs_callV (j := k_X9_begins) (As := []) (S := []) dX9_takesPage_20 (hQ8 hR) ⟨ml_X9_141, mk_X9_begins.1, mk_X9_begins.2.1, mk_X9_begins.2.2⟩ mv_X9_begins ⟨Nat.le_of_ble_eq_true rfl, Nat.le_of_ble_eq_true rfl⟩ rfl (Nat.le_of_ble_eq_true rfl) sc_75 rfl ⟨rfl, rfl⟩ (fun rr m9 hq11 => ?_)
      obtain ⟨hR, rfl, hq11⟩ := hq11
      replace h := h m9 hq11
      exact xs_loc [some (.ref 75), some (.int v1), none, some (.int (μ.1 76 ((v1 + (nI 5))).toNatClampNeg)), none, none, none, none, none] ⟨rfl, ⟨rfl, ⟨rfl, trivial⟩⟩⟩ (h hR)
abbrev hd_X9_pages_10 (b : Bool) (Q : xm_M → Prop)  (v1 : Int32) (v2 : Int64) (v4 : Int32) (v5 : Int32) (μ : xm_M) : Prop := xs_RT b μ → xR k_X9_pages none true (fun r _ μ' => xs_RT b μ' ∧ r = none ∧ Q μ') 10 [some (.ref 75), some (.int v1), some (.long v2), none, some (.int v4), some (.int v5), none, none, none, none] [] xs_sh (0, 0) μ
abbrev hd_X9_pages_60 (b : Bool) (Q : xm_M → Prop)  (v1 : Int32) (v2 : Int64) (v4 : Int32) (v5 : Int32) (v6 : Int32) (v7 : Int64) (μ : xm_M) : Prop := xs_RT b μ → xR k_X9_pages none true (fun r _ μ' => xs_RT b μ' ∧ r = none ∧ Q μ') 60 [some (.ref 75), some (.int v1), some (.long v2), none, some (.int v4), some (.int v5), some (.int v6), some (.long v7), none, none] [] xs_sh (0, 0) μ
abbrev hd_X9_pages_139 (b : Bool) (Q : xm_M → Prop)  (v1 : Int32) (v2 : Int64) (v4 : Int32) (v6 : Int32) (μ : xm_M) : Prop := xs_RT b μ → xR k_X9_pages none true (fun r _ μ' => xs_RT b μ' ∧ r = none ∧ Q μ') 139 [some (.ref 75), some (.int v1), some (.long v2), none, some (.int v4), none, some (.int v6), none, none, none] [] xs_sh (0, 0) μ
set_option maxHeartbeats 4000000 in
set_option maxRecDepth 100000 in
theorem l_X9_pages_10 {b : Bool} {Q : xm_M → Prop} {μ : xm_M}  (v1 : Int32) (v2 : Int64) (v4 : Int32) (v5 : Int32) 
    (h : ((v1 ≤ v5 →
       Q μ) ∧
      (¬ v1 ≤ v5 →
       ∃ Q2 : Int32 → xm_M → Prop, xCi b b k_X9_pageEnd μ [.ref 75, .int v5, .int v1] Q2 ∧
       ∀ (r4 : Int32) (m3 : xm_M), Q2 r4 m3 →
       ((0 ≤ r4 →
        ∃ Q7 : Int64 → xm_M → Prop, xCl b b k_X9_low m3 [.ref 76, .int (v5 + (nI 14)), .int (nI 4)] Q7 ∧
        ∀ (r9 : Int64) (m8 : xm_M), Q7 r9 m8 →
        ((0 ≤ (lg_cmp v2 (0 : Int64)) →
         hd_X9_pages_60 b Q  v1 v2 v4 v5 r4 r9 m8) ∧
        (¬ 0 ≤ (lg_cmp v2 (0 : Int64)) →
         hd_X9_pages_60 b Q  v1 r9 v4 v5 r4 r9 m8))) ∧
       (¬ 0 ≤ r4 →
        ∀ x12 : Int32, x12 = v5 + nI 1 →
        hd_X9_pages_10 b Q  v1 v2 v4 x12 m3))))) :
    hd_X9_pages_10 b Q  v1 v2 v4 v5 μ := by
  intro hR
  refine xs_iload dX9_pages_10 rfl ?_
  refine xs_iload_n dX9_pages_12 rfl ?_
  refine xs_icmp_ge 146 dX9_pages_13 (by decide) (fun c1 => ?_) (fun c1 => ?_)
  · replace h := h.1 c1
    exact xs_ret none dX9_pages_146 trivial rfl ⟨hR, rfl, h⟩
  · replace h := h.2 c1
    refine xs_aload_n dX9_pages_16 rfl ?_
    refine xs_iload dX9_pages_17 rfl ?_
    refine xs_iload_n dX9_pages_19 rfl ?_
    obtain ⟨Q2, hQ2, h⟩ := h
    refine xs_callV (j := k_X9_pageEnd) (As := [.int v5, .int v1]) (S := []) dX9_pages_20 (hQ2 hR) ⟨ml_X9_157, mk_X9_pageEnd.1, mk_X9_pageEnd.2.1, mk_X9_pageEnd.2.2⟩ mv_X9_pageEnd ⟨Nat.le_of_ble_eq_true rfl, Nat.le_of_ble_eq_true rfl⟩ rfl (Nat.le_of_ble_eq_true rfl) sc_75 rfl ⟨rfl, rfl⟩ (fun rr m3 hq5 => ?_)
    obtain ⟨hR, r4, rfl, hq5⟩ := hq5
    replace h := h r4 m3 hq5
    refine xs_istore [some (.ref 75), some (.int v1), some (.long v2), none, some (.int v4), some (.int v5), some (.int r4), none, none, none] dX9_pages_23 (by decide) rfl ?_
    refine xs_iload dX9_pages_25 rfl ?_
    refine xs_if_ge 36 dX9_pages_27 (by decide) (fun c6 => ?_) (fun c6 => ?_)
    · replace h := h.1 c6
      refine xs_aload_n dX9_pages_36 rfl ?_
      refine xs_getR dX9_pages_37 fl_X9_13 rfl sc_75 (rt_75_1 hR) ?_
      refine xs_iload dX9_pages_40 rfl ?_
      refine xs_bipush (nI 14) dX9_pages_42 (by decide) ?_
      refine xs_iadd dX9_pages_44 ?_
      refine xs_iconst (nI 4) dX9_pages_45 (by decide) ?_
      obtain ⟨Q7, hQ7, h⟩ := h
      refine xs_callS (j := k_X9_low) (As := [.ref 76, .int (v5 + (nI 14)), .int (nI 4)]) (S := []) dX9_pages_46 (hQ7 hR) ⟨ml_X9_127, mk_X9_low.1, mk_X9_low.2.1, mk_X9_low.2.2⟩ ms_X9_low ⟨Nat.le_of_ble_eq_true rfl, Nat.le_of_ble_eq_true rfl⟩ rfl (Nat.le_of_ble_eq_true rfl) ⟨rfl, rfl⟩ (fun rr m8 hq10 => ?_)
      obtain ⟨hR, r9, rfl, hq10⟩ := hq10
      replace h := h r9 m8 hq10
      refine xs_lstore [some (.ref 75), some (.int v1), some (.long v2), none, some (.int v4), some (.int v5), some (.int r4), some (.long r9), none, none] dX9_pages_49 (by decide) rfl ?_
      refine xs_lload_n dX9_pages_51 rfl ?_
      refine xs_lconst (0 : Int64) dX9_pages_52 (by decide) ?_
      refine xs_lcmp dX9_pages_53 ?_
      refine xs_if_ge 60 dX9_pages_54 (by decide) (fun c11 => ?_) (fun c11 => ?_)
      · replace h := h.1 c11
        exact xs_loc [some (.ref 75), some (.int v1), some (.long v2), none, some (.int v4), some (.int v5), some (.int r4), some (.long r9), none, none] ⟨rfl, ⟨rfl, ⟨rfl, ⟨rfl, ⟨rfl, ⟨rfl, ⟨rfl, trivial⟩⟩⟩⟩⟩⟩⟩ (h hR)
      · replace h := h.2 c11
        refine xs_lload dX9_pages_57 rfl ?_
        refine xs_lstore_n [some (.ref 75), some (.int v1), some (.long r9), none, some (.int v4), some (.int v5), some (.int r4), some (.long r9), none, none] dX9_pages_59 (by decide) rfl ?_
        exact xs_loc [some (.ref 75), some (.int v1), some (.long r9), none, some (.int v4), some (.int v5), some (.int r4), some (.long r9), none, none] ⟨rfl, ⟨rfl, ⟨rfl, ⟨rfl, ⟨rfl, ⟨rfl, ⟨rfl, trivial⟩⟩⟩⟩⟩⟩⟩ (h hR)
    · replace h := h.2 c6
      obtain ⟨x12, e_x12⟩ : ∃ z : Int32, z = v5 + nI 1 := ⟨_, rfl⟩
      replace h := h x12 e_x12
      refine xs_iinc x12 [some (.ref 75), some (.int v1), some (.long v2), none, some (.int v4), some (.int x12), some (.int r4), none, none, none] dX9_pages_30 (by decide) rfl (by rw [e_x12]; rfl) rfl ?_
      refine xs_goto 10 dX9_pages_33 (by decide) ?_
      exact xs_loc [some (.ref 75), some (.int v1), some (.long v2), none, some (.int v4), some (.int x12), none, none, none, none] ⟨rfl, ⟨rfl, ⟨rfl, ⟨rfl, ⟨rfl, trivial⟩⟩⟩⟩⟩ (h hR)
set_option maxHeartbeats 4000000 in
set_option maxRecDepth 100000 in
theorem l_X9_pages_60 {b : Bool} {Q : xm_M → Prop} {μ : xm_M}  (v1 : Int32) (v2 : Int64) (v4 : Int32) (v5 : Int32) (v6 : Int32) (v7 : Int64) 
    (h : ((¬ (lg_cmp v7 v2) = 0 →
       vp_in (nI 1) 8 ∧
       vp_in (nI 1) 8 ∧
       ∀ m4 : xm_M, m4 = xu_I μ 82 (upd (μ.1 82) ((nI 1)).toNatClampNeg ((μ.1 82 ((nI 1)).toNatClampNeg) + (nI 1))) →
       hd_X9_pages_139 b Q  v1 v2 v4 v6 m4) ∧
      ((lg_cmp v7 v2) = 0 →
       ∃ Q5 : Int64 → xm_M → Prop, xCl b b k_X9_low μ [.ref 76, .int (v5 + (nI 18)), .int (nI 4)] Q5 ∧
       ∀ (r7 : Int64) (m6 : xm_M), Q5 r7 m6 →
       ∀ x9 : Int32, x9 = (r7).toInt32 →
       vp_in (nI 0) 8 ∧
       (((m6.1 82 ((nI 0)).toNatClampNeg) = 0 →
        ∃ Q12 : xm_M → Prop, xCv b b k_X9_takesPage m6 [.ref 75, .int v5, .int (nI 1)] Q12 ∧
        ∀ m13 : xm_M, Q12 m13 →
        vp_in (nI 0) 8 ∧
        vp_in (nI 0) 8 ∧
        ∀ m18 : xm_M, m18 = xu_I m13 82 (upd (m13.1 82) ((nI 0)).toNatClampNeg ((m13.1 82 ((nI 0)).toNatClampNeg) + (nI 1))) →
        hd_X9_pages_139 b Q  v1 v2 x9 v6 m18) ∧
       (¬ (m6.1 82 ((nI 0)).toNatClampNeg) = 0 →
        ((¬ x9 = (v4 + (nI 1)) →
         ∃ Q20 : xm_M → Prop, xCv b b k_X9_takesPage m6 [.ref 75, .int v5, .int (nI 0)] Q20 ∧
         ∀ m21 : xm_M, Q20 m21 →
         vp_in (nI 0) 8 ∧
         vp_in (nI 0) 8 ∧
         ∀ m26 : xm_M, m26 = xu_I m21 82 (upd (m21.1 82) ((nI 0)).toNatClampNeg ((m21.1 82 ((nI 0)).toNatClampNeg) + (nI 1))) →
         hd_X9_pages_139 b Q  v1 v2 x9 v6 m26) ∧
        (x9 = (v4 + (nI 1)) →
         ∃ Q27 : xm_M → Prop, xCv b b k_X9_takesPage m6 [.ref 75, .int v5, .int (nI 1)] Q27 ∧
         ∀ m28 : xm_M, Q27 m28 →
         vp_in (nI 0) 8 ∧
         vp_in (nI 0) 8 ∧
         ∀ m33 : xm_M, m33 = xu_I m28 82 (upd (m28.1 82) ((nI 0)).toNatClampNeg ((m28.1 82 ((nI 0)).toNatClampNeg) + (nI 1))) →
         hd_X9_pages_139 b Q  v1 v2 x9 v6 m33))))))) :
    hd_X9_pages_60 b Q  v1 v2 v4 v5 v6 v7 μ := by
  intro hR
  refine xs_lload dX9_pages_60 rfl ?_
  refine xs_lload_n dX9_pages_62 rfl ?_
  refine xs_lcmp dX9_pages_63 ?_
  refine xs_if_ne 129 dX9_pages_64 (by decide) (fun c1 => ?_) (fun c1 => ?_)
  · replace h := h.1 c1
    refine xs_aload_n dX9_pages_129 rfl ?_
    refine xs_getR dX9_pages_130 fl_X9_35 rfl sc_75 (rt_75_11 hR) ?_
    refine xs_iconst (nI 1) dX9_pages_133 (by decide) ?_
    refine xs_dup2 dX9_pages_134 rfl rfl ?_
    obtain ⟨s2, h⟩ := h
    refine xs_iald dX9_pages_135 sc_82 s2 ?_
    refine xs_iconst (nI 1) dX9_pages_136 (by decide) ?_
    refine xs_iadd dX9_pages_137 ?_
    obtain ⟨s3, h⟩ := h
    refine xs_iast dX9_pages_138 sc_82 s3 ?_
    refine xs_nmM (fun m4 e_m4 => ?_)
    replace h := h m4 e_m4
    have hR : xs_RT b m4 := by rw [e_m4]; exact hR
    exact xs_loc [some (.ref 75), some (.int v1), some (.long v2), none, some (.int v4), none, some (.int v6), none, none, none] ⟨rfl, ⟨rfl, ⟨rfl, ⟨rfl, ⟨rfl, trivial⟩⟩⟩⟩⟩ (h hR)
  · replace h := h.2 c1
    refine xs_aload_n dX9_pages_67 rfl ?_
    refine xs_getR dX9_pages_68 fl_X9_13 rfl sc_75 (rt_75_1 hR) ?_
    refine xs_iload dX9_pages_71 rfl ?_
    refine xs_bipush (nI 18) dX9_pages_73 (by decide) ?_
    refine xs_iadd dX9_pages_75 ?_
    refine xs_iconst (nI 4) dX9_pages_76 (by decide) ?_
    obtain ⟨Q5, hQ5, h⟩ := h
    refine xs_callS (j := k_X9_low) (As := [.ref 76, .int (v5 + (nI 18)), .int (nI 4)]) (S := []) dX9_pages_77 (hQ5 hR) ⟨ml_X9_127, mk_X9_low.1, mk_X9_low.2.1, mk_X9_low.2.2⟩ ms_X9_low ⟨Nat.le_of_ble_eq_true rfl, Nat.le_of_ble_eq_true rfl⟩ rfl (Nat.le_of_ble_eq_true rfl) ⟨rfl, rfl⟩ (fun rr m6 hq8 => ?_)
    obtain ⟨hR, r7, rfl, hq8⟩ := hq8
    replace h := h r7 m6 hq8
    refine xs_l2i dX9_pages_80 ?_
    refine xs_nmI (fun x9 e_x9 => ?_)
    replace h := h x9 e_x9
    refine xs_istore [some (.ref 75), some (.int v1), some (.long v2), none, some (.int v4), some (.int v5), some (.int v6), some (.long v7), none, some (.int x9)] dX9_pages_81 (by decide) rfl ?_
    refine xs_aload_n dX9_pages_83 rfl ?_
    refine xs_iload dX9_pages_84 rfl ?_
    refine xs_aload_n dX9_pages_86 rfl ?_
    refine xs_getR dX9_pages_87 fl_X9_35 rfl sc_75 (rt_75_11 hR) ?_
    refine xs_iconst (nI 0) dX9_pages_90 (by decide) ?_
    obtain ⟨s10, h⟩ := h
    refine xs_iald dX9_pages_91 sc_82 s10 ?_
    refine xs_if_eq 104 dX9_pages_92 (by decide) (fun c11 => ?_) (fun c11 => ?_)
    · replace h := h.1 c11
      refine xs_iconst (nI 1) dX9_pages_104 (by decide) ?_
      refine xs_goto 109 dX9_pages_105 (by decide) ?_
      obtain ⟨Q12, hQ12, h⟩ := h
      refine xs_callV (j := k_X9_takesPage) (As := [.int v5, .int (nI 1)]) (S := []) dX9_pages_109 (hQ12 hR) ⟨ml_X9_161, mk_X9_takesPage.1, mk_X9_takesPage.2.1, mk_X9_takesPage.2.2⟩ mv_X9_takesPage ⟨Nat.le_of_ble_eq_true rfl, Nat.le_of_ble_eq_true rfl⟩ rfl (Nat.le_of_ble_eq_true rfl) sc_75 rfl ⟨rfl, rfl⟩ (fun rr m13 hq15 => ?_)
      obtain ⟨hR, rfl, hq15⟩ := hq15
      replace h := h m13 hq15
      refine xs_iload dX9_pages_112 rfl ?_
      refine xs_istore [some (.ref 75), some (.int v1), some (.long v2), none, some (.int x9), some (.int v5), some (.int v6), some (.long v7), none, some (.int x9)] dX9_pages_114 (by decide) rfl ?_
      refine xs_aload_n dX9_pages_116 rfl ?_
      refine xs_getR dX9_pages_117 fl_X9_35 rfl sc_75 (rt_75_11 hR) ?_
      refine xs_iconst (nI 0) dX9_pages_120 (by decide) ?_
      refine xs_dup2 dX9_pages_121 rfl rfl ?_
      obtain ⟨s16, h⟩ := h
      refine xs_iald dX9_pages_122 sc_82 s16 ?_
      refine xs_iconst (nI 1) dX9_pages_123 (by decide) ?_
      refine xs_iadd dX9_pages_124 ?_
      obtain ⟨s17, h⟩ := h
      refine xs_iast dX9_pages_125 sc_82 s17 ?_
      refine xs_nmM (fun m18 e_m18 => ?_)
      replace h := h m18 e_m18
      have hR : xs_RT b m18 := by rw [e_m18]; exact hR
      refine xs_goto 139 dX9_pages_126 (by decide) ?_
      exact xs_loc [some (.ref 75), some (.int v1), some (.long v2), none, some (.int x9), none, some (.int v6), none, none, none] ⟨rfl, ⟨rfl, ⟨rfl, ⟨rfl, ⟨rfl, trivial⟩⟩⟩⟩⟩ (h hR)
    · replace h := h.2 c11
      refine xs_iload dX9_pages_95 rfl ?_
      refine xs_iload dX9_pages_97 rfl ?_
      refine xs_iconst (nI 1) dX9_pages_99 (by decide) ?_
      refine xs_iadd dX9_pages_100 ?_
      refine xs_icmp_ne 108 dX9_pages_101 (by decide) (fun c19 => ?_) (fun c19 => ?_)
      · replace h := h.1 c19
        refine xs_iconst (nI 0) dX9_pages_108 (by decide) ?_
        obtain ⟨Q20, hQ20, h⟩ := h
        refine xs_callV (j := k_X9_takesPage) (As := [.int v5, .int (nI 0)]) (S := []) dX9_pages_109 (hQ20 hR) ⟨ml_X9_161, mk_X9_takesPage.1, mk_X9_takesPage.2.1, mk_X9_takesPage.2.2⟩ mv_X9_takesPage ⟨Nat.le_of_ble_eq_true rfl, Nat.le_of_ble_eq_true rfl⟩ rfl (Nat.le_of_ble_eq_true rfl) sc_75 rfl ⟨rfl, rfl⟩ (fun rr m21 hq23 => ?_)
        obtain ⟨hR, rfl, hq23⟩ := hq23
        replace h := h m21 hq23
        refine xs_iload dX9_pages_112 rfl ?_
        refine xs_istore [some (.ref 75), some (.int v1), some (.long v2), none, some (.int x9), some (.int v5), some (.int v6), some (.long v7), none, some (.int x9)] dX9_pages_114 (by decide) rfl ?_
        refine xs_aload_n dX9_pages_116 rfl ?_
        refine xs_getR dX9_pages_117 fl_X9_35 rfl sc_75 (rt_75_11 hR) ?_
        refine xs_iconst (nI 0) dX9_pages_120 (by decide) ?_
        refine xs_dup2 dX9_pages_121 rfl rfl ?_
        obtain ⟨s24, h⟩ := h
        refine xs_iald dX9_pages_122 sc_82 s24 ?_
        refine xs_iconst (nI 1) dX9_pages_123 (by decide) ?_
        refine xs_iadd dX9_pages_124 ?_
        obtain ⟨s25, h⟩ := h
        refine xs_iast dX9_pages_125 sc_82 s25 ?_
        refine xs_nmM (fun m26 e_m26 => ?_)
        replace h := h m26 e_m26
        have hR : xs_RT b m26 := by rw [e_m26]; exact hR
        refine xs_goto 139 dX9_pages_126 (by decide) ?_
        exact xs_loc [some (.ref 75), some (.int v1), some (.long v2), none, some (.int x9), none, some (.int v6), none, none, none] ⟨rfl, ⟨rfl, ⟨rfl, ⟨rfl, ⟨rfl, trivial⟩⟩⟩⟩⟩ (h hR)
      · replace h := h.2 c19
        refine xs_iconst (nI 1) dX9_pages_104 (by decide) ?_
        refine xs_goto 109 dX9_pages_105 (by decide) ?_
        obtain ⟨Q27, hQ27, h⟩ := h
        refine xs_callV (j := k_X9_takesPage) (As := [.int v5, .int (nI 1)]) (S := []) dX9_pages_109 (hQ27 hR) ⟨ml_X9_161, mk_X9_takesPage.1, mk_X9_takesPage.2.1, mk_X9_takesPage.2.2⟩ mv_X9_takesPage ⟨Nat.le_of_ble_eq_true rfl, Nat.le_of_ble_eq_true rfl⟩ rfl (Nat.le_of_ble_eq_true rfl) sc_75 rfl ⟨rfl, rfl⟩ (fun rr m28 hq30 => ?_)
        obtain ⟨hR, rfl, hq30⟩ := hq30
        replace h := h m28 hq30
        refine xs_iload dX9_pages_112 rfl ?_
        refine xs_istore [some (.ref 75), some (.int v1), some (.long v2), none, some (.int x9), some (.int v5), some (.int v6), some (.long v7), none, some (.int x9)] dX9_pages_114 (by decide) rfl ?_
        refine xs_aload_n dX9_pages_116 rfl ?_
        refine xs_getR dX9_pages_117 fl_X9_35 rfl sc_75 (rt_75_11 hR) ?_
        refine xs_iconst (nI 0) dX9_pages_120 (by decide) ?_
        refine xs_dup2 dX9_pages_121 rfl rfl ?_
        obtain ⟨s31, h⟩ := h
        refine xs_iald dX9_pages_122 sc_82 s31 ?_
        refine xs_iconst (nI 1) dX9_pages_123 (by decide) ?_
        refine xs_iadd dX9_pages_124 ?_
        obtain ⟨s32, h⟩ := h
        refine xs_iast dX9_pages_125 sc_82 s32 ?_
        refine xs_nmM (fun m33 e_m33 => ?_)
        replace h := h m33 e_m33
        have hR : xs_RT b m33 := by rw [e_m33]; exact hR
        refine xs_goto 139 dX9_pages_126 (by decide) ?_
        exact xs_loc [some (.ref 75), some (.int v1), some (.long v2), none, some (.int x9), none, some (.int v6), none, none, none] ⟨rfl, ⟨rfl, ⟨rfl, ⟨rfl, ⟨rfl, trivial⟩⟩⟩⟩⟩ (h hR)
set_option maxHeartbeats 4000000 in
set_option maxRecDepth 100000 in
theorem l_X9_pages_139 {b : Bool} {Q : xm_M → Prop} {μ : xm_M}  (v1 : Int32) (v2 : Int64) (v4 : Int32) (v6 : Int32) 
    (h : hd_X9_pages_10 b Q  v1 v2 v4 v6 μ) :
    hd_X9_pages_139 b Q  v1 v2 v4 v6 μ := by
  intro hR
  refine xs_iload dX9_pages_139 rfl ?_
  refine xs_istore [some (.ref 75), some (.int v1), some (.long v2), none, some (.int v4), some (.int v6), some (.int v6), none, none, none] dX9_pages_141 (by decide) rfl ?_
  refine xs_goto 10 dX9_pages_143 (by decide) ?_
  exact xs_loc [some (.ref 75), some (.int v1), some (.long v2), none, some (.int v4), some (.int v6), none, none, none, none] ⟨rfl, ⟨rfl, ⟨rfl, ⟨rfl, ⟨rfl, trivial⟩⟩⟩⟩⟩ (h hR)
set_option maxHeartbeats 4000000 in
set_option maxRecDepth 100000 in
theorem g_X9_pages {b : Bool} {Q : xm_M → Prop} {μ : xm_M} (v1 : Int32) 
    (h : hd_X9_pages_10 b Q  v1 (-1 : Int64) (nI 0) (nI 0) μ) :
    xCv b b k_X9_pages μ [.ref 75, .int v1] Q := by
  intro hR
  refine xm_met [some (.ref 75), some (.int v1), none, none, none, none, none, none, none, none] 8 (by decide) (by simp [lg_sl, Value.category]) rfl ?_
  refine xs_ldc2 dX9_pages_0 cn_X9_155 ?_
  refine xs_lstore_n [some (.ref 75), some (.int v1), some (.long (-1 : Int64)), none, none, none, none, none, none, none] dX9_pages_3 (by decide) rfl ?_
  refine xs_iconst (nI 0) dX9_pages_4 (by decide) ?_
  refine xs_istore [some (.ref 75), some (.int v1), some (.long (-1 : Int64)), none, some (.int (nI 0)), none, none, none, none, none] dX9_pages_5 (by decide) rfl ?_
  refine xs_iconst (nI 0) dX9_pages_7 (by decide) ?_
  refine xs_istore [some (.ref 75), some (.int v1), some (.long (-1 : Int64)), none, some (.int (nI 0)), some (.int (nI 0)), none, none, none, none] dX9_pages_8 (by decide) rfl ?_
  exact xs_loc [some (.ref 75), some (.int v1), some (.long (-1 : Int64)), none, some (.int (nI 0)), some (.int (nI 0)), none, none, none, none] ⟨rfl, ⟨rfl, ⟨rfl, ⟨rfl, ⟨rfl, trivial⟩⟩⟩⟩⟩ (h hR)
set_option maxHeartbeats 4000000 in
set_option maxRecDepth 100000 in
theorem g_X9_opens {b : Bool} {Q : xm_M → Prop} {μ : xm_M} (v1 : Int32) 
    (h : ∀ m1 : xm_M, m1 = xu_I μ 75 (upd (μ.1 75) 14 ((nI 2000) * v1)) →
      ∀ m2 : xm_M, m2 = xu_I m1 75 (upd (m1.1 75) 15 (nI 0)) →
      vp_in v1 61 ∧
      ∀ m4 : xm_M, m4 = xu_I m2 75 (upd (m2.1 75) 16 ((nI 8) * (m2.1 80 (v1).toNatClampNeg))) →
      ∀ m5 : xm_M, m5 = xu_I m4 75 (upd (m4.1 75) 17 (nI 0)) →
      Q m5) :
    xCv b b k_X9_opens μ [.ref 75, .int v1] Q := by
  intro hR
  refine xm_met [some (.ref 75), some (.int v1)] 0 (by decide) (by simp [lg_sl, Value.category]) rfl ?_
  refine xs_aload_n dX9_opens_0 rfl ?_
  refine xs_sipush (nI 2000) dX9_opens_1 (by decide) ?_
  refine xs_iload_n dX9_opens_4 rfl ?_
  refine xs_imul dX9_opens_5 ?_
  refine xs_putI dX9_opens_6 fl_X9_165 rfl rfl rfl sc_75 ?_
  refine xs_nmM (fun m1 e_m1 => ?_)
  replace h := h m1 e_m1
  have hR : xs_RT b m1 := by rw [e_m1]; exact hR
  refine xs_aload_n dX9_opens_9 rfl ?_
  refine xs_iconst (nI 0) dX9_opens_10 (by decide) ?_
  refine xs_putI dX9_opens_11 fl_X9_168 rfl rfl rfl sc_75 ?_
  refine xs_nmM (fun m2 e_m2 => ?_)
  replace h := h m2 e_m2
  have hR : xs_RT b m2 := by rw [e_m2]; exact hR
  refine xs_aload_n dX9_opens_14 rfl ?_
  refine xs_bipush (nI 8) dX9_opens_15 (by decide) ?_
  refine xs_aload_n dX9_opens_17 rfl ?_
  refine xs_getR dX9_opens_18 fl_X9_29 rfl sc_75 (rt_75_6 hR) ?_
  refine xs_iload_n dX9_opens_21 rfl ?_
  obtain ⟨s3, h⟩ := h
  refine xs_iald dX9_opens_22 sc_80 s3 ?_
  refine xs_imul dX9_opens_23 ?_
  refine xs_putI dX9_opens_24 fl_X9_171 rfl rfl rfl sc_75 ?_
  refine xs_nmM (fun m4 e_m4 => ?_)
  replace h := h m4 e_m4
  have hR : xs_RT b m4 := by rw [e_m4]; exact hR
  refine xs_aload_n dX9_opens_27 rfl ?_
  refine xs_iconst (nI 0) dX9_opens_28 (by decide) ?_
  refine xs_putI dX9_opens_29 fl_X9_174 rfl rfl rfl sc_75 ?_
  refine xs_nmM (fun m5 e_m5 => ?_)
  replace h := h m5 e_m5
  have hR : xs_RT b m5 := by rw [e_m5]; exact hR
  exact xs_ret none dX9_opens_32 trivial rfl ⟨hR, rfl, h⟩
set_option maxHeartbeats 4000000 in
set_option maxRecDepth 100000 in
theorem g_X9_bit {b : Bool} {Q : Int32 → xm_M → Prop} {μ : xm_M}  
    (h : ((¬ (μ.1 75 17) = 0 →
       ∀ m2 : xm_M, m2 = xu_I μ 75 (upd (μ.1 75) 17 (nI 1)) →
       Q (nI 0) m2) ∧
      ((μ.1 75 17) = 0 →
       ((¬ (μ.1 75 15) = (μ.1 75 16) →
        ∀ m4 : xm_M, m4 = xu_I μ 75 (upd (μ.1 75) 15 ((μ.1 75 15) + (nI 1))) →
        vp_in ((m4.1 75 14) + (((m4.1 75 15) - (nI 1)) / (nI 8))) 120000 ∧
        Q (((m4.1 79 (((m4.1 75 14) + (((m4.1 75 15) - (nI 1)) / (nI 8)))).toNatClampNeg) >>> ((((m4.1 75 15) - (nI 1)) - ((m4.1 75 15) - (nI 1)) / (nI 8) * (nI 8)) &&& 31)) &&& (nI 1)) m4) ∧
       ((μ.1 75 15) = (μ.1 75 16) →
        ∀ m6 : xm_M, m6 = xu_I μ 75 (upd (μ.1 75) 17 (nI 1)) →
        Q (nI 0) m6))))) :
    xCi b b k_X9_bit μ [.ref 75] Q := by
  intro hR
  refine xm_met [some (.ref 75)] 0 (by decide) (by simp [lg_sl, Value.category]) rfl ?_
  refine xs_aload_n dX9_bit_0 rfl ?_
  refine xs_getI dX9_bit_1 fl_X9_174.g rfl sc_75 ?_
  refine xs_if_ne 18 dX9_bit_4 (by decide) (fun c1 => ?_) (fun c1 => ?_)
  · replace h := h.1 c1
    refine xs_aload_n dX9_bit_18 rfl ?_
    refine xs_iconst (nI 1) dX9_bit_19 (by decide) ?_
    refine xs_putI dX9_bit_20 fl_X9_174 rfl rfl rfl sc_75 ?_
    refine xs_nmM (fun m2 e_m2 => ?_)
    replace h := h m2 e_m2
    have hR : xs_RT b m2 := by rw [e_m2]; exact hR
    refine xs_iconst (nI 0) dX9_bit_23 (by decide) ?_
    exact xs_ret (some (.int (nI 0))) dX9_bit_24 rfl rfl ⟨hR, _, rfl, h⟩
  · replace h := h.2 c1
    refine xs_aload_n dX9_bit_7 rfl ?_
    refine xs_getI dX9_bit_8 fl_X9_168.g rfl sc_75 ?_
    refine xs_aload_n dX9_bit_11 rfl ?_
    refine xs_getI dX9_bit_12 fl_X9_171.g rfl sc_75 ?_
    refine xs_icmp_ne 25 dX9_bit_15 (by decide) (fun c3 => ?_) (fun c3 => ?_)
    · replace h := h.1 c3
      refine xs_aload_n dX9_bit_25 rfl ?_
      refine xs_dup dX9_bit_26 rfl ?_
      refine xs_getI dX9_bit_27 fl_X9_168.g rfl sc_75 ?_
      refine xs_iconst (nI 1) dX9_bit_30 (by decide) ?_
      refine xs_iadd dX9_bit_31 ?_
      refine xs_putI dX9_bit_32 fl_X9_168 rfl rfl rfl sc_75 ?_
      refine xs_nmM (fun m4 e_m4 => ?_)
      replace h := h m4 e_m4
      have hR : xs_RT b m4 := by rw [e_m4]; exact hR
      refine xs_aload_n dX9_bit_35 rfl ?_
      refine xs_getR dX9_bit_36 fl_X9_26 rfl sc_75 (rt_75_5 hR) ?_
      refine xs_aload_n dX9_bit_39 rfl ?_
      refine xs_getI dX9_bit_40 fl_X9_165.g rfl sc_75 ?_
      refine xs_aload_n dX9_bit_43 rfl ?_
      refine xs_getI dX9_bit_44 fl_X9_168.g rfl sc_75 ?_
      refine xs_iconst (nI 1) dX9_bit_47 (by decide) ?_
      refine xs_isub dX9_bit_48 ?_
      refine xs_bipush (nI 8) dX9_bit_49 (by decide) ?_
      refine xs_idiv dX9_bit_51 (by decide) ?_
      refine xs_iadd dX9_bit_52 ?_
      obtain ⟨s5, h⟩ := h
      refine xs_bald dX9_bit_53 sc_79 s5 ?_
      refine xs_aload_n dX9_bit_54 rfl ?_
      refine xs_getI dX9_bit_55 fl_X9_168.g rfl sc_75 ?_
      refine xs_iconst (nI 1) dX9_bit_58 (by decide) ?_
      refine xs_isub dX9_bit_59 ?_
      refine xs_bipush (nI 8) dX9_bit_60 (by decide) ?_
      refine xs_irem dX9_bit_62 (by decide) ?_
      refine xs_ishr dX9_bit_63 ?_
      refine xs_iconst (nI 1) dX9_bit_64 (by decide) ?_
      refine xs_iand dX9_bit_65 ?_
      exact xs_ret (some (.int (((m4.1 79 (((m4.1 75 14) + (((m4.1 75 15) - (nI 1)) / (nI 8)))).toNatClampNeg) >>> ((((m4.1 75 15) - (nI 1)) - ((m4.1 75 15) - (nI 1)) / (nI 8) * (nI 8)) &&& 31)) &&& (nI 1)))) dX9_bit_66 rfl rfl ⟨hR, _, rfl, h⟩
    · replace h := h.2 c3
      refine xs_aload_n dX9_bit_18 rfl ?_
      refine xs_iconst (nI 1) dX9_bit_19 (by decide) ?_
      refine xs_putI dX9_bit_20 fl_X9_174 rfl rfl rfl sc_75 ?_
      refine xs_nmM (fun m6 e_m6 => ?_)
      replace h := h m6 e_m6
      have hR : xs_RT b m6 := by rw [e_m6]; exact hR
      refine xs_iconst (nI 0) dX9_bit_23 (by decide) ?_
      exact xs_ret (some (.int (nI 0))) dX9_bit_24 rfl rfl ⟨hR, _, rfl, h⟩
abbrev hd_X9_bits_4 (b : Bool) (Q : Int32 → xm_M → Prop)  (v1 : Int32) (v2 : Int32) (v3 : Int32) (μ : xm_M) : Prop := xs_RT b μ → xR k_X9_bits none true (fun r _ μ' => xs_RT b μ' ∧ ∃ x : Int32, r = some (.int x) ∧ Q x μ') 4 [some (.ref 75), some (.int v1), some (.int v2), some (.int v3)] [] xs_sh (0, 0) μ
set_option maxHeartbeats 4000000 in
set_option maxRecDepth 100000 in
theorem l_X9_bits_4 {b : Bool} {Q : Int32 → xm_M → Prop} {μ : xm_M}  (v1 : Int32) (v2 : Int32) (v3 : Int32) 
    (h : ((v1 ≤ v3 →
       Q v2 μ) ∧
      (¬ v1 ≤ v3 →
       ∃ Q2 : Int32 → xm_M → Prop, xCi b b k_X9_bit μ [.ref 75] Q2 ∧
       ∀ (r4 : Int32) (m3 : xm_M), Q2 r4 m3 →
       ∀ x6 : Int32, x6 = (v2 ||| (r4 <<< (v3 &&& 31))) →
       ∀ x7 : Int32, x7 = v3 + nI 1 →
       hd_X9_bits_4 b Q  v1 x6 x7 m3))) :
    hd_X9_bits_4 b Q  v1 v2 v3 μ := by
  intro hR
  refine xs_iload_n dX9_bits_4 rfl ?_
  refine xs_iload_n dX9_bits_5 rfl ?_
  refine xs_icmp_ge 24 dX9_bits_6 (by decide) (fun c1 => ?_) (fun c1 => ?_)
  · replace h := h.1 c1
    refine xs_iload_n dX9_bits_24 rfl ?_
    exact xs_ret (some (.int v2)) dX9_bits_25 rfl rfl ⟨hR, _, rfl, h⟩
  · replace h := h.2 c1
    refine xs_iload_n dX9_bits_9 rfl ?_
    refine xs_aload_n dX9_bits_10 rfl ?_
    obtain ⟨Q2, hQ2, h⟩ := h
    refine xs_callV (j := k_X9_bit) (As := []) (S := [.int v2]) dX9_bits_11 (hQ2 hR) ⟨ml_X9_177, mk_X9_bit.1, mk_X9_bit.2.1, mk_X9_bit.2.2⟩ mv_X9_bit ⟨Nat.le_of_ble_eq_true rfl, Nat.le_of_ble_eq_true rfl⟩ rfl (Nat.le_of_ble_eq_true rfl) sc_75 rfl ⟨rfl, rfl⟩ (fun rr m3 hq5 => ?_)
    obtain ⟨hR, r4, rfl, hq5⟩ := hq5
    replace h := h r4 m3 hq5
    refine xs_iload_n dX9_bits_14 rfl ?_
    refine xs_ishl dX9_bits_15 ?_
    refine xs_ior dX9_bits_16 ?_
    refine xs_nmI (fun x6 e_x6 => ?_)
    replace h := h x6 e_x6
    refine xs_istore_n [some (.ref 75), some (.int v1), some (.int x6), some (.int v3)] dX9_bits_17 (by decide) rfl ?_
    obtain ⟨x7, e_x7⟩ : ∃ z : Int32, z = v3 + nI 1 := ⟨_, rfl⟩
    replace h := h x7 e_x7
    refine xs_iinc x7 [some (.ref 75), some (.int v1), some (.int x6), some (.int x7)] dX9_bits_18 (by decide) rfl (by rw [e_x7]; rfl) rfl ?_
    refine xs_goto 4 dX9_bits_21 (by decide) ?_
    exact xs_loc [some (.ref 75), some (.int v1), some (.int x6), some (.int x7)] ⟨rfl, ⟨rfl, ⟨rfl, ⟨rfl, trivial⟩⟩⟩⟩ (h hR)
set_option maxHeartbeats 4000000 in
set_option maxRecDepth 100000 in
theorem g_X9_bits {b : Bool} {Q : Int32 → xm_M → Prop} {μ : xm_M} (v1 : Int32) 
    (h : hd_X9_bits_4 b Q  v1 (nI 0) (nI 0) μ) :
    xCi b b k_X9_bits μ [.ref 75, .int v1] Q := by
  intro hR
  refine xm_met [some (.ref 75), some (.int v1), none, none] 2 (by decide) (by simp [lg_sl, Value.category]) rfl ?_
  refine xs_iconst (nI 0) dX9_bits_0 (by decide) ?_
  refine xs_istore_n [some (.ref 75), some (.int v1), some (.int (nI 0)), none] dX9_bits_1 (by decide) rfl ?_
  refine xs_iconst (nI 0) dX9_bits_2 (by decide) ?_
  refine xs_istore_n [some (.ref 75), some (.int v1), some (.int (nI 0)), some (.int (nI 0))] dX9_bits_3 (by decide) rfl ?_
  exact xs_loc [some (.ref 75), some (.int v1), some (.int (nI 0)), some (.int (nI 0))] ⟨rfl, ⟨rfl, ⟨rfl, ⟨rfl, trivial⟩⟩⟩⟩ (h hR)
set_option maxHeartbeats 4000000 in
set_option maxRecDepth 100000 in
theorem g_X9_wrong {b : Bool} {Q : xm_M → Prop} {μ : xm_M} (v1 : Int32) 
    (h : ((¬ (μ.1 75 19) = 0 →
       Q μ) ∧
      ((μ.1 75 19) = 0 →
       ∀ m2 : xm_M, m2 = xu_I μ 75 (upd (μ.1 75) 19 v1) →
       Q m2))) :
    xCv b b k_X9_wrong μ [.ref 75, .int v1] Q := by
  intro hR
  refine xm_met [some (.ref 75), some (.int v1)] 0 (by decide) (by simp [lg_sl, Value.category]) rfl ?_
  refine xs_aload_n dX9_wrong_0 rfl ?_
  refine xs_getI dX9_wrong_1 fl_X9_181.g rfl sc_75 ?_
  refine xs_if_ne 12 dX9_wrong_4 (by decide) (fun c1 => ?_) (fun c1 => ?_)
  · replace h := h.1 c1
    exact xs_ret none dX9_wrong_12 trivial rfl ⟨hR, rfl, h⟩
  · replace h := h.2 c1
    refine xs_aload_n dX9_wrong_7 rfl ?_
    refine xs_iload_n dX9_wrong_8 rfl ?_
    refine xs_putI dX9_wrong_9 fl_X9_181 rfl rfl rfl sc_75 ?_
    refine xs_nmM (fun m2 e_m2 => ?_)
    replace h := h m2 e_m2
    have hR : xs_RT b m2 := by rw [e_m2]; exact hR
    exact xs_ret none dX9_wrong_12 trivial rfl ⟨hR, rfl, h⟩
set_option maxHeartbeats 4000000 in
set_option maxRecDepth 100000 in
theorem g_X9_ended {b : Bool} {Q : xm_M → Prop} {μ : xm_M}  
    (h : (((μ.1 75 17) = 0 →
       Q μ) ∧
      (¬ (μ.1 75 17) = 0 →
       ∃ Q2 : xm_M → Prop, xCv b b k_X9_wrong μ [.ref 75, .int (nI 2)] Q2 ∧
       ∀ m3 : xm_M, Q2 m3 →
       Q m3))) :
    xCv b b k_X9_ended μ [.ref 75] Q := by
  intro hR
  refine xm_met [some (.ref 75)] 0 (by decide) (by simp [lg_sl, Value.category]) rfl ?_
  refine xs_aload_n dX9_ended_0 rfl ?_
  refine xs_getI dX9_ended_1 fl_X9_174.g rfl sc_75 ?_
  refine xs_if_eq 12 dX9_ended_4 (by decide) (fun c1 => ?_) (fun c1 => ?_)
  · replace h := h.1 c1
    exact xs_ret none dX9_ended_12 trivial rfl ⟨hR, rfl, h⟩
  · replace h := h.2 c1
    refine xs_aload_n dX9_ended_7 rfl ?_
    refine xs_iconst (nI 2) dX9_ended_8 (by decide) ?_
    obtain ⟨Q2, hQ2, h⟩ := h
    refine xs_callV (j := k_X9_wrong) (As := [.int (nI 2)]) (S := []) dX9_ended_9 (hQ2 hR) ⟨ml_X9_184, mk_X9_wrong.1, mk_X9_wrong.2.1, mk_X9_wrong.2.2⟩ mv_X9_wrong ⟨Nat.le_of_ble_eq_true rfl, Nat.le_of_ble_eq_true rfl⟩ rfl (Nat.le_of_ble_eq_true rfl) sc_75 rfl ⟨rfl, rfl⟩ (fun rr m3 hq5 => ?_)
    obtain ⟨hR, rfl, hq5⟩ := hq5
    replace h := h m3 hq5
    exact xs_ret none dX9_ended_12 trivial rfl ⟨hR, rfl, h⟩
abbrev hd_X9_gives_9 (b : Bool) (Q : Int32 → xm_M → Prop)  (v1 : Int32) (v2 : Int32) (v4 : Int32) (v5 : Int32) (μ : xm_M) : Prop := xs_RT b μ → xR k_X9_gives none true (fun r _ μ' => xs_RT b μ' ∧ ∃ x : Int32, r = some (.int x) ∧ Q x μ') 9 [some (.ref 75), some (.int v1), some (.int v2), none, some (.int v4), some (.int v5), none, none] [] xs_sh (0, 0) μ
abbrev hd_X9_gives_23 (b : Bool) (Q : Int32 → xm_M → Prop)  (v1 : Int32) (v2 : Int32) (v4 : Int32) (v5 : Int32) (v6 : Int32) (v7 : Int32) (μ : xm_M) : Prop := xs_RT b μ → xR k_X9_gives none true (fun r _ μ' => xs_RT b μ' ∧ ∃ x : Int32, r = some (.int x) ∧ Q x μ') 23 [some (.ref 75), some (.int v1), some (.int v2), none, some (.int v4), some (.int v5), some (.int v6), some (.int v7)] [] xs_sh (0, 0) μ
abbrev hd_X9_gives_78 (b : Bool) (Q : Int32 → xm_M → Prop)  (v1 : Int32) (v2 : Int32) (v4 : Int32) (v5 : Int32) (v7 : Int32) (μ : xm_M) : Prop := xs_RT b μ → xR k_X9_gives none true (fun r _ μ' => xs_RT b μ' ∧ ∃ x : Int32, r = some (.int x) ∧ Q x μ') 78 [some (.ref 75), some (.int v1), some (.int v2), none, some (.int v4), some (.int v5), none, some (.int v7)] [] xs_sh (0, 0) μ
set_option maxHeartbeats 4000000 in
set_option maxRecDepth 100000 in
theorem l_X9_gives_9 {b : Bool} {Q : Int32 → xm_M → Prop} {μ : xm_M}  (v1 : Int32) (v2 : Int32) (v4 : Int32) (v5 : Int32) 
    (h : (((nI 32768) ≤ v5 →
       Q (nI 0) μ) ∧
      (¬ (nI 32768) ≤ v5 →
       hd_X9_gives_23 b Q  v1 v2 v4 v5 (nI 1) v5 μ))) :
    hd_X9_gives_9 b Q  v1 v2 v4 v5 μ := by
  intro hR
  refine xs_iload dX9_gives_9 rfl ?_
  refine xs_ldc dX9_gives_11 cn_X9_188 ?_
  refine xs_icmp_ge 120 dX9_gives_13 (by decide) (fun c1 => ?_) (fun c1 => ?_)
  · replace h := h.1 c1
    refine xs_iconst (nI 0) dX9_gives_120 (by decide) ?_
    exact xs_ret (some (.int (nI 0))) dX9_gives_121 rfl rfl ⟨hR, _, rfl, h⟩
  · replace h := h.2 c1
    refine xs_iconst (nI 1) dX9_gives_16 (by decide) ?_
    refine xs_istore [some (.ref 75), some (.int v1), some (.int v2), none, some (.int v4), some (.int v5), some (.int (nI 1)), none] dX9_gives_17 (by decide) rfl ?_
    refine xs_iload dX9_gives_19 rfl ?_
    refine xs_istore [some (.ref 75), some (.int v1), some (.int v2), none, some (.int v4), some (.int v5), some (.int (nI 1)), some (.int v5)] dX9_gives_21 (by decide) rfl ?_
    exact xs_loc [some (.ref 75), some (.int v1), some (.int v2), none, some (.int v4), some (.int v5), some (.int (nI 1)), some (.int v5)] ⟨rfl, ⟨rfl, ⟨rfl, ⟨rfl, ⟨rfl, ⟨rfl, ⟨rfl, trivial⟩⟩⟩⟩⟩⟩⟩ (h hR)
set_option maxHeartbeats 4000000 in
set_option maxRecDepth 100000 in
theorem l_X9_gives_23 {b : Bool} {Q : Int32 → xm_M → Prop} {μ : xm_M}  (v1 : Int32) (v2 : Int32) (v4 : Int32) (v5 : Int32) (v6 : Int32) (v7 : Int32) 
    (h : (((v5 + v4) ≤ v7 →
       ((¬ v6 = 0 →
        hd_X9_gives_78 b Q  v1 v2 v4 v5 v5 μ) ∧
       (v6 = 0 →
        ∀ x3 : Int32, x3 = (v5 + v4) →
        hd_X9_gives_9 b Q  v1 v2 v4 x3 μ))) ∧
      (¬ (v5 + v4) ≤ v7 →
       ((v6 = 0 →
        ((¬ v6 = 0 →
         hd_X9_gives_78 b Q  v1 v2 v4 v5 v5 μ) ∧
        (v6 = 0 →
         ∀ x6 : Int32, x6 = (v5 + v4) →
         hd_X9_gives_9 b Q  v1 v2 v4 x6 μ))) ∧
       (¬ v6 = 0 →
        vp_in (((nI 32768) * v1) + v7) 262144 ∧
        ((0 ≤ (μ.1 92 ((((nI 32768) * v1) + v7)).toNatClampNeg) →
         ∀ x9 : Int32, x9 = v7 + nI 1 →
         hd_X9_gives_23 b Q  v1 v2 v4 v5 (nI 0) x9 μ) ∧
        (¬ 0 ≤ (μ.1 92 ((((nI 32768) * v1) + v7)).toNatClampNeg) →
         ∀ x10 : Int32, x10 = v7 + nI 1 →
         hd_X9_gives_23 b Q  v1 v2 v4 v5 (nI 1) x10 μ))))))) :
    hd_X9_gives_23 b Q  v1 v2 v4 v5 v6 v7 μ := by
  intro hR
  refine xs_iload dX9_gives_23 rfl ?_
  refine xs_iload dX9_gives_25 rfl ?_
  refine xs_iload dX9_gives_27 rfl ?_
  refine xs_iadd dX9_gives_29 ?_
  refine xs_icmp_ge 66 dX9_gives_30 (by decide) (fun c1 => ?_) (fun c1 => ?_)
  · replace h := h.1 c1
    refine xs_iload dX9_gives_66 rfl ?_
    refine xs_if_ne 74 dX9_gives_68 (by decide) (fun c2 => ?_) (fun c2 => ?_)
    · replace h := h.1 c2
      refine xs_iload dX9_gives_74 rfl ?_
      refine xs_istore [some (.ref 75), some (.int v1), some (.int v2), none, some (.int v4), some (.int v5), some (.int v6), some (.int v5)] dX9_gives_76 (by decide) rfl ?_
      exact xs_loc [some (.ref 75), some (.int v1), some (.int v2), none, some (.int v4), some (.int v5), none, some (.int v5)] ⟨rfl, ⟨rfl, ⟨rfl, ⟨rfl, ⟨rfl, ⟨rfl, trivial⟩⟩⟩⟩⟩⟩ (h hR)
    · replace h := h.2 c2
      refine xs_goto 110 dX9_gives_71 (by decide) ?_
      refine xs_iload dX9_gives_110 rfl ?_
      refine xs_iload dX9_gives_112 rfl ?_
      refine xs_iadd dX9_gives_114 ?_
      refine xs_nmI (fun x3 e_x3 => ?_)
      replace h := h x3 e_x3
      refine xs_istore [some (.ref 75), some (.int v1), some (.int v2), none, some (.int v4), some (.int x3), some (.int v6), some (.int v7)] dX9_gives_115 (by decide) rfl ?_
      refine xs_goto 9 dX9_gives_117 (by decide) ?_
      exact xs_loc [some (.ref 75), some (.int v1), some (.int v2), none, some (.int v4), some (.int x3), none, none] ⟨rfl, ⟨rfl, ⟨rfl, ⟨rfl, ⟨rfl, trivial⟩⟩⟩⟩⟩ (h hR)
  · replace h := h.2 c1
    refine xs_iload dX9_gives_33 rfl ?_
    refine xs_if_eq 66 dX9_gives_35 (by decide) (fun c4 => ?_) (fun c4 => ?_)
    · replace h := h.1 c4
      refine xs_iload dX9_gives_66 rfl ?_
      refine xs_if_ne 74 dX9_gives_68 (by decide) (fun c5 => ?_) (fun c5 => ?_)
      · replace h := h.1 c5
        refine xs_iload dX9_gives_74 rfl ?_
        refine xs_istore [some (.ref 75), some (.int v1), some (.int v2), none, some (.int v4), some (.int v5), some (.int v6), some (.int v5)] dX9_gives_76 (by decide) rfl ?_
        exact xs_loc [some (.ref 75), some (.int v1), some (.int v2), none, some (.int v4), some (.int v5), none, some (.int v5)] ⟨rfl, ⟨rfl, ⟨rfl, ⟨rfl, ⟨rfl, ⟨rfl, trivial⟩⟩⟩⟩⟩⟩ (h hR)
      · replace h := h.2 c5
        refine xs_goto 110 dX9_gives_71 (by decide) ?_
        refine xs_iload dX9_gives_110 rfl ?_
        refine xs_iload dX9_gives_112 rfl ?_
        refine xs_iadd dX9_gives_114 ?_
        refine xs_nmI (fun x6 e_x6 => ?_)
        replace h := h x6 e_x6
        refine xs_istore [some (.ref 75), some (.int v1), some (.int v2), none, some (.int v4), some (.int x6), some (.int v6), some (.int v7)] dX9_gives_115 (by decide) rfl ?_
        refine xs_goto 9 dX9_gives_117 (by decide) ?_
        exact xs_loc [some (.ref 75), some (.int v1), some (.int v2), none, some (.int v4), some (.int x6), none, none] ⟨rfl, ⟨rfl, ⟨rfl, ⟨rfl, ⟨rfl, trivial⟩⟩⟩⟩⟩ (h hR)
    · replace h := h.2 c4
      refine xs_aload_n dX9_gives_38 rfl ?_
      refine xs_getR dX9_gives_39 fl_X9_67 rfl sc_75 (rt_75_29 hR) ?_
      refine xs_ldc dX9_gives_42 cn_X9_188 ?_
      refine xs_iload_n dX9_gives_44 rfl ?_
      refine xs_imul dX9_gives_45 ?_
      refine xs_iload dX9_gives_46 rfl ?_
      refine xs_iadd dX9_gives_48 ?_
      obtain ⟨s7, h⟩ := h
      refine xs_bald dX9_gives_49 sc_92 s7 ?_
      refine xs_if_ge 57 dX9_gives_50 (by decide) (fun c8 => ?_) (fun c8 => ?_)
      · replace h := h.1 c8
        refine xs_iconst (nI 0) dX9_gives_57 (by decide) ?_
        refine xs_istore [some (.ref 75), some (.int v1), some (.int v2), none, some (.int v4), some (.int v5), some (.int (nI 0)), some (.int v7)] dX9_gives_58 (by decide) rfl ?_
        obtain ⟨x9, e_x9⟩ : ∃ z : Int32, z = v7 + nI 1 := ⟨_, rfl⟩
        replace h := h x9 e_x9
        refine xs_iinc x9 [some (.ref 75), some (.int v1), some (.int v2), none, some (.int v4), some (.int v5), some (.int (nI 0)), some (.int x9)] dX9_gives_60 (by decide) rfl (by rw [e_x9]; rfl) rfl ?_
        refine xs_goto 23 dX9_gives_63 (by decide) ?_
        exact xs_loc [some (.ref 75), some (.int v1), some (.int v2), none, some (.int v4), some (.int v5), some (.int (nI 0)), some (.int x9)] ⟨rfl, ⟨rfl, ⟨rfl, ⟨rfl, ⟨rfl, ⟨rfl, ⟨rfl, trivial⟩⟩⟩⟩⟩⟩⟩ (h hR)
      · replace h := h.2 c8
        refine xs_iconst (nI 1) dX9_gives_53 (by decide) ?_
        refine xs_goto 58 dX9_gives_54 (by decide) ?_
        refine xs_istore [some (.ref 75), some (.int v1), some (.int v2), none, some (.int v4), some (.int v5), some (.int (nI 1)), some (.int v7)] dX9_gives_58 (by decide) rfl ?_
        obtain ⟨x10, e_x10⟩ : ∃ z : Int32, z = v7 + nI 1 := ⟨_, rfl⟩
        replace h := h x10 e_x10
        refine xs_iinc x10 [some (.ref 75), some (.int v1), some (.int v2), none, some (.int v4), some (.int v5), some (.int (nI 1)), some (.int x10)] dX9_gives_60 (by decide) rfl (by rw [e_x10]; rfl) rfl ?_
        refine xs_goto 23 dX9_gives_63 (by decide) ?_
        exact xs_loc [some (.ref 75), some (.int v1), some (.int v2), none, some (.int v4), some (.int v5), some (.int (nI 1)), some (.int x10)] ⟨rfl, ⟨rfl, ⟨rfl, ⟨rfl, ⟨rfl, ⟨rfl, ⟨rfl, trivial⟩⟩⟩⟩⟩⟩⟩ (h hR)
set_option maxHeartbeats 4000000 in
set_option maxRecDepth 100000 in
theorem l_X9_gives_78 {b : Bool} {Q : Int32 → xm_M → Prop} {μ : xm_M}  (v1 : Int32) (v2 : Int32) (v4 : Int32) (v5 : Int32) (v7 : Int32) 
    (h : (((v5 + v4) ≤ v7 →
       Q (nI 1) μ) ∧
      (¬ (v5 + v4) ≤ v7 →
       vp_in (((nI 32768) * v1) + v7) 262144 ∧
       ∀ m3 : xm_M, m3 = xu_I μ 92 (upd (μ.1 92) ((((nI 32768) * v1) + v7)).toNatClampNeg (vp_nar .byte (v2).toInt8.toInt32)) →
       ∀ x4 : Int32, x4 = v7 + nI 1 →
       hd_X9_gives_78 b Q  v1 v2 v4 v5 x4 m3))) :
    hd_X9_gives_78 b Q  v1 v2 v4 v5 v7 μ := by
  intro hR
  refine xs_iload dX9_gives_78 rfl ?_
  refine xs_iload dX9_gives_80 rfl ?_
  refine xs_iload dX9_gives_82 rfl ?_
  refine xs_iadd dX9_gives_84 ?_
  refine xs_icmp_ge 108 dX9_gives_85 (by decide) (fun c1 => ?_) (fun c1 => ?_)
  · replace h := h.1 c1
    refine xs_iconst (nI 1) dX9_gives_108 (by decide) ?_
    exact xs_ret (some (.int (nI 1))) dX9_gives_109 rfl rfl ⟨hR, _, rfl, h⟩
  · replace h := h.2 c1
    refine xs_aload_n dX9_gives_88 rfl ?_
    refine xs_getR dX9_gives_89 fl_X9_67 rfl sc_75 (rt_75_29 hR) ?_
    refine xs_ldc dX9_gives_92 cn_X9_188 ?_
    refine xs_iload_n dX9_gives_94 rfl ?_
    refine xs_imul dX9_gives_95 ?_
    refine xs_iload dX9_gives_96 rfl ?_
    refine xs_iadd dX9_gives_98 ?_
    refine xs_iload_n dX9_gives_99 rfl ?_
    refine xs_i2b dX9_gives_100 ?_
    obtain ⟨s2, h⟩ := h
    refine xs_bast dX9_gives_101 sc_92 s2 ?_
    refine xs_nmM (fun m3 e_m3 => ?_)
    replace h := h m3 e_m3
    have hR : xs_RT b m3 := by rw [e_m3]; exact hR
    obtain ⟨x4, e_x4⟩ : ∃ z : Int32, z = v7 + nI 1 := ⟨_, rfl⟩
    replace h := h x4 e_x4
    refine xs_iinc x4 [some (.ref 75), some (.int v1), some (.int v2), none, some (.int v4), some (.int v5), none, some (.int x4)] dX9_gives_102 (by decide) rfl (by rw [e_x4]; rfl) rfl ?_
    refine xs_goto 78 dX9_gives_105 (by decide) ?_
    exact xs_loc [some (.ref 75), some (.int v1), some (.int v2), none, some (.int v4), some (.int v5), none, some (.int x4)] ⟨rfl, ⟨rfl, ⟨rfl, ⟨rfl, ⟨rfl, ⟨rfl, trivial⟩⟩⟩⟩⟩⟩ (h hR)
set_option maxHeartbeats 4000000 in
set_option maxRecDepth 100000 in
theorem g_X9_gives {b : Bool} {Q : Int32 → xm_M → Prop} {μ : xm_M} (v1 : Int32) (v2 : Int32) (v3 : Int32) 
    (h : ∀ x1 : Int32, x1 = ((nI 32768) >>> (v3 &&& 31)) →
      hd_X9_gives_9 b Q  v1 v2 x1 (nI 0) μ) :
    xCi b b k_X9_gives μ [.ref 75, .int v1, .int v2, .int v3] Q := by
  intro hR
  refine xm_met [some (.ref 75), some (.int v1), some (.int v2), some (.int v3), none, none, none, none] 4 (by decide) (by simp [lg_sl, Value.category]) rfl ?_
  refine xs_ldc dX9_gives_0 cn_X9_188 ?_
  refine xs_iload_n dX9_gives_2 rfl ?_
  refine xs_ishr dX9_gives_3 ?_
  refine xs_nmI (fun x1 e_x1 => ?_)
  replace h := h x1 e_x1
  refine xs_istore [some (.ref 75), some (.int v1), some (.int v2), some (.int v3), some (.int x1), none, none, none] dX9_gives_4 (by decide) rfl ?_
  refine xs_iconst (nI 0) dX9_gives_6 (by decide) ?_
  refine xs_istore [some (.ref 75), some (.int v1), some (.int v2), some (.int v3), some (.int x1), some (.int (nI 0)), none, none] dX9_gives_7 (by decide) rfl ?_
  exact xs_loc [some (.ref 75), some (.int v1), some (.int v2), none, some (.int x1), some (.int (nI 0)), none, none] ⟨rfl, ⟨rfl, ⟨rfl, ⟨rfl, ⟨rfl, trivial⟩⟩⟩⟩⟩ (h hR)
abbrev hd_X9_isWhole_4 (b : Bool) (Q : Int32 → xm_M → Prop)  (v1 : Int32) (v2 : Int32) (v3 : Int32) (μ : xm_M) : Prop := xs_RT b μ → xR k_X9_isWhole none true (fun r _ μ' => xs_RT b μ' ∧ ∃ x : Int32, r = some (.int x) ∧ Q x μ') 4 [some (.ref 75), some (.int v1), some (.int v2), some (.int v3), none, none] [] xs_sh (0, 0) μ
abbrev hd_X9_isWhole_40 (b : Bool) (Q : Int32 → xm_M → Prop)  (v1 : Int32) (v2 : Int32) (v3 : Int32) (v4 : Int32) (μ : xm_M) : Prop := xs_RT b μ → xR k_X9_isWhole none true (fun r _ μ' => xs_RT b μ' ∧ ∃ x : Int32, r = some (.int x) ∧ Q x μ') 40 [some (.ref 75), some (.int v1), some (.int v2), some (.int v3), some (.int v4), none] [] xs_sh (0, 0) μ
abbrev hd_X9_isWhole_130 (b : Bool) (Q : Int32 → xm_M → Prop)  (v1 : Int32) (v2 : Int32) (v4 : Int32) (μ : xm_M) : Prop := xs_RT b μ → xR k_X9_isWhole none true (fun r _ μ' => xs_RT b μ' ∧ ∃ x : Int32, r = some (.int x) ∧ Q x μ') 130 [some (.ref 75), some (.int v1), some (.int v2), none, some (.int v4), none] [] xs_sh (0, 0) μ
set_option maxHeartbeats 4000000 in
set_option maxRecDepth 100000 in
theorem l_X9_isWhole_4 {b : Bool} {Q : Int32 → xm_M → Prop} {μ : xm_M}  (v1 : Int32) (v2 : Int32) (v3 : Int32) 
    (h : (((nI 32768) ≤ v3 →
       vp_in v1 8 ∧
       ∀ m3 : xm_M, m3 = xu_I μ 85 (upd (μ.1 85) (v1).toNatClampNeg (nI 0)) →
       hd_X9_isWhole_40 b Q  v1 v2 (nI 0) (nI 0) m3) ∧
      (¬ (nI 32768) ≤ v3 →
       vp_in (((nI 32768) * v1) + v3) 262144 ∧
       ∀ m5 : xm_M, m5 = xu_I μ 92 (upd (μ.1 92) ((((nI 32768) * v1) + v3)).toNatClampNeg (vp_nar .byte (-1 : Int32))) →
       ∀ x6 : Int32, x6 = v3 + nI 1 →
       hd_X9_isWhole_4 b Q  v1 v2 x6 m5))) :
    hd_X9_isWhole_4 b Q  v1 v2 v3 μ := by
  intro hR
  refine xs_iload_n dX9_isWhole_4 rfl ?_
  refine xs_ldc dX9_isWhole_5 cn_X9_188 ?_
  refine xs_icmp_ge 28 dX9_isWhole_7 (by decide) (fun c1 => ?_) (fun c1 => ?_)
  · replace h := h.1 c1
    refine xs_aload_n dX9_isWhole_28 rfl ?_
    refine xs_getR dX9_isWhole_29 fl_X9_44 rfl sc_75 (rt_75_22 hR) ?_
    refine xs_iload_n dX9_isWhole_32 rfl ?_
    refine xs_iconst (nI 0) dX9_isWhole_33 (by decide) ?_
    obtain ⟨s2, h⟩ := h
    refine xs_iast dX9_isWhole_34 sc_85 s2 ?_
    refine xs_nmM (fun m3 e_m3 => ?_)
    replace h := h m3 e_m3
    have hR : xs_RT b m3 := by rw [e_m3]; exact hR
    refine xs_iconst (nI 0) dX9_isWhole_35 (by decide) ?_
    refine xs_istore_n [some (.ref 75), some (.int v1), some (.int v2), some (.int (nI 0)), none, none] dX9_isWhole_36 (by decide) rfl ?_
    refine xs_iconst (nI 0) dX9_isWhole_37 (by decide) ?_
    refine xs_istore [some (.ref 75), some (.int v1), some (.int v2), some (.int (nI 0)), some (.int (nI 0)), none] dX9_isWhole_38 (by decide) rfl ?_
    exact xs_loc [some (.ref 75), some (.int v1), some (.int v2), some (.int (nI 0)), some (.int (nI 0)), none] ⟨rfl, ⟨rfl, ⟨rfl, ⟨rfl, ⟨rfl, trivial⟩⟩⟩⟩⟩ (h hR)
  · replace h := h.2 c1
    refine xs_aload_n dX9_isWhole_10 rfl ?_
    refine xs_getR dX9_isWhole_11 fl_X9_67 rfl sc_75 (rt_75_29 hR) ?_
    refine xs_ldc dX9_isWhole_14 cn_X9_188 ?_
    refine xs_iload_n dX9_isWhole_16 rfl ?_
    refine xs_imul dX9_isWhole_17 ?_
    refine xs_iload_n dX9_isWhole_18 rfl ?_
    refine xs_iadd dX9_isWhole_19 ?_
    refine xs_iconst (-1 : Int32) dX9_isWhole_20 (by decide) ?_
    obtain ⟨s4, h⟩ := h
    refine xs_bast dX9_isWhole_21 sc_92 s4 ?_
    refine xs_nmM (fun m5 e_m5 => ?_)
    replace h := h m5 e_m5
    have hR : xs_RT b m5 := by rw [e_m5]; exact hR
    obtain ⟨x6, e_x6⟩ : ∃ z : Int32, z = v3 + nI 1 := ⟨_, rfl⟩
    replace h := h x6 e_x6
    refine xs_iinc x6 [some (.ref 75), some (.int v1), some (.int v2), some (.int x6), none, none] dX9_isWhole_22 (by decide) rfl (by rw [e_x6]; rfl) rfl ?_
    refine xs_goto 4 dX9_isWhole_25 (by decide) ?_
    exact xs_loc [some (.ref 75), some (.int v1), some (.int v2), some (.int x6), none, none] ⟨rfl, ⟨rfl, ⟨rfl, ⟨rfl, trivial⟩⟩⟩⟩ (h hR)
set_option maxHeartbeats 4000000 in
set_option maxRecDepth 100000 in
theorem l_X9_isWhole_40 {b : Bool} {Q : Int32 → xm_M → Prop} {μ : xm_M}  (v1 : Int32) (v2 : Int32) (v3 : Int32) (v4 : Int32) 
    (h : vp_in v1 8 ∧
      (((μ.1 84 (v1).toNatClampNeg) ≤ v4 →
       vp_in v1 8 ∧
       ((¬ (μ.1 85 (v1).toNatClampNeg) = (nI 1) →
        hd_X9_isWhole_130 b Q  v1 v2 (nI 0) μ) ∧
       ((μ.1 85 (v1).toNatClampNeg) = (nI 1) →
        ((¬ v3 = (nI 1) →
         Q (nI 0) μ) ∧
        (v3 = (nI 1) →
         Q (nI 1) μ))))) ∧
      (¬ (μ.1 84 (v1).toNatClampNeg) ≤ v4 →
       ((v2 = 0 →
        vp_in v1 8 ∧
        ((¬ (μ.1 85 (v1).toNatClampNeg) = (nI 1) →
         hd_X9_isWhole_130 b Q  v1 v2 (nI 0) μ) ∧
        ((μ.1 85 (v1).toNatClampNeg) = (nI 1) →
         ((¬ v3 = (nI 1) →
          Q (nI 0) μ) ∧
         (v3 = (nI 1) →
          Q (nI 1) μ))))) ∧
       (¬ v2 = 0 →
        vp_in (((nI 64) * v1) + v4) 512 ∧
        ((¬ (μ.1 93 ((((nI 64) * v1) + v4)).toNatClampNeg) = 0 →
         vp_in v1 8 ∧
         vp_in v1 8 ∧
         ∀ m14 : xm_M, m14 = xu_I μ 85 (upd (μ.1 85) (v1).toNatClampNeg ((μ.1 85 (v1).toNatClampNeg) + (nI 1))) →
         ∃ Q15 : Int32 → xm_M → Prop, xCi b b k_X9_gives m14 [.ref 75, .int v1, .int v4, .int (μ.1 93 ((((nI 64) * v1) + v4)).toNatClampNeg)] Q15 ∧
         ∀ (r17 : Int32) (m16 : xm_M), Q15 r17 m16 →
         ∀ x19 : Int32, x19 = v4 + nI 1 →
         hd_X9_isWhole_40 b Q  v1 r17 (μ.1 93 ((((nI 64) * v1) + v4)).toNatClampNeg) x19 m16) ∧
        ((μ.1 93 ((((nI 64) * v1) + v4)).toNatClampNeg) = 0 →
         ∀ x20 : Int32, x20 = v4 + nI 1 →
         hd_X9_isWhole_40 b Q  v1 v2 v3 x20 μ))))))) :
    hd_X9_isWhole_40 b Q  v1 v2 v3 v4 μ := by
  intro hR
  refine xs_iload dX9_isWhole_40 rfl ?_
  refine xs_aload_n dX9_isWhole_42 rfl ?_
  refine xs_getR dX9_isWhole_43 fl_X9_41 rfl sc_75 (rt_75_21 hR) ?_
  refine xs_iload_n dX9_isWhole_46 rfl ?_
  obtain ⟨s1, h⟩ := h
  refine xs_iald dX9_isWhole_47 sc_84 s1 ?_
  refine xs_icmp_ge 106 dX9_isWhole_48 (by decide) (fun c2 => ?_) (fun c2 => ?_)
  · replace h := h.1 c2
    refine xs_aload_n dX9_isWhole_106 rfl ?_
    refine xs_getR dX9_isWhole_107 fl_X9_44 rfl sc_75 (rt_75_22 hR) ?_
    refine xs_iload_n dX9_isWhole_110 rfl ?_
    obtain ⟨s3, h⟩ := h
    refine xs_iald dX9_isWhole_111 sc_85 s3 ?_
    refine xs_iconst (nI 1) dX9_isWhole_112 (by decide) ?_
    refine xs_icmp_ne 127 dX9_isWhole_113 (by decide) (fun c4 => ?_) (fun c4 => ?_)
    · replace h := h.1 c4
      refine xs_iconst (nI 0) dX9_isWhole_127 (by decide) ?_
      refine xs_istore [some (.ref 75), some (.int v1), some (.int v2), some (.int v3), some (.int (nI 0)), none] dX9_isWhole_128 (by decide) rfl ?_
      exact xs_loc [some (.ref 75), some (.int v1), some (.int v2), none, some (.int (nI 0)), none] ⟨rfl, ⟨rfl, ⟨rfl, ⟨rfl, trivial⟩⟩⟩⟩ (h hR)
    · replace h := h.2 c4
      refine xs_iload_n dX9_isWhole_116 rfl ?_
      refine xs_iconst (nI 1) dX9_isWhole_117 (by decide) ?_
      refine xs_icmp_ne 125 dX9_isWhole_118 (by decide) (fun c5 => ?_) (fun c5 => ?_)
      · replace h := h.1 c5
        refine xs_iconst (nI 0) dX9_isWhole_125 (by decide) ?_
        exact xs_ret (some (.int (nI 0))) dX9_isWhole_126 rfl rfl ⟨hR, _, rfl, h⟩
      · replace h := h.2 c5
        refine xs_iconst (nI 1) dX9_isWhole_121 (by decide) ?_
        refine xs_goto 126 dX9_isWhole_122 (by decide) ?_
        exact xs_ret (some (.int (nI 1))) dX9_isWhole_126 rfl rfl ⟨hR, _, rfl, h⟩
  · replace h := h.2 c2
    refine xs_iload_n dX9_isWhole_51 rfl ?_
    refine xs_if_eq 106 dX9_isWhole_52 (by decide) (fun c6 => ?_) (fun c6 => ?_)
    · replace h := h.1 c6
      refine xs_aload_n dX9_isWhole_106 rfl ?_
      refine xs_getR dX9_isWhole_107 fl_X9_44 rfl sc_75 (rt_75_22 hR) ?_
      refine xs_iload_n dX9_isWhole_110 rfl ?_
      obtain ⟨s7, h⟩ := h
      refine xs_iald dX9_isWhole_111 sc_85 s7 ?_
      refine xs_iconst (nI 1) dX9_isWhole_112 (by decide) ?_
      refine xs_icmp_ne 127 dX9_isWhole_113 (by decide) (fun c8 => ?_) (fun c8 => ?_)
      · replace h := h.1 c8
        refine xs_iconst (nI 0) dX9_isWhole_127 (by decide) ?_
        refine xs_istore [some (.ref 75), some (.int v1), some (.int v2), some (.int v3), some (.int (nI 0)), none] dX9_isWhole_128 (by decide) rfl ?_
        exact xs_loc [some (.ref 75), some (.int v1), some (.int v2), none, some (.int (nI 0)), none] ⟨rfl, ⟨rfl, ⟨rfl, ⟨rfl, trivial⟩⟩⟩⟩ (h hR)
      · replace h := h.2 c8
        refine xs_iload_n dX9_isWhole_116 rfl ?_
        refine xs_iconst (nI 1) dX9_isWhole_117 (by decide) ?_
        refine xs_icmp_ne 125 dX9_isWhole_118 (by decide) (fun c9 => ?_) (fun c9 => ?_)
        · replace h := h.1 c9
          refine xs_iconst (nI 0) dX9_isWhole_125 (by decide) ?_
          exact xs_ret (some (.int (nI 0))) dX9_isWhole_126 rfl rfl ⟨hR, _, rfl, h⟩
        · replace h := h.2 c9
          refine xs_iconst (nI 1) dX9_isWhole_121 (by decide) ?_
          refine xs_goto 126 dX9_isWhole_122 (by decide) ?_
          exact xs_ret (some (.int (nI 1))) dX9_isWhole_126 rfl rfl ⟨hR, _, rfl, h⟩
    · replace h := h.2 c6
      refine xs_aload_n dX9_isWhole_55 rfl ?_
      refine xs_getR dX9_isWhole_56 fl_X9_70 rfl sc_75 (rt_75_30 hR) ?_
      refine xs_bipush (nI 64) dX9_isWhole_59 (by decide) ?_
      refine xs_iload_n dX9_isWhole_61 rfl ?_
      refine xs_imul dX9_isWhole_62 ?_
      refine xs_iload dX9_isWhole_63 rfl ?_
      refine xs_iadd dX9_isWhole_65 ?_
      obtain ⟨s10, h⟩ := h
      refine xs_bald dX9_isWhole_66 sc_93 s10 ?_
      refine xs_istore [some (.ref 75), some (.int v1), some (.int v2), some (.int v3), some (.int v4), some (.int (μ.1 93 ((((nI 64) * v1) + v4)).toNatClampNeg))] dX9_isWhole_67 (by decide) rfl ?_
      refine xs_iload dX9_isWhole_69 rfl ?_
      refine xs_if_ne 77 dX9_isWhole_71 (by decide) (fun c11 => ?_) (fun c11 => ?_)
      · replace h := h.1 c11
        refine xs_aload_n dX9_isWhole_77 rfl ?_
        refine xs_getR dX9_isWhole_78 fl_X9_44 rfl sc_75 (rt_75_22 hR) ?_
        refine xs_iload_n dX9_isWhole_81 rfl ?_
        refine xs_dup2 dX9_isWhole_82 rfl rfl ?_
        obtain ⟨s12, h⟩ := h
        refine xs_iald dX9_isWhole_83 sc_85 s12 ?_
        refine xs_iconst (nI 1) dX9_isWhole_84 (by decide) ?_
        refine xs_iadd dX9_isWhole_85 ?_
        obtain ⟨s13, h⟩ := h
        refine xs_iast dX9_isWhole_86 sc_85 s13 ?_
        refine xs_nmM (fun m14 e_m14 => ?_)
        replace h := h m14 e_m14
        have hR : xs_RT b m14 := by rw [e_m14]; exact hR
        refine xs_iload dX9_isWhole_87 rfl ?_
        refine xs_istore_n [some (.ref 75), some (.int v1), some (.int v2), some (.int (μ.1 93 ((((nI 64) * v1) + v4)).toNatClampNeg)), some (.int v4), some (.int (μ.1 93 ((((nI 64) * v1) + v4)).toNatClampNeg))] dX9_isWhole_89 (by decide) rfl ?_
        refine xs_aload_n dX9_isWhole_90 rfl ?_
        refine xs_iload_n dX9_isWhole_91 rfl ?_
        refine xs_iload dX9_isWhole_92 rfl ?_
        refine xs_iload dX9_isWhole_94 rfl ?_
        obtain ⟨Q15, hQ15, h⟩ := h
        refine xs_callV (j := k_X9_gives) (As := [.int v1, .int v4, .int (μ.1 93 ((((nI 64) * v1) + v4)).toNatClampNeg)]) (S := []) dX9_isWhole_96 (hQ15 hR) ⟨ml_X9_189, mk_X9_gives.1, mk_X9_gives.2.1, mk_X9_gives.2.2⟩ mv_X9_gives ⟨Nat.le_of_ble_eq_true rfl, Nat.le_of_ble_eq_true rfl⟩ rfl (Nat.le_of_ble_eq_true rfl) sc_75 rfl ⟨rfl, rfl⟩ (fun rr m16 hq18 => ?_)
        obtain ⟨hR, r17, rfl, hq18⟩ := hq18
        replace h := h r17 m16 hq18
        refine xs_istore_n [some (.ref 75), some (.int v1), some (.int r17), some (.int (μ.1 93 ((((nI 64) * v1) + v4)).toNatClampNeg)), some (.int v4), some (.int (μ.1 93 ((((nI 64) * v1) + v4)).toNatClampNeg))] dX9_isWhole_99 (by decide) rfl ?_
        obtain ⟨x19, e_x19⟩ : ∃ z : Int32, z = v4 + nI 1 := ⟨_, rfl⟩
        replace h := h x19 e_x19
        refine xs_iinc x19 [some (.ref 75), some (.int v1), some (.int r17), some (.int (μ.1 93 ((((nI 64) * v1) + v4)).toNatClampNeg)), some (.int x19), some (.int (μ.1 93 ((((nI 64) * v1) + v4)).toNatClampNeg))] dX9_isWhole_100 (by decide) rfl (by rw [e_x19]; rfl) rfl ?_
        refine xs_goto 40 dX9_isWhole_103 (by decide) ?_
        exact xs_loc [some (.ref 75), some (.int v1), some (.int r17), some (.int (μ.1 93 ((((nI 64) * v1) + v4)).toNatClampNeg)), some (.int x19), none] ⟨rfl, ⟨rfl, ⟨rfl, ⟨rfl, ⟨rfl, trivial⟩⟩⟩⟩⟩ (h hR)
      · replace h := h.2 c11
        refine xs_goto 100 dX9_isWhole_74 (by decide) ?_
        obtain ⟨x20, e_x20⟩ : ∃ z : Int32, z = v4 + nI 1 := ⟨_, rfl⟩
        replace h := h x20 e_x20
        refine xs_iinc x20 [some (.ref 75), some (.int v1), some (.int v2), some (.int v3), some (.int x20), some (.int (μ.1 93 ((((nI 64) * v1) + v4)).toNatClampNeg))] dX9_isWhole_100 (by decide) rfl (by rw [e_x20]; rfl) rfl ?_
        refine xs_goto 40 dX9_isWhole_103 (by decide) ?_
        exact xs_loc [some (.ref 75), some (.int v1), some (.int v2), some (.int v3), some (.int x20), none] ⟨rfl, ⟨rfl, ⟨rfl, ⟨rfl, ⟨rfl, trivial⟩⟩⟩⟩⟩ (h hR)
set_option maxHeartbeats 4000000 in
set_option maxRecDepth 100000 in
theorem l_X9_isWhole_130 {b : Bool} {Q : Int32 → xm_M → Prop} {μ : xm_M}  (v1 : Int32) (v2 : Int32) (v4 : Int32) 
    (h : (((nI 32768) ≤ v4 →
       xs_bl v2 ∧
       Q v2 μ) ∧
      (¬ (nI 32768) ≤ v4 →
       ((v2 = 0 →
        xs_bl v2 ∧
        Q v2 μ) ∧
       (¬ v2 = 0 →
        vp_in (((nI 32768) * v1) + v4) 262144 ∧
        (((μ.1 92 ((((nI 32768) * v1) + v4)).toNatClampNeg) < 0 →
         ∀ x7 : Int32, x7 = v4 + nI 1 →
         hd_X9_isWhole_130 b Q  v1 (nI 0) x7 μ) ∧
        (¬ (μ.1 92 ((((nI 32768) * v1) + v4)).toNatClampNeg) < 0 →
         ∀ x8 : Int32, x8 = v4 + nI 1 →
         hd_X9_isWhole_130 b Q  v1 (nI 1) x8 μ))))))) :
    hd_X9_isWhole_130 b Q  v1 v2 v4 μ := by
  intro hR
  refine xs_iload dX9_isWhole_130 rfl ?_
  refine xs_ldc dX9_isWhole_132 cn_X9_188 ?_
  refine xs_icmp_ge 168 dX9_isWhole_134 (by decide) (fun c1 => ?_) (fun c1 => ?_)
  · replace h := h.1 c1
    refine xs_iload_n dX9_isWhole_168 rfl ?_
    obtain ⟨s2, h⟩ := h
    exact xs_ret (some (.int v2)) dX9_isWhole_169 (xs_bl_n s2) rfl ⟨hR, _, rfl, h⟩
  · replace h := h.2 c1
    refine xs_iload_n dX9_isWhole_137 rfl ?_
    refine xs_if_eq 168 dX9_isWhole_138 (by decide) (fun c3 => ?_) (fun c3 => ?_)
    · replace h := h.1 c3
      refine xs_iload_n dX9_isWhole_168 rfl ?_
      obtain ⟨s4, h⟩ := h
      exact xs_ret (some (.int v2)) dX9_isWhole_169 (xs_bl_n s4) rfl ⟨hR, _, rfl, h⟩
    · replace h := h.2 c3
      refine xs_aload_n dX9_isWhole_141 rfl ?_
      refine xs_getR dX9_isWhole_142 fl_X9_67 rfl sc_75 (rt_75_29 hR) ?_
      refine xs_ldc dX9_isWhole_145 cn_X9_188 ?_
      refine xs_iload_n dX9_isWhole_147 rfl ?_
      refine xs_imul dX9_isWhole_148 ?_
      refine xs_iload dX9_isWhole_149 rfl ?_
      refine xs_iadd dX9_isWhole_151 ?_
      obtain ⟨s5, h⟩ := h
      refine xs_bald dX9_isWhole_152 sc_92 s5 ?_
      refine xs_if_lt 160 dX9_isWhole_153 (by decide) (fun c6 => ?_) (fun c6 => ?_)
      · replace h := h.1 c6
        refine xs_iconst (nI 0) dX9_isWhole_160 (by decide) ?_
        refine xs_istore_n [some (.ref 75), some (.int v1), some (.int (nI 0)), none, some (.int v4), none] dX9_isWhole_161 (by decide) rfl ?_
        obtain ⟨x7, e_x7⟩ : ∃ z : Int32, z = v4 + nI 1 := ⟨_, rfl⟩
        replace h := h x7 e_x7
        refine xs_iinc x7 [some (.ref 75), some (.int v1), some (.int (nI 0)), none, some (.int x7), none] dX9_isWhole_162 (by decide) rfl (by rw [e_x7]; rfl) rfl ?_
        refine xs_goto 130 dX9_isWhole_165 (by decide) ?_
        exact xs_loc [some (.ref 75), some (.int v1), some (.int (nI 0)), none, some (.int x7), none] ⟨rfl, ⟨rfl, ⟨rfl, ⟨rfl, trivial⟩⟩⟩⟩ (h hR)
      · replace h := h.2 c6
        refine xs_iconst (nI 1) dX9_isWhole_156 (by decide) ?_
        refine xs_goto 161 dX9_isWhole_157 (by decide) ?_
        refine xs_istore_n [some (.ref 75), some (.int v1), some (.int (nI 1)), none, some (.int v4), none] dX9_isWhole_161 (by decide) rfl ?_
        obtain ⟨x8, e_x8⟩ : ∃ z : Int32, z = v4 + nI 1 := ⟨_, rfl⟩
        replace h := h x8 e_x8
        refine xs_iinc x8 [some (.ref 75), some (.int v1), some (.int (nI 1)), none, some (.int x8), none] dX9_isWhole_162 (by decide) rfl (by rw [e_x8]; rfl) rfl ?_
        refine xs_goto 130 dX9_isWhole_165 (by decide) ?_
        exact xs_loc [some (.ref 75), some (.int v1), some (.int (nI 1)), none, some (.int x8), none] ⟨rfl, ⟨rfl, ⟨rfl, ⟨rfl, trivial⟩⟩⟩⟩ (h hR)
set_option maxHeartbeats 4000000 in
set_option maxRecDepth 100000 in
theorem g_X9_isWhole {b : Bool} {Q : Int32 → xm_M → Prop} {μ : xm_M} (v1 : Int32) 
    (h : hd_X9_isWhole_4 b Q  v1 (nI 1) (nI 0) μ) :
    xCi b b k_X9_isWhole μ [.ref 75, .int v1] Q := by
  intro hR
  refine xm_met [some (.ref 75), some (.int v1), none, none, none, none] 4 (by decide) (by simp [lg_sl, Value.category]) rfl ?_
  refine xs_iconst (nI 1) dX9_isWhole_0 (by decide) ?_
  refine xs_istore_n [some (.ref 75), some (.int v1), some (.int (nI 1)), none, none, none] dX9_isWhole_1 (by decide) rfl ?_
  refine xs_iconst (nI 0) dX9_isWhole_2 (by decide) ?_
  refine xs_istore_n [some (.ref 75), some (.int v1), some (.int (nI 1)), some (.int (nI 0)), none, none] dX9_isWhole_3 (by decide) rfl ?_
  exact xs_loc [some (.ref 75), some (.int v1), some (.int (nI 1)), some (.int (nI 0)), none, none] ⟨rfl, ⟨rfl, ⟨rfl, ⟨rfl, trivial⟩⟩⟩⟩ (h hR)
abbrev hd_X9_power_5 (b : Bool) (Q : Int32 → xm_M → Prop)  (v1 : Int32) (v2 : Int32) (v3 : Int32) (v4 : Int32) (μ : xm_M) : Prop := xs_RT b μ → xR k_X9_power none true (fun r _ μ' => xs_RT b μ' ∧ ∃ x : Int32, r = some (.int x) ∧ Q x μ') 5 [none, some (.int v1), some (.int v2), some (.int v3), some (.int v4)] [] xs_sh (0, 0) μ
set_option maxHeartbeats 4000000 in
set_option maxRecDepth 100000 in
theorem l_X9_power_5 {b : Bool} {Q : Int32 → xm_M → Prop} {μ : xm_M}  (v1 : Int32) (v2 : Int32) (v3 : Int32) (v4 : Int32) 
    (h : ((v2 ≤ v4 →
       Q v3 μ) ∧
      (¬ v2 ≤ v4 →
       ∀ x2 : Int32, x2 = (v3 * v1) →
       ∀ x3 : Int32, x3 = v4 + nI 1 →
       hd_X9_power_5 b Q  v1 v2 x2 x3 μ))) :
    hd_X9_power_5 b Q  v1 v2 v3 v4 μ := by
  intro hR
  refine xs_iload dX9_power_5 rfl ?_
  refine xs_iload_n dX9_power_7 rfl ?_
  refine xs_icmp_ge 21 dX9_power_8 (by decide) (fun c1 => ?_) (fun c1 => ?_)
  · replace h := h.1 c1
    refine xs_iload_n dX9_power_21 rfl ?_
    exact xs_ret (some (.int v3)) dX9_power_22 rfl rfl ⟨hR, _, rfl, h⟩
  · replace h := h.2 c1
    refine xs_iload_n dX9_power_11 rfl ?_
    refine xs_iload_n dX9_power_12 rfl ?_
    refine xs_imul dX9_power_13 ?_
    refine xs_nmI (fun x2 e_x2 => ?_)
    replace h := h x2 e_x2
    refine xs_istore_n [none, some (.int v1), some (.int v2), some (.int x2), some (.int v4)] dX9_power_14 (by decide) rfl ?_
    obtain ⟨x3, e_x3⟩ : ∃ z : Int32, z = v4 + nI 1 := ⟨_, rfl⟩
    replace h := h x3 e_x3
    refine xs_iinc x3 [none, some (.int v1), some (.int v2), some (.int x2), some (.int x3)] dX9_power_15 (by decide) rfl (by rw [e_x3]; rfl) rfl ?_
    refine xs_goto 5 dX9_power_18 (by decide) ?_
    exact xs_loc [none, some (.int v1), some (.int v2), some (.int x2), some (.int x3)] ⟨rfl, ⟨rfl, ⟨rfl, ⟨rfl, trivial⟩⟩⟩⟩ (h hR)
set_option maxHeartbeats 4000000 in
set_option maxRecDepth 100000 in
theorem g_X9_power {b : Bool} {Q : Int32 → xm_M → Prop} {μ : xm_M} (v1 : Int32) (v2 : Int32) 
    (h : hd_X9_power_5 b Q  v1 v2 (nI 1) (nI 0) μ) :
    xCi b b k_X9_power μ [.ref 75, .int v1, .int v2] Q := by
  intro hR
  refine xm_met [some (.ref 75), some (.int v1), some (.int v2), none, none] 2 (by decide) (by simp [lg_sl, Value.category]) rfl ?_
  refine xs_iconst (nI 1) dX9_power_0 (by decide) ?_
  refine xs_istore_n [some (.ref 75), some (.int v1), some (.int v2), some (.int (nI 1)), none] dX9_power_1 (by decide) rfl ?_
  refine xs_iconst (nI 0) dX9_power_2 (by decide) ?_
  refine xs_istore [some (.ref 75), some (.int v1), some (.int v2), some (.int (nI 1)), some (.int (nI 0))] dX9_power_3 (by decide) rfl ?_
  exact xs_loc [none, some (.int v1), some (.int v2), some (.int (nI 1)), some (.int (nI 0))] ⟨rfl, ⟨rfl, ⟨rfl, ⟨rfl, trivial⟩⟩⟩⟩ (h hR)
abbrev hd_X9_book_29 (b : Bool) (Q : xm_M → Prop)  (v1 : Int32) (v2 : Int32) (μ : xm_M) : Prop := xs_RT b μ → xR k_X9_book none true (fun r _ μ' => xs_RT b μ' ∧ r = none ∧ Q μ') 29 [some (.ref 75), some (.int v1), some (.int v2), none, none] [] xs_sh (0, 0) μ
abbrev hd_X9_book_114 (b : Bool) (Q : xm_M → Prop)  (v1 : Int32) (μ : xm_M) : Prop := xs_RT b μ → xR k_X9_book none true (fun r _ μ' => xs_RT b μ' ∧ r = none ∧ Q μ') 114 [some (.ref 75), some (.int v1), none, none, none] [] xs_sh (0, 0) μ
abbrev hd_X9_book_233 (b : Bool) (Q : xm_M → Prop)  (v1 : Int32) (v3 : Int32) (v4 : Int32) (μ : xm_M) : Prop := xs_RT b μ → xR k_X9_book none true (fun r _ μ' => xs_RT b μ' ∧ r = none ∧ Q μ') 233 [some (.ref 75), some (.int v1), none, some (.int v3), some (.int v4)] [] xs_sh (0, 0) μ
abbrev hd_X9_book_267 (b : Bool) (Q : xm_M → Prop)   (μ : xm_M) : Prop := xs_RT b μ → xR k_X9_book none true (fun r _ μ' => xs_RT b μ' ∧ r = none ∧ Q μ') 267 [some (.ref 75), none, none, none, none] [] xs_sh (0, 0) μ
set_option maxHeartbeats 4000000 in
set_option maxRecDepth 100000 in
theorem l_X9_book_29 {b : Bool} {Q : xm_M → Prop} {μ : xm_M}  (v1 : Int32) (v2 : Int32) 
    (h : vp_in v1 8 ∧
      (((μ.1 84 (v1).toNatClampNeg) ≤ v2 →
       ∃ Q3 : xm_M → Prop, xCv b b k_X9_ended μ [.ref 75] Q3 ∧
       ∀ m4 : xm_M, Q3 m4 →
       (((m4.1 75 19) ≤ 0 →
        ∃ Q8 : Int32 → xm_M → Prop, xCi b b k_X9_isWhole m4 [.ref 75, .int v1] Q8 ∧
        ∀ (r10 : Int32) (m9 : xm_M), Q8 r10 m9 →
        ((¬ r10 = 0 →
         ∃ Q13 : Int32 → xm_M → Prop, xCi b b k_X9_bit m9 [.ref 75] Q13 ∧
         ∀ (r15 : Int32) (m14 : xm_M), Q13 r15 m14 →
         ((¬ r15 = (nI 1) →
          vp_in v1 8 ∧
          ∀ m19 : xm_M, m19 = xu_I m14 86 (upd (m14.1 86) (v1).toNatClampNeg (vp_nar .boolean (nI 0))) →
          vp_in v1 8 ∧
          ∀ m21 : xm_M, m21 = xu_I m19 90 (upd (m19.1 90) (v1).toNatClampNeg (nI 1)) →
          hd_X9_book_114 b Q  v1 m21) ∧
         (r15 = (nI 1) →
          vp_in v1 8 ∧
          ∀ m23 : xm_M, m23 = xu_I m14 86 (upd (m14.1 86) (v1).toNatClampNeg (vp_nar .boolean (nI 1))) →
          vp_in v1 8 ∧
          ∀ m25 : xm_M, m25 = xu_I m23 90 (upd (m23.1 90) (v1).toNatClampNeg (nI 1)) →
          hd_X9_book_114 b Q  v1 m25))) ∧
        (r10 = 0 →
         ∃ Q26 : xm_M → Prop, xCv b b k_X9_wrong m9 [.ref 75, .int (nI 4)] Q26 ∧
         ∀ m27 : xm_M, Q26 m27 →
         Q m27))) ∧
       (¬ (m4.1 75 19) ≤ 0 →
        Q m4))) ∧
      (¬ (μ.1 84 (v1).toNatClampNeg) ≤ v2 →
       ∃ Q30 : Int32 → xm_M → Prop, xCi b b k_X9_bits μ [.ref 75, .int (nI 4)] Q30 ∧
       ∀ (r32 : Int32) (m31 : xm_M), Q30 r32 m31 →
       vp_in (((nI 64) * v1) + v2) 512 ∧
       ∀ m35 : xm_M, m35 = xu_I m31 93 (upd (m31.1 93) ((((nI 64) * v1) + v2)).toNatClampNeg (vp_nar .byte (r32).toInt8.toInt32)) →
       ∀ x36 : Int32, x36 = v2 + nI 1 →
       hd_X9_book_29 b Q  v1 x36 m35))) :
    hd_X9_book_29 b Q  v1 v2 μ := by
  intro hR
  refine xs_iload_n dX9_book_29 rfl ?_
  refine xs_aload_n dX9_book_30 rfl ?_
  refine xs_getR dX9_book_31 fl_X9_41 rfl sc_75 (rt_75_21 hR) ?_
  refine xs_iload_n dX9_book_34 rfl ?_
  obtain ⟨s1, h⟩ := h
  refine xs_iald dX9_book_35 sc_84 s1 ?_
  refine xs_icmp_ge 62 dX9_book_36 (by decide) (fun c2 => ?_) (fun c2 => ?_)
  · replace h := h.1 c2
    refine xs_aload_n dX9_book_62 rfl ?_
    obtain ⟨Q3, hQ3, h⟩ := h
    refine xs_callV (j := k_X9_ended) (As := []) (S := []) dX9_book_63 (hQ3 hR) ⟨ml_X9_197, mk_X9_ended.1, mk_X9_ended.2.1, mk_X9_ended.2.2⟩ mv_X9_ended ⟨Nat.le_of_ble_eq_true rfl, Nat.le_of_ble_eq_true rfl⟩ rfl (Nat.le_of_ble_eq_true rfl) sc_75 rfl ⟨rfl, rfl⟩ (fun rr m4 hq6 => ?_)
    obtain ⟨hR, rfl, hq6⟩ := hq6
    replace h := h m4 hq6
    refine xs_aload_n dX9_book_66 rfl ?_
    refine xs_getI dX9_book_67 fl_X9_181.g rfl sc_75 ?_
    refine xs_if_le 74 dX9_book_70 (by decide) (fun c7 => ?_) (fun c7 => ?_)
    · replace h := h.1 c7
      refine xs_aload_n dX9_book_74 rfl ?_
      refine xs_iload_n dX9_book_75 rfl ?_
      obtain ⟨Q8, hQ8, h⟩ := h
      refine xs_callV (j := k_X9_isWhole) (As := [.int v1]) (S := []) dX9_book_76 (hQ8 hR) ⟨ml_X9_200, mk_X9_isWhole.1, mk_X9_isWhole.2.1, mk_X9_isWhole.2.2⟩ mv_X9_isWhole ⟨Nat.le_of_ble_eq_true rfl, Nat.le_of_ble_eq_true rfl⟩ rfl (Nat.le_of_ble_eq_true rfl) sc_75 rfl ⟨rfl, rfl⟩ (fun rr m9 hq11 => ?_)
      obtain ⟨hR, r10, rfl, hq11⟩ := hq11
      replace h := h r10 m9 hq11
      refine xs_if_ne 88 dX9_book_79 (by decide) (fun c12 => ?_) (fun c12 => ?_)
      · replace h := h.1 c12
        refine xs_aload_n dX9_book_88 rfl ?_
        refine xs_getR dX9_book_89 fl_X9_47 rfl sc_75 (rt_75_23 hR) ?_
        refine xs_iload_n dX9_book_92 rfl ?_
        refine xs_aload_n dX9_book_93 rfl ?_
        obtain ⟨Q13, hQ13, h⟩ := h
        refine xs_callV (j := k_X9_bit) (As := []) (S := [.int v1, .ref 86]) dX9_book_94 (hQ13 hR) ⟨ml_X9_177, mk_X9_bit.1, mk_X9_bit.2.1, mk_X9_bit.2.2⟩ mv_X9_bit ⟨Nat.le_of_ble_eq_true rfl, Nat.le_of_ble_eq_true rfl⟩ rfl (Nat.le_of_ble_eq_true rfl) sc_75 rfl ⟨rfl, rfl⟩ (fun rr m14 hq16 => ?_)
        obtain ⟨hR, r15, rfl, hq16⟩ := hq16
        replace h := h r15 m14 hq16
        refine xs_iconst (nI 1) dX9_book_97 (by decide) ?_
        refine xs_icmp_ne 105 dX9_book_98 (by decide) (fun c17 => ?_) (fun c17 => ?_)
        · replace h := h.1 c17
          refine xs_iconst (nI 0) dX9_book_105 (by decide) ?_
          obtain ⟨s18, h⟩ := h
          refine xs_zast dX9_book_106 sc_86 s18 ?_
          refine xs_nmM (fun m19 e_m19 => ?_)
          replace h := h m19 e_m19
          have hR : xs_RT b m19 := by rw [e_m19]; exact hR
          refine xs_aload_n dX9_book_107 rfl ?_
          refine xs_getR dX9_book_108 fl_X9_60 rfl sc_75 (rt_75_27 hR) ?_
          refine xs_iload_n dX9_book_111 rfl ?_
          refine xs_iconst (nI 1) dX9_book_112 (by decide) ?_
          obtain ⟨s20, h⟩ := h
          refine xs_iast dX9_book_113 sc_90 s20 ?_
          refine xs_nmM (fun m21 e_m21 => ?_)
          replace h := h m21 e_m21
          have hR : xs_RT b m21 := by rw [e_m21]; exact hR
          exact xs_loc [some (.ref 75), some (.int v1), none, none, none] ⟨rfl, ⟨rfl, trivial⟩⟩ (h hR)
        · replace h := h.2 c17
          refine xs_iconst (nI 1) dX9_book_101 (by decide) ?_
          refine xs_goto 106 dX9_book_102 (by decide) ?_
          obtain ⟨s22, h⟩ := h
          refine xs_zast dX9_book_106 sc_86 s22 ?_
          refine xs_nmM (fun m23 e_m23 => ?_)
          replace h := h m23 e_m23
          have hR : xs_RT b m23 := by rw [e_m23]; exact hR
          refine xs_aload_n dX9_book_107 rfl ?_
          refine xs_getR dX9_book_108 fl_X9_60 rfl sc_75 (rt_75_27 hR) ?_
          refine xs_iload_n dX9_book_111 rfl ?_
          refine xs_iconst (nI 1) dX9_book_112 (by decide) ?_
          obtain ⟨s24, h⟩ := h
          refine xs_iast dX9_book_113 sc_90 s24 ?_
          refine xs_nmM (fun m25 e_m25 => ?_)
          replace h := h m25 e_m25
          have hR : xs_RT b m25 := by rw [e_m25]; exact hR
          exact xs_loc [some (.ref 75), some (.int v1), none, none, none] ⟨rfl, ⟨rfl, trivial⟩⟩ (h hR)
      · replace h := h.2 c12
        refine xs_aload_n dX9_book_82 rfl ?_
        refine xs_iconst (nI 4) dX9_book_83 (by decide) ?_
        obtain ⟨Q26, hQ26, h⟩ := h
        refine xs_callV (j := k_X9_wrong) (As := [.int (nI 4)]) (S := []) dX9_book_84 (hQ26 hR) ⟨ml_X9_184, mk_X9_wrong.1, mk_X9_wrong.2.1, mk_X9_wrong.2.2⟩ mv_X9_wrong ⟨Nat.le_of_ble_eq_true rfl, Nat.le_of_ble_eq_true rfl⟩ rfl (Nat.le_of_ble_eq_true rfl) sc_75 rfl ⟨rfl, rfl⟩ (fun rr m27 hq29 => ?_)
        obtain ⟨hR, rfl, hq29⟩ := hq29
        replace h := h m27 hq29
        exact xs_ret none dX9_book_87 trivial rfl ⟨hR, rfl, h⟩
    · replace h := h.2 c7
      exact xs_ret none dX9_book_73 trivial rfl ⟨hR, rfl, h⟩
  · replace h := h.2 c2
    refine xs_aload_n dX9_book_39 rfl ?_
    refine xs_getR dX9_book_40 fl_X9_70 rfl sc_75 (rt_75_30 hR) ?_
    refine xs_bipush (nI 64) dX9_book_43 (by decide) ?_
    refine xs_iload_n dX9_book_45 rfl ?_
    refine xs_imul dX9_book_46 ?_
    refine xs_iload_n dX9_book_47 rfl ?_
    refine xs_iadd dX9_book_48 ?_
    refine xs_aload_n dX9_book_49 rfl ?_
    refine xs_iconst (nI 4) dX9_book_50 (by decide) ?_
    obtain ⟨Q30, hQ30, h⟩ := h
    refine xs_callV (j := k_X9_bits) (As := [.int (nI 4)]) (S := [.int (((nI 64) * v1) + v2), .ref 93]) dX9_book_51 (hQ30 hR) ⟨ml_X9_193, mk_X9_bits.1, mk_X9_bits.2.1, mk_X9_bits.2.2⟩ mv_X9_bits ⟨Nat.le_of_ble_eq_true rfl, Nat.le_of_ble_eq_true rfl⟩ rfl (Nat.le_of_ble_eq_true rfl) sc_75 rfl ⟨rfl, rfl⟩ (fun rr m31 hq33 => ?_)
    obtain ⟨hR, r32, rfl, hq33⟩ := hq33
    replace h := h r32 m31 hq33
    refine xs_i2b dX9_book_54 ?_
    obtain ⟨s34, h⟩ := h
    refine xs_bast dX9_book_55 sc_93 s34 ?_
    refine xs_nmM (fun m35 e_m35 => ?_)
    replace h := h m35 e_m35
    have hR : xs_RT b m35 := by rw [e_m35]; exact hR
    obtain ⟨x36, e_x36⟩ : ∃ z : Int32, z = v2 + nI 1 := ⟨_, rfl⟩
    replace h := h x36 e_x36
    refine xs_iinc x36 [some (.ref 75), some (.int v1), some (.int x36), none, none] dX9_book_56 (by decide) rfl (by rw [e_x36]; rfl) rfl ?_
    refine xs_goto 29 dX9_book_59 (by decide) ?_
    exact xs_loc [some (.ref 75), some (.int v1), some (.int x36), none, none] ⟨rfl, ⟨rfl, ⟨rfl, trivial⟩⟩⟩ (h hR)
set_option maxHeartbeats 4000000 in
set_option maxRecDepth 100000 in
theorem l_X9_book_114 {b : Bool} {Q : xm_M → Prop} {μ : xm_M}  (v1 : Int32) 
    (h : vp_in v1 8 ∧
      vp_in v1 8 ∧
      ∃ Q3 : Int32 → xm_M → Prop, xCi b b k_X9_power μ [.ref 75, .int ((μ.1 90 (v1).toNatClampNeg) + (nI 1)), .int (μ.1 83 (v1).toNatClampNeg)] Q3 ∧
      ∀ (r5 : Int32) (m4 : xm_M), Q3 r5 m4 →
      vp_in v1 8 ∧
      (((m4.1 84 (v1).toNatClampNeg) < r5 →
       vp_in v1 8 ∧
       (((m4.1 86 (v1).toNatClampNeg) = 0 →
        hd_X9_book_267 b Q   m4) ∧
       (¬ (m4.1 86 (v1).toNatClampNeg) = 0 →
        ∃ Q11 : Int32 → xm_M → Prop, xCi b b k_X9_bits m4 [.ref 75, .int (nI 8)] Q11 ∧
        ∀ (r13 : Int32) (m12 : xm_M), Q11 r13 m12 →
        ((r13 ≤ (nI 127) →
         vp_in v1 8 ∧
         ∀ m17 : xm_M, m17 = xu_I m12 87 (upd (m12.1 87) (v1).toNatClampNeg r13) →
         ∃ Q18 : Int32 → xm_M → Prop, xCi b b k_X9_bits m17 [.ref 75, .int (nI 8)] Q18 ∧
         ∀ (r20 : Int32) (m19 : xm_M), Q18 r20 m19 →
         vp_in v1 8 ∧
         ∀ m23 : xm_M, m23 = xu_I m19 88 (upd (m19.1 88) (v1).toNatClampNeg r20) →
         ∃ Q24 : Int32 → xm_M → Prop, xCi b b k_X9_bit m23 [.ref 75] Q24 ∧
         ∀ (r26 : Int32) (m25 : xm_M), Q24 r26 m25 →
         ((¬ r26 = (nI 1) →
          vp_in v1 8 ∧
          ∀ m30 : xm_M, m30 = xu_I m25 89 (upd (m25.1 89) (v1).toNatClampNeg (vp_nar .boolean (nI 0))) →
          ∃ Q31 : Int32 → xm_M → Prop, xCi b b k_X9_bits m30 [.ref 75, .int (nI 3)] Q31 ∧
          ∀ (r33 : Int32) (m32 : xm_M), Q31 r33 m32 →
          ∀ x35 : Int32, x35 = ((nI 1) + r33) →
          hd_X9_book_233 b Q  v1 x35 (nI 0) m32) ∧
         (r26 = (nI 1) →
          vp_in v1 8 ∧
          ∀ m37 : xm_M, m37 = xu_I m25 89 (upd (m25.1 89) (v1).toNatClampNeg (vp_nar .boolean (nI 1))) →
          ∃ Q38 : Int32 → xm_M → Prop, xCi b b k_X9_bits m37 [.ref 75, .int (nI 3)] Q38 ∧
          ∀ (r40 : Int32) (m39 : xm_M), Q38 r40 m39 →
          ∀ x42 : Int32, x42 = ((nI 1) + r40) →
          hd_X9_book_233 b Q  v1 x42 (nI 0) m39))) ∧
        (¬ r13 ≤ (nI 127) →
         vp_in v1 8 ∧
         ∀ m44 : xm_M, m44 = xu_I m12 87 (upd (m12.1 87) (v1).toNatClampNeg (r13 - (nI 256))) →
         ∃ Q45 : Int32 → xm_M → Prop, xCi b b k_X9_bits m44 [.ref 75, .int (nI 8)] Q45 ∧
         ∀ (r47 : Int32) (m46 : xm_M), Q45 r47 m46 →
         vp_in v1 8 ∧
         ∀ m50 : xm_M, m50 = xu_I m46 88 (upd (m46.1 88) (v1).toNatClampNeg r47) →
         ∃ Q51 : Int32 → xm_M → Prop, xCi b b k_X9_bit m50 [.ref 75] Q51 ∧
         ∀ (r53 : Int32) (m52 : xm_M), Q51 r53 m52 →
         ((¬ r53 = (nI 1) →
          vp_in v1 8 ∧
          ∀ m57 : xm_M, m57 = xu_I m52 89 (upd (m52.1 89) (v1).toNatClampNeg (vp_nar .boolean (nI 0))) →
          ∃ Q58 : Int32 → xm_M → Prop, xCi b b k_X9_bits m57 [.ref 75, .int (nI 3)] Q58 ∧
          ∀ (r60 : Int32) (m59 : xm_M), Q58 r60 m59 →
          ∀ x62 : Int32, x62 = ((nI 1) + r60) →
          hd_X9_book_233 b Q  v1 x62 (nI 0) m59) ∧
         (r53 = (nI 1) →
          vp_in v1 8 ∧
          ∀ m64 : xm_M, m64 = xu_I m52 89 (upd (m52.1 89) (v1).toNatClampNeg (vp_nar .boolean (nI 1))) →
          ∃ Q65 : Int32 → xm_M → Prop, xCi b b k_X9_bits m64 [.ref 75, .int (nI 3)] Q65 ∧
          ∀ (r67 : Int32) (m66 : xm_M), Q65 r67 m66 →
          ∀ x69 : Int32, x69 = ((nI 1) + r67) →
          hd_X9_book_233 b Q  v1 x69 (nI 0) m66))))))) ∧
      (¬ (m4.1 84 (v1).toNatClampNeg) < r5 →
       vp_in v1 8 ∧
       vp_in v1 8 ∧
       ∀ m72 : xm_M, m72 = xu_I m4 90 (upd (m4.1 90) (v1).toNatClampNeg ((m4.1 90 (v1).toNatClampNeg) + (nI 1))) →
       hd_X9_book_114 b Q  v1 m72))) :
    hd_X9_book_114 b Q  v1 μ := by
  intro hR
  refine xs_aload_n dX9_book_114 rfl ?_
  refine xs_aload_n dX9_book_115 rfl ?_
  refine xs_getR dX9_book_116 fl_X9_60 rfl sc_75 (rt_75_27 hR) ?_
  refine xs_iload_n dX9_book_119 rfl ?_
  obtain ⟨s1, h⟩ := h
  refine xs_iald dX9_book_120 sc_90 s1 ?_
  refine xs_iconst (nI 1) dX9_book_121 (by decide) ?_
  refine xs_iadd dX9_book_122 ?_
  refine xs_aload_n dX9_book_123 rfl ?_
  refine xs_getR dX9_book_124 fl_X9_38 rfl sc_75 (rt_75_20 hR) ?_
  refine xs_iload_n dX9_book_127 rfl ?_
  obtain ⟨s2, h⟩ := h
  refine xs_iald dX9_book_128 sc_83 s2 ?_
  obtain ⟨Q3, hQ3, h⟩ := h
  refine xs_callV (j := k_X9_power) (As := [.int ((μ.1 90 (v1).toNatClampNeg) + (nI 1)), .int (μ.1 83 (v1).toNatClampNeg)]) (S := []) dX9_book_129 (hQ3 hR) ⟨ml_X9_204, mk_X9_power.1, mk_X9_power.2.1, mk_X9_power.2.2⟩ mv_X9_power ⟨Nat.le_of_ble_eq_true rfl, Nat.le_of_ble_eq_true rfl⟩ rfl (Nat.le_of_ble_eq_true rfl) sc_75 rfl ⟨rfl, rfl⟩ (fun rr m4 hq6 => ?_)
  obtain ⟨hR, r5, rfl, hq6⟩ := hq6
  replace h := h r5 m4 hq6
  refine xs_aload_n dX9_book_132 rfl ?_
  refine xs_getR dX9_book_133 fl_X9_41 rfl sc_75 (rt_75_21 hR) ?_
  refine xs_iload_n dX9_book_136 rfl ?_
  obtain ⟨s7, h⟩ := h
  refine xs_iald dX9_book_137 sc_84 s7 ?_
  refine xs_icmp_gt 154 dX9_book_138 (by decide) (fun c8 => ?_) (fun c8 => ?_)
  · replace h := h.1 c8
    refine xs_aload_n dX9_book_154 rfl ?_
    refine xs_getR dX9_book_155 fl_X9_47 rfl sc_75 (rt_75_23 hR) ?_
    refine xs_iload_n dX9_book_158 rfl ?_
    obtain ⟨s9, h⟩ := h
    refine xs_zald dX9_book_159 sc_86 s9 ?_
    refine xs_if_eq 267 dX9_book_160 (by decide) (fun c10 => ?_) (fun c10 => ?_)
    · replace h := h.1 c10
      exact xs_loc [some (.ref 75), none, none, none, none] ⟨rfl, trivial⟩ (h hR)
    · replace h := h.2 c10
      refine xs_aload_n dX9_book_163 rfl ?_
      refine xs_bipush (nI 8) dX9_book_164 (by decide) ?_
      obtain ⟨Q11, hQ11, h⟩ := h
      refine xs_callV (j := k_X9_bits) (As := [.int (nI 8)]) (S := []) dX9_book_166 (hQ11 hR) ⟨ml_X9_193, mk_X9_bits.1, mk_X9_bits.2.1, mk_X9_bits.2.2⟩ mv_X9_bits ⟨Nat.le_of_ble_eq_true rfl, Nat.le_of_ble_eq_true rfl⟩ rfl (Nat.le_of_ble_eq_true rfl) sc_75 rfl ⟨rfl, rfl⟩ (fun rr m12 hq14 => ?_)
      obtain ⟨hR, r13, rfl, hq14⟩ := hq14
      replace h := h r13 m12 hq14
      refine xs_istore_n [some (.ref 75), some (.int v1), some (.int r13), none, none] dX9_book_169 (by decide) rfl ?_
      refine xs_aload_n dX9_book_170 rfl ?_
      refine xs_getR dX9_book_171 fl_X9_51 rfl sc_75 (rt_75_24 hR) ?_
      refine xs_iload_n dX9_book_174 rfl ?_
      refine xs_iload_n dX9_book_175 rfl ?_
      refine xs_bipush (nI 127) dX9_book_176 (by decide) ?_
      refine xs_icmp_le 189 dX9_book_178 (by decide) (fun c15 => ?_) (fun c15 => ?_)
      · replace h := h.1 c15
        refine xs_iload_n dX9_book_189 rfl ?_
        obtain ⟨s16, h⟩ := h
        refine xs_iast dX9_book_190 sc_87 s16 ?_
        refine xs_nmM (fun m17 e_m17 => ?_)
        replace h := h m17 e_m17
        have hR : xs_RT b m17 := by rw [e_m17]; exact hR
        refine xs_aload_n dX9_book_191 rfl ?_
        refine xs_getR dX9_book_192 fl_X9_54 rfl sc_75 (rt_75_25 hR) ?_
        refine xs_iload_n dX9_book_195 rfl ?_
        refine xs_aload_n dX9_book_196 rfl ?_
        refine xs_bipush (nI 8) dX9_book_197 (by decide) ?_
        obtain ⟨Q18, hQ18, h⟩ := h
        refine xs_callV (j := k_X9_bits) (As := [.int (nI 8)]) (S := [.int v1, .ref 88]) dX9_book_199 (hQ18 hR) ⟨ml_X9_193, mk_X9_bits.1, mk_X9_bits.2.1, mk_X9_bits.2.2⟩ mv_X9_bits ⟨Nat.le_of_ble_eq_true rfl, Nat.le_of_ble_eq_true rfl⟩ rfl (Nat.le_of_ble_eq_true rfl) sc_75 rfl ⟨rfl, rfl⟩ (fun rr m19 hq21 => ?_)
        obtain ⟨hR, r20, rfl, hq21⟩ := hq21
        replace h := h r20 m19 hq21
        obtain ⟨s22, h⟩ := h
        refine xs_iast dX9_book_202 sc_88 s22 ?_
        refine xs_nmM (fun m23 e_m23 => ?_)
        replace h := h m23 e_m23
        have hR : xs_RT b m23 := by rw [e_m23]; exact hR
        refine xs_aload_n dX9_book_203 rfl ?_
        refine xs_getR dX9_book_204 fl_X9_57 rfl sc_75 (rt_75_26 hR) ?_
        refine xs_iload_n dX9_book_207 rfl ?_
        refine xs_aload_n dX9_book_208 rfl ?_
        obtain ⟨Q24, hQ24, h⟩ := h
        refine xs_callV (j := k_X9_bit) (As := []) (S := [.int v1, .ref 89]) dX9_book_209 (hQ24 hR) ⟨ml_X9_177, mk_X9_bit.1, mk_X9_bit.2.1, mk_X9_bit.2.2⟩ mv_X9_bit ⟨Nat.le_of_ble_eq_true rfl, Nat.le_of_ble_eq_true rfl⟩ rfl (Nat.le_of_ble_eq_true rfl) sc_75 rfl ⟨rfl, rfl⟩ (fun rr m25 hq27 => ?_)
        obtain ⟨hR, r26, rfl, hq27⟩ := hq27
        replace h := h r26 m25 hq27
        refine xs_iconst (nI 1) dX9_book_212 (by decide) ?_
        refine xs_icmp_ne 220 dX9_book_213 (by decide) (fun c28 => ?_) (fun c28 => ?_)
        · replace h := h.1 c28
          refine xs_iconst (nI 0) dX9_book_220 (by decide) ?_
          obtain ⟨s29, h⟩ := h
          refine xs_zast dX9_book_221 sc_89 s29 ?_
          refine xs_nmM (fun m30 e_m30 => ?_)
          replace h := h m30 e_m30
          have hR : xs_RT b m30 := by rw [e_m30]; exact hR
          refine xs_iconst (nI 1) dX9_book_222 (by decide) ?_
          refine xs_aload_n dX9_book_223 rfl ?_
          refine xs_iconst (nI 3) dX9_book_224 (by decide) ?_
          obtain ⟨Q31, hQ31, h⟩ := h
          refine xs_callV (j := k_X9_bits) (As := [.int (nI 3)]) (S := [.int (nI 1)]) dX9_book_225 (hQ31 hR) ⟨ml_X9_193, mk_X9_bits.1, mk_X9_bits.2.1, mk_X9_bits.2.2⟩ mv_X9_bits ⟨Nat.le_of_ble_eq_true rfl, Nat.le_of_ble_eq_true rfl⟩ rfl (Nat.le_of_ble_eq_true rfl) sc_75 rfl ⟨rfl, rfl⟩ (fun rr m32 hq34 => ?_)
          obtain ⟨hR, r33, rfl, hq34⟩ := hq34
          replace h := h r33 m32 hq34
          refine xs_iadd dX9_book_228 ?_
          refine xs_nmI (fun x35 e_x35 => ?_)
          replace h := h x35 e_x35
          refine xs_istore_n [some (.ref 75), some (.int v1), some (.int r13), some (.int x35), none] dX9_book_229 (by decide) rfl ?_
          refine xs_iconst (nI 0) dX9_book_230 (by decide) ?_
          refine xs_istore [some (.ref 75), some (.int v1), some (.int r13), some (.int x35), some (.int (nI 0))] dX9_book_231 (by decide) rfl ?_
          exact xs_loc [some (.ref 75), some (.int v1), none, some (.int x35), some (.int (nI 0))] ⟨rfl, ⟨rfl, ⟨rfl, ⟨rfl, trivial⟩⟩⟩⟩ (h hR)
        · replace h := h.2 c28
          refine xs_iconst (nI 1) dX9_book_216 (by decide) ?_
          refine xs_goto 221 dX9_book_217 (by decide) ?_
          obtain ⟨s36, h⟩ := h
          refine xs_zast dX9_book_221 sc_89 s36 ?_
          refine xs_nmM (fun m37 e_m37 => ?_)
          replace h := h m37 e_m37
          have hR : xs_RT b m37 := by rw [e_m37]; exact hR
          refine xs_iconst (nI 1) dX9_book_222 (by decide) ?_
          refine xs_aload_n dX9_book_223 rfl ?_
          refine xs_iconst (nI 3) dX9_book_224 (by decide) ?_
          obtain ⟨Q38, hQ38, h⟩ := h
          refine xs_callV (j := k_X9_bits) (As := [.int (nI 3)]) (S := [.int (nI 1)]) dX9_book_225 (hQ38 hR) ⟨ml_X9_193, mk_X9_bits.1, mk_X9_bits.2.1, mk_X9_bits.2.2⟩ mv_X9_bits ⟨Nat.le_of_ble_eq_true rfl, Nat.le_of_ble_eq_true rfl⟩ rfl (Nat.le_of_ble_eq_true rfl) sc_75 rfl ⟨rfl, rfl⟩ (fun rr m39 hq41 => ?_)
          obtain ⟨hR, r40, rfl, hq41⟩ := hq41
          replace h := h r40 m39 hq41
          refine xs_iadd dX9_book_228 ?_
          refine xs_nmI (fun x42 e_x42 => ?_)
          replace h := h x42 e_x42
          refine xs_istore_n [some (.ref 75), some (.int v1), some (.int r13), some (.int x42), none] dX9_book_229 (by decide) rfl ?_
          refine xs_iconst (nI 0) dX9_book_230 (by decide) ?_
          refine xs_istore [some (.ref 75), some (.int v1), some (.int r13), some (.int x42), some (.int (nI 0))] dX9_book_231 (by decide) rfl ?_
          exact xs_loc [some (.ref 75), some (.int v1), none, some (.int x42), some (.int (nI 0))] ⟨rfl, ⟨rfl, ⟨rfl, ⟨rfl, trivial⟩⟩⟩⟩ (h hR)
      · replace h := h.2 c15
        refine xs_iload_n dX9_book_181 rfl ?_
        refine xs_sipush (nI 256) dX9_book_182 (by decide) ?_
        refine xs_isub dX9_book_185 ?_
        refine xs_goto 190 dX9_book_186 (by decide) ?_
        obtain ⟨s43, h⟩ := h
        refine xs_iast dX9_book_190 sc_87 s43 ?_
        refine xs_nmM (fun m44 e_m44 => ?_)
        replace h := h m44 e_m44
        have hR : xs_RT b m44 := by rw [e_m44]; exact hR
        refine xs_aload_n dX9_book_191 rfl ?_
        refine xs_getR dX9_book_192 fl_X9_54 rfl sc_75 (rt_75_25 hR) ?_
        refine xs_iload_n dX9_book_195 rfl ?_
        refine xs_aload_n dX9_book_196 rfl ?_
        refine xs_bipush (nI 8) dX9_book_197 (by decide) ?_
        obtain ⟨Q45, hQ45, h⟩ := h
        refine xs_callV (j := k_X9_bits) (As := [.int (nI 8)]) (S := [.int v1, .ref 88]) dX9_book_199 (hQ45 hR) ⟨ml_X9_193, mk_X9_bits.1, mk_X9_bits.2.1, mk_X9_bits.2.2⟩ mv_X9_bits ⟨Nat.le_of_ble_eq_true rfl, Nat.le_of_ble_eq_true rfl⟩ rfl (Nat.le_of_ble_eq_true rfl) sc_75 rfl ⟨rfl, rfl⟩ (fun rr m46 hq48 => ?_)
        obtain ⟨hR, r47, rfl, hq48⟩ := hq48
        replace h := h r47 m46 hq48
        obtain ⟨s49, h⟩ := h
        refine xs_iast dX9_book_202 sc_88 s49 ?_
        refine xs_nmM (fun m50 e_m50 => ?_)
        replace h := h m50 e_m50
        have hR : xs_RT b m50 := by rw [e_m50]; exact hR
        refine xs_aload_n dX9_book_203 rfl ?_
        refine xs_getR dX9_book_204 fl_X9_57 rfl sc_75 (rt_75_26 hR) ?_
        refine xs_iload_n dX9_book_207 rfl ?_
        refine xs_aload_n dX9_book_208 rfl ?_
        obtain ⟨Q51, hQ51, h⟩ := h
        refine xs_callV (j := k_X9_bit) (As := []) (S := [.int v1, .ref 89]) dX9_book_209 (hQ51 hR) ⟨ml_X9_177, mk_X9_bit.1, mk_X9_bit.2.1, mk_X9_bit.2.2⟩ mv_X9_bit ⟨Nat.le_of_ble_eq_true rfl, Nat.le_of_ble_eq_true rfl⟩ rfl (Nat.le_of_ble_eq_true rfl) sc_75 rfl ⟨rfl, rfl⟩ (fun rr m52 hq54 => ?_)
        obtain ⟨hR, r53, rfl, hq54⟩ := hq54
        replace h := h r53 m52 hq54
        refine xs_iconst (nI 1) dX9_book_212 (by decide) ?_
        refine xs_icmp_ne 220 dX9_book_213 (by decide) (fun c55 => ?_) (fun c55 => ?_)
        · replace h := h.1 c55
          refine xs_iconst (nI 0) dX9_book_220 (by decide) ?_
          obtain ⟨s56, h⟩ := h
          refine xs_zast dX9_book_221 sc_89 s56 ?_
          refine xs_nmM (fun m57 e_m57 => ?_)
          replace h := h m57 e_m57
          have hR : xs_RT b m57 := by rw [e_m57]; exact hR
          refine xs_iconst (nI 1) dX9_book_222 (by decide) ?_
          refine xs_aload_n dX9_book_223 rfl ?_
          refine xs_iconst (nI 3) dX9_book_224 (by decide) ?_
          obtain ⟨Q58, hQ58, h⟩ := h
          refine xs_callV (j := k_X9_bits) (As := [.int (nI 3)]) (S := [.int (nI 1)]) dX9_book_225 (hQ58 hR) ⟨ml_X9_193, mk_X9_bits.1, mk_X9_bits.2.1, mk_X9_bits.2.2⟩ mv_X9_bits ⟨Nat.le_of_ble_eq_true rfl, Nat.le_of_ble_eq_true rfl⟩ rfl (Nat.le_of_ble_eq_true rfl) sc_75 rfl ⟨rfl, rfl⟩ (fun rr m59 hq61 => ?_)
          obtain ⟨hR, r60, rfl, hq61⟩ := hq61
          replace h := h r60 m59 hq61
          refine xs_iadd dX9_book_228 ?_
          refine xs_nmI (fun x62 e_x62 => ?_)
          replace h := h x62 e_x62
          refine xs_istore_n [some (.ref 75), some (.int v1), some (.int r13), some (.int x62), none] dX9_book_229 (by decide) rfl ?_
          refine xs_iconst (nI 0) dX9_book_230 (by decide) ?_
          refine xs_istore [some (.ref 75), some (.int v1), some (.int r13), some (.int x62), some (.int (nI 0))] dX9_book_231 (by decide) rfl ?_
          exact xs_loc [some (.ref 75), some (.int v1), none, some (.int x62), some (.int (nI 0))] ⟨rfl, ⟨rfl, ⟨rfl, ⟨rfl, trivial⟩⟩⟩⟩ (h hR)
        · replace h := h.2 c55
          refine xs_iconst (nI 1) dX9_book_216 (by decide) ?_
          refine xs_goto 221 dX9_book_217 (by decide) ?_
          obtain ⟨s63, h⟩ := h
          refine xs_zast dX9_book_221 sc_89 s63 ?_
          refine xs_nmM (fun m64 e_m64 => ?_)
          replace h := h m64 e_m64
          have hR : xs_RT b m64 := by rw [e_m64]; exact hR
          refine xs_iconst (nI 1) dX9_book_222 (by decide) ?_
          refine xs_aload_n dX9_book_223 rfl ?_
          refine xs_iconst (nI 3) dX9_book_224 (by decide) ?_
          obtain ⟨Q65, hQ65, h⟩ := h
          refine xs_callV (j := k_X9_bits) (As := [.int (nI 3)]) (S := [.int (nI 1)]) dX9_book_225 (hQ65 hR) ⟨ml_X9_193, mk_X9_bits.1, mk_X9_bits.2.1, mk_X9_bits.2.2⟩ mv_X9_bits ⟨Nat.le_of_ble_eq_true rfl, Nat.le_of_ble_eq_true rfl⟩ rfl (Nat.le_of_ble_eq_true rfl) sc_75 rfl ⟨rfl, rfl⟩ (fun rr m66 hq68 => ?_)
          obtain ⟨hR, r67, rfl, hq68⟩ := hq68
          replace h := h r67 m66 hq68
          refine xs_iadd dX9_book_228 ?_
          refine xs_nmI (fun x69 e_x69 => ?_)
          replace h := h x69 e_x69
          refine xs_istore_n [some (.ref 75), some (.int v1), some (.int r13), some (.int x69), none] dX9_book_229 (by decide) rfl ?_
          refine xs_iconst (nI 0) dX9_book_230 (by decide) ?_
          refine xs_istore [some (.ref 75), some (.int v1), some (.int r13), some (.int x69), some (.int (nI 0))] dX9_book_231 (by decide) rfl ?_
          exact xs_loc [some (.ref 75), some (.int v1), none, some (.int x69), some (.int (nI 0))] ⟨rfl, ⟨rfl, ⟨rfl, ⟨rfl, trivial⟩⟩⟩⟩ (h hR)
  · replace h := h.2 c8
    refine xs_aload_n dX9_book_141 rfl ?_
    refine xs_getR dX9_book_142 fl_X9_60 rfl sc_75 (rt_75_27 hR) ?_
    refine xs_iload_n dX9_book_145 rfl ?_
    refine xs_dup2 dX9_book_146 rfl rfl ?_
    obtain ⟨s70, h⟩ := h
    refine xs_iald dX9_book_147 sc_90 s70 ?_
    refine xs_iconst (nI 1) dX9_book_148 (by decide) ?_
    refine xs_iadd dX9_book_149 ?_
    obtain ⟨s71, h⟩ := h
    refine xs_iast dX9_book_150 sc_90 s71 ?_
    refine xs_nmM (fun m72 e_m72 => ?_)
    replace h := h m72 e_m72
    have hR : xs_RT b m72 := by rw [e_m72]; exact hR
    refine xs_goto 114 dX9_book_151 (by decide) ?_
    exact xs_loc [some (.ref 75), some (.int v1), none, none, none] ⟨rfl, ⟨rfl, trivial⟩⟩ (h hR)
set_option maxHeartbeats 4000000 in
set_option maxRecDepth 100000 in
theorem l_X9_book_233 {b : Bool} {Q : xm_M → Prop} {μ : xm_M}  (v1 : Int32) (v3 : Int32) (v4 : Int32) 
    (h : vp_in v1 8 ∧
      (((μ.1 90 (v1).toNatClampNeg) ≤ v4 →
       hd_X9_book_267 b Q   μ) ∧
      (¬ (μ.1 90 (v1).toNatClampNeg) ≤ v4 →
       ∃ Q3 : Int32 → xm_M → Prop, xCi b b k_X9_bits μ [.ref 75, .int v3] Q3 ∧
       ∀ (r5 : Int32) (m4 : xm_M), Q3 r5 m4 →
       vp_in (((nI 64) * v1) + v4) 512 ∧
       ∀ m8 : xm_M, m8 = xu_I m4 91 (upd (m4.1 91) ((((nI 64) * v1) + v4)).toNatClampNeg r5) →
       ∀ x9 : Int32, x9 = v4 + nI 1 →
       hd_X9_book_233 b Q  v1 v3 x9 m8))) :
    hd_X9_book_233 b Q  v1 v3 v4 μ := by
  intro hR
  refine xs_iload dX9_book_233 rfl ?_
  refine xs_aload_n dX9_book_235 rfl ?_
  refine xs_getR dX9_book_236 fl_X9_60 rfl sc_75 (rt_75_27 hR) ?_
  refine xs_iload_n dX9_book_239 rfl ?_
  obtain ⟨s1, h⟩ := h
  refine xs_iald dX9_book_240 sc_90 s1 ?_
  refine xs_icmp_ge 267 dX9_book_241 (by decide) (fun c2 => ?_) (fun c2 => ?_)
  · replace h := h.1 c2
    exact xs_loc [some (.ref 75), none, none, none, none] ⟨rfl, trivial⟩ (h hR)
  · replace h := h.2 c2
    refine xs_aload_n dX9_book_244 rfl ?_
    refine xs_getR dX9_book_245 fl_X9_63 rfl sc_75 (rt_75_28 hR) ?_
    refine xs_bipush (nI 64) dX9_book_248 (by decide) ?_
    refine xs_iload_n dX9_book_250 rfl ?_
    refine xs_imul dX9_book_251 ?_
    refine xs_iload dX9_book_252 rfl ?_
    refine xs_iadd dX9_book_254 ?_
    refine xs_aload_n dX9_book_255 rfl ?_
    refine xs_iload_n dX9_book_256 rfl ?_
    obtain ⟨Q3, hQ3, h⟩ := h
    refine xs_callV (j := k_X9_bits) (As := [.int v3]) (S := [.int (((nI 64) * v1) + v4), .ref 91]) dX9_book_257 (hQ3 hR) ⟨ml_X9_193, mk_X9_bits.1, mk_X9_bits.2.1, mk_X9_bits.2.2⟩ mv_X9_bits ⟨Nat.le_of_ble_eq_true rfl, Nat.le_of_ble_eq_true rfl⟩ rfl (Nat.le_of_ble_eq_true rfl) sc_75 rfl ⟨rfl, rfl⟩ (fun rr m4 hq6 => ?_)
    obtain ⟨hR, r5, rfl, hq6⟩ := hq6
    replace h := h r5 m4 hq6
    obtain ⟨s7, h⟩ := h
    refine xs_iast dX9_book_260 sc_91 s7 ?_
    refine xs_nmM (fun m8 e_m8 => ?_)
    replace h := h m8 e_m8
    have hR : xs_RT b m8 := by rw [e_m8]; exact hR
    obtain ⟨x9, e_x9⟩ : ∃ z : Int32, z = v4 + nI 1 := ⟨_, rfl⟩
    replace h := h x9 e_x9
    refine xs_iinc x9 [some (.ref 75), some (.int v1), none, some (.int v3), some (.int x9)] dX9_book_261 (by decide) rfl (by rw [e_x9]; rfl) rfl ?_
    refine xs_goto 233 dX9_book_264 (by decide) ?_
    exact xs_loc [some (.ref 75), some (.int v1), none, some (.int v3), some (.int x9)] ⟨rfl, ⟨rfl, ⟨rfl, ⟨rfl, trivial⟩⟩⟩⟩ (h hR)
set_option maxHeartbeats 4000000 in
set_option maxRecDepth 100000 in
theorem l_X9_book_267 {b : Bool} {Q : xm_M → Prop} {μ : xm_M}   
    (h : ∃ Q1 : xm_M → Prop, xCv b b k_X9_ended μ [.ref 75] Q1 ∧
      ∀ m2 : xm_M, Q1 m2 →
      Q m2) :
    hd_X9_book_267 b Q   μ := by
  intro hR
  refine xs_aload_n dX9_book_267 rfl ?_
  obtain ⟨Q1, hQ1, h⟩ := h
  refine xs_callV (j := k_X9_ended) (As := []) (S := []) dX9_book_268 (hQ1 hR) ⟨ml_X9_197, mk_X9_ended.1, mk_X9_ended.2.1, mk_X9_ended.2.2⟩ mv_X9_ended ⟨Nat.le_of_ble_eq_true rfl, Nat.le_of_ble_eq_true rfl⟩ rfl (Nat.le_of_ble_eq_true rfl) sc_75 rfl ⟨rfl, rfl⟩ (fun rr m2 hq4 => ?_)
  obtain ⟨hR, rfl, hq4⟩ := hq4
  replace h := h m2 hq4
  exact xs_ret none dX9_book_271 trivial rfl ⟨hR, rfl, h⟩
set_option maxHeartbeats 4000000 in
set_option maxRecDepth 100000 in
theorem g_X9_book {b : Bool} {Q : xm_M → Prop} {μ : xm_M} (v1 : Int32) 
    (h : ∃ Q1 : Int32 → xm_M → Prop, xCi b b k_X9_bits μ [.ref 75, .int (nI 2)] Q1 ∧
      ∀ (r3 : Int32) (m2 : xm_M), Q1 r3 m2 →
      vp_in v1 8 ∧
      ∀ m6 : xm_M, m6 = xu_I m2 83 (upd (m2.1 83) (v1).toNatClampNeg ((nI 1) + r3)) →
      ∃ Q7 : Int32 → xm_M → Prop, xCi b b k_X9_bits m6 [.ref 75, .int (nI 6)] Q7 ∧
      ∀ (r9 : Int32) (m8 : xm_M), Q7 r9 m8 →
      vp_in v1 8 ∧
      ∀ m12 : xm_M, m12 = xu_I m8 84 (upd (m8.1 84) (v1).toNatClampNeg ((nI 1) + r9)) →
      hd_X9_book_29 b Q  v1 (nI 0) m12) :
    xCv b b k_X9_book μ [.ref 75, .int v1] Q := by
  intro hR
  refine xm_met [some (.ref 75), some (.int v1), none, none, none] 3 (by decide) (by simp [lg_sl, Value.category]) rfl ?_
  refine xs_aload_n dX9_book_0 rfl ?_
  refine xs_getR dX9_book_1 fl_X9_38 rfl sc_75 (rt_75_20 hR) ?_
  refine xs_iload_n dX9_book_4 rfl ?_
  refine xs_iconst (nI 1) dX9_book_5 (by decide) ?_
  refine xs_aload_n dX9_book_6 rfl ?_
  refine xs_iconst (nI 2) dX9_book_7 (by decide) ?_
  obtain ⟨Q1, hQ1, h⟩ := h
  refine xs_callV (j := k_X9_bits) (As := [.int (nI 2)]) (S := [.int (nI 1), .int v1, .ref 83]) dX9_book_8 (hQ1 hR) ⟨ml_X9_193, mk_X9_bits.1, mk_X9_bits.2.1, mk_X9_bits.2.2⟩ mv_X9_bits ⟨Nat.le_of_ble_eq_true rfl, Nat.le_of_ble_eq_true rfl⟩ rfl (Nat.le_of_ble_eq_true rfl) sc_75 rfl ⟨rfl, rfl⟩ (fun rr m2 hq4 => ?_)
  obtain ⟨hR, r3, rfl, hq4⟩ := hq4
  replace h := h r3 m2 hq4
  refine xs_iadd dX9_book_11 ?_
  obtain ⟨s5, h⟩ := h
  refine xs_iast dX9_book_12 sc_83 s5 ?_
  refine xs_nmM (fun m6 e_m6 => ?_)
  replace h := h m6 e_m6
  have hR : xs_RT b m6 := by rw [e_m6]; exact hR
  refine xs_aload_n dX9_book_13 rfl ?_
  refine xs_getR dX9_book_14 fl_X9_41 rfl sc_75 (rt_75_21 hR) ?_
  refine xs_iload_n dX9_book_17 rfl ?_
  refine xs_iconst (nI 1) dX9_book_18 (by decide) ?_
  refine xs_aload_n dX9_book_19 rfl ?_
  refine xs_bipush (nI 6) dX9_book_20 (by decide) ?_
  obtain ⟨Q7, hQ7, h⟩ := h
  refine xs_callV (j := k_X9_bits) (As := [.int (nI 6)]) (S := [.int (nI 1), .int v1, .ref 84]) dX9_book_22 (hQ7 hR) ⟨ml_X9_193, mk_X9_bits.1, mk_X9_bits.2.1, mk_X9_bits.2.2⟩ mv_X9_bits ⟨Nat.le_of_ble_eq_true rfl, Nat.le_of_ble_eq_true rfl⟩ rfl (Nat.le_of_ble_eq_true rfl) sc_75 rfl ⟨rfl, rfl⟩ (fun rr m8 hq10 => ?_)
  obtain ⟨hR, r9, rfl, hq10⟩ := hq10
  replace h := h r9 m8 hq10
  refine xs_iadd dX9_book_25 ?_
  obtain ⟨s11, h⟩ := h
  refine xs_iast dX9_book_26 sc_84 s11 ?_
  refine xs_nmM (fun m12 e_m12 => ?_)
  replace h := h m12 e_m12
  have hR : xs_RT b m12 := by rw [e_m12]; exact hR
  refine xs_iconst (nI 0) dX9_book_27 (by decide) ?_
  refine xs_istore_n [some (.ref 75), some (.int v1), some (.int (nI 0)), none, none] dX9_book_28 (by decide) rfl ?_
  exact xs_loc [some (.ref 75), some (.int v1), some (.int (nI 0)), none, none] ⟨rfl, ⟨rfl, ⟨rfl, trivial⟩⟩⟩ (h hR)
