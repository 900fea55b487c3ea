/-! walks of c.X2, printed by wip/gen/mkwalk.py -/
abbrev hd_X2_learn_92 (Q : Int32 → xm_M → Prop)  (v6 : Int32) (v7 : Int32) (μ : xm_M) : Prop := xs_RT true μ → xR k_X2_learn none true (fun r _ μ' => xs_RT true μ' ∧ ∃ x : Int32, r = some (.int x) ∧ Q x μ') 92 [some (.ref 56), some (.ref 9), some (.ref 7), none, none, none, some (.int v6), some (.int v7), none] [] xs_sh (0, 0) μ
set_option maxHeartbeats 4000000 in
set_option maxRecDepth 100000 in
theorem l_X2_learn_92 {Q : Int32 → xm_M → Prop} {μ : xm_M}  (v6 : Int32) (v7 : Int32) 
    (h : (((μ.1 9 3) ≤ v7 →
       Q (nI 1) μ) ∧
      (¬ (μ.1 9 3) ≤ v7 →
       (((nI 17) ≤ v7 →
        Q (nI 1) μ) ∧
       (¬ (nI 17) ≤ v7 →
        ∃ Q3 : Int32 → xm_M → Prop, xCi true true k_X4_nextPost μ [.ref 9, .ref 7] Q3 ∧
        ∀ (r5 : Int32) (m4 : xm_M), Q3 r5 m4 →
        ((0 ≤ r5 →
         ∃ Q8 : xm_M → Prop, xCv true true k_X2_placePost m4 [.ref 56, .ref 9, .int v7, .int r5, .int v6] Q8 ∧
         ∀ m9 : xm_M, Q8 m9 →
         ∀ x12 : Int32, x12 = v7 + nI 1 →
         hd_X2_learn_92 Q  v6 x12 m9) ∧
        (¬ 0 ≤ r5 →
         Q (nI 0) m4))))))) :
    hd_X2_learn_92 Q  v6 v7 μ := by
  intro hR
  refine xs_iload dX2_learn_92 rfl ?_
  refine xs_aload_n dX2_learn_94 rfl ?_
  refine xs_getI dX2_learn_95 fl_X2_41.g rfl sc_9 ?_
  refine xs_icmp_ge 142 dX2_learn_98 (by decide) (fun c1 => ?_) (fun c1 => ?_)
  · replace h := h.1 c1
    refine xs_iconst (nI 1) dX2_learn_142 (by decide) ?_
    exact xs_ret (some (.int (nI 1))) dX2_learn_143 rfl rfl ⟨hR, _, rfl, h⟩
  · replace h := h.2 c1
    refine xs_iload dX2_learn_101 rfl ?_
    refine xs_aload_n dX2_learn_103 rfl ?_
    refine xs_getR dX2_learn_104 fl_X2_9 rfl sc_56 (rt_56_0 hR) ?_
    refine xs_alen 0 dX2_learn_107 sc_57 (fun _ => rfl) ?_
    refine xs_icmp_ge 142 dX2_learn_108 (by decide) (fun c2 => ?_) (fun c2 => ?_)
    · replace h := h.1 c2
      refine xs_iconst (nI 1) dX2_learn_142 (by decide) ?_
      exact xs_ret (some (.int (nI 1))) dX2_learn_143 rfl rfl ⟨hR, _, rfl, h⟩
    · replace h := h.2 c2
      refine xs_aload_n dX2_learn_111 rfl ?_
      refine xs_aload_n dX2_learn_112 rfl ?_
      obtain ⟨Q3, hQ3, h⟩ := h
      refine xs_callV (j := k_X4_nextPost) (As := [.ref 7]) (S := []) dX2_learn_113 (hQ3 hR) ⟨ml_X2_44, mk_X4_nextPost.1, mk_X4_nextPost.2.1, mk_X4_nextPost.2.2⟩ mv_X4_nextPost ⟨Nat.le_of_ble_eq_true rfl, Nat.le_of_ble_eq_true rfl⟩ rfl (Nat.le_of_ble_eq_true rfl) sc_9 rfl ⟨rfl, rfl⟩ (fun rr m4 hq6 => ?_)
      obtain ⟨hR, r5, rfl, hq6⟩ := hq6
      replace h := h r5 m4 hq6
      refine xs_istore [some (.ref 56), some (.ref 9), some (.ref 7), none, none, none, some (.int v6), some (.int v7), some (.int r5)] dX2_learn_116 (by decide) rfl ?_
      refine xs_iload dX2_learn_118 rfl ?_
      refine xs_if_ge 125 dX2_learn_120 (by decide) (fun c7 => ?_) (fun c7 => ?_)
      · replace h := h.1 c7
        refine xs_aload_n dX2_learn_125 rfl ?_
        refine xs_aload_n dX2_learn_126 rfl ?_
        refine xs_iload dX2_learn_127 rfl ?_
        refine xs_iload dX2_learn_129 rfl ?_
        refine xs_iload dX2_learn_131 rfl ?_
        obtain ⟨Q8, hQ8, h⟩ := h
        refine xs_callV (j := k_X2_placePost) (As := [.ref 9, .int v7, .int r5, .int v6]) (S := []) dX2_learn_133 (hQ8 hR) ⟨ml_X2_48, mk_X2_placePost.1, mk_X2_placePost.2.1, mk_X2_placePost.2.2⟩ mv_X2_placePost ⟨Nat.le_of_ble_eq_true rfl, Nat.le_of_ble_eq_true rfl⟩ rfl (Nat.le_of_ble_eq_true rfl) sc_56 rfl ⟨rfl, rfl⟩ (fun rr m9 hq11 => ?_)
        obtain ⟨hR, rfl, hq11⟩ := hq11
        replace h := h m9 hq11
        obtain ⟨x12, e_x12⟩ : ∃ z : Int32, z = v7 + nI 1 := ⟨_, rfl⟩
        replace h := h x12 e_x12
        refine xs_iinc x12 [some (.ref 56), some (.ref 9), some (.ref 7), none, none, none, some (.int v6), some (.int x12), some (.int r5)] dX2_learn_136 (by decide) rfl (by rw [e_x12]; rfl) rfl ?_
        refine xs_goto 92 dX2_learn_139 (by decide) ?_
        exact xs_loc [some (.ref 56), some (.ref 9), some (.ref 7), none, none, none, some (.int v6), some (.int x12), none] ⟨rfl, ⟨rfl, ⟨rfl, ⟨rfl, ⟨rfl, trivial⟩⟩⟩⟩⟩ (h hR)
      · replace h := h.2 c7
        refine xs_iconst (nI 0) dX2_learn_123 (by decide) ?_
        exact xs_ret (some (.int (nI 0))) dX2_learn_124 rfl rfl ⟨hR, _, rfl, h⟩
set_option maxHeartbeats 4000000 in
set_option maxRecDepth 100000 in
theorem g_X2_learn {Q : Int32 → xm_M → Prop} {μ : xm_M}  
    (h : ∀ x1 : Int32, x1 = (((μ.1 9 1) - (nI 1)) &&& (nI 3)) →
      vp_in x1 4 ∧
      ∃ Q3 : Int32 → xm_M → Prop, xCi true true k_X0_number μ [.ref 7, .int ((xs_tab 4).getD (x1).toNatClampNeg 0)] Q3 ∧
      ∀ (r5 : Int32) (m4 : xm_M), Q3 r5 m4 →
      vp_in x1 4 ∧
      ∃ Q8 : Int32 → xm_M → Prop, xCi true true k_X0_number m4 [.ref 7, .int ((xs_tab 4).getD (x1).toNatClampNeg 0)] Q8 ∧
      ∀ (r10 : Int32) (m9 : xm_M), Q8 r10 m9 →
      ((0 ≤ r10 →
       vp_in x1 4 ∧
       vp_in (nI 0) 17 ∧
       ∀ m15 : xm_M, m15 = xu_I m9 57 (upd (m9.1 57) ((nI 0)).toNatClampNeg (if (((xs_tab 3).getD (x1).toNatClampNeg 0) - (nI 1)) < r5 then (((xs_tab 3).getD (x1).toNatClampNeg 0) - (nI 1)) else r5)) →
       vp_in (nI 1) 17 ∧
       ∀ m17 : xm_M, m17 = xu_I m15 57 (upd (m15.1 57) ((nI 1)).toNatClampNeg (if (((xs_tab 3).getD (x1).toNatClampNeg 0) - (nI 1)) < r10 then (((xs_tab 3).getD (x1).toNatClampNeg 0) - (nI 1)) else r10)) →
       vp_in (nI 0) 17 ∧
       ∀ m19 : xm_M, m19 = xu_I m17 58 (upd (m17.1 58) ((nI 0)).toNatClampNeg (vp_nar .boolean (nI 1))) →
       vp_in (nI 1) 17 ∧
       ∀ m21 : xm_M, m21 = xu_I m19 58 (upd (m19.1 58) ((nI 1)).toNatClampNeg (vp_nar .boolean (nI 1))) →
       hd_X2_learn_92 Q  ((xs_tab 3).getD (x1).toNatClampNeg 0) (nI 2) m21) ∧
      (¬ 0 ≤ r10 →
       Q (nI 0) m9))) :
    xCi true true k_X2_learn μ [.ref 56, .ref 9, .ref 7] Q := by
  intro hR
  refine xm_met [some (.ref 56), some (.ref 9), some (.ref 7), none, none, none, none, none, none] 6 (by decide) (by simp [lg_sl, Value.category]) rfl ?_
  refine xs_aload_n dX2_learn_0 rfl ?_
  refine xs_getI dX2_learn_1 fl_X2_19.g rfl sc_9 ?_
  refine xs_iconst (nI 1) dX2_learn_4 (by decide) ?_
  refine xs_isub dX2_learn_5 ?_
  refine xs_iconst (nI 3) dX2_learn_6 (by decide) ?_
  refine xs_iand dX2_learn_7 ?_
  refine xs_nmI (fun x1 e_x1 => ?_)
  replace h := h x1 e_x1
  refine xs_istore_n [some (.ref 56), some (.ref 9), some (.ref 7), some (.int x1), none, none, none, none, none] dX2_learn_8 (by decide) rfl ?_
  refine xs_aload_n dX2_learn_9 rfl ?_
  refine xs_gets (k := 4) (q := xs_tq 4) dX2_learn_10 rfl fs_X2_23 ?_
  refine xs_iload_n dX2_learn_13 rfl ?_
  obtain ⟨s2, h⟩ := h
  refine xs_tald (k := 4) (q := xs_tq 4) dX2_learn_14 rfl s2 ?_
  obtain ⟨Q3, hQ3, h⟩ := h
  refine xs_callV (j := k_X0_number) (As := [.int ((xs_tab 4).getD (x1).toNatClampNeg 0)]) (S := []) dX2_learn_15 (hQ3 hR) ⟨ml_X2_26, mk_X0_number.1, mk_X0_number.2.1, mk_X0_number.2.2⟩ mv_X0_number ⟨Nat.le_of_ble_eq_true rfl, Nat.le_of_ble_eq_true rfl⟩ rfl (Nat.le_of_ble_eq_true rfl) sc_7 rfl ⟨rfl, rfl⟩ (fun rr m4 hq6 => ?_)
  obtain ⟨hR, r5, rfl, hq6⟩ := hq6
  replace h := h r5 m4 hq6
  refine xs_istore [some (.ref 56), some (.ref 9), some (.ref 7), some (.int x1), some (.int r5), none, none, none, none] dX2_learn_18 (by decide) rfl ?_
  refine xs_aload_n dX2_learn_20 rfl ?_
  refine xs_gets (k := 4) (q := xs_tq 4) dX2_learn_21 rfl fs_X2_23 ?_
  refine xs_iload_n dX2_learn_24 rfl ?_
  obtain ⟨s7, h⟩ := h
  refine xs_tald (k := 4) (q := xs_tq 4) dX2_learn_25 rfl s7 ?_
  obtain ⟨Q8, hQ8, h⟩ := h
  refine xs_callV (j := k_X0_number) (As := [.int ((xs_tab 4).getD (x1).toNatClampNeg 0)]) (S := []) dX2_learn_26 (hQ8 hR) ⟨ml_X2_26, mk_X0_number.1, mk_X0_number.2.1, mk_X0_number.2.2⟩ mv_X0_number ⟨Nat.le_of_ble_eq_true rfl, Nat.le_of_ble_eq_true rfl⟩ rfl (Nat.le_of_ble_eq_true rfl) sc_7 rfl ⟨rfl, rfl⟩ (fun rr m9 hq11 => ?_)
  obtain ⟨hR, r10, rfl, hq11⟩ := hq11
  replace h := h r10 m9 hq11
  refine xs_istore [some (.ref 56), some (.ref 9), some (.ref 7), some (.int x1), some (.int r5), some (.int r10), none, none, none] dX2_learn_29 (by decide) rfl ?_
  refine xs_iload dX2_learn_31 rfl ?_
  refine xs_if_ge 38 dX2_learn_33 (by decide) (fun c12 => ?_) (fun c12 => ?_)
  · replace h := h.1 c12
    refine xs_gets (k := 3) (q := xs_tq 3) dX2_learn_38 rfl fs_X2_32 ?_
    refine xs_iload_n dX2_learn_41 rfl ?_
    obtain ⟨s13, h⟩ := h
    refine xs_tald (k := 3) (q := xs_tq 3) dX2_learn_42 rfl s13 ?_
    refine xs_istore [some (.ref 56), some (.ref 9), some (.ref 7), some (.int x1), some (.int r5), some (.int r10), some (.int ((xs_tab 3).getD (x1).toNatClampNeg 0)), none, none] dX2_learn_43 (by decide) rfl ?_
    refine xs_aload_n dX2_learn_45 rfl ?_
    refine xs_getR dX2_learn_46 fl_X2_9 rfl sc_56 (rt_56_0 hR) ?_
    refine xs_iconst (nI 0) dX2_learn_49 (by decide) ?_
    refine xs_iload dX2_learn_50 rfl ?_
    refine xs_iload dX2_learn_52 rfl ?_
    refine xs_iconst (nI 1) dX2_learn_54 (by decide) ?_
    refine xs_isub dX2_learn_55 ?_
    refine xs_mmin dX2_learn_56 ml_X2_35 (Nat.le_of_ble_eq_true rfl) (Nat.le_of_ble_eq_true rfl) ?_
    obtain ⟨s14, h⟩ := h
    refine xs_iast dX2_learn_59 sc_57 s14 ?_
    refine xs_nmM (fun m15 e_m15 => ?_)
    replace h := h m15 e_m15
    have hR : xs_RT true m15 := by rw [e_m15]; exact hR
    refine xs_aload_n dX2_learn_60 rfl ?_
    refine xs_getR dX2_learn_61 fl_X2_9 rfl sc_56 (rt_56_0 hR) ?_
    refine xs_iconst (nI 1) dX2_learn_64 (by decide) ?_
    refine xs_iload dX2_learn_65 rfl ?_
    refine xs_iload dX2_learn_67 rfl ?_
    refine xs_iconst (nI 1) dX2_learn_69 (by decide) ?_
    refine xs_isub dX2_learn_70 ?_
    refine xs_mmin dX2_learn_71 ml_X2_35 (Nat.le_of_ble_eq_true rfl) (Nat.le_of_ble_eq_true rfl) ?_
    obtain ⟨s16, h⟩ := h
    refine xs_iast dX2_learn_74 sc_57 s16 ?_
    refine xs_nmM (fun m17 e_m17 => ?_)
    replace h := h m17 e_m17
    have hR : xs_RT true m17 := by rw [e_m17]; exact hR
    refine xs_aload_n dX2_learn_75 rfl ?_
    refine xs_getR dX2_learn_76 fl_X2_15 rfl sc_56 (rt_56_1 hR) ?_
    refine xs_iconst (nI 0) dX2_learn_79 (by decide) ?_
    refine xs_iconst (nI 1) dX2_learn_80 (by decide) ?_
    obtain ⟨s18, h⟩ := h
    refine xs_zast dX2_learn_81 sc_58 s18 ?_
    refine xs_nmM (fun m19 e_m19 => ?_)
    replace h := h m19 e_m19
    have hR : xs_RT true m19 := by rw [e_m19]; exact hR
    refine xs_aload_n dX2_learn_82 rfl ?_
    refine xs_getR dX2_learn_83 fl_X2_15 rfl sc_56 (rt_56_1 hR) ?_
    refine xs_iconst (nI 1) dX2_learn_86 (by decide) ?_
    refine xs_iconst (nI 1) dX2_learn_87 (by decide) ?_
    obtain ⟨s20, h⟩ := h
    refine xs_zast dX2_learn_88 sc_58 s20 ?_
    refine xs_nmM (fun m21 e_m21 => ?_)
    replace h := h m21 e_m21
    have hR : xs_RT true m21 := by rw [e_m21]; exact hR
    refine xs_iconst (nI 2) dX2_learn_89 (by decide) ?_
    refine xs_istore [some (.ref 56), some (.ref 9), some (.ref 7), some (.int x1), some (.int r5), some (.int r10), some (.int ((xs_tab 3).getD (x1).toNatClampNeg 0)), some (.int (nI 2)), none] dX2_learn_90 (by decide) rfl ?_
    exact xs_loc [some (.ref 56), some (.ref 9), some (.ref 7), none, none, none, some (.int ((xs_tab 3).getD (x1).toNatClampNeg 0)), some (.int (nI 2)), none] ⟨rfl, ⟨rfl, ⟨rfl, ⟨rfl, ⟨rfl, trivial⟩⟩⟩⟩⟩ (h hR)
  · replace h := h.2 c12
    refine xs_iconst (nI 0) dX2_learn_36 (by decide) ?_
    exact xs_ret (some (.int (nI 0))) dX2_learn_37 rfl rfl ⟨hR, _, rfl, h⟩
set_option maxHeartbeats 4000000 in
set_option maxRecDepth 100000 in
theorem g_X2_placePost {b : Bool} {Q : xm_M → Prop} {μ : xm_M} (v2 : Int32) (v3 : Int32) (v4 : Int32) 
    (h : vp_in v2 17 ∧
      vp_in v2 17 ∧
      (((μ.1 11 (v2).toNatClampNeg) < 0 →
       Q μ) ∧
      (¬ (μ.1 11 (v2).toNatClampNeg) < 0 →
       ((v2 ≤ (μ.1 11 (v2).toNatClampNeg) →
        Q μ) ∧
       (¬ v2 ≤ (μ.1 11 (v2).toNatClampNeg) →
        (((μ.1 12 (v2).toNatClampNeg) < 0 →
         Q μ) ∧
        (¬ (μ.1 12 (v2).toNatClampNeg) < 0 →
         (((μ.1 12 (v2).toNatClampNeg) < v2 →
          vp_in (μ.1 11 (v2).toNatClampNeg) 17 ∧
          vp_in (μ.1 11 (v2).toNatClampNeg) 17 ∧
          vp_in (μ.1 12 (v2).toNatClampNeg) 17 ∧
          vp_in (μ.1 12 (v2).toNatClampNeg) 17 ∧
          vp_in v2 17 ∧
          ∃ Q12 : Int32 → xm_M → Prop, xCi b b k_X2_line μ [.int (μ.1 10 ((μ.1 11 (v2).toNatClampNeg)).toNatClampNeg), .int (μ.1 57 ((μ.1 11 (v2).toNatClampNeg)).toNatClampNeg), .int (μ.1 10 ((μ.1 12 (v2).toNatClampNeg)).toNatClampNeg), .int (μ.1 57 ((μ.1 12 (v2).toNatClampNeg)).toNatClampNeg), .int (μ.1 10 (v2).toNatClampNeg)] Q12 ∧
          ∀ (r14 : Int32) (m13 : xm_M), Q12 r14 m13 →
          ((v3 = 0 →
           vp_in v2 17 ∧
           ∀ m18 : xm_M, m18 = xu_I m13 58 (upd (m13.1 58) (v2).toNatClampNeg (vp_nar .boolean (nI 0))) →
           vp_in v2 17 ∧
           ∀ m20 : xm_M, m20 = xu_I m18 57 (upd (m18.1 57) (v2).toNatClampNeg r14) →
           ((v3 = 0 →
            Q m20) ∧
           (¬ v3 = 0 →
            vp_in (μ.1 11 (v2).toNatClampNeg) 17 ∧
            ∀ m23 : xm_M, m23 = xu_I m20 58 (upd (m20.1 58) ((μ.1 11 (v2).toNatClampNeg)).toNatClampNeg (vp_nar .boolean (nI 1))) →
            vp_in (μ.1 12 (v2).toNatClampNeg) 17 ∧
            ∀ m25 : xm_M, m25 = xu_I m23 58 (upd (m23.1 58) ((μ.1 12 (v2).toNatClampNeg)).toNatClampNeg (vp_nar .boolean (nI 1))) →
            ∃ Q26 : Int32 → xm_M → Prop, xCi b b k_X2_unfold m25 [.int v3, .int r14, .int v4] Q26 ∧
            ∀ (r28 : Int32) (m27 : xm_M), Q26 r28 m27 →
            vp_in v2 17 ∧
            ∀ m31 : xm_M, m31 = xu_I m27 57 (upd (m27.1 57) (v2).toNatClampNeg (if (nI 0) < (if r28 < (v4 - (nI 1)) then r28 else (v4 - (nI 1))) then (if r28 < (v4 - (nI 1)) then r28 else (v4 - (nI 1))) else (nI 0))) →
            Q m31))) ∧
          (¬ v3 = 0 →
           vp_in v2 17 ∧
           ∀ m33 : xm_M, m33 = xu_I m13 58 (upd (m13.1 58) (v2).toNatClampNeg (vp_nar .boolean (nI 1))) →
           vp_in v2 17 ∧
           ∀ m35 : xm_M, m35 = xu_I m33 57 (upd (m33.1 57) (v2).toNatClampNeg r14) →
           ((v3 = 0 →
            Q m35) ∧
           (¬ v3 = 0 →
            vp_in (μ.1 11 (v2).toNatClampNeg) 17 ∧
            ∀ m38 : xm_M, m38 = xu_I m35 58 (upd (m35.1 58) ((μ.1 11 (v2).toNatClampNeg)).toNatClampNeg (vp_nar .boolean (nI 1))) →
            vp_in (μ.1 12 (v2).toNatClampNeg) 17 ∧
            ∀ m40 : xm_M, m40 = xu_I m38 58 (upd (m38.1 58) ((μ.1 12 (v2).toNatClampNeg)).toNatClampNeg (vp_nar .boolean (nI 1))) →
            ∃ Q41 : Int32 → xm_M → Prop, xCi b b k_X2_unfold m40 [.int v3, .int r14, .int v4] Q41 ∧
            ∀ (r43 : Int32) (m42 : xm_M), Q41 r43 m42 →
            vp_in v2 17 ∧
            ∀ m46 : xm_M, m46 = xu_I m42 57 (upd (m42.1 57) (v2).toNatClampNeg (if (nI 0) < (if r43 < (v4 - (nI 1)) then r43 else (v4 - (nI 1))) then (if r43 < (v4 - (nI 1)) then r43 else (v4 - (nI 1))) else (nI 0))) →
            Q m46))))) ∧
         (¬ (μ.1 12 (v2).toNatClampNeg) < v2 →
          Q μ))))))))) :
    xCv b b k_X2_placePost μ [.ref 56, .ref 9, .int v2, .int v3, .int v4] Q := by
  intro hR
  refine xm_met [some (.ref 56), some (.ref 9), some (.int v2), some (.int v3), some (.int v4), none, none, none] 3 (by decide) (by simp [lg_sl, Value.category]) rfl ?_
  refine xs_aload_n dX2_placePost_0 rfl ?_
  refine xs_getR dX2_placePost_1 fl_X2_52 rfl sc_9 (rt_9_5 hR) ?_
  refine xs_iload_n dX2_placePost_4 rfl ?_
  obtain ⟨s1, h⟩ := h
  refine xs_iald dX2_placePost_5 sc_11 s1 ?_
  refine xs_istore [some (.ref 56), some (.ref 9), some (.int v2), some (.int v3), some (.int v4), some (.int (μ.1 11 (v2).toNatClampNeg)), none, none] dX2_placePost_6 (by decide) rfl ?_
  refine xs_aload_n dX2_placePost_8 rfl ?_
  refine xs_getR dX2_placePost_9 fl_X2_55 rfl sc_9 (rt_9_6 hR) ?_
  refine xs_iload_n dX2_placePost_12 rfl ?_
  obtain ⟨s2, h⟩ := h
  refine xs_iald dX2_placePost_13 sc_12 s2 ?_
  refine xs_istore [some (.ref 56), some (.ref 9), some (.int v2), some (.int v3), some (.int v4), some (.int (μ.1 11 (v2).toNatClampNeg)), some (.int (μ.1 12 (v2).toNatClampNeg)), none] dX2_placePost_14 (by decide) rfl ?_
  refine xs_iload dX2_placePost_16 rfl ?_
  refine xs_if_lt 38 dX2_placePost_18 (by decide) (fun c3 => ?_) (fun c3 => ?_)
  · replace h := h.1 c3
    exact xs_ret none dX2_placePost_38 trivial rfl ⟨hR, rfl, h⟩
  · replace h := h.2 c3
    refine xs_iload dX2_placePost_21 rfl ?_
    refine xs_iload_n dX2_placePost_23 rfl ?_
    refine xs_icmp_ge 38 dX2_placePost_24 (by decide) (fun c4 => ?_) (fun c4 => ?_)
    · replace h := h.1 c4
      exact xs_ret none dX2_placePost_38 trivial rfl ⟨hR, rfl, h⟩
    · replace h := h.2 c4
      refine xs_iload dX2_placePost_27 rfl ?_
      refine xs_if_lt 38 dX2_placePost_29 (by decide) (fun c5 => ?_) (fun c5 => ?_)
      · replace h := h.1 c5
        exact xs_ret none dX2_placePost_38 trivial rfl ⟨hR, rfl, h⟩
      · replace h := h.2 c5
        refine xs_iload dX2_placePost_32 rfl ?_
        refine xs_iload_n dX2_placePost_34 rfl ?_
        refine xs_icmp_lt 39 dX2_placePost_35 (by decide) (fun c6 => ?_) (fun c6 => ?_)
        · replace h := h.1 c6
          refine xs_aload_n dX2_placePost_39 rfl ?_
          refine xs_getR dX2_placePost_40 fl_X2_58 rfl sc_9 (rt_9_4 hR) ?_
          refine xs_iload dX2_placePost_43 rfl ?_
          obtain ⟨s7, h⟩ := h
          refine xs_iald dX2_placePost_45 sc_10 s7 ?_
          refine xs_aload_n dX2_placePost_46 rfl ?_
          refine xs_getR dX2_placePost_47 fl_X2_9 rfl sc_56 (rt_56_0 hR) ?_
          refine xs_iload dX2_placePost_50 rfl ?_
          obtain ⟨s8, h⟩ := h
          refine xs_iald dX2_placePost_52 sc_57 s8 ?_
          refine xs_aload_n dX2_placePost_53 rfl ?_
          refine xs_getR dX2_placePost_54 fl_X2_58 rfl sc_9 (rt_9_4 hR) ?_
          refine xs_iload dX2_placePost_57 rfl ?_
          obtain ⟨s9, h⟩ := h
          refine xs_iald dX2_placePost_59 sc_10 s9 ?_
          refine xs_aload_n dX2_placePost_60 rfl ?_
          refine xs_getR dX2_placePost_61 fl_X2_9 rfl sc_56 (rt_56_0 hR) ?_
          refine xs_iload dX2_placePost_64 rfl ?_
          obtain ⟨s10, h⟩ := h
          refine xs_iald dX2_placePost_66 sc_57 s10 ?_
          refine xs_aload_n dX2_placePost_67 rfl ?_
          refine xs_getR dX2_placePost_68 fl_X2_58 rfl sc_9 (rt_9_4 hR) ?_
          refine xs_iload_n dX2_placePost_71 rfl ?_
          obtain ⟨s11, h⟩ := h
          refine xs_iald dX2_placePost_72 sc_10 s11 ?_
          obtain ⟨Q12, hQ12, h⟩ := h
          refine xs_callS (j := k_X2_line) (As := [.int (μ.1 10 ((μ.1 11 (v2).toNatClampNeg)).toNatClampNeg), .int (μ.1 57 ((μ.1 11 (v2).toNatClampNeg)).toNatClampNeg), .int (μ.1 10 ((μ.1 12 (v2).toNatClampNeg)).toNatClampNeg), .int (μ.1 57 ((μ.1 12 (v2).toNatClampNeg)).toNatClampNeg), .int (μ.1 10 (v2).toNatClampNeg)]) (S := []) dX2_placePost_73 (hQ12 hR) ⟨ml_X2_61, mk_X2_line.1, mk_X2_line.2.1, mk_X2_line.2.2⟩ ms_X2_line ⟨Nat.le_of_ble_eq_true rfl, Nat.le_of_ble_eq_true rfl⟩ rfl (Nat.le_of_ble_eq_true rfl) ⟨rfl, rfl⟩ (fun rr m13 hq15 => ?_)
          obtain ⟨hR, r14, rfl, hq15⟩ := hq15
          replace h := h r14 m13 hq15
          refine xs_istore [some (.ref 56), some (.ref 9), some (.int v2), some (.int v3), some (.int v4), some (.int (μ.1 11 (v2).toNatClampNeg)), some (.int (μ.1 12 (v2).toNatClampNeg)), some (.int r14)] dX2_placePost_76 (by decide) rfl ?_
          refine xs_aload_n dX2_placePost_78 rfl ?_
          refine xs_getR dX2_placePost_79 fl_X2_15 rfl sc_56 (rt_56_1 hR) ?_
          refine xs_iload_n dX2_placePost_82 rfl ?_
          refine xs_iload_n dX2_placePost_83 rfl ?_
          refine xs_if_eq 91 dX2_placePost_84 (by decide) (fun c16 => ?_) (fun c16 => ?_)
          · replace h := h.1 c16
            refine xs_iconst (nI 0) dX2_placePost_91 (by decide) ?_
            obtain ⟨s17, h⟩ := h
            refine xs_zast dX2_placePost_92 sc_58 s17 ?_
            refine xs_nmM (fun m18 e_m18 => ?_)
            replace h := h m18 e_m18
            have hR : xs_RT b m18 := by rw [e_m18]; exact hR
            refine xs_aload_n dX2_placePost_93 rfl ?_
            refine xs_getR dX2_placePost_94 fl_X2_9 rfl sc_56 (rt_56_0 hR) ?_
            refine xs_iload_n dX2_placePost_97 rfl ?_
            refine xs_iload dX2_placePost_98 rfl ?_
            obtain ⟨s19, h⟩ := h
            refine xs_iast dX2_placePost_100 sc_57 s19 ?_
            refine xs_nmM (fun m20 e_m20 => ?_)
            replace h := h m20 e_m20
            have hR : xs_RT b m20 := by rw [e_m20]; exact hR
            refine xs_iload_n dX2_placePost_101 rfl ?_
            refine xs_if_eq 146 dX2_placePost_102 (by decide) (fun c21 => ?_) (fun c21 => ?_)
            · replace h := h.1 c21
              exact xs_ret none dX2_placePost_146 trivial rfl ⟨hR, rfl, h⟩
            · replace h := h.2 c21
              refine xs_aload_n dX2_placePost_105 rfl ?_
              refine xs_getR dX2_placePost_106 fl_X2_15 rfl sc_56 (rt_56_1 hR) ?_
              refine xs_iload dX2_placePost_109 rfl ?_
              refine xs_iconst (nI 1) dX2_placePost_111 (by decide) ?_
              obtain ⟨s22, h⟩ := h
              refine xs_zast dX2_placePost_112 sc_58 s22 ?_
              refine xs_nmM (fun m23 e_m23 => ?_)
              replace h := h m23 e_m23
              have hR : xs_RT b m23 := by rw [e_m23]; exact hR
              refine xs_aload_n dX2_placePost_113 rfl ?_
              refine xs_getR dX2_placePost_114 fl_X2_15 rfl sc_56 (rt_56_1 hR) ?_
              refine xs_iload dX2_placePost_117 rfl ?_
              refine xs_iconst (nI 1) dX2_placePost_119 (by decide) ?_
              obtain ⟨s24, h⟩ := h
              refine xs_zast dX2_placePost_120 sc_58 s24 ?_
              refine xs_nmM (fun m25 e_m25 => ?_)
              replace h := h m25 e_m25
              have hR : xs_RT b m25 := by rw [e_m25]; exact hR
              refine xs_aload_n dX2_placePost_121 rfl ?_
              refine xs_getR dX2_placePost_122 fl_X2_9 rfl sc_56 (rt_56_0 hR) ?_
              refine xs_iload_n dX2_placePost_125 rfl ?_
              refine xs_iconst (nI 0) dX2_placePost_126 (by decide) ?_
              refine xs_iload dX2_placePost_127 rfl ?_
              refine xs_iconst (nI 1) dX2_placePost_129 (by decide) ?_
              refine xs_isub dX2_placePost_130 ?_
              refine xs_iload_n dX2_placePost_131 rfl ?_
              refine xs_iload dX2_placePost_132 rfl ?_
              refine xs_iload dX2_placePost_134 rfl ?_
              obtain ⟨Q26, hQ26, h⟩ := h
              refine xs_callS (j := k_X2_unfold) (As := [.int v3, .int r14, .int v4]) (S := [.int (v4 - (nI 1)), .int (nI 0), .int v2, .ref 57]) dX2_placePost_136 (hQ26 hR) ⟨ml_X2_65, mk_X2_unfold.1, mk_X2_unfold.2.1, mk_X2_unfold.2.2⟩ ms_X2_unfold ⟨Nat.le_of_ble_eq_true rfl, Nat.le_of_ble_eq_true rfl⟩ rfl (Nat.le_of_ble_eq_true rfl) ⟨rfl, rfl⟩ (fun rr m27 hq29 => ?_)
              obtain ⟨hR, r28, rfl, hq29⟩ := hq29
              replace h := h r28 m27 hq29
              refine xs_mmin dX2_placePost_139 ml_X2_35 (Nat.le_of_ble_eq_true rfl) (Nat.le_of_ble_eq_true rfl) ?_
              refine xs_mmax dX2_placePost_142 ml_X2_69 (Nat.le_of_ble_eq_true rfl) (Nat.le_of_ble_eq_true rfl) ?_
              obtain ⟨s30, h⟩ := h
              refine xs_iast dX2_placePost_145 sc_57 s30 ?_
              refine xs_nmM (fun m31 e_m31 => ?_)
              replace h := h m31 e_m31
              have hR : xs_RT b m31 := by rw [e_m31]; exact hR
              exact xs_ret none dX2_placePost_146 trivial rfl ⟨hR, rfl, h⟩
          · replace h := h.2 c16
            refine xs_iconst (nI 1) dX2_placePost_87 (by decide) ?_
            refine xs_goto 92 dX2_placePost_88 (by decide) ?_
            obtain ⟨s32, h⟩ := h
            refine xs_zast dX2_placePost_92 sc_58 s32 ?_
            refine xs_nmM (fun m33 e_m33 => ?_)
            replace h := h m33 e_m33
            have hR : xs_RT b m33 := by rw [e_m33]; exact hR
            refine xs_aload_n dX2_placePost_93 rfl ?_
            refine xs_getR dX2_placePost_94 fl_X2_9 rfl sc_56 (rt_56_0 hR) ?_
            refine xs_iload_n dX2_placePost_97 rfl ?_
            refine xs_iload dX2_placePost_98 rfl ?_
            obtain ⟨s34, h⟩ := h
            refine xs_iast dX2_placePost_100 sc_57 s34 ?_
            refine xs_nmM (fun m35 e_m35 => ?_)
            replace h := h m35 e_m35
            have hR : xs_RT b m35 := by rw [e_m35]; exact hR
            refine xs_iload_n dX2_placePost_101 rfl ?_
            refine xs_if_eq 146 dX2_placePost_102 (by decide) (fun c36 => ?_) (fun c36 => ?_)
            · replace h := h.1 c36
              exact xs_ret none dX2_placePost_146 trivial rfl ⟨hR, rfl, h⟩
            · replace h := h.2 c36
              refine xs_aload_n dX2_placePost_105 rfl ?_
              refine xs_getR dX2_placePost_106 fl_X2_15 rfl sc_56 (rt_56_1 hR) ?_
              refine xs_iload dX2_placePost_109 rfl ?_
              refine xs_iconst (nI 1) dX2_placePost_111 (by decide) ?_
              obtain ⟨s37, h⟩ := h
              refine xs_zast dX2_placePost_112 sc_58 s37 ?_
              refine xs_nmM (fun m38 e_m38 => ?_)
              replace h := h m38 e_m38
              have hR : xs_RT b m38 := by rw [e_m38]; exact hR
              refine xs_aload_n dX2_placePost_113 rfl ?_
              refine xs_getR dX2_placePost_114 fl_X2_15 rfl sc_56 (rt_56_1 hR) ?_
              refine xs_iload dX2_placePost_117 rfl ?_
              refine xs_iconst (nI 1) dX2_placePost_119 (by decide) ?_
              obtain ⟨s39, h⟩ := h
              refine xs_zast dX2_placePost_120 sc_58 s39 ?_
              refine xs_nmM (fun m40 e_m40 => ?_)
              replace h := h m40 e_m40
              have hR : xs_RT b m40 := by rw [e_m40]; exact hR
              refine xs_aload_n dX2_placePost_121 rfl ?_
              refine xs_getR dX2_placePost_122 fl_X2_9 rfl sc_56 (rt_56_0 hR) ?_
              refine xs_iload_n dX2_placePost_125 rfl ?_
              refine xs_iconst (nI 0) dX2_placePost_126 (by decide) ?_
              refine xs_iload dX2_placePost_127 rfl ?_
              refine xs_iconst (nI 1) dX2_placePost_129 (by decide) ?_
              refine xs_isub dX2_placePost_130 ?_
              refine xs_iload_n dX2_placePost_131 rfl ?_
              refine xs_iload dX2_placePost_132 rfl ?_
              refine xs_iload dX2_placePost_134 rfl ?_
              obtain ⟨Q41, hQ41, h⟩ := h
              refine xs_callS (j := k_X2_unfold) (As := [.int v3, .int r14, .int v4]) (S := [.int (v4 - (nI 1)), .int (nI 0), .int v2, .ref 57]) dX2_placePost_136 (hQ41 hR) ⟨ml_X2_65, mk_X2_unfold.1, mk_X2_unfold.2.1, mk_X2_unfold.2.2⟩ ms_X2_unfold ⟨Nat.le_of_ble_eq_true rfl, Nat.le_of_ble_eq_true rfl⟩ rfl (Nat.le_of_ble_eq_true rfl) ⟨rfl, rfl⟩ (fun rr m42 hq44 => ?_)
              obtain ⟨hR, r43, rfl, hq44⟩ := hq44
              replace h := h r43 m42 hq44
              refine xs_mmin dX2_placePost_139 ml_X2_35 (Nat.le_of_ble_eq_true rfl) (Nat.le_of_ble_eq_true rfl) ?_
              refine xs_mmax dX2_placePost_142 ml_X2_69 (Nat.le_of_ble_eq_true rfl) (Nat.le_of_ble_eq_true rfl) ?_
              obtain ⟨s45, h⟩ := h
              refine xs_iast dX2_placePost_145 sc_57 s45 ?_
              refine xs_nmM (fun m46 e_m46 => ?_)
              replace h := h m46 e_m46
              have hR : xs_RT b m46 := by rw [e_m46]; exact hR
              exact xs_ret none dX2_placePost_146 trivial rfl ⟨hR, rfl, h⟩
        · replace h := h.2 c6
          exact xs_ret none dX2_placePost_38 trivial rfl ⟨hR, rfl, h⟩
set_option maxHeartbeats 4000000 in
set_option maxRecDepth 100000 in
theorem g_X2_unfold {b : Bool} {Q : Int32 → xm_M → Prop} {μ : xm_M} (v0 : Int32) (v1 : Int32) (v2 : Int32) 
    (h : ∀ x1 : Int32, x1 = (v2 - v1) →
      ∀ x2 : Int32, x2 = ((nI 2) * (if v1 < x1 then v1 else x1)) →
      ((v0 < x2 →
       ((¬ (v0 &&& (nI 1)) = (nI 1) →
        Q (v1 + (v0 / (nI 2))) μ) ∧
       ((v0 &&& (nI 1)) = (nI 1) →
        Q (v1 - ((v0 + (nI 1)) / (nI 2))) μ))) ∧
      (¬ v0 < x2 →
       ((x1 ≤ v1 →
        Q (((v1 + x1) - v0) - (nI 1)) μ) ∧
       (¬ x1 ≤ v1 →
        Q ((v1 + v0) - v1) μ))))) :
    xCi b b k_X2_unfold μ [.int v0, .int v1, .int v2] Q := by
  intro hR
  refine xm_met [some (.int v0), some (.int v1), some (.int v2), none, none, none] 3 (by decide) (by simp [lg_sl, Value.category]) rfl ?_
  refine xs_iload_n dX2_unfold_0 rfl ?_
  refine xs_iload_n dX2_unfold_1 rfl ?_
  refine xs_isub dX2_unfold_2 ?_
  refine xs_nmI (fun x1 e_x1 => ?_)
  replace h := h x1 e_x1
  refine xs_istore_n [some (.int v0), some (.int v1), some (.int v2), some (.int x1), none, none] dX2_unfold_3 (by decide) rfl ?_
  refine xs_iload_n dX2_unfold_4 rfl ?_
  refine xs_istore [some (.int v0), some (.int v1), some (.int v2), some (.int x1), some (.int v1), none] dX2_unfold_5 (by decide) rfl ?_
  refine xs_iconst (nI 2) dX2_unfold_7 (by decide) ?_
  refine xs_iload_n dX2_unfold_8 rfl ?_
  refine xs_iload dX2_unfold_9 rfl ?_
  refine xs_mmin dX2_unfold_11 ml_X2_35 (Nat.le_of_ble_eq_true rfl) (Nat.le_of_ble_eq_true rfl) ?_
  refine xs_imul dX2_unfold_14 ?_
  refine xs_nmI (fun x2 e_x2 => ?_)
  replace h := h x2 e_x2
  refine xs_istore [some (.int v0), some (.int v1), some (.int v2), some (.int x1), some (.int v1), some (.int x2)] dX2_unfold_15 (by decide) rfl ?_
  refine xs_iload_n dX2_unfold_17 rfl ?_
  refine xs_iload dX2_unfold_18 rfl ?_
  refine xs_icmp_lt 46 dX2_unfold_20 (by decide) (fun c3 => ?_) (fun c3 => ?_)
  · replace h := h.1 c3
    refine xs_iload_n dX2_unfold_46 rfl ?_
    refine xs_iconst (nI 1) dX2_unfold_47 (by decide) ?_
    refine xs_iand dX2_unfold_48 ?_
    refine xs_iconst (nI 1) dX2_unfold_49 (by decide) ?_
    refine xs_icmp_ne 63 dX2_unfold_50 (by decide) (fun c4 => ?_) (fun c4 => ?_)
    · replace h := h.1 c4
      refine xs_iload_n dX2_unfold_63 rfl ?_
      refine xs_iload_n dX2_unfold_64 rfl ?_
      refine xs_iconst (nI 2) dX2_unfold_65 (by decide) ?_
      refine xs_idiv dX2_unfold_66 (by decide) ?_
      refine xs_iadd dX2_unfold_67 ?_
      exact xs_ret (some (.int (v1 + (v0 / (nI 2))))) dX2_unfold_68 rfl rfl ⟨hR, _, rfl, h⟩
    · replace h := h.2 c4
      refine xs_iload_n dX2_unfold_53 rfl ?_
      refine xs_iload_n dX2_unfold_54 rfl ?_
      refine xs_iconst (nI 1) dX2_unfold_55 (by decide) ?_
      refine xs_iadd dX2_unfold_56 ?_
      refine xs_iconst (nI 2) dX2_unfold_57 (by decide) ?_
      refine xs_idiv dX2_unfold_58 (by decide) ?_
      refine xs_isub dX2_unfold_59 ?_
      refine xs_goto 68 dX2_unfold_60 (by decide) ?_
      exact xs_ret (some (.int (v1 - ((v0 + (nI 1)) / (nI 2))))) dX2_unfold_68 rfl rfl ⟨hR, _, rfl, h⟩
  · replace h := h.2 c3
    refine xs_iload_n dX2_unfold_23 rfl ?_
    refine xs_iload dX2_unfold_24 rfl ?_
    refine xs_icmp_le 38 dX2_unfold_26 (by decide) (fun c5 => ?_) (fun c5 => ?_)
    · replace h := h.1 c5
      refine xs_iload_n dX2_unfold_38 rfl ?_
      refine xs_iload_n dX2_unfold_39 rfl ?_
      refine xs_iadd dX2_unfold_40 ?_
      refine xs_iload_n dX2_unfold_41 rfl ?_
      refine xs_isub dX2_unfold_42 ?_
      refine xs_iconst (nI 1) dX2_unfold_43 (by decide) ?_
      refine xs_isub dX2_unfold_44 ?_
      exact xs_ret (some (.int (((v1 + x1) - v0) - (nI 1)))) dX2_unfold_45 rfl rfl ⟨hR, _, rfl, h⟩
    · replace h := h.2 c5
      refine xs_iload_n dX2_unfold_29 rfl ?_
      refine xs_iload_n dX2_unfold_30 rfl ?_
      refine xs_iadd dX2_unfold_31 ?_
      refine xs_iload dX2_unfold_32 rfl ?_
      refine xs_isub dX2_unfold_34 ?_
      refine xs_goto 45 dX2_unfold_35 (by decide) ?_
      exact xs_ret (some (.int ((v1 + v0) - v1))) dX2_unfold_45 rfl rfl ⟨hR, _, rfl, h⟩
set_option maxHeartbeats 4000000 in
set_option maxRecDepth 100000 in
theorem g_X2_line {b : Bool} {Q : Int32 → xm_M → Prop} {μ : xm_M} (v0 : Int32) (v1 : Int32) (v2 : Int32) (v3 : Int32) (v4 : Int32) 
    (h : ∀ x1 : Int32, x1 = (v2 - v0) →
      ((0 < x1 →
       ¬ x1 = 0 ∧
       ∀ x4 : Int32, x4 = (((if 0 ≤ (v3 - v1) then (v3 - v1) else 0 - (v3 - v1)) * (v4 - v0)) / x1) →
       ((v3 ≤ v1 →
        Q (v1 - x4) μ) ∧
       (¬ v3 ≤ v1 →
        Q (v1 + x4) μ))) ∧
      (¬ 0 < x1 →
       Q v1 μ))) :
    xCi b b k_X2_line μ [.int v0, .int v1, .int v2, .int v3, .int v4] Q := by
  intro hR
  refine xm_met [some (.int v0), some (.int v1), some (.int v2), some (.int v3), some (.int v4), none, none] 2 (by decide) (by simp [lg_sl, Value.category]) rfl ?_
  refine xs_iload_n dX2_line_0 rfl ?_
  refine xs_iload_n dX2_line_1 rfl ?_
  refine xs_isub dX2_line_2 ?_
  refine xs_nmI (fun x1 e_x1 => ?_)
  replace h := h x1 e_x1
  refine xs_istore [some (.int v0), some (.int v1), some (.int v2), some (.int v3), some (.int v4), some (.int x1), none] dX2_line_3 (by decide) rfl ?_
  refine xs_iload dX2_line_5 rfl ?_
  refine xs_if_gt 12 dX2_line_7 (by decide) (fun c2 => ?_) (fun c2 => ?_)
  · replace h := h.1 c2
    refine xs_iload_n dX2_line_12 rfl ?_
    refine xs_iload_n dX2_line_13 rfl ?_
    refine xs_isub dX2_line_14 ?_
    refine xs_mabs dX2_line_15 ml_X2_72 (Nat.le_of_ble_eq_true rfl) (Nat.le_of_ble_eq_true rfl) ?_
    refine xs_iload dX2_line_18 rfl ?_
    refine xs_iload_n dX2_line_20 rfl ?_
    refine xs_isub dX2_line_21 ?_
    refine xs_imul dX2_line_22 ?_
    refine xs_iload dX2_line_23 rfl ?_
    obtain ⟨s3, h⟩ := h
    refine xs_idiv dX2_line_25 s3 ?_
    refine xs_nmI (fun x4 e_x4 => ?_)
    replace h := h x4 e_x4
    refine xs_istore [some (.int v0), some (.int v1), some (.int v2), some (.int v3), some (.int v4), some (.int x1), some (.int x4)] dX2_line_26 (by decide) rfl ?_
    refine xs_iload_n dX2_line_28 rfl ?_
    refine xs_iload_n dX2_line_29 rfl ?_
    refine xs_icmp_le 40 dX2_line_30 (by decide) (fun c5 => ?_) (fun c5 => ?_)
    · replace h := h.1 c5
      refine xs_iload_n dX2_line_40 rfl ?_
      refine xs_iload dX2_line_41 rfl ?_
      refine xs_isub dX2_line_43 ?_
      exact xs_ret (some (.int (v1 - x4))) dX2_line_44 rfl rfl ⟨hR, _, rfl, h⟩
    · replace h := h.2 c5
      refine xs_iload_n dX2_line_33 rfl ?_
      refine xs_iload dX2_line_34 rfl ?_
      refine xs_iadd dX2_line_36 ?_
      refine xs_goto 44 dX2_line_37 (by decide) ?_
      exact xs_ret (some (.int (v1 + x4))) dX2_line_44 rfl rfl ⟨hR, _, rfl, h⟩
  · replace h := h.2 c2
    refine xs_iload_n dX2_line_10 rfl ?_
    exact xs_ret (some (.int v1)) dX2_line_11 rfl rfl ⟨hR, _, rfl, h⟩
abbrev hd_X2_draw_5 (b : Bool) (Q : xm_M → Prop) (N : Nat) (v3 : Int32) (v4 : Int32) (μ : xm_M) : Prop := xs_RT b μ → xR k_X2_draw none true (fun r _ μ' => xs_RT b μ' ∧ r = none ∧ Q μ') 5 [some (.ref 56), some (.ref 9), some (.ref N), some (.int v3), some (.int v4), none] [] xs_sh (0, 0) μ
set_option maxHeartbeats 4000000 in
set_option maxRecDepth 100000 in
theorem l_X2_draw_5 {b : Bool} {Q : xm_M → Prop} {μ : xm_M} {N : Nat} (v3 : Int32) (v4 : Int32) (hN : xs_sh[N]? = some (.inr (.int, 16)))
    (h : (((nI 17) ≤ v4 →
       Q μ) ∧
      (¬ (nI 17) ≤ v4 →
       vp_in v4 17 ∧
       (((μ.1 13 (v4).toNatClampNeg) ≤ 0 →
        ∀ x4 : Int32, x4 = v4 + nI 1 →
        hd_X2_draw_5 b Q N v3 x4 μ) ∧
       (¬ (μ.1 13 (v4).toNatClampNeg) ≤ 0 →
        (((nI 17) ≤ (μ.1 13 (v4).toNatClampNeg) →
         ∀ x6 : Int32, x6 = v4 + nI 1 →
         hd_X2_draw_5 b Q N v3 x6 μ) ∧
        (¬ (nI 17) ≤ (μ.1 13 (v4).toNatClampNeg) →
         vp_in (μ.1 13 (v4).toNatClampNeg) 17 ∧
         (((μ.1 58 ((μ.1 13 (v4).toNatClampNeg)).toNatClampNeg) = 0 →
          ∀ x9 : Int32, x9 = v4 + nI 1 →
          hd_X2_draw_5 b Q N v3 x9 μ) ∧
         (¬ (μ.1 58 ((μ.1 13 (v4).toNatClampNeg)).toNatClampNeg) = 0 →
          ∃ Q10 : xm_M → Prop, xCv b b k_X2_drawLine μ [.ref 56, .ref 9, .int v3, .int (μ.1 13 (v4).toNatClampNeg), .ref N] Q10 ∧
          ∀ m11 : xm_M, Q10 m11 →
          ∀ x14 : Int32, x14 = v4 + nI 1 →
          hd_X2_draw_5 b Q N (μ.1 13 (v4).toNatClampNeg) x14 m11))))))))) :
    hd_X2_draw_5 b Q N v3 v4 μ := by
  intro hR
  refine xs_iload dX2_draw_5 rfl ?_
  refine xs_aload_n dX2_draw_7 rfl ?_
  refine xs_getR dX2_draw_8 fl_X2_75 rfl sc_9 (rt_9_7 hR) ?_
  refine xs_alen 0 dX2_draw_11 sc_13 (fun _ => rfl) ?_
  refine xs_icmp_ge 67 dX2_draw_12 (by decide) (fun c1 => ?_) (fun c1 => ?_)
  · replace h := h.1 c1
    exact xs_ret none dX2_draw_67 trivial rfl ⟨hR, rfl, h⟩
  · replace h := h.2 c1
    refine xs_aload_n dX2_draw_15 rfl ?_
    refine xs_getR dX2_draw_16 fl_X2_75 rfl sc_9 (rt_9_7 hR) ?_
    refine xs_iload dX2_draw_19 rfl ?_
    obtain ⟨s2, h⟩ := h
    refine xs_iald dX2_draw_21 sc_13 s2 ?_
    refine xs_istore [some (.ref 56), some (.ref 9), some (.ref N), some (.int v3), some (.int v4), some (.int (μ.1 13 (v4).toNatClampNeg))] dX2_draw_22 (by decide) rfl ?_
    refine xs_iload dX2_draw_24 rfl ?_
    refine xs_if_le 61 dX2_draw_26 (by decide) (fun c3 => ?_) (fun c3 => ?_)
    · replace h := h.1 c3
      obtain ⟨x4, e_x4⟩ : ∃ z : Int32, z = v4 + nI 1 := ⟨_, rfl⟩
      replace h := h x4 e_x4
      refine xs_iinc x4 [some (.ref 56), some (.ref 9), some (.ref N), some (.int v3), some (.int x4), some (.int (μ.1 13 (v4).toNatClampNeg))] dX2_draw_61 (by decide) rfl (by rw [e_x4]; rfl) rfl ?_
      refine xs_goto 5 dX2_draw_64 (by decide) ?_
      exact xs_loc [some (.ref 56), some (.ref 9), some (.ref N), some (.int v3), some (.int x4), none] ⟨rfl, ⟨rfl, ⟨rfl, ⟨rfl, ⟨rfl, trivial⟩⟩⟩⟩⟩ (h hR)
    · replace h := h.2 c3
      refine xs_iload dX2_draw_29 rfl ?_
      refine xs_aload_n dX2_draw_31 rfl ?_
      refine xs_getR dX2_draw_32 fl_X2_15 rfl sc_56 (rt_56_1 hR) ?_
      refine xs_alen 2 dX2_draw_35 sc_58 (fun _ => rfl) ?_
      refine xs_icmp_ge 61 dX2_draw_36 (by decide) (fun c5 => ?_) (fun c5 => ?_)
      · replace h := h.1 c5
        obtain ⟨x6, e_x6⟩ : ∃ z : Int32, z = v4 + nI 1 := ⟨_, rfl⟩
        replace h := h x6 e_x6
        refine xs_iinc x6 [some (.ref 56), some (.ref 9), some (.ref N), some (.int v3), some (.int x6), some (.int (μ.1 13 (v4).toNatClampNeg))] dX2_draw_61 (by decide) rfl (by rw [e_x6]; rfl) rfl ?_
        refine xs_goto 5 dX2_draw_64 (by decide) ?_
        exact xs_loc [some (.ref 56), some (.ref 9), some (.ref N), some (.int v3), some (.int x6), none] ⟨rfl, ⟨rfl, ⟨rfl, ⟨rfl, ⟨rfl, trivial⟩⟩⟩⟩⟩ (h hR)
      · replace h := h.2 c5
        refine xs_aload_n dX2_draw_39 rfl ?_
        refine xs_getR dX2_draw_40 fl_X2_15 rfl sc_56 (rt_56_1 hR) ?_
        refine xs_iload dX2_draw_43 rfl ?_
        obtain ⟨s7, h⟩ := h
        refine xs_zald dX2_draw_45 sc_58 s7 ?_
        refine xs_if_eq 61 dX2_draw_46 (by decide) (fun c8 => ?_) (fun c8 => ?_)
        · replace h := h.1 c8
          obtain ⟨x9, e_x9⟩ : ∃ z : Int32, z = v4 + nI 1 := ⟨_, rfl⟩
          replace h := h x9 e_x9
          refine xs_iinc x9 [some (.ref 56), some (.ref 9), some (.ref N), some (.int v3), some (.int x9), some (.int (μ.1 13 (v4).toNatClampNeg))] dX2_draw_61 (by decide) rfl (by rw [e_x9]; rfl) rfl ?_
          refine xs_goto 5 dX2_draw_64 (by decide) ?_
          exact xs_loc [some (.ref 56), some (.ref 9), some (.ref N), some (.int v3), some (.int x9), none] ⟨rfl, ⟨rfl, ⟨rfl, ⟨rfl, ⟨rfl, trivial⟩⟩⟩⟩⟩ (h hR)
        · replace h := h.2 c8
          refine xs_aload_n dX2_draw_49 rfl ?_
          refine xs_aload_n dX2_draw_50 rfl ?_
          refine xs_iload_n dX2_draw_51 rfl ?_
          refine xs_iload dX2_draw_52 rfl ?_
          refine xs_aload_n dX2_draw_54 rfl ?_
          obtain ⟨Q10, hQ10, h⟩ := h
          refine xs_callV (j := k_X2_drawLine) (As := [.ref 9, .int v3, .int (μ.1 13 (v4).toNatClampNeg), .ref N]) (S := []) dX2_draw_55 (hQ10 hR) ⟨ml_X2_78, mk_X2_drawLine.1, mk_X2_drawLine.2.1, mk_X2_drawLine.2.2⟩ mv_X2_drawLine ⟨Nat.le_of_ble_eq_true rfl, Nat.le_of_ble_eq_true rfl⟩ rfl (Nat.le_of_ble_eq_true rfl) sc_56 rfl ⟨rfl, rfl⟩ (fun rr m11 hq13 => ?_)
          obtain ⟨hR, rfl, hq13⟩ := hq13
          replace h := h m11 hq13
          refine xs_iload dX2_draw_58 rfl ?_
          refine xs_istore_n [some (.ref 56), some (.ref 9), some (.ref N), some (.int (μ.1 13 (v4).toNatClampNeg)), some (.int v4), some (.int (μ.1 13 (v4).toNatClampNeg))] dX2_draw_60 (by decide) rfl ?_
          obtain ⟨x14, e_x14⟩ : ∃ z : Int32, z = v4 + nI 1 := ⟨_, rfl⟩
          replace h := h x14 e_x14
          refine xs_iinc x14 [some (.ref 56), some (.ref 9), some (.ref N), some (.int (μ.1 13 (v4).toNatClampNeg)), some (.int x14), some (.int (μ.1 13 (v4).toNatClampNeg))] dX2_draw_61 (by decide) rfl (by rw [e_x14]; rfl) rfl ?_
          refine xs_goto 5 dX2_draw_64 (by decide) ?_
          exact xs_loc [some (.ref 56), some (.ref 9), some (.ref N), some (.int (μ.1 13 (v4).toNatClampNeg)), some (.int x14), none] ⟨rfl, ⟨rfl, ⟨rfl, ⟨rfl, ⟨rfl, trivial⟩⟩⟩⟩⟩ (h hR)
set_option maxHeartbeats 4000000 in
set_option maxRecDepth 100000 in
theorem g_X2_draw {b : Bool} {Q : xm_M → Prop} {μ : xm_M} {N : Nat} (hN : xs_sh[N]? = some (.inr (.int, 16)))
    (h : hd_X2_draw_5 b Q N (nI 0) (nI 1) μ) :
    xCv b b k_X2_draw μ [.ref 56, .ref 9, .ref N] Q := by
  intro hR
  refine xm_met [some (.ref 56), some (.ref 9), some (.ref N), none, none, none] 3 (by decide) (by simp [lg_sl, Value.category]) rfl ?_
  refine xs_iconst (nI 0) dX2_draw_0 (by decide) ?_
  refine xs_istore_n [some (.ref 56), some (.ref 9), some (.ref N), some (.int (nI 0)), none, none] dX2_draw_1 (by decide) rfl ?_
  refine xs_iconst (nI 1) dX2_draw_2 (by decide) ?_
  refine xs_istore [some (.ref 56), some (.ref 9), some (.ref N), some (.int (nI 0)), some (.int (nI 1)), none] dX2_draw_3 (by decide) rfl ?_
  exact xs_loc [some (.ref 56), some (.ref 9), some (.ref N), some (.int (nI 0)), some (.int (nI 1)), none] ⟨rfl, ⟨rfl, ⟨rfl, ⟨rfl, ⟨rfl, trivial⟩⟩⟩⟩⟩ (h hR)
abbrev hd_X2_drawLine_20 (b : Bool) (Q : xm_M → Prop) (N : Nat) (v2 : Int32) (v3 : Int32) (v5 : Int32) (v6 : Int32) (v7 : Int32) (μ : xm_M) : Prop := xs_RT b μ → xR k_X2_drawLine none true (fun r _ μ' => xs_RT b μ' ∧ r = none ∧ Q μ') 20 [some (.ref 56), some (.ref 9), some (.int v2), some (.int v3), some (.ref N), some (.int v5), some (.int v6), some (.int v7), none] [] xs_sh (0, 0) μ
set_option maxHeartbeats 4000000 in
set_option maxRecDepth 100000 in
theorem l_X2_drawLine_20 {b : Bool} {Q : xm_M → Prop} {μ : xm_M} {N : Nat} (v2 : Int32) (v3 : Int32) (v5 : Int32) (v6 : Int32) (v7 : Int32) (hN : xs_sh[N]? = some (.inr (.int, 16)))
    (h : ((v6 ≤ v7 →
       Q μ) ∧
      (¬ v6 ≤ v7 →
       ((v7 < 0 →
        Q μ) ∧
       (¬ v7 < 0 →
        (((nI 16) ≤ v7 →
         Q μ) ∧
        (¬ (nI 16) ≤ v7 →
         vp_in v2 17 ∧
         vp_in v3 17 ∧
         ∃ Q6 : Int32 → xm_M → Prop, xCi b b k_X2_line μ [.int v5, .int (μ.1 57 (v2).toNatClampNeg), .int v6, .int (μ.1 57 (v3).toNatClampNeg), .int v7] Q6 ∧
         ∀ (r8 : Int32) (m7 : xm_M), Q6 r8 m7 →
         vp_in v7 16 ∧
         ∀ m11 : xm_M, m11 = xu_I m7 N (upd (m7.1 N) (v7).toNatClampNeg (if (r8 * (m7.1 9 1)) < (nI 255) then (r8 * (m7.1 9 1)) else (nI 255))) →
         ∀ x12 : Int32, x12 = v7 + nI 1 →
         hd_X2_drawLine_20 b Q N v2 v3 v5 v6 x12 m11))))))) :
    hd_X2_drawLine_20 b Q N v2 v3 v5 v6 v7 μ := by
  intro hR
  refine xs_iload dX2_drawLine_20 rfl ?_
  refine xs_iload dX2_drawLine_22 rfl ?_
  refine xs_icmp_ge 87 dX2_drawLine_24 (by decide) (fun c1 => ?_) (fun c1 => ?_)
  · replace h := h.1 c1
    exact xs_ret none dX2_drawLine_87 trivial rfl ⟨hR, rfl, h⟩
  · replace h := h.2 c1
    refine xs_iload dX2_drawLine_27 rfl ?_
    refine xs_if_lt 87 dX2_drawLine_29 (by decide) (fun c2 => ?_) (fun c2 => ?_)
    · replace h := h.1 c2
      exact xs_ret none dX2_drawLine_87 trivial rfl ⟨hR, rfl, h⟩
    · replace h := h.2 c2
      refine xs_iload dX2_drawLine_32 rfl ?_
      refine xs_aload dX2_drawLine_34 rfl ?_
      refine xs_alen 0 dX2_drawLine_36 hN (fun _ => rfl) ?_
      refine xs_icmp_ge 87 dX2_drawLine_37 (by decide) (fun c3 => ?_) (fun c3 => ?_)
      · replace h := h.1 c3
        exact xs_ret none dX2_drawLine_87 trivial rfl ⟨hR, rfl, h⟩
      · replace h := h.2 c3
        refine xs_iload dX2_drawLine_40 rfl ?_
        refine xs_aload_n dX2_drawLine_42 rfl ?_
        refine xs_getR dX2_drawLine_43 fl_X2_9 rfl sc_56 (rt_56_0 hR) ?_
        refine xs_iload_n dX2_drawLine_46 rfl ?_
        obtain ⟨s4, h⟩ := h
        refine xs_iald dX2_drawLine_47 sc_57 s4 ?_
        refine xs_iload dX2_drawLine_48 rfl ?_
        refine xs_aload_n dX2_drawLine_50 rfl ?_
        refine xs_getR dX2_drawLine_51 fl_X2_9 rfl sc_56 (rt_56_0 hR) ?_
        refine xs_iload_n dX2_drawLine_54 rfl ?_
        obtain ⟨s5, h⟩ := h
        refine xs_iald dX2_drawLine_55 sc_57 s5 ?_
        refine xs_iload dX2_drawLine_56 rfl ?_
        obtain ⟨Q6, hQ6, h⟩ := h
        refine xs_callS (j := k_X2_line) (As := [.int v5, .int (μ.1 57 (v2).toNatClampNeg), .int v6, .int (μ.1 57 (v3).toNatClampNeg), .int v7]) (S := []) dX2_drawLine_58 (hQ6 hR) ⟨ml_X2_61, mk_X2_line.1, mk_X2_line.2.1, mk_X2_line.2.2⟩ ms_X2_line ⟨Nat.le_of_ble_eq_true rfl, Nat.le_of_ble_eq_true rfl⟩ rfl (Nat.le_of_ble_eq_true rfl) ⟨rfl, rfl⟩ (fun rr m7 hq9 => ?_)
        obtain ⟨hR, r8, rfl, hq9⟩ := hq9
        replace h := h r8 m7 hq9
        refine xs_istore [some (.ref 56), some (.ref 9), some (.int v2), some (.int v3), some (.ref N), some (.int v5), some (.int v6), some (.int v7), some (.int r8)] dX2_drawLine_61 (by decide) rfl ?_
        refine xs_aload dX2_drawLine_63 rfl ?_
        refine xs_iload dX2_drawLine_65 rfl ?_
        refine xs_sipush (nI 255) dX2_drawLine_67 (by decide) ?_
        refine xs_iload dX2_drawLine_70 rfl ?_
        refine xs_aload_n dX2_drawLine_72 rfl ?_
        refine xs_getI dX2_drawLine_73 fl_X2_19.g rfl sc_9 ?_
        refine xs_imul dX2_drawLine_76 ?_
        refine xs_mmin dX2_drawLine_77 ml_X2_35 (Nat.le_of_ble_eq_true rfl) (Nat.le_of_ble_eq_true rfl) ?_
        obtain ⟨s10, h⟩ := h
        refine xs_iast dX2_drawLine_80 hN s10 ?_
        refine xs_nmM (fun m11 e_m11 => ?_)
        replace h := h m11 e_m11
        have hR : xs_RT b m11 := by rw [e_m11]; exact hR
        obtain ⟨x12, e_x12⟩ : ∃ z : Int32, z = v7 + nI 1 := ⟨_, rfl⟩
        replace h := h x12 e_x12
        refine xs_iinc x12 [some (.ref 56), some (.ref 9), some (.int v2), some (.int v3), some (.ref N), some (.int v5), some (.int v6), some (.int x12), some (.int r8)] dX2_drawLine_81 (by decide) rfl (by rw [e_x12]; rfl) rfl ?_
        refine xs_goto 20 dX2_drawLine_84 (by decide) ?_
        exact xs_loc [some (.ref 56), some (.ref 9), some (.int v2), some (.int v3), some (.ref N), some (.int v5), some (.int v6), some (.int x12), none] ⟨rfl, ⟨rfl, ⟨rfl, ⟨rfl, ⟨rfl, ⟨rfl, ⟨rfl, ⟨rfl, trivial⟩⟩⟩⟩⟩⟩⟩⟩ (h hR)
set_option maxHeartbeats 4000000 in
set_option maxRecDepth 100000 in
theorem g_X2_drawLine {b : Bool} {Q : xm_M → Prop} {μ : xm_M} (v2 : Int32) (v3 : Int32) {N : Nat} (hN : xs_sh[N]? = some (.inr (.int, 16)))
    (h : vp_in v2 17 ∧
      vp_in v3 17 ∧
      hd_X2_drawLine_20 b Q N v2 v3 (μ.1 10 (v2).toNatClampNeg) (μ.1 10 (v3).toNatClampNeg) (μ.1 10 (v2).toNatClampNeg) μ) :
    xCv b b k_X2_drawLine μ [.ref 56, .ref 9, .int v2, .int v3, .ref N] Q := by
  intro hR
  refine xm_met [some (.ref 56), some (.ref 9), some (.int v2), some (.int v3), some (.ref N), none, none, none, none] 4 (by decide) (by simp [lg_sl, Value.category]) rfl ?_
  refine xs_aload_n dX2_drawLine_0 rfl ?_
  refine xs_getR dX2_drawLine_1 fl_X2_58 rfl sc_9 (rt_9_4 hR) ?_
  refine xs_iload_n dX2_drawLine_4 rfl ?_
  obtain ⟨s1, h⟩ := h
  refine xs_iald dX2_drawLine_5 sc_10 s1 ?_
  refine xs_istore [some (.ref 56), some (.ref 9), some (.int v2), some (.int v3), some (.ref N), some (.int (μ.1 10 (v2).toNatClampNeg)), none, none, none] dX2_drawLine_6 (by decide) rfl ?_
  refine xs_aload_n dX2_drawLine_8 rfl ?_
  refine xs_getR dX2_drawLine_9 fl_X2_58 rfl sc_9 (rt_9_4 hR) ?_
  refine xs_iload_n dX2_drawLine_12 rfl ?_
  obtain ⟨s2, h⟩ := h
  refine xs_iald dX2_drawLine_13 sc_10 s2 ?_
  refine xs_istore [some (.ref 56), some (.ref 9), some (.int v2), some (.int v3), some (.ref N), some (.int (μ.1 10 (v2).toNatClampNeg)), some (.int (μ.1 10 (v3).toNatClampNeg)), none, none] dX2_drawLine_14 (by decide) rfl ?_
  refine xs_iload dX2_drawLine_16 rfl ?_
  refine xs_istore [some (.ref 56), some (.ref 9), some (.int v2), some (.int v3), some (.ref N), some (.int (μ.1 10 (v2).toNatClampNeg)), some (.int (μ.1 10 (v3).toNatClampNeg)), some (.int (μ.1 10 (v2).toNatClampNeg)), none] dX2_drawLine_18 (by decide) rfl ?_
  exact xs_loc [some (.ref 56), some (.ref 9), some (.int v2), some (.int v3), some (.ref N), some (.int (μ.1 10 (v2).toNatClampNeg)), some (.int (μ.1 10 (v3).toNatClampNeg)), some (.int (μ.1 10 (v2).toNatClampNeg)), none] ⟨rfl, ⟨rfl, ⟨rfl, ⟨rfl, ⟨rfl, ⟨rfl, ⟨rfl, ⟨rfl, trivial⟩⟩⟩⟩⟩⟩⟩⟩ (h hR)
