/-! walks of b.X1, printed by wip/gen/mkwalk.py -/
abbrev hd_X1_learn_36 (Q : Int32 → xm_M → Prop) (B : Nat) (v4 : Int32) (μ : xm_M) : Prop := xs_RT true μ → xR k_X1_learn none true (fun r _ μ' => xs_RT true μ' ∧ ∃ x : Int32, r = some (.int x) ∧ Q x μ') 36 [some (.ref B), some (.ref 7), none, none, some (.int v4)] [] xs_sh (0, 0) μ
set_option maxHeartbeats 4000000 in
set_option maxRecDepth 100000 in
theorem l_X1_learn_36 {Q : Int32 → xm_M → Prop} {μ : xm_M} {B : Nat} (v4 : Int32) (hB : xs_bk B)
    (h : (((μ.1 B 2) ≤ v4 →
       ∃ Q2 : Int32 → xm_M → Prop, xCi true true k_X1_growTree μ [.ref B] Q2 ∧
       ∀ (r4 : Int32) (m3 : xm_M), Q2 r4 m3 →
       ((¬ r4 = 0 →
        ∃ Q7 : Int32 → xm_M → Prop, xCi true true k_X1_learnValues m3 [.ref B, .ref 7] Q7 ∧
        ∀ (r9 : Int32) (m8 : xm_M), Q7 r9 m8 →
        Q r9 m8) ∧
       (r4 = 0 →
        Q (nI 4) m3))) ∧
      (¬ (μ.1 B 2) ≤ v4 →
       (((nI 64) ≤ v4 →
        ∃ Q12 : Int32 → xm_M → Prop, xCi true true k_X1_growTree μ [.ref B] Q12 ∧
        ∀ (r14 : Int32) (m13 : xm_M), Q12 r14 m13 →
        ((¬ r14 = 0 →
         ∃ Q17 : Int32 → xm_M → Prop, xCi true true k_X1_learnValues m13 [.ref B, .ref 7] Q17 ∧
         ∀ (r19 : Int32) (m18 : xm_M), Q17 r19 m18 →
         Q r19 m18) ∧
        (r14 = 0 →
         Q (nI 4) m13))) ∧
       (¬ (nI 64) ≤ v4 →
        ∃ Q21 : Int32 → xm_M → Prop, xCi true true k_X0_number μ [.ref 7, .int (nI 4)] Q21 ∧
        ∀ (r23 : Int32) (m22 : xm_M), Q21 r23 m22 →
        vp_in v4 64 ∧
        ∀ m26 : xm_M, m26 = xu_I m22 (B + 2) (upd (m22.1 (B + 2)) (v4).toNatClampNeg r23) →
        vp_in v4 64 ∧
        ((0 ≤ (m26.1 (B + 2) (v4).toNatClampNeg) →
         ∀ x29 : Int32, x29 = v4 + nI 1 →
         hd_X1_learn_36 Q B x29 m26) ∧
        (¬ 0 ≤ (m26.1 (B + 2) (v4).toNatClampNeg) →
         Q (nI 2) m26))))))) :
    hd_X1_learn_36 Q B v4 μ := by
  intro hR
  refine xs_iload dX1_learn_36 rfl ?_
  refine xs_aload_n dX1_learn_38 rfl ?_
  refine xs_getI dX1_learn_39 fl_X1_15.g rfl (sb_0 hB) ?_
  refine xs_icmp_ge 85 dX1_learn_42 (by decide) (fun c1 => ?_) (fun c1 => ?_)
  · replace h := h.1 c1
    refine xs_aload_n dX1_learn_85 rfl ?_
    obtain ⟨Q2, hQ2, h⟩ := h
    refine xs_callV (j := k_X1_growTree) (As := []) (S := []) dX1_learn_86 (hQ2 hR) ⟨ml_X1_42, mk_X1_growTree.1, mk_X1_growTree.2.1, mk_X1_growTree.2.2⟩ mv_X1_growTree ⟨Nat.le_of_ble_eq_true rfl, Nat.le_of_ble_eq_true rfl⟩ rfl (Nat.le_of_ble_eq_true rfl) (sb_0 hB) rfl ⟨rfl, rfl⟩ (fun rr m3 hq5 => ?_)
    obtain ⟨hR, r4, rfl, hq5⟩ := hq5
    replace h := h r4 m3 hq5
    refine xs_if_ne 94 dX1_learn_89 (by decide) (fun c6 => ?_) (fun c6 => ?_)
    · replace h := h.1 c6
      refine xs_aload_n dX1_learn_94 rfl ?_
      refine xs_aload_n dX1_learn_95 rfl ?_
      obtain ⟨Q7, hQ7, h⟩ := h
      refine xs_callV (j := k_X1_learnValues) (As := [.ref 7]) (S := []) dX1_learn_96 (hQ7 hR) ⟨ml_X1_46, mk_X1_learnValues.1, mk_X1_learnValues.2.1, mk_X1_learnValues.2.2⟩ mv_X1_learnValues ⟨Nat.le_of_ble_eq_true rfl, Nat.le_of_ble_eq_true rfl⟩ rfl (Nat.le_of_ble_eq_true rfl) (sb_0 hB) rfl ⟨rfl, rfl⟩ (fun rr m8 hq10 => ?_)
      obtain ⟨hR, r9, rfl, hq10⟩ := hq10
      replace h := h r9 m8 hq10
      exact xs_ret (some (.int r9)) dX1_learn_99 rfl rfl ⟨hR, _, rfl, h⟩
    · replace h := h.2 c6
      refine xs_iconst (nI 4) dX1_learn_92 (by decide) ?_
      exact xs_ret (some (.int (nI 4))) dX1_learn_93 rfl rfl ⟨hR, _, rfl, h⟩
  · replace h := h.2 c1
    refine xs_iload dX1_learn_45 rfl ?_
    refine xs_aload_n dX1_learn_47 rfl ?_
    refine xs_getR dX1_learn_48 fl_X1_25 rfl (sb_0 hB) (rb_8 hB hR) ?_
    refine xs_alen 0 dX1_learn_51 (sb_2 hB) (fun _ => rfl) ?_
    refine xs_icmp_ge 85 dX1_learn_52 (by decide) (fun c11 => ?_) (fun c11 => ?_)
    · replace h := h.1 c11
      refine xs_aload_n dX1_learn_85 rfl ?_
      obtain ⟨Q12, hQ12, h⟩ := h
      refine xs_callV (j := k_X1_growTree) (As := []) (S := []) dX1_learn_86 (hQ12 hR) ⟨ml_X1_42, mk_X1_growTree.1, mk_X1_growTree.2.1, mk_X1_growTree.2.2⟩ mv_X1_growTree ⟨Nat.le_of_ble_eq_true rfl, Nat.le_of_ble_eq_true rfl⟩ rfl (Nat.le_of_ble_eq_true rfl) (sb_0 hB) rfl ⟨rfl, rfl⟩ (fun rr m13 hq15 => ?_)
      obtain ⟨hR, r14, rfl, hq15⟩ := hq15
      replace h := h r14 m13 hq15
      refine xs_if_ne 94 dX1_learn_89 (by decide) (fun c16 => ?_) (fun c16 => ?_)
      · replace h := h.1 c16
        refine xs_aload_n dX1_learn_94 rfl ?_
        refine xs_aload_n dX1_learn_95 rfl ?_
        obtain ⟨Q17, hQ17, h⟩ := h
        refine xs_callV (j := k_X1_learnValues) (As := [.ref 7]) (S := []) dX1_learn_96 (hQ17 hR) ⟨ml_X1_46, mk_X1_learnValues.1, mk_X1_learnValues.2.1, mk_X1_learnValues.2.2⟩ mv_X1_learnValues ⟨Nat.le_of_ble_eq_true rfl, Nat.le_of_ble_eq_true rfl⟩ rfl (Nat.le_of_ble_eq_true rfl) (sb_0 hB) rfl ⟨rfl, rfl⟩ (fun rr m18 hq20 => ?_)
        obtain ⟨hR, r19, rfl, hq20⟩ := hq20
        replace h := h r19 m18 hq20
        exact xs_ret (some (.int r19)) dX1_learn_99 rfl rfl ⟨hR, _, rfl, h⟩
      · replace h := h.2 c16
        refine xs_iconst (nI 4) dX1_learn_92 (by decide) ?_
        exact xs_ret (some (.int (nI 4))) dX1_learn_93 rfl rfl ⟨hR, _, rfl, h⟩
    · replace h := h.2 c11
      refine xs_aload_n dX1_learn_55 rfl ?_
      refine xs_getR dX1_learn_56 fl_X1_25 rfl (sb_0 hB) (rb_8 hB hR) ?_
      refine xs_iload dX1_learn_59 rfl ?_
      refine xs_aload_n dX1_learn_61 rfl ?_
      refine xs_iconst (nI 4) dX1_learn_62 (by decide) ?_
      obtain ⟨Q21, hQ21, h⟩ := h
      refine xs_callV (j := k_X0_number) (As := [.int (nI 4)]) (S := [.int v4, .ref (B + 2)]) dX1_learn_63 (hQ21 hR) ⟨ml_X1_34, mk_X0_number.1, mk_X0_number.2.1, mk_X0_number.2.2⟩ mv_X0_number ⟨Nat.le_of_ble_eq_true rfl, Nat.le_of_ble_eq_true rfl⟩ rfl (Nat.le_of_ble_eq_true rfl) sc_7 rfl ⟨rfl, rfl⟩ (fun rr m22 hq24 => ?_)
      obtain ⟨hR, r23, rfl, hq24⟩ := hq24
      replace h := h r23 m22 hq24
      obtain ⟨s25, h⟩ := h
      refine xs_iast dX1_learn_66 (sb_2 hB) s25 ?_
      refine xs_nmM (fun m26 e_m26 => ?_)
      replace h := h m26 e_m26
      have hR : xs_RT true m26 := by rw [e_m26]; exact hR
      refine xs_aload_n dX1_learn_67 rfl ?_
      refine xs_getR dX1_learn_68 fl_X1_25 rfl (sb_0 hB) (rb_8 hB hR) ?_
      refine xs_iload dX1_learn_71 rfl ?_
      obtain ⟨s27, h⟩ := h
      refine xs_iald dX1_learn_73 (sb_2 hB) s27 ?_
      refine xs_if_ge 79 dX1_learn_74 (by decide) (fun c28 => ?_) (fun c28 => ?_)
      · replace h := h.1 c28
        obtain ⟨x29, e_x29⟩ : ∃ z : Int32, z = v4 + nI 1 := ⟨_, rfl⟩
        replace h := h x29 e_x29
        refine xs_iinc x29 [some (.ref B), some (.ref 7), none, none, some (.int x29)] dX1_learn_79 (by decide) rfl (by rw [e_x29]; rfl) rfl ?_
        refine xs_goto 36 dX1_learn_82 (by decide) ?_
        exact xs_loc [some (.ref B), some (.ref 7), none, none, some (.int x29)] ⟨rfl, ⟨rfl, ⟨rfl, trivial⟩⟩⟩ (h hR)
      · replace h := h.2 c28
        refine xs_iconst (nI 2) dX1_learn_77 (by decide) ?_
        exact xs_ret (some (.int (nI 2))) dX1_learn_78 rfl rfl ⟨hR, _, rfl, h⟩
set_option maxHeartbeats 4000000 in
set_option maxRecDepth 100000 in
theorem g_X1_learn {Q : Int32 → xm_M → Prop} {μ : xm_M} {B : Nat} (hB : xs_bk B)
    (h : ∃ Q1 : Int32 → xm_M → Prop, xCi true true k_X0_number μ [.ref 7, .int (nI 2)] Q1 ∧
      ∀ (r3 : Int32) (m2 : xm_M), Q1 r3 m2 →
      ∃ Q5 : Int32 → xm_M → Prop, xCi true true k_X0_number m2 [.ref 7, .int (nI 6)] Q5 ∧
      ∀ (r7 : Int32) (m6 : xm_M), Q5 r7 m6 →
      ((0 ≤ r7 →
       ∀ m10 : xm_M, m10 = xu_I m6 B (upd (m6.1 B) 0 (r3 + (nI 1))) →
       ∀ m11 : xm_M, m11 = xu_I m10 B (upd (m10.1 B) 2 (r7 + (nI 1))) →
       hd_X1_learn_36 Q B (nI 0) m11) ∧
      (¬ 0 ≤ r7 →
       Q (nI 2) m6))) :
    xCi true true k_X1_learn μ [.ref B, .ref 7] Q := by
  intro hR
  refine xm_met [some (.ref B), some (.ref 7), none, none, none] 3 (by decide) (by simp [lg_sl, Value.category]) rfl ?_
  refine xs_aload_n dX1_learn_0 rfl ?_
  refine xs_iconst (nI 2) dX1_learn_1 (by decide) ?_
  obtain ⟨Q1, hQ1, h⟩ := h
  refine xs_callV (j := k_X0_number) (As := [.int (nI 2)]) (S := []) dX1_learn_2 (hQ1 hR) ⟨ml_X1_34, mk_X0_number.1, mk_X0_number.2.1, mk_X0_number.2.2⟩ mv_X0_number ⟨Nat.le_of_ble_eq_true rfl, Nat.le_of_ble_eq_true rfl⟩ rfl (Nat.le_of_ble_eq_true rfl) sc_7 rfl ⟨rfl, rfl⟩ (fun rr m2 hq4 => ?_)
  obtain ⟨hR, r3, rfl, hq4⟩ := hq4
  replace h := h r3 m2 hq4
  refine xs_istore_n [some (.ref B), some (.ref 7), some (.int r3), none, none] dX1_learn_5 (by decide) rfl ?_
  refine xs_aload_n dX1_learn_6 rfl ?_
  refine xs_bipush (nI 6) dX1_learn_7 (by decide) ?_
  obtain ⟨Q5, hQ5, h⟩ := h
  refine xs_callV (j := k_X0_number) (As := [.int (nI 6)]) (S := []) dX1_learn_9 (hQ5 hR) ⟨ml_X1_34, mk_X0_number.1, mk_X0_number.2.1, mk_X0_number.2.2⟩ mv_X0_number ⟨Nat.le_of_ble_eq_true rfl, Nat.le_of_ble_eq_true rfl⟩ rfl (Nat.le_of_ble_eq_true rfl) sc_7 rfl ⟨rfl, rfl⟩ (fun rr m6 hq8 => ?_)
  obtain ⟨hR, r7, rfl, hq8⟩ := hq8
  replace h := h r7 m6 hq8
  refine xs_istore_n [some (.ref B), some (.ref 7), some (.int r3), some (.int r7), none] dX1_learn_12 (by decide) rfl ?_
  refine xs_iload_n dX1_learn_13 rfl ?_
  refine xs_if_ge 19 dX1_learn_14 (by decide) (fun c9 => ?_) (fun c9 => ?_)
  · replace h := h.1 c9
    refine xs_aload_n dX1_learn_19 rfl ?_
    refine xs_iload_n dX1_learn_20 rfl ?_
    refine xs_iconst (nI 1) dX1_learn_21 (by decide) ?_
    refine xs_iadd dX1_learn_22 ?_
    refine xs_putI dX1_learn_23 fl_X1_11 rfl rfl rfl (sb_0 hB) ?_
    refine xs_nmM (fun m10 e_m10 => ?_)
    replace h := h m10 e_m10
    have hR : xs_RT true m10 := by rw [e_m10]; exact hR
    refine xs_aload_n dX1_learn_26 rfl ?_
    refine xs_iload_n dX1_learn_27 rfl ?_
    refine xs_iconst (nI 1) dX1_learn_28 (by decide) ?_
    refine xs_iadd dX1_learn_29 ?_
    refine xs_putI dX1_learn_30 fl_X1_15 rfl rfl rfl (sb_0 hB) ?_
    refine xs_nmM (fun m11 e_m11 => ?_)
    replace h := h m11 e_m11
    have hR : xs_RT true m11 := by rw [e_m11]; exact hR
    refine xs_iconst (nI 0) dX1_learn_33 (by decide) ?_
    refine xs_istore [some (.ref B), some (.ref 7), some (.int r3), some (.int r7), some (.int (nI 0))] dX1_learn_34 (by decide) rfl ?_
    exact xs_loc [some (.ref B), some (.ref 7), none, none, some (.int (nI 0))] ⟨rfl, ⟨rfl, ⟨rfl, trivial⟩⟩⟩ (h hR)
  · replace h := h.2 c9
    refine xs_iconst (nI 2) dX1_learn_17 (by decide) ?_
    exact xs_ret (some (.int (nI 2))) dX1_learn_18 rfl rfl ⟨hR, _, rfl, h⟩
abbrev hd_X1_learnValues_115 (Q : Int32 → xm_M → Prop) (B : Nat) (v4 : Int32) (v5 : Int32) (μ : xm_M) : Prop := xs_RT true μ → xR k_X1_learnValues none true (fun r _ μ' => xs_RT true μ' ∧ ∃ x : Int32, r = some (.int x) ∧ Q x μ') 115 [some (.ref B), some (.ref 7), none, none, some (.int v4), some (.int v5)] [] xs_sh (0, 0) μ
set_option maxHeartbeats 4000000 in
set_option maxRecDepth 100000 in
theorem l_X1_learnValues_115 {Q : Int32 → xm_M → Prop} {μ : xm_M} {B : Nat} (v4 : Int32) (v5 : Int32) (hB : xs_bk B)
    (h : (((μ.1 B 6) ≤ v5 →
       Q (nI 0) μ) ∧
      (¬ (μ.1 B 6) ≤ v5 →
       (((nI 64) ≤ v5 →
        Q (nI 0) μ) ∧
       (¬ (nI 64) ≤ v5 →
        ∃ Q3 : Int32 → xm_M → Prop, xCi true true k_X0_number μ [.ref 7, .int (v4 + (nI 1))] Q3 ∧
        ∀ (r5 : Int32) (m4 : xm_M), Q3 r5 m4 →
        vp_in v5 64 ∧
        ∀ m8 : xm_M, m8 = xu_I m4 (B + 1) (upd (m4.1 (B + 1)) (v5).toNatClampNeg r5) →
        vp_in v5 64 ∧
        ((0 ≤ (m8.1 (B + 1) (v5).toNatClampNeg) →
         ∀ x11 : Int32, x11 = v5 + nI 1 →
         hd_X1_learnValues_115 Q B v4 x11 m8) ∧
        (¬ 0 ≤ (m8.1 (B + 1) (v5).toNatClampNeg) →
         Q (nI 2) m8))))))) :
    hd_X1_learnValues_115 Q B v4 v5 μ := by
  intro hR
  refine xs_iload dX1_learnValues_115 rfl ?_
  refine xs_aload_n dX1_learnValues_117 rfl ?_
  refine xs_getI dX1_learnValues_118 fl_X1_18.g rfl (sb_0 hB) ?_
  refine xs_icmp_ge 167 dX1_learnValues_121 (by decide) (fun c1 => ?_) (fun c1 => ?_)
  · replace h := h.1 c1
    refine xs_iconst (nI 0) dX1_learnValues_167 (by decide) ?_
    exact xs_ret (some (.int (nI 0))) dX1_learnValues_168 rfl rfl ⟨hR, _, rfl, h⟩
  · replace h := h.2 c1
    refine xs_iload dX1_learnValues_124 rfl ?_
    refine xs_aload_n dX1_learnValues_126 rfl ?_
    refine xs_getR dX1_learnValues_127 fl_X1_21 rfl (sb_0 hB) (rb_7 hB hR) ?_
    refine xs_alen 0 dX1_learnValues_130 (sb_1 hB) (fun _ => rfl) ?_
    refine xs_icmp_ge 167 dX1_learnValues_131 (by decide) (fun c2 => ?_) (fun c2 => ?_)
    · replace h := h.1 c2
      refine xs_iconst (nI 0) dX1_learnValues_167 (by decide) ?_
      exact xs_ret (some (.int (nI 0))) dX1_learnValues_168 rfl rfl ⟨hR, _, rfl, h⟩
    · replace h := h.2 c2
      refine xs_aload_n dX1_learnValues_134 rfl ?_
      refine xs_getR dX1_learnValues_135 fl_X1_21 rfl (sb_0 hB) (rb_7 hB hR) ?_
      refine xs_iload dX1_learnValues_138 rfl ?_
      refine xs_aload_n dX1_learnValues_140 rfl ?_
      refine xs_iload dX1_learnValues_141 rfl ?_
      refine xs_iconst (nI 1) dX1_learnValues_143 (by decide) ?_
      refine xs_iadd dX1_learnValues_144 ?_
      obtain ⟨Q3, hQ3, h⟩ := h
      refine xs_callV (j := k_X0_number) (As := [.int (v4 + (nI 1))]) (S := [.int v5, .ref (B + 1)]) dX1_learnValues_145 (hQ3 hR) ⟨ml_X1_34, mk_X0_number.1, mk_X0_number.2.1, mk_X0_number.2.2⟩ mv_X0_number ⟨Nat.le_of_ble_eq_true rfl, Nat.le_of_ble_eq_true rfl⟩ rfl (Nat.le_of_ble_eq_true rfl) sc_7 rfl ⟨rfl, rfl⟩ (fun rr m4 hq6 => ?_)
      obtain ⟨hR, r5, rfl, hq6⟩ := hq6
      replace h := h r5 m4 hq6
      obtain ⟨s7, h⟩ := h
      refine xs_iast dX1_learnValues_148 (sb_1 hB) s7 ?_
      refine xs_nmM (fun m8 e_m8 => ?_)
      replace h := h m8 e_m8
      have hR : xs_RT true m8 := by rw [e_m8]; exact hR
      refine xs_aload_n dX1_learnValues_149 rfl ?_
      refine xs_getR dX1_learnValues_150 fl_X1_21 rfl (sb_0 hB) (rb_7 hB hR) ?_
      refine xs_iload dX1_learnValues_153 rfl ?_
      obtain ⟨s9, h⟩ := h
      refine xs_iald dX1_learnValues_155 (sb_1 hB) s9 ?_
      refine xs_if_ge 161 dX1_learnValues_156 (by decide) (fun c10 => ?_) (fun c10 => ?_)
      · replace h := h.1 c10
        obtain ⟨x11, e_x11⟩ : ∃ z : Int32, z = v5 + nI 1 := ⟨_, rfl⟩
        replace h := h x11 e_x11
        refine xs_iinc x11 [some (.ref B), some (.ref 7), none, none, some (.int v4), some (.int x11)] dX1_learnValues_161 (by decide) rfl (by rw [e_x11]; rfl) rfl ?_
        refine xs_goto 115 dX1_learnValues_164 (by decide) ?_
        exact xs_loc [some (.ref B), some (.ref 7), none, none, some (.int v4), some (.int x11)] ⟨rfl, ⟨rfl, ⟨rfl, ⟨rfl, trivial⟩⟩⟩⟩ (h hR)
      · replace h := h.2 c10
        refine xs_iconst (nI 2) dX1_learnValues_159 (by decide) ?_
        exact xs_ret (some (.int (nI 2))) dX1_learnValues_160 rfl rfl ⟨hR, _, rfl, h⟩
set_option maxHeartbeats 4000000 in
set_option maxRecDepth 100000 in
theorem g_X1_learnValues {Q : Int32 → xm_M → Prop} {μ : xm_M} {B : Nat} (hB : xs_bk B)
    (h : ∃ Q1 : Int32 → xm_M → Prop, xCi true true k_X0_number μ [.ref 7, .int (nI 1)] Q1 ∧
      ∀ (r3 : Int32) (m2 : xm_M), Q1 r3 m2 →
      ((0 ≤ r3 →
       ((¬ r3 = (nI 1) →
        ∀ m7 : xm_M, m7 = xu_I m2 B (upd (m2.1 B) 1 (nI 0)) →
        ((¬ (m7.1 B 1) = 0 →
         ∃ Q9 : Int32 → xm_M → Prop, xCi true true k_X0_number m7 [.ref 7, .int (nI 8)] Q9 ∧
         ∀ (r11 : Int32) (m10 : xm_M), Q9 r11 m10 →
         ∃ Q13 : Int32 → xm_M → Prop, xCi true true k_X0_number m10 [.ref 7, .int (nI 8)] Q13 ∧
         ∀ (r15 : Int32) (m14 : xm_M), Q13 r15 m14 →
         ∀ m17 : xm_M, m17 = xu_I m14 B (upd (m14.1 B) 4 r15) →
         ∃ Q18 : Int32 → xm_M → Prop, xCi true true k_X0_number m17 [.ref 7, .int (nI 1)] Q18 ∧
         ∀ (r20 : Int32) (m19 : xm_M), Q18 r20 m19 →
         ((¬ r20 = (nI 1) →
          ∀ m23 : xm_M, m23 = xu_I m19 B (upd (m19.1 B) 5 (nI 0)) →
          ∃ Q24 : Int32 → xm_M → Prop, xCi true true k_X0_number m23 [.ref 7, .int (nI 3)] Q24 ∧
          ∀ (r26 : Int32) (m25 : xm_M), Q24 r26 m25 →
          ((0 ≤ r26 →
           (((nI 128) ≤ r11 →
            ∀ m30 : xm_M, m30 = xu_I m25 B (upd (m25.1 B) 3 (r11 - (nI 256))) →
            ∃ Q31 : Int32 → xm_M → Prop, xCi true true k_X1_greatestRoot m30 [.ref B] Q31 ∧
            ∀ (r33 : Int32) (m32 : xm_M), Q31 r33 m32 →
            ∀ m35 : xm_M, m35 = xu_I m32 B (upd (m32.1 B) 6 r33) →
            hd_X1_learnValues_115 Q B r26 (nI 0) m35) ∧
           (¬ (nI 128) ≤ r11 →
            ∀ m36 : xm_M, m36 = xu_I m25 B (upd (m25.1 B) 3 r11) →
            ∃ Q37 : Int32 → xm_M → Prop, xCi true true k_X1_greatestRoot m36 [.ref B] Q37 ∧
            ∀ (r39 : Int32) (m38 : xm_M), Q37 r39 m38 →
            ∀ m41 : xm_M, m41 = xu_I m38 B (upd (m38.1 B) 6 r39) →
            hd_X1_learnValues_115 Q B r26 (nI 0) m41))) ∧
          (¬ 0 ≤ r26 →
           Q (nI 2) m25))) ∧
         (r20 = (nI 1) →
          ∀ m42 : xm_M, m42 = xu_I m19 B (upd (m19.1 B) 5 (nI 1)) →
          ∃ Q43 : Int32 → xm_M → Prop, xCi true true k_X0_number m42 [.ref 7, .int (nI 3)] Q43 ∧
          ∀ (r45 : Int32) (m44 : xm_M), Q43 r45 m44 →
          ((0 ≤ r45 →
           (((nI 128) ≤ r11 →
            ∀ m49 : xm_M, m49 = xu_I m44 B (upd (m44.1 B) 3 (r11 - (nI 256))) →
            ∃ Q50 : Int32 → xm_M → Prop, xCi true true k_X1_greatestRoot m49 [.ref B] Q50 ∧
            ∀ (r52 : Int32) (m51 : xm_M), Q50 r52 m51 →
            ∀ m54 : xm_M, m54 = xu_I m51 B (upd (m51.1 B) 6 r52) →
            hd_X1_learnValues_115 Q B r45 (nI 0) m54) ∧
           (¬ (nI 128) ≤ r11 →
            ∀ m55 : xm_M, m55 = xu_I m44 B (upd (m44.1 B) 3 r11) →
            ∃ Q56 : Int32 → xm_M → Prop, xCi true true k_X1_greatestRoot m55 [.ref B] Q56 ∧
            ∀ (r58 : Int32) (m57 : xm_M), Q56 r58 m57 →
            ∀ m60 : xm_M, m60 = xu_I m57 B (upd (m57.1 B) 6 r58) →
            hd_X1_learnValues_115 Q B r45 (nI 0) m60))) ∧
          (¬ 0 ≤ r45 →
           Q (nI 2) m44))))) ∧
        ((m7.1 B 1) = 0 →
         Q (nI 0) m7))) ∧
       (r3 = (nI 1) →
        ∀ m61 : xm_M, m61 = xu_I m2 B (upd (m2.1 B) 1 (nI 1)) →
        ((¬ (m61.1 B 1) = 0 →
         ∃ Q63 : Int32 → xm_M → Prop, xCi true true k_X0_number m61 [.ref 7, .int (nI 8)] Q63 ∧
         ∀ (r65 : Int32) (m64 : xm_M), Q63 r65 m64 →
         ∃ Q67 : Int32 → xm_M → Prop, xCi true true k_X0_number m64 [.ref 7, .int (nI 8)] Q67 ∧
         ∀ (r69 : Int32) (m68 : xm_M), Q67 r69 m68 →
         ∀ m71 : xm_M, m71 = xu_I m68 B (upd (m68.1 B) 4 r69) →
         ∃ Q72 : Int32 → xm_M → Prop, xCi true true k_X0_number m71 [.ref 7, .int (nI 1)] Q72 ∧
         ∀ (r74 : Int32) (m73 : xm_M), Q72 r74 m73 →
         ((¬ r74 = (nI 1) →
          ∀ m77 : xm_M, m77 = xu_I m73 B (upd (m73.1 B) 5 (nI 0)) →
          ∃ Q78 : Int32 → xm_M → Prop, xCi true true k_X0_number m77 [.ref 7, .int (nI 3)] Q78 ∧
          ∀ (r80 : Int32) (m79 : xm_M), Q78 r80 m79 →
          ((0 ≤ r80 →
           (((nI 128) ≤ r65 →
            ∀ m84 : xm_M, m84 = xu_I m79 B (upd (m79.1 B) 3 (r65 - (nI 256))) →
            ∃ Q85 : Int32 → xm_M → Prop, xCi true true k_X1_greatestRoot m84 [.ref B] Q85 ∧
            ∀ (r87 : Int32) (m86 : xm_M), Q85 r87 m86 →
            ∀ m89 : xm_M, m89 = xu_I m86 B (upd (m86.1 B) 6 r87) →
            hd_X1_learnValues_115 Q B r80 (nI 0) m89) ∧
           (¬ (nI 128) ≤ r65 →
            ∀ m90 : xm_M, m90 = xu_I m79 B (upd (m79.1 B) 3 r65) →
            ∃ Q91 : Int32 → xm_M → Prop, xCi true true k_X1_greatestRoot m90 [.ref B] Q91 ∧
            ∀ (r93 : Int32) (m92 : xm_M), Q91 r93 m92 →
            ∀ m95 : xm_M, m95 = xu_I m92 B (upd (m92.1 B) 6 r93) →
            hd_X1_learnValues_115 Q B r80 (nI 0) m95))) ∧
          (¬ 0 ≤ r80 →
           Q (nI 2) m79))) ∧
         (r74 = (nI 1) →
          ∀ m96 : xm_M, m96 = xu_I m73 B (upd (m73.1 B) 5 (nI 1)) →
          ∃ Q97 : Int32 → xm_M → Prop, xCi true true k_X0_number m96 [.ref 7, .int (nI 3)] Q97 ∧
          ∀ (r99 : Int32) (m98 : xm_M), Q97 r99 m98 →
          ((0 ≤ r99 →
           (((nI 128) ≤ r65 →
            ∀ m103 : xm_M, m103 = xu_I m98 B (upd (m98.1 B) 3 (r65 - (nI 256))) →
            ∃ Q104 : Int32 → xm_M → Prop, xCi true true k_X1_greatestRoot m103 [.ref B] Q104 ∧
            ∀ (r106 : Int32) (m105 : xm_M), Q104 r106 m105 →
            ∀ m108 : xm_M, m108 = xu_I m105 B (upd (m105.1 B) 6 r106) →
            hd_X1_learnValues_115 Q B r99 (nI 0) m108) ∧
           (¬ (nI 128) ≤ r65 →
            ∀ m109 : xm_M, m109 = xu_I m98 B (upd (m98.1 B) 3 r65) →
            ∃ Q110 : Int32 → xm_M → Prop, xCi true true k_X1_greatestRoot m109 [.ref B] Q110 ∧
            ∀ (r112 : Int32) (m111 : xm_M), Q110 r112 m111 →
            ∀ m114 : xm_M, m114 = xu_I m111 B (upd (m111.1 B) 6 r112) →
            hd_X1_learnValues_115 Q B r99 (nI 0) m114))) ∧
          (¬ 0 ≤ r99 →
           Q (nI 2) m98))))) ∧
        ((m61.1 B 1) = 0 →
         Q (nI 0) m61))))) ∧
      (¬ 0 ≤ r3 →
       Q (nI 2) m2))) :
    xCi true true k_X1_learnValues μ [.ref B, .ref 7] Q := by
  intro hR
  refine xm_met [some (.ref B), some (.ref 7), none, none, none, none] 4 (by decide) (by simp [lg_sl, Value.category]) rfl ?_
  refine xs_aload_n dX1_learnValues_0 rfl ?_
  refine xs_iconst (nI 1) dX1_learnValues_1 (by decide) ?_
  obtain ⟨Q1, hQ1, h⟩ := h
  refine xs_callV (j := k_X0_number) (As := [.int (nI 1)]) (S := []) dX1_learnValues_2 (hQ1 hR) ⟨ml_X1_34, mk_X0_number.1, mk_X0_number.2.1, mk_X0_number.2.2⟩ mv_X0_number ⟨Nat.le_of_ble_eq_true rfl, Nat.le_of_ble_eq_true rfl⟩ rfl (Nat.le_of_ble_eq_true rfl) sc_7 rfl ⟨rfl, rfl⟩ (fun rr m2 hq4 => ?_)
  obtain ⟨hR, r3, rfl, hq4⟩ := hq4
  replace h := h r3 m2 hq4
  refine xs_istore_n [some (.ref B), some (.ref 7), some (.int r3), none, none, none] dX1_learnValues_5 (by decide) rfl ?_
  refine xs_iload_n dX1_learnValues_6 rfl ?_
  refine xs_if_ge 12 dX1_learnValues_7 (by decide) (fun c5 => ?_) (fun c5 => ?_)
  · replace h := h.1 c5
    refine xs_aload_n dX1_learnValues_12 rfl ?_
    refine xs_iload_n dX1_learnValues_13 rfl ?_
    refine xs_iconst (nI 1) dX1_learnValues_14 (by decide) ?_
    refine xs_icmp_ne 22 dX1_learnValues_15 (by decide) (fun c6 => ?_) (fun c6 => ?_)
    · replace h := h.1 c6
      refine xs_iconst (nI 0) dX1_learnValues_22 (by decide) ?_
      refine xs_putI dX1_learnValues_23 fl_X1_50 rfl rfl rfl (sb_0 hB) ?_
      refine xs_nmM (fun m7 e_m7 => ?_)
      replace h := h m7 e_m7
      have hR : xs_RT true m7 := by rw [e_m7]; exact hR
      refine xs_aload_n dX1_learnValues_26 rfl ?_
      refine xs_getI dX1_learnValues_27 fl_X1_50.g rfl (sb_0 hB) ?_
      refine xs_if_ne 35 dX1_learnValues_30 (by decide) (fun c8 => ?_) (fun c8 => ?_)
      · replace h := h.1 c8
        refine xs_aload_n dX1_learnValues_35 rfl ?_
        refine xs_bipush (nI 8) dX1_learnValues_36 (by decide) ?_
        obtain ⟨Q9, hQ9, h⟩ := h
        refine xs_callV (j := k_X0_number) (As := [.int (nI 8)]) (S := []) dX1_learnValues_38 (hQ9 hR) ⟨ml_X1_34, mk_X0_number.1, mk_X0_number.2.1, mk_X0_number.2.2⟩ mv_X0_number ⟨Nat.le_of_ble_eq_true rfl, Nat.le_of_ble_eq_true rfl⟩ rfl (Nat.le_of_ble_eq_true rfl) sc_7 rfl ⟨rfl, rfl⟩ (fun rr m10 hq12 => ?_)
        obtain ⟨hR, r11, rfl, hq12⟩ := hq12
        replace h := h r11 m10 hq12
        refine xs_istore_n [some (.ref B), some (.ref 7), some (.int r3), some (.int r11), none, none] dX1_learnValues_41 (by decide) rfl ?_
        refine xs_aload_n dX1_learnValues_42 rfl ?_
        refine xs_aload_n dX1_learnValues_43 rfl ?_
        refine xs_bipush (nI 8) dX1_learnValues_44 (by decide) ?_
        obtain ⟨Q13, hQ13, h⟩ := h
        refine xs_callV (j := k_X0_number) (As := [.int (nI 8)]) (S := [.ref B]) dX1_learnValues_46 (hQ13 hR) ⟨ml_X1_34, mk_X0_number.1, mk_X0_number.2.1, mk_X0_number.2.2⟩ mv_X0_number ⟨Nat.le_of_ble_eq_true rfl, Nat.le_of_ble_eq_true rfl⟩ rfl (Nat.le_of_ble_eq_true rfl) sc_7 rfl ⟨rfl, rfl⟩ (fun rr m14 hq16 => ?_)
        obtain ⟨hR, r15, rfl, hq16⟩ := hq16
        replace h := h r15 m14 hq16
        refine xs_putI dX1_learnValues_49 fl_X1_54 rfl rfl rfl (sb_0 hB) ?_
        refine xs_nmM (fun m17 e_m17 => ?_)
        replace h := h m17 e_m17
        have hR : xs_RT true m17 := by rw [e_m17]; exact hR
        refine xs_aload_n dX1_learnValues_52 rfl ?_
        refine xs_aload_n dX1_learnValues_53 rfl ?_
        refine xs_iconst (nI 1) dX1_learnValues_54 (by decide) ?_
        obtain ⟨Q18, hQ18, h⟩ := h
        refine xs_callV (j := k_X0_number) (As := [.int (nI 1)]) (S := [.ref B]) dX1_learnValues_55 (hQ18 hR) ⟨ml_X1_34, mk_X0_number.1, mk_X0_number.2.1, mk_X0_number.2.2⟩ mv_X0_number ⟨Nat.le_of_ble_eq_true rfl, Nat.le_of_ble_eq_true rfl⟩ rfl (Nat.le_of_ble_eq_true rfl) sc_7 rfl ⟨rfl, rfl⟩ (fun rr m19 hq21 => ?_)
        obtain ⟨hR, r20, rfl, hq21⟩ := hq21
        replace h := h r20 m19 hq21
        refine xs_iconst (nI 1) dX1_learnValues_58 (by decide) ?_
        refine xs_icmp_ne 66 dX1_learnValues_59 (by decide) (fun c22 => ?_) (fun c22 => ?_)
        · replace h := h.1 c22
          refine xs_iconst (nI 0) dX1_learnValues_66 (by decide) ?_
          refine xs_putI dX1_learnValues_67 fl_X1_57 rfl rfl rfl (sb_0 hB) ?_
          refine xs_nmM (fun m23 e_m23 => ?_)
          replace h := h m23 e_m23
          have hR : xs_RT true m23 := by rw [e_m23]; exact hR
          refine xs_aload_n dX1_learnValues_70 rfl ?_
          refine xs_iconst (nI 3) dX1_learnValues_71 (by decide) ?_
          obtain ⟨Q24, hQ24, h⟩ := h
          refine xs_callV (j := k_X0_number) (As := [.int (nI 3)]) (S := []) dX1_learnValues_72 (hQ24 hR) ⟨ml_X1_34, mk_X0_number.1, mk_X0_number.2.1, mk_X0_number.2.2⟩ mv_X0_number ⟨Nat.le_of_ble_eq_true rfl, Nat.le_of_ble_eq_true rfl⟩ rfl (Nat.le_of_ble_eq_true rfl) sc_7 rfl ⟨rfl, rfl⟩ (fun rr m25 hq27 => ?_)
          obtain ⟨hR, r26, rfl, hq27⟩ := hq27
          replace h := h r26 m25 hq27
          refine xs_istore [some (.ref B), some (.ref 7), some (.int r3), some (.int r11), some (.int r26), none] dX1_learnValues_75 (by decide) rfl ?_
          refine xs_iload dX1_learnValues_77 rfl ?_
          refine xs_if_ge 84 dX1_learnValues_79 (by decide) (fun c28 => ?_) (fun c28 => ?_)
          · replace h := h.1 c28
            refine xs_aload_n dX1_learnValues_84 rfl ?_
            refine xs_iload_n dX1_learnValues_85 rfl ?_
            refine xs_sipush (nI 128) dX1_learnValues_86 (by decide) ?_
            refine xs_icmp_ge 96 dX1_learnValues_89 (by decide) (fun c29 => ?_) (fun c29 => ?_)
            · replace h := h.1 c29
              refine xs_iload_n dX1_learnValues_96 rfl ?_
              refine xs_sipush (nI 256) dX1_learnValues_97 (by decide) ?_
              refine xs_isub dX1_learnValues_100 ?_
              refine xs_putI dX1_learnValues_101 fl_X1_60 rfl rfl rfl (sb_0 hB) ?_
              refine xs_nmM (fun m30 e_m30 => ?_)
              replace h := h m30 e_m30
              have hR : xs_RT true m30 := by rw [e_m30]; exact hR
              refine xs_aload_n dX1_learnValues_104 rfl ?_
              refine xs_aload_n dX1_learnValues_105 rfl ?_
              obtain ⟨Q31, hQ31, h⟩ := h
              refine xs_callV (j := k_X1_greatestRoot) (As := []) (S := [.ref B]) dX1_learnValues_106 (hQ31 hR) ⟨ml_X1_63, mk_X1_greatestRoot.1, mk_X1_greatestRoot.2.1, mk_X1_greatestRoot.2.2⟩ mv_X1_greatestRoot ⟨Nat.le_of_ble_eq_true rfl, Nat.le_of_ble_eq_true rfl⟩ rfl (Nat.le_of_ble_eq_true rfl) (sb_0 hB) rfl ⟨rfl, rfl⟩ (fun rr m32 hq34 => ?_)
              obtain ⟨hR, r33, rfl, hq34⟩ := hq34
              replace h := h r33 m32 hq34
              refine xs_putI dX1_learnValues_109 fl_X1_18 rfl rfl rfl (sb_0 hB) ?_
              refine xs_nmM (fun m35 e_m35 => ?_)
              replace h := h m35 e_m35
              have hR : xs_RT true m35 := by rw [e_m35]; exact hR
              refine xs_iconst (nI 0) dX1_learnValues_112 (by decide) ?_
              refine xs_istore [some (.ref B), some (.ref 7), some (.int r3), some (.int r11), some (.int r26), some (.int (nI 0))] dX1_learnValues_113 (by decide) rfl ?_
              exact xs_loc [some (.ref B), some (.ref 7), none, none, some (.int r26), some (.int (nI 0))] ⟨rfl, ⟨rfl, ⟨rfl, ⟨rfl, trivial⟩⟩⟩⟩ (h hR)
            · replace h := h.2 c29
              refine xs_iload_n dX1_learnValues_92 rfl ?_
              refine xs_goto 101 dX1_learnValues_93 (by decide) ?_
              refine xs_putI dX1_learnValues_101 fl_X1_60 rfl rfl rfl (sb_0 hB) ?_
              refine xs_nmM (fun m36 e_m36 => ?_)
              replace h := h m36 e_m36
              have hR : xs_RT true m36 := by rw [e_m36]; exact hR
              refine xs_aload_n dX1_learnValues_104 rfl ?_
              refine xs_aload_n dX1_learnValues_105 rfl ?_
              obtain ⟨Q37, hQ37, h⟩ := h
              refine xs_callV (j := k_X1_greatestRoot) (As := []) (S := [.ref B]) dX1_learnValues_106 (hQ37 hR) ⟨ml_X1_63, mk_X1_greatestRoot.1, mk_X1_greatestRoot.2.1, mk_X1_greatestRoot.2.2⟩ mv_X1_greatestRoot ⟨Nat.le_of_ble_eq_true rfl, Nat.le_of_ble_eq_true rfl⟩ rfl (Nat.le_of_ble_eq_true rfl) (sb_0 hB) rfl ⟨rfl, rfl⟩ (fun rr m38 hq40 => ?_)
              obtain ⟨hR, r39, rfl, hq40⟩ := hq40
              replace h := h r39 m38 hq40
              refine xs_putI dX1_learnValues_109 fl_X1_18 rfl rfl rfl (sb_0 hB) ?_
              refine xs_nmM (fun m41 e_m41 => ?_)
              replace h := h m41 e_m41
              have hR : xs_RT true m41 := by rw [e_m41]; exact hR
              refine xs_iconst (nI 0) dX1_learnValues_112 (by decide) ?_
              refine xs_istore [some (.ref B), some (.ref 7), some (.int r3), some (.int r11), some (.int r26), some (.int (nI 0))] dX1_learnValues_113 (by decide) rfl ?_
              exact xs_loc [some (.ref B), some (.ref 7), none, none, some (.int r26), some (.int (nI 0))] ⟨rfl, ⟨rfl, ⟨rfl, ⟨rfl, trivial⟩⟩⟩⟩ (h hR)
          · replace h := h.2 c28
            refine xs_iconst (nI 2) dX1_learnValues_82 (by decide) ?_
            exact xs_ret (some (.int (nI 2))) dX1_learnValues_83 rfl rfl ⟨hR, _, rfl, h⟩
        · replace h := h.2 c22
          refine xs_iconst (nI 1) dX1_learnValues_62 (by decide) ?_
          refine xs_goto 67 dX1_learnValues_63 (by decide) ?_
          refine xs_putI dX1_learnValues_67 fl_X1_57 rfl rfl rfl (sb_0 hB) ?_
          refine xs_nmM (fun m42 e_m42 => ?_)
          replace h := h m42 e_m42
          have hR : xs_RT true m42 := by rw [e_m42]; exact hR
          refine xs_aload_n dX1_learnValues_70 rfl ?_
          refine xs_iconst (nI 3) dX1_learnValues_71 (by decide) ?_
          obtain ⟨Q43, hQ43, h⟩ := h
          refine xs_callV (j := k_X0_number) (As := [.int (nI 3)]) (S := []) dX1_learnValues_72 (hQ43 hR) ⟨ml_X1_34, mk_X0_number.1, mk_X0_number.2.1, mk_X0_number.2.2⟩ mv_X0_number ⟨Nat.le_of_ble_eq_true rfl, Nat.le_of_ble_eq_true rfl⟩ rfl (Nat.le_of_ble_eq_true rfl) sc_7 rfl ⟨rfl, rfl⟩ (fun rr m44 hq46 => ?_)
          obtain ⟨hR, r45, rfl, hq46⟩ := hq46
          replace h := h r45 m44 hq46
          refine xs_istore [some (.ref B), some (.ref 7), some (.int r3), some (.int r11), some (.int r45), none] dX1_learnValues_75 (by decide) rfl ?_
          refine xs_iload dX1_learnValues_77 rfl ?_
          refine xs_if_ge 84 dX1_learnValues_79 (by decide) (fun c47 => ?_) (fun c47 => ?_)
          · replace h := h.1 c47
            refine xs_aload_n dX1_learnValues_84 rfl ?_
            refine xs_iload_n dX1_learnValues_85 rfl ?_
            refine xs_sipush (nI 128) dX1_learnValues_86 (by decide) ?_
            refine xs_icmp_ge 96 dX1_learnValues_89 (by decide) (fun c48 => ?_) (fun c48 => ?_)
            · replace h := h.1 c48
              refine xs_iload_n dX1_learnValues_96 rfl ?_
              refine xs_sipush (nI 256) dX1_learnValues_97 (by decide) ?_
              refine xs_isub dX1_learnValues_100 ?_
              refine xs_putI dX1_learnValues_101 fl_X1_60 rfl rfl rfl (sb_0 hB) ?_
              refine xs_nmM (fun m49 e_m49 => ?_)
              replace h := h m49 e_m49
              have hR : xs_RT true m49 := by rw [e_m49]; exact hR
              refine xs_aload_n dX1_learnValues_104 rfl ?_
              refine xs_aload_n dX1_learnValues_105 rfl ?_
              obtain ⟨Q50, hQ50, h⟩ := h
              refine xs_callV (j := k_X1_greatestRoot) (As := []) (S := [.ref B]) dX1_learnValues_106 (hQ50 hR) ⟨ml_X1_63, mk_X1_greatestRoot.1, mk_X1_greatestRoot.2.1, mk_X1_greatestRoot.2.2⟩ mv_X1_greatestRoot ⟨Nat.le_of_ble_eq_true rfl, Nat.le_of_ble_eq_true rfl⟩ rfl (Nat.le_of_ble_eq_true rfl) (sb_0 hB) rfl ⟨rfl, rfl⟩ (fun rr m51 hq53 => ?_)
              obtain ⟨hR, r52, rfl, hq53⟩ := hq53
              replace h := h r52 m51 hq53
              refine xs_putI dX1_learnValues_109 fl_X1_18 rfl rfl rfl (sb_0 hB) ?_
              refine xs_nmM (fun m54 e_m54 => ?_)
              replace h := h m54 e_m54
              have hR : xs_RT true m54 := by rw [e_m54]; exact hR
              refine xs_iconst (nI 0) dX1_learnValues_112 (by decide) ?_
              refine xs_istore [some (.ref B), some (.ref 7), some (.int r3), some (.int r11), some (.int r45), some (.int (nI 0))] dX1_learnValues_113 (by decide) rfl ?_
              exact xs_loc [some (.ref B), some (.ref 7), none, none, some (.int r45), some (.int (nI 0))] ⟨rfl, ⟨rfl, ⟨rfl, ⟨rfl, trivial⟩⟩⟩⟩ (h hR)
            · replace h := h.2 c48
              refine xs_iload_n dX1_learnValues_92 rfl ?_
              refine xs_goto 101 dX1_learnValues_93 (by decide) ?_
              refine xs_putI dX1_learnValues_101 fl_X1_60 rfl rfl rfl (sb_0 hB) ?_
              refine xs_nmM (fun m55 e_m55 => ?_)
              replace h := h m55 e_m55
              have hR : xs_RT true m55 := by rw [e_m55]; exact hR
              refine xs_aload_n dX1_learnValues_104 rfl ?_
              refine xs_aload_n dX1_learnValues_105 rfl ?_
              obtain ⟨Q56, hQ56, h⟩ := h
              refine xs_callV (j := k_X1_greatestRoot) (As := []) (S := [.ref B]) dX1_learnValues_106 (hQ56 hR) ⟨ml_X1_63, mk_X1_greatestRoot.1, mk_X1_greatestRoot.2.1, mk_X1_greatestRoot.2.2⟩ mv_X1_greatestRoot ⟨Nat.le_of_ble_eq_true rfl, Nat.le_of_ble_eq_true rfl⟩ rfl (Nat.le_of_ble_eq_true rfl) (sb_0 hB) rfl ⟨rfl, rfl⟩ (fun rr m57 hq59 => ?_)
              obtain ⟨hR, r58, rfl, hq59⟩ := hq59
              replace h := h r58 m57 hq59
              refine xs_putI dX1_learnValues_109 fl_X1_18 rfl rfl rfl (sb_0 hB) ?_
              refine xs_nmM (fun m60 e_m60 => ?_)
              replace h := h m60 e_m60
              have hR : xs_RT true m60 := by rw [e_m60]; exact hR
              refine xs_iconst (nI 0) dX1_learnValues_112 (by decide) ?_
              refine xs_istore [some (.ref B), some (.ref 7), some (.int r3), some (.int r11), some (.int r45), some (.int (nI 0))] dX1_learnValues_113 (by decide) rfl ?_
              exact xs_loc [some (.ref B), some (.ref 7), none, none, some (.int r45), some (.int (nI 0))] ⟨rfl, ⟨rfl, ⟨rfl, ⟨rfl, trivial⟩⟩⟩⟩ (h hR)
          · replace h := h.2 c47
            refine xs_iconst (nI 2) dX1_learnValues_82 (by decide) ?_
            exact xs_ret (some (.int (nI 2))) dX1_learnValues_83 rfl rfl ⟨hR, _, rfl, h⟩
      · replace h := h.2 c8
        refine xs_iconst (nI 0) dX1_learnValues_33 (by decide) ?_
        exact xs_ret (some (.int (nI 0))) dX1_learnValues_34 rfl rfl ⟨hR, _, rfl, h⟩
    · replace h := h.2 c6
      refine xs_iconst (nI 1) dX1_learnValues_18 (by decide) ?_
      refine xs_goto 23 dX1_learnValues_19 (by decide) ?_
      refine xs_putI dX1_learnValues_23 fl_X1_50 rfl rfl rfl (sb_0 hB) ?_
      refine xs_nmM (fun m61 e_m61 => ?_)
      replace h := h m61 e_m61
      have hR : xs_RT true m61 := by rw [e_m61]; exact hR
      refine xs_aload_n dX1_learnValues_26 rfl ?_
      refine xs_getI dX1_learnValues_27 fl_X1_50.g rfl (sb_0 hB) ?_
      refine xs_if_ne 35 dX1_learnValues_30 (by decide) (fun c62 => ?_) (fun c62 => ?_)
      · replace h := h.1 c62
        refine xs_aload_n dX1_learnValues_35 rfl ?_
        refine xs_bipush (nI 8) dX1_learnValues_36 (by decide) ?_
        obtain ⟨Q63, hQ63, h⟩ := h
        refine xs_callV (j := k_X0_number) (As := [.int (nI 8)]) (S := []) dX1_learnValues_38 (hQ63 hR) ⟨ml_X1_34, mk_X0_number.1, mk_X0_number.2.1, mk_X0_number.2.2⟩ mv_X0_number ⟨Nat.le_of_ble_eq_true rfl, Nat.le_of_ble_eq_true rfl⟩ rfl (Nat.le_of_ble_eq_true rfl) sc_7 rfl ⟨rfl, rfl⟩ (fun rr m64 hq66 => ?_)
        obtain ⟨hR, r65, rfl, hq66⟩ := hq66
        replace h := h r65 m64 hq66
        refine xs_istore_n [some (.ref B), some (.ref 7), some (.int r3), some (.int r65), none, none] dX1_learnValues_41 (by decide) rfl ?_
        refine xs_aload_n dX1_learnValues_42 rfl ?_
        refine xs_aload_n dX1_learnValues_43 rfl ?_
        refine xs_bipush (nI 8) dX1_learnValues_44 (by decide) ?_
        obtain ⟨Q67, hQ67, h⟩ := h
        refine xs_callV (j := k_X0_number) (As := [.int (nI 8)]) (S := [.ref B]) dX1_learnValues_46 (hQ67 hR) ⟨ml_X1_34, mk_X0_number.1, mk_X0_number.2.1, mk_X0_number.2.2⟩ mv_X0_number ⟨Nat.le_of_ble_eq_true rfl, Nat.le_of_ble_eq_true rfl⟩ rfl (Nat.le_of_ble_eq_true rfl) sc_7 rfl ⟨rfl, rfl⟩ (fun rr m68 hq70 => ?_)
        obtain ⟨hR, r69, rfl, hq70⟩ := hq70
        replace h := h r69 m68 hq70
        refine xs_putI dX1_learnValues_49 fl_X1_54 rfl rfl rfl (sb_0 hB) ?_
        refine xs_nmM (fun m71 e_m71 => ?_)
        replace h := h m71 e_m71
        have hR : xs_RT true m71 := by rw [e_m71]; exact hR
        refine xs_aload_n dX1_learnValues_52 rfl ?_
        refine xs_aload_n dX1_learnValues_53 rfl ?_
        refine xs_iconst (nI 1) dX1_learnValues_54 (by decide) ?_
        obtain ⟨Q72, hQ72, h⟩ := h
        refine xs_callV (j := k_X0_number) (As := [.int (nI 1)]) (S := [.ref B]) dX1_learnValues_55 (hQ72 hR) ⟨ml_X1_34, mk_X0_number.1, mk_X0_number.2.1, mk_X0_number.2.2⟩ mv_X0_number ⟨Nat.le_of_ble_eq_true rfl, Nat.le_of_ble_eq_true rfl⟩ rfl (Nat.le_of_ble_eq_true rfl) sc_7 rfl ⟨rfl, rfl⟩ (fun rr m73 hq75 => ?_)
        obtain ⟨hR, r74, rfl, hq75⟩ := hq75
        replace h := h r74 m73 hq75
        refine xs_iconst (nI 1) dX1_learnValues_58 (by decide) ?_
        refine xs_icmp_ne 66 dX1_learnValues_59 (by decide) (fun c76 => ?_) (fun c76 => ?_)
        · replace h := h.1 c76
          refine xs_iconst (nI 0) dX1_learnValues_66 (by decide) ?_
          refine xs_putI dX1_learnValues_67 fl_X1_57 rfl rfl rfl (sb_0 hB) ?_
          refine xs_nmM (fun m77 e_m77 => ?_)
          replace h := h m77 e_m77
          have hR : xs_RT true m77 := by rw [e_m77]; exact hR
          refine xs_aload_n dX1_learnValues_70 rfl ?_
          refine xs_iconst (nI 3) dX1_learnValues_71 (by decide) ?_
          obtain ⟨Q78, hQ78, h⟩ := h
          refine xs_callV (j := k_X0_number) (As := [.int (nI 3)]) (S := []) dX1_learnValues_72 (hQ78 hR) ⟨ml_X1_34, mk_X0_number.1, mk_X0_number.2.1, mk_X0_number.2.2⟩ mv_X0_number ⟨Nat.le_of_ble_eq_true rfl, Nat.le_of_ble_eq_true rfl⟩ rfl (Nat.le_of_ble_eq_true rfl) sc_7 rfl ⟨rfl, rfl⟩ (fun rr m79 hq81 => ?_)
          obtain ⟨hR, r80, rfl, hq81⟩ := hq81
          replace h := h r80 m79 hq81
          refine xs_istore [some (.ref B), some (.ref 7), some (.int r3), some (.int r65), some (.int r80), none] dX1_learnValues_75 (by decide) rfl ?_
          refine xs_iload dX1_learnValues_77 rfl ?_
          refine xs_if_ge 84 dX1_learnValues_79 (by decide) (fun c82 => ?_) (fun c82 => ?_)
          · replace h := h.1 c82
            refine xs_aload_n dX1_learnValues_84 rfl ?_
            refine xs_iload_n dX1_learnValues_85 rfl ?_
            refine xs_sipush (nI 128) dX1_learnValues_86 (by decide) ?_
            refine xs_icmp_ge 96 dX1_learnValues_89 (by decide) (fun c83 => ?_) (fun c83 => ?_)
            · replace h := h.1 c83
              refine xs_iload_n dX1_learnValues_96 rfl ?_
              refine xs_sipush (nI 256) dX1_learnValues_97 (by decide) ?_
              refine xs_isub dX1_learnValues_100 ?_
              refine xs_putI dX1_learnValues_101 fl_X1_60 rfl rfl rfl (sb_0 hB) ?_
              refine xs_nmM (fun m84 e_m84 => ?_)
              replace h := h m84 e_m84
              have hR : xs_RT true m84 := by rw [e_m84]; exact hR
              refine xs_aload_n dX1_learnValues_104 rfl ?_
              refine xs_aload_n dX1_learnValues_105 rfl ?_
              obtain ⟨Q85, hQ85, h⟩ := h
              refine xs_callV (j := k_X1_greatestRoot) (As := []) (S := [.ref B]) dX1_learnValues_106 (hQ85 hR) ⟨ml_X1_63, mk_X1_greatestRoot.1, mk_X1_greatestRoot.2.1, mk_X1_greatestRoot.2.2⟩ mv_X1_greatestRoot ⟨Nat.le_of_ble_eq_true rfl, Nat.le_of_ble_eq_true rfl⟩ rfl (Nat.le_of_ble_eq_true rfl) (sb_0 hB) rfl ⟨rfl, rfl⟩ (fun rr m86 hq88 => ?_)
              obtain ⟨hR, r87, rfl, hq88⟩ := hq88
              replace h := h r87 m86 hq88
              refine xs_putI dX1_learnValues_109 fl_X1_18 rfl rfl rfl (sb_0 hB) ?_
              refine xs_nmM (fun m89 e_m89 => ?_)
              replace h := h m89 e_m89
              have hR : xs_RT true m89 := by rw [e_m89]; exact hR
              refine xs_iconst (nI 0) dX1_learnValues_112 (by decide) ?_
              refine xs_istore [some (.ref B), some (.ref 7), some (.int r3), some (.int r65), some (.int r80), some (.int (nI 0))] dX1_learnValues_113 (by decide) rfl ?_
              exact xs_loc [some (.ref B), some (.ref 7), none, none, some (.int r80), some (.int (nI 0))] ⟨rfl, ⟨rfl, ⟨rfl, ⟨rfl, trivial⟩⟩⟩⟩ (h hR)
            · replace h := h.2 c83
              refine xs_iload_n dX1_learnValues_92 rfl ?_
              refine xs_goto 101 dX1_learnValues_93 (by decide) ?_
              refine xs_putI dX1_learnValues_101 fl_X1_60 rfl rfl rfl (sb_0 hB) ?_
              refine xs_nmM (fun m90 e_m90 => ?_)
              replace h := h m90 e_m90
              have hR : xs_RT true m90 := by rw [e_m90]; exact hR
              refine xs_aload_n dX1_learnValues_104 rfl ?_
              refine xs_aload_n dX1_learnValues_105 rfl ?_
              obtain ⟨Q91, hQ91, h⟩ := h
              refine xs_callV (j := k_X1_greatestRoot) (As := []) (S := [.ref B]) dX1_learnValues_106 (hQ91 hR) ⟨ml_X1_63, mk_X1_greatestRoot.1, mk_X1_greatestRoot.2.1, mk_X1_greatestRoot.2.2⟩ mv_X1_greatestRoot ⟨Nat.le_of_ble_eq_true rfl, Nat.le_of_ble_eq_true rfl⟩ rfl (Nat.le_of_ble_eq_true rfl) (sb_0 hB) rfl ⟨rfl, rfl⟩ (fun rr m92 hq94 => ?_)
              obtain ⟨hR, r93, rfl, hq94⟩ := hq94
              replace h := h r93 m92 hq94
              refine xs_putI dX1_learnValues_109 fl_X1_18 rfl rfl rfl (sb_0 hB) ?_
              refine xs_nmM (fun m95 e_m95 => ?_)
              replace h := h m95 e_m95
              have hR : xs_RT true m95 := by rw [e_m95]; exact hR
              refine xs_iconst (nI 0) dX1_learnValues_112 (by decide) ?_
              refine xs_istore [some (.ref B), some (.ref 7), some (.int r3), some (.int r65), some (.int r80), some (.int (nI 0))] dX1_learnValues_113 (by decide) rfl ?_
              exact xs_loc [some (.ref B), some (.ref 7), none, none, some (.int r80), some (.int (nI 0))] ⟨rfl, ⟨rfl, ⟨rfl, ⟨rfl, trivial⟩⟩⟩⟩ (h hR)
          · replace h := h.2 c82
            refine xs_iconst (nI 2) dX1_learnValues_82 (by decide) ?_
            exact xs_ret (some (.int (nI 2))) dX1_learnValues_83 rfl rfl ⟨hR, _, rfl, h⟩
        · replace h := h.2 c76
          refine xs_iconst (nI 1) dX1_learnValues_62 (by decide) ?_
          refine xs_goto 67 dX1_learnValues_63 (by decide) ?_
          refine xs_putI dX1_learnValues_67 fl_X1_57 rfl rfl rfl (sb_0 hB) ?_
          refine xs_nmM (fun m96 e_m96 => ?_)
          replace h := h m96 e_m96
          have hR : xs_RT true m96 := by rw [e_m96]; exact hR
          refine xs_aload_n dX1_learnValues_70 rfl ?_
          refine xs_iconst (nI 3) dX1_learnValues_71 (by decide) ?_
          obtain ⟨Q97, hQ97, h⟩ := h
          refine xs_callV (j := k_X0_number) (As := [.int (nI 3)]) (S := []) dX1_learnValues_72 (hQ97 hR) ⟨ml_X1_34, mk_X0_number.1, mk_X0_number.2.1, mk_X0_number.2.2⟩ mv_X0_number ⟨Nat.le_of_ble_eq_true rfl, Nat.le_of_ble_eq_true rfl⟩ rfl (Nat.le_of_ble_eq_true rfl) sc_7 rfl ⟨rfl, rfl⟩ (fun rr m98 hq100 => ?_)
          obtain ⟨hR, r99, rfl, hq100⟩ := hq100
          replace h := h r99 m98 hq100
          refine xs_istore [some (.ref B), some (.ref 7), some (.int r3), some (.int r65), some (.int r99), none] dX1_learnValues_75 (by decide) rfl ?_
          refine xs_iload dX1_learnValues_77 rfl ?_
          refine xs_if_ge 84 dX1_learnValues_79 (by decide) (fun c101 => ?_) (fun c101 => ?_)
          · replace h := h.1 c101
            refine xs_aload_n dX1_learnValues_84 rfl ?_
            refine xs_iload_n dX1_learnValues_85 rfl ?_
            refine xs_sipush (nI 128) dX1_learnValues_86 (by decide) ?_
            refine xs_icmp_ge 96 dX1_learnValues_89 (by decide) (fun c102 => ?_) (fun c102 => ?_)
            · replace h := h.1 c102
              refine xs_iload_n dX1_learnValues_96 rfl ?_
              refine xs_sipush (nI 256) dX1_learnValues_97 (by decide) ?_
              refine xs_isub dX1_learnValues_100 ?_
              refine xs_putI dX1_learnValues_101 fl_X1_60 rfl rfl rfl (sb_0 hB) ?_
              refine xs_nmM (fun m103 e_m103 => ?_)
              replace h := h m103 e_m103
              have hR : xs_RT true m103 := by rw [e_m103]; exact hR
              refine xs_aload_n dX1_learnValues_104 rfl ?_
              refine xs_aload_n dX1_learnValues_105 rfl ?_
              obtain ⟨Q104, hQ104, h⟩ := h
              refine xs_callV (j := k_X1_greatestRoot) (As := []) (S := [.ref B]) dX1_learnValues_106 (hQ104 hR) ⟨ml_X1_63, mk_X1_greatestRoot.1, mk_X1_greatestRoot.2.1, mk_X1_greatestRoot.2.2⟩ mv_X1_greatestRoot ⟨Nat.le_of_ble_eq_true rfl, Nat.le_of_ble_eq_true rfl⟩ rfl (Nat.le_of_ble_eq_true rfl) (sb_0 hB) rfl ⟨rfl, rfl⟩ (fun rr m105 hq107 => ?_)
              obtain ⟨hR, r106, rfl, hq107⟩ := hq107
              replace h := h r106 m105 hq107
              refine xs_putI dX1_learnValues_109 fl_X1_18 rfl rfl rfl (sb_0 hB) ?_
              refine xs_nmM (fun m108 e_m108 => ?_)
              replace h := h m108 e_m108
              have hR : xs_RT true m108 := by rw [e_m108]; exact hR
              refine xs_iconst (nI 0) dX1_learnValues_112 (by decide) ?_
              refine xs_istore [some (.ref B), some (.ref 7), some (.int r3), some (.int r65), some (.int r99), some (.int (nI 0))] dX1_learnValues_113 (by decide) rfl ?_
              exact xs_loc [some (.ref B), some (.ref 7), none, none, some (.int r99), some (.int (nI 0))] ⟨rfl, ⟨rfl, ⟨rfl, ⟨rfl, trivial⟩⟩⟩⟩ (h hR)
            · replace h := h.2 c102
              refine xs_iload_n dX1_learnValues_92 rfl ?_
              refine xs_goto 101 dX1_learnValues_93 (by decide) ?_
              refine xs_putI dX1_learnValues_101 fl_X1_60 rfl rfl rfl (sb_0 hB) ?_
              refine xs_nmM (fun m109 e_m109 => ?_)
              replace h := h m109 e_m109
              have hR : xs_RT true m109 := by rw [e_m109]; exact hR
              refine xs_aload_n dX1_learnValues_104 rfl ?_
              refine xs_aload_n dX1_learnValues_105 rfl ?_
              obtain ⟨Q110, hQ110, h⟩ := h
              refine xs_callV (j := k_X1_greatestRoot) (As := []) (S := [.ref B]) dX1_learnValues_106 (hQ110 hR) ⟨ml_X1_63, mk_X1_greatestRoot.1, mk_X1_greatestRoot.2.1, mk_X1_greatestRoot.2.2⟩ mv_X1_greatestRoot ⟨Nat.le_of_ble_eq_true rfl, Nat.le_of_ble_eq_true rfl⟩ rfl (Nat.le_of_ble_eq_true rfl) (sb_0 hB) rfl ⟨rfl, rfl⟩ (fun rr m111 hq113 => ?_)
              obtain ⟨hR, r112, rfl, hq113⟩ := hq113
              replace h := h r112 m111 hq113
              refine xs_putI dX1_learnValues_109 fl_X1_18 rfl rfl rfl (sb_0 hB) ?_
              refine xs_nmM (fun m114 e_m114 => ?_)
              replace h := h m114 e_m114
              have hR : xs_RT true m114 := by rw [e_m114]; exact hR
              refine xs_iconst (nI 0) dX1_learnValues_112 (by decide) ?_
              refine xs_istore [some (.ref B), some (.ref 7), some (.int r3), some (.int r65), some (.int r99), some (.int (nI 0))] dX1_learnValues_113 (by decide) rfl ?_
              exact xs_loc [some (.ref B), some (.ref 7), none, none, some (.int r99), some (.int (nI 0))] ⟨rfl, ⟨rfl, ⟨rfl, ⟨rfl, trivial⟩⟩⟩⟩ (h hR)
          · replace h := h.2 c101
            refine xs_iconst (nI 2) dX1_learnValues_82 (by decide) ?_
            exact xs_ret (some (.int (nI 2))) dX1_learnValues_83 rfl rfl ⟨hR, _, rfl, h⟩
      · replace h := h.2 c62
        refine xs_iconst (nI 0) dX1_learnValues_33 (by decide) ?_
        exact xs_ret (some (.int (nI 0))) dX1_learnValues_34 rfl rfl ⟨hR, _, rfl, h⟩
  · replace h := h.2 c5
    refine xs_iconst (nI 2) dX1_learnValues_10 (by decide) ?_
    exact xs_ret (some (.int (nI 2))) dX1_learnValues_11 rfl rfl ⟨hR, _, rfl, h⟩
abbrev hd_X1_greatestRoot_2 (b : Bool) (Q : Int32 → xm_M → Prop) (B : Nat) (v1 : Int32) (μ : xm_M) : Prop := xs_RT b μ → xR k_X1_greatestRoot none true (fun r _ μ' => xs_RT b μ' ∧ ∃ x : Int32, r = some (.int x) ∧ Q x μ') 2 [some (.ref B), some (.int v1)] [] xs_sh (0, 0) μ
set_option maxHeartbeats 4000000 in
set_option maxRecDepth 100000 in
theorem l_X1_greatestRoot_2 {b : Bool} {Q : Int32 → xm_M → Prop} {μ : xm_M} {B : Nat} (v1 : Int32) (hB : xs_bk B)
    (h : (((nI 64) ≤ v1 →
       Q v1 μ) ∧
      (¬ (nI 64) ≤ v1 →
       ∃ Q2 : Int32 → xm_M → Prop, xCi b b k_X1_power μ [.ref B, .int (v1 + (nI 1))] Q2 ∧
       ∀ (r4 : Int32) (m3 : xm_M), Q2 r4 m3 →
       (((m3.1 B 2) < r4 →
        Q v1 m3) ∧
       (¬ (m3.1 B 2) < r4 →
        ∀ x7 : Int32, x7 = v1 + nI 1 →
        hd_X1_greatestRoot_2 b Q B x7 m3))))) :
    hd_X1_greatestRoot_2 b Q B v1 μ := by
  intro hR
  refine xs_iload_n dX1_greatestRoot_2 rfl ?_
  refine xs_bipush (nI 64) dX1_greatestRoot_3 (by decide) ?_
  refine xs_icmp_ge 28 dX1_greatestRoot_5 (by decide) (fun c1 => ?_) (fun c1 => ?_)
  · replace h := h.1 c1
    refine xs_iload_n dX1_greatestRoot_28 rfl ?_
    exact xs_ret (some (.int v1)) dX1_greatestRoot_29 rfl rfl ⟨hR, _, rfl, h⟩
  · replace h := h.2 c1
    refine xs_aload_n dX1_greatestRoot_8 rfl ?_
    refine xs_iload_n dX1_greatestRoot_9 rfl ?_
    refine xs_iconst (nI 1) dX1_greatestRoot_10 (by decide) ?_
    refine xs_iadd dX1_greatestRoot_11 ?_
    obtain ⟨Q2, hQ2, h⟩ := h
    refine xs_callV (j := k_X1_power) (As := [.int (v1 + (nI 1))]) (S := []) dX1_greatestRoot_12 (hQ2 hR) ⟨ml_X1_67, mk_X1_power.1, mk_X1_power.2.1, mk_X1_power.2.2⟩ mv_X1_power ⟨Nat.le_of_ble_eq_true rfl, Nat.le_of_ble_eq_true rfl⟩ rfl (Nat.le_of_ble_eq_true rfl) (sb_0 hB) rfl ⟨rfl, rfl⟩ (fun rr m3 hq5 => ?_)
    obtain ⟨hR, r4, rfl, hq5⟩ := hq5
    replace h := h r4 m3 hq5
    refine xs_aload_n dX1_greatestRoot_15 rfl ?_
    refine xs_getI dX1_greatestRoot_16 fl_X1_15.g rfl (sb_0 hB) ?_
    refine xs_icmp_gt 28 dX1_greatestRoot_19 (by decide) (fun c6 => ?_) (fun c6 => ?_)
    · replace h := h.1 c6
      refine xs_iload_n dX1_greatestRoot_28 rfl ?_
      exact xs_ret (some (.int v1)) dX1_greatestRoot_29 rfl rfl ⟨hR, _, rfl, h⟩
    · replace h := h.2 c6
      obtain ⟨x7, e_x7⟩ : ∃ z : Int32, z = v1 + nI 1 := ⟨_, rfl⟩
      replace h := h x7 e_x7
      refine xs_iinc x7 [some (.ref B), some (.int x7)] dX1_greatestRoot_22 (by decide) rfl (by rw [e_x7]; rfl) rfl ?_
      refine xs_goto 2 dX1_greatestRoot_25 (by decide) ?_
      exact xs_loc [some (.ref B), some (.int x7)] ⟨rfl, ⟨rfl, trivial⟩⟩ (h hR)
set_option maxHeartbeats 4000000 in
set_option maxRecDepth 100000 in
theorem g_X1_greatestRoot {b : Bool} {Q : Int32 → xm_M → Prop} {μ : xm_M} {B : Nat} (hB : xs_bk B)
    (h : hd_X1_greatestRoot_2 b Q B (nI 1) μ) :
    xCi b b k_X1_greatestRoot μ [.ref B] Q := by
  intro hR
  refine xm_met [some (.ref B), none] 1 (by decide) (by simp [lg_sl, Value.category]) rfl ?_
  refine xs_iconst (nI 1) dX1_greatestRoot_0 (by decide) ?_
  refine xs_istore_n [some (.ref B), some (.int (nI 1))] dX1_greatestRoot_1 (by decide) rfl ?_
  exact xs_loc [some (.ref B), some (.int (nI 1))] ⟨rfl, ⟨rfl, trivial⟩⟩ (h hR)
abbrev hd_X1_power_4 (b : Bool) (Q : Int32 → xm_M → Prop) (B : Nat) (v1 : Int32) (v2 : Int32) (v3 : Int32) (μ : xm_M) : Prop := xs_RT b μ → xR k_X1_power none true (fun r _ μ' => xs_RT b μ' ∧ ∃ x : Int32, r = some (.int x) ∧ Q x μ') 4 [some (.ref B), some (.int v1), some (.int v2), some (.int v3)] [] xs_sh (0, 0) μ
set_option maxHeartbeats 4000000 in
set_option maxRecDepth 100000 in
theorem l_X1_power_4 {b : Bool} {Q : Int32 → xm_M → Prop} {μ : xm_M} {B : Nat} (v1 : Int32) (v2 : Int32) (v3 : Int32) (hB : xs_bk B)
    (h : (((μ.1 B 0) ≤ v3 →
       Q v2 μ) ∧
      (¬ (μ.1 B 0) ≤ v3 →
       (((nI 4) ≤ v3 →
        Q v2 μ) ∧
       (¬ (nI 4) ≤ v3 →
        ∀ x3 : Int32, x3 = (v2 * v1) →
        ∀ x4 : Int32, x4 = v3 + nI 1 →
        hd_X1_power_4 b Q B v1 x3 x4 μ))))) :
    hd_X1_power_4 b Q B v1 v2 v3 μ := by
  intro hR
  refine xs_iload_n dX1_power_4 rfl ?_
  refine xs_aload_n dX1_power_5 rfl ?_
  refine xs_getI dX1_power_6 fl_X1_11.g rfl (sb_0 hB) ?_
  refine xs_icmp_ge 27 dX1_power_9 (by decide) (fun c1 => ?_) (fun c1 => ?_)
  · replace h := h.1 c1
    refine xs_iload_n dX1_power_27 rfl ?_
    exact xs_ret (some (.int v2)) dX1_power_28 rfl rfl ⟨hR, _, rfl, h⟩
  · replace h := h.2 c1
    refine xs_iload_n dX1_power_12 rfl ?_
    refine xs_iconst (nI 4) dX1_power_13 (by decide) ?_
    refine xs_icmp_ge 27 dX1_power_14 (by decide) (fun c2 => ?_) (fun c2 => ?_)
    · replace h := h.1 c2
      refine xs_iload_n dX1_power_27 rfl ?_
      exact xs_ret (some (.int v2)) dX1_power_28 rfl rfl ⟨hR, _, rfl, h⟩
    · replace h := h.2 c2
      refine xs_iload_n dX1_power_17 rfl ?_
      refine xs_iload_n dX1_power_18 rfl ?_
      refine xs_imul dX1_power_19 ?_
      refine xs_nmI (fun x3 e_x3 => ?_)
      replace h := h x3 e_x3
      refine xs_istore_n [some (.ref B), some (.int v1), some (.int x3), some (.int v3)] dX1_power_20 (by decide) rfl ?_
      obtain ⟨x4, e_x4⟩ : ∃ z : Int32, z = v3 + nI 1 := ⟨_, rfl⟩
      replace h := h x4 e_x4
      refine xs_iinc x4 [some (.ref B), some (.int v1), some (.int x3), some (.int x4)] dX1_power_21 (by decide) rfl (by rw [e_x4]; rfl) rfl ?_
      refine xs_goto 4 dX1_power_24 (by decide) ?_
      exact xs_loc [some (.ref B), some (.int v1), some (.int x3), some (.int x4)] ⟨rfl, ⟨rfl, ⟨rfl, ⟨rfl, trivial⟩⟩⟩⟩ (h hR)
set_option maxHeartbeats 4000000 in
set_option maxRecDepth 100000 in
theorem g_X1_power {b : Bool} {Q : Int32 → xm_M → Prop} {μ : xm_M} {B : Nat} (v1 : Int32) (hB : xs_bk B)
    (h : hd_X1_power_4 b Q B v1 (nI 1) (nI 0) μ) :
    xCi b b k_X1_power μ [.ref B, .int v1] Q := by
  intro hR
  refine xm_met [some (.ref B), some (.int v1), none, none] 2 (by decide) (by simp [lg_sl, Value.category]) rfl ?_
  refine xs_iconst (nI 1) dX1_power_0 (by decide) ?_
  refine xs_istore_n [some (.ref B), some (.int v1), some (.int (nI 1)), none] dX1_power_1 (by decide) rfl ?_
  refine xs_iconst (nI 0) dX1_power_2 (by decide) ?_
  refine xs_istore_n [some (.ref B), some (.int v1), some (.int (nI 1)), some (.int (nI 0))] dX1_power_3 (by decide) rfl ?_
  exact xs_loc [some (.ref B), some (.int v1), some (.int (nI 1)), some (.int (nI 0))] ⟨rfl, ⟨rfl, ⟨rfl, ⟨rfl, trivial⟩⟩⟩⟩ (h hR)
abbrev hd_X1_growTree_2 (b : Bool) (Q : Int32 → xm_M → Prop) (B : Nat) (v1 : Int32) (μ : xm_M) : Prop := xs_RT b μ → xR k_X1_growTree none true (fun r _ μ' => xs_RT b μ' ∧ ∃ x : Int32, r = some (.int x) ∧ Q x μ') 2 [some (.ref B), some (.int v1), none, none] [] xs_sh (0, 0) μ
abbrev hd_X1_growTree_26 (b : Bool) (Q : Int32 → xm_M → Prop) (B : Nat) (v1 : Int32) (μ : xm_M) : Prop := xs_RT b μ → xR k_X1_growTree none true (fun r _ μ' => xs_RT b μ' ∧ ∃ x : Int32, r = some (.int x) ∧ Q x μ') 26 [some (.ref B), some (.int v1), none, none] [] xs_sh (0, 0) μ
abbrev hd_X1_growTree_64 (b : Bool) (Q : Int32 → xm_M → Prop) (B : Nat) (v1 : Int32) (v2 : Int32) (μ : xm_M) : Prop := xs_RT b μ → xR k_X1_growTree none true (fun r _ μ' => xs_RT b μ' ∧ ∃ x : Int32, r = some (.int x) ∧ Q x μ') 64 [some (.ref B), some (.int v1), some (.int v2), none] [] xs_sh (0, 0) μ
set_option maxHeartbeats 4000000 in
set_option maxRecDepth 100000 in
theorem l_X1_growTree_2 {b : Bool} {Q : Int32 → xm_M → Prop} {μ : xm_M} {B : Nat} (v1 : Int32) (hB : xs_bk B)
    (h : (((nI 128) ≤ v1 →
       hd_X1_growTree_26 b Q B (nI 0) μ) ∧
      (¬ (nI 128) ≤ v1 →
       vp_in v1 128 ∧
       ∀ m3 : xm_M, m3 = xu_I μ (B + 3) (upd (μ.1 (B + 3)) (v1).toNatClampNeg (nI 0)) →
       ∀ x4 : Int32, x4 = v1 + nI 1 →
       hd_X1_growTree_2 b Q B x4 m3))) :
    hd_X1_growTree_2 b Q B v1 μ := by
  intro hR
  refine xs_iload_n dX1_growTree_2 rfl ?_
  refine xs_aload_n dX1_growTree_3 rfl ?_
  refine xs_getR dX1_growTree_4 fl_X1_28 rfl (sb_0 hB) (rb_9 hB hR) ?_
  refine xs_alen 0 dX1_growTree_7 (sb_3 hB) (fun _ => rfl) ?_
  refine xs_icmp_ge 24 dX1_growTree_8 (by decide) (fun c1 => ?_) (fun c1 => ?_)
  · replace h := h.1 c1
    refine xs_iconst (nI 0) dX1_growTree_24 (by decide) ?_
    refine xs_istore_n [some (.ref B), some (.int (nI 0)), none, none] dX1_growTree_25 (by decide) rfl ?_
    exact xs_loc [some (.ref B), some (.int (nI 0)), none, none] ⟨rfl, ⟨rfl, trivial⟩⟩ (h hR)
  · replace h := h.2 c1
    refine xs_aload_n dX1_growTree_11 rfl ?_
    refine xs_getR dX1_growTree_12 fl_X1_28 rfl (sb_0 hB) (rb_9 hB hR) ?_
    refine xs_iload_n dX1_growTree_15 rfl ?_
    refine xs_iconst (nI 0) dX1_growTree_16 (by decide) ?_
    obtain ⟨s2, h⟩ := h
    refine xs_iast dX1_growTree_17 (sb_3 hB) s2 ?_
    refine xs_nmM (fun m3 e_m3 => ?_)
    replace h := h m3 e_m3
    have hR : xs_RT b m3 := by rw [e_m3]; exact hR
    obtain ⟨x4, e_x4⟩ : ∃ z : Int32, z = v1 + nI 1 := ⟨_, rfl⟩
    replace h := h x4 e_x4
    refine xs_iinc x4 [some (.ref B), some (.int x4), none, none] dX1_growTree_18 (by decide) rfl (by rw [e_x4]; rfl) rfl ?_
    refine xs_goto 2 dX1_growTree_21 (by decide) ?_
    exact xs_loc [some (.ref B), some (.int x4), none, none] ⟨rfl, ⟨rfl, trivial⟩⟩ (h hR)
set_option maxHeartbeats 4000000 in
set_option maxRecDepth 100000 in
theorem l_X1_growTree_26 {b : Bool} {Q : Int32 → xm_M → Prop} {μ : xm_M} {B : Nat} (v1 : Int32) (hB : xs_bk B)
    (h : (((nI 16) ≤ v1 →
       vp_in (nI 0) 16 ∧
       ∀ m3 : xm_M, m3 = xu_I μ (B + 4) (upd (μ.1 (B + 4)) ((nI 0)).toNatClampNeg (nI 0)) →
       ∀ m4 : xm_M, m4 = xu_I m3 B (upd (m3.1 B) 10 (nI 1)) →
       hd_X1_growTree_64 b Q B (nI 0) (nI 0) m4) ∧
      (¬ (nI 16) ≤ v1 →
       vp_in v1 16 ∧
       ∀ m6 : xm_M, m6 = xu_I μ (B + 4) (upd (μ.1 (B + 4)) (v1).toNatClampNeg (-1 : Int32)) →
       ∀ x7 : Int32, x7 = v1 + nI 1 →
       hd_X1_growTree_26 b Q B x7 m6))) :
    hd_X1_growTree_26 b Q B v1 μ := by
  intro hR
  refine xs_iload_n dX1_growTree_26 rfl ?_
  refine xs_aload_n dX1_growTree_27 rfl ?_
  refine xs_getR dX1_growTree_28 fl_X1_31 rfl (sb_0 hB) (rb_11 hB hR) ?_
  refine xs_alen 0 dX1_growTree_31 (sb_4 hB) (fun _ => rfl) ?_
  refine xs_icmp_ge 48 dX1_growTree_32 (by decide) (fun c1 => ?_) (fun c1 => ?_)
  · replace h := h.1 c1
    refine xs_aload_n dX1_growTree_48 rfl ?_
    refine xs_getR dX1_growTree_49 fl_X1_31 rfl (sb_0 hB) (rb_11 hB hR) ?_
    refine xs_iconst (nI 0) dX1_growTree_52 (by decide) ?_
    refine xs_iconst (nI 0) dX1_growTree_53 (by decide) ?_
    obtain ⟨s2, h⟩ := h
    refine xs_iast dX1_growTree_54 (sb_4 hB) s2 ?_
    refine xs_nmM (fun m3 e_m3 => ?_)
    replace h := h m3 e_m3
    have hR : xs_RT b m3 := by rw [e_m3]; exact hR
    refine xs_aload_n dX1_growTree_55 rfl ?_
    refine xs_iconst (nI 1) dX1_growTree_56 (by decide) ?_
    refine xs_putI dX1_growTree_57 fl_X1_70 rfl rfl rfl (sb_0 hB) ?_
    refine xs_nmM (fun m4 e_m4 => ?_)
    replace h := h m4 e_m4
    have hR : xs_RT b m4 := by rw [e_m4]; exact hR
    refine xs_iconst (nI 0) dX1_growTree_60 (by decide) ?_
    refine xs_istore_n [some (.ref B), some (.int (nI 0)), none, none] dX1_growTree_61 (by decide) rfl ?_
    refine xs_iconst (nI 0) dX1_growTree_62 (by decide) ?_
    refine xs_istore_n [some (.ref B), some (.int (nI 0)), some (.int (nI 0)), none] dX1_growTree_63 (by decide) rfl ?_
    exact xs_loc [some (.ref B), some (.int (nI 0)), some (.int (nI 0)), none] ⟨rfl, ⟨rfl, ⟨rfl, trivial⟩⟩⟩ (h hR)
  · replace h := h.2 c1
    refine xs_aload_n dX1_growTree_35 rfl ?_
    refine xs_getR dX1_growTree_36 fl_X1_31 rfl (sb_0 hB) (rb_11 hB hR) ?_
    refine xs_iload_n dX1_growTree_39 rfl ?_
    refine xs_iconst (-1 : Int32) dX1_growTree_40 (by decide) ?_
    obtain ⟨s5, h⟩ := h
    refine xs_iast dX1_growTree_41 (sb_4 hB) s5 ?_
    refine xs_nmM (fun m6 e_m6 => ?_)
    replace h := h m6 e_m6
    have hR : xs_RT b m6 := by rw [e_m6]; exact hR
    obtain ⟨x7, e_x7⟩ : ∃ z : Int32, z = v1 + nI 1 := ⟨_, rfl⟩
    replace h := h x7 e_x7
    refine xs_iinc x7 [some (.ref B), some (.int x7), none, none] dX1_growTree_42 (by decide) rfl (by rw [e_x7]; rfl) rfl ?_
    refine xs_goto 26 dX1_growTree_45 (by decide) ?_
    exact xs_loc [some (.ref B), some (.int x7), none, none] ⟨rfl, ⟨rfl, trivial⟩⟩ (h hR)
set_option maxHeartbeats 4000000 in
set_option maxRecDepth 100000 in
theorem l_X1_growTree_64 {b : Bool} {Q : Int32 → xm_M → Prop} {μ : xm_M} {B : Nat} (v1 : Int32) (v2 : Int32) (hB : xs_bk B)
    (h : (((μ.1 B 2) ≤ v2 →
       ∃ Q2 : Int32 → xm_M → Prop, xCi b b k_X1_nothingIsFree μ [.ref B] Q2 ∧
       ∀ (r4 : Int32) (m3 : xm_M), Q2 r4 m3 →
       ((¬ r4 = 0 →
        Q (nI 1) m3) ∧
       (r4 = 0 →
        ((¬ v1 = (nI 1) →
         Q (nI 0) m3) ∧
        (v1 = (nI 1) →
         vp_in (nI 0) 128 ∧
         ((0 ≤ (m3.1 (B + 3) ((nI 0)).toNatClampNeg) →
          Q (nI 0) m3) ∧
         (¬ 0 ≤ (m3.1 (B + 3) ((nI 0)).toNatClampNeg) →
          Q (nI 1) m3))))))) ∧
      (¬ (μ.1 B 2) ≤ v2 →
       (((nI 64) ≤ v2 →
        ∃ Q11 : Int32 → xm_M → Prop, xCi b b k_X1_nothingIsFree μ [.ref B] Q11 ∧
        ∀ (r13 : Int32) (m12 : xm_M), Q11 r13 m12 →
        ((¬ r13 = 0 →
         Q (nI 1) m12) ∧
        (r13 = 0 →
         ((¬ v1 = (nI 1) →
          Q (nI 0) m12) ∧
         (v1 = (nI 1) →
          vp_in (nI 0) 128 ∧
          ((0 ≤ (m12.1 (B + 3) ((nI 0)).toNatClampNeg) →
           Q (nI 0) m12) ∧
          (¬ 0 ≤ (m12.1 (B + 3) ((nI 0)).toNatClampNeg) →
           Q (nI 1) m12))))))) ∧
       (¬ (nI 64) ≤ v2 →
        vp_in v2 64 ∧
        (((μ.1 (B + 2) (v2).toNatClampNeg) ≤ 0 →
         ∀ x21 : Int32, x21 = v2 + nI 1 →
         hd_X1_growTree_64 b Q B v1 x21 μ) ∧
        (¬ (μ.1 (B + 2) (v2).toNatClampNeg) ≤ 0 →
         ∀ x22 : Int32, x22 = v1 + nI 1 →
         vp_in v2 64 ∧
         ∃ Q24 : Int32 → xm_M → Prop, xCi b b k_X1_takeLeastWord μ [.ref B, .int (μ.1 (B + 2) (v2).toNatClampNeg)] Q24 ∧
         ∀ (r26 : Int32) (m25 : xm_M), Q24 r26 m25 →
         ((r26 < 0 →
          Q (nI 0) m25) ∧
         (¬ r26 < 0 →
          vp_in v2 64 ∧
          ∃ Q30 : Int32 → xm_M → Prop, xCi b b k_X1_plant m25 [.ref B, .int v2, .int r26, .int (m25.1 (B + 2) (v2).toNatClampNeg)] Q30 ∧
          ∀ (r32 : Int32) (m31 : xm_M), Q30 r32 m31 →
          ((¬ r32 = 0 →
           ∀ x35 : Int32, x35 = v2 + nI 1 →
           hd_X1_growTree_64 b Q B x22 x35 m31) ∧
          (r32 = 0 →
           Q (nI 0) m31))))))))))) :
    hd_X1_growTree_64 b Q B v1 v2 μ := by
  intro hR
  refine xs_iload_n dX1_growTree_64 rfl ?_
  refine xs_aload_n dX1_growTree_65 rfl ?_
  refine xs_getI dX1_growTree_66 fl_X1_15.g rfl (sb_0 hB) ?_
  refine xs_icmp_ge 131 dX1_growTree_69 (by decide) (fun c1 => ?_) (fun c1 => ?_)
  · replace h := h.1 c1
    refine xs_aload_n dX1_growTree_131 rfl ?_
    obtain ⟨Q2, hQ2, h⟩ := h
    refine xs_callV (j := k_X1_nothingIsFree) (As := []) (S := []) dX1_growTree_132 (hQ2 hR) ⟨ml_X1_80, mk_X1_nothingIsFree.1, mk_X1_nothingIsFree.2.1, mk_X1_nothingIsFree.2.2⟩ mv_X1_nothingIsFree ⟨Nat.le_of_ble_eq_true rfl, Nat.le_of_ble_eq_true rfl⟩ rfl (Nat.le_of_ble_eq_true rfl) (sb_0 hB) rfl ⟨rfl, rfl⟩ (fun rr m3 hq5 => ?_)
    obtain ⟨hR, r4, rfl, hq5⟩ := hq5
    replace h := h r4 m3 hq5
    refine xs_if_ne 152 dX1_growTree_135 (by decide) (fun c6 => ?_) (fun c6 => ?_)
    · replace h := h.1 c6
      refine xs_iconst (nI 1) dX1_growTree_152 (by decide) ?_
      refine xs_goto 157 dX1_growTree_153 (by decide) ?_
      exact xs_ret (some (.int (nI 1))) dX1_growTree_157 rfl rfl ⟨hR, _, rfl, h⟩
    · replace h := h.2 c6
      refine xs_iload_n dX1_growTree_138 rfl ?_
      refine xs_iconst (nI 1) dX1_growTree_139 (by decide) ?_
      refine xs_icmp_ne 156 dX1_growTree_140 (by decide) (fun c7 => ?_) (fun c7 => ?_)
      · replace h := h.1 c7
        refine xs_iconst (nI 0) dX1_growTree_156 (by decide) ?_
        exact xs_ret (some (.int (nI 0))) dX1_growTree_157 rfl rfl ⟨hR, _, rfl, h⟩
      · replace h := h.2 c7
        refine xs_aload_n dX1_growTree_143 rfl ?_
        refine xs_getR dX1_growTree_144 fl_X1_28 rfl (sb_0 hB) (rb_9 hB hR) ?_
        refine xs_iconst (nI 0) dX1_growTree_147 (by decide) ?_
        obtain ⟨s8, h⟩ := h
        refine xs_iald dX1_growTree_148 (sb_3 hB) s8 ?_
        refine xs_if_ge 156 dX1_growTree_149 (by decide) (fun c9 => ?_) (fun c9 => ?_)
        · replace h := h.1 c9
          refine xs_iconst (nI 0) dX1_growTree_156 (by decide) ?_
          exact xs_ret (some (.int (nI 0))) dX1_growTree_157 rfl rfl ⟨hR, _, rfl, h⟩
        · replace h := h.2 c9
          refine xs_iconst (nI 1) dX1_growTree_152 (by decide) ?_
          refine xs_goto 157 dX1_growTree_153 (by decide) ?_
          exact xs_ret (some (.int (nI 1))) dX1_growTree_157 rfl rfl ⟨hR, _, rfl, h⟩
  · replace h := h.2 c1
    refine xs_iload_n dX1_growTree_72 rfl ?_
    refine xs_aload_n dX1_growTree_73 rfl ?_
    refine xs_getR dX1_growTree_74 fl_X1_25 rfl (sb_0 hB) (rb_8 hB hR) ?_
    refine xs_alen 0 dX1_growTree_77 (sb_2 hB) (fun _ => rfl) ?_
    refine xs_icmp_ge 131 dX1_growTree_78 (by decide) (fun c10 => ?_) (fun c10 => ?_)
    · replace h := h.1 c10
      refine xs_aload_n dX1_growTree_131 rfl ?_
      obtain ⟨Q11, hQ11, h⟩ := h
      refine xs_callV (j := k_X1_nothingIsFree) (As := []) (S := []) dX1_growTree_132 (hQ11 hR) ⟨ml_X1_80, mk_X1_nothingIsFree.1, mk_X1_nothingIsFree.2.1, mk_X1_nothingIsFree.2.2⟩ mv_X1_nothingIsFree ⟨Nat.le_of_ble_eq_true rfl, Nat.le_of_ble_eq_true rfl⟩ rfl (Nat.le_of_ble_eq_true rfl) (sb_0 hB) rfl ⟨rfl, rfl⟩ (fun rr m12 hq14 => ?_)
      obtain ⟨hR, r13, rfl, hq14⟩ := hq14
      replace h := h r13 m12 hq14
      refine xs_if_ne 152 dX1_growTree_135 (by decide) (fun c15 => ?_) (fun c15 => ?_)
      · replace h := h.1 c15
        refine xs_iconst (nI 1) dX1_growTree_152 (by decide) ?_
        refine xs_goto 157 dX1_growTree_153 (by decide) ?_
        exact xs_ret (some (.int (nI 1))) dX1_growTree_157 rfl rfl ⟨hR, _, rfl, h⟩
      · replace h := h.2 c15
        refine xs_iload_n dX1_growTree_138 rfl ?_
        refine xs_iconst (nI 1) dX1_growTree_139 (by decide) ?_
        refine xs_icmp_ne 156 dX1_growTree_140 (by decide) (fun c16 => ?_) (fun c16 => ?_)
        · replace h := h.1 c16
          refine xs_iconst (nI 0) dX1_growTree_156 (by decide) ?_
          exact xs_ret (some (.int (nI 0))) dX1_growTree_157 rfl rfl ⟨hR, _, rfl, h⟩
        · replace h := h.2 c16
          refine xs_aload_n dX1_growTree_143 rfl ?_
          refine xs_getR dX1_growTree_144 fl_X1_28 rfl (sb_0 hB) (rb_9 hB hR) ?_
          refine xs_iconst (nI 0) dX1_growTree_147 (by decide) ?_
          obtain ⟨s17, h⟩ := h
          refine xs_iald dX1_growTree_148 (sb_3 hB) s17 ?_
          refine xs_if_ge 156 dX1_growTree_149 (by decide) (fun c18 => ?_) (fun c18 => ?_)
          · replace h := h.1 c18
            refine xs_iconst (nI 0) dX1_growTree_156 (by decide) ?_
            exact xs_ret (some (.int (nI 0))) dX1_growTree_157 rfl rfl ⟨hR, _, rfl, h⟩
          · replace h := h.2 c18
            refine xs_iconst (nI 1) dX1_growTree_152 (by decide) ?_
            refine xs_goto 157 dX1_growTree_153 (by decide) ?_
            exact xs_ret (some (.int (nI 1))) dX1_growTree_157 rfl rfl ⟨hR, _, rfl, h⟩
    · replace h := h.2 c10
      refine xs_aload_n dX1_growTree_81 rfl ?_
      refine xs_getR dX1_growTree_82 fl_X1_25 rfl (sb_0 hB) (rb_8 hB hR) ?_
      refine xs_iload_n dX1_growTree_85 rfl ?_
      obtain ⟨s19, h⟩ := h
      refine xs_iald dX1_growTree_86 (sb_2 hB) s19 ?_
      refine xs_if_le 125 dX1_growTree_87 (by decide) (fun c20 => ?_) (fun c20 => ?_)
      · replace h := h.1 c20
        obtain ⟨x21, e_x21⟩ : ∃ z : Int32, z = v2 + nI 1 := ⟨_, rfl⟩
        replace h := h x21 e_x21
        refine xs_iinc x21 [some (.ref B), some (.int v1), some (.int x21), none] dX1_growTree_125 (by decide) rfl (by rw [e_x21]; rfl) rfl ?_
        refine xs_goto 64 dX1_growTree_128 (by decide) ?_
        exact xs_loc [some (.ref B), some (.int v1), some (.int x21), none] ⟨rfl, ⟨rfl, ⟨rfl, trivial⟩⟩⟩ (h hR)
      · replace h := h.2 c20
        obtain ⟨x22, e_x22⟩ : ∃ z : Int32, z = v1 + nI 1 := ⟨_, rfl⟩
        replace h := h x22 e_x22
        refine xs_iinc x22 [some (.ref B), some (.int x22), some (.int v2), none] dX1_growTree_90 (by decide) rfl (by rw [e_x22]; rfl) rfl ?_
        refine xs_aload_n dX1_growTree_93 rfl ?_
        refine xs_aload_n dX1_growTree_94 rfl ?_
        refine xs_getR dX1_growTree_95 fl_X1_25 rfl (sb_0 hB) (rb_8 hB hR) ?_
        refine xs_iload_n dX1_growTree_98 rfl ?_
        obtain ⟨s23, h⟩ := h
        refine xs_iald dX1_growTree_99 (sb_2 hB) s23 ?_
        obtain ⟨Q24, hQ24, h⟩ := h
        refine xs_callV (j := k_X1_takeLeastWord) (As := [.int (μ.1 (B + 2) (v2).toNatClampNeg)]) (S := []) dX1_growTree_100 (hQ24 hR) ⟨ml_X1_73, mk_X1_takeLeastWord.1, mk_X1_takeLeastWord.2.1, mk_X1_takeLeastWord.2.2⟩ mv_X1_takeLeastWord ⟨Nat.le_of_ble_eq_true rfl, Nat.le_of_ble_eq_true rfl⟩ rfl (Nat.le_of_ble_eq_true rfl) (sb_0 hB) rfl ⟨rfl, rfl⟩ (fun rr m25 hq27 => ?_)
        obtain ⟨hR, r26, rfl, hq27⟩ := hq27
        replace h := h r26 m25 hq27
        refine xs_istore_n [some (.ref B), some (.int x22), some (.int v2), some (.int r26)] dX1_growTree_103 (by decide) rfl ?_
        refine xs_iload_n dX1_growTree_104 rfl ?_
        refine xs_if_lt 123 dX1_growTree_105 (by decide) (fun c28 => ?_) (fun c28 => ?_)
        · replace h := h.1 c28
          refine xs_iconst (nI 0) dX1_growTree_123 (by decide) ?_
          exact xs_ret (some (.int (nI 0))) dX1_growTree_124 rfl rfl ⟨hR, _, rfl, h⟩
        · replace h := h.2 c28
          refine xs_aload_n dX1_growTree_108 rfl ?_
          refine xs_iload_n dX1_growTree_109 rfl ?_
          refine xs_iload_n dX1_growTree_110 rfl ?_
          refine xs_aload_n dX1_growTree_111 rfl ?_
          refine xs_getR dX1_growTree_112 fl_X1_25 rfl (sb_0 hB) (rb_8 hB hR) ?_
          refine xs_iload_n dX1_growTree_115 rfl ?_
          obtain ⟨s29, h⟩ := h
          refine xs_iald dX1_growTree_116 (sb_2 hB) s29 ?_
          obtain ⟨Q30, hQ30, h⟩ := h
          refine xs_callV (j := k_X1_plant) (As := [.int v2, .int r26, .int (m25.1 (B + 2) (v2).toNatClampNeg)]) (S := []) dX1_growTree_117 (hQ30 hR) ⟨ml_X1_76, mk_X1_plant.1, mk_X1_plant.2.1, mk_X1_plant.2.2⟩ mv_X1_plant ⟨Nat.le_of_ble_eq_true rfl, Nat.le_of_ble_eq_true rfl⟩ rfl (Nat.le_of_ble_eq_true rfl) (sb_0 hB) rfl ⟨rfl, rfl⟩ (fun rr m31 hq33 => ?_)
          obtain ⟨hR, r32, rfl, hq33⟩ := hq33
          replace h := h r32 m31 hq33
          refine xs_if_ne 125 dX1_growTree_120 (by decide) (fun c34 => ?_) (fun c34 => ?_)
          · replace h := h.1 c34
            obtain ⟨x35, e_x35⟩ : ∃ z : Int32, z = v2 + nI 1 := ⟨_, rfl⟩
            replace h := h x35 e_x35
            refine xs_iinc x35 [some (.ref B), some (.int x22), some (.int x35), some (.int r26)] dX1_growTree_125 (by decide) rfl (by rw [e_x35]; rfl) rfl ?_
            refine xs_goto 64 dX1_growTree_128 (by decide) ?_
            exact xs_loc [some (.ref B), some (.int x22), some (.int x35), none] ⟨rfl, ⟨rfl, ⟨rfl, trivial⟩⟩⟩ (h hR)
          · replace h := h.2 c34
            refine xs_iconst (nI 0) dX1_growTree_123 (by decide) ?_
            exact xs_ret (some (.int (nI 0))) dX1_growTree_124 rfl rfl ⟨hR, _, rfl, h⟩
set_option maxHeartbeats 4000000 in
set_option maxRecDepth 100000 in
theorem g_X1_growTree {b : Bool} {Q : Int32 → xm_M → Prop} {μ : xm_M} {B : Nat} (hB : xs_bk B)
    (h : hd_X1_growTree_2 b Q B (nI 0) μ) :
    xCi b b k_X1_growTree μ [.ref B] Q := by
  intro hR
  refine xm_met [some (.ref B), none, none, none] 3 (by decide) (by simp [lg_sl, Value.category]) rfl ?_
  refine xs_iconst (nI 0) dX1_growTree_0 (by decide) ?_
  refine xs_istore_n [some (.ref B), some (.int (nI 0)), none, none] dX1_growTree_1 (by decide) rfl ?_
  exact xs_loc [some (.ref B), some (.int (nI 0)), none, none] ⟨rfl, ⟨rfl, trivial⟩⟩ (h hR)
abbrev hd_X1_takeLeastWord_2 (b : Bool) (Q : Int32 → xm_M → Prop) (B : Nat) (v1 : Int32) (v2 : Int32) (μ : xm_M) : Prop := xs_RT b μ → xR k_X1_takeLeastWord none true (fun r _ μ' => xs_RT b μ' ∧ ∃ x : Int32, r = some (.int x) ∧ Q x μ') 2 [some (.ref B), some (.int v1), some (.int v2), none, none] [] xs_sh (0, 0) μ
abbrev hd_X1_takeLeastWord_75 (b : Bool) (Q : Int32 → xm_M → Prop) (B : Nat) (v1 : Int32) (v3 : Int32) (v4 : Int32) (μ : xm_M) : Prop := xs_RT b μ → xR k_X1_takeLeastWord none true (fun r _ μ' => xs_RT b μ' ∧ ∃ x : Int32, r = some (.int x) ∧ Q x μ') 75 [some (.ref B), some (.int v1), none, some (.int v3), some (.int v4)] [] xs_sh (0, 0) μ
set_option maxHeartbeats 4000000 in
set_option maxRecDepth 100000 in
theorem l_X1_takeLeastWord_2 {b : Bool} {Q : Int32 → xm_M → Prop} {μ : xm_M} {B : Nat} (v1 : Int32) (v2 : Int32) (hB : xs_bk B)
    (h : ((v2 ≤ 0 →
       ((v2 < 0 →
        Q (-1 : Int32) μ) ∧
       (¬ v2 < 0 →
        (((nI 16) ≤ v1 →
         Q (-1 : Int32) μ) ∧
        (¬ (nI 16) ≤ v1 →
         vp_in v2 16 ∧
         ((¬ (μ.1 (B + 4) (v2).toNatClampNeg) = (-1 : Int32) →
          vp_in v2 16 ∧
          vp_in v2 16 ∧
          ∀ m8 : xm_M, m8 = xu_I μ (B + 4) (upd (μ.1 (B + 4)) (v2).toNatClampNeg (-1 : Int32)) →
          ∀ x9 : Int32, x9 = (v2 + (nI 1)) →
          hd_X1_takeLeastWord_75 b Q B v1 (μ.1 (B + 4) (v2).toNatClampNeg) x9 m8) ∧
         ((μ.1 (B + 4) (v2).toNatClampNeg) = (-1 : Int32) →
          Q (-1 : Int32) μ))))))) ∧
      (¬ v2 ≤ 0 →
       (((nI 16) ≤ v2 →
        ((v2 < 0 →
         Q (-1 : Int32) μ) ∧
        (¬ v2 < 0 →
         (((nI 16) ≤ v1 →
          Q (-1 : Int32) μ) ∧
         (¬ (nI 16) ≤ v1 →
          vp_in v2 16 ∧
          ((¬ (μ.1 (B + 4) (v2).toNatClampNeg) = (-1 : Int32) →
           vp_in v2 16 ∧
           vp_in v2 16 ∧
           ∀ m17 : xm_M, m17 = xu_I μ (B + 4) (upd (μ.1 (B + 4)) (v2).toNatClampNeg (-1 : Int32)) →
           ∀ x18 : Int32, x18 = (v2 + (nI 1)) →
           hd_X1_takeLeastWord_75 b Q B v1 (μ.1 (B + 4) (v2).toNatClampNeg) x18 m17) ∧
          ((μ.1 (B + 4) (v2).toNatClampNeg) = (-1 : Int32) →
           Q (-1 : Int32) μ))))))) ∧
       (¬ (nI 16) ≤ v2 →
        vp_in v2 16 ∧
        ((¬ (μ.1 (B + 4) (v2).toNatClampNeg) = (-1 : Int32) →
         ((v2 < 0 →
          Q (-1 : Int32) μ) ∧
         (¬ v2 < 0 →
          (((nI 16) ≤ v1 →
           Q (-1 : Int32) μ) ∧
          (¬ (nI 16) ≤ v1 →
           vp_in v2 16 ∧
           ((¬ (μ.1 (B + 4) (v2).toNatClampNeg) = (-1 : Int32) →
            vp_in v2 16 ∧
            vp_in v2 16 ∧
            ∀ m27 : xm_M, m27 = xu_I μ (B + 4) (upd (μ.1 (B + 4)) (v2).toNatClampNeg (-1 : Int32)) →
            ∀ x28 : Int32, x28 = (v2 + (nI 1)) →
            hd_X1_takeLeastWord_75 b Q B v1 (μ.1 (B + 4) (v2).toNatClampNeg) x28 m27) ∧
           ((μ.1 (B + 4) (v2).toNatClampNeg) = (-1 : Int32) →
            Q (-1 : Int32) μ))))))) ∧
        ((μ.1 (B + 4) (v2).toNatClampNeg) = (-1 : Int32) →
         ∀ x29 : Int32, x29 = v2 + (-1) →
         hd_X1_takeLeastWord_2 b Q B v1 x29 μ))))))) :
    hd_X1_takeLeastWord_2 b Q B v1 v2 μ := by
  intro hR
  refine xs_iload_n dX1_takeLeastWord_2 rfl ?_
  refine xs_if_le 31 dX1_takeLeastWord_3 (by decide) (fun c1 => ?_) (fun c1 => ?_)
  · replace h := h.1 c1
    refine xs_iload_n dX1_takeLeastWord_31 rfl ?_
    refine xs_if_lt 54 dX1_takeLeastWord_32 (by decide) (fun c2 => ?_) (fun c2 => ?_)
    · replace h := h.1 c2
      refine xs_iconst (-1 : Int32) dX1_takeLeastWord_54 (by decide) ?_
      exact xs_ret (some (.int (-1 : Int32))) dX1_takeLeastWord_55 rfl rfl ⟨hR, _, rfl, h⟩
    · replace h := h.2 c2
      refine xs_iload_n dX1_takeLeastWord_35 rfl ?_
      refine xs_aload_n dX1_takeLeastWord_36 rfl ?_
      refine xs_getR dX1_takeLeastWord_37 fl_X1_31 rfl (sb_0 hB) (rb_11 hB hR) ?_
      refine xs_alen 0 dX1_takeLeastWord_40 (sb_4 hB) (fun _ => rfl) ?_
      refine xs_icmp_ge 54 dX1_takeLeastWord_41 (by decide) (fun c3 => ?_) (fun c3 => ?_)
      · replace h := h.1 c3
        refine xs_iconst (-1 : Int32) dX1_takeLeastWord_54 (by decide) ?_
        exact xs_ret (some (.int (-1 : Int32))) dX1_takeLeastWord_55 rfl rfl ⟨hR, _, rfl, h⟩
      · replace h := h.2 c3
        refine xs_aload_n dX1_takeLeastWord_44 rfl ?_
        refine xs_getR dX1_takeLeastWord_45 fl_X1_31 rfl (sb_0 hB) (rb_11 hB hR) ?_
        refine xs_iload_n dX1_takeLeastWord_48 rfl ?_
        obtain ⟨s4, h⟩ := h
        refine xs_iald dX1_takeLeastWord_49 (sb_4 hB) s4 ?_
        refine xs_iconst (-1 : Int32) dX1_takeLeastWord_50 (by decide) ?_
        refine xs_icmp_ne 56 dX1_takeLeastWord_51 (by decide) (fun c5 => ?_) (fun c5 => ?_)
        · replace h := h.1 c5
          refine xs_aload_n dX1_takeLeastWord_56 rfl ?_
          refine xs_getR dX1_takeLeastWord_57 fl_X1_31 rfl (sb_0 hB) (rb_11 hB hR) ?_
          refine xs_iload_n dX1_takeLeastWord_60 rfl ?_
          obtain ⟨s6, h⟩ := h
          refine xs_iald dX1_takeLeastWord_61 (sb_4 hB) s6 ?_
          refine xs_istore_n [some (.ref B), some (.int v1), some (.int v2), some (.int (μ.1 (B + 4) (v2).toNatClampNeg)), none] dX1_takeLeastWord_62 (by decide) rfl ?_
          refine xs_aload_n dX1_takeLeastWord_63 rfl ?_
          refine xs_getR dX1_takeLeastWord_64 fl_X1_31 rfl (sb_0 hB) (rb_11 hB hR) ?_
          refine xs_iload_n dX1_takeLeastWord_67 rfl ?_
          refine xs_iconst (-1 : Int32) dX1_takeLeastWord_68 (by decide) ?_
          obtain ⟨s7, h⟩ := h
          refine xs_iast dX1_takeLeastWord_69 (sb_4 hB) s7 ?_
          refine xs_nmM (fun m8 e_m8 => ?_)
          replace h := h m8 e_m8
          have hR : xs_RT b m8 := by rw [e_m8]; exact hR
          refine xs_iload_n dX1_takeLeastWord_70 rfl ?_
          refine xs_iconst (nI 1) dX1_takeLeastWord_71 (by decide) ?_
          refine xs_iadd dX1_takeLeastWord_72 ?_
          refine xs_nmI (fun x9 e_x9 => ?_)
          replace h := h x9 e_x9
          refine xs_istore [some (.ref B), some (.int v1), some (.int v2), some (.int (μ.1 (B + 4) (v2).toNatClampNeg)), some (.int x9)] dX1_takeLeastWord_73 (by decide) rfl ?_
          exact xs_loc [some (.ref B), some (.int v1), none, some (.int (μ.1 (B + 4) (v2).toNatClampNeg)), some (.int x9)] ⟨rfl, ⟨rfl, ⟨rfl, ⟨rfl, trivial⟩⟩⟩⟩ (h hR)
        · replace h := h.2 c5
          refine xs_iconst (-1 : Int32) dX1_takeLeastWord_54 (by decide) ?_
          exact xs_ret (some (.int (-1 : Int32))) dX1_takeLeastWord_55 rfl rfl ⟨hR, _, rfl, h⟩
  · replace h := h.2 c1
    refine xs_iload_n dX1_takeLeastWord_6 rfl ?_
    refine xs_aload_n dX1_takeLeastWord_7 rfl ?_
    refine xs_getR dX1_takeLeastWord_8 fl_X1_31 rfl (sb_0 hB) (rb_11 hB hR) ?_
    refine xs_alen 0 dX1_takeLeastWord_11 (sb_4 hB) (fun _ => rfl) ?_
    refine xs_icmp_ge 31 dX1_takeLeastWord_12 (by decide) (fun c10 => ?_) (fun c10 => ?_)
    · replace h := h.1 c10
      refine xs_iload_n dX1_takeLeastWord_31 rfl ?_
      refine xs_if_lt 54 dX1_takeLeastWord_32 (by decide) (fun c11 => ?_) (fun c11 => ?_)
      · replace h := h.1 c11
        refine xs_iconst (-1 : Int32) dX1_takeLeastWord_54 (by decide) ?_
        exact xs_ret (some (.int (-1 : Int32))) dX1_takeLeastWord_55 rfl rfl ⟨hR, _, rfl, h⟩
      · replace h := h.2 c11
        refine xs_iload_n dX1_takeLeastWord_35 rfl ?_
        refine xs_aload_n dX1_takeLeastWord_36 rfl ?_
        refine xs_getR dX1_takeLeastWord_37 fl_X1_31 rfl (sb_0 hB) (rb_11 hB hR) ?_
        refine xs_alen 0 dX1_takeLeastWord_40 (sb_4 hB) (fun _ => rfl) ?_
        refine xs_icmp_ge 54 dX1_takeLeastWord_41 (by decide) (fun c12 => ?_) (fun c12 => ?_)
        · replace h := h.1 c12
          refine xs_iconst (-1 : Int32) dX1_takeLeastWord_54 (by decide) ?_
          exact xs_ret (some (.int (-1 : Int32))) dX1_takeLeastWord_55 rfl rfl ⟨hR, _, rfl, h⟩
        · replace h := h.2 c12
          refine xs_aload_n dX1_takeLeastWord_44 rfl ?_
          refine xs_getR dX1_takeLeastWord_45 fl_X1_31 rfl (sb_0 hB) (rb_11 hB hR) ?_
          refine xs_iload_n dX1_takeLeastWord_48 rfl ?_
          obtain ⟨s13, h⟩ := h
          refine xs_iald dX1_takeLeastWord_49 (sb_4 hB) s13 ?_
          refine xs_iconst (-1 : Int32) dX1_takeLeastWord_50 (by decide) ?_
          refine xs_icmp_ne 56 dX1_takeLeastWord_51 (by decide) (fun c14 => ?_) (fun c14 => ?_)
          · replace h := h.1 c14
            refine xs_aload_n dX1_takeLeastWord_56 rfl ?_
            refine xs_getR dX1_takeLeastWord_57 fl_X1_31 rfl (sb_0 hB) (rb_11 hB hR) ?_
            refine xs_iload_n dX1_takeLeastWord_60 rfl ?_
            obtain ⟨s15, h⟩ := h
            refine xs_iald dX1_takeLeastWord_61 (sb_4 hB) s15 ?_
            refine xs_istore_n [some (.ref B), some (.int v1), some (.int v2), some (.int (μ.1 (B + 4) (v2).toNatClampNeg)), none] dX1_takeLeastWord_62 (by decide) rfl ?_
            refine xs_aload_n dX1_takeLeastWord_63 rfl ?_
            refine xs_getR dX1_takeLeastWord_64 fl_X1_31 rfl (sb_0 hB) (rb_11 hB hR) ?_
            refine xs_iload_n dX1_takeLeastWord_67 rfl ?_
            refine xs_iconst (-1 : Int32) dX1_takeLeastWord_68 (by decide) ?_
            obtain ⟨s16, h⟩ := h
            refine xs_iast dX1_takeLeastWord_69 (sb_4 hB) s16 ?_
            refine xs_nmM (fun m17 e_m17 => ?_)
            replace h := h m17 e_m17
            have hR : xs_RT b m17 := by rw [e_m17]; exact hR
            refine xs_iload_n dX1_takeLeastWord_70 rfl ?_
            refine xs_iconst (nI 1) dX1_takeLeastWord_71 (by decide) ?_
            refine xs_iadd dX1_takeLeastWord_72 ?_
            refine xs_nmI (fun x18 e_x18 => ?_)
            replace h := h x18 e_x18
            refine xs_istore [some (.ref B), some (.int v1), some (.int v2), some (.int (μ.1 (B + 4) (v2).toNatClampNeg)), some (.int x18)] dX1_takeLeastWord_73 (by decide) rfl ?_
            exact xs_loc [some (.ref B), some (.int v1), none, some (.int (μ.1 (B + 4) (v2).toNatClampNeg)), some (.int x18)] ⟨rfl, ⟨rfl, ⟨rfl, ⟨rfl, trivial⟩⟩⟩⟩ (h hR)
          · replace h := h.2 c14
            refine xs_iconst (-1 : Int32) dX1_takeLeastWord_54 (by decide) ?_
            exact xs_ret (some (.int (-1 : Int32))) dX1_takeLeastWord_55 rfl rfl ⟨hR, _, rfl, h⟩
    · replace h := h.2 c10
      refine xs_aload_n dX1_takeLeastWord_15 rfl ?_
      refine xs_getR dX1_takeLeastWord_16 fl_X1_31 rfl (sb_0 hB) (rb_11 hB hR) ?_
      refine xs_iload_n dX1_takeLeastWord_19 rfl ?_
      obtain ⟨s19, h⟩ := h
      refine xs_iald dX1_takeLeastWord_20 (sb_4 hB) s19 ?_
      refine xs_iconst (-1 : Int32) dX1_takeLeastWord_21 (by decide) ?_
      refine xs_icmp_ne 31 dX1_takeLeastWord_22 (by decide) (fun c20 => ?_) (fun c20 => ?_)
      · replace h := h.1 c20
        refine xs_iload_n dX1_takeLeastWord_31 rfl ?_
        refine xs_if_lt 54 dX1_takeLeastWord_32 (by decide) (fun c21 => ?_) (fun c21 => ?_)
        · replace h := h.1 c21
          refine xs_iconst (-1 : Int32) dX1_takeLeastWord_54 (by decide) ?_
          exact xs_ret (some (.int (-1 : Int32))) dX1_takeLeastWord_55 rfl rfl ⟨hR, _, rfl, h⟩
        · replace h := h.2 c21
          refine xs_iload_n dX1_takeLeastWord_35 rfl ?_
          refine xs_aload_n dX1_takeLeastWord_36 rfl ?_
          refine xs_getR dX1_takeLeastWord_37 fl_X1_31 rfl (sb_0 hB) (rb_11 hB hR) ?_
          refine xs_alen 0 dX1_takeLeastWord_40 (sb_4 hB) (fun _ => rfl) ?_
          refine xs_icmp_ge 54 dX1_takeLeastWord_41 (by decide) (fun c22 => ?_) (fun c22 => ?_)
          · replace h := h.1 c22
            refine xs_iconst (-1 : Int32) dX1_takeLeastWord_54 (by decide) ?_
            exact xs_ret (some (.int (-1 : Int32))) dX1_takeLeastWord_55 rfl rfl ⟨hR, _, rfl, h⟩
          · replace h := h.2 c22
            refine xs_aload_n dX1_takeLeastWord_44 rfl ?_
            refine xs_getR dX1_takeLeastWord_45 fl_X1_31 rfl (sb_0 hB) (rb_11 hB hR) ?_
            refine xs_iload_n dX1_takeLeastWord_48 rfl ?_
            obtain ⟨s23, h⟩ := h
            refine xs_iald dX1_takeLeastWord_49 (sb_4 hB) s23 ?_
            refine xs_iconst (-1 : Int32) dX1_takeLeastWord_50 (by decide) ?_
            refine xs_icmp_ne 56 dX1_takeLeastWord_51 (by decide) (fun c24 => ?_) (fun c24 => ?_)
            · replace h := h.1 c24
              refine xs_aload_n dX1_takeLeastWord_56 rfl ?_
              refine xs_getR dX1_takeLeastWord_57 fl_X1_31 rfl (sb_0 hB) (rb_11 hB hR) ?_
              refine xs_iload_n dX1_takeLeastWord_60 rfl ?_
              obtain ⟨s25, h⟩ := h
              refine xs_iald dX1_takeLeastWord_61 (sb_4 hB) s25 ?_
              refine xs_istore_n [some (.ref B), some (.int v1), some (.int v2), some (.int (μ.1 (B + 4) (v2).toNatClampNeg)), none] dX1_takeLeastWord_62 (by decide) rfl ?_
              refine xs_aload_n dX1_takeLeastWord_63 rfl ?_
              refine xs_getR dX1_takeLeastWord_64 fl_X1_31 rfl (sb_0 hB) (rb_11 hB hR) ?_
              refine xs_iload_n dX1_takeLeastWord_67 rfl ?_
              refine xs_iconst (-1 : Int32) dX1_takeLeastWord_68 (by decide) ?_
              obtain ⟨s26, h⟩ := h
              refine xs_iast dX1_takeLeastWord_69 (sb_4 hB) s26 ?_
              refine xs_nmM (fun m27 e_m27 => ?_)
              replace h := h m27 e_m27
              have hR : xs_RT b m27 := by rw [e_m27]; exact hR
              refine xs_iload_n dX1_takeLeastWord_70 rfl ?_
              refine xs_iconst (nI 1) dX1_takeLeastWord_71 (by decide) ?_
              refine xs_iadd dX1_takeLeastWord_72 ?_
              refine xs_nmI (fun x28 e_x28 => ?_)
              replace h := h x28 e_x28
              refine xs_istore [some (.ref B), some (.int v1), some (.int v2), some (.int (μ.1 (B + 4) (v2).toNatClampNeg)), some (.int x28)] dX1_takeLeastWord_73 (by decide) rfl ?_
              exact xs_loc [some (.ref B), some (.int v1), none, some (.int (μ.1 (B + 4) (v2).toNatClampNeg)), some (.int x28)] ⟨rfl, ⟨rfl, ⟨rfl, ⟨rfl, trivial⟩⟩⟩⟩ (h hR)
            · replace h := h.2 c24
              refine xs_iconst (-1 : Int32) dX1_takeLeastWord_54 (by decide) ?_
              exact xs_ret (some (.int (-1 : Int32))) dX1_takeLeastWord_55 rfl rfl ⟨hR, _, rfl, h⟩
      · replace h := h.2 c20
        obtain ⟨x29, e_x29⟩ : ∃ z : Int32, z = v2 + (-1) := ⟨_, rfl⟩
        replace h := h x29 e_x29
        refine xs_iinc x29 [some (.ref B), some (.int v1), some (.int x29), none, none] dX1_takeLeastWord_25 (by decide) rfl (by rw [e_x29]; rfl) rfl ?_
        refine xs_goto 2 dX1_takeLeastWord_28 (by decide) ?_
        exact xs_loc [some (.ref B), some (.int v1), some (.int x29), none, none] ⟨rfl, ⟨rfl, ⟨rfl, trivial⟩⟩⟩ (h hR)
set_option maxHeartbeats 4000000 in
set_option maxRecDepth 100000 in
theorem l_X1_takeLeastWord_75 {b : Bool} {Q : Int32 → xm_M → Prop} {μ : xm_M} {B : Nat} (v1 : Int32) (v3 : Int32) (v4 : Int32) (hB : xs_bk B)
    (h : ((v1 < v4 →
       Q v3 μ) ∧
      (¬ v1 < v4 →
       ∀ x2 : Int32, x2 = (v3 <<< ((nI 1) &&& 31)) →
       vp_in v4 16 ∧
       ∀ m4 : xm_M, m4 = xu_I μ (B + 4) (upd (μ.1 (B + 4)) (v4).toNatClampNeg (x2 ||| (nI 1))) →
       ∀ x5 : Int32, x5 = v4 + nI 1 →
       hd_X1_takeLeastWord_75 b Q B v1 x2 x5 m4))) :
    hd_X1_takeLeastWord_75 b Q B v1 v3 v4 μ := by
  intro hR
  refine xs_iload dX1_takeLeastWord_75 rfl ?_
  refine xs_iload_n dX1_takeLeastWord_77 rfl ?_
  refine xs_icmp_gt 101 dX1_takeLeastWord_78 (by decide) (fun c1 => ?_) (fun c1 => ?_)
  · replace h := h.1 c1
    refine xs_iload_n dX1_takeLeastWord_101 rfl ?_
    exact xs_ret (some (.int v3)) dX1_takeLeastWord_102 rfl rfl ⟨hR, _, rfl, h⟩
  · replace h := h.2 c1
    refine xs_iload_n dX1_takeLeastWord_81 rfl ?_
    refine xs_iconst (nI 1) dX1_takeLeastWord_82 (by decide) ?_
    refine xs_ishl dX1_takeLeastWord_83 ?_
    refine xs_nmI (fun x2 e_x2 => ?_)
    replace h := h x2 e_x2
    refine xs_istore_n [some (.ref B), some (.int v1), none, some (.int x2), some (.int v4)] dX1_takeLeastWord_84 (by decide) rfl ?_
    refine xs_aload_n dX1_takeLeastWord_85 rfl ?_
    refine xs_getR dX1_takeLeastWord_86 fl_X1_31 rfl (sb_0 hB) (rb_11 hB hR) ?_
    refine xs_iload dX1_takeLeastWord_89 rfl ?_
    refine xs_iload_n dX1_takeLeastWord_91 rfl ?_
    refine xs_iconst (nI 1) dX1_takeLeastWord_92 (by decide) ?_
    refine xs_ior dX1_takeLeastWord_93 ?_
    obtain ⟨s3, h⟩ := h
    refine xs_iast dX1_takeLeastWord_94 (sb_4 hB) s3 ?_
    refine xs_nmM (fun m4 e_m4 => ?_)
    replace h := h m4 e_m4
    have hR : xs_RT b m4 := by rw [e_m4]; exact hR
    obtain ⟨x5, e_x5⟩ : ∃ z : Int32, z = v4 + nI 1 := ⟨_, rfl⟩
    replace h := h x5 e_x5
    refine xs_iinc x5 [some (.ref B), some (.int v1), none, some (.int x2), some (.int x5)] dX1_takeLeastWord_95 (by decide) rfl (by rw [e_x5]; rfl) rfl ?_
    refine xs_goto 75 dX1_takeLeastWord_98 (by decide) ?_
    exact xs_loc [some (.ref B), some (.int v1), none, some (.int x2), some (.int x5)] ⟨rfl, ⟨rfl, ⟨rfl, ⟨rfl, trivial⟩⟩⟩⟩ (h hR)
set_option maxHeartbeats 4000000 in
set_option maxRecDepth 100000 in
theorem g_X1_takeLeastWord {b : Bool} {Q : Int32 → xm_M → Prop} {μ : xm_M} {B : Nat} (v1 : Int32) (hB : xs_bk B)
    (h : hd_X1_takeLeastWord_2 b Q B v1 v1 μ) :
    xCi b b k_X1_takeLeastWord μ [.ref B, .int v1] Q := by
  intro hR
  refine xm_met [some (.ref B), some (.int v1), none, none, none] 3 (by decide) (by simp [lg_sl, Value.category]) rfl ?_
  refine xs_iload_n dX1_takeLeastWord_0 rfl ?_
  refine xs_istore_n [some (.ref B), some (.int v1), some (.int v1), none, none] dX1_takeLeastWord_1 (by decide) rfl ?_
  exact xs_loc [some (.ref B), some (.int v1), some (.int v1), none, none] ⟨rfl, ⟨rfl, ⟨rfl, trivial⟩⟩⟩ (h hR)
abbrev hd_X1_plant_8 (b : Bool) (Q : Int32 → xm_M → Prop) (B : Nat) (v1 : Int32) (v2 : Int32) (v4 : Int32) (v5 : Int32) (μ : xm_M) : Prop := xs_RT b μ → xR k_X1_plant none true (fun r _ μ' => xs_RT b μ' ∧ ∃ x : Int32, r = some (.int x) ∧ Q x μ') 8 [some (.ref B), some (.int v1), some (.int v2), none, some (.int v4), some (.int v5), none] [] xs_sh (0, 0) μ
set_option maxHeartbeats 4000000 in
set_option maxRecDepth 100000 in
theorem l_X1_plant_8 {b : Bool} {Q : Int32 → xm_M → Prop} {μ : xm_M} {B : Nat} (v1 : Int32) (v2 : Int32) (v4 : Int32) (v5 : Int32) (hB : xs_bk B)
    (h : ((v5 ≤ 0 →
       ∀ x2 : Int32, x2 = (((nI 2) * v4) + (v2 &&& (nI 1))) →
       ((x2 < 0 →
        Q (nI 0) μ) ∧
       (¬ x2 < 0 →
        ((x2 < (nI 128) →
         vp_in x2 128 ∧
         ∀ m6 : xm_M, m6 = xu_I μ (B + 3) (upd (μ.1 (B + 3)) (x2).toNatClampNeg ((-1 : Int32) - v1)) →
         Q (nI 1) m6) ∧
        (¬ x2 < (nI 128) →
         Q (nI 0) μ))))) ∧
      (¬ v5 ≤ 0 →
       ∀ x7 : Int32, x7 = (((nI 2) * v4) + ((v2 >>> (v5 &&& 31)) &&& (nI 1))) →
       ((x7 < 0 →
        Q (nI 0) μ) ∧
       (¬ x7 < 0 →
        ((x7 < (nI 128) →
         vp_in x7 128 ∧
         ((¬ (μ.1 (B + 3) (x7).toNatClampNeg) = 0 →
          vp_in x7 128 ∧
          ∀ x13 : Int32, x13 = v5 + (-1) →
          hd_X1_plant_8 b Q B v1 v2 (μ.1 (B + 3) (x7).toNatClampNeg) x13 μ) ∧
         ((μ.1 (B + 3) (x7).toNatClampNeg) = 0 →
          vp_in x7 128 ∧
          ∀ m15 : xm_M, m15 = xu_I μ (B + 3) (upd (μ.1 (B + 3)) (x7).toNatClampNeg (μ.1 B 10)) →
          ∀ m16 : xm_M, m16 = xu_I m15 B (upd (m15.1 B) 10 ((m15.1 B 10) + (nI 1))) →
          vp_in x7 128 ∧
          ∀ x18 : Int32, x18 = v5 + (-1) →
          hd_X1_plant_8 b Q B v1 v2 (m16.1 (B + 3) (x7).toNatClampNeg) x18 m16))) ∧
        (¬ x7 < (nI 128) →
         Q (nI 0) μ))))))) :
    hd_X1_plant_8 b Q B v1 v2 v4 v5 μ := by
  intro hR
  refine xs_iload dX1_plant_8 rfl ?_
  refine xs_if_le 89 dX1_plant_10 (by decide) (fun c1 => ?_) (fun c1 => ?_)
  · replace h := h.1 c1
    refine xs_iconst (nI 2) dX1_plant_89 (by decide) ?_
    refine xs_iload dX1_plant_90 rfl ?_
    refine xs_imul dX1_plant_92 ?_
    refine xs_iload_n dX1_plant_93 rfl ?_
    refine xs_iconst (nI 1) dX1_plant_94 (by decide) ?_
    refine xs_iand dX1_plant_95 ?_
    refine xs_iadd dX1_plant_96 ?_
    refine xs_nmI (fun x2 e_x2 => ?_)
    replace h := h x2 e_x2
    refine xs_istore [some (.ref B), some (.int v1), some (.int v2), none, some (.int v4), some (.int x2), none] dX1_plant_97 (by decide) rfl ?_
    refine xs_iload dX1_plant_99 rfl ?_
    refine xs_if_lt 114 dX1_plant_101 (by decide) (fun c3 => ?_) (fun c3 => ?_)
    · replace h := h.1 c3
      refine xs_iconst (nI 0) dX1_plant_114 (by decide) ?_
      exact xs_ret (some (.int (nI 0))) dX1_plant_115 rfl rfl ⟨hR, _, rfl, h⟩
    · replace h := h.2 c3
      refine xs_iload dX1_plant_104 rfl ?_
      refine xs_aload_n dX1_plant_106 rfl ?_
      refine xs_getR dX1_plant_107 fl_X1_28 rfl (sb_0 hB) (rb_9 hB hR) ?_
      refine xs_alen 0 dX1_plant_110 (sb_3 hB) (fun _ => rfl) ?_
      refine xs_icmp_lt 116 dX1_plant_111 (by decide) (fun c4 => ?_) (fun c4 => ?_)
      · replace h := h.1 c4
        refine xs_aload_n dX1_plant_116 rfl ?_
        refine xs_getR dX1_plant_117 fl_X1_28 rfl (sb_0 hB) (rb_9 hB hR) ?_
        refine xs_iload dX1_plant_120 rfl ?_
        refine xs_iconst (-1 : Int32) dX1_plant_122 (by decide) ?_
        refine xs_iload_n dX1_plant_123 rfl ?_
        refine xs_isub dX1_plant_124 ?_
        obtain ⟨s5, h⟩ := h
        refine xs_iast dX1_plant_125 (sb_3 hB) s5 ?_
        refine xs_nmM (fun m6 e_m6 => ?_)
        replace h := h m6 e_m6
        have hR : xs_RT b m6 := by rw [e_m6]; exact hR
        refine xs_iconst (nI 1) dX1_plant_126 (by decide) ?_
        exact xs_ret (some (.int (nI 1))) dX1_plant_127 rfl rfl ⟨hR, _, rfl, h⟩
      · replace h := h.2 c4
        refine xs_iconst (nI 0) dX1_plant_114 (by decide) ?_
        exact xs_ret (some (.int (nI 0))) dX1_plant_115 rfl rfl ⟨hR, _, rfl, h⟩
  · replace h := h.2 c1
    refine xs_iconst (nI 2) dX1_plant_13 (by decide) ?_
    refine xs_iload dX1_plant_14 rfl ?_
    refine xs_imul dX1_plant_16 ?_
    refine xs_iload_n dX1_plant_17 rfl ?_
    refine xs_iload dX1_plant_18 rfl ?_
    refine xs_ishr dX1_plant_20 ?_
    refine xs_iconst (nI 1) dX1_plant_21 (by decide) ?_
    refine xs_iand dX1_plant_22 ?_
    refine xs_iadd dX1_plant_23 ?_
    refine xs_nmI (fun x7 e_x7 => ?_)
    replace h := h x7 e_x7
    refine xs_istore [some (.ref B), some (.int v1), some (.int v2), none, some (.int v4), some (.int v5), some (.int x7)] dX1_plant_24 (by decide) rfl ?_
    refine xs_iload dX1_plant_26 rfl ?_
    refine xs_if_lt 41 dX1_plant_28 (by decide) (fun c8 => ?_) (fun c8 => ?_)
    · replace h := h.1 c8
      refine xs_iconst (nI 0) dX1_plant_41 (by decide) ?_
      exact xs_ret (some (.int (nI 0))) dX1_plant_42 rfl rfl ⟨hR, _, rfl, h⟩
    · replace h := h.2 c8
      refine xs_iload dX1_plant_31 rfl ?_
      refine xs_aload_n dX1_plant_33 rfl ?_
      refine xs_getR dX1_plant_34 fl_X1_28 rfl (sb_0 hB) (rb_9 hB hR) ?_
      refine xs_alen 0 dX1_plant_37 (sb_3 hB) (fun _ => rfl) ?_
      refine xs_icmp_lt 43 dX1_plant_38 (by decide) (fun c9 => ?_) (fun c9 => ?_)
      · replace h := h.1 c9
        refine xs_aload_n dX1_plant_43 rfl ?_
        refine xs_getR dX1_plant_44 fl_X1_28 rfl (sb_0 hB) (rb_9 hB hR) ?_
        refine xs_iload dX1_plant_47 rfl ?_
        obtain ⟨s10, h⟩ := h
        refine xs_iald dX1_plant_49 (sb_3 hB) s10 ?_
        refine xs_if_ne 74 dX1_plant_50 (by decide) (fun c11 => ?_) (fun c11 => ?_)
        · replace h := h.1 c11
          refine xs_aload_n dX1_plant_74 rfl ?_
          refine xs_getR dX1_plant_75 fl_X1_28 rfl (sb_0 hB) (rb_9 hB hR) ?_
          refine xs_iload dX1_plant_78 rfl ?_
          obtain ⟨s12, h⟩ := h
          refine xs_iald dX1_plant_80 (sb_3 hB) s12 ?_
          refine xs_istore [some (.ref B), some (.int v1), some (.int v2), none, some (.int (μ.1 (B + 3) (x7).toNatClampNeg)), some (.int v5), some (.int x7)] dX1_plant_81 (by decide) rfl ?_
          obtain ⟨x13, e_x13⟩ : ∃ z : Int32, z = v5 + (-1) := ⟨_, rfl⟩
          replace h := h x13 e_x13
          refine xs_iinc x13 [some (.ref B), some (.int v1), some (.int v2), none, some (.int (μ.1 (B + 3) (x7).toNatClampNeg)), some (.int x13), some (.int x7)] dX1_plant_83 (by decide) rfl (by rw [e_x13]; rfl) rfl ?_
          refine xs_goto 8 dX1_plant_86 (by decide) ?_
          exact xs_loc [some (.ref B), some (.int v1), some (.int v2), none, some (.int (μ.1 (B + 3) (x7).toNatClampNeg)), some (.int x13), none] ⟨rfl, ⟨rfl, ⟨rfl, ⟨rfl, ⟨rfl, trivial⟩⟩⟩⟩⟩ (h hR)
        · replace h := h.2 c11
          refine xs_aload_n dX1_plant_53 rfl ?_
          refine xs_getR dX1_plant_54 fl_X1_28 rfl (sb_0 hB) (rb_9 hB hR) ?_
          refine xs_iload dX1_plant_57 rfl ?_
          refine xs_aload_n dX1_plant_59 rfl ?_
          refine xs_getI dX1_plant_60 fl_X1_70.g rfl (sb_0 hB) ?_
          obtain ⟨s14, h⟩ := h
          refine xs_iast dX1_plant_63 (sb_3 hB) s14 ?_
          refine xs_nmM (fun m15 e_m15 => ?_)
          replace h := h m15 e_m15
          have hR : xs_RT b m15 := by rw [e_m15]; exact hR
          refine xs_aload_n dX1_plant_64 rfl ?_
          refine xs_dup dX1_plant_65 rfl ?_
          refine xs_getI dX1_plant_66 fl_X1_70.g rfl (sb_0 hB) ?_
          refine xs_iconst (nI 1) dX1_plant_69 (by decide) ?_
          refine xs_iadd dX1_plant_70 ?_
          refine xs_putI dX1_plant_71 fl_X1_70 rfl rfl rfl (sb_0 hB) ?_
          refine xs_nmM (fun m16 e_m16 => ?_)
          replace h := h m16 e_m16
          have hR : xs_RT b m16 := by rw [e_m16]; exact hR
          refine xs_aload_n dX1_plant_74 rfl ?_
          refine xs_getR dX1_plant_75 fl_X1_28 rfl (sb_0 hB) (rb_9 hB hR) ?_
          refine xs_iload dX1_plant_78 rfl ?_
          obtain ⟨s17, h⟩ := h
          refine xs_iald dX1_plant_80 (sb_3 hB) s17 ?_
          refine xs_istore [some (.ref B), some (.int v1), some (.int v2), none, some (.int (m16.1 (B + 3) (x7).toNatClampNeg)), some (.int v5), some (.int x7)] dX1_plant_81 (by decide) rfl ?_
          obtain ⟨x18, e_x18⟩ : ∃ z : Int32, z = v5 + (-1) := ⟨_, rfl⟩
          replace h := h x18 e_x18
          refine xs_iinc x18 [some (.ref B), some (.int v1), some (.int v2), none, some (.int (m16.1 (B + 3) (x7).toNatClampNeg)), some (.int x18), some (.int x7)] dX1_plant_83 (by decide) rfl (by rw [e_x18]; rfl) rfl ?_
          refine xs_goto 8 dX1_plant_86 (by decide) ?_
          exact xs_loc [some (.ref B), some (.int v1), some (.int v2), none, some (.int (m16.1 (B + 3) (x7).toNatClampNeg)), some (.int x18), none] ⟨rfl, ⟨rfl, ⟨rfl, ⟨rfl, ⟨rfl, trivial⟩⟩⟩⟩⟩ (h hR)
      · replace h := h.2 c9
        refine xs_iconst (nI 0) dX1_plant_41 (by decide) ?_
        exact xs_ret (some (.int (nI 0))) dX1_plant_42 rfl rfl ⟨hR, _, rfl, h⟩
set_option maxHeartbeats 4000000 in
set_option maxRecDepth 100000 in
theorem g_X1_plant {b : Bool} {Q : Int32 → xm_M → Prop} {μ : xm_M} {B : Nat} (v1 : Int32) (v2 : Int32) (v3 : Int32) (hB : xs_bk B)
    (h : ∀ x1 : Int32, x1 = (v3 - (nI 1)) →
      hd_X1_plant_8 b Q B v1 v2 (nI 0) x1 μ) :
    xCi b b k_X1_plant μ [.ref B, .int v1, .int v2, .int v3] Q := by
  intro hR
  refine xm_met [some (.ref B), some (.int v1), some (.int v2), some (.int v3), none, none, none] 3 (by decide) (by simp [lg_sl, Value.category]) rfl ?_
  refine xs_iconst (nI 0) dX1_plant_0 (by decide) ?_
  refine xs_istore [some (.ref B), some (.int v1), some (.int v2), some (.int v3), some (.int (nI 0)), none, none] dX1_plant_1 (by decide) rfl ?_
  refine xs_iload_n dX1_plant_3 rfl ?_
  refine xs_iconst (nI 1) dX1_plant_4 (by decide) ?_
  refine xs_isub dX1_plant_5 ?_
  refine xs_nmI (fun x1 e_x1 => ?_)
  replace h := h x1 e_x1
  refine xs_istore [some (.ref B), some (.int v1), some (.int v2), some (.int v3), some (.int (nI 0)), some (.int x1), none] dX1_plant_6 (by decide) rfl ?_
  exact xs_loc [some (.ref B), some (.int v1), some (.int v2), none, some (.int (nI 0)), some (.int x1), none] ⟨rfl, ⟨rfl, ⟨rfl, ⟨rfl, ⟨rfl, trivial⟩⟩⟩⟩⟩ (h hR)
abbrev hd_X1_nothingIsFree_2 (b : Bool) (Q : Int32 → xm_M → Prop) (B : Nat) (v1 : Int32) (μ : xm_M) : Prop := xs_RT b μ → xR k_X1_nothingIsFree none true (fun r _ μ' => xs_RT b μ' ∧ ∃ x : Int32, r = some (.int x) ∧ Q x μ') 2 [some (.ref B), some (.int v1)] [] xs_sh (0, 0) μ
set_option maxHeartbeats 4000000 in
set_option maxRecDepth 100000 in
theorem l_X1_nothingIsFree_2 {b : Bool} {Q : Int32 → xm_M → Prop} {μ : xm_M} {B : Nat} (v1 : Int32) (hB : xs_bk B)
    (h : (((nI 16) ≤ v1 →
       Q (nI 1) μ) ∧
      (¬ (nI 16) ≤ v1 →
       vp_in v1 16 ∧
       (((μ.1 (B + 4) (v1).toNatClampNeg) = (-1 : Int32) →
        ∀ x4 : Int32, x4 = v1 + nI 1 →
        hd_X1_nothingIsFree_2 b Q B x4 μ) ∧
       (¬ (μ.1 (B + 4) (v1).toNatClampNeg) = (-1 : Int32) →
        Q (nI 0) μ))))) :
    hd_X1_nothingIsFree_2 b Q B v1 μ := by
  intro hR
  refine xs_iload_n dX1_nothingIsFree_2 rfl ?_
  refine xs_aload_n dX1_nothingIsFree_3 rfl ?_
  refine xs_getR dX1_nothingIsFree_4 fl_X1_31 rfl (sb_0 hB) (rb_11 hB hR) ?_
  refine xs_alen 0 dX1_nothingIsFree_7 (sb_4 hB) (fun _ => rfl) ?_
  refine xs_icmp_ge 29 dX1_nothingIsFree_8 (by decide) (fun c1 => ?_) (fun c1 => ?_)
  · replace h := h.1 c1
    refine xs_iconst (nI 1) dX1_nothingIsFree_29 (by decide) ?_
    exact xs_ret (some (.int (nI 1))) dX1_nothingIsFree_30 rfl rfl ⟨hR, _, rfl, h⟩
  · replace h := h.2 c1
    refine xs_aload_n dX1_nothingIsFree_11 rfl ?_
    refine xs_getR dX1_nothingIsFree_12 fl_X1_31 rfl (sb_0 hB) (rb_11 hB hR) ?_
    refine xs_iload_n dX1_nothingIsFree_15 rfl ?_
    obtain ⟨s2, h⟩ := h
    refine xs_iald dX1_nothingIsFree_16 (sb_4 hB) s2 ?_
    refine xs_iconst (-1 : Int32) dX1_nothingIsFree_17 (by decide) ?_
    refine xs_icmp_eq 23 dX1_nothingIsFree_18 (by decide) (fun c3 => ?_) (fun c3 => ?_)
    · replace h := h.1 c3
      obtain ⟨x4, e_x4⟩ : ∃ z : Int32, z = v1 + nI 1 := ⟨_, rfl⟩
      replace h := h x4 e_x4
      refine xs_iinc x4 [some (.ref B), some (.int x4)] dX1_nothingIsFree_23 (by decide) rfl (by rw [e_x4]; rfl) rfl ?_
      refine xs_goto 2 dX1_nothingIsFree_26 (by decide) ?_
      exact xs_loc [some (.ref B), some (.int x4)] ⟨rfl, ⟨rfl, trivial⟩⟩ (h hR)
    · replace h := h.2 c3
      refine xs_iconst (nI 0) dX1_nothingIsFree_21 (by decide) ?_
      exact xs_ret (some (.int (nI 0))) dX1_nothingIsFree_22 rfl rfl ⟨hR, _, rfl, h⟩
set_option maxHeartbeats 4000000 in
set_option maxRecDepth 100000 in
theorem g_X1_nothingIsFree {b : Bool} {Q : Int32 → xm_M → Prop} {μ : xm_M} {B : Nat} (hB : xs_bk B)
    (h : hd_X1_nothingIsFree_2 b Q B (nI 0) μ) :
    xCi b b k_X1_nothingIsFree μ [.ref B] Q := by
  intro hR
  refine xm_met [some (.ref B), none] 1 (by decide) (by simp [lg_sl, Value.category]) rfl ?_
  refine xs_iconst (nI 0) dX1_nothingIsFree_0 (by decide) ?_
  refine xs_istore_n [some (.ref B), some (.int (nI 0))] dX1_nothingIsFree_1 (by decide) rfl ?_
  exact xs_loc [some (.ref B), some (.int (nI 0))] ⟨rfl, ⟨rfl, trivial⟩⟩ (h hR)
abbrev hd_X1_nextEntry_4 (Q : Int32 → xm_M → Prop) (B : Nat) (v2 : Int32) (v3 : Int32) (μ : xm_M) : Prop := xs_RT true μ → xR k_X1_nextEntry none true (fun r _ μ' => xs_RT true μ' ∧ ∃ x : Int32, r = some (.int x) ∧ Q x μ') 4 [some (.ref B), some (.ref 7), some (.int v2), some (.int v3), none, none] [] xs_sh (0, 0) μ
set_option maxHeartbeats 4000000 in
set_option maxRecDepth 100000 in
theorem l_X1_nextEntry_4 {Q : Int32 → xm_M → Prop} {μ : xm_M} {B : Nat} (v2 : Int32) (v3 : Int32) (hB : xs_bk B)
    (h : (((nI 15) ≤ v3 →
       ∃ Q2 : xm_M → Prop, xCv true true k_X0_close μ [.ref 7] Q2 ∧
       ∀ m3 : xm_M, Q2 m3 →
       Q (-1 : Int32) m3) ∧
      (¬ (nI 15) ≤ v3 →
       ∃ Q6 : Int32 → xm_M → Prop, xCi true true k_X0_bit μ [.ref 7] Q6 ∧
       ∀ (r8 : Int32) (m7 : xm_M), Q6 r8 m7 →
       ∀ x10 : Int32, x10 = (((nI 2) * v2) + r8) →
       ((r8 < 0 →
        Q (-1 : Int32) m7) ∧
       (¬ r8 < 0 →
        ((x10 < 0 →
         Q (-1 : Int32) m7) ∧
        (¬ x10 < 0 →
         ((x10 < (nI 128) →
          vp_in x10 128 ∧
          ((0 ≤ (m7.1 (B + 3) (x10).toNatClampNeg) →
           ((¬ (m7.1 (B + 3) (x10).toNatClampNeg) = 0 →
            ∀ x17 : Int32, x17 = v3 + nI 1 →
            hd_X1_nextEntry_4 Q B (m7.1 (B + 3) (x10).toNatClampNeg) x17 m7) ∧
           ((m7.1 (B + 3) (x10).toNatClampNeg) = 0 →
            ∃ Q18 : xm_M → Prop, xCv true true k_X0_close m7 [.ref 7] Q18 ∧
            ∀ m19 : xm_M, Q18 m19 →
            Q (-1 : Int32) m19))) ∧
          (¬ 0 ≤ (m7.1 (B + 3) (x10).toNatClampNeg) →
           Q ((-1 : Int32) - (m7.1 (B + 3) (x10).toNatClampNeg)) m7))) ∧
         (¬ x10 < (nI 128) →
          Q (-1 : Int32) m7))))))))) :
    hd_X1_nextEntry_4 Q B v2 v3 μ := by
  intro hR
  refine xs_iload_n dX1_nextEntry_4 rfl ?_
  refine xs_bipush (nI 15) dX1_nextEntry_5 (by decide) ?_
  refine xs_icmp_ge 75 dX1_nextEntry_7 (by decide) (fun c1 => ?_) (fun c1 => ?_)
  · replace h := h.1 c1
    refine xs_aload_n dX1_nextEntry_75 rfl ?_
    obtain ⟨Q2, hQ2, h⟩ := h
    refine xs_callV (j := k_X0_close) (As := []) (S := []) dX1_nextEntry_76 (hQ2 hR) ⟨ml_X1_86, mk_X0_close.1, mk_X0_close.2.1, mk_X0_close.2.2⟩ mv_X0_close ⟨Nat.le_of_ble_eq_true rfl, Nat.le_of_ble_eq_true rfl⟩ rfl (Nat.le_of_ble_eq_true rfl) sc_7 rfl ⟨rfl, rfl⟩ (fun rr m3 hq5 => ?_)
    obtain ⟨hR, rfl, hq5⟩ := hq5
    replace h := h m3 hq5
    refine xs_iconst (-1 : Int32) dX1_nextEntry_79 (by decide) ?_
    exact xs_ret (some (.int (-1 : Int32))) dX1_nextEntry_80 rfl rfl ⟨hR, _, rfl, h⟩
  · replace h := h.2 c1
    refine xs_aload_n dX1_nextEntry_10 rfl ?_
    obtain ⟨Q6, hQ6, h⟩ := h
    refine xs_callV (j := k_X0_bit) (As := []) (S := []) dX1_nextEntry_11 (hQ6 hR) ⟨ml_X1_83, mk_X0_bit.1, mk_X0_bit.2.1, mk_X0_bit.2.2⟩ mv_X0_bit ⟨Nat.le_of_ble_eq_true rfl, Nat.le_of_ble_eq_true rfl⟩ rfl (Nat.le_of_ble_eq_true rfl) sc_7 rfl ⟨rfl, rfl⟩ (fun rr m7 hq9 => ?_)
    obtain ⟨hR, r8, rfl, hq9⟩ := hq9
    replace h := h r8 m7 hq9
    refine xs_istore [some (.ref B), some (.ref 7), some (.int v2), some (.int v3), some (.int r8), none] dX1_nextEntry_14 (by decide) rfl ?_
    refine xs_iconst (nI 2) dX1_nextEntry_16 (by decide) ?_
    refine xs_iload_n dX1_nextEntry_17 rfl ?_
    refine xs_imul dX1_nextEntry_18 ?_
    refine xs_iload dX1_nextEntry_19 rfl ?_
    refine xs_iadd dX1_nextEntry_21 ?_
    refine xs_nmI (fun x10 e_x10 => ?_)
    replace h := h x10 e_x10
    refine xs_istore [some (.ref B), some (.ref 7), some (.int v2), some (.int v3), some (.int r8), some (.int x10)] dX1_nextEntry_22 (by decide) rfl ?_
    refine xs_iload dX1_nextEntry_24 rfl ?_
    refine xs_if_lt 44 dX1_nextEntry_26 (by decide) (fun c11 => ?_) (fun c11 => ?_)
    · replace h := h.1 c11
      refine xs_iconst (-1 : Int32) dX1_nextEntry_44 (by decide) ?_
      exact xs_ret (some (.int (-1 : Int32))) dX1_nextEntry_45 rfl rfl ⟨hR, _, rfl, h⟩
    · replace h := h.2 c11
      refine xs_iload dX1_nextEntry_29 rfl ?_
      refine xs_if_lt 44 dX1_nextEntry_31 (by decide) (fun c12 => ?_) (fun c12 => ?_)
      · replace h := h.1 c12
        refine xs_iconst (-1 : Int32) dX1_nextEntry_44 (by decide) ?_
        exact xs_ret (some (.int (-1 : Int32))) dX1_nextEntry_45 rfl rfl ⟨hR, _, rfl, h⟩
      · replace h := h.2 c12
        refine xs_iload dX1_nextEntry_34 rfl ?_
        refine xs_aload_n dX1_nextEntry_36 rfl ?_
        refine xs_getR dX1_nextEntry_37 fl_X1_28 rfl (sb_0 hB) (rb_9 hB hR) ?_
        refine xs_alen 0 dX1_nextEntry_40 (sb_3 hB) (fun _ => rfl) ?_
        refine xs_icmp_lt 46 dX1_nextEntry_41 (by decide) (fun c13 => ?_) (fun c13 => ?_)
        · replace h := h.1 c13
          refine xs_aload_n dX1_nextEntry_46 rfl ?_
          refine xs_getR dX1_nextEntry_47 fl_X1_28 rfl (sb_0 hB) (rb_9 hB hR) ?_
          refine xs_iload dX1_nextEntry_50 rfl ?_
          obtain ⟨s14, h⟩ := h
          refine xs_iald dX1_nextEntry_52 (sb_3 hB) s14 ?_
          refine xs_istore_n [some (.ref B), some (.ref 7), some (.int (m7.1 (B + 3) (x10).toNatClampNeg)), some (.int v3), some (.int r8), some (.int x10)] dX1_nextEntry_53 (by decide) rfl ?_
          refine xs_iload_n dX1_nextEntry_54 rfl ?_
          refine xs_if_ge 62 dX1_nextEntry_55 (by decide) (fun c15 => ?_) (fun c15 => ?_)
          · replace h := h.1 c15
            refine xs_iload_n dX1_nextEntry_62 rfl ?_
            refine xs_if_ne 69 dX1_nextEntry_63 (by decide) (fun c16 => ?_) (fun c16 => ?_)
            · replace h := h.1 c16
              obtain ⟨x17, e_x17⟩ : ∃ z : Int32, z = v3 + nI 1 := ⟨_, rfl⟩
              replace h := h x17 e_x17
              refine xs_iinc x17 [some (.ref B), some (.ref 7), some (.int (m7.1 (B + 3) (x10).toNatClampNeg)), some (.int x17), some (.int r8), some (.int x10)] dX1_nextEntry_69 (by decide) rfl (by rw [e_x17]; rfl) rfl ?_
              refine xs_goto 4 dX1_nextEntry_72 (by decide) ?_
              exact xs_loc [some (.ref B), some (.ref 7), some (.int (m7.1 (B + 3) (x10).toNatClampNeg)), some (.int x17), none, none] ⟨rfl, ⟨rfl, ⟨rfl, ⟨rfl, trivial⟩⟩⟩⟩ (h hR)
            · replace h := h.2 c16
              refine xs_goto 75 dX1_nextEntry_66 (by decide) ?_
              refine xs_aload_n dX1_nextEntry_75 rfl ?_
              obtain ⟨Q18, hQ18, h⟩ := h
              refine xs_callV (j := k_X0_close) (As := []) (S := []) dX1_nextEntry_76 (hQ18 hR) ⟨ml_X1_86, mk_X0_close.1, mk_X0_close.2.1, mk_X0_close.2.2⟩ mv_X0_close ⟨Nat.le_of_ble_eq_true rfl, Nat.le_of_ble_eq_true rfl⟩ rfl (Nat.le_of_ble_eq_true rfl) sc_7 rfl ⟨rfl, rfl⟩ (fun rr m19 hq21 => ?_)
              obtain ⟨hR, rfl, hq21⟩ := hq21
              replace h := h m19 hq21
              refine xs_iconst (-1 : Int32) dX1_nextEntry_79 (by decide) ?_
              exact xs_ret (some (.int (-1 : Int32))) dX1_nextEntry_80 rfl rfl ⟨hR, _, rfl, h⟩
          · replace h := h.2 c15
            refine xs_iconst (-1 : Int32) dX1_nextEntry_58 (by decide) ?_
            refine xs_iload_n dX1_nextEntry_59 rfl ?_
            refine xs_isub dX1_nextEntry_60 ?_
            exact xs_ret (some (.int ((-1 : Int32) - (m7.1 (B + 3) (x10).toNatClampNeg)))) dX1_nextEntry_61 rfl rfl ⟨hR, _, rfl, h⟩
        · replace h := h.2 c13
          refine xs_iconst (-1 : Int32) dX1_nextEntry_44 (by decide) ?_
          exact xs_ret (some (.int (-1 : Int32))) dX1_nextEntry_45 rfl rfl ⟨hR, _, rfl, h⟩
set_option maxHeartbeats 4000000 in
set_option maxRecDepth 100000 in
theorem g_X1_nextEntry {Q : Int32 → xm_M → Prop} {μ : xm_M} {B : Nat} (hB : xs_bk B)
    (h : hd_X1_nextEntry_4 Q B (nI 0) (nI 0) μ) :
    xCi true true k_X1_nextEntry μ [.ref B, .ref 7] Q := by
  intro hR
  refine xm_met [some (.ref B), some (.ref 7), none, none, none, none] 4 (by decide) (by simp [lg_sl, Value.category]) rfl ?_
  refine xs_iconst (nI 0) dX1_nextEntry_0 (by decide) ?_
  refine xs_istore_n [some (.ref B), some (.ref 7), some (.int (nI 0)), none, none, none] dX1_nextEntry_1 (by decide) rfl ?_
  refine xs_iconst (nI 0) dX1_nextEntry_2 (by decide) ?_
  refine xs_istore_n [some (.ref B), some (.ref 7), some (.int (nI 0)), some (.int (nI 0)), none, none] dX1_nextEntry_3 (by decide) rfl ?_
  exact xs_loc [some (.ref B), some (.ref 7), some (.int (nI 0)), some (.int (nI 0)), none, none] ⟨rfl, ⟨rfl, ⟨rfl, ⟨rfl, trivial⟩⟩⟩⟩ (h hR)
abbrev hd_X1_putValues_9 (b : Bool) (Q : xm_M → Prop) (B : Nat) (N : Nat) (v3 : Int32) (v4 : Int32) (v5 : Int32) (v6 : Int32) (μ : xm_M) : Prop := xs_RT b μ → xR k_X1_putValues none true (fun r _ μ' => xs_RT b μ' ∧ r = none ∧ Q μ') 9 [some (.ref B), none, some (.ref N), some (.int v3), some (.int v4), some (.int v5), some (.int v6), none, none, none] [] xs_sh (0, 0) μ
set_option maxHeartbeats 4000000 in
set_option maxRecDepth 100000 in
theorem l_X1_putValues_9 {b : Bool} {Q : xm_M → Prop} {μ : xm_M} {B : Nat} {N : Nat} (v3 : Int32) (v4 : Int32) (v5 : Int32) (v6 : Int32) (hB : xs_bk B) (hN : xs_sh[N]? = some (.inr (.int, 16)))
    (h : (((μ.1 B 0) ≤ v6 →
       Q μ) ∧
      (¬ (μ.1 B 0) ≤ v6 →
       (((μ.1 B 6) ≤ 0 →
        Q μ) ∧
       (¬ (μ.1 B 6) ≤ 0 →
        ¬ (μ.1 B 6) = 0 ∧
        ∀ x4 : Int32, x4 = (v4 - v4 / (μ.1 B 6) * (μ.1 B 6)) →
        ¬ (μ.1 B 6) = 0 ∧
        ∀ x6 : Int32, x6 = (v4 / (μ.1 B 6)) →
        ∀ x7 : Int32, x7 = (v3 + v6) →
        ((x4 < 0 →
         ∀ x9 : Int32, x9 = v6 + nI 1 →
         hd_X1_putValues_9 b Q B N v3 x6 v5 x9 μ) ∧
        (¬ x4 < 0 →
         (((nI 64) ≤ x4 →
          ∀ x11 : Int32, x11 = v6 + nI 1 →
          hd_X1_putValues_9 b Q B N v3 x6 v5 x11 μ) ∧
         (¬ (nI 64) ≤ x4 →
          ((x7 < 0 →
           ∀ x13 : Int32, x13 = v6 + nI 1 →
           hd_X1_putValues_9 b Q B N v3 x6 v5 x13 μ) ∧
          (¬ x7 < 0 →
           (((nI 16) ≤ x7 →
            ∀ x15 : Int32, x15 = v6 + nI 1 →
            hd_X1_putValues_9 b Q B N v3 x6 v5 x15 μ) ∧
           (¬ (nI 16) ≤ x7 →
            vp_in x4 64 ∧
            (((μ.1 B 5) = 0 →
             ∀ x18 : Int32, x18 = ((((μ.1 (B + 1) (x4).toNatClampNeg) * (μ.1 B 4)) + (μ.1 B 3)) + (nI 0)) →
             vp_in x7 16 ∧
             ∀ m20 : xm_M, m20 = xu_I μ N (upd (μ.1 N) (x7).toNatClampNeg x18) →
             ∀ x21 : Int32, x21 = v6 + nI 1 →
             hd_X1_putValues_9 b Q B N v3 x6 x18 x21 m20) ∧
            (¬ (μ.1 B 5) = 0 →
             ∀ x22 : Int32, x22 = ((((μ.1 (B + 1) (x4).toNatClampNeg) * (μ.1 B 4)) + (μ.1 B 3)) + v5) →
             vp_in x7 16 ∧
             ∀ m24 : xm_M, m24 = xu_I μ N (upd (μ.1 N) (x7).toNatClampNeg x22) →
             ∀ x25 : Int32, x25 = v6 + nI 1 →
             hd_X1_putValues_9 b Q B N v3 x6 x22 x25 m24))))))))))))))) :
    hd_X1_putValues_9 b Q B N v3 v4 v5 v6 μ := by
  intro hR
  refine xs_iload dX1_putValues_9 rfl ?_
  refine xs_aload_n dX1_putValues_11 rfl ?_
  refine xs_getI dX1_putValues_12 fl_X1_11.g rfl (sb_0 hB) ?_
  refine xs_icmp_ge 125 dX1_putValues_15 (by decide) (fun c1 => ?_) (fun c1 => ?_)
  · replace h := h.1 c1
    exact xs_ret none dX1_putValues_125 trivial rfl ⟨hR, rfl, h⟩
  · replace h := h.2 c1
    refine xs_aload_n dX1_putValues_18 rfl ?_
    refine xs_getI dX1_putValues_19 fl_X1_18.g rfl (sb_0 hB) ?_
    refine xs_if_le 125 dX1_putValues_22 (by decide) (fun c2 => ?_) (fun c2 => ?_)
    · replace h := h.1 c2
      exact xs_ret none dX1_putValues_125 trivial rfl ⟨hR, rfl, h⟩
    · replace h := h.2 c2
      refine xs_iload dX1_putValues_25 rfl ?_
      refine xs_aload_n dX1_putValues_27 rfl ?_
      refine xs_getI dX1_putValues_28 fl_X1_18.g rfl (sb_0 hB) ?_
      obtain ⟨s3, h⟩ := h
      refine xs_irem dX1_putValues_31 s3 ?_
      refine xs_nmI (fun x4 e_x4 => ?_)
      replace h := h x4 e_x4
      refine xs_istore [some (.ref B), none, some (.ref N), some (.int v3), some (.int v4), some (.int v5), some (.int v6), some (.int x4), none, none] dX1_putValues_32 (by decide) rfl ?_
      refine xs_iload dX1_putValues_34 rfl ?_
      refine xs_aload_n dX1_putValues_36 rfl ?_
      refine xs_getI dX1_putValues_37 fl_X1_18.g rfl (sb_0 hB) ?_
      obtain ⟨s5, h⟩ := h
      refine xs_idiv dX1_putValues_40 s5 ?_
      refine xs_nmI (fun x6 e_x6 => ?_)
      replace h := h x6 e_x6
      refine xs_istore [some (.ref B), none, some (.ref N), some (.int v3), some (.int x6), some (.int v5), some (.int v6), some (.int x4), none, none] dX1_putValues_41 (by decide) rfl ?_
      refine xs_iload_n dX1_putValues_43 rfl ?_
      refine xs_iload dX1_putValues_44 rfl ?_
      refine xs_iadd dX1_putValues_46 ?_
      refine xs_nmI (fun x7 e_x7 => ?_)
      replace h := h x7 e_x7
      refine xs_istore [some (.ref B), none, some (.ref N), some (.int v3), some (.int x6), some (.int v5), some (.int v6), some (.int x4), some (.int x7), none] dX1_putValues_47 (by decide) rfl ?_
      refine xs_iload dX1_putValues_49 rfl ?_
      refine xs_if_lt 119 dX1_putValues_51 (by decide) (fun c8 => ?_) (fun c8 => ?_)
      · replace h := h.1 c8
        obtain ⟨x9, e_x9⟩ : ∃ z : Int32, z = v6 + nI 1 := ⟨_, rfl⟩
        replace h := h x9 e_x9
        refine xs_iinc x9 [some (.ref B), none, some (.ref N), some (.int v3), some (.int x6), some (.int v5), some (.int x9), some (.int x4), some (.int x7), none] dX1_putValues_119 (by decide) rfl (by rw [e_x9]; rfl) rfl ?_
        refine xs_goto 9 dX1_putValues_122 (by decide) ?_
        exact xs_loc [some (.ref B), none, some (.ref N), some (.int v3), some (.int x6), some (.int v5), some (.int x9), none, none, none] ⟨rfl, ⟨rfl, ⟨rfl, ⟨rfl, ⟨rfl, ⟨rfl, trivial⟩⟩⟩⟩⟩⟩ (h hR)
      · replace h := h.2 c8
        refine xs_iload dX1_putValues_54 rfl ?_
        refine xs_aload_n dX1_putValues_56 rfl ?_
        refine xs_getR dX1_putValues_57 fl_X1_21 rfl (sb_0 hB) (rb_7 hB hR) ?_
        refine xs_alen 0 dX1_putValues_60 (sb_1 hB) (fun _ => rfl) ?_
        refine xs_icmp_ge 119 dX1_putValues_61 (by decide) (fun c10 => ?_) (fun c10 => ?_)
        · replace h := h.1 c10
          obtain ⟨x11, e_x11⟩ : ∃ z : Int32, z = v6 + nI 1 := ⟨_, rfl⟩
          replace h := h x11 e_x11
          refine xs_iinc x11 [some (.ref B), none, some (.ref N), some (.int v3), some (.int x6), some (.int v5), some (.int x11), some (.int x4), some (.int x7), none] dX1_putValues_119 (by decide) rfl (by rw [e_x11]; rfl) rfl ?_
          refine xs_goto 9 dX1_putValues_122 (by decide) ?_
          exact xs_loc [some (.ref B), none, some (.ref N), some (.int v3), some (.int x6), some (.int v5), some (.int x11), none, none, none] ⟨rfl, ⟨rfl, ⟨rfl, ⟨rfl, ⟨rfl, ⟨rfl, trivial⟩⟩⟩⟩⟩⟩ (h hR)
        · replace h := h.2 c10
          refine xs_iload dX1_putValues_64 rfl ?_
          refine xs_if_lt 119 dX1_putValues_66 (by decide) (fun c12 => ?_) (fun c12 => ?_)
          · replace h := h.1 c12
            obtain ⟨x13, e_x13⟩ : ∃ z : Int32, z = v6 + nI 1 := ⟨_, rfl⟩
            replace h := h x13 e_x13
            refine xs_iinc x13 [some (.ref B), none, some (.ref N), some (.int v3), some (.int x6), some (.int v5), some (.int x13), some (.int x4), some (.int x7), none] dX1_putValues_119 (by decide) rfl (by rw [e_x13]; rfl) rfl ?_
            refine xs_goto 9 dX1_putValues_122 (by decide) ?_
            exact xs_loc [some (.ref B), none, some (.ref N), some (.int v3), some (.int x6), some (.int v5), some (.int x13), none, none, none] ⟨rfl, ⟨rfl, ⟨rfl, ⟨rfl, ⟨rfl, ⟨rfl, trivial⟩⟩⟩⟩⟩⟩ (h hR)
          · replace h := h.2 c12
            refine xs_iload dX1_putValues_69 rfl ?_
            refine xs_aload_n dX1_putValues_71 rfl ?_
            refine xs_alen 0 dX1_putValues_72 hN (fun _ => rfl) ?_
            refine xs_icmp_ge 119 dX1_putValues_73 (by decide) (fun c14 => ?_) (fun c14 => ?_)
            · replace h := h.1 c14
              obtain ⟨x15, e_x15⟩ : ∃ z : Int32, z = v6 + nI 1 := ⟨_, rfl⟩
              replace h := h x15 e_x15
              refine xs_iinc x15 [some (.ref B), none, some (.ref N), some (.int v3), some (.int x6), some (.int v5), some (.int x15), some (.int x4), some (.int x7), none] dX1_putValues_119 (by decide) rfl (by rw [e_x15]; rfl) rfl ?_
              refine xs_goto 9 dX1_putValues_122 (by decide) ?_
              exact xs_loc [some (.ref B), none, some (.ref N), some (.int v3), some (.int x6), some (.int v5), some (.int x15), none, none, none] ⟨rfl, ⟨rfl, ⟨rfl, ⟨rfl, ⟨rfl, ⟨rfl, trivial⟩⟩⟩⟩⟩⟩ (h hR)
            · replace h := h.2 c14
              refine xs_aload_n dX1_putValues_76 rfl ?_
              refine xs_getR dX1_putValues_77 fl_X1_21 rfl (sb_0 hB) (rb_7 hB hR) ?_
              refine xs_iload dX1_putValues_80 rfl ?_
              obtain ⟨s16, h⟩ := h
              refine xs_iald dX1_putValues_82 (sb_1 hB) s16 ?_
              refine xs_aload_n dX1_putValues_83 rfl ?_
              refine xs_getI dX1_putValues_84 fl_X1_54.g rfl (sb_0 hB) ?_
              refine xs_imul dX1_putValues_87 ?_
              refine xs_aload_n dX1_putValues_88 rfl ?_
              refine xs_getI dX1_putValues_89 fl_X1_60.g rfl (sb_0 hB) ?_
              refine xs_iadd dX1_putValues_92 ?_
              refine xs_aload_n dX1_putValues_93 rfl ?_
              refine xs_getI dX1_putValues_94 fl_X1_57.g rfl (sb_0 hB) ?_
              refine xs_if_eq 105 dX1_putValues_97 (by decide) (fun c17 => ?_) (fun c17 => ?_)
              · replace h := h.1 c17
                refine xs_iconst (nI 0) dX1_putValues_105 (by decide) ?_
                refine xs_iadd dX1_putValues_106 ?_
                refine xs_nmI (fun x18 e_x18 => ?_)
                replace h := h x18 e_x18
                refine xs_istore [some (.ref B), none, some (.ref N), some (.int v3), some (.int x6), some (.int v5), some (.int v6), some (.int x4), some (.int x7), some (.int x18)] dX1_putValues_107 (by decide) rfl ?_
                refine xs_aload_n dX1_putValues_109 rfl ?_
                refine xs_iload dX1_putValues_110 rfl ?_
                refine xs_iload dX1_putValues_112 rfl ?_
                obtain ⟨s19, h⟩ := h
                refine xs_iast dX1_putValues_114 hN s19 ?_
                refine xs_nmM (fun m20 e_m20 => ?_)
                replace h := h m20 e_m20
                have hR : xs_RT b m20 := by rw [e_m20]; exact hR
                refine xs_iload dX1_putValues_115 rfl ?_
                refine xs_istore [some (.ref B), none, some (.ref N), some (.int v3), some (.int x6), some (.int x18), some (.int v6), some (.int x4), some (.int x7), some (.int x18)] dX1_putValues_117 (by decide) rfl ?_
                obtain ⟨x21, e_x21⟩ : ∃ z : Int32, z = v6 + nI 1 := ⟨_, rfl⟩
                replace h := h x21 e_x21
                refine xs_iinc x21 [some (.ref B), none, some (.ref N), some (.int v3), some (.int x6), some (.int x18), some (.int x21), some (.int x4), some (.int x7), some (.int x18)] dX1_putValues_119 (by decide) rfl (by rw [e_x21]; rfl) rfl ?_
                refine xs_goto 9 dX1_putValues_122 (by decide) ?_
                exact xs_loc [some (.ref B), none, some (.ref N), some (.int v3), some (.int x6), some (.int x18), some (.int x21), none, none, none] ⟨rfl, ⟨rfl, ⟨rfl, ⟨rfl, ⟨rfl, ⟨rfl, trivial⟩⟩⟩⟩⟩⟩ (h hR)
              · replace h := h.2 c17
                refine xs_iload dX1_putValues_100 rfl ?_
                refine xs_goto 106 dX1_putValues_102 (by decide) ?_
                refine xs_iadd dX1_putValues_106 ?_
                refine xs_nmI (fun x22 e_x22 => ?_)
                replace h := h x22 e_x22
                refine xs_istore [some (.ref B), none, some (.ref N), some (.int v3), some (.int x6), some (.int v5), some (.int v6), some (.int x4), some (.int x7), some (.int x22)] dX1_putValues_107 (by decide) rfl ?_
                refine xs_aload_n dX1_putValues_109 rfl ?_
                refine xs_iload dX1_putValues_110 rfl ?_
                refine xs_iload dX1_putValues_112 rfl ?_
                obtain ⟨s23, h⟩ := h
                refine xs_iast dX1_putValues_114 hN s23 ?_
                refine xs_nmM (fun m24 e_m24 => ?_)
                replace h := h m24 e_m24
                have hR : xs_RT b m24 := by rw [e_m24]; exact hR
                refine xs_iload dX1_putValues_115 rfl ?_
                refine xs_istore [some (.ref B), none, some (.ref N), some (.int v3), some (.int x6), some (.int x22), some (.int v6), some (.int x4), some (.int x7), some (.int x22)] dX1_putValues_117 (by decide) rfl ?_
                obtain ⟨x25, e_x25⟩ : ∃ z : Int32, z = v6 + nI 1 := ⟨_, rfl⟩
                replace h := h x25 e_x25
                refine xs_iinc x25 [some (.ref B), none, some (.ref N), some (.int v3), some (.int x6), some (.int x22), some (.int x25), some (.int x4), some (.int x7), some (.int x22)] dX1_putValues_119 (by decide) rfl (by rw [e_x25]; rfl) rfl ?_
                refine xs_goto 9 dX1_putValues_122 (by decide) ?_
                exact xs_loc [some (.ref B), none, some (.ref N), some (.int v3), some (.int x6), some (.int x22), some (.int x25), none, none, none] ⟨rfl, ⟨rfl, ⟨rfl, ⟨rfl, ⟨rfl, ⟨rfl, trivial⟩⟩⟩⟩⟩⟩ (h hR)
set_option maxHeartbeats 4000000 in
set_option maxRecDepth 100000 in
theorem g_X1_putValues {b : Bool} {Q : xm_M → Prop} {μ : xm_M} {B : Nat} (v1 : Int32) {N : Nat} (v3 : Int32) (hB : xs_bk B) (hN : xs_sh[N]? = some (.inr (.int, 16)))
    (h : hd_X1_putValues_9 b Q B N v3 v1 (nI 0) (nI 0) μ) :
    xCv b b k_X1_putValues μ [.ref B, .int v1, .ref N, .int v3] Q := by
  intro hR
  refine xm_met [some (.ref B), some (.int v1), some (.ref N), some (.int v3), none, none, none, none, none, none] 6 (by decide) (by simp [lg_sl, Value.category]) rfl ?_
  refine xs_iload_n dX1_putValues_0 rfl ?_
  refine xs_istore [some (.ref B), some (.int v1), some (.ref N), some (.int v3), some (.int v1), none, none, none, none, none] dX1_putValues_1 (by decide) rfl ?_
  refine xs_iconst (nI 0) dX1_putValues_3 (by decide) ?_
  refine xs_istore [some (.ref B), some (.int v1), some (.ref N), some (.int v3), some (.int v1), some (.int (nI 0)), none, none, none, none] dX1_putValues_4 (by decide) rfl ?_
  refine xs_iconst (nI 0) dX1_putValues_6 (by decide) ?_
  refine xs_istore [some (.ref B), some (.int v1), some (.ref N), some (.int v3), some (.int v1), some (.int (nI 0)), some (.int (nI 0)), none, none, none] dX1_putValues_7 (by decide) rfl ?_
  exact xs_loc [some (.ref B), none, some (.ref N), some (.int v3), some (.int v1), some (.int (nI 0)), some (.int (nI 0)), none, none, none] ⟨rfl, ⟨rfl, ⟨rfl, ⟨rfl, ⟨rfl, ⟨rfl, trivial⟩⟩⟩⟩⟩⟩ (h hR)
