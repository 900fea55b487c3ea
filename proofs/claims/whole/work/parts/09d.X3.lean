/-! walks of d.X3, printed by wip/gen/mkwalk.py -/
set_option maxHeartbeats 4000000 in
set_option maxRecDepth 100000 in
theorem g_X3_startOf {b : Bool} {Q : Int32 → xm_M → Prop} {μ : xm_M} (v1 : Int32) 
    (h : ((v1 < 0 →
       Q (nI 0) μ) ∧
      (¬ v1 < 0 →
       (((nI 60) ≤ v1 →
        Q (nI 0) μ) ∧
       (¬ (nI 60) ≤ v1 →
        vp_in v1 60 ∧
        Q (μ.1 4 (v1).toNatClampNeg) μ))))) :
    xCi b b k_X3_startOf μ [.ref 3, .int v1] Q := by
  intro hR
  refine xm_met [some (.ref 3), some (.int v1)] 0 (by decide) (by simp [lg_sl, Value.category]) rfl ?_
  refine xs_iload_n dX3_startOf_0 rfl ?_
  refine xs_if_lt 22 dX3_startOf_1 (by decide) (fun c1 => ?_) (fun c1 => ?_)
  · replace h := h.1 c1
    refine xs_iconst (nI 0) dX3_startOf_22 (by decide) ?_
    exact xs_ret (some (.int (nI 0))) dX3_startOf_23 rfl rfl ⟨hR, _, rfl, h⟩
  · replace h := h.2 c1
    refine xs_iload_n dX3_startOf_4 rfl ?_
    refine xs_aload_n dX3_startOf_5 rfl ?_
    refine xs_getR dX3_startOf_6 fl_X3_9 rfl sc_3 (rt_3_7 hR) ?_
    refine xs_alen 0 dX3_startOf_9 sc_4 (fun _ => rfl) ?_
    refine xs_icmp_ge 22 dX3_startOf_10 (by decide) (fun c2 => ?_) (fun c2 => ?_)
    · replace h := h.1 c2
      refine xs_iconst (nI 0) dX3_startOf_22 (by decide) ?_
      exact xs_ret (some (.int (nI 0))) dX3_startOf_23 rfl rfl ⟨hR, _, rfl, h⟩
    · replace h := h.2 c2
      refine xs_aload_n dX3_startOf_13 rfl ?_
      refine xs_getR dX3_startOf_14 fl_X3_9 rfl sc_3 (rt_3_7 hR) ?_
      refine xs_iload_n dX3_startOf_17 rfl ?_
      obtain ⟨s3, h⟩ := h
      refine xs_iald dX3_startOf_18 sc_4 s3 ?_
      refine xs_goto 23 dX3_startOf_19 (by decide) ?_
      exact xs_ret (some (.int (μ.1 4 (v1).toNatClampNeg))) dX3_startOf_23 rfl rfl ⟨hR, _, rfl, h⟩
set_option maxHeartbeats 4000000 in
set_option maxRecDepth 100000 in
theorem g_X3_lengthOf {b : Bool} {Q : Int32 → xm_M → Prop} {μ : xm_M} (v1 : Int32) 
    (h : ((v1 < 0 →
       Q (nI 0) μ) ∧
      (¬ v1 < 0 →
       (((nI 60) ≤ v1 →
        Q (nI 0) μ) ∧
       (¬ (nI 60) ≤ v1 →
        vp_in v1 60 ∧
        Q (μ.1 5 (v1).toNatClampNeg) μ))))) :
    xCi b b k_X3_lengthOf μ [.ref 3, .int v1] Q := by
  intro hR
  refine xm_met [some (.ref 3), some (.int v1)] 0 (by decide) (by simp [lg_sl, Value.category]) rfl ?_
  refine xs_iload_n dX3_lengthOf_0 rfl ?_
  refine xs_if_lt 22 dX3_lengthOf_1 (by decide) (fun c1 => ?_) (fun c1 => ?_)
  · replace h := h.1 c1
    refine xs_iconst (nI 0) dX3_lengthOf_22 (by decide) ?_
    exact xs_ret (some (.int (nI 0))) dX3_lengthOf_23 rfl rfl ⟨hR, _, rfl, h⟩
  · replace h := h.2 c1
    refine xs_iload_n dX3_lengthOf_4 rfl ?_
    refine xs_aload_n dX3_lengthOf_5 rfl ?_
    refine xs_getR dX3_lengthOf_6 fl_X3_13 rfl sc_3 (rt_3_8 hR) ?_
    refine xs_alen 0 dX3_lengthOf_9 sc_5 (fun _ => rfl) ?_
    refine xs_icmp_ge 22 dX3_lengthOf_10 (by decide) (fun c2 => ?_) (fun c2 => ?_)
    · replace h := h.1 c2
      refine xs_iconst (nI 0) dX3_lengthOf_22 (by decide) ?_
      exact xs_ret (some (.int (nI 0))) dX3_lengthOf_23 rfl rfl ⟨hR, _, rfl, h⟩
    · replace h := h.2 c2
      refine xs_aload_n dX3_lengthOf_13 rfl ?_
      refine xs_getR dX3_lengthOf_14 fl_X3_13 rfl sc_3 (rt_3_8 hR) ?_
      refine xs_iload_n dX3_lengthOf_17 rfl ?_
      obtain ⟨s3, h⟩ := h
      refine xs_iald dX3_lengthOf_18 sc_5 s3 ?_
      refine xs_goto 23 dX3_lengthOf_19 (by decide) ?_
      exact xs_ret (some (.int (μ.1 5 (v1).toNatClampNeg))) dX3_lengthOf_23 rfl rfl ⟨hR, _, rfl, h⟩
abbrev hd_X3_gather_8 (b : Bool) (Q : xm_M → Prop)  (v2 : Int32) (v3 : Int32) (μ : xm_M) : Prop := xs_RT b μ → xR k_X3_gather none true (fun r _ μ' => xs_RT b μ' ∧ r = none ∧ Q μ') 8 [some (.ref 3), some (.ref 1), some (.int v2), some (.int v3), none] [] xs_sh (0, 0) μ
set_option maxHeartbeats 4000000 in
set_option maxRecDepth 100000 in
theorem l_X3_gather_8 {b : Bool} {Q : xm_M → Prop} {μ : xm_M}  (v2 : Int32) (v3 : Int32) 
    (h : (((nI 6000) ≤ v3 →
       Q μ) ∧
      (¬ (nI 6000) ≤ v3 →
       (((μ.1 1 1) ≤ v2 →
        Q μ) ∧
       (¬ (μ.1 1 1) ≤ v2 →
        ∃ Q3 : Int32 → xm_M → Prop, xCi b b k_X6_rightPageAt μ [.ref 1, .int v2] Q3 ∧
        ∀ (r5 : Int32) (m4 : xm_M), Q3 r5 m4 →
        ((r5 ≤ 0 →
         ∀ x8 : Int32, x8 = (v2 + (if (nI 1) < r5 then r5 else (nI 1))) →
         ∀ x9 : Int32, x9 = v3 + nI 1 →
         hd_X3_gather_8 b Q  x8 x9 m4) ∧
        (¬ r5 ≤ 0 →
         ∃ Q10 : xm_M → Prop, xCv b b k_X3_takePage m4 [.ref 3, .ref 1, .int v2] Q10 ∧
         ∀ m11 : xm_M, Q10 m11 →
         ∀ x14 : Int32, x14 = (v2 + (if (nI 1) < r5 then r5 else (nI 1))) →
         ∀ x15 : Int32, x15 = v3 + nI 1 →
         hd_X3_gather_8 b Q  x14 x15 m11))))))) :
    hd_X3_gather_8 b Q  v2 v3 μ := by
  intro hR
  refine xs_iload_n dX3_gather_8 rfl ?_
  refine xs_sipush (nI 6000) dX3_gather_9 (by decide) ?_
  refine xs_icmp_ge 56 dX3_gather_12 (by decide) (fun c1 => ?_) (fun c1 => ?_)
  · replace h := h.1 c1
    exact xs_ret none dX3_gather_56 trivial rfl ⟨hR, rfl, h⟩
  · replace h := h.2 c1
    refine xs_iload_n dX3_gather_15 rfl ?_
    refine xs_aload_n dX3_gather_16 rfl ?_
    refine xs_getI dX3_gather_17 fl_X3_24.g rfl sc_1 ?_
    refine xs_icmp_ge 56 dX3_gather_20 (by decide) (fun c2 => ?_) (fun c2 => ?_)
    · replace h := h.1 c2
      exact xs_ret none dX3_gather_56 trivial rfl ⟨hR, rfl, h⟩
    · replace h := h.2 c2
      refine xs_aload_n dX3_gather_23 rfl ?_
      refine xs_iload_n dX3_gather_24 rfl ?_
      obtain ⟨Q3, hQ3, h⟩ := h
      refine xs_callV (j := k_X6_rightPageAt) (As := [.int v2]) (S := []) dX3_gather_25 (hQ3 hR) ⟨ml_X3_28, mk_X6_rightPageAt.1, mk_X6_rightPageAt.2.1, mk_X6_rightPageAt.2.2⟩ mv_X6_rightPageAt ⟨Nat.le_of_ble_eq_true rfl, Nat.le_of_ble_eq_true rfl⟩ rfl (Nat.le_of_ble_eq_true rfl) sc_1 rfl ⟨rfl, rfl⟩ (fun rr m4 hq6 => ?_)
      obtain ⟨hR, r5, rfl, hq6⟩ := hq6
      replace h := h r5 m4 hq6
      refine xs_istore [some (.ref 3), some (.ref 1), some (.int v2), some (.int v3), some (.int r5)] dX3_gather_28 (by decide) rfl ?_
      refine xs_iload dX3_gather_30 rfl ?_
      refine xs_if_le 41 dX3_gather_32 (by decide) (fun c7 => ?_) (fun c7 => ?_)
      · replace h := h.1 c7
        refine xs_iload_n dX3_gather_41 rfl ?_
        refine xs_iconst (nI 1) dX3_gather_42 (by decide) ?_
        refine xs_iload dX3_gather_43 rfl ?_
        refine xs_mmax dX3_gather_45 ml_X3_36 (Nat.le_of_ble_eq_true rfl) (Nat.le_of_ble_eq_true rfl) ?_
        refine xs_iadd dX3_gather_48 ?_
        refine xs_nmI (fun x8 e_x8 => ?_)
        replace h := h x8 e_x8
        refine xs_istore_n [some (.ref 3), some (.ref 1), some (.int x8), some (.int v3), some (.int r5)] dX3_gather_49 (by decide) rfl ?_
        obtain ⟨x9, e_x9⟩ : ∃ z : Int32, z = v3 + nI 1 := ⟨_, rfl⟩
        replace h := h x9 e_x9
        refine xs_iinc x9 [some (.ref 3), some (.ref 1), some (.int x8), some (.int x9), some (.int r5)] dX3_gather_50 (by decide) rfl (by rw [e_x9]; rfl) rfl ?_
        refine xs_goto 8 dX3_gather_53 (by decide) ?_
        exact xs_loc [some (.ref 3), some (.ref 1), some (.int x8), some (.int x9), none] ⟨rfl, ⟨rfl, ⟨rfl, ⟨rfl, trivial⟩⟩⟩⟩ (h hR)
      · replace h := h.2 c7
        refine xs_aload_n dX3_gather_35 rfl ?_
        refine xs_aload_n dX3_gather_36 rfl ?_
        refine xs_iload_n dX3_gather_37 rfl ?_
        obtain ⟨Q10, hQ10, h⟩ := h
        refine xs_callV (j := k_X3_takePage) (As := [.ref 1, .int v2]) (S := []) dX3_gather_38 (hQ10 hR) ⟨ml_X3_32, mk_X3_takePage.1, mk_X3_takePage.2.1, mk_X3_takePage.2.2⟩ mv_X3_takePage ⟨Nat.le_of_ble_eq_true rfl, Nat.le_of_ble_eq_true rfl⟩ rfl (Nat.le_of_ble_eq_true rfl) sc_3 rfl ⟨rfl, rfl⟩ (fun rr m11 hq13 => ?_)
        obtain ⟨hR, rfl, hq13⟩ := hq13
        replace h := h m11 hq13
        refine xs_iload_n dX3_gather_41 rfl ?_
        refine xs_iconst (nI 1) dX3_gather_42 (by decide) ?_
        refine xs_iload dX3_gather_43 rfl ?_
        refine xs_mmax dX3_gather_45 ml_X3_36 (Nat.le_of_ble_eq_true rfl) (Nat.le_of_ble_eq_true rfl) ?_
        refine xs_iadd dX3_gather_48 ?_
        refine xs_nmI (fun x14 e_x14 => ?_)
        replace h := h x14 e_x14
        refine xs_istore_n [some (.ref 3), some (.ref 1), some (.int x14), some (.int v3), some (.int r5)] dX3_gather_49 (by decide) rfl ?_
        obtain ⟨x15, e_x15⟩ : ∃ z : Int32, z = v3 + nI 1 := ⟨_, rfl⟩
        replace h := h x15 e_x15
        refine xs_iinc x15 [some (.ref 3), some (.ref 1), some (.int x14), some (.int x15), some (.int r5)] dX3_gather_50 (by decide) rfl (by rw [e_x15]; rfl) rfl ?_
        refine xs_goto 8 dX3_gather_53 (by decide) ?_
        exact xs_loc [some (.ref 3), some (.ref 1), some (.int x14), some (.int x15), none] ⟨rfl, ⟨rfl, ⟨rfl, ⟨rfl, trivial⟩⟩⟩⟩ (h hR)
set_option maxHeartbeats 4000000 in
set_option maxRecDepth 100000 in
theorem g_X3_gather {b : Bool} {Q : xm_M → Prop} {μ : xm_M}  
    (h : ∃ Q1 : xm_M → Prop, xCv b b k_X3_forget μ [.ref 3] Q1 ∧
      ∀ m2 : xm_M, Q1 m2 →
      hd_X3_gather_8 b Q  (nI 0) (nI 0) m2) :
    xCv b b k_X3_gather μ [.ref 3, .ref 1] Q := by
  intro hR
  refine xm_met [some (.ref 3), some (.ref 1), none, none, none] 3 (by decide) (by simp [lg_sl, Value.category]) rfl ?_
  refine xs_aload_n dX3_gather_0 rfl ?_
  obtain ⟨Q1, hQ1, h⟩ := h
  refine xs_callV (j := k_X3_forget) (As := []) (S := []) dX3_gather_1 (hQ1 hR) ⟨ml_X3_21, mk_X3_forget.1, mk_X3_forget.2.1, mk_X3_forget.2.2⟩ mv_X3_forget ⟨Nat.le_of_ble_eq_true rfl, Nat.le_of_ble_eq_true rfl⟩ rfl (Nat.le_of_ble_eq_true rfl) sc_3 rfl ⟨rfl, rfl⟩ (fun rr m2 hq4 => ?_)
  obtain ⟨hR, rfl, hq4⟩ := hq4
  replace h := h m2 hq4
  refine xs_iconst (nI 0) dX3_gather_4 (by decide) ?_
  refine xs_istore_n [some (.ref 3), some (.ref 1), some (.int (nI 0)), none, none] dX3_gather_5 (by decide) rfl ?_
  refine xs_iconst (nI 0) dX3_gather_6 (by decide) ?_
  refine xs_istore_n [some (.ref 3), some (.ref 1), some (.int (nI 0)), some (.int (nI 0)), none] dX3_gather_7 (by decide) rfl ?_
  exact xs_loc [some (.ref 3), some (.ref 1), some (.int (nI 0)), some (.int (nI 0)), none] ⟨rfl, ⟨rfl, ⟨rfl, ⟨rfl, trivial⟩⟩⟩⟩ (h hR)
set_option maxHeartbeats 4000000 in
set_option maxRecDepth 100000 in
theorem g_X3_forget {b : Bool} {Q : xm_M → Prop} {μ : xm_M}  
    (h : ∀ m1 : xm_M, m1 = xu_I μ 3 (upd (μ.1 3) 0 (nI 0)) →
      ∀ m2 : xm_M, m2 = xu_I m1 3 (upd (m1.1 3) 1 (nI 0)) →
      ∀ m3 : xm_M, m3 = xu_I m2 3 (upd (m2.1 3) 2 (nI 0)) →
      ∀ m4 : xm_M, m4 = xu_I m3 3 (upd (m3.1 3) 3 (nI 0)) →
      ∀ m5 : xm_M, m5 = xu_I m4 3 (upd (m4.1 3) 4 (nI 0)) →
      ∀ m6 : xm_M, m6 = xu_I m5 3 (upd (m5.1 3) 5 (nI 0)) →
      ∀ m7 : xm_M, m7 = xu_L m6 3 (vp_updL (m6.2.1 3) 6 (0 : Int64)) →
      ∀ m8 : xm_M, m8 = xu_I m7 3 (upd (m7.1 3) 10 (nI 0)) →
      ∀ m9 : xm_M, m9 = xu_I m8 3 (upd (m8.1 3) 11 (nI 0)) →
      ∀ m10 : xm_M, m10 = xu_I m9 3 (upd (m9.1 3) 12 (nI 0)) →
      ∀ m11 : xm_M, m11 = xu_I m10 3 (upd (m10.1 3) 13 (nI 0)) →
      Q m11) :
    xCv b b k_X3_forget μ [.ref 3] Q := by
  intro hR
  refine xm_met [some (.ref 3)] 0 (by decide) (by simp [lg_sl, Value.category]) rfl ?_
  refine xs_aload_n dX3_forget_0 rfl ?_
  refine xs_iconst (nI 0) dX3_forget_1 (by decide) ?_
  refine xs_putI dX3_forget_2 fl_X3_42 rfl rfl rfl sc_3 ?_
  refine xs_nmM (fun m1 e_m1 => ?_)
  replace h := h m1 e_m1
  have hR : xs_RT b m1 := by rw [e_m1]; exact hR
  refine xs_aload_n dX3_forget_5 rfl ?_
  refine xs_iconst (nI 0) dX3_forget_6 (by decide) ?_
  refine xs_putI dX3_forget_7 fl_X3_45 rfl rfl rfl sc_3 ?_
  refine xs_nmM (fun m2 e_m2 => ?_)
  replace h := h m2 e_m2
  have hR : xs_RT b m2 := by rw [e_m2]; exact hR
  refine xs_aload_n dX3_forget_10 rfl ?_
  refine xs_iconst (nI 0) dX3_forget_11 (by decide) ?_
  refine xs_putI dX3_forget_12 fl_X3_48 rfl rfl rfl sc_3 ?_
  refine xs_nmM (fun m3 e_m3 => ?_)
  replace h := h m3 e_m3
  have hR : xs_RT b m3 := by rw [e_m3]; exact hR
  refine xs_aload_n dX3_forget_15 rfl ?_
  refine xs_iconst (nI 0) dX3_forget_16 (by decide) ?_
  refine xs_putI dX3_forget_17 fl_X3_51 rfl rfl rfl sc_3 ?_
  refine xs_nmM (fun m4 e_m4 => ?_)
  replace h := h m4 e_m4
  have hR : xs_RT b m4 := by rw [e_m4]; exact hR
  refine xs_aload_n dX3_forget_20 rfl ?_
  refine xs_iconst (nI 0) dX3_forget_21 (by decide) ?_
  refine xs_putI dX3_forget_22 fl_X3_54 rfl rfl rfl sc_3 ?_
  refine xs_nmM (fun m5 e_m5 => ?_)
  replace h := h m5 e_m5
  have hR : xs_RT b m5 := by rw [e_m5]; exact hR
  refine xs_aload_n dX3_forget_25 rfl ?_
  refine xs_iconst (nI 0) dX3_forget_26 (by decide) ?_
  refine xs_putI dX3_forget_27 fl_X3_57 rfl rfl rfl sc_3 ?_
  refine xs_nmM (fun m6 e_m6 => ?_)
  replace h := h m6 e_m6
  have hR : xs_RT b m6 := by rw [e_m6]; exact hR
  refine xs_aload_n dX3_forget_30 rfl ?_
  refine xs_lconst (0 : Int64) dX3_forget_31 (by decide) ?_
  refine xs_putL dX3_forget_32 fl_X3_61 rfl sc_3 ?_
  refine xs_nmM (fun m7 e_m7 => ?_)
  replace h := h m7 e_m7
  have hR : xs_RT b m7 := by rw [e_m7]; exact hR
  refine xs_aload_n dX3_forget_35 rfl ?_
  refine xs_iconst (nI 0) dX3_forget_36 (by decide) ?_
  refine xs_putI dX3_forget_37 fl_X3_65 rfl rfl rfl sc_3 ?_
  refine xs_nmM (fun m8 e_m8 => ?_)
  replace h := h m8 e_m8
  have hR : xs_RT b m8 := by rw [e_m8]; exact hR
  refine xs_aload_n dX3_forget_40 rfl ?_
  refine xs_iconst (nI 0) dX3_forget_41 (by decide) ?_
  refine xs_putI dX3_forget_42 fl_X3_68 rfl rfl rfl sc_3 ?_
  refine xs_nmM (fun m9 e_m9 => ?_)
  replace h := h m9 e_m9
  have hR : xs_RT b m9 := by rw [e_m9]; exact hR
  refine xs_aload_n dX3_forget_45 rfl ?_
  refine xs_iconst (nI 0) dX3_forget_46 (by decide) ?_
  refine xs_putI dX3_forget_47 fl_X3_71 rfl rfl rfl sc_3 ?_
  refine xs_nmM (fun m10 e_m10 => ?_)
  replace h := h m10 e_m10
  have hR : xs_RT b m10 := by rw [e_m10]; exact hR
  refine xs_aload_n dX3_forget_50 rfl ?_
  refine xs_iconst (nI 0) dX3_forget_51 (by decide) ?_
  refine xs_putI dX3_forget_52 fl_X3_74 rfl rfl rfl sc_3 ?_
  refine xs_nmM (fun m11 e_m11 => ?_)
  replace h := h m11 e_m11
  have hR : xs_RT b m11 := by rw [e_m11]; exact hR
  exact xs_ret none dX3_forget_55 trivial rfl ⟨hR, rfl, h⟩
abbrev hd_X3_takePage_21 (b : Bool) (Q : xm_M → Prop)  (v2 : Int32) (v3 : Int32) (μ : xm_M) : Prop := xs_RT b μ → xR k_X3_takePage none true (fun r _ μ' => xs_RT b μ' ∧ r = none ∧ Q μ') 21 [some (.ref 3), some (.ref 1), some (.int v2), some (.int v3), none, none, none] [] xs_sh (0, 0) μ
abbrev hd_X3_takePage_94 (b : Bool) (Q : xm_M → Prop)  (v2 : Int32) (v4 : Int32) (v5 : Int32) (v6 : Int32) (μ : xm_M) : Prop := xs_RT b μ → xR k_X3_takePage none true (fun r _ μ' => xs_RT b μ' ∧ r = none ∧ Q μ') 94 [some (.ref 3), some (.ref 1), some (.int v2), none, some (.int v4), some (.int v5), some (.int v6)] [] xs_sh (0, 0) μ
set_option maxHeartbeats 4000000 in
set_option maxRecDepth 100000 in
theorem l_X3_takePage_21 {b : Bool} {Q : xm_M → Prop} {μ : xm_M}  (v2 : Int32) (v3 : Int32) 
    (h : ((v3 = (μ.1 3 10) →
       ∃ Q2 : Int32 → xm_M → Prop, xCi b b k_X6_fourAt μ [.ref 1, .int (v2 + (nI 18))] Q2 ∧
       ∀ (r4 : Int32) (m3 : xm_M), Q2 r4 m3 →
       ∃ Q6 : Int32 → xm_M → Prop, xCi b b k_X6_byteAt m3 [.ref 1, .int (v2 + (nI 5))] Q6 ∧
       ∀ (r8 : Int32) (m7 : xm_M), Q6 r8 m7 →
       (((r8 &&& (nI 1)) = 0 →
        ∀ m12 : xm_M, m12 = xu_I m7 3 (upd (m7.1 3) 13 (nI 0)) →
        hd_X3_takePage_94 b Q  v2 r4 r8 (nI 0) m12) ∧
       (¬ (r8 &&& (nI 1)) = 0 →
        ((r4 = ((m7.1 3 11) + (nI 1)) →
         hd_X3_takePage_94 b Q  v2 r4 r8 (nI 1) m7) ∧
        (¬ r4 = ((m7.1 3 11) + (nI 1)) →
         ∀ m15 : xm_M, m15 = xu_I m7 3 (upd (m7.1 3) 13 (nI 0)) →
         hd_X3_takePage_94 b Q  v2 r4 r8 (nI 1) m15))))) ∧
      (¬ v3 = (μ.1 3 10) →
       ∀ m16 : xm_M, m16 = xu_I μ 3 (upd (μ.1 3) 2 ((μ.1 3 2) + (nI 1))) →
       Q m16))) :
    hd_X3_takePage_21 b Q  v2 v3 μ := by
  intro hR
  refine xs_iload_n dX3_takePage_21 rfl ?_
  refine xs_aload_n dX3_takePage_22 rfl ?_
  refine xs_getI dX3_takePage_23 fl_X3_65.g rfl sc_3 ?_
  refine xs_icmp_eq 40 dX3_takePage_26 (by decide) (fun c1 => ?_) (fun c1 => ?_)
  · replace h := h.1 c1
    refine xs_aload_n dX3_takePage_40 rfl ?_
    refine xs_iload_n dX3_takePage_41 rfl ?_
    refine xs_bipush (nI 18) dX3_takePage_42 (by decide) ?_
    refine xs_iadd dX3_takePage_44 ?_
    obtain ⟨Q2, hQ2, h⟩ := h
    refine xs_callV (j := k_X6_fourAt) (As := [.int (v2 + (nI 18))]) (S := []) dX3_takePage_45 (hQ2 hR) ⟨ml_X3_77, mk_X6_fourAt.1, mk_X6_fourAt.2.1, mk_X6_fourAt.2.2⟩ mv_X6_fourAt ⟨Nat.le_of_ble_eq_true rfl, Nat.le_of_ble_eq_true rfl⟩ rfl (Nat.le_of_ble_eq_true rfl) sc_1 rfl ⟨rfl, rfl⟩ (fun rr m3 hq5 => ?_)
    obtain ⟨hR, r4, rfl, hq5⟩ := hq5
    replace h := h r4 m3 hq5
    refine xs_istore [some (.ref 3), some (.ref 1), some (.int v2), some (.int v3), some (.int r4), none, none] dX3_takePage_48 (by decide) rfl ?_
    refine xs_aload_n dX3_takePage_50 rfl ?_
    refine xs_iload_n dX3_takePage_51 rfl ?_
    refine xs_iconst (nI 5) dX3_takePage_52 (by decide) ?_
    refine xs_iadd dX3_takePage_53 ?_
    obtain ⟨Q6, hQ6, h⟩ := h
    refine xs_callV (j := k_X6_byteAt) (As := [.int (v2 + (nI 5))]) (S := []) dX3_takePage_54 (hQ6 hR) ⟨ml_X3_80, mk_X6_byteAt.1, mk_X6_byteAt.2.1, mk_X6_byteAt.2.2⟩ mv_X6_byteAt ⟨Nat.le_of_ble_eq_true rfl, Nat.le_of_ble_eq_true rfl⟩ rfl (Nat.le_of_ble_eq_true rfl) sc_1 rfl ⟨rfl, rfl⟩ (fun rr m7 hq9 => ?_)
    obtain ⟨hR, r8, rfl, hq9⟩ := hq9
    replace h := h r8 m7 hq9
    refine xs_istore [some (.ref 3), some (.ref 1), some (.int v2), some (.int v3), some (.int r4), some (.int r8), none] dX3_takePage_57 (by decide) rfl ?_
    refine xs_iload dX3_takePage_59 rfl ?_
    refine xs_iconst (nI 1) dX3_takePage_61 (by decide) ?_
    refine xs_iand dX3_takePage_62 ?_
    refine xs_if_eq 70 dX3_takePage_63 (by decide) (fun c10 => ?_) (fun c10 => ?_)
    · replace h := h.1 c10
      refine xs_iconst (nI 0) dX3_takePage_70 (by decide) ?_
      refine xs_istore [some (.ref 3), some (.ref 1), some (.int v2), some (.int v3), some (.int r4), some (.int r8), some (.int (nI 0))] dX3_takePage_71 (by decide) rfl ?_
      refine xs_iload dX3_takePage_73 rfl ?_
      refine xs_if_eq 89 dX3_takePage_75 (by decide) (fun _ => ?_) (fun c11 => absurd c11 (by decide))
      refine xs_aload_n dX3_takePage_89 rfl ?_
      refine xs_iconst (nI 0) dX3_takePage_90 (by decide) ?_
      refine xs_putI dX3_takePage_91 fl_X3_74 rfl rfl rfl sc_3 ?_
      refine xs_nmM (fun m12 e_m12 => ?_)
      replace h := h m12 e_m12
      have hR : xs_RT b m12 := by rw [e_m12]; exact hR
      exact xs_loc [some (.ref 3), some (.ref 1), some (.int v2), none, some (.int r4), some (.int r8), some (.int (nI 0))] ⟨rfl, ⟨rfl, ⟨rfl, ⟨rfl, ⟨rfl, ⟨rfl, trivial⟩⟩⟩⟩⟩⟩ (h hR)
    · replace h := h.2 c10
      refine xs_iconst (nI 1) dX3_takePage_66 (by decide) ?_
      refine xs_goto 71 dX3_takePage_67 (by decide) ?_
      refine xs_istore [some (.ref 3), some (.ref 1), some (.int v2), some (.int v3), some (.int r4), some (.int r8), some (.int (nI 1))] dX3_takePage_71 (by decide) rfl ?_
      refine xs_iload dX3_takePage_73 rfl ?_
      refine xs_if_eq 89 dX3_takePage_75 (by decide) (fun c13 => absurd c13 (by decide)) (fun _ => ?_)
      refine xs_iload dX3_takePage_78 rfl ?_
      refine xs_aload_n dX3_takePage_80 rfl ?_
      refine xs_getI dX3_takePage_81 fl_X3_68.g rfl sc_3 ?_
      refine xs_iconst (nI 1) dX3_takePage_84 (by decide) ?_
      refine xs_iadd dX3_takePage_85 ?_
      refine xs_icmp_eq 94 dX3_takePage_86 (by decide) (fun c14 => ?_) (fun c14 => ?_)
      · replace h := h.1 c14
        exact xs_loc [some (.ref 3), some (.ref 1), some (.int v2), none, some (.int r4), some (.int r8), some (.int (nI 1))] ⟨rfl, ⟨rfl, ⟨rfl, ⟨rfl, ⟨rfl, ⟨rfl, trivial⟩⟩⟩⟩⟩⟩ (h hR)
      · replace h := h.2 c14
        refine xs_aload_n dX3_takePage_89 rfl ?_
        refine xs_iconst (nI 0) dX3_takePage_90 (by decide) ?_
        refine xs_putI dX3_takePage_91 fl_X3_74 rfl rfl rfl sc_3 ?_
        refine xs_nmM (fun m15 e_m15 => ?_)
        replace h := h m15 e_m15
        have hR : xs_RT b m15 := by rw [e_m15]; exact hR
        exact xs_loc [some (.ref 3), some (.ref 1), some (.int v2), none, some (.int r4), some (.int r8), some (.int (nI 1))] ⟨rfl, ⟨rfl, ⟨rfl, ⟨rfl, ⟨rfl, ⟨rfl, trivial⟩⟩⟩⟩⟩⟩ (h hR)
  · replace h := h.2 c1
    refine xs_aload_n dX3_takePage_29 rfl ?_
    refine xs_dup dX3_takePage_30 rfl ?_
    refine xs_getI dX3_takePage_31 fl_X3_48.g rfl sc_3 ?_
    refine xs_iconst (nI 1) dX3_takePage_34 (by decide) ?_
    refine xs_iadd dX3_takePage_35 ?_
    refine xs_putI dX3_takePage_36 fl_X3_48 rfl rfl rfl sc_3 ?_
    refine xs_nmM (fun m16 e_m16 => ?_)
    replace h := h m16 e_m16
    have hR : xs_RT b m16 := by rw [e_m16]; exact hR
    exact xs_ret none dX3_takePage_39 trivial rfl ⟨hR, rfl, h⟩
set_option maxHeartbeats 4000000 in
set_option maxRecDepth 100000 in
theorem l_X3_takePage_94 {b : Bool} {Q : xm_M → Prop} {μ : xm_M}  (v2 : Int32) (v4 : Int32) (v5 : Int32) (v6 : Int32) 
    (h : ∀ m1 : xm_M, m1 = xu_I μ 3 (upd (μ.1 3) 1 ((μ.1 3 1) + (nI 1))) →
      ∀ m2 : xm_M, m2 = xu_I m1 3 (upd (m1.1 3) 11 v4) →
      (((v5 &&& (nI 4)) = 0 →
       ∀ m4 : xm_M, m4 = xu_I m2 3 (upd (m2.1 3) 5 (nI 0)) →
       ∃ Q5 : Int64 → xm_M → Prop, xCl b b k_X6_eightAt m4 [.ref 1, .int (v2 + (nI 6))] Q5 ∧
       ∀ (r7 : Int64) (m6 : xm_M), Q5 r7 m6 →
       ∀ m9 : xm_M, m9 = xu_L m6 3 (vp_updL (m6.2.1 3) 6 r7) →
       ((v6 = 0 →
        ∃ Q11 : xm_M → Prop, xCv b b k_X3_takeLaces m9 [.ref 3, .ref 1, .int v2, .int (nI 0)] Q11 ∧
        ∀ m12 : xm_M, Q11 m12 →
        Q m12) ∧
       (¬ v6 = 0 →
        ((¬ (m9.1 3 13) = 0 →
         ∃ Q16 : xm_M → Prop, xCv b b k_X3_takeLaces m9 [.ref 3, .ref 1, .int v2, .int (nI 0)] Q16 ∧
         ∀ m17 : xm_M, Q16 m17 →
         Q m17) ∧
        ((m9.1 3 13) = 0 →
         ∃ Q20 : xm_M → Prop, xCv b b k_X3_takeLaces m9 [.ref 3, .ref 1, .int v2, .int (nI 1)] Q20 ∧
         ∀ m21 : xm_M, Q20 m21 →
         Q m21))))) ∧
      (¬ (v5 &&& (nI 4)) = 0 →
       ∀ m24 : xm_M, m24 = xu_I m2 3 (upd (m2.1 3) 5 (nI 1)) →
       ∃ Q25 : Int64 → xm_M → Prop, xCl b b k_X6_eightAt m24 [.ref 1, .int (v2 + (nI 6))] Q25 ∧
       ∀ (r27 : Int64) (m26 : xm_M), Q25 r27 m26 →
       ∀ m29 : xm_M, m29 = xu_L m26 3 (vp_updL (m26.2.1 3) 6 r27) →
       ((v6 = 0 →
        ∃ Q31 : xm_M → Prop, xCv b b k_X3_takeLaces m29 [.ref 3, .ref 1, .int v2, .int (nI 0)] Q31 ∧
        ∀ m32 : xm_M, Q31 m32 →
        Q m32) ∧
       (¬ v6 = 0 →
        ((¬ (m29.1 3 13) = 0 →
         ∃ Q36 : xm_M → Prop, xCv b b k_X3_takeLaces m29 [.ref 3, .ref 1, .int v2, .int (nI 0)] Q36 ∧
         ∀ m37 : xm_M, Q36 m37 →
         Q m37) ∧
        ((m29.1 3 13) = 0 →
         ∃ Q40 : xm_M → Prop, xCv b b k_X3_takeLaces m29 [.ref 3, .ref 1, .int v2, .int (nI 1)] Q40 ∧
         ∀ m41 : xm_M, Q40 m41 →
         Q m41))))))) :
    hd_X3_takePage_94 b Q  v2 v4 v5 v6 μ := by
  intro hR
  refine xs_aload_n dX3_takePage_94 rfl ?_
  refine xs_dup dX3_takePage_95 rfl ?_
  refine xs_getI dX3_takePage_96 fl_X3_45.g rfl sc_3 ?_
  refine xs_iconst (nI 1) dX3_takePage_99 (by decide) ?_
  refine xs_iadd dX3_takePage_100 ?_
  refine xs_putI dX3_takePage_101 fl_X3_45 rfl rfl rfl sc_3 ?_
  refine xs_nmM (fun m1 e_m1 => ?_)
  replace h := h m1 e_m1
  have hR : xs_RT b m1 := by rw [e_m1]; exact hR
  refine xs_aload_n dX3_takePage_104 rfl ?_
  refine xs_iload dX3_takePage_105 rfl ?_
  refine xs_putI dX3_takePage_107 fl_X3_68 rfl rfl rfl sc_3 ?_
  refine xs_nmM (fun m2 e_m2 => ?_)
  replace h := h m2 e_m2
  have hR : xs_RT b m2 := by rw [e_m2]; exact hR
  refine xs_aload_n dX3_takePage_110 rfl ?_
  refine xs_iload dX3_takePage_111 rfl ?_
  refine xs_iconst (nI 4) dX3_takePage_113 (by decide) ?_
  refine xs_iand dX3_takePage_114 ?_
  refine xs_if_eq 122 dX3_takePage_115 (by decide) (fun c3 => ?_) (fun c3 => ?_)
  · replace h := h.1 c3
    refine xs_iconst (nI 0) dX3_takePage_122 (by decide) ?_
    refine xs_putI dX3_takePage_123 fl_X3_57 rfl rfl rfl sc_3 ?_
    refine xs_nmM (fun m4 e_m4 => ?_)
    replace h := h m4 e_m4
    have hR : xs_RT b m4 := by rw [e_m4]; exact hR
    refine xs_aload_n dX3_takePage_126 rfl ?_
    refine xs_aload_n dX3_takePage_127 rfl ?_
    refine xs_iload_n dX3_takePage_128 rfl ?_
    refine xs_bipush (nI 6) dX3_takePage_129 (by decide) ?_
    refine xs_iadd dX3_takePage_131 ?_
    obtain ⟨Q5, hQ5, h⟩ := h
    refine xs_callV (j := k_X6_eightAt) (As := [.int (v2 + (nI 6))]) (S := [.ref 3]) dX3_takePage_132 (hQ5 hR) ⟨ml_X3_83, mk_X6_eightAt.1, mk_X6_eightAt.2.1, mk_X6_eightAt.2.2⟩ mv_X6_eightAt ⟨Nat.le_of_ble_eq_true rfl, Nat.le_of_ble_eq_true rfl⟩ rfl (Nat.le_of_ble_eq_true rfl) sc_1 rfl ⟨rfl, rfl⟩ (fun rr m6 hq8 => ?_)
    obtain ⟨hR, r7, rfl, hq8⟩ := hq8
    replace h := h r7 m6 hq8
    refine xs_putL dX3_takePage_135 fl_X3_61 rfl sc_3 ?_
    refine xs_nmM (fun m9 e_m9 => ?_)
    replace h := h m9 e_m9
    have hR : xs_RT b m9 := by rw [e_m9]; exact hR
    refine xs_aload_n dX3_takePage_138 rfl ?_
    refine xs_aload_n dX3_takePage_139 rfl ?_
    refine xs_iload_n dX3_takePage_140 rfl ?_
    refine xs_iload dX3_takePage_141 rfl ?_
    refine xs_if_eq 157 dX3_takePage_143 (by decide) (fun c10 => ?_) (fun c10 => ?_)
    · replace h := h.1 c10
      refine xs_iconst (nI 0) dX3_takePage_157 (by decide) ?_
      obtain ⟨Q11, hQ11, h⟩ := h
      refine xs_callV (j := k_X3_takeLaces) (As := [.ref 1, .int v2, .int (nI 0)]) (S := []) dX3_takePage_158 (hQ11 hR) ⟨ml_X3_87, mk_X3_takeLaces.1, mk_X3_takeLaces.2.1, mk_X3_takeLaces.2.2⟩ mv_X3_takeLaces ⟨Nat.le_of_ble_eq_true rfl, Nat.le_of_ble_eq_true rfl⟩ rfl (Nat.le_of_ble_eq_true rfl) sc_3 rfl ⟨rfl, rfl⟩ (fun rr m12 hq14 => ?_)
      obtain ⟨hR, rfl, hq14⟩ := hq14
      replace h := h m12 hq14
      exact xs_ret none dX3_takePage_161 trivial rfl ⟨hR, rfl, h⟩
    · replace h := h.2 c10
      refine xs_aload_n dX3_takePage_146 rfl ?_
      refine xs_getI dX3_takePage_147 fl_X3_74.g rfl sc_3 ?_
      refine xs_if_ne 157 dX3_takePage_150 (by decide) (fun c15 => ?_) (fun c15 => ?_)
      · replace h := h.1 c15
        refine xs_iconst (nI 0) dX3_takePage_157 (by decide) ?_
        obtain ⟨Q16, hQ16, h⟩ := h
        refine xs_callV (j := k_X3_takeLaces) (As := [.ref 1, .int v2, .int (nI 0)]) (S := []) dX3_takePage_158 (hQ16 hR) ⟨ml_X3_87, mk_X3_takeLaces.1, mk_X3_takeLaces.2.1, mk_X3_takeLaces.2.2⟩ mv_X3_takeLaces ⟨Nat.le_of_ble_eq_true rfl, Nat.le_of_ble_eq_true rfl⟩ rfl (Nat.le_of_ble_eq_true rfl) sc_3 rfl ⟨rfl, rfl⟩ (fun rr m17 hq19 => ?_)
        obtain ⟨hR, rfl, hq19⟩ := hq19
        replace h := h m17 hq19
        exact xs_ret none dX3_takePage_161 trivial rfl ⟨hR, rfl, h⟩
      · replace h := h.2 c15
        refine xs_iconst (nI 1) dX3_takePage_153 (by decide) ?_
        refine xs_goto 158 dX3_takePage_154 (by decide) ?_
        obtain ⟨Q20, hQ20, h⟩ := h
        refine xs_callV (j := k_X3_takeLaces) (As := [.ref 1, .int v2, .int (nI 1)]) (S := []) dX3_takePage_158 (hQ20 hR) ⟨ml_X3_87, mk_X3_takeLaces.1, mk_X3_takeLaces.2.1, mk_X3_takeLaces.2.2⟩ mv_X3_takeLaces ⟨Nat.le_of_ble_eq_true rfl, Nat.le_of_ble_eq_true rfl⟩ rfl (Nat.le_of_ble_eq_true rfl) sc_3 rfl ⟨rfl, rfl⟩ (fun rr m21 hq23 => ?_)
        obtain ⟨hR, rfl, hq23⟩ := hq23
        replace h := h m21 hq23
        exact xs_ret none dX3_takePage_161 trivial rfl ⟨hR, rfl, h⟩
  · replace h := h.2 c3
    refine xs_iconst (nI 1) dX3_takePage_118 (by decide) ?_
    refine xs_goto 123 dX3_takePage_119 (by decide) ?_
    refine xs_putI dX3_takePage_123 fl_X3_57 rfl rfl rfl sc_3 ?_
    refine xs_nmM (fun m24 e_m24 => ?_)
    replace h := h m24 e_m24
    have hR : xs_RT b m24 := by rw [e_m24]; exact hR
    refine xs_aload_n dX3_takePage_126 rfl ?_
    refine xs_aload_n dX3_takePage_127 rfl ?_
    refine xs_iload_n dX3_takePage_128 rfl ?_
    refine xs_bipush (nI 6) dX3_takePage_129 (by decide) ?_
    refine xs_iadd dX3_takePage_131 ?_
    obtain ⟨Q25, hQ25, h⟩ := h
    refine xs_callV (j := k_X6_eightAt) (As := [.int (v2 + (nI 6))]) (S := [.ref 3]) dX3_takePage_132 (hQ25 hR) ⟨ml_X3_83, mk_X6_eightAt.1, mk_X6_eightAt.2.1, mk_X6_eightAt.2.2⟩ mv_X6_eightAt ⟨Nat.le_of_ble_eq_true rfl, Nat.le_of_ble_eq_true rfl⟩ rfl (Nat.le_of_ble_eq_true rfl) sc_1 rfl ⟨rfl, rfl⟩ (fun rr m26 hq28 => ?_)
    obtain ⟨hR, r27, rfl, hq28⟩ := hq28
    replace h := h r27 m26 hq28
    refine xs_putL dX3_takePage_135 fl_X3_61 rfl sc_3 ?_
    refine xs_nmM (fun m29 e_m29 => ?_)
    replace h := h m29 e_m29
    have hR : xs_RT b m29 := by rw [e_m29]; exact hR
    refine xs_aload_n dX3_takePage_138 rfl ?_
    refine xs_aload_n dX3_takePage_139 rfl ?_
    refine xs_iload_n dX3_takePage_140 rfl ?_
    refine xs_iload dX3_takePage_141 rfl ?_
    refine xs_if_eq 157 dX3_takePage_143 (by decide) (fun c30 => ?_) (fun c30 => ?_)
    · replace h := h.1 c30
      refine xs_iconst (nI 0) dX3_takePage_157 (by decide) ?_
      obtain ⟨Q31, hQ31, h⟩ := h
      refine xs_callV (j := k_X3_takeLaces) (As := [.ref 1, .int v2, .int (nI 0)]) (S := []) dX3_takePage_158 (hQ31 hR) ⟨ml_X3_87, mk_X3_takeLaces.1, mk_X3_takeLaces.2.1, mk_X3_takeLaces.2.2⟩ mv_X3_takeLaces ⟨Nat.le_of_ble_eq_true rfl, Nat.le_of_ble_eq_true rfl⟩ rfl (Nat.le_of_ble_eq_true rfl) sc_3 rfl ⟨rfl, rfl⟩ (fun rr m32 hq34 => ?_)
      obtain ⟨hR, rfl, hq34⟩ := hq34
      replace h := h m32 hq34
      exact xs_ret none dX3_takePage_161 trivial rfl ⟨hR, rfl, h⟩
    · replace h := h.2 c30
      refine xs_aload_n dX3_takePage_146 rfl ?_
      refine xs_getI dX3_takePage_147 fl_X3_74.g rfl sc_3 ?_
      refine xs_if_ne 157 dX3_takePage_150 (by decide) (fun c35 => ?_) (fun c35 => ?_)
      · replace h := h.1 c35
        refine xs_iconst (nI 0) dX3_takePage_157 (by decide) ?_
        obtain ⟨Q36, hQ36, h⟩ := h
        refine xs_callV (j := k_X3_takeLaces) (As := [.ref 1, .int v2, .int (nI 0)]) (S := []) dX3_takePage_158 (hQ36 hR) ⟨ml_X3_87, mk_X3_takeLaces.1, mk_X3_takeLaces.2.1, mk_X3_takeLaces.2.2⟩ mv_X3_takeLaces ⟨Nat.le_of_ble_eq_true rfl, Nat.le_of_ble_eq_true rfl⟩ rfl (Nat.le_of_ble_eq_true rfl) sc_3 rfl ⟨rfl, rfl⟩ (fun rr m37 hq39 => ?_)
        obtain ⟨hR, rfl, hq39⟩ := hq39
        replace h := h m37 hq39
        exact xs_ret none dX3_takePage_161 trivial rfl ⟨hR, rfl, h⟩
      · replace h := h.2 c35
        refine xs_iconst (nI 1) dX3_takePage_153 (by decide) ?_
        refine xs_goto 158 dX3_takePage_154 (by decide) ?_
        obtain ⟨Q40, hQ40, h⟩ := h
        refine xs_callV (j := k_X3_takeLaces) (As := [.ref 1, .int v2, .int (nI 1)]) (S := []) dX3_takePage_158 (hQ40 hR) ⟨ml_X3_87, mk_X3_takeLaces.1, mk_X3_takeLaces.2.1, mk_X3_takeLaces.2.2⟩ mv_X3_takeLaces ⟨Nat.le_of_ble_eq_true rfl, Nat.le_of_ble_eq_true rfl⟩ rfl (Nat.le_of_ble_eq_true rfl) sc_3 rfl ⟨rfl, rfl⟩ (fun rr m41 hq43 => ?_)
        obtain ⟨hR, rfl, hq43⟩ := hq43
        replace h := h m41 hq43
        exact xs_ret none dX3_takePage_161 trivial rfl ⟨hR, rfl, h⟩
set_option maxHeartbeats 4000000 in
set_option maxRecDepth 100000 in
theorem g_X3_takePage {b : Bool} {Q : xm_M → Prop} {μ : xm_M} (v2 : Int32) 
    (h : ∃ Q1 : Int32 → xm_M → Prop, xCi b b k_X6_fourAt μ [.ref 1, .int (v2 + (nI 14))] Q1 ∧
      ∀ (r3 : Int32) (m2 : xm_M), Q1 r3 m2 →
      ((¬ (m2.1 3 1) = 0 →
       hd_X3_takePage_21 b Q  v2 r3 m2) ∧
      ((m2.1 3 1) = 0 →
       ∀ m6 : xm_M, m6 = xu_I m2 3 (upd (m2.1 3) 10 r3) →
       hd_X3_takePage_21 b Q  v2 r3 m6))) :
    xCv b b k_X3_takePage μ [.ref 3, .ref 1, .int v2] Q := by
  intro hR
  refine xm_met [some (.ref 3), some (.ref 1), some (.int v2), none, none, none, none] 4 (by decide) (by simp [lg_sl, Value.category]) rfl ?_
  refine xs_aload_n dX3_takePage_0 rfl ?_
  refine xs_iload_n dX3_takePage_1 rfl ?_
  refine xs_bipush (nI 14) dX3_takePage_2 (by decide) ?_
  refine xs_iadd dX3_takePage_4 ?_
  obtain ⟨Q1, hQ1, h⟩ := h
  refine xs_callV (j := k_X6_fourAt) (As := [.int (v2 + (nI 14))]) (S := []) dX3_takePage_5 (hQ1 hR) ⟨ml_X3_77, mk_X6_fourAt.1, mk_X6_fourAt.2.1, mk_X6_fourAt.2.2⟩ mv_X6_fourAt ⟨Nat.le_of_ble_eq_true rfl, Nat.le_of_ble_eq_true rfl⟩ rfl (Nat.le_of_ble_eq_true rfl) sc_1 rfl ⟨rfl, rfl⟩ (fun rr m2 hq4 => ?_)
  obtain ⟨hR, r3, rfl, hq4⟩ := hq4
  replace h := h r3 m2 hq4
  refine xs_istore_n [some (.ref 3), some (.ref 1), some (.int v2), some (.int r3), none, none, none] dX3_takePage_8 (by decide) rfl ?_
  refine xs_aload_n dX3_takePage_9 rfl ?_
  refine xs_getI dX3_takePage_10 fl_X3_45.g rfl sc_3 ?_
  refine xs_if_ne 21 dX3_takePage_13 (by decide) (fun c5 => ?_) (fun c5 => ?_)
  · replace h := h.1 c5
    exact xs_loc [some (.ref 3), some (.ref 1), some (.int v2), some (.int r3), none, none, none] ⟨rfl, ⟨rfl, ⟨rfl, ⟨rfl, trivial⟩⟩⟩⟩ (h hR)
  · replace h := h.2 c5
    refine xs_aload_n dX3_takePage_16 rfl ?_
    refine xs_iload_n dX3_takePage_17 rfl ?_
    refine xs_putI dX3_takePage_18 fl_X3_65 rfl rfl rfl sc_3 ?_
    refine xs_nmM (fun m6 e_m6 => ?_)
    replace h := h m6 e_m6
    have hR : xs_RT b m6 := by rw [e_m6]; exact hR
    exact xs_loc [some (.ref 3), some (.ref 1), some (.int v2), some (.int r3), none, none, none] ⟨rfl, ⟨rfl, ⟨rfl, ⟨rfl, trivial⟩⟩⟩⟩ (h hR)
abbrev hd_X3_takeLaces_21 (b : Bool) (Q : xm_M → Prop)  (v2 : Int32) (v3 : Int32) (v4 : Int32) (v5 : Int32) (μ : xm_M) : Prop := xs_RT b μ → xR k_X3_takeLaces none true (fun r _ μ' => xs_RT b μ' ∧ r = none ∧ Q μ') 21 [some (.ref 3), some (.ref 1), some (.int v2), some (.int v3), some (.int v4), some (.int v5), none, none] [] xs_sh (0, 0) μ
abbrev hd_X3_takeLaces_67 (b : Bool) (Q : xm_M → Prop)  (v4 : Int32) (v5 : Int32) (v6 : Int32) (v7 : Int32) (μ : xm_M) : Prop := xs_RT b μ → xR k_X3_takeLaces none true (fun r _ μ' => xs_RT b μ' ∧ r = none ∧ Q μ') 67 [some (.ref 3), some (.ref 1), none, none, some (.int v4), some (.int v5), some (.int v6), some (.int v7)] [] xs_sh (0, 0) μ
set_option maxHeartbeats 4000000 in
set_option maxRecDepth 100000 in
theorem l_X3_takeLaces_21 {b : Bool} {Q : xm_M → Prop} {μ : xm_M}  (v2 : Int32) (v3 : Int32) (v4 : Int32) (v5 : Int32) 
    (h : ((v4 ≤ v5 →
       ∀ x2 : Int32, x2 = ((v2 + (nI 27)) + v4) →
       hd_X3_takeLaces_67 b Q  v4 v3 x2 (nI 0) μ) ∧
      (¬ v4 ≤ v5 →
       ∃ Q3 : Int32 → xm_M → Prop, xCi b b k_X6_byteAt μ [.ref 1, .int ((v2 + (nI 27)) + v5)] Q3 ∧
       ∀ (r5 : Int32) (m4 : xm_M), Q3 r5 m4 →
       vp_in v5 255 ∧
       ∀ m8 : xm_M, m8 = xu_I m4 6 (upd (m4.1 6) (v5).toNatClampNeg r5) →
       ∀ x9 : Int32, x9 = v5 + nI 1 →
       hd_X3_takeLaces_21 b Q  v2 v3 v4 x9 m8))) :
    hd_X3_takeLaces_21 b Q  v2 v3 v4 v5 μ := by
  intro hR
  refine xs_iload dX3_takeLaces_21 rfl ?_
  refine xs_iload dX3_takeLaces_23 rfl ?_
  refine xs_icmp_ge 52 dX3_takeLaces_25 (by decide) (fun c1 => ?_) (fun c1 => ?_)
  · replace h := h.1 c1
    refine xs_iload_n dX3_takeLaces_52 rfl ?_
    refine xs_istore [some (.ref 3), some (.ref 1), some (.int v2), some (.int v3), some (.int v4), some (.int v3), none, none] dX3_takeLaces_53 (by decide) rfl ?_
    refine xs_iload_n dX3_takeLaces_55 rfl ?_
    refine xs_bipush (nI 27) dX3_takeLaces_56 (by decide) ?_
    refine xs_iadd dX3_takeLaces_58 ?_
    refine xs_iload dX3_takeLaces_59 rfl ?_
    refine xs_iadd dX3_takeLaces_61 ?_
    refine xs_nmI (fun x2 e_x2 => ?_)
    replace h := h x2 e_x2
    refine xs_istore [some (.ref 3), some (.ref 1), some (.int v2), some (.int v3), some (.int v4), some (.int v3), some (.int x2), none] dX3_takeLaces_62 (by decide) rfl ?_
    refine xs_iconst (nI 0) dX3_takeLaces_64 (by decide) ?_
    refine xs_istore [some (.ref 3), some (.ref 1), some (.int v2), some (.int v3), some (.int v4), some (.int v3), some (.int x2), some (.int (nI 0))] dX3_takeLaces_65 (by decide) rfl ?_
    exact xs_loc [some (.ref 3), some (.ref 1), none, none, some (.int v4), some (.int v3), some (.int x2), some (.int (nI 0))] ⟨rfl, ⟨rfl, ⟨rfl, ⟨rfl, ⟨rfl, ⟨rfl, trivial⟩⟩⟩⟩⟩⟩ (h hR)
  · replace h := h.2 c1
    refine xs_aload_n dX3_takeLaces_28 rfl ?_
    refine xs_getR dX3_takeLaces_29 fl_X3_18 rfl sc_3 (rt_3_9 hR) ?_
    refine xs_iload dX3_takeLaces_32 rfl ?_
    refine xs_aload_n dX3_takeLaces_34 rfl ?_
    refine xs_iload_n dX3_takeLaces_35 rfl ?_
    refine xs_bipush (nI 27) dX3_takeLaces_36 (by decide) ?_
    refine xs_iadd dX3_takeLaces_38 ?_
    refine xs_iload dX3_takeLaces_39 rfl ?_
    refine xs_iadd dX3_takeLaces_41 ?_
    obtain ⟨Q3, hQ3, h⟩ := h
    refine xs_callV (j := k_X6_byteAt) (As := [.int ((v2 + (nI 27)) + v5)]) (S := [.int v5, .ref 6]) dX3_takeLaces_42 (hQ3 hR) ⟨ml_X3_80, mk_X6_byteAt.1, mk_X6_byteAt.2.1, mk_X6_byteAt.2.2⟩ mv_X6_byteAt ⟨Nat.le_of_ble_eq_true rfl, Nat.le_of_ble_eq_true rfl⟩ rfl (Nat.le_of_ble_eq_true rfl) sc_1 rfl ⟨rfl, rfl⟩ (fun rr m4 hq6 => ?_)
    obtain ⟨hR, r5, rfl, hq6⟩ := hq6
    replace h := h r5 m4 hq6
    obtain ⟨s7, h⟩ := h
    refine xs_iast dX3_takeLaces_45 sc_6 s7 ?_
    refine xs_nmM (fun m8 e_m8 => ?_)
    replace h := h m8 e_m8
    have hR : xs_RT b m8 := by rw [e_m8]; exact hR
    obtain ⟨x9, e_x9⟩ : ∃ z : Int32, z = v5 + nI 1 := ⟨_, rfl⟩
    replace h := h x9 e_x9
    refine xs_iinc x9 [some (.ref 3), some (.ref 1), some (.int v2), some (.int v3), some (.int v4), some (.int x9), none, none] dX3_takeLaces_46 (by decide) rfl (by rw [e_x9]; rfl) rfl ?_
    refine xs_goto 21 dX3_takeLaces_49 (by decide) ?_
    exact xs_loc [some (.ref 3), some (.ref 1), some (.int v2), some (.int v3), some (.int v4), some (.int x9), none, none] ⟨rfl, ⟨rfl, ⟨rfl, ⟨rfl, ⟨rfl, ⟨rfl, trivial⟩⟩⟩⟩⟩⟩ (h hR)
set_option maxHeartbeats 4000000 in
set_option maxRecDepth 100000 in
theorem l_X3_takeLaces_67 {b : Bool} {Q : xm_M → Prop} {μ : xm_M}  (v4 : Int32) (v5 : Int32) (v6 : Int32) (v7 : Int32) 
    (h : ((v4 ≤ v7 →
       Q μ) ∧
      (¬ v4 ≤ v7 →
       ((¬ v5 = 0 →
        vp_in v7 255 ∧
        (((nI 255) ≤ (μ.1 6 (v7).toNatClampNeg) →
         vp_in v7 255 ∧
         ∀ x6 : Int32, x6 = (v6 + (μ.1 6 (v7).toNatClampNeg)) →
         ∀ x7 : Int32, x7 = v7 + nI 1 →
         hd_X3_takeLaces_67 b Q  v4 v5 x6 x7 μ) ∧
        (¬ (nI 255) ≤ (μ.1 6 (v7).toNatClampNeg) →
         vp_in v7 255 ∧
         ∀ x9 : Int32, x9 = (v6 + (μ.1 6 (v7).toNatClampNeg)) →
         ∀ x10 : Int32, x10 = v7 + nI 1 →
         hd_X3_takeLaces_67 b Q  v4 (nI 0) x9 x10 μ))) ∧
       (v5 = 0 →
        vp_in v7 255 ∧
        ∃ Q12 : xm_M → Prop, xCv b b k_X3_takeLace μ [.ref 3, .ref 1, .int v6, .int (μ.1 6 (v7).toNatClampNeg)] Q12 ∧
        ∀ m13 : xm_M, Q12 m13 →
        vp_in v7 255 ∧
        ∀ x17 : Int32, x17 = (v6 + (m13.1 6 (v7).toNatClampNeg)) →
        ∀ x18 : Int32, x18 = v7 + nI 1 →
        hd_X3_takeLaces_67 b Q  v4 v5 x17 x18 m13))))) :
    hd_X3_takeLaces_67 b Q  v4 v5 v6 v7 μ := by
  intro hR
  refine xs_iload dX3_takeLaces_67 rfl ?_
  refine xs_iload dX3_takeLaces_69 rfl ?_
  refine xs_icmp_ge 130 dX3_takeLaces_71 (by decide) (fun c1 => ?_) (fun c1 => ?_)
  · replace h := h.1 c1
    exact xs_ret none dX3_takeLaces_130 trivial rfl ⟨hR, rfl, h⟩
  · replace h := h.2 c1
    refine xs_iload dX3_takeLaces_74 rfl ?_
    refine xs_if_ne 96 dX3_takeLaces_76 (by decide) (fun c2 => ?_) (fun c2 => ?_)
    · replace h := h.1 c2
      refine xs_aload_n dX3_takeLaces_96 rfl ?_
      refine xs_getR dX3_takeLaces_97 fl_X3_18 rfl sc_3 (rt_3_9 hR) ?_
      refine xs_iload dX3_takeLaces_100 rfl ?_
      obtain ⟨s3, h⟩ := h
      refine xs_iald dX3_takeLaces_102 sc_6 s3 ?_
      refine xs_sipush (nI 255) dX3_takeLaces_103 (by decide) ?_
      refine xs_icmp_ge 112 dX3_takeLaces_106 (by decide) (fun c4 => ?_) (fun c4 => ?_)
      · replace h := h.1 c4
        refine xs_iload dX3_takeLaces_112 rfl ?_
        refine xs_aload_n dX3_takeLaces_114 rfl ?_
        refine xs_getR dX3_takeLaces_115 fl_X3_18 rfl sc_3 (rt_3_9 hR) ?_
        refine xs_iload dX3_takeLaces_118 rfl ?_
        obtain ⟨s5, h⟩ := h
        refine xs_iald dX3_takeLaces_120 sc_6 s5 ?_
        refine xs_iadd dX3_takeLaces_121 ?_
        refine xs_nmI (fun x6 e_x6 => ?_)
        replace h := h x6 e_x6
        refine xs_istore [some (.ref 3), some (.ref 1), none, none, some (.int v4), some (.int v5), some (.int x6), some (.int v7)] dX3_takeLaces_122 (by decide) rfl ?_
        obtain ⟨x7, e_x7⟩ : ∃ z : Int32, z = v7 + nI 1 := ⟨_, rfl⟩
        replace h := h x7 e_x7
        refine xs_iinc x7 [some (.ref 3), some (.ref 1), none, none, some (.int v4), some (.int v5), some (.int x6), some (.int x7)] dX3_takeLaces_124 (by decide) rfl (by rw [e_x7]; rfl) rfl ?_
        refine xs_goto 67 dX3_takeLaces_127 (by decide) ?_
        exact xs_loc [some (.ref 3), some (.ref 1), none, none, some (.int v4), some (.int v5), some (.int x6), some (.int x7)] ⟨rfl, ⟨rfl, ⟨rfl, ⟨rfl, ⟨rfl, ⟨rfl, trivial⟩⟩⟩⟩⟩⟩ (h hR)
      · replace h := h.2 c4
        refine xs_iconst (nI 0) dX3_takeLaces_109 (by decide) ?_
        refine xs_istore [some (.ref 3), some (.ref 1), none, none, some (.int v4), some (.int (nI 0)), some (.int v6), some (.int v7)] dX3_takeLaces_110 (by decide) rfl ?_
        refine xs_iload dX3_takeLaces_112 rfl ?_
        refine xs_aload_n dX3_takeLaces_114 rfl ?_
        refine xs_getR dX3_takeLaces_115 fl_X3_18 rfl sc_3 (rt_3_9 hR) ?_
        refine xs_iload dX3_takeLaces_118 rfl ?_
        obtain ⟨s8, h⟩ := h
        refine xs_iald dX3_takeLaces_120 sc_6 s8 ?_
        refine xs_iadd dX3_takeLaces_121 ?_
        refine xs_nmI (fun x9 e_x9 => ?_)
        replace h := h x9 e_x9
        refine xs_istore [some (.ref 3), some (.ref 1), none, none, some (.int v4), some (.int (nI 0)), some (.int x9), some (.int v7)] dX3_takeLaces_122 (by decide) rfl ?_
        obtain ⟨x10, e_x10⟩ : ∃ z : Int32, z = v7 + nI 1 := ⟨_, rfl⟩
        replace h := h x10 e_x10
        refine xs_iinc x10 [some (.ref 3), some (.ref 1), none, none, some (.int v4), some (.int (nI 0)), some (.int x9), some (.int x10)] dX3_takeLaces_124 (by decide) rfl (by rw [e_x10]; rfl) rfl ?_
        refine xs_goto 67 dX3_takeLaces_127 (by decide) ?_
        exact xs_loc [some (.ref 3), some (.ref 1), none, none, some (.int v4), some (.int (nI 0)), some (.int x9), some (.int x10)] ⟨rfl, ⟨rfl, ⟨rfl, ⟨rfl, ⟨rfl, ⟨rfl, trivial⟩⟩⟩⟩⟩⟩ (h hR)
    · replace h := h.2 c2
      refine xs_aload_n dX3_takeLaces_79 rfl ?_
      refine xs_aload_n dX3_takeLaces_80 rfl ?_
      refine xs_iload dX3_takeLaces_81 rfl ?_
      refine xs_aload_n dX3_takeLaces_83 rfl ?_
      refine xs_getR dX3_takeLaces_84 fl_X3_18 rfl sc_3 (rt_3_9 hR) ?_
      refine xs_iload dX3_takeLaces_87 rfl ?_
      obtain ⟨s11, h⟩ := h
      refine xs_iald dX3_takeLaces_89 sc_6 s11 ?_
      obtain ⟨Q12, hQ12, h⟩ := h
      refine xs_callV (j := k_X3_takeLace) (As := [.ref 1, .int v6, .int (μ.1 6 (v7).toNatClampNeg)]) (S := []) dX3_takeLaces_90 (hQ12 hR) ⟨ml_X3_94, mk_X3_takeLace.1, mk_X3_takeLace.2.1, mk_X3_takeLace.2.2⟩ mv_X3_takeLace ⟨Nat.le_of_ble_eq_true rfl, Nat.le_of_ble_eq_true rfl⟩ rfl (Nat.le_of_ble_eq_true rfl) sc_3 rfl ⟨rfl, rfl⟩ (fun rr m13 hq15 => ?_)
      obtain ⟨hR, rfl, hq15⟩ := hq15
      replace h := h m13 hq15
      refine xs_goto 112 dX3_takeLaces_93 (by decide) ?_
      refine xs_iload dX3_takeLaces_112 rfl ?_
      refine xs_aload_n dX3_takeLaces_114 rfl ?_
      refine xs_getR dX3_takeLaces_115 fl_X3_18 rfl sc_3 (rt_3_9 hR) ?_
      refine xs_iload dX3_takeLaces_118 rfl ?_
      obtain ⟨s16, h⟩ := h
      refine xs_iald dX3_takeLaces_120 sc_6 s16 ?_
      refine xs_iadd dX3_takeLaces_121 ?_
      refine xs_nmI (fun x17 e_x17 => ?_)
      replace h := h x17 e_x17
      refine xs_istore [some (.ref 3), some (.ref 1), none, none, some (.int v4), some (.int v5), some (.int x17), some (.int v7)] dX3_takeLaces_122 (by decide) rfl ?_
      obtain ⟨x18, e_x18⟩ : ∃ z : Int32, z = v7 + nI 1 := ⟨_, rfl⟩
      replace h := h x18 e_x18
      refine xs_iinc x18 [some (.ref 3), some (.ref 1), none, none, some (.int v4), some (.int v5), some (.int x17), some (.int x18)] dX3_takeLaces_124 (by decide) rfl (by rw [e_x18]; rfl) rfl ?_
      refine xs_goto 67 dX3_takeLaces_127 (by decide) ?_
      exact xs_loc [some (.ref 3), some (.ref 1), none, none, some (.int v4), some (.int v5), some (.int x17), some (.int x18)] ⟨rfl, ⟨rfl, ⟨rfl, ⟨rfl, ⟨rfl, ⟨rfl, trivial⟩⟩⟩⟩⟩⟩ (h hR)
set_option maxHeartbeats 4000000 in
set_option maxRecDepth 100000 in
theorem g_X3_takeLaces {b : Bool} {Q : xm_M → Prop} {μ : xm_M} (v2 : Int32) (v3 : Int32) 
    (h : ∃ Q1 : Int32 → xm_M → Prop, xCi b b k_X6_byteAt μ [.ref 1, .int (v2 + (nI 26))] Q1 ∧
      ∀ (r3 : Int32) (m2 : xm_M), Q1 r3 m2 →
      ∀ x5 : Int32, x5 = (if (nI 255) < r3 then (nI 255) else r3) →
      hd_X3_takeLaces_21 b Q  v2 v3 x5 (nI 0) m2) :
    xCv b b k_X3_takeLaces μ [.ref 3, .ref 1, .int v2, .int v3] Q := by
  intro hR
  refine xm_met [some (.ref 3), some (.ref 1), some (.int v2), some (.int v3), none, none, none, none] 4 (by decide) (by simp [lg_sl, Value.category]) rfl ?_
  refine xs_aload_n dX3_takeLaces_0 rfl ?_
  refine xs_iload_n dX3_takeLaces_1 rfl ?_
  refine xs_bipush (nI 26) dX3_takeLaces_2 (by decide) ?_
  refine xs_iadd dX3_takeLaces_4 ?_
  obtain ⟨Q1, hQ1, h⟩ := h
  refine xs_callV (j := k_X6_byteAt) (As := [.int (v2 + (nI 26))]) (S := []) dX3_takeLaces_5 (hQ1 hR) ⟨ml_X3_80, mk_X6_byteAt.1, mk_X6_byteAt.2.1, mk_X6_byteAt.2.2⟩ mv_X6_byteAt ⟨Nat.le_of_ble_eq_true rfl, Nat.le_of_ble_eq_true rfl⟩ rfl (Nat.le_of_ble_eq_true rfl) sc_1 rfl ⟨rfl, rfl⟩ (fun rr m2 hq4 => ?_)
  obtain ⟨hR, r3, rfl, hq4⟩ := hq4
  replace h := h r3 m2 hq4
  refine xs_aload_n dX3_takeLaces_8 rfl ?_
  refine xs_getR dX3_takeLaces_9 fl_X3_18 rfl sc_3 (rt_3_9 hR) ?_
  refine xs_alen 0 dX3_takeLaces_12 sc_6 (fun _ => rfl) ?_
  refine xs_mmin dX3_takeLaces_13 ml_X3_91 (Nat.le_of_ble_eq_true rfl) (Nat.le_of_ble_eq_true rfl) ?_
  refine xs_nmI (fun x5 e_x5 => ?_)
  replace h := h x5 e_x5
  refine xs_istore [some (.ref 3), some (.ref 1), some (.int v2), some (.int v3), some (.int x5), none, none, none] dX3_takeLaces_16 (by decide) rfl ?_
  refine xs_iconst (nI 0) dX3_takeLaces_18 (by decide) ?_
  refine xs_istore [some (.ref 3), some (.ref 1), some (.int v2), some (.int v3), some (.int x5), some (.int (nI 0)), none, none] dX3_takeLaces_19 (by decide) rfl ?_
  exact xs_loc [some (.ref 3), some (.ref 1), some (.int v2), some (.int v3), some (.int x5), some (.int (nI 0)), none, none] ⟨rfl, ⟨rfl, ⟨rfl, ⟨rfl, ⟨rfl, ⟨rfl, trivial⟩⟩⟩⟩⟩⟩ (h hR)
set_option maxHeartbeats 4000000 in
set_option maxRecDepth 100000 in
theorem g_X3_takeLace {b : Bool} {Q : xm_M → Prop} {μ : xm_M} (v2 : Int32) (v3 : Int32) 
    (h : (((nI 2000) < ((μ.1 3 13) + v3) →
       ∀ m2 : xm_M, m2 = xu_I μ 3 (upd (μ.1 3) 13 ((μ.1 3 13) + v3)) →
       (((nI 255) ≤ v3 →
        Q m2) ∧
       (¬ (nI 255) ≤ v3 →
        ∃ Q4 : xm_M → Prop, xCv b b k_X3_endPacket m2 [.ref 3] Q4 ∧
        ∀ m5 : xm_M, Q4 m5 →
        Q m5))) ∧
      (¬ (nI 2000) < ((μ.1 3 13) + v3) →
       ∃ Q8 : xm_M → Prop, xCv b b k_X6_moveBack μ [.ref 1, .int v2, .int ((μ.1 3 12) + (μ.1 3 13)), .int v3] Q8 ∧
       ∀ m9 : xm_M, Q8 m9 →
       ∀ m12 : xm_M, m12 = xu_I m9 3 (upd (m9.1 3) 13 ((m9.1 3 13) + v3)) →
       (((nI 255) ≤ v3 →
        Q m12) ∧
       (¬ (nI 255) ≤ v3 →
        ∃ Q14 : xm_M → Prop, xCv b b k_X3_endPacket m12 [.ref 3] Q14 ∧
        ∀ m15 : xm_M, Q14 m15 →
        Q m15))))) :
    xCv b b k_X3_takeLace μ [.ref 3, .ref 1, .int v2, .int v3] Q := by
  intro hR
  refine xm_met [some (.ref 3), some (.ref 1), some (.int v2), some (.int v3)] 0 (by decide) (by simp [lg_sl, Value.category]) rfl ?_
  refine xs_aload_n dX3_takeLace_0 rfl ?_
  refine xs_getI dX3_takeLace_1 fl_X3_74.g rfl sc_3 ?_
  refine xs_iload_n dX3_takeLace_4 rfl ?_
  refine xs_iadd dX3_takeLace_5 ?_
  refine xs_sipush (nI 2000) dX3_takeLace_6 (by decide) ?_
  refine xs_icmp_gt 27 dX3_takeLace_9 (by decide) (fun c1 => ?_) (fun c1 => ?_)
  · replace h := h.1 c1
    refine xs_aload_n dX3_takeLace_27 rfl ?_
    refine xs_dup dX3_takeLace_28 rfl ?_
    refine xs_getI dX3_takeLace_29 fl_X3_74.g rfl sc_3 ?_
    refine xs_iload_n dX3_takeLace_32 rfl ?_
    refine xs_iadd dX3_takeLace_33 ?_
    refine xs_putI dX3_takeLace_34 fl_X3_74 rfl rfl rfl sc_3 ?_
    refine xs_nmM (fun m2 e_m2 => ?_)
    replace h := h m2 e_m2
    have hR : xs_RT b m2 := by rw [e_m2]; exact hR
    refine xs_iload_n dX3_takeLace_37 rfl ?_
    refine xs_sipush (nI 255) dX3_takeLace_38 (by decide) ?_
    refine xs_icmp_ge 48 dX3_takeLace_41 (by decide) (fun c3 => ?_) (fun c3 => ?_)
    · replace h := h.1 c3
      exact xs_ret none dX3_takeLace_48 trivial rfl ⟨hR, rfl, h⟩
    · replace h := h.2 c3
      refine xs_aload_n dX3_takeLace_44 rfl ?_
      obtain ⟨Q4, hQ4, h⟩ := h
      refine xs_callV (j := k_X3_endPacket) (As := []) (S := []) dX3_takeLace_45 (hQ4 hR) ⟨ml_X3_102, mk_X3_endPacket.1, mk_X3_endPacket.2.1, mk_X3_endPacket.2.2⟩ mv_X3_endPacket ⟨Nat.le_of_ble_eq_true rfl, Nat.le_of_ble_eq_true rfl⟩ rfl (Nat.le_of_ble_eq_true rfl) sc_3 rfl ⟨rfl, rfl⟩ (fun rr m5 hq7 => ?_)
      obtain ⟨hR, rfl, hq7⟩ := hq7
      replace h := h m5 hq7
      exact xs_ret none dX3_takeLace_48 trivial rfl ⟨hR, rfl, h⟩
  · replace h := h.2 c1
    refine xs_aload_n dX3_takeLace_12 rfl ?_
    refine xs_iload_n dX3_takeLace_13 rfl ?_
    refine xs_aload_n dX3_takeLace_14 rfl ?_
    refine xs_getI dX3_takeLace_15 fl_X3_71.g rfl sc_3 ?_
    refine xs_aload_n dX3_takeLace_18 rfl ?_
    refine xs_getI dX3_takeLace_19 fl_X3_74.g rfl sc_3 ?_
    refine xs_iadd dX3_takeLace_22 ?_
    refine xs_iload_n dX3_takeLace_23 rfl ?_
    obtain ⟨Q8, hQ8, h⟩ := h
    refine xs_callV (j := k_X6_moveBack) (As := [.int v2, .int ((μ.1 3 12) + (μ.1 3 13)), .int v3]) (S := []) dX3_takeLace_24 (hQ8 hR) ⟨ml_X3_98, mk_X6_moveBack.1, mk_X6_moveBack.2.1, mk_X6_moveBack.2.2⟩ mv_X6_moveBack ⟨Nat.le_of_ble_eq_true rfl, Nat.le_of_ble_eq_true rfl⟩ rfl (Nat.le_of_ble_eq_true rfl) sc_1 rfl ⟨rfl, rfl⟩ (fun rr m9 hq11 => ?_)
    obtain ⟨hR, rfl, hq11⟩ := hq11
    replace h := h m9 hq11
    refine xs_aload_n dX3_takeLace_27 rfl ?_
    refine xs_dup dX3_takeLace_28 rfl ?_
    refine xs_getI dX3_takeLace_29 fl_X3_74.g rfl sc_3 ?_
    refine xs_iload_n dX3_takeLace_32 rfl ?_
    refine xs_iadd dX3_takeLace_33 ?_
    refine xs_putI dX3_takeLace_34 fl_X3_74 rfl rfl rfl sc_3 ?_
    refine xs_nmM (fun m12 e_m12 => ?_)
    replace h := h m12 e_m12
    have hR : xs_RT b m12 := by rw [e_m12]; exact hR
    refine xs_iload_n dX3_takeLace_37 rfl ?_
    refine xs_sipush (nI 255) dX3_takeLace_38 (by decide) ?_
    refine xs_icmp_ge 48 dX3_takeLace_41 (by decide) (fun c13 => ?_) (fun c13 => ?_)
    · replace h := h.1 c13
      exact xs_ret none dX3_takeLace_48 trivial rfl ⟨hR, rfl, h⟩
    · replace h := h.2 c13
      refine xs_aload_n dX3_takeLace_44 rfl ?_
      obtain ⟨Q14, hQ14, h⟩ := h
      refine xs_callV (j := k_X3_endPacket) (As := []) (S := []) dX3_takeLace_45 (hQ14 hR) ⟨ml_X3_102, mk_X3_endPacket.1, mk_X3_endPacket.2.1, mk_X3_endPacket.2.2⟩ mv_X3_endPacket ⟨Nat.le_of_ble_eq_true rfl, Nat.le_of_ble_eq_true rfl⟩ rfl (Nat.le_of_ble_eq_true rfl) sc_3 rfl ⟨rfl, rfl⟩ (fun rr m15 hq17 => ?_)
      obtain ⟨hR, rfl, hq17⟩ := hq17
      replace h := h m15 hq17
      exact xs_ret none dX3_takeLace_48 trivial rfl ⟨hR, rfl, h⟩
set_option maxHeartbeats 4000000 in
set_option maxRecDepth 100000 in
theorem g_X3_endPacket {b : Bool} {Q : xm_M → Prop} {μ : xm_M}  
    (h : (((μ.1 3 13) ≤ (nI 2000) →
       (((μ.1 3 0) < 0 →
        ∀ m3 : xm_M, m3 = xu_I μ 3 (upd (μ.1 3) 13 (nI 0)) →
        Q m3) ∧
       (¬ (μ.1 3 0) < 0 →
        (((nI 60) ≤ (μ.1 3 0) →
         ∀ m5 : xm_M, m5 = xu_I μ 3 (upd (μ.1 3) 13 (nI 0)) →
         Q m5) ∧
        (¬ (nI 60) ≤ (μ.1 3 0) →
         vp_in (μ.1 3 0) 60 ∧
         ∀ m7 : xm_M, m7 = xu_I μ 4 (upd (μ.1 4) ((μ.1 3 0)).toNatClampNeg (μ.1 3 12)) →
         vp_in (m7.1 3 0) 60 ∧
         ∀ m9 : xm_M, m9 = xu_I m7 5 (upd (m7.1 5) ((m7.1 3 0)).toNatClampNeg (m7.1 3 13)) →
         ∀ m10 : xm_M, m10 = xu_I m9 3 (upd (m9.1 3) 0 ((m9.1 3 0) + (nI 1))) →
         ∀ m11 : xm_M, m11 = xu_I m10 3 (upd (m10.1 3) 12 ((m10.1 3 12) + (m10.1 3 13))) →
         ∀ m12 : xm_M, m12 = xu_I m11 3 (upd (m11.1 3) 4 (if (m11.1 3 4) < (m11.1 3 13) then (m11.1 3 13) else (m11.1 3 4))) →
         ∀ m13 : xm_M, m13 = xu_I m12 3 (upd (m12.1 3) 13 (nI 0)) →
         Q m13))))) ∧
      (¬ (μ.1 3 13) ≤ (nI 2000) →
       ∀ m14 : xm_M, m14 = xu_I μ 3 (upd (μ.1 3) 3 ((μ.1 3 3) + (nI 1))) →
       ∀ m15 : xm_M, m15 = xu_I m14 3 (upd (m14.1 3) 13 (nI 0)) →
       Q m15))) :
    xCv b b k_X3_endPacket μ [.ref 3] Q := by
  intro hR
  refine xm_met [some (.ref 3)] 0 (by decide) (by simp [lg_sl, Value.category]) rfl ?_
  refine xs_aload_n dX3_endPacket_0 rfl ?_
  refine xs_getI dX3_endPacket_1 fl_X3_74.g rfl sc_3 ?_
  refine xs_sipush (nI 2000) dX3_endPacket_4 (by decide) ?_
  refine xs_icmp_le 23 dX3_endPacket_7 (by decide) (fun c1 => ?_) (fun c1 => ?_)
  · replace h := h.1 c1
    refine xs_aload_n dX3_endPacket_23 rfl ?_
    refine xs_getI dX3_endPacket_24 fl_X3_42.g rfl sc_3 ?_
    refine xs_if_lt 103 dX3_endPacket_27 (by decide) (fun c2 => ?_) (fun c2 => ?_)
    · replace h := h.1 c2
      refine xs_aload_n dX3_endPacket_103 rfl ?_
      refine xs_iconst (nI 0) dX3_endPacket_104 (by decide) ?_
      refine xs_putI dX3_endPacket_105 fl_X3_74 rfl rfl rfl sc_3 ?_
      refine xs_nmM (fun m3 e_m3 => ?_)
      replace h := h m3 e_m3
      have hR : xs_RT b m3 := by rw [e_m3]; exact hR
      exact xs_ret none dX3_endPacket_108 trivial rfl ⟨hR, rfl, h⟩
    · replace h := h.2 c2
      refine xs_aload_n dX3_endPacket_30 rfl ?_
      refine xs_getI dX3_endPacket_31 fl_X3_42.g rfl sc_3 ?_
      refine xs_bipush (nI 60) dX3_endPacket_34 (by decide) ?_
      refine xs_icmp_ge 103 dX3_endPacket_36 (by decide) (fun c4 => ?_) (fun c4 => ?_)
      · replace h := h.1 c4
        refine xs_aload_n dX3_endPacket_103 rfl ?_
        refine xs_iconst (nI 0) dX3_endPacket_104 (by decide) ?_
        refine xs_putI dX3_endPacket_105 fl_X3_74 rfl rfl rfl sc_3 ?_
        refine xs_nmM (fun m5 e_m5 => ?_)
        replace h := h m5 e_m5
        have hR : xs_RT b m5 := by rw [e_m5]; exact hR
        exact xs_ret none dX3_endPacket_108 trivial rfl ⟨hR, rfl, h⟩
      · replace h := h.2 c4
        refine xs_aload_n dX3_endPacket_39 rfl ?_
        refine xs_getR dX3_endPacket_40 fl_X3_9 rfl sc_3 (rt_3_7 hR) ?_
        refine xs_aload_n dX3_endPacket_43 rfl ?_
        refine xs_getI dX3_endPacket_44 fl_X3_42.g rfl sc_3 ?_
        refine xs_aload_n dX3_endPacket_47 rfl ?_
        refine xs_getI dX3_endPacket_48 fl_X3_71.g rfl sc_3 ?_
        obtain ⟨s6, h⟩ := h
        refine xs_iast dX3_endPacket_51 sc_4 s6 ?_
        refine xs_nmM (fun m7 e_m7 => ?_)
        replace h := h m7 e_m7
        have hR : xs_RT b m7 := by rw [e_m7]; exact hR
        refine xs_aload_n dX3_endPacket_52 rfl ?_
        refine xs_getR dX3_endPacket_53 fl_X3_13 rfl sc_3 (rt_3_8 hR) ?_
        refine xs_aload_n dX3_endPacket_56 rfl ?_
        refine xs_getI dX3_endPacket_57 fl_X3_42.g rfl sc_3 ?_
        refine xs_aload_n dX3_endPacket_60 rfl ?_
        refine xs_getI dX3_endPacket_61 fl_X3_74.g rfl sc_3 ?_
        obtain ⟨s8, h⟩ := h
        refine xs_iast dX3_endPacket_64 sc_5 s8 ?_
        refine xs_nmM (fun m9 e_m9 => ?_)
        replace h := h m9 e_m9
        have hR : xs_RT b m9 := by rw [e_m9]; exact hR
        refine xs_aload_n dX3_endPacket_65 rfl ?_
        refine xs_dup dX3_endPacket_66 rfl ?_
        refine xs_getI dX3_endPacket_67 fl_X3_42.g rfl sc_3 ?_
        refine xs_iconst (nI 1) dX3_endPacket_70 (by decide) ?_
        refine xs_iadd dX3_endPacket_71 ?_
        refine xs_putI dX3_endPacket_72 fl_X3_42 rfl rfl rfl sc_3 ?_
        refine xs_nmM (fun m10 e_m10 => ?_)
        replace h := h m10 e_m10
        have hR : xs_RT b m10 := by rw [e_m10]; exact hR
        refine xs_aload_n dX3_endPacket_75 rfl ?_
        refine xs_dup dX3_endPacket_76 rfl ?_
        refine xs_getI dX3_endPacket_77 fl_X3_71.g rfl sc_3 ?_
        refine xs_aload_n dX3_endPacket_80 rfl ?_
        refine xs_getI dX3_endPacket_81 fl_X3_74.g rfl sc_3 ?_
        refine xs_iadd dX3_endPacket_84 ?_
        refine xs_putI dX3_endPacket_85 fl_X3_71 rfl rfl rfl sc_3 ?_
        refine xs_nmM (fun m11 e_m11 => ?_)
        replace h := h m11 e_m11
        have hR : xs_RT b m11 := by rw [e_m11]; exact hR
        refine xs_aload_n dX3_endPacket_88 rfl ?_
        refine xs_aload_n dX3_endPacket_89 rfl ?_
        refine xs_getI dX3_endPacket_90 fl_X3_54.g rfl sc_3 ?_
        refine xs_aload_n dX3_endPacket_93 rfl ?_
        refine xs_getI dX3_endPacket_94 fl_X3_74.g rfl sc_3 ?_
        refine xs_mmax dX3_endPacket_97 ml_X3_36 (Nat.le_of_ble_eq_true rfl) (Nat.le_of_ble_eq_true rfl) ?_
        refine xs_putI dX3_endPacket_100 fl_X3_54 rfl rfl rfl sc_3 ?_
        refine xs_nmM (fun m12 e_m12 => ?_)
        replace h := h m12 e_m12
        have hR : xs_RT b m12 := by rw [e_m12]; exact hR
        refine xs_aload_n dX3_endPacket_103 rfl ?_
        refine xs_iconst (nI 0) dX3_endPacket_104 (by decide) ?_
        refine xs_putI dX3_endPacket_105 fl_X3_74 rfl rfl rfl sc_3 ?_
        refine xs_nmM (fun m13 e_m13 => ?_)
        replace h := h m13 e_m13
        have hR : xs_RT b m13 := by rw [e_m13]; exact hR
        exact xs_ret none dX3_endPacket_108 trivial rfl ⟨hR, rfl, h⟩
  · replace h := h.2 c1
    refine xs_aload_n dX3_endPacket_10 rfl ?_
    refine xs_dup dX3_endPacket_11 rfl ?_
    refine xs_getI dX3_endPacket_12 fl_X3_51.g rfl sc_3 ?_
    refine xs_iconst (nI 1) dX3_endPacket_15 (by decide) ?_
    refine xs_iadd dX3_endPacket_16 ?_
    refine xs_putI dX3_endPacket_17 fl_X3_51 rfl rfl rfl sc_3 ?_
    refine xs_nmM (fun m14 e_m14 => ?_)
    replace h := h m14 e_m14
    have hR : xs_RT b m14 := by rw [e_m14]; exact hR
    refine xs_goto 103 dX3_endPacket_20 (by decide) ?_
    refine xs_aload_n dX3_endPacket_103 rfl ?_
    refine xs_iconst (nI 0) dX3_endPacket_104 (by decide) ?_
    refine xs_putI dX3_endPacket_105 fl_X3_74 rfl rfl rfl sc_3 ?_
    refine xs_nmM (fun m15 e_m15 => ?_)
    replace h := h m15 e_m15
    have hR : xs_RT b m15 := by rw [e_m15]; exact hR
    exact xs_ret none dX3_endPacket_108 trivial rfl ⟨hR, rfl, h⟩
