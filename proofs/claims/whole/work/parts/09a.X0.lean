/-! walks of a.X0, printed by wip/gen/mkwalk.py -/
set_option maxHeartbeats 4000000 in
set_option maxRecDepth 100000 in
theorem g_X0_open {b : Bool} {Q : xm_M → Prop} {μ : xm_M} (v2 : Int32) (v3 : Int32) 
    (h : ∀ m1 : xm_M, m1 = xu_R μ 7 (va_up (μ.2.2 7) 0 (some 2)) →
      ∀ m2 : xm_M, m2 = xu_I m1 7 (upd (m1.1 7) 1 ((nI 8) * v2)) →
      ∀ m3 : xm_M, m3 = xu_I m2 7 (upd (m2.1 7) 2 ((nI 8) * (v2 + v3))) →
      Q m3) :
    xCv b true k_X0_open μ [.ref 7, .ref 2, .int v2, .int v3] Q := by
  intro hR
  refine xm_met [some (.ref 7), some (.ref 2), some (.int v2), some (.int v3)] 0 (by decide) (by simp [lg_sl, Value.category]) rfl ?_
  refine xs_aload_n dX0_open_0 rfl ?_
  refine xs_aload_n dX0_open_1 rfl ?_
  refine xs_putR dX0_open_2 fl_X0_9 rfl (by decide) sc_7 ?_
  refine xs_nmM (fun m1 e_m1 => ?_)
  replace h := h m1 e_m1
  have hR : xs_RT true m1 := xs_opened hR e_m1
  refine xs_aload_n dX0_open_5 rfl ?_
  refine xs_bipush (nI 8) dX0_open_6 (by decide) ?_
  refine xs_iload_n dX0_open_8 rfl ?_
  refine xs_imul dX0_open_9 ?_
  refine xs_putI dX0_open_10 fl_X0_15 rfl rfl rfl sc_7 ?_
  refine xs_nmM (fun m2 e_m2 => ?_)
  replace h := h m2 e_m2
  have hR : xs_RT true m2 := by rw [e_m2]; exact hR
  refine xs_aload_n dX0_open_13 rfl ?_
  refine xs_bipush (nI 8) dX0_open_14 (by decide) ?_
  refine xs_iload_n dX0_open_16 rfl ?_
  refine xs_iload_n dX0_open_17 rfl ?_
  refine xs_iadd dX0_open_18 ?_
  refine xs_imul dX0_open_19 ?_
  refine xs_putI dX0_open_20 fl_X0_19 rfl rfl rfl sc_7 ?_
  refine xs_nmM (fun m3 e_m3 => ?_)
  replace h := h m3 e_m3
  have hR : xs_RT true m3 := by rw [e_m3]; exact hR
  exact xs_ret none dX0_open_23 trivial rfl ⟨hR, rfl, h⟩
set_option maxHeartbeats 4000000 in
set_option maxRecDepth 100000 in
theorem g_X0_close {Q : xm_M → Prop} {μ : xm_M}  
    (h : ∀ m1 : xm_M, m1 = xu_I μ 7 (upd (μ.1 7) 1 (μ.1 7 2)) →
      Q m1) :
    xCv true true k_X0_close μ [.ref 7] Q := by
  intro hR
  refine xm_met [some (.ref 7)] 0 (by decide) (by simp [lg_sl, Value.category]) rfl ?_
  refine xs_aload_n dX0_close_0 rfl ?_
  refine xs_aload_n dX0_close_1 rfl ?_
  refine xs_getI dX0_close_2 fl_X0_19.g rfl sc_7 ?_
  refine xs_putI dX0_close_5 fl_X0_15 rfl rfl rfl sc_7 ?_
  refine xs_nmM (fun m1 e_m1 => ?_)
  replace h := h m1 e_m1
  have hR : xs_RT true m1 := by rw [e_m1]; exact hR
  exact xs_ret none dX0_close_8 trivial rfl ⟨hR, rfl, h⟩
set_option maxHeartbeats 4000000 in
set_option maxRecDepth 100000 in
theorem g_X0_bit {Q : Int32 → xm_M → Prop} {μ : xm_M}  
    (h : ∀ x1 : Int32, x1 = ((μ.1 7 1) >>> ((nI 3) &&& 31)) →
      (((μ.1 7 2) ≤ (μ.1 7 1) →
       Q (-1 : Int32) μ) ∧
      (¬ (μ.1 7 2) ≤ (μ.1 7 1) →
       ((x1 < 0 →
        Q (-1 : Int32) μ) ∧
       (¬ x1 < 0 →
        ((x1 < (nI 6000) →
         vp_in x1 6000 ∧
         ∀ x6 : Int32, x6 = (((μ.1 2 (x1).toNatClampNeg) >>> (((μ.1 7 1) &&& (nI 7)) &&& 31)) &&& (nI 1)) →
         ∀ m7 : xm_M, m7 = xu_I μ 7 (upd (μ.1 7) 1 ((μ.1 7 1) + (nI 1))) →
         Q x6 m7) ∧
        (¬ x1 < (nI 6000) →
         Q (-1 : Int32) μ))))))) :
    xCi true true k_X0_bit μ [.ref 7] Q := by
  intro hR
  refine xm_met [some (.ref 7), none, none] 2 (by decide) (by simp [lg_sl, Value.category]) rfl ?_
  refine xs_aload_n dX0_bit_0 rfl ?_
  refine xs_getI dX0_bit_1 fl_X0_15.g rfl sc_7 ?_
  refine xs_iconst (nI 3) dX0_bit_4 (by decide) ?_
  refine xs_ishr dX0_bit_5 ?_
  refine xs_nmI (fun x1 e_x1 => ?_)
  replace h := h x1 e_x1
  refine xs_istore_n [some (.ref 7), some (.int x1), none] dX0_bit_6 (by decide) rfl ?_
  refine xs_aload_n dX0_bit_7 rfl ?_
  refine xs_getI dX0_bit_8 fl_X0_15.g rfl sc_7 ?_
  refine xs_aload_n dX0_bit_11 rfl ?_
  refine xs_getI dX0_bit_12 fl_X0_19.g rfl sc_7 ?_
  refine xs_icmp_ge 31 dX0_bit_15 (by decide) (fun c2 => ?_) (fun c2 => ?_)
  · replace h := h.1 c2
    refine xs_iconst (-1 : Int32) dX0_bit_31 (by decide) ?_
    exact xs_ret (some (.int (-1 : Int32))) dX0_bit_32 rfl rfl ⟨hR, _, rfl, h⟩
  · replace h := h.2 c2
    refine xs_iload_n dX0_bit_18 rfl ?_
    refine xs_if_lt 31 dX0_bit_19 (by decide) (fun c3 => ?_) (fun c3 => ?_)
    · replace h := h.1 c3
      refine xs_iconst (-1 : Int32) dX0_bit_31 (by decide) ?_
      exact xs_ret (some (.int (-1 : Int32))) dX0_bit_32 rfl rfl ⟨hR, _, rfl, h⟩
    · replace h := h.2 c3
      refine xs_iload_n dX0_bit_22 rfl ?_
      refine xs_aload_n dX0_bit_23 rfl ?_
      refine xs_getR dX0_bit_24 fl_X0_9.g rfl sc_7 (rt_7_0 hR) ?_
      refine xs_alen 1 dX0_bit_27 sc_2 (fun _ => rfl) ?_
      refine xs_icmp_lt 33 dX0_bit_28 (by decide) (fun c4 => ?_) (fun c4 => ?_)
      · replace h := h.1 c4
        refine xs_aload_n dX0_bit_33 rfl ?_
        refine xs_getR dX0_bit_34 fl_X0_9.g rfl sc_7 (rt_7_0 hR) ?_
        refine xs_iload_n dX0_bit_37 rfl ?_
        obtain ⟨s5, h⟩ := h
        refine xs_bald dX0_bit_38 sc_2 s5 ?_
        refine xs_aload_n dX0_bit_39 rfl ?_
        refine xs_getI dX0_bit_40 fl_X0_15.g rfl sc_7 ?_
        refine xs_bipush (nI 7) dX0_bit_43 (by decide) ?_
        refine xs_iand dX0_bit_45 ?_
        refine xs_ishr dX0_bit_46 ?_
        refine xs_iconst (nI 1) dX0_bit_47 (by decide) ?_
        refine xs_iand dX0_bit_48 ?_
        refine xs_nmI (fun x6 e_x6 => ?_)
        replace h := h x6 e_x6
        refine xs_istore_n [some (.ref 7), some (.int x1), some (.int x6)] dX0_bit_49 (by decide) rfl ?_
        refine xs_aload_n dX0_bit_50 rfl ?_
        refine xs_dup dX0_bit_51 rfl ?_
        refine xs_getI dX0_bit_52 fl_X0_15.g rfl sc_7 ?_
        refine xs_iconst (nI 1) dX0_bit_55 (by decide) ?_
        refine xs_iadd dX0_bit_56 ?_
        refine xs_putI dX0_bit_57 fl_X0_15 rfl rfl rfl sc_7 ?_
        refine xs_nmM (fun m7 e_m7 => ?_)
        replace h := h m7 e_m7
        have hR : xs_RT true m7 := by rw [e_m7]; exact hR
        refine xs_iload_n dX0_bit_60 rfl ?_
        exact xs_ret (some (.int x6)) dX0_bit_61 rfl rfl ⟨hR, _, rfl, h⟩
      · replace h := h.2 c4
        refine xs_iconst (-1 : Int32) dX0_bit_31 (by decide) ?_
        exact xs_ret (some (.int (-1 : Int32))) dX0_bit_32 rfl rfl ⟨hR, _, rfl, h⟩
abbrev hd_X0_number_4 (Q : Int32 → xm_M → Prop)  (v1 : Int32) (v2 : Int32) (v3 : Int32) (μ : xm_M) : Prop := xs_RT true μ → xR k_X0_number none true (fun r _ μ' => xs_RT true μ' ∧ ∃ x : Int32, r = some (.int x) ∧ Q x μ') 4 [some (.ref 7), some (.int v1), some (.int v2), some (.int v3), none] [] xs_sh (0, 0) μ
set_option maxHeartbeats 4000000 in
set_option maxRecDepth 100000 in
theorem l_X0_number_4 {Q : Int32 → xm_M → Prop} {μ : xm_M}  (v1 : Int32) (v2 : Int32) (v3 : Int32) 
    (h : ((v1 ≤ v3 →
       Q v2 μ) ∧
      (¬ v1 ≤ v3 →
       ∃ Q2 : Int32 → xm_M → Prop, xCi true true k_X0_bit μ [.ref 7] Q2 ∧
       ∀ (r4 : Int32) (m3 : xm_M), Q2 r4 m3 →
       ((0 ≤ r4 →
        ∀ x7 : Int32, x7 = (v2 ||| (r4 <<< (v3 &&& 31))) →
        ∀ x8 : Int32, x8 = v3 + nI 1 →
        hd_X0_number_4 Q  v1 x7 x8 m3) ∧
       (¬ 0 ≤ r4 →
        Q (-1 : Int32) m3))))) :
    hd_X0_number_4 Q  v1 v2 v3 μ := by
  intro hR
  refine xs_iload_n dX0_number_4 rfl ?_
  refine xs_iload_n dX0_number_5 rfl ?_
  refine xs_icmp_ge 35 dX0_number_6 (by decide) (fun c1 => ?_) (fun c1 => ?_)
  · replace h := h.1 c1
    refine xs_iload_n dX0_number_35 rfl ?_
    exact xs_ret (some (.int v2)) dX0_number_36 rfl rfl ⟨hR, _, rfl, h⟩
  · replace h := h.2 c1
    refine xs_aload_n dX0_number_9 rfl ?_
    obtain ⟨Q2, hQ2, h⟩ := h
    refine xs_callV (j := k_X0_bit) (As := []) (S := []) dX0_number_10 (hQ2 hR) ⟨ml_X0_22, mk_X0_bit.1, mk_X0_bit.2.1, mk_X0_bit.2.2⟩ mv_X0_bit ⟨Nat.le_of_ble_eq_true rfl, Nat.le_of_ble_eq_true rfl⟩ rfl (Nat.le_of_ble_eq_true rfl) sc_7 rfl ⟨rfl, rfl⟩ (fun rr m3 hq5 => ?_)
    obtain ⟨hR, r4, rfl, hq5⟩ := hq5
    replace h := h r4 m3 hq5
    refine xs_istore [some (.ref 7), some (.int v1), some (.int v2), some (.int v3), some (.int r4)] dX0_number_13 (by decide) rfl ?_
    refine xs_iload dX0_number_15 rfl ?_
    refine xs_if_ge 22 dX0_number_17 (by decide) (fun c6 => ?_) (fun c6 => ?_)
    · replace h := h.1 c6
      refine xs_iload_n dX0_number_22 rfl ?_
      refine xs_iload dX0_number_23 rfl ?_
      refine xs_iload_n dX0_number_25 rfl ?_
      refine xs_ishl dX0_number_26 ?_
      refine xs_ior dX0_number_27 ?_
      refine xs_nmI (fun x7 e_x7 => ?_)
      replace h := h x7 e_x7
      refine xs_istore_n [some (.ref 7), some (.int v1), some (.int x7), some (.int v3), some (.int r4)] dX0_number_28 (by decide) rfl ?_
      obtain ⟨x8, e_x8⟩ : ∃ z : Int32, z = v3 + nI 1 := ⟨_, rfl⟩
      replace h := h x8 e_x8
      refine xs_iinc x8 [some (.ref 7), some (.int v1), some (.int x7), some (.int x8), some (.int r4)] dX0_number_29 (by decide) rfl (by rw [e_x8]; rfl) rfl ?_
      refine xs_goto 4 dX0_number_32 (by decide) ?_
      exact xs_loc [some (.ref 7), some (.int v1), some (.int x7), some (.int x8), none] ⟨rfl, ⟨rfl, ⟨rfl, ⟨rfl, trivial⟩⟩⟩⟩ (h hR)
    · replace h := h.2 c6
      refine xs_iconst (-1 : Int32) dX0_number_20 (by decide) ?_
      exact xs_ret (some (.int (-1 : Int32))) dX0_number_21 rfl rfl ⟨hR, _, rfl, h⟩
set_option maxHeartbeats 4000000 in
set_option maxRecDepth 100000 in
theorem g_X0_number {Q : Int32 → xm_M → Prop} {μ : xm_M} (v1 : Int32) 
    (h : hd_X0_number_4 Q  v1 (nI 0) (nI 0) μ) :
    xCi true true k_X0_number μ [.ref 7, .int v1] Q := by
  intro hR
  refine xm_met [some (.ref 7), some (.int v1), none, none, none] 3 (by decide) (by simp [lg_sl, Value.category]) rfl ?_
  refine xs_iconst (nI 0) dX0_number_0 (by decide) ?_
  refine xs_istore_n [some (.ref 7), some (.int v1), some (.int (nI 0)), none, none] dX0_number_1 (by decide) rfl ?_
  refine xs_iconst (nI 0) dX0_number_2 (by decide) ?_
  refine xs_istore_n [some (.ref 7), some (.int v1), some (.int (nI 0)), some (.int (nI 0)), none] dX0_number_3 (by decide) rfl ?_
  exact xs_loc [some (.ref 7), some (.int v1), some (.int (nI 0)), some (.int (nI 0)), none] ⟨rfl, ⟨rfl, ⟨rfl, ⟨rfl, trivial⟩⟩⟩⟩ (h hR)
