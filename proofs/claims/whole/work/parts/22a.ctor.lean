/-! ===== making the objects (printed by wip/gen/ctor.py) ===== -/
theorem tk_len {m : Nat} (h : m ≤ 106) : (xs_sh.take m).length = m := by
  rw [List.length_take]
  exact Nat.min_eq_left h
theorem tk {m c : Nat} {q : Nat ⊕ (FieldType × Nat)} (h : c < m) (hs : xs_sh[c]? = some q) : (xs_sh.take m)[c]? = some q := by
  rw [List.getElem?_take_of_lt h]
  exact hs
theorem tk_push {m : Nat} {x : Nat ⊕ (FieldType × Nat)} (hs : xs_sh[m]? = some x) : xs_sh.take m ++ [x] = xs_sh.take (m + 1) := by
  rw [List.take_succ, hs]
  rfl
abbrev xN (κ : xm_Meth) (m m' : Nat) (μ : xm_M) (c : Nat) (Q : xm_M → Prop) : Prop := xC κ false (xs_sh.take m) μ [.ref c] (fun r sh' μ' => r = none ∧ sh' = xs_sh.take m' ∧ Q μ')
theorem bkb {B : Nat} (hB : xs_bk B) : 16 ≤ B ∧ B ≤ 51 := by
  obtain ⟨j, h1, h2⟩ := hB
  omega
theorem vob {V : Nat} (hV : xs_vo V) : 65 ≤ V ∧ V ≤ 70 := by
  rcases hV with rfl | rfl <;> decide
theorem ac_int : Cond.arrayClass .int ∈ xm_tbl := xm_in (xm_tb (List.mem_append_left _ (List.mem_of_getElem? (i := 98) rfl))) rfl
theorem ac_byte : Cond.arrayClass .byte ∈ xm_tbl := xm_in (xm_tb (List.mem_append_left _ (List.mem_of_getElem? (i := 37) rfl))) rfl
theorem ac_boolean : Cond.arrayClass .boolean ∈ xm_tbl := xm_in (xm_tb (List.mem_append_left _ (List.mem_of_getElem? (i := 234) rfl))) rfl
theorem ac_long : Cond.arrayClass .long ∈ xm_tbl := xm_in (xm_tb (List.mem_append_right _ (List.mem_append_left _ (List.mem_of_getElem? (i := 24) rfl)))) rfl
theorem al_X4_27 : Cond.classLink RX4 27 RX1 ∈ xm_tbl := xm_in (xm_tb (List.mem_append_left _ (List.mem_of_getElem? (i := 121) rfl))) rfl
theorem nl_X4_27 : ∃ (C : String) (T : u_T), xm_CK 1 C T 12 ∧ Cond.classLink RX4 27 C ∈ xm_tbl ∧ Cond.instantiable C 12 ∈ xm_tbl ∧ Cond.initialized C ∈ xm_tbl := ⟨RX1, TX1, xk_1, xm_in (xm_tb (List.mem_append_left _ (List.mem_of_getElem? (i := 121) rfl))) rfl, xm_in (xm_tb (List.mem_append_left _ (List.mem_of_getElem? (i := 123) rfl))) rfl, xm_in (xm_tb (List.mem_append_left _ (List.mem_of_getElem? (i := 6) rfl))) rfl⟩
theorem nl_X8_7 : ∃ (C : String) (T : u_T), xm_CK 6 C T 2 ∧ Cond.classLink RX8 7 C ∈ xm_tbl ∧ Cond.instantiable C 2 ∈ xm_tbl ∧ Cond.initialized C ∈ xm_tbl := ⟨RX6, TX6, xk_6, xm_in (xm_tb (List.mem_append_left _ (List.mem_of_getElem? (i := 21) rfl))) rfl, xm_in (xm_tb (List.mem_append_left _ (List.mem_of_getElem? (i := 22) rfl))) rfl, xm_in (xm_tb (List.mem_append_left _ (List.mem_of_getElem? (i := 2) rfl))) rfl⟩
theorem nl_X8_16 : ∃ (C : String) (T : u_T), xm_CK 3 C T 14 ∧ Cond.classLink RX8 16 C ∈ xm_tbl ∧ Cond.instantiable C 14 ∈ xm_tbl ∧ Cond.initialized C ∈ xm_tbl := ⟨RX3, TX3, xk_3, xm_in (xm_tb (List.mem_append_left _ (List.mem_of_getElem? (i := 38) rfl))) rfl, xm_in (xm_tb (List.mem_append_left _ (List.mem_of_getElem? (i := 39) rfl))) rfl, xm_in (xm_tb (List.mem_append_left _ (List.mem_of_getElem? (i := 3) rfl))) rfl⟩
theorem nl_X8_23 : ∃ (C : String) (T : u_T), xm_CK 0 C T 3 ∧ Cond.classLink RX8 23 C ∈ xm_tbl ∧ Cond.instantiable C 3 ∈ xm_tbl ∧ Cond.initialized C ∈ xm_tbl := ⟨RX0, TX0, xk_0, xm_in (xm_tb (List.mem_append_left _ (List.mem_of_getElem? (i := 99) rfl))) rfl, xm_in (xm_tb (List.mem_append_left _ (List.mem_of_getElem? (i := 100) rfl))) rfl, xm_in (xm_tb (List.mem_append_left _ (List.mem_of_getElem? (i := 4) rfl))) rfl⟩
theorem nl_X8_30 : ∃ (C : String) (T : u_T), xm_CK 4 C T 15 ∧ Cond.classLink RX8 30 C ∈ xm_tbl ∧ Cond.instantiable C 15 ∈ xm_tbl ∧ Cond.initialized C ∈ xm_tbl := ⟨RX4, TX4, xk_4, xm_in (xm_tb (List.mem_append_left _ (List.mem_of_getElem? (i := 115) rfl))) rfl, xm_in (xm_tb (List.mem_append_left _ (List.mem_of_getElem? (i := 116) rfl))) rfl, xm_in (xm_tb (List.mem_append_left _ (List.mem_of_getElem? (i := 5) rfl))) rfl⟩
theorem nl_X8_37 : ∃ (C : String) (T : u_T), xm_CK 2 C T 2 ∧ Cond.classLink RX8 37 C ∈ xm_tbl ∧ Cond.instantiable C 2 ∈ xm_tbl ∧ Cond.initialized C ∈ xm_tbl := ⟨RX2, TX2, xk_2, xm_in (xm_tb (List.mem_append_left _ (List.mem_of_getElem? (i := 221) rfl))) rfl, xm_in (xm_tb (List.mem_append_left _ (List.mem_of_getElem? (i := 222) rfl))) rfl, xm_in (xm_tb (List.mem_append_left _ (List.mem_of_getElem? (i := 7) rfl))) rfl⟩
theorem nl_X8_44 : ∃ (C : String) (T : u_T), xm_CK 5 C T 4 ∧ Cond.classLink RX8 44 C ∈ xm_tbl ∧ Cond.instantiable C 4 ∈ xm_tbl ∧ Cond.initialized C ∈ xm_tbl := ⟨RX5, TX5, xk_5, xm_in (xm_tb (List.mem_append_left _ (List.mem_of_getElem? (i := 235) rfl))) rfl, xm_in (xm_tb (List.mem_append_left _ (List.mem_of_getElem? (i := 236) rfl))) rfl, xm_in (xm_tb (List.mem_append_left _ (List.mem_of_getElem? (i := 8) rfl))) rfl⟩
theorem al_X8_51 : Cond.classLink RX8 51 RX7 ∈ xm_tbl := xm_in (xm_tb (List.mem_append_right _ (List.mem_append_left _ (List.mem_of_getElem? (i := 25) rfl)))) rfl
theorem nl_X8_51 : ∃ (C : String) (T : u_T), xm_CK 7 C T 5 ∧ Cond.classLink RX8 51 C ∈ xm_tbl ∧ Cond.instantiable C 5 ∈ xm_tbl ∧ Cond.initialized C ∈ xm_tbl := ⟨RX7, TX7, xk_7, xm_in (xm_tb (List.mem_append_right _ (List.mem_append_left _ (List.mem_of_getElem? (i := 25) rfl)))) rfl, xm_in (xm_tb (List.mem_append_right _ (List.mem_append_left _ (List.mem_of_getElem? (i := 27) rfl)))) rfl, xm_in (xm_tb (List.mem_append_left _ (List.mem_of_getElem? (i := 10) rfl))) rfl⟩
theorem nl_L_7 : ∃ (C : String) (T : u_T), xm_CK 8 C T 11 ∧ Cond.classLink RL 7 C ∈ xm_tbl ∧ Cond.instantiable C 11 ∈ xm_tbl ∧ Cond.initialized C ∈ xm_tbl := ⟨RX8, TX8, xk_8, xm_in (xm_tb (List.mem_append_left _ (List.mem_of_getElem? (i := 13) rfl))) rfl, xm_in (xm_tb (List.mem_append_left _ (List.mem_of_getElem? (i := 14) rfl))) rfl, xm_in (xm_tb (List.mem_append_left _ (List.mem_of_getElem? (i := 1) rfl))) rfl⟩
theorem nl_L_10 : ∃ (C : String) (T : u_T), xm_CK 9 C T 52 ∧ Cond.classLink RL 10 C ∈ xm_tbl ∧ Cond.instantiable C 52 ∈ xm_tbl ∧ Cond.initialized C ∈ xm_tbl := ⟨RX9, TX9, xk_9, xm_in (xm_tb (List.mem_append_right _ (List.mem_append_right _ (List.mem_append_left _ (List.mem_of_getElem? (i := 187) rfl))))) rfl, xm_in (xm_tb (List.mem_append_right _ (List.mem_append_right _ (List.mem_append_left _ (List.mem_of_getElem? (i := 188) rfl))))) rfl, xm_in (xm_tb (List.mem_append_left _ (List.mem_of_getElem? (i := 11) rfl))) rfl⟩
set_option maxHeartbeats 4000000 in
set_option maxRecDepth 100000 in
theorem n_X3_forget {Q : xm_M → Prop} {μ : xm_M}
    (h : ∀ m1 : xm_M, m1 = xu_I μ 3 (upd (μ.1 3) 0 (nI 0)) →
      ∀ m2 : xm_M, m2 = xu_I m1 3 (upd (m1.1 3) 1 (nI 0)) →
      ∀ m3 : xm_M, m3 = xu_I m2 3 (upd (m2.1 3) 2 (nI 0)) →
      ∀ m4 : xm_M, m4 = xu_I m3 3 (upd (m3.1 3) 3 (nI 0)) →
      ∀ m5 : xm_M, m5 = xu_I m4 3 (upd (m4.1 3) 4 (nI 0)) →
      ∀ m6 : xm_M, m6 = xu_I m5 3 (upd (m5.1 3) 5 (nI 0)) →
      ∀ m7 : xm_M, m7 = xu_L m6 3 (vp_updL (m6.2.1 3) 6 (0 : Int64)) →
      ∀ m8 : xm_M, m8 = xu_I m7 3 (upd (m7.1 3) 10 (nI 0)) →
      ∀ m9 : xm_M, m9 = xu_I m8 3 (upd (m8.1 3) 11 (nI 0)) →
      ∀ m10 : xm_M, m10 = xu_I m9 3 (upd (m9.1 3) 12 (nI 0)) →
      ∀ m11 : xm_M, m11 = xu_I m10 3 (upd (m10.1 3) 13 (nI 0)) →
      Q m11) :
    xC k_X3_forget true (xs_sh.take 7) μ [.ref 3] (fun r _ μ' => r = none ∧ Q μ') := by
  refine xm_met [some (.ref 3)] 0 (by decide) (by simp [lg_sl, Value.category]) rfl ?_
  refine xs_aload_n dX3_forget_0 rfl ?_
  refine xs_iconst (nI 0) dX3_forget_1 (by decide) ?_
  refine xs_putI dX3_forget_2 fl_X3_42 rfl rfl rfl (tk (by decide) sc_3) ?_
  refine xs_nmM (fun m1 e_m1 => ?_)
  replace h := h m1 e_m1
  refine xs_aload_n dX3_forget_5 rfl ?_
  refine xs_iconst (nI 0) dX3_forget_6 (by decide) ?_
  refine xs_putI dX3_forget_7 fl_X3_45 rfl rfl rfl (tk (by decide) sc_3) ?_
  refine xs_nmM (fun m2 e_m2 => ?_)
  replace h := h m2 e_m2
  refine xs_aload_n dX3_forget_10 rfl ?_
  refine xs_iconst (nI 0) dX3_forget_11 (by decide) ?_
  refine xs_putI dX3_forget_12 fl_X3_48 rfl rfl rfl (tk (by decide) sc_3) ?_
  refine xs_nmM (fun m3 e_m3 => ?_)
  replace h := h m3 e_m3
  refine xs_aload_n dX3_forget_15 rfl ?_
  refine xs_iconst (nI 0) dX3_forget_16 (by decide) ?_
  refine xs_putI dX3_forget_17 fl_X3_51 rfl rfl rfl (tk (by decide) sc_3) ?_
  refine xs_nmM (fun m4 e_m4 => ?_)
  replace h := h m4 e_m4
  refine xs_aload_n dX3_forget_20 rfl ?_
  refine xs_iconst (nI 0) dX3_forget_21 (by decide) ?_
  refine xs_putI dX3_forget_22 fl_X3_54 rfl rfl rfl (tk (by decide) sc_3) ?_
  refine xs_nmM (fun m5 e_m5 => ?_)
  replace h := h m5 e_m5
  refine xs_aload_n dX3_forget_25 rfl ?_
  refine xs_iconst (nI 0) dX3_forget_26 (by decide) ?_
  refine xs_putI dX3_forget_27 fl_X3_57 rfl rfl rfl (tk (by decide) sc_3) ?_
  refine xs_nmM (fun m6 e_m6 => ?_)
  replace h := h m6 e_m6
  refine xs_aload_n dX3_forget_30 rfl ?_
  refine xs_lconst (0 : Int64) dX3_forget_31 (by decide) ?_
  refine xs_putL dX3_forget_32 fl_X3_61 rfl (tk (by decide) sc_3) ?_
  refine xs_nmM (fun m7 e_m7 => ?_)
  replace h := h m7 e_m7
  refine xs_aload_n dX3_forget_35 rfl ?_
  refine xs_iconst (nI 0) dX3_forget_36 (by decide) ?_
  refine xs_putI dX3_forget_37 fl_X3_65 rfl rfl rfl (tk (by decide) sc_3) ?_
  refine xs_nmM (fun m8 e_m8 => ?_)
  replace h := h m8 e_m8
  refine xs_aload_n dX3_forget_40 rfl ?_
  refine xs_iconst (nI 0) dX3_forget_41 (by decide) ?_
  refine xs_putI dX3_forget_42 fl_X3_68 rfl rfl rfl (tk (by decide) sc_3) ?_
  refine xs_nmM (fun m9 e_m9 => ?_)
  replace h := h m9 e_m9
  refine xs_aload_n dX3_forget_45 rfl ?_
  refine xs_iconst (nI 0) dX3_forget_46 (by decide) ?_
  refine xs_putI dX3_forget_47 fl_X3_71 rfl rfl rfl (tk (by decide) sc_3) ?_
  refine xs_nmM (fun m10 e_m10 => ?_)
  replace h := h m10 e_m10
  refine xs_aload_n dX3_forget_50 rfl ?_
  refine xs_iconst (nI 0) dX3_forget_51 (by decide) ?_
  refine xs_putI dX3_forget_52 fl_X3_74 rfl rfl rfl (tk (by decide) sc_3) ?_
  refine xs_nmM (fun m11 e_m11 => ?_)
  replace h := h m11 e_m11
  exact xs_ret none dX3_forget_55 trivial rfl ⟨rfl, h⟩
set_option maxHeartbeats 4000000 in
set_option maxRecDepth 100000 in
theorem n_X5_cosine {Q : Int32 → xm_M → Prop} {μ : xm_M} (v0 : Int32)
    (h : ∀ x1 : Int32, x1 = (if ((nI 128) - v0) < v0 then ((nI 128) - v0) else v0) →
      ((x1 < 0 →
       Q (nI 0) μ) ∧
      (¬ x1 < 0 →
       ((x1 ≤ (nI 64) →
        (((nI 32) < x1 →
         vp_in ((nI 64) - x1) 33 ∧
         Q (-((xs_tab 0).getD (((nI 64) - x1)).toNatClampNeg 0)) μ) ∧
        (¬ (nI 32) < x1 →
         vp_in x1 33 ∧
         Q ((xs_tab 0).getD (x1).toNatClampNeg 0) μ))) ∧
       (¬ x1 ≤ (nI 64) →
        Q (nI 0) μ))))) :
    xC k_X5_cosine true (xs_sh.take 64) μ [.int v0] (fun r _ μ' => ∃ x : Int32, r = some (.int x) ∧ Q x μ') := by
  refine xm_met [some (.int v0), none] 1 (by decide) (by simp [lg_sl, Value.category]) rfl ?_
  refine xs_iload_n dX5_cosine_0 rfl ?_
  refine xs_sipush (nI 128) dX5_cosine_1 (by decide) ?_
  refine xs_iload_n dX5_cosine_4 rfl ?_
  refine xs_isub dX5_cosine_5 ?_
  refine xs_mmin dX5_cosine_6 ml_X5_30 (Nat.le_of_ble_eq_true rfl) (Nat.le_of_ble_eq_true rfl) ?_
  refine xs_nmI (fun x1 e_x1 => ?_)
  replace h := h x1 e_x1
  refine xs_istore_n [some (.int v0), some (.int x1)] dX5_cosine_9 (by decide) rfl ?_
  refine xs_iload_n dX5_cosine_10 rfl ?_
  refine xs_if_lt 20 dX5_cosine_11 (by decide) (fun c2 => ?_) (fun c2 => ?_)
  · replace h := h.1 c2
    refine xs_iconst (nI 0) dX5_cosine_20 (by decide) ?_
    exact xs_ret (some (.int (nI 0))) dX5_cosine_21 rfl rfl ⟨_, rfl, h⟩
  · replace h := h.2 c2
    refine xs_iload_n dX5_cosine_14 rfl ?_
    refine xs_bipush (nI 64) dX5_cosine_15 (by decide) ?_
    refine xs_icmp_le 22 dX5_cosine_17 (by decide) (fun c3 => ?_) (fun c3 => ?_)
    · replace h := h.1 c3
      refine xs_iload_n dX5_cosine_22 rfl ?_
      refine xs_bipush (nI 32) dX5_cosine_23 (by decide) ?_
      refine xs_icmp_gt 36 dX5_cosine_25 (by decide) (fun c4 => ?_) (fun c4 => ?_)
      · replace h := h.1 c4
        refine xs_gets (k := 0) (q := xs_tq 0) dX5_cosine_36 rfl fs_X5_36 ?_
        refine xs_bipush (nI 64) dX5_cosine_39 (by decide) ?_
        refine xs_iload_n dX5_cosine_41 rfl ?_
        refine xs_isub dX5_cosine_42 ?_
        obtain ⟨s5, h⟩ := h
        refine xs_tald (k := 0) (q := xs_tq 0) dX5_cosine_43 rfl s5 ?_
        refine xs_ineg dX5_cosine_44 ?_
        exact xs_ret (some (.int (-((xs_tab 0).getD (((nI 64) - x1)).toNatClampNeg 0)))) dX5_cosine_45 rfl rfl ⟨_, rfl, h⟩
      · replace h := h.2 c4
        refine xs_gets (k := 0) (q := xs_tq 0) dX5_cosine_28 rfl fs_X5_36 ?_
        refine xs_iload_n dX5_cosine_31 rfl ?_
        obtain ⟨s6, h⟩ := h
        refine xs_tald (k := 0) (q := xs_tq 0) dX5_cosine_32 rfl s6 ?_
        refine xs_goto 45 dX5_cosine_33 (by decide) ?_
        exact xs_ret (some (.int ((xs_tab 0).getD (x1).toNatClampNeg 0))) dX5_cosine_45 rfl rfl ⟨_, rfl, h⟩
    · replace h := h.2 c3
      refine xs_iconst (nI 0) dX5_cosine_20 (by decide) ?_
      exact xs_ret (some (.int (nI 0))) dX5_cosine_21 rfl rfl ⟨_, rfl, h⟩
set_option maxHeartbeats 4000000 in
set_option maxRecDepth 100000 in
theorem n_X6_init {Q : xm_M → Prop} {μ : xm_M} 
    (h : ∀ m1 : xm_M, m1 = xm_nw μ 2 →
      ∀ m2 : xm_M, m2 = xu_R m1 1 (va_up (m1.2.2 1) 0 (some 2)) →
      ∀ m3 : xm_M, m3 = xu_I m2 1 (upd (m2.1 1) 1 (nI 0)) →
      Q m3) :
    xN k_X6_init 2 3 μ 1 Q := by
  refine xm_met [some (.ref 1)] 0 (by decide) (by simp [lg_sl, Value.category]) rfl ?_
  refine xs_aload_n dX6_init_0 rfl ?_
  refine xs_oinit dX6_init_1 ml_X6_1 (Nat.le_of_ble_eq_true rfl) (Nat.le_of_ble_eq_true rfl) ?_
  refine xs_aload_n dX6_init_4 rfl ?_
  refine xs_sipush (nI 6000) dX6_init_5 (by decide) ?_
  refine xs_newa (n := 2) (xs_sh.take 3) 6000 1 dX6_init_8 rfl (fun _ => rfl) (Or.inr (Or.inl rfl)) ac_byte (by decide) (by decide +kernel) (by decide) (tk_len (by decide)) ⟨rfl, rfl⟩ (by decide) ⟨Nat.le_of_ble_eq_true rfl, Nat.le_of_ble_eq_true rfl⟩ (tk_push sc_2) ?_
  refine xs_nmM (fun m1 e_m1 => ?_)
  replace h := h m1 e_m1
  refine xs_putRF dX6_init_10 ff_X6_9 rfl (by rw [tk_len (by decide)]; decide) rfl (tk (by decide) sc_1) ?_
  refine xs_nmM (fun m2 e_m2 => ?_)
  replace h := h m2 e_m2
  refine xs_aload_n dX6_init_13 rfl ?_
  refine xs_iconst (nI 0) dX6_init_14 (by decide) ?_
  refine xs_putI dX6_init_15 fl_X6_13 rfl rfl rfl (tk (by decide) sc_1) ?_
  refine xs_nmM (fun m3 e_m3 => ?_)
  replace h := h m3 e_m3
  exact xs_ret none dX6_init_18 trivial rfl ⟨rfl, rfl, h⟩
set_option maxHeartbeats 4000000 in
set_option maxRecDepth 100000 in
theorem n_X0_init {Q : xm_M → Prop} {μ : xm_M} 
    (h : ∀ m1 : xm_M, m1 = xm_nw μ 8 →
      ∀ m2 : xm_M, m2 = xu_R m1 7 (va_up (m1.2.2 7) 0 (some 8)) →
      ∀ m3 : xm_M, m3 = xu_I m2 7 (upd (m2.1 7) 1 (nI 0)) →
      ∀ m4 : xm_M, m4 = xu_I m3 7 (upd (m3.1 7) 2 (nI 0)) →
      Q m4) :
    xN k_X0_init 8 9 μ 7 Q := by
  refine xm_met [some (.ref 7)] 0 (by decide) (by simp [lg_sl, Value.category]) rfl ?_
  refine xs_aload_n dX0_init_0 rfl ?_
  refine xs_oinit dX0_init_1 ml_X0_3 (Nat.le_of_ble_eq_true rfl) (Nat.le_of_ble_eq_true rfl) ?_
  refine xs_aload_n dX0_init_4 rfl ?_
  refine xs_iconst (nI 0) dX0_init_5 (by decide) ?_
  refine xs_newa (n := 8) (xs_sh.take 9) 0 1 dX0_init_6 rfl (fun _ => rfl) (Or.inr (Or.inl rfl)) ac_byte (by decide) (by decide +kernel) (by decide) (tk_len (by decide)) ⟨rfl, rfl⟩ (by decide) ⟨Nat.le_of_ble_eq_true rfl, Nat.le_of_ble_eq_true rfl⟩ (tk_push sc_8) ?_
  refine xs_nmM (fun m1 e_m1 => ?_)
  replace h := h m1 e_m1
  refine xs_putR dX0_init_8 fl_X0_9 rfl (by rw [tk_len (by decide)]; decide) (tk (by decide) sc_7) ?_
  refine xs_nmM (fun m2 e_m2 => ?_)
  replace h := h m2 e_m2
  refine xs_aload_n dX0_init_11 rfl ?_
  refine xs_iconst (nI 0) dX0_init_12 (by decide) ?_
  refine xs_putI dX0_init_13 fl_X0_15 rfl rfl rfl (tk (by decide) sc_7) ?_
  refine xs_nmM (fun m3 e_m3 => ?_)
  replace h := h m3 e_m3
  refine xs_aload_n dX0_init_16 rfl ?_
  refine xs_iconst (nI 0) dX0_init_17 (by decide) ?_
  refine xs_putI dX0_init_18 fl_X0_19 rfl rfl rfl (tk (by decide) sc_7) ?_
  refine xs_nmM (fun m4 e_m4 => ?_)
  replace h := h m4 e_m4
  exact xs_ret none dX0_init_21 trivial rfl ⟨rfl, rfl, h⟩
set_option maxHeartbeats 4000000 in
set_option maxRecDepth 100000 in
theorem n_X2_init {Q : xm_M → Prop} {μ : xm_M} 
    (h : ∀ m1 : xm_M, m1 = xm_nw μ 57 →
      ∀ m2 : xm_M, m2 = xu_R m1 56 (va_up (m1.2.2 56) 0 (some 57)) →
      ∀ m3 : xm_M, m3 = xm_nw m2 58 →
      ∀ m4 : xm_M, m4 = xu_R m3 56 (va_up (m3.2.2 56) 1 (some 58)) →
      Q m4) :
    xN k_X2_init 57 59 μ 56 Q := by
  refine xm_met [some (.ref 56)] 0 (by decide) (by simp [lg_sl, Value.category]) rfl ?_
  refine xs_aload_n dX2_init_0 rfl ?_
  refine xs_oinit dX2_init_1 ml_X2_1 (Nat.le_of_ble_eq_true rfl) (Nat.le_of_ble_eq_true rfl) ?_
  refine xs_aload_n dX2_init_4 rfl ?_
  refine xs_bipush (nI 17) dX2_init_5 (by decide) ?_
  refine xs_newa (n := 57) (xs_sh.take 58) 17 0 dX2_init_7 rfl (fun _ => rfl) (Or.inl rfl) ac_int (by decide) (by decide +kernel) (by decide) (tk_len (by decide)) ⟨rfl, rfl⟩ (by decide) ⟨Nat.le_of_ble_eq_true rfl, Nat.le_of_ble_eq_true rfl⟩ (tk_push sc_57) ?_
  refine xs_nmM (fun m1 e_m1 => ?_)
  replace h := h m1 e_m1
  refine xs_putRF dX2_init_9 ff_X2_9 rfl (by rw [tk_len (by decide)]; decide) rfl (tk (by decide) sc_56) ?_
  refine xs_nmM (fun m2 e_m2 => ?_)
  replace h := h m2 e_m2
  refine xs_aload_n dX2_init_12 rfl ?_
  refine xs_bipush (nI 17) dX2_init_13 (by decide) ?_
  refine xs_newa (n := 58) (xs_sh.take 59) 17 2 dX2_init_15 rfl (fun _ => rfl) (Or.inr (Or.inr (Or.inl rfl))) ac_boolean (by decide) (by decide +kernel) (by decide) (tk_len (by decide)) ⟨rfl, rfl⟩ (by decide) ⟨Nat.le_of_ble_eq_true rfl, Nat.le_of_ble_eq_true rfl⟩ (tk_push sc_58) ?_
  refine xs_nmM (fun m3 e_m3 => ?_)
  replace h := h m3 e_m3
  refine xs_putRF dX2_init_17 ff_X2_15 rfl (by rw [tk_len (by decide)]; decide) rfl (tk (by decide) sc_56) ?_
  refine xs_nmM (fun m4 e_m4 => ?_)
  replace h := h m4 e_m4
  exact xs_ret none dX2_init_20 trivial rfl ⟨rfl, rfl, h⟩
set_option maxHeartbeats 4000000 in
set_option maxRecDepth 100000 in
theorem n_X7_init {Q : xm_M → Prop} {μ : xm_M} {V : Nat} (hV : xs_vo V)
    (h : ∀ m1 : xm_M, m1 = xu_I μ V (upd (μ.1 V) 0 (nI 1)) →
      ∀ m2 : xm_M, m2 = xm_nw m1 (V + 1) →
      ∀ m3 : xm_M, m3 = xu_R m2 V (va_up (m2.2.2 V) 1 (some (V + 1))) →
      ∀ m4 : xm_M, m4 = xm_nw m3 (V + 2) →
      ∀ m5 : xm_M, m5 = xu_R m4 V (va_up (m4.2.2 V) 2 (some (V + 2))) →
      ∀ m6 : xm_M, m6 = xm_nw m5 (V + 3) →
      ∀ m7 : xm_M, m7 = xu_R m6 V (va_up (m6.2.2 V) 3 (some (V + 3))) →
      ∀ m8 : xm_M, m8 = xm_nw m7 (V + 4) →
      ∀ m9 : xm_M, m9 = xu_R m8 V (va_up (m8.2.2 V) 4 (some (V + 4))) →
      Q m9) :
    xN k_X7_init (V + 1) (V + 5) μ V Q := by
  refine xm_met [some (.ref V)] 0 (by decide) (by simp [lg_sl, Value.category]) rfl ?_
  refine xs_aload_n dX7_init_0 rfl ?_
  refine xs_oinit dX7_init_1 ml_X7_3 (Nat.le_of_ble_eq_true rfl) (Nat.le_of_ble_eq_true rfl) ?_
  refine xs_aload_n dX7_init_4 rfl ?_
  refine xs_iconst (nI 1) dX7_init_5 (by decide) ?_
  refine xs_putI dX7_init_6 fl_X7_9 rfl rfl rfl (tk (by have := vob hV; omega) (sv_0 hV)) ?_
  refine xs_nmM (fun m1 e_m1 => ?_)
  replace h := h m1 e_m1
  refine xs_aload_n dX7_init_9 rfl ?_
  refine xs_bipush (nI 16) dX7_init_10 (by decide) ?_
  refine xs_newa (n := (V + 1)) (xs_sh.take (V + 2)) 16 0 dX7_init_12 rfl (fun _ => rfl) (Or.inl rfl) ac_int (by decide) (by decide +kernel) (by decide) (tk_len (by have := vob hV; omega)) ⟨(by have := vob hV; simp [xm_okv] <;> omega), (by have := vob hV; simp [xm_okv] <;> omega)⟩ (by have := vob hV; omega) ⟨Nat.le_of_ble_eq_true rfl, Nat.le_of_ble_eq_true rfl⟩ (tk_push (sv_1 hV)) ?_
  refine xs_nmM (fun m2 e_m2 => ?_)
  replace h := h m2 e_m2
  refine xs_putRF dX7_init_14 ff_X7_15 rfl (by rw [tk_len (by have := vob hV; omega)]; omega) rfl (tk (by have := vob hV; omega) (sv_0 hV)) ?_
  refine xs_nmM (fun m3 e_m3 => ?_)
  replace h := h m3 e_m3
  refine xs_aload_n dX7_init_17 rfl ?_
  refine xs_bipush (nI 16) dX7_init_18 (by decide) ?_
  refine xs_newa (n := (V + 2)) (xs_sh.take (V + 3)) 16 0 dX7_init_20 rfl (fun _ => rfl) (Or.inl rfl) ac_int (by decide) (by decide +kernel) (by decide) (tk_len (by have := vob hV; omega)) ⟨(by have := vob hV; simp [xm_okv] <;> omega), (by have := vob hV; simp [xm_okv] <;> omega)⟩ (by have := vob hV; omega) ⟨Nat.le_of_ble_eq_true rfl, Nat.le_of_ble_eq_true rfl⟩ (tk_push (sv_2 hV)) ?_
  refine xs_nmM (fun m4 e_m4 => ?_)
  replace h := h m4 e_m4
  refine xs_putRF dX7_init_22 ff_X7_19 rfl (by rw [tk_len (by have := vob hV; omega)]; omega) rfl (tk (by have := vob hV; omega) (sv_0 hV)) ?_
  refine xs_nmM (fun m5 e_m5 => ?_)
  replace h := h m5 e_m5
  refine xs_aload_n dX7_init_25 rfl ?_
  refine xs_bipush (nI 16) dX7_init_26 (by decide) ?_
  refine xs_newa (n := (V + 3)) (xs_sh.take (V + 4)) 16 3 dX7_init_28 rfl (fun _ => rfl) (Or.inr (Or.inr (Or.inr rfl))) ac_long (by decide) (by decide +kernel) (by decide) (tk_len (by have := vob hV; omega)) ⟨(by have := vob hV; simp [xm_okv] <;> omega), (by have := vob hV; simp [xm_okv] <;> omega)⟩ (by have := vob hV; omega) ⟨Nat.le_of_ble_eq_true rfl, Nat.le_of_ble_eq_true rfl⟩ (tk_push (sv_3 hV)) ?_
  refine xs_nmM (fun m6 e_m6 => ?_)
  replace h := h m6 e_m6
  refine xs_putRF dX7_init_30 ff_X7_22 rfl (by rw [tk_len (by have := vob hV; omega)]; omega) rfl (tk (by have := vob hV; omega) (sv_0 hV)) ?_
  refine xs_nmM (fun m7 e_m7 => ?_)
  replace h := h m7 e_m7
  refine xs_aload_n dX7_init_33 rfl ?_
  refine xs_sipush (nI 928) dX7_init_34 (by decide) ?_
  refine xs_newa (n := (V + 4)) (xs_sh.take (V + 5)) 928 0 dX7_init_37 rfl (fun _ => rfl) (Or.inl rfl) ac_int (by decide) (by decide +kernel) (by decide) (tk_len (by have := vob hV; omega)) ⟨(by have := vob hV; simp [xm_okv] <;> omega), (by have := vob hV; simp [xm_okv] <;> omega)⟩ (by have := vob hV; omega) ⟨Nat.le_of_ble_eq_true rfl, Nat.le_of_ble_eq_true rfl⟩ (tk_push (sv_4 hV)) ?_
  refine xs_nmM (fun m8 e_m8 => ?_)
  replace h := h m8 e_m8
  refine xs_putRF dX7_init_39 ff_X7_28 rfl (by rw [tk_len (by have := vob hV; omega)]; omega) rfl (tk (by have := vob hV; omega) (sv_0 hV)) ?_
  refine xs_nmM (fun m9 e_m9 => ?_)
  replace h := h m9 e_m9
  exact xs_ret none dX7_init_42 trivial rfl ⟨rfl, rfl, h⟩
set_option maxHeartbeats 4000000 in
set_option maxRecDepth 100000 in
theorem n_X1_init {Q : xm_M → Prop} {μ : xm_M} {B : Nat} (hB : xs_bk B)
    (h : ∀ m1 : xm_M, m1 = xu_I μ B (upd (μ.1 B) 0 (nI 1)) →
      ∀ m2 : xm_M, m2 = xu_I m1 B (upd (m1.1 B) 2 (nI 0)) →
      ∀ m3 : xm_M, m3 = xu_I m2 B (upd (m2.1 B) 6 (nI 1)) →
      ∀ m4 : xm_M, m4 = xm_nw m3 (B + 1) →
      ∀ m5 : xm_M, m5 = xu_R m4 B (va_up (m4.2.2 B) 7 (some (B + 1))) →
      ∀ m6 : xm_M, m6 = xm_nw m5 (B + 2) →
      ∀ m7 : xm_M, m7 = xu_R m6 B (va_up (m6.2.2 B) 8 (some (B + 2))) →
      ∀ m8 : xm_M, m8 = xm_nw m7 (B + 3) →
      ∀ m9 : xm_M, m9 = xu_R m8 B (va_up (m8.2.2 B) 9 (some (B + 3))) →
      ∀ m10 : xm_M, m10 = xm_nw m9 (B + 4) →
      ∀ m11 : xm_M, m11 = xu_R m10 B (va_up (m10.2.2 B) 11 (some (B + 4))) →
      Q m11) :
    xN k_X1_init (B + 1) (B + 5) μ B Q := by
  refine xm_met [some (.ref B)] 0 (by decide) (by simp [lg_sl, Value.category]) rfl ?_
  refine xs_aload_n dX1_init_0 rfl ?_
  refine xs_oinit dX1_init_1 ml_X1_5 (Nat.le_of_ble_eq_true rfl) (Nat.le_of_ble_eq_true rfl) ?_
  refine xs_aload_n dX1_init_4 rfl ?_
  refine xs_iconst (nI 1) dX1_init_5 (by decide) ?_
  refine xs_putI dX1_init_6 fl_X1_11 rfl rfl rfl (tk (by have := bkb hB; omega) (sb_0 hB)) ?_
  refine xs_nmM (fun m1 e_m1 => ?_)
  replace h := h m1 e_m1
  refine xs_aload_n dX1_init_9 rfl ?_
  refine xs_iconst (nI 0) dX1_init_10 (by decide) ?_
  refine xs_putI dX1_init_11 fl_X1_15 rfl rfl rfl (tk (by have := bkb hB; omega) (sb_0 hB)) ?_
  refine xs_nmM (fun m2 e_m2 => ?_)
  replace h := h m2 e_m2
  refine xs_aload_n dX1_init_14 rfl ?_
  refine xs_iconst (nI 1) dX1_init_15 (by decide) ?_
  refine xs_putI dX1_init_16 fl_X1_18 rfl rfl rfl (tk (by have := bkb hB; omega) (sb_0 hB)) ?_
  refine xs_nmM (fun m3 e_m3 => ?_)
  replace h := h m3 e_m3
  refine xs_aload_n dX1_init_19 rfl ?_
  refine xs_bipush (nI 64) dX1_init_20 (by decide) ?_
  refine xs_newa (n := (B + 1)) (xs_sh.take (B + 2)) 64 0 dX1_init_22 rfl (fun _ => rfl) (Or.inl rfl) ac_int (by decide) (by decide +kernel) (by decide) (tk_len (by have := bkb hB; omega)) ⟨(by have := bkb hB; simp [xm_okv] <;> omega), (by have := bkb hB; simp [xm_okv] <;> omega)⟩ (by have := bkb hB; omega) ⟨Nat.le_of_ble_eq_true rfl, Nat.le_of_ble_eq_true rfl⟩ (tk_push (sb_1 hB)) ?_
  refine xs_nmM (fun m4 e_m4 => ?_)
  replace h := h m4 e_m4
  refine xs_putRF dX1_init_24 ff_X1_21 rfl (by rw [tk_len (by have := bkb hB; omega)]; omega) rfl (tk (by have := bkb hB; omega) (sb_0 hB)) ?_
  refine xs_nmM (fun m5 e_m5 => ?_)
  replace h := h m5 e_m5
  refine xs_aload_n dX1_init_27 rfl ?_
  refine xs_bipush (nI 64) dX1_init_28 (by decide) ?_
  refine xs_newa (n := (B + 2)) (xs_sh.take (B + 3)) 64 0 dX1_init_30 rfl (fun _ => rfl) (Or.inl rfl) ac_int (by decide) (by decide +kernel) (by decide) (tk_len (by have := bkb hB; omega)) ⟨(by have := bkb hB; simp [xm_okv] <;> omega), (by have := bkb hB; simp [xm_okv] <;> omega)⟩ (by have := bkb hB; omega) ⟨Nat.le_of_ble_eq_true rfl, Nat.le_of_ble_eq_true rfl⟩ (tk_push (sb_2 hB)) ?_
  refine xs_nmM (fun m6 e_m6 => ?_)
  replace h := h m6 e_m6
  refine xs_putRF dX1_init_32 ff_X1_25 rfl (by rw [tk_len (by have := bkb hB; omega)]; omega) rfl (tk (by have := bkb hB; omega) (sb_0 hB)) ?_
  refine xs_nmM (fun m7 e_m7 => ?_)
  replace h := h m7 e_m7
  refine xs_aload_n dX1_init_35 rfl ?_
  refine xs_sipush (nI 128) dX1_init_36 (by decide) ?_
  refine xs_newa (n := (B + 3)) (xs_sh.take (B + 4)) 128 0 dX1_init_39 rfl (fun _ => rfl) (Or.inl rfl) ac_int (by decide) (by decide +kernel) (by decide) (tk_len (by have := bkb hB; omega)) ⟨(by have := bkb hB; simp [xm_okv] <;> omega), (by have := bkb hB; simp [xm_okv] <;> omega)⟩ (by have := bkb hB; omega) ⟨Nat.le_of_ble_eq_true rfl, Nat.le_of_ble_eq_true rfl⟩ (tk_push (sb_3 hB)) ?_
  refine xs_nmM (fun m8 e_m8 => ?_)
  replace h := h m8 e_m8
  refine xs_putRF dX1_init_41 ff_X1_28 rfl (by rw [tk_len (by have := bkb hB; omega)]; omega) rfl (tk (by have := bkb hB; omega) (sb_0 hB)) ?_
  refine xs_nmM (fun m9 e_m9 => ?_)
  replace h := h m9 e_m9
  refine xs_aload_n dX1_init_44 rfl ?_
  refine xs_bipush (nI 16) dX1_init_45 (by decide) ?_
  refine xs_newa (n := (B + 4)) (xs_sh.take (B + 5)) 16 0 dX1_init_47 rfl (fun _ => rfl) (Or.inl rfl) ac_int (by decide) (by decide +kernel) (by decide) (tk_len (by have := bkb hB; omega)) ⟨(by have := bkb hB; simp [xm_okv] <;> omega), (by have := bkb hB; simp [xm_okv] <;> omega)⟩ (by have := bkb hB; omega) ⟨Nat.le_of_ble_eq_true rfl, Nat.le_of_ble_eq_true rfl⟩ (tk_push (sb_4 hB)) ?_
  refine xs_nmM (fun m10 e_m10 => ?_)
  replace h := h m10 e_m10
  refine xs_putRF dX1_init_49 ff_X1_31 rfl (by rw [tk_len (by have := bkb hB; omega)]; omega) rfl (tk (by have := bkb hB; omega) (sb_0 hB)) ?_
  refine xs_nmM (fun m11 e_m11 => ?_)
  replace h := h m11 e_m11
  exact xs_ret none dX1_init_52 trivial rfl ⟨rfl, rfl, h⟩
set_option maxHeartbeats 4000000 in
set_option maxRecDepth 100000 in
theorem n_X3_init {Q : xm_M → Prop} {μ : xm_M} 
    (h : ∀ m1 : xm_M, m1 = xm_nw μ 4 →
      ∀ m2 : xm_M, m2 = xu_R m1 3 (va_up (m1.2.2 3) 7 (some 4)) →
      ∀ m3 : xm_M, m3 = xm_nw m2 5 →
      ∀ m4 : xm_M, m4 = xu_R m3 3 (va_up (m3.2.2 3) 8 (some 5)) →
      ∀ m5 : xm_M, m5 = xm_nw m4 6 →
      ∀ m6 : xm_M, m6 = xu_R m5 3 (va_up (m5.2.2 3) 9 (some 6)) →
      ∃ Q7 : xm_M → Prop, xC k_X3_forget true (xs_sh.take 7) m6 [.ref 3] (fun r _ μ' => r = none ∧ Q7 μ') ∧
      ∀ m8 : xm_M, Q7 m8 →
      Q m8) :
    xN k_X3_init 4 7 μ 3 Q := by
  refine xm_met [some (.ref 3)] 0 (by decide) (by simp [lg_sl, Value.category]) rfl ?_
  refine xs_aload_n dX3_init_0 rfl ?_
  refine xs_oinit dX3_init_1 ml_X3_1 (Nat.le_of_ble_eq_true rfl) (Nat.le_of_ble_eq_true rfl) ?_
  refine xs_aload_n dX3_init_4 rfl ?_
  refine xs_bipush (nI 60) dX3_init_5 (by decide) ?_
  refine xs_newa (n := 4) (xs_sh.take 5) 60 0 dX3_init_7 rfl (fun _ => rfl) (Or.inl rfl) ac_int (by decide) (by decide +kernel) (by decide) (tk_len (by decide)) ⟨rfl, rfl⟩ (by decide) ⟨Nat.le_of_ble_eq_true rfl, Nat.le_of_ble_eq_true rfl⟩ (tk_push sc_4) ?_
  refine xs_nmM (fun m1 e_m1 => ?_)
  replace h := h m1 e_m1
  refine xs_putRF dX3_init_9 ff_X3_9 rfl (by rw [tk_len (by decide)]; decide) rfl (tk (by decide) sc_3) ?_
  refine xs_nmM (fun m2 e_m2 => ?_)
  replace h := h m2 e_m2
  refine xs_aload_n dX3_init_12 rfl ?_
  refine xs_bipush (nI 60) dX3_init_13 (by decide) ?_
  refine xs_newa (n := 5) (xs_sh.take 6) 60 0 dX3_init_15 rfl (fun _ => rfl) (Or.inl rfl) ac_int (by decide) (by decide +kernel) (by decide) (tk_len (by decide)) ⟨rfl, rfl⟩ (by decide) ⟨Nat.le_of_ble_eq_true rfl, Nat.le_of_ble_eq_true rfl⟩ (tk_push sc_5) ?_
  refine xs_nmM (fun m3 e_m3 => ?_)
  replace h := h m3 e_m3
  refine xs_putRF dX3_init_17 ff_X3_13 rfl (by rw [tk_len (by decide)]; decide) rfl (tk (by decide) sc_3) ?_
  refine xs_nmM (fun m4 e_m4 => ?_)
  replace h := h m4 e_m4
  refine xs_aload_n dX3_init_20 rfl ?_
  refine xs_sipush (nI 255) dX3_init_21 (by decide) ?_
  refine xs_newa (n := 6) (xs_sh.take 7) 255 0 dX3_init_24 rfl (fun _ => rfl) (Or.inl rfl) ac_int (by decide) (by decide +kernel) (by decide) (tk_len (by decide)) ⟨rfl, rfl⟩ (by decide) ⟨Nat.le_of_ble_eq_true rfl, Nat.le_of_ble_eq_true rfl⟩ (tk_push sc_6) ?_
  refine xs_nmM (fun m5 e_m5 => ?_)
  replace h := h m5 e_m5
  refine xs_putRF dX3_init_26 ff_X3_18 rfl (by rw [tk_len (by decide)]; decide) rfl (tk (by decide) sc_3) ?_
  refine xs_nmM (fun m6 e_m6 => ?_)
  replace h := h m6 e_m6
  refine xs_aload_n dX3_init_29 rfl ?_
  obtain ⟨Q7, hQ7, h⟩ := h
  refine xs_callV (j := k_X3_forget) (As := []) (S := []) dX3_init_30 hQ7 ⟨ml_X3_21, mk_X3_forget.1, mk_X3_forget.2.1, mk_X3_forget.2.2⟩ mv_X3_forget ⟨Nat.le_of_ble_eq_true rfl, Nat.le_of_ble_eq_true rfl⟩ rfl (Nat.le_of_ble_eq_true rfl) (tk (by decide) sc_3) rfl ⟨rfl, rfl⟩ (fun rr m8 hq10 => ?_)
  obtain ⟨rfl, hq10⟩ := hq10
  replace h := h m8 hq10
  exact xs_ret none dX3_init_33 trivial rfl ⟨rfl, rfl, h⟩
abbrev hn_X5_init_43 (Q : xm_M → Prop) (v1 : Int32) (μ : xm_M) : Prop := xR k_X5_init none false (fun r sh' μ' => r = none ∧ sh' = xs_sh.take 64 ∧ Q μ') 43 [some (.ref 59), some (.int v1)] [] (xs_sh.take 63) (3, 304) μ
abbrev hn_X5_init_89 (Q : xm_M → Prop) (v1 : Int32) (μ : xm_M) : Prop := xR k_X5_init none false (fun r sh' μ' => r = none ∧ sh' = xs_sh.take 64 ∧ Q μ') 89 [some (.ref 59), some (.int v1)] [] (xs_sh.take 64) (4, 432) μ
set_option maxHeartbeats 4000000 in
set_option maxRecDepth 100000 in
theorem ln_X5_init_43 {Q : xm_M → Prop} {μ : xm_M} (v1 : Int32)
    (h : ((v1 < 0 →
       ∀ m2 : xm_M, m2 = xm_nw μ 63 →
       ∀ m3 : xm_M, m3 = xu_R m2 59 (va_up (m2.2.2 59) 3 (some 63)) →
       hn_X5_init_89 Q (nI 0) m3) ∧
      (¬ v1 < 0 →
       μ.2.2 59 2 = some 62 ∧
       μ.2.2 59 2 = some 62 ∧
       vp_in (v1 + (nI 1)) 256 ∧
       vp_in v1 256 ∧
       ∀ m8 : xm_M, m8 = xu_I μ 62 (upd (μ.1 62) (v1).toNatClampNeg ((((nI 15391) * (μ.1 62 ((v1 + (nI 1))).toNatClampNeg)) + (nI 8192)) >>> ((nI 14) &&& 31))) →
       ∀ x9 : Int32, x9 = v1 + (-1) →
       hn_X5_init_43 Q x9 m8))) :
    hn_X5_init_43 Q v1 μ := by
  refine xs_iload_n dX5_init_43 rfl ?_
  refine xs_if_lt 78 dX5_init_44 (by decide) (fun c1 => ?_) (fun c1 => ?_)
  · replace h := h.1 c1
    refine xs_aload_n dX5_init_78 rfl ?_
    refine xs_sipush (nI 128) dX5_init_79 (by decide) ?_
    refine xs_newa (n := 63) (xs_sh.take 64) 128 0 dX5_init_82 rfl (fun _ => rfl) (Or.inl rfl) ac_int (by decide) (by decide +kernel) (by decide) (tk_len (by decide)) ⟨rfl, rfl⟩ (by decide) ⟨Nat.le_of_ble_eq_true rfl, Nat.le_of_ble_eq_true rfl⟩ (tk_push sc_63) ?_
    refine xs_nmM (fun m2 e_m2 => ?_)
    replace h := h m2 e_m2
    refine xs_putRF dX5_init_84 ff_X5_23 rfl (by rw [tk_len (by decide)]; decide) rfl (tk (by decide) sc_59) ?_
    refine xs_nmM (fun m3 e_m3 => ?_)
    replace h := h m3 e_m3
    refine xs_iconst (nI 0) dX5_init_87 (by decide) ?_
    refine xs_istore_n [some (.ref 59), some (.int (nI 0))] dX5_init_88 (by decide) rfl ?_
    exact xs_loc [some (.ref 59), some (.int (nI 0))] ⟨rfl, ⟨rfl, trivial⟩⟩ h
  · replace h := h.2 c1
    refine xs_aload_n dX5_init_47 rfl ?_
    obtain ⟨s4, h⟩ := h
    refine xs_getR dX5_init_48 fl_X5_18 rfl (tk (by decide) sc_59) s4 ?_
    refine xs_iload_n dX5_init_51 rfl ?_
    refine xs_sipush (nI 15391) dX5_init_52 (by decide) ?_
    refine xs_aload_n dX5_init_55 rfl ?_
    obtain ⟨s5, h⟩ := h
    refine xs_getR dX5_init_56 fl_X5_18 rfl (tk (by decide) sc_59) s5 ?_
    refine xs_iload_n dX5_init_59 rfl ?_
    refine xs_iconst (nI 1) dX5_init_60 (by decide) ?_
    refine xs_iadd dX5_init_61 ?_
    obtain ⟨s6, h⟩ := h
    refine xs_iald dX5_init_62 (tk (by decide) sc_62) s6 ?_
    refine xs_imul dX5_init_63 ?_
    refine xs_sipush (nI 8192) dX5_init_64 (by decide) ?_
    refine xs_iadd dX5_init_67 ?_
    refine xs_bipush (nI 14) dX5_init_68 (by decide) ?_
    refine xs_ishr dX5_init_70 ?_
    obtain ⟨s7, h⟩ := h
    refine xs_iast dX5_init_71 (tk (by decide) sc_62) s7 ?_
    refine xs_nmM (fun m8 e_m8 => ?_)
    replace h := h m8 e_m8
    obtain ⟨x9, e_x9⟩ : ∃ z : Int32, z = v1 + (-1) := ⟨_, rfl⟩
    replace h := h x9 e_x9
    refine xs_iinc x9 [some (.ref 59), some (.int x9)] dX5_init_72 (by decide) rfl (by rw [e_x9]; rfl) rfl ?_
    refine xs_goto 43 dX5_init_75 (by decide) ?_
    exact xs_loc [some (.ref 59), some (.int x9)] ⟨rfl, ⟨rfl, trivial⟩⟩ h
set_option maxHeartbeats 4000000 in
set_option maxRecDepth 100000 in
theorem ln_X5_init_89 {Q : xm_M → Prop} {μ : xm_M} (v1 : Int32)
    (h : (((nI 128) ≤ v1 →
       Q μ) ∧
      (¬ (nI 128) ≤ v1 →
       μ.2.2 59 3 = some 63 ∧
       ∃ Q3 : Int32 → xm_M → Prop, xC k_X5_cosine true (xs_sh.take 64) μ [.int v1] (fun r _ μ' => ∃ x : Int32, r = some (.int x) ∧ Q3 x μ') ∧
       ∀ (r5 : Int32) (m4 : xm_M), Q3 r5 m4 →
       vp_in v1 128 ∧
       ∀ m8 : xm_M, m8 = xu_I m4 63 (upd (m4.1 63) (v1).toNatClampNeg r5) →
       ∀ x9 : Int32, x9 = v1 + nI 1 →
       hn_X5_init_89 Q x9 m8))) :
    hn_X5_init_89 Q v1 μ := by
  refine xs_iload_n dX5_init_89 rfl ?_
  refine xs_sipush (nI 128) dX5_init_90 (by decide) ?_
  refine xs_icmp_ge 112 dX5_init_93 (by decide) (fun c1 => ?_) (fun c1 => ?_)
  · replace h := h.1 c1
    exact xs_ret none dX5_init_112 trivial rfl ⟨rfl, rfl, h⟩
  · replace h := h.2 c1
    refine xs_aload_n dX5_init_96 rfl ?_
    obtain ⟨s2, h⟩ := h
    refine xs_getR dX5_init_97 fl_X5_23 rfl (tk (by decide) sc_59) s2 ?_
    refine xs_iload_n dX5_init_100 rfl ?_
    refine xs_iload_n dX5_init_101 rfl ?_
    obtain ⟨Q3, hQ3, h⟩ := h
    refine xs_callS (j := k_X5_cosine) (As := [.int v1]) (S := [.int v1, .ref 63]) dX5_init_102 hQ3 ⟨ml_X5_26, mk_X5_cosine.1, mk_X5_cosine.2.1, mk_X5_cosine.2.2⟩ ms_X5_cosine ⟨Nat.le_of_ble_eq_true rfl, Nat.le_of_ble_eq_true rfl⟩ rfl (Nat.le_of_ble_eq_true rfl) ⟨rfl, rfl⟩ (fun rr m4 hq6 => ?_)
    obtain ⟨r5, rfl, hq6⟩ := hq6
    replace h := h r5 m4 hq6
    obtain ⟨s7, h⟩ := h
    refine xs_iast dX5_init_105 (tk (by decide) sc_63) s7 ?_
    refine xs_nmM (fun m8 e_m8 => ?_)
    replace h := h m8 e_m8
    obtain ⟨x9, e_x9⟩ : ∃ z : Int32, z = v1 + nI 1 := ⟨_, rfl⟩
    replace h := h x9 e_x9
    refine xs_iinc x9 [some (.ref 59), some (.int x9)] dX5_init_106 (by decide) rfl (by rw [e_x9]; rfl) rfl ?_
    refine xs_goto 89 dX5_init_109 (by decide) ?_
    exact xs_loc [some (.ref 59), some (.int x9)] ⟨rfl, ⟨rfl, trivial⟩⟩ h
set_option maxHeartbeats 4000000 in
set_option maxRecDepth 100000 in
theorem n_X5_init {Q : xm_M → Prop} {μ : xm_M} 
    (h : ∀ m1 : xm_M, m1 = xm_nw μ 60 →
      ∀ m2 : xm_M, m2 = xu_R m1 59 (va_up (m1.2.2 59) 0 (some 60)) →
      ∀ m3 : xm_M, m3 = xm_nw m2 61 →
      ∀ m4 : xm_M, m4 = xu_R m3 59 (va_up (m3.2.2 59) 1 (some 61)) →
      ∀ m5 : xm_M, m5 = xm_nw m4 62 →
      ∀ m6 : xm_M, m6 = xu_R m5 59 (va_up (m5.2.2 59) 2 (some 62)) →
      m6.2.2 59 2 = some 62 ∧
      vp_in (nI 255) 256 ∧
      ∀ m9 : xm_M, m9 = xu_I m6 62 (upd (m6.1 62) ((nI 255)).toNatClampNeg (nI 65536)) →
      hn_X5_init_43 Q (nI 254) m9) :
    xN k_X5_init 60 64 μ 59 Q := by
  refine xm_met [some (.ref 59), none] 1 (by decide) (by simp [lg_sl, Value.category]) rfl ?_
  refine xs_aload_n dX5_init_0 rfl ?_
  refine xs_oinit dX5_init_1 ml_X5_3 (Nat.le_of_ble_eq_true rfl) (Nat.le_of_ble_eq_true rfl) ?_
  refine xs_aload_n dX5_init_4 rfl ?_
  refine xs_bipush (nI 32) dX5_init_5 (by decide) ?_
  refine xs_newa (n := 60) (xs_sh.take 61) 32 3 dX5_init_7 rfl (fun _ => rfl) (Or.inr (Or.inr (Or.inr rfl))) ac_long (by decide) (by decide +kernel) (by decide) (tk_len (by decide)) ⟨rfl, rfl⟩ (by decide) ⟨Nat.le_of_ble_eq_true rfl, Nat.le_of_ble_eq_true rfl⟩ (tk_push sc_60) ?_
  refine xs_nmM (fun m1 e_m1 => ?_)
  replace h := h m1 e_m1
  refine xs_putRF dX5_init_9 ff_X5_9 rfl (by rw [tk_len (by decide)]; decide) rfl (tk (by decide) sc_59) ?_
  refine xs_nmM (fun m2 e_m2 => ?_)
  replace h := h m2 e_m2
  refine xs_aload_n dX5_init_12 rfl ?_
  refine xs_bipush (nI 16) dX5_init_13 (by decide) ?_
  refine xs_newa (n := 61) (xs_sh.take 62) 16 3 dX5_init_15 rfl (fun _ => rfl) (Or.inr (Or.inr (Or.inr rfl))) ac_long (by decide) (by decide +kernel) (by decide) (tk_len (by decide)) ⟨rfl, rfl⟩ (by decide) ⟨Nat.le_of_ble_eq_true rfl, Nat.le_of_ble_eq_true rfl⟩ (tk_push sc_61) ?_
  refine xs_nmM (fun m3 e_m3 => ?_)
  replace h := h m3 e_m3
  refine xs_putRF dX5_init_17 ff_X5_15 rfl (by rw [tk_len (by decide)]; decide) rfl (tk (by decide) sc_59) ?_
  refine xs_nmM (fun m4 e_m4 => ?_)
  replace h := h m4 e_m4
  refine xs_aload_n dX5_init_20 rfl ?_
  refine xs_sipush (nI 256) dX5_init_21 (by decide) ?_
  refine xs_newa (n := 62) (xs_sh.take 63) 256 0 dX5_init_24 rfl (fun _ => rfl) (Or.inl rfl) ac_int (by decide) (by decide +kernel) (by decide) (tk_len (by decide)) ⟨rfl, rfl⟩ (by decide) ⟨Nat.le_of_ble_eq_true rfl, Nat.le_of_ble_eq_true rfl⟩ (tk_push sc_62) ?_
  refine xs_nmM (fun m5 e_m5 => ?_)
  replace h := h m5 e_m5
  refine xs_putRF dX5_init_26 ff_X5_18 rfl (by rw [tk_len (by decide)]; decide) rfl (tk (by decide) sc_59) ?_
  refine xs_nmM (fun m6 e_m6 => ?_)
  replace h := h m6 e_m6
  refine xs_aload_n dX5_init_29 rfl ?_
  obtain ⟨s7, h⟩ := h
  refine xs_getR dX5_init_30 fl_X5_18 rfl (tk (by decide) sc_59) s7 ?_
  refine xs_sipush (nI 255) dX5_init_33 (by decide) ?_
  refine xs_ldc dX5_init_36 cn_X5_22 ?_
  obtain ⟨s8, h⟩ := h
  refine xs_iast dX5_init_38 (tk (by decide) sc_62) s8 ?_
  refine xs_nmM (fun m9 e_m9 => ?_)
  replace h := h m9 e_m9
  refine xs_sipush (nI 254) dX5_init_39 (by decide) ?_
  refine xs_istore_n [some (.ref 59), some (.int (nI 254))] dX5_init_42 (by decide) rfl ?_
  exact xs_loc [some (.ref 59), some (.int (nI 254))] ⟨rfl, ⟨rfl, trivial⟩⟩ h
set_option maxHeartbeats 4000000 in
set_option maxRecDepth 100000 in
theorem n_X4_init {Q : xm_M → Prop} {μ : xm_M} 
    (h : ∀ m1 : xm_M, m1 = xm_nw μ 10 →
      ∀ m2 : xm_M, m2 = xu_R m1 9 (va_up (m1.2.2 9) 4 (some 10)) →
      ∀ m3 : xm_M, m3 = xm_nw m2 11 →
      ∀ m4 : xm_M, m4 = xu_R m3 9 (va_up (m3.2.2 9) 5 (some 11)) →
      ∀ m5 : xm_M, m5 = xm_nw m4 12 →
      ∀ m6 : xm_M, m6 = xu_R m5 9 (va_up (m5.2.2 9) 6 (some 12)) →
      ∀ m7 : xm_M, m7 = xm_nw m6 13 →
      ∀ m8 : xm_M, m8 = xu_R m7 9 (va_up (m7.2.2 9) 7 (some 13)) →
      ∀ m9 : xm_M, m9 = xm_nw m8 14 →
      ∀ m10 : xm_M, m10 = xu_R m9 9 (va_up (m9.2.2 9) 14 (some 14)) →
      ∀ m11 : xm_M, m11 = xm_nw m10 15 →
      ∀ m12 : xm_M, m12 = xu_R m11 9 (va_up (m11.2.2 9) 8 (some 15)) →
      m12.2.2 9 8 = some 15 ∧
      m12.2.2 9 8 = some 15 ∧
      ∀ m16 : xm_M, m16 = xm_nw m12 16 →
      ∃ Q17 : xm_M → Prop, xN k_X1_init 17 21 m16 16 Q17 ∧
      ∀ m18 : xm_M, Q17 m18 →
      ∀ m20 : xm_M, m20 = xu_R m18 15 (va_up (m18.2.2 15) ((nI 0)).toNatClampNeg (some 16)) →
      m20.2.2 9 8 = some 15 ∧
      m20.2.2 9 8 = some 15 ∧
      ∀ m24 : xm_M, m24 = xm_nw m20 21 →
      ∃ Q25 : xm_M → Prop, xN k_X1_init 22 26 m24 21 Q25 ∧
      ∀ m26 : xm_M, Q25 m26 →
      ∀ m28 : xm_M, m28 = xu_R m26 15 (va_up (m26.2.2 15) ((nI 1)).toNatClampNeg (some 21)) →
      m28.2.2 9 8 = some 15 ∧
      m28.2.2 9 8 = some 15 ∧
      ∀ m32 : xm_M, m32 = xm_nw m28 26 →
      ∃ Q33 : xm_M → Prop, xN k_X1_init 27 31 m32 26 Q33 ∧
      ∀ m34 : xm_M, Q33 m34 →
      ∀ m36 : xm_M, m36 = xu_R m34 15 (va_up (m34.2.2 15) ((nI 2)).toNatClampNeg (some 26)) →
      m36.2.2 9 8 = some 15 ∧
      m36.2.2 9 8 = some 15 ∧
      ∀ m40 : xm_M, m40 = xm_nw m36 31 →
      ∃ Q41 : xm_M → Prop, xN k_X1_init 32 36 m40 31 Q41 ∧
      ∀ m42 : xm_M, Q41 m42 →
      ∀ m44 : xm_M, m44 = xu_R m42 15 (va_up (m42.2.2 15) ((nI 3)).toNatClampNeg (some 31)) →
      m44.2.2 9 8 = some 15 ∧
      m44.2.2 9 8 = some 15 ∧
      ∀ m48 : xm_M, m48 = xm_nw m44 36 →
      ∃ Q49 : xm_M → Prop, xN k_X1_init 37 41 m48 36 Q49 ∧
      ∀ m50 : xm_M, Q49 m50 →
      ∀ m52 : xm_M, m52 = xu_R m50 15 (va_up (m50.2.2 15) ((nI 4)).toNatClampNeg (some 36)) →
      m52.2.2 9 8 = some 15 ∧
      m52.2.2 9 8 = some 15 ∧
      ∀ m56 : xm_M, m56 = xm_nw m52 41 →
      ∃ Q57 : xm_M → Prop, xN k_X1_init 42 46 m56 41 Q57 ∧
      ∀ m58 : xm_M, Q57 m58 →
      ∀ m60 : xm_M, m60 = xu_R m58 15 (va_up (m58.2.2 15) ((nI 5)).toNatClampNeg (some 41)) →
      m60.2.2 9 8 = some 15 ∧
      m60.2.2 9 8 = some 15 ∧
      ∀ m64 : xm_M, m64 = xm_nw m60 46 →
      ∃ Q65 : xm_M → Prop, xN k_X1_init 47 51 m64 46 Q65 ∧
      ∀ m66 : xm_M, Q65 m66 →
      ∀ m68 : xm_M, m68 = xu_R m66 15 (va_up (m66.2.2 15) ((nI 6)).toNatClampNeg (some 46)) →
      m68.2.2 9 8 = some 15 ∧
      m68.2.2 9 8 = some 15 ∧
      ∀ m72 : xm_M, m72 = xm_nw m68 51 →
      ∃ Q73 : xm_M → Prop, xN k_X1_init 52 56 m72 51 Q73 ∧
      ∀ m74 : xm_M, Q73 m74 →
      ∀ m76 : xm_M, m76 = xu_R m74 15 (va_up (m74.2.2 15) ((nI 7)).toNatClampNeg (some 51)) →
      m76.2.2 9 8 = some 15 ∧
      ∀ m79 : xm_M, m79 = xu_I m76 9 (upd (m76.1 9) 0 (nI 1)) →
      ∀ m80 : xm_M, m80 = xu_I m79 9 (upd (m79.1 9) 1 (nI 1)) →
      ∀ m81 : xm_M, m81 = xu_I m80 9 (upd (m80.1 9) 11 (nI 1)) →
      ∀ m82 : xm_M, m82 = xu_I m81 9 (upd (m81.1 9) 12 (nI 1)) →
      Q m82) :
    xN k_X4_init 10 56 μ 9 Q := by
  refine xm_met [some (.ref 9), none] 1 (by decide) (by simp [lg_sl, Value.category]) rfl ?_
  refine xs_aload_n dX4_init_0 rfl ?_
  refine xs_oinit dX4_init_1 ml_X4_3 (Nat.le_of_ble_eq_true rfl) (Nat.le_of_ble_eq_true rfl) ?_
  refine xs_aload_n dX4_init_4 rfl ?_
  refine xs_bipush (nI 17) dX4_init_5 (by decide) ?_
  refine xs_newa (n := 10) (xs_sh.take 11) 17 0 dX4_init_7 rfl (fun _ => rfl) (Or.inl rfl) ac_int (by decide) (by decide +kernel) (by decide) (tk_len (by decide)) ⟨rfl, rfl⟩ (by decide) ⟨Nat.le_of_ble_eq_true rfl, Nat.le_of_ble_eq_true rfl⟩ (tk_push sc_10) ?_
  refine xs_nmM (fun m1 e_m1 => ?_)
  replace h := h m1 e_m1
  refine xs_putRF dX4_init_9 ff_X4_11 rfl (by rw [tk_len (by decide)]; decide) rfl (tk (by decide) sc_9) ?_
  refine xs_nmM (fun m2 e_m2 => ?_)
  replace h := h m2 e_m2
  refine xs_aload_n dX4_init_12 rfl ?_
  refine xs_bipush (nI 17) dX4_init_13 (by decide) ?_
  refine xs_newa (n := 11) (xs_sh.take 12) 17 0 dX4_init_15 rfl (fun _ => rfl) (Or.inl rfl) ac_int (by decide) (by decide +kernel) (by decide) (tk_len (by decide)) ⟨rfl, rfl⟩ (by decide) ⟨Nat.le_of_ble_eq_true rfl, Nat.le_of_ble_eq_true rfl⟩ (tk_push sc_11) ?_
  refine xs_nmM (fun m3 e_m3 => ?_)
  replace h := h m3 e_m3
  refine xs_putRF dX4_init_17 ff_X4_15 rfl (by rw [tk_len (by decide)]; decide) rfl (tk (by decide) sc_9) ?_
  refine xs_nmM (fun m4 e_m4 => ?_)
  replace h := h m4 e_m4
  refine xs_aload_n dX4_init_20 rfl ?_
  refine xs_bipush (nI 17) dX4_init_21 (by decide) ?_
  refine xs_newa (n := 12) (xs_sh.take 13) 17 0 dX4_init_23 rfl (fun _ => rfl) (Or.inl rfl) ac_int (by decide) (by decide +kernel) (by decide) (tk_len (by decide)) ⟨rfl, rfl⟩ (by decide) ⟨Nat.le_of_ble_eq_true rfl, Nat.le_of_ble_eq_true rfl⟩ (tk_push sc_12) ?_
  refine xs_nmM (fun m5 e_m5 => ?_)
  replace h := h m5 e_m5
  refine xs_putRF dX4_init_25 ff_X4_18 rfl (by rw [tk_len (by decide)]; decide) rfl (tk (by decide) sc_9) ?_
  refine xs_nmM (fun m6 e_m6 => ?_)
  replace h := h m6 e_m6
  refine xs_aload_n dX4_init_28 rfl ?_
  refine xs_bipush (nI 17) dX4_init_29 (by decide) ?_
  refine xs_newa (n := 13) (xs_sh.take 14) 17 0 dX4_init_31 rfl (fun _ => rfl) (Or.inl rfl) ac_int (by decide) (by decide +kernel) (by decide) (tk_len (by decide)) ⟨rfl, rfl⟩ (by decide) ⟨Nat.le_of_ble_eq_true rfl, Nat.le_of_ble_eq_true rfl⟩ (tk_push sc_13) ?_
  refine xs_nmM (fun m7 e_m7 => ?_)
  replace h := h m7 e_m7
  refine xs_putRF dX4_init_33 ff_X4_21 rfl (by rw [tk_len (by decide)]; decide) rfl (tk (by decide) sc_9) ?_
  refine xs_nmM (fun m8 e_m8 => ?_)
  replace h := h m8 e_m8
  refine xs_aload_n dX4_init_36 rfl ?_
  refine xs_iconst (nI 4) dX4_init_37 (by decide) ?_
  refine xs_newa (n := 14) (xs_sh.take 15) 4 0 dX4_init_38 rfl (fun _ => rfl) (Or.inl rfl) ac_int (by decide) (by decide +kernel) (by decide) (tk_len (by decide)) ⟨rfl, rfl⟩ (by decide) ⟨Nat.le_of_ble_eq_true rfl, Nat.le_of_ble_eq_true rfl⟩ (tk_push sc_14) ?_
  refine xs_nmM (fun m9 e_m9 => ?_)
  replace h := h m9 e_m9
  refine xs_putRF dX4_init_40 ff_X4_24 rfl (by rw [tk_len (by decide)]; decide) rfl (tk (by decide) sc_9) ?_
  refine xs_nmM (fun m10 e_m10 => ?_)
  replace h := h m10 e_m10
  refine xs_aload_n dX4_init_43 rfl ?_
  refine xs_bipush (nI 8) dX4_init_44 (by decide) ?_
  refine xs_newq (n := 15) (xs_sh.take 16) 8 4 dX4_init_46 (Or.inl rfl) (fun _ => rfl) al_X4_27 (by decide) (by decide +kernel) (by decide) (tk_len (by decide)) ⟨rfl, rfl⟩ (by decide) ⟨Nat.le_of_ble_eq_true rfl, Nat.le_of_ble_eq_true rfl⟩ (tk_push sc_15) ?_
  refine xs_nmM (fun m11 e_m11 => ?_)
  replace h := h m11 e_m11
  refine xs_putRF dX4_init_49 ff_X4_29 rfl (by rw [tk_len (by decide)]; decide) rfl (tk (by decide) sc_9) ?_
  refine xs_nmM (fun m12 e_m12 => ?_)
  replace h := h m12 e_m12
  refine xs_iconst (nI 0) dX4_init_52 (by decide) ?_
  refine xs_istore_n [some (.ref 9), some (.int (nI 0))] dX4_init_53 (by decide) rfl ?_
  refine xs_iload_n dX4_init_54 rfl ?_
  refine xs_aload_n dX4_init_55 rfl ?_
  obtain ⟨s13, h⟩ := h
  refine xs_getR dX4_init_56 fl_X4_29 rfl (tk (by decide) sc_9) s13 ?_
  refine xs_alen 4 dX4_init_59 (tk (by decide) sc_15) (fun _ => rfl) ?_
  refine xs_icmp_ge 82 dX4_init_60 (by decide) (fun c14 => absurd c14 (by decide)) (fun _ => ?_)
  refine xs_aload_n dX4_init_63 rfl ?_
  obtain ⟨s15, h⟩ := h
  refine xs_getR dX4_init_64 fl_X4_29 rfl (tk (by decide) sc_9) s15 ?_
  refine xs_iload_n dX4_init_67 rfl ?_
  refine xs_new (n := 16) (ci := 1) (xs_sh.take 17) 12 dX4_init_68 nl_X4_27 (by decide) (tk_len (by decide)) ⟨rfl, rfl⟩ (by decide) ⟨Nat.le_of_ble_eq_true rfl, Nat.le_of_ble_eq_true rfl⟩ (tk_push sc_16) ?_
  refine xs_nmM (fun m16 e_m16 => ?_)
  replace h := h m16 e_m16
  refine xs_dup dX4_init_71 rfl ?_
  obtain ⟨Q17, hQ17, h⟩ := h
  refine xs_callI (j := k_X1_init) (n := 17) dX4_init_72 hQ17 ⟨ml_X4_33, mk_X1_init.1, mk_X1_init.2.1, mk_X1_init.2.2⟩ mi_X1_init rfl rfl ⟨Nat.le_of_ble_eq_true rfl, Nat.le_of_ble_eq_true rfl⟩ (Nat.le_of_ble_eq_true rfl) (tk_len (by decide)) ⟨rfl, rfl⟩ ⟨Nat.le_of_ble_eq_true rfl, Nat.le_of_ble_eq_true rfl⟩ ?_
  rintro rr sh2 m18 ⟨rfl, rfl, hq19⟩
  replace h := h m18 hq19
  refine ⟨rfl, ?_⟩
  refine xs_astB dX4_init_75 (tk (by decide) sc_15) (tk (by decide) sc_16) (vin (by decide) (by decide)) ?_
  refine xs_nmM (fun m20 e_m20 => ?_)
  replace h := h m20 e_m20
  refine xs_iinc (nI 1) [some (.ref 9), some (.int (nI 1))] dX4_init_76 (by decide) rfl (by decide) rfl ?_
  refine xs_goto 54 dX4_init_79 (by decide) ?_
  refine xs_iload_n dX4_init_54 rfl ?_
  refine xs_aload_n dX4_init_55 rfl ?_
  obtain ⟨s21, h⟩ := h
  refine xs_getR dX4_init_56 fl_X4_29 rfl (tk (by decide) sc_9) s21 ?_
  refine xs_alen 4 dX4_init_59 (tk (by decide) sc_15) (fun _ => rfl) ?_
  refine xs_icmp_ge 82 dX4_init_60 (by decide) (fun c22 => absurd c22 (by decide)) (fun _ => ?_)
  refine xs_aload_n dX4_init_63 rfl ?_
  obtain ⟨s23, h⟩ := h
  refine xs_getR dX4_init_64 fl_X4_29 rfl (tk (by decide) sc_9) s23 ?_
  refine xs_iload_n dX4_init_67 rfl ?_
  refine xs_new (n := 21) (ci := 1) (xs_sh.take 22) 12 dX4_init_68 nl_X4_27 (by decide) (tk_len (by decide)) ⟨rfl, rfl⟩ (by decide) ⟨Nat.le_of_ble_eq_true rfl, Nat.le_of_ble_eq_true rfl⟩ (tk_push sc_21) ?_
  refine xs_nmM (fun m24 e_m24 => ?_)
  replace h := h m24 e_m24
  refine xs_dup dX4_init_71 rfl ?_
  obtain ⟨Q25, hQ25, h⟩ := h
  refine xs_callI (j := k_X1_init) (n := 22) dX4_init_72 hQ25 ⟨ml_X4_33, mk_X1_init.1, mk_X1_init.2.1, mk_X1_init.2.2⟩ mi_X1_init rfl rfl ⟨Nat.le_of_ble_eq_true rfl, Nat.le_of_ble_eq_true rfl⟩ (Nat.le_of_ble_eq_true rfl) (tk_len (by decide)) ⟨rfl, rfl⟩ ⟨Nat.le_of_ble_eq_true rfl, Nat.le_of_ble_eq_true rfl⟩ ?_
  rintro rr sh2 m26 ⟨rfl, rfl, hq27⟩
  replace h := h m26 hq27
  refine ⟨rfl, ?_⟩
  refine xs_astB dX4_init_75 (tk (by decide) sc_15) (tk (by decide) sc_21) (vin (by decide) (by decide)) ?_
  refine xs_nmM (fun m28 e_m28 => ?_)
  replace h := h m28 e_m28
  refine xs_iinc (nI 2) [some (.ref 9), some (.int (nI 2))] dX4_init_76 (by decide) rfl (by decide) rfl ?_
  refine xs_goto 54 dX4_init_79 (by decide) ?_
  refine xs_iload_n dX4_init_54 rfl ?_
  refine xs_aload_n dX4_init_55 rfl ?_
  obtain ⟨s29, h⟩ := h
  refine xs_getR dX4_init_56 fl_X4_29 rfl (tk (by decide) sc_9) s29 ?_
  refine xs_alen 4 dX4_init_59 (tk (by decide) sc_15) (fun _ => rfl) ?_
  refine xs_icmp_ge 82 dX4_init_60 (by decide) (fun c30 => absurd c30 (by decide)) (fun _ => ?_)
  refine xs_aload_n dX4_init_63 rfl ?_
  obtain ⟨s31, h⟩ := h
  refine xs_getR dX4_init_64 fl_X4_29 rfl (tk (by decide) sc_9) s31 ?_
  refine xs_iload_n dX4_init_67 rfl ?_
  refine xs_new (n := 26) (ci := 1) (xs_sh.take 27) 12 dX4_init_68 nl_X4_27 (by decide) (tk_len (by decide)) ⟨rfl, rfl⟩ (by decide) ⟨Nat.le_of_ble_eq_true rfl, Nat.le_of_ble_eq_true rfl⟩ (tk_push sc_26) ?_
  refine xs_nmM (fun m32 e_m32 => ?_)
  replace h := h m32 e_m32
  refine xs_dup dX4_init_71 rfl ?_
  obtain ⟨Q33, hQ33, h⟩ := h
  refine xs_callI (j := k_X1_init) (n := 27) dX4_init_72 hQ33 ⟨ml_X4_33, mk_X1_init.1, mk_X1_init.2.1, mk_X1_init.2.2⟩ mi_X1_init rfl rfl ⟨Nat.le_of_ble_eq_true rfl, Nat.le_of_ble_eq_true rfl⟩ (Nat.le_of_ble_eq_true rfl) (tk_len (by decide)) ⟨rfl, rfl⟩ ⟨Nat.le_of_ble_eq_true rfl, Nat.le_of_ble_eq_true rfl⟩ ?_
  rintro rr sh2 m34 ⟨rfl, rfl, hq35⟩
  replace h := h m34 hq35
  refine ⟨rfl, ?_⟩
  refine xs_astB dX4_init_75 (tk (by decide) sc_15) (tk (by decide) sc_26) (vin (by decide) (by decide)) ?_
  refine xs_nmM (fun m36 e_m36 => ?_)
  replace h := h m36 e_m36
  refine xs_iinc (nI 3) [some (.ref 9), some (.int (nI 3))] dX4_init_76 (by decide) rfl (by decide) rfl ?_
  refine xs_goto 54 dX4_init_79 (by decide) ?_
  refine xs_iload_n dX4_init_54 rfl ?_
  refine xs_aload_n dX4_init_55 rfl ?_
  obtain ⟨s37, h⟩ := h
  refine xs_getR dX4_init_56 fl_X4_29 rfl (tk (by decide) sc_9) s37 ?_
  refine xs_alen 4 dX4_init_59 (tk (by decide) sc_15) (fun _ => rfl) ?_
  refine xs_icmp_ge 82 dX4_init_60 (by decide) (fun c38 => absurd c38 (by decide)) (fun _ => ?_)
  refine xs_aload_n dX4_init_63 rfl ?_
  obtain ⟨s39, h⟩ := h
  refine xs_getR dX4_init_64 fl_X4_29 rfl (tk (by decide) sc_9) s39 ?_
  refine xs_iload_n dX4_init_67 rfl ?_
  refine xs_new (n := 31) (ci := 1) (xs_sh.take 32) 12 dX4_init_68 nl_X4_27 (by decide) (tk_len (by decide)) ⟨rfl, rfl⟩ (by decide) ⟨Nat.le_of_ble_eq_true rfl, Nat.le_of_ble_eq_true rfl⟩ (tk_push sc_31) ?_
  refine xs_nmM (fun m40 e_m40 => ?_)
  replace h := h m40 e_m40
  refine xs_dup dX4_init_71 rfl ?_
  obtain ⟨Q41, hQ41, h⟩ := h
  refine xs_callI (j := k_X1_init) (n := 32) dX4_init_72 hQ41 ⟨ml_X4_33, mk_X1_init.1, mk_X1_init.2.1, mk_X1_init.2.2⟩ mi_X1_init rfl rfl ⟨Nat.le_of_ble_eq_true rfl, Nat.le_of_ble_eq_true rfl⟩ (Nat.le_of_ble_eq_true rfl) (tk_len (by decide)) ⟨rfl, rfl⟩ ⟨Nat.le_of_ble_eq_true rfl, Nat.le_of_ble_eq_true rfl⟩ ?_
  rintro rr sh2 m42 ⟨rfl, rfl, hq43⟩
  replace h := h m42 hq43
  refine ⟨rfl, ?_⟩
  refine xs_astB dX4_init_75 (tk (by decide) sc_15) (tk (by decide) sc_31) (vin (by decide) (by decide)) ?_
  refine xs_nmM (fun m44 e_m44 => ?_)
  replace h := h m44 e_m44
  refine xs_iinc (nI 4) [some (.ref 9), some (.int (nI 4))] dX4_init_76 (by decide) rfl (by decide) rfl ?_
  refine xs_goto 54 dX4_init_79 (by decide) ?_
  refine xs_iload_n dX4_init_54 rfl ?_
  refine xs_aload_n dX4_init_55 rfl ?_
  obtain ⟨s45, h⟩ := h
  refine xs_getR dX4_init_56 fl_X4_29 rfl (tk (by decide) sc_9) s45 ?_
  refine xs_alen 4 dX4_init_59 (tk (by decide) sc_15) (fun _ => rfl) ?_
  refine xs_icmp_ge 82 dX4_init_60 (by decide) (fun c46 => absurd c46 (by decide)) (fun _ => ?_)
  refine xs_aload_n dX4_init_63 rfl ?_
  obtain ⟨s47, h⟩ := h
  refine xs_getR dX4_init_64 fl_X4_29 rfl (tk (by decide) sc_9) s47 ?_
  refine xs_iload_n dX4_init_67 rfl ?_
  refine xs_new (n := 36) (ci := 1) (xs_sh.take 37) 12 dX4_init_68 nl_X4_27 (by decide) (tk_len (by decide)) ⟨rfl, rfl⟩ (by decide) ⟨Nat.le_of_ble_eq_true rfl, Nat.le_of_ble_eq_true rfl⟩ (tk_push sc_36) ?_
  refine xs_nmM (fun m48 e_m48 => ?_)
  replace h := h m48 e_m48
  refine xs_dup dX4_init_71 rfl ?_
  obtain ⟨Q49, hQ49, h⟩ := h
  refine xs_callI (j := k_X1_init) (n := 37) dX4_init_72 hQ49 ⟨ml_X4_33, mk_X1_init.1, mk_X1_init.2.1, mk_X1_init.2.2⟩ mi_X1_init rfl rfl ⟨Nat.le_of_ble_eq_true rfl, Nat.le_of_ble_eq_true rfl⟩ (Nat.le_of_ble_eq_true rfl) (tk_len (by decide)) ⟨rfl, rfl⟩ ⟨Nat.le_of_ble_eq_true rfl, Nat.le_of_ble_eq_true rfl⟩ ?_
  rintro rr sh2 m50 ⟨rfl, rfl, hq51⟩
  replace h := h m50 hq51
  refine ⟨rfl, ?_⟩
  refine xs_astB dX4_init_75 (tk (by decide) sc_15) (tk (by decide) sc_36) (vin (by decide) (by decide)) ?_
  refine xs_nmM (fun m52 e_m52 => ?_)
  replace h := h m52 e_m52
  refine xs_iinc (nI 5) [some (.ref 9), some (.int (nI 5))] dX4_init_76 (by decide) rfl (by decide) rfl ?_
  refine xs_goto 54 dX4_init_79 (by decide) ?_
  refine xs_iload_n dX4_init_54 rfl ?_
  refine xs_aload_n dX4_init_55 rfl ?_
  obtain ⟨s53, h⟩ := h
  refine xs_getR dX4_init_56 fl_X4_29 rfl (tk (by decide) sc_9) s53 ?_
  refine xs_alen 4 dX4_init_59 (tk (by decide) sc_15) (fun _ => rfl) ?_
  refine xs_icmp_ge 82 dX4_init_60 (by decide) (fun c54 => absurd c54 (by decide)) (fun _ => ?_)
  refine xs_aload_n dX4_init_63 rfl ?_
  obtain ⟨s55, h⟩ := h
  refine xs_getR dX4_init_64 fl_X4_29 rfl (tk (by decide) sc_9) s55 ?_
  refine xs_iload_n dX4_init_67 rfl ?_
  refine xs_new (n := 41) (ci := 1) (xs_sh.take 42) 12 dX4_init_68 nl_X4_27 (by decide) (tk_len (by decide)) ⟨rfl, rfl⟩ (by decide) ⟨Nat.le_of_ble_eq_true rfl, Nat.le_of_ble_eq_true rfl⟩ (tk_push sc_41) ?_
  refine xs_nmM (fun m56 e_m56 => ?_)
  replace h := h m56 e_m56
  refine xs_dup dX4_init_71 rfl ?_
  obtain ⟨Q57, hQ57, h⟩ := h
  refine xs_callI (j := k_X1_init) (n := 42) dX4_init_72 hQ57 ⟨ml_X4_33, mk_X1_init.1, mk_X1_init.2.1, mk_X1_init.2.2⟩ mi_X1_init rfl rfl ⟨Nat.le_of_ble_eq_true rfl, Nat.le_of_ble_eq_true rfl⟩ (Nat.le_of_ble_eq_true rfl) (tk_len (by decide)) ⟨rfl, rfl⟩ ⟨Nat.le_of_ble_eq_true rfl, Nat.le_of_ble_eq_true rfl⟩ ?_
  rintro rr sh2 m58 ⟨rfl, rfl, hq59⟩
  replace h := h m58 hq59
  refine ⟨rfl, ?_⟩
  refine xs_astB dX4_init_75 (tk (by decide) sc_15) (tk (by decide) sc_41) (vin (by decide) (by decide)) ?_
  refine xs_nmM (fun m60 e_m60 => ?_)
  replace h := h m60 e_m60
  refine xs_iinc (nI 6) [some (.ref 9), some (.int (nI 6))] dX4_init_76 (by decide) rfl (by decide) rfl ?_
  refine xs_goto 54 dX4_init_79 (by decide) ?_
  refine xs_iload_n dX4_init_54 rfl ?_
  refine xs_aload_n dX4_init_55 rfl ?_
  obtain ⟨s61, h⟩ := h
  refine xs_getR dX4_init_56 fl_X4_29 rfl (tk (by decide) sc_9) s61 ?_
  refine xs_alen 4 dX4_init_59 (tk (by decide) sc_15) (fun _ => rfl) ?_
  refine xs_icmp_ge 82 dX4_init_60 (by decide) (fun c62 => absurd c62 (by decide)) (fun _ => ?_)
  refine xs_aload_n dX4_init_63 rfl ?_
  obtain ⟨s63, h⟩ := h
  refine xs_getR dX4_init_64 fl_X4_29 rfl (tk (by decide) sc_9) s63 ?_
  refine xs_iload_n dX4_init_67 rfl ?_
  refine xs_new (n := 46) (ci := 1) (xs_sh.take 47) 12 dX4_init_68 nl_X4_27 (by decide) (tk_len (by decide)) ⟨rfl, rfl⟩ (by decide) ⟨Nat.le_of_ble_eq_true rfl, Nat.le_of_ble_eq_true rfl⟩ (tk_push sc_46) ?_
  refine xs_nmM (fun m64 e_m64 => ?_)
  replace h := h m64 e_m64
  refine xs_dup dX4_init_71 rfl ?_
  obtain ⟨Q65, hQ65, h⟩ := h
  refine xs_callI (j := k_X1_init) (n := 47) dX4_init_72 hQ65 ⟨ml_X4_33, mk_X1_init.1, mk_X1_init.2.1, mk_X1_init.2.2⟩ mi_X1_init rfl rfl ⟨Nat.le_of_ble_eq_true rfl, Nat.le_of_ble_eq_true rfl⟩ (Nat.le_of_ble_eq_true rfl) (tk_len (by decide)) ⟨rfl, rfl⟩ ⟨Nat.le_of_ble_eq_true rfl, Nat.le_of_ble_eq_true rfl⟩ ?_
  rintro rr sh2 m66 ⟨rfl, rfl, hq67⟩
  replace h := h m66 hq67
  refine ⟨rfl, ?_⟩
  refine xs_astB dX4_init_75 (tk (by decide) sc_15) (tk (by decide) sc_46) (vin (by decide) (by decide)) ?_
  refine xs_nmM (fun m68 e_m68 => ?_)
  replace h := h m68 e_m68
  refine xs_iinc (nI 7) [some (.ref 9), some (.int (nI 7))] dX4_init_76 (by decide) rfl (by decide) rfl ?_
  refine xs_goto 54 dX4_init_79 (by decide) ?_
  refine xs_iload_n dX4_init_54 rfl ?_
  refine xs_aload_n dX4_init_55 rfl ?_
  obtain ⟨s69, h⟩ := h
  refine xs_getR dX4_init_56 fl_X4_29 rfl (tk (by decide) sc_9) s69 ?_
  refine xs_alen 4 dX4_init_59 (tk (by decide) sc_15) (fun _ => rfl) ?_
  refine xs_icmp_ge 82 dX4_init_60 (by decide) (fun c70 => absurd c70 (by decide)) (fun _ => ?_)
  refine xs_aload_n dX4_init_63 rfl ?_
  obtain ⟨s71, h⟩ := h
  refine xs_getR dX4_init_64 fl_X4_29 rfl (tk (by decide) sc_9) s71 ?_
  refine xs_iload_n dX4_init_67 rfl ?_
  refine xs_new (n := 51) (ci := 1) (xs_sh.take 52) 12 dX4_init_68 nl_X4_27 (by decide) (tk_len (by decide)) ⟨rfl, rfl⟩ (by decide) ⟨Nat.le_of_ble_eq_true rfl, Nat.le_of_ble_eq_true rfl⟩ (tk_push sc_51) ?_
  refine xs_nmM (fun m72 e_m72 => ?_)
  replace h := h m72 e_m72
  refine xs_dup dX4_init_71 rfl ?_
  obtain ⟨Q73, hQ73, h⟩ := h
  refine xs_callI (j := k_X1_init) (n := 52) dX4_init_72 hQ73 ⟨ml_X4_33, mk_X1_init.1, mk_X1_init.2.1, mk_X1_init.2.2⟩ mi_X1_init rfl rfl ⟨Nat.le_of_ble_eq_true rfl, Nat.le_of_ble_eq_true rfl⟩ (Nat.le_of_ble_eq_true rfl) (tk_len (by decide)) ⟨rfl, rfl⟩ ⟨Nat.le_of_ble_eq_true rfl, Nat.le_of_ble_eq_true rfl⟩ ?_
  rintro rr sh2 m74 ⟨rfl, rfl, hq75⟩
  replace h := h m74 hq75
  refine ⟨rfl, ?_⟩
  refine xs_astB dX4_init_75 (tk (by decide) sc_15) (tk (by decide) sc_51) (vin (by decide) (by decide)) ?_
  refine xs_nmM (fun m76 e_m76 => ?_)
  replace h := h m76 e_m76
  refine xs_iinc (nI 8) [some (.ref 9), some (.int (nI 8))] dX4_init_76 (by decide) rfl (by decide) rfl ?_
  refine xs_goto 54 dX4_init_79 (by decide) ?_
  refine xs_iload_n dX4_init_54 rfl ?_
  refine xs_aload_n dX4_init_55 rfl ?_
  obtain ⟨s77, h⟩ := h
  refine xs_getR dX4_init_56 fl_X4_29 rfl (tk (by decide) sc_9) s77 ?_
  refine xs_alen 4 dX4_init_59 (tk (by decide) sc_15) (fun _ => rfl) ?_
  refine xs_icmp_ge 82 dX4_init_60 (by decide) (fun _ => ?_) (fun c78 => absurd c78 (by decide))
  refine xs_aload_n dX4_init_82 rfl ?_
  refine xs_iconst (nI 1) dX4_init_83 (by decide) ?_
  refine xs_putI dX4_init_84 fl_X4_34 rfl rfl rfl (tk (by decide) sc_9) ?_
  refine xs_nmM (fun m79 e_m79 => ?_)
  replace h := h m79 e_m79
  refine xs_aload_n dX4_init_87 rfl ?_
  refine xs_iconst (nI 1) dX4_init_88 (by decide) ?_
  refine xs_putI dX4_init_89 fl_X4_38 rfl rfl rfl (tk (by decide) sc_9) ?_
  refine xs_nmM (fun m80 e_m80 => ?_)
  replace h := h m80 e_m80
  refine xs_aload_n dX4_init_92 rfl ?_
  refine xs_iconst (nI 1) dX4_init_93 (by decide) ?_
  refine xs_putI dX4_init_94 fl_X4_41 rfl rfl rfl (tk (by decide) sc_9) ?_
  refine xs_nmM (fun m81 e_m81 => ?_)
  replace h := h m81 e_m81
  refine xs_aload_n dX4_init_97 rfl ?_
  refine xs_iconst (nI 1) dX4_init_98 (by decide) ?_
  refine xs_putI dX4_init_99 fl_X4_44 rfl rfl rfl (tk (by decide) sc_9) ?_
  refine xs_nmM (fun m82 e_m82 => ?_)
  replace h := h m82 e_m82
  exact xs_ret none dX4_init_102 trivial rfl ⟨rfl, rfl, h⟩
abbrev hn_X9_init_261 (Q : xm_M → Prop) (v1 : Int32) (μ : xm_M) : Prop := xR k_X9_init none false (fun r sh' μ' => r = none ∧ sh' = xs_sh.take 106 ∧ Q μ') 261 [some (.ref 75), some (.int v1)] [] (xs_sh.take 106) (30, 394054) μ
set_option maxHeartbeats 4000000 in
set_option maxRecDepth 100000 in
theorem ln_X9_init_261 {Q : xm_M → Prop} {μ : xm_M} (v1 : Int32)
    (h : ((v1 < 0 →
       Q μ) ∧
      (¬ v1 < 0 →
       μ.2.2 75 3 = some 77 ∧
       μ.2.2 75 3 = some 77 ∧
       vp_in (v1 + (nI 1)) 256 ∧
       vp_in v1 256 ∧
       ∀ m6 : xm_M, m6 = xu_L μ 77 (vp_updL (μ.2.1 77) (v1).toNatClampNeg ((((15391 : Int64) * (μ.2.1 77 ((v1 + (nI 1))).toNatClampNeg)) + (8192 : Int64)) >>> (((nI 14)).toInt64 &&& 63))) →
       ∀ x7 : Int32, x7 = v1 + (-1) →
       hn_X9_init_261 Q x7 m6))) :
    hn_X9_init_261 Q v1 μ := by
  refine xs_iload_n dX9_init_261 rfl ?_
  refine xs_if_lt 296 dX9_init_262 (by decide) (fun c1 => ?_) (fun c1 => ?_)
  · replace h := h.1 c1
    exact xs_ret none dX9_init_296 trivial rfl ⟨rfl, rfl, h⟩
  · replace h := h.2 c1
    refine xs_aload_n dX9_init_265 rfl ?_
    obtain ⟨s2, h⟩ := h
    refine xs_getR dX9_init_266 fl_X9_17 rfl (tk (by decide) sc_75) s2 ?_
    refine xs_iload_n dX9_init_269 rfl ?_
    refine xs_ldc2 dX9_init_270 cn_X9_111 ?_
    refine xs_aload_n dX9_init_273 rfl ?_
    obtain ⟨s3, h⟩ := h
    refine xs_getR dX9_init_274 fl_X9_17 rfl (tk (by decide) sc_75) s3 ?_
    refine xs_iload_n dX9_init_277 rfl ?_
    refine xs_iconst (nI 1) dX9_init_278 (by decide) ?_
    refine xs_iadd dX9_init_279 ?_
    obtain ⟨s4, h⟩ := h
    refine xs_lald dX9_init_280 (tk (by decide) sc_77) s4 ?_
    refine xs_lmul dX9_init_281 ?_
    refine xs_ldc2 dX9_init_282 cn_X9_113 ?_
    refine xs_ladd dX9_init_285 ?_
    refine xs_bipush (nI 14) dX9_init_286 (by decide) ?_
    refine xs_lshr dX9_init_288 ?_
    obtain ⟨s5, h⟩ := h
    refine xs_last dX9_init_289 (tk (by decide) sc_77) s5 ?_
    refine xs_nmM (fun m6 e_m6 => ?_)
    replace h := h m6 e_m6
    obtain ⟨x7, e_x7⟩ : ∃ z : Int32, z = v1 + (-1) := ⟨_, rfl⟩
    replace h := h x7 e_x7
    refine xs_iinc x7 [some (.ref 75), some (.int x7)] dX9_init_290 (by decide) rfl (by rw [e_x7]; rfl) rfl ?_
    refine xs_goto 261 dX9_init_293 (by decide) ?_
    exact xs_loc [some (.ref 75), some (.int x7)] ⟨rfl, ⟨rfl, trivial⟩⟩ h
set_option maxHeartbeats 4000000 in
set_option maxRecDepth 100000 in
theorem n_X9_init {Q : xm_M → Prop} {μ : xm_M} 
    (h : ∀ m1 : xm_M, m1 = xm_nw μ 76 →
      ∀ m2 : xm_M, m2 = xu_R m1 75 (va_up (m1.2.2 75) 1 (some 76)) →
      ∀ m3 : xm_M, m3 = xm_nw m2 77 →
      ∀ m4 : xm_M, m4 = xu_R m3 75 (va_up (m3.2.2 75) 3 (some 77)) →
      ∀ m5 : xm_M, m5 = xm_nw m4 78 →
      ∀ m6 : xm_M, m6 = xu_R m5 75 (va_up (m5.2.2 75) 4 (some 78)) →
      ∀ m7 : xm_M, m7 = xm_nw m6 79 →
      ∀ m8 : xm_M, m8 = xu_R m7 75 (va_up (m7.2.2 75) 5 (some 79)) →
      ∀ m9 : xm_M, m9 = xm_nw m8 80 →
      ∀ m10 : xm_M, m10 = xu_R m9 75 (va_up (m9.2.2 75) 6 (some 80)) →
      ∀ m11 : xm_M, m11 = xm_nw m10 81 →
      ∀ m12 : xm_M, m12 = xu_R m11 75 (va_up (m11.2.2 75) 8 (some 81)) →
      ∀ m13 : xm_M, m13 = xm_nw m12 82 →
      ∀ m14 : xm_M, m14 = xu_R m13 75 (va_up (m13.2.2 75) 11 (some 82)) →
      ∀ m15 : xm_M, m15 = xm_nw m14 83 →
      ∀ m16 : xm_M, m16 = xu_R m15 75 (va_up (m15.2.2 75) 20 (some 83)) →
      ∀ m17 : xm_M, m17 = xm_nw m16 84 →
      ∀ m18 : xm_M, m18 = xu_R m17 75 (va_up (m17.2.2 75) 21 (some 84)) →
      ∀ m19 : xm_M, m19 = xm_nw m18 85 →
      ∀ m20 : xm_M, m20 = xu_R m19 75 (va_up (m19.2.2 75) 22 (some 85)) →
      ∀ m21 : xm_M, m21 = xm_nw m20 86 →
      ∀ m22 : xm_M, m22 = xu_R m21 75 (va_up (m21.2.2 75) 23 (some 86)) →
      ∀ m23 : xm_M, m23 = xm_nw m22 87 →
      ∀ m24 : xm_M, m24 = xu_R m23 75 (va_up (m23.2.2 75) 24 (some 87)) →
      ∀ m25 : xm_M, m25 = xm_nw m24 88 →
      ∀ m26 : xm_M, m26 = xu_R m25 75 (va_up (m25.2.2 75) 25 (some 88)) →
      ∀ m27 : xm_M, m27 = xm_nw m26 89 →
      ∀ m28 : xm_M, m28 = xu_R m27 75 (va_up (m27.2.2 75) 26 (some 89)) →
      ∀ m29 : xm_M, m29 = xm_nw m28 90 →
      ∀ m30 : xm_M, m30 = xu_R m29 75 (va_up (m29.2.2 75) 27 (some 90)) →
      ∀ m31 : xm_M, m31 = xm_nw m30 91 →
      ∀ m32 : xm_M, m32 = xu_R m31 75 (va_up (m31.2.2 75) 28 (some 91)) →
      ∀ m33 : xm_M, m33 = xm_nw m32 92 →
      ∀ m34 : xm_M, m34 = xu_R m33 75 (va_up (m33.2.2 75) 29 (some 92)) →
      ∀ m35 : xm_M, m35 = xm_nw m34 93 →
      ∀ m36 : xm_M, m36 = xu_R m35 75 (va_up (m35.2.2 75) 30 (some 93)) →
      ∀ m37 : xm_M, m37 = xm_nw m36 94 →
      ∀ m38 : xm_M, m38 = xu_R m37 75 (va_up (m37.2.2 75) 39 (some 94)) →
      ∀ m39 : xm_M, m39 = xm_nw m38 95 →
      ∀ m40 : xm_M, m40 = xu_R m39 75 (va_up (m39.2.2 75) 40 (some 95)) →
      ∀ m41 : xm_M, m41 = xm_nw m40 96 →
      ∀ m42 : xm_M, m42 = xu_R m41 75 (va_up (m41.2.2 75) 41 (some 96)) →
      ∀ m43 : xm_M, m43 = xm_nw m42 97 →
      ∀ m44 : xm_M, m44 = xu_R m43 75 (va_up (m43.2.2 75) 42 (some 97)) →
      ∀ m45 : xm_M, m45 = xm_nw m44 98 →
      ∀ m46 : xm_M, m46 = xu_R m45 75 (va_up (m45.2.2 75) 43 (some 98)) →
      ∀ m47 : xm_M, m47 = xm_nw m46 99 →
      ∀ m48 : xm_M, m48 = xu_R m47 75 (va_up (m47.2.2 75) 44 (some 99)) →
      ∀ m49 : xm_M, m49 = xm_nw m48 100 →
      ∀ m50 : xm_M, m50 = xu_R m49 75 (va_up (m49.2.2 75) 45 (some 100)) →
      ∀ m51 : xm_M, m51 = xm_nw m50 101 →
      ∀ m52 : xm_M, m52 = xu_R m51 75 (va_up (m51.2.2 75) 46 (some 101)) →
      ∀ m53 : xm_M, m53 = xm_nw m52 102 →
      ∀ m54 : xm_M, m54 = xu_R m53 75 (va_up (m53.2.2 75) 47 (some 102)) →
      ∀ m55 : xm_M, m55 = xm_nw m54 103 →
      ∀ m56 : xm_M, m56 = xu_R m55 75 (va_up (m55.2.2 75) 48 (some 103)) →
      ∀ m57 : xm_M, m57 = xm_nw m56 104 →
      ∀ m58 : xm_M, m58 = xu_R m57 75 (va_up (m57.2.2 75) 49 (some 104)) →
      ∀ m59 : xm_M, m59 = xm_nw m58 105 →
      ∀ m60 : xm_M, m60 = xu_R m59 75 (va_up (m59.2.2 75) 50 (some 105)) →
      m60.2.2 75 3 = some 77 ∧
      vp_in (nI 255) 256 ∧
      ∀ m63 : xm_M, m63 = xu_L m60 77 (vp_updL (m60.2.1 77) ((nI 255)).toNatClampNeg (65536 : Int64)) →
      hn_X9_init_261 Q (nI 254) m63) :
    xN k_X9_init 76 106 μ 75 Q := by
  refine xm_met [some (.ref 75), none] 1 (by decide) (by simp [lg_sl, Value.category]) rfl ?_
  refine xs_aload_n dX9_init_0 rfl ?_
  refine xs_oinit dX9_init_1 ml_X9_7 (Nat.le_of_ble_eq_true rfl) (Nat.le_of_ble_eq_true rfl) ?_
  refine xs_aload_n dX9_init_4 rfl ?_
  refine xs_sipush (nI 6300) dX9_init_5 (by decide) ?_
  refine xs_newa (n := 76) (xs_sh.take 77) 6300 1 dX9_init_8 rfl (fun _ => rfl) (Or.inr (Or.inl rfl)) ac_byte (by decide) (by decide +kernel) (by decide) (tk_len (by decide)) ⟨rfl, rfl⟩ (by decide) ⟨Nat.le_of_ble_eq_true rfl, Nat.le_of_ble_eq_true rfl⟩ (tk_push sc_76) ?_
  refine xs_nmM (fun m1 e_m1 => ?_)
  replace h := h m1 e_m1
  refine xs_putRF dX9_init_10 ff_X9_13 rfl (by rw [tk_len (by decide)]; decide) rfl (tk (by decide) sc_75) ?_
  refine xs_nmM (fun m2 e_m2 => ?_)
  replace h := h m2 e_m2
  refine xs_aload_n dX9_init_13 rfl ?_
  refine xs_sipush (nI 256) dX9_init_14 (by decide) ?_
  refine xs_newa (n := 77) (xs_sh.take 78) 256 3 dX9_init_17 rfl (fun _ => rfl) (Or.inr (Or.inr (Or.inr rfl))) ac_long (by decide) (by decide +kernel) (by decide) (tk_len (by decide)) ⟨rfl, rfl⟩ (by decide) ⟨Nat.le_of_ble_eq_true rfl, Nat.le_of_ble_eq_true rfl⟩ (tk_push sc_77) ?_
  refine xs_nmM (fun m3 e_m3 => ?_)
  replace h := h m3 e_m3
  refine xs_putRF dX9_init_19 ff_X9_17 rfl (by rw [tk_len (by decide)]; decide) rfl (tk (by decide) sc_75) ?_
  refine xs_nmM (fun m4 e_m4 => ?_)
  replace h := h m4 e_m4
  refine xs_aload_n dX9_init_22 rfl ?_
  refine xs_iconst (nI 5) dX9_init_23 (by decide) ?_
  refine xs_newa (n := 78) (xs_sh.take 79) 5 0 dX9_init_24 rfl (fun _ => rfl) (Or.inl rfl) ac_int (by decide) (by decide +kernel) (by decide) (tk_len (by decide)) ⟨rfl, rfl⟩ (by decide) ⟨Nat.le_of_ble_eq_true rfl, Nat.le_of_ble_eq_true rfl⟩ (tk_push sc_78) ?_
  refine xs_nmM (fun m5 e_m5 => ?_)
  replace h := h m5 e_m5
  refine xs_putRF dX9_init_26 ff_X9_21 rfl (by rw [tk_len (by decide)]; decide) rfl (tk (by decide) sc_75) ?_
  refine xs_nmM (fun m6 e_m6 => ?_)
  replace h := h m6 e_m6
  refine xs_aload_n dX9_init_29 rfl ?_
  refine xs_ldc dX9_init_30 cn_X9_25 ?_
  refine xs_newa (n := 79) (xs_sh.take 80) 120000 1 dX9_init_32 rfl (fun _ => rfl) (Or.inr (Or.inl rfl)) ac_byte (by decide) (by decide +kernel) (by decide) (tk_len (by decide)) ⟨rfl, rfl⟩ (by decide) ⟨Nat.le_of_ble_eq_true rfl, Nat.le_of_ble_eq_true rfl⟩ (tk_push sc_79) ?_
  refine xs_nmM (fun m7 e_m7 => ?_)
  replace h := h m7 e_m7
  refine xs_putRF dX9_init_34 ff_X9_26 rfl (by rw [tk_len (by decide)]; decide) rfl (tk (by decide) sc_75) ?_
  refine xs_nmM (fun m8 e_m8 => ?_)
  replace h := h m8 e_m8
  refine xs_aload_n dX9_init_37 rfl ?_
  refine xs_bipush (nI 61) dX9_init_38 (by decide) ?_
  refine xs_newa (n := 80) (xs_sh.take 81) 61 0 dX9_init_40 rfl (fun _ => rfl) (Or.inl rfl) ac_int (by decide) (by decide +kernel) (by decide) (tk_len (by decide)) ⟨rfl, rfl⟩ (by decide) ⟨Nat.le_of_ble_eq_true rfl, Nat.le_of_ble_eq_true rfl⟩ (tk_push sc_80) ?_
  refine xs_nmM (fun m9 e_m9 => ?_)
  replace h := h m9 e_m9
  refine xs_putRF dX9_init_42 ff_X9_29 rfl (by rw [tk_len (by decide)]; decide) rfl (tk (by decide) sc_75) ?_
  refine xs_nmM (fun m10 e_m10 => ?_)
  replace h := h m10 e_m10
  refine xs_aload_n dX9_init_45 rfl ?_
  refine xs_sipush (nI 2000) dX9_init_46 (by decide) ?_
  refine xs_newa (n := 81) (xs_sh.take 82) 2000 1 dX9_init_49 rfl (fun _ => rfl) (Or.inr (Or.inl rfl)) ac_byte (by decide) (by decide +kernel) (by decide) (tk_len (by decide)) ⟨rfl, rfl⟩ (by decide) ⟨Nat.le_of_ble_eq_true rfl, Nat.le_of_ble_eq_true rfl⟩ (tk_push sc_81) ?_
  refine xs_nmM (fun m11 e_m11 => ?_)
  replace h := h m11 e_m11
  refine xs_putRF dX9_init_51 ff_X9_32 rfl (by rw [tk_len (by decide)]; decide) rfl (tk (by decide) sc_75) ?_
  refine xs_nmM (fun m12 e_m12 => ?_)
  replace h := h m12 e_m12
  refine xs_aload_n dX9_init_54 rfl ?_
  refine xs_bipush (nI 8) dX9_init_55 (by decide) ?_
  refine xs_newa (n := 82) (xs_sh.take 83) 8 0 dX9_init_57 rfl (fun _ => rfl) (Or.inl rfl) ac_int (by decide) (by decide +kernel) (by decide) (tk_len (by decide)) ⟨rfl, rfl⟩ (by decide) ⟨Nat.le_of_ble_eq_true rfl, Nat.le_of_ble_eq_true rfl⟩ (tk_push sc_82) ?_
  refine xs_nmM (fun m13 e_m13 => ?_)
  replace h := h m13 e_m13
  refine xs_putRF dX9_init_59 ff_X9_35 rfl (by rw [tk_len (by decide)]; decide) rfl (tk (by decide) sc_75) ?_
  refine xs_nmM (fun m14 e_m14 => ?_)
  replace h := h m14 e_m14
  refine xs_aload_n dX9_init_62 rfl ?_
  refine xs_bipush (nI 8) dX9_init_63 (by decide) ?_
  refine xs_newa (n := 83) (xs_sh.take 84) 8 0 dX9_init_65 rfl (fun _ => rfl) (Or.inl rfl) ac_int (by decide) (by decide +kernel) (by decide) (tk_len (by decide)) ⟨rfl, rfl⟩ (by decide) ⟨Nat.le_of_ble_eq_true rfl, Nat.le_of_ble_eq_true rfl⟩ (tk_push sc_83) ?_
  refine xs_nmM (fun m15 e_m15 => ?_)
  replace h := h m15 e_m15
  refine xs_putRF dX9_init_67 ff_X9_38 rfl (by rw [tk_len (by decide)]; decide) rfl (tk (by decide) sc_75) ?_
  refine xs_nmM (fun m16 e_m16 => ?_)
  replace h := h m16 e_m16
  refine xs_aload_n dX9_init_70 rfl ?_
  refine xs_bipush (nI 8) dX9_init_71 (by decide) ?_
  refine xs_newa (n := 84) (xs_sh.take 85) 8 0 dX9_init_73 rfl (fun _ => rfl) (Or.inl rfl) ac_int (by decide) (by decide +kernel) (by decide) (tk_len (by decide)) ⟨rfl, rfl⟩ (by decide) ⟨Nat.le_of_ble_eq_true rfl, Nat.le_of_ble_eq_true rfl⟩ (tk_push sc_84) ?_
  refine xs_nmM (fun m17 e_m17 => ?_)
  replace h := h m17 e_m17
  refine xs_putRF dX9_init_75 ff_X9_41 rfl (by rw [tk_len (by decide)]; decide) rfl (tk (by decide) sc_75) ?_
  refine xs_nmM (fun m18 e_m18 => ?_)
  replace h := h m18 e_m18
  refine xs_aload_n dX9_init_78 rfl ?_
  refine xs_bipush (nI 8) dX9_init_79 (by decide) ?_
  refine xs_newa (n := 85) (xs_sh.take 86) 8 0 dX9_init_81 rfl (fun _ => rfl) (Or.inl rfl) ac_int (by decide) (by decide +kernel) (by decide) (tk_len (by decide)) ⟨rfl, rfl⟩ (by decide) ⟨Nat.le_of_ble_eq_true rfl, Nat.le_of_ble_eq_true rfl⟩ (tk_push sc_85) ?_
  refine xs_nmM (fun m19 e_m19 => ?_)
  replace h := h m19 e_m19
  refine xs_putRF dX9_init_83 ff_X9_44 rfl (by rw [tk_len (by decide)]; decide) rfl (tk (by decide) sc_75) ?_
  refine xs_nmM (fun m20 e_m20 => ?_)
  replace h := h m20 e_m20
  refine xs_aload_n dX9_init_86 rfl ?_
  refine xs_bipush (nI 8) dX9_init_87 (by decide) ?_
  refine xs_newa (n := 86) (xs_sh.take 87) 8 2 dX9_init_89 rfl (fun _ => rfl) (Or.inr (Or.inr (Or.inl rfl))) ac_boolean (by decide) (by decide +kernel) (by decide) (tk_len (by decide)) ⟨rfl, rfl⟩ (by decide) ⟨Nat.le_of_ble_eq_true rfl, Nat.le_of_ble_eq_true rfl⟩ (tk_push sc_86) ?_
  refine xs_nmM (fun m21 e_m21 => ?_)
  replace h := h m21 e_m21
  refine xs_putRF dX9_init_91 ff_X9_47 rfl (by rw [tk_len (by decide)]; decide) rfl (tk (by decide) sc_75) ?_
  refine xs_nmM (fun m22 e_m22 => ?_)
  replace h := h m22 e_m22
  refine xs_aload_n dX9_init_94 rfl ?_
  refine xs_bipush (nI 8) dX9_init_95 (by decide) ?_
  refine xs_newa (n := 87) (xs_sh.take 88) 8 0 dX9_init_97 rfl (fun _ => rfl) (Or.inl rfl) ac_int (by decide) (by decide +kernel) (by decide) (tk_len (by decide)) ⟨rfl, rfl⟩ (by decide) ⟨Nat.le_of_ble_eq_true rfl, Nat.le_of_ble_eq_true rfl⟩ (tk_push sc_87) ?_
  refine xs_nmM (fun m23 e_m23 => ?_)
  replace h := h m23 e_m23
  refine xs_putRF dX9_init_99 ff_X9_51 rfl (by rw [tk_len (by decide)]; decide) rfl (tk (by decide) sc_75) ?_
  refine xs_nmM (fun m24 e_m24 => ?_)
  replace h := h m24 e_m24
  refine xs_aload_n dX9_init_102 rfl ?_
  refine xs_bipush (nI 8) dX9_init_103 (by decide) ?_
  refine xs_newa (n := 88) (xs_sh.take 89) 8 0 dX9_init_105 rfl (fun _ => rfl) (Or.inl rfl) ac_int (by decide) (by decide +kernel) (by decide) (tk_len (by decide)) ⟨rfl, rfl⟩ (by decide) ⟨Nat.le_of_ble_eq_true rfl, Nat.le_of_ble_eq_true rfl⟩ (tk_push sc_88) ?_
  refine xs_nmM (fun m25 e_m25 => ?_)
  replace h := h m25 e_m25
  refine xs_putRF dX9_init_107 ff_X9_54 rfl (by rw [tk_len (by decide)]; decide) rfl (tk (by decide) sc_75) ?_
  refine xs_nmM (fun m26 e_m26 => ?_)
  replace h := h m26 e_m26
  refine xs_aload_n dX9_init_110 rfl ?_
  refine xs_bipush (nI 8) dX9_init_111 (by decide) ?_
  refine xs_newa (n := 89) (xs_sh.take 90) 8 2 dX9_init_113 rfl (fun _ => rfl) (Or.inr (Or.inr (Or.inl rfl))) ac_boolean (by decide) (by decide +kernel) (by decide) (tk_len (by decide)) ⟨rfl, rfl⟩ (by decide) ⟨Nat.le_of_ble_eq_true rfl, Nat.le_of_ble_eq_true rfl⟩ (tk_push sc_89) ?_
  refine xs_nmM (fun m27 e_m27 => ?_)
  replace h := h m27 e_m27
  refine xs_putRF dX9_init_115 ff_X9_57 rfl (by rw [tk_len (by decide)]; decide) rfl (tk (by decide) sc_75) ?_
  refine xs_nmM (fun m28 e_m28 => ?_)
  replace h := h m28 e_m28
  refine xs_aload_n dX9_init_118 rfl ?_
  refine xs_bipush (nI 8) dX9_init_119 (by decide) ?_
  refine xs_newa (n := 90) (xs_sh.take 91) 8 0 dX9_init_121 rfl (fun _ => rfl) (Or.inl rfl) ac_int (by decide) (by decide +kernel) (by decide) (tk_len (by decide)) ⟨rfl, rfl⟩ (by decide) ⟨Nat.le_of_ble_eq_true rfl, Nat.le_of_ble_eq_true rfl⟩ (tk_push sc_90) ?_
  refine xs_nmM (fun m29 e_m29 => ?_)
  replace h := h m29 e_m29
  refine xs_putRF dX9_init_123 ff_X9_60 rfl (by rw [tk_len (by decide)]; decide) rfl (tk (by decide) sc_75) ?_
  refine xs_nmM (fun m30 e_m30 => ?_)
  replace h := h m30 e_m30
  refine xs_aload_n dX9_init_126 rfl ?_
  refine xs_sipush (nI 512) dX9_init_127 (by decide) ?_
  refine xs_newa (n := 91) (xs_sh.take 92) 512 0 dX9_init_130 rfl (fun _ => rfl) (Or.inl rfl) ac_int (by decide) (by decide +kernel) (by decide) (tk_len (by decide)) ⟨rfl, rfl⟩ (by decide) ⟨Nat.le_of_ble_eq_true rfl, Nat.le_of_ble_eq_true rfl⟩ (tk_push sc_91) ?_
  refine xs_nmM (fun m31 e_m31 => ?_)
  replace h := h m31 e_m31
  refine xs_putRF dX9_init_132 ff_X9_63 rfl (by rw [tk_len (by decide)]; decide) rfl (tk (by decide) sc_75) ?_
  refine xs_nmM (fun m32 e_m32 => ?_)
  replace h := h m32 e_m32
  refine xs_aload_n dX9_init_135 rfl ?_
  refine xs_ldc dX9_init_136 cn_X9_66 ?_
  refine xs_newa (n := 92) (xs_sh.take 93) 262144 1 dX9_init_138 rfl (fun _ => rfl) (Or.inr (Or.inl rfl)) ac_byte (by decide) (by decide +kernel) (by decide) (tk_len (by decide)) ⟨rfl, rfl⟩ (by decide) ⟨Nat.le_of_ble_eq_true rfl, Nat.le_of_ble_eq_true rfl⟩ (tk_push sc_92) ?_
  refine xs_nmM (fun m33 e_m33 => ?_)
  replace h := h m33 e_m33
  refine xs_putRF dX9_init_140 ff_X9_67 rfl (by rw [tk_len (by decide)]; decide) rfl (tk (by decide) sc_75) ?_
  refine xs_nmM (fun m34 e_m34 => ?_)
  replace h := h m34 e_m34
  refine xs_aload_n dX9_init_143 rfl ?_
  refine xs_sipush (nI 512) dX9_init_144 (by decide) ?_
  refine xs_newa (n := 93) (xs_sh.take 94) 512 1 dX9_init_147 rfl (fun _ => rfl) (Or.inr (Or.inl rfl)) ac_byte (by decide) (by decide +kernel) (by decide) (tk_len (by decide)) ⟨rfl, rfl⟩ (by decide) ⟨Nat.le_of_ble_eq_true rfl, Nat.le_of_ble_eq_true rfl⟩ (tk_push sc_93) ?_
  refine xs_nmM (fun m35 e_m35 => ?_)
  replace h := h m35 e_m35
  refine xs_putRF dX9_init_149 ff_X9_70 rfl (by rw [tk_len (by decide)]; decide) rfl (tk (by decide) sc_75) ?_
  refine xs_nmM (fun m36 e_m36 => ?_)
  replace h := h m36 e_m36
  refine xs_aload_n dX9_init_152 rfl ?_
  refine xs_bipush (nI 18) dX9_init_153 (by decide) ?_
  refine xs_newa (n := 94) (xs_sh.take 95) 18 0 dX9_init_155 rfl (fun _ => rfl) (Or.inl rfl) ac_int (by decide) (by decide +kernel) (by decide) (tk_len (by decide)) ⟨rfl, rfl⟩ (by decide) ⟨Nat.le_of_ble_eq_true rfl, Nat.le_of_ble_eq_true rfl⟩ (tk_push sc_94) ?_
  refine xs_nmM (fun m37 e_m37 => ?_)
  replace h := h m37 e_m37
  refine xs_putRF dX9_init_157 ff_X9_73 rfl (by rw [tk_len (by decide)]; decide) rfl (tk (by decide) sc_75) ?_
  refine xs_nmM (fun m38 e_m38 => ?_)
  replace h := h m38 e_m38
  refine xs_aload_n dX9_init_160 rfl ?_
  refine xs_iconst (nI 4) dX9_init_161 (by decide) ?_
  refine xs_newa (n := 95) (xs_sh.take 96) 4 0 dX9_init_162 rfl (fun _ => rfl) (Or.inl rfl) ac_int (by decide) (by decide +kernel) (by decide) (tk_len (by decide)) ⟨rfl, rfl⟩ (by decide) ⟨Nat.le_of_ble_eq_true rfl, Nat.le_of_ble_eq_true rfl⟩ (tk_push sc_95) ?_
  refine xs_nmM (fun m39 e_m39 => ?_)
  replace h := h m39 e_m39
  refine xs_putRF dX9_init_164 ff_X9_76 rfl (by rw [tk_len (by decide)]; decide) rfl (tk (by decide) sc_75) ?_
  refine xs_nmM (fun m40 e_m40 => ?_)
  replace h := h m40 e_m40
  refine xs_aload_n dX9_init_167 rfl ?_
  refine xs_bipush (nI 18) dX9_init_168 (by decide) ?_
  refine xs_newa (n := 96) (xs_sh.take 97) 18 0 dX9_init_170 rfl (fun _ => rfl) (Or.inl rfl) ac_int (by decide) (by decide +kernel) (by decide) (tk_len (by decide)) ⟨rfl, rfl⟩ (by decide) ⟨Nat.le_of_ble_eq_true rfl, Nat.le_of_ble_eq_true rfl⟩ (tk_push sc_96) ?_
  refine xs_nmM (fun m41 e_m41 => ?_)
  replace h := h m41 e_m41
  refine xs_putRF dX9_init_172 ff_X9_79 rfl (by rw [tk_len (by decide)]; decide) rfl (tk (by decide) sc_75) ?_
  refine xs_nmM (fun m42 e_m42 => ?_)
  replace h := h m42 e_m42
  refine xs_aload_n dX9_init_175 rfl ?_
  refine xs_bipush (nI 18) dX9_init_176 (by decide) ?_
  refine xs_newa (n := 97) (xs_sh.take 98) 18 2 dX9_init_178 rfl (fun _ => rfl) (Or.inr (Or.inr (Or.inl rfl))) ac_boolean (by decide) (by decide +kernel) (by decide) (tk_len (by decide)) ⟨rfl, rfl⟩ (by decide) ⟨Nat.le_of_ble_eq_true rfl, Nat.le_of_ble_eq_true rfl⟩ (tk_push sc_97) ?_
  refine xs_nmM (fun m43 e_m43 => ?_)
  replace h := h m43 e_m43
  refine xs_putRF dX9_init_180 ff_X9_82 rfl (by rw [tk_len (by decide)]; decide) rfl (tk (by decide) sc_75) ?_
  refine xs_nmM (fun m44 e_m44 => ?_)
  replace h := h m44 e_m44
  refine xs_aload_n dX9_init_183 rfl ?_
  refine xs_bipush (nI 32) dX9_init_184 (by decide) ?_
  refine xs_newa (n := 98) (xs_sh.take 99) 32 3 dX9_init_186 rfl (fun _ => rfl) (Or.inr (Or.inr (Or.inr rfl))) ac_long (by decide) (by decide +kernel) (by decide) (tk_len (by decide)) ⟨rfl, rfl⟩ (by decide) ⟨Nat.le_of_ble_eq_true rfl, Nat.le_of_ble_eq_true rfl⟩ (tk_push sc_98) ?_
  refine xs_nmM (fun m45 e_m45 => ?_)
  replace h := h m45 e_m45
  refine xs_putRF dX9_init_188 ff_X9_85 rfl (by rw [tk_len (by decide)]; decide) rfl (tk (by decide) sc_75) ?_
  refine xs_nmM (fun m46 e_m46 => ?_)
  replace h := h m46 e_m46
  refine xs_aload_n dX9_init_191 rfl ?_
  refine xs_iconst (nI 2) dX9_init_192 (by decide) ?_
  refine xs_newa (n := 99) (xs_sh.take 100) 2 2 dX9_init_193 rfl (fun _ => rfl) (Or.inr (Or.inr (Or.inl rfl))) ac_boolean (by decide) (by decide +kernel) (by decide) (tk_len (by decide)) ⟨rfl, rfl⟩ (by decide) ⟨Nat.le_of_ble_eq_true rfl, Nat.le_of_ble_eq_true rfl⟩ (tk_push sc_99) ?_
  refine xs_nmM (fun m47 e_m47 => ?_)
  replace h := h m47 e_m47
  refine xs_putRF dX9_init_195 ff_X9_88 rfl (by rw [tk_len (by decide)]; decide) rfl (tk (by decide) sc_75) ?_
  refine xs_nmM (fun m48 e_m48 => ?_)
  replace h := h m48 e_m48
  refine xs_aload_n dX9_init_198 rfl ?_
  refine xs_bipush (nI 18) dX9_init_199 (by decide) ?_
  refine xs_newa (n := 100) (xs_sh.take 101) 18 0 dX9_init_201 rfl (fun _ => rfl) (Or.inl rfl) ac_int (by decide) (by decide +kernel) (by decide) (tk_len (by decide)) ⟨rfl, rfl⟩ (by decide) ⟨Nat.le_of_ble_eq_true rfl, Nat.le_of_ble_eq_true rfl⟩ (tk_push sc_100) ?_
  refine xs_nmM (fun m49 e_m49 => ?_)
  replace h := h m49 e_m49
  refine xs_putRF dX9_init_203 ff_X9_91 rfl (by rw [tk_len (by decide)]; decide) rfl (tk (by decide) sc_75) ?_
  refine xs_nmM (fun m50 e_m50 => ?_)
  replace h := h m50 e_m50
  refine xs_aload_n dX9_init_206 rfl ?_
  refine xs_bipush (nI 32) dX9_init_207 (by decide) ?_
  refine xs_newa (n := 101) (xs_sh.take 102) 32 3 dX9_init_209 rfl (fun _ => rfl) (Or.inr (Or.inr (Or.inr rfl))) ac_long (by decide) (by decide +kernel) (by decide) (tk_len (by decide)) ⟨rfl, rfl⟩ (by decide) ⟨Nat.le_of_ble_eq_true rfl, Nat.le_of_ble_eq_true rfl⟩ (tk_push sc_101) ?_
  refine xs_nmM (fun m51 e_m51 => ?_)
  replace h := h m51 e_m51
  refine xs_putRF dX9_init_211 ff_X9_94 rfl (by rw [tk_len (by decide)]; decide) rfl (tk (by decide) sc_75) ?_
  refine xs_nmM (fun m52 e_m52 => ?_)
  replace h := h m52 e_m52
  refine xs_aload_n dX9_init_214 rfl ?_
  refine xs_iconst (nI 2) dX9_init_215 (by decide) ?_
  refine xs_newa (n := 102) (xs_sh.take 103) 2 2 dX9_init_216 rfl (fun _ => rfl) (Or.inr (Or.inr (Or.inl rfl))) ac_boolean (by decide) (by decide +kernel) (by decide) (tk_len (by decide)) ⟨rfl, rfl⟩ (by decide) ⟨Nat.le_of_ble_eq_true rfl, Nat.le_of_ble_eq_true rfl⟩ (tk_push sc_102) ?_
  refine xs_nmM (fun m53 e_m53 => ?_)
  replace h := h m53 e_m53
  refine xs_putRF dX9_init_218 ff_X9_97 rfl (by rw [tk_len (by decide)]; decide) rfl (tk (by decide) sc_75) ?_
  refine xs_nmM (fun m54 e_m54 => ?_)
  replace h := h m54 e_m54
  refine xs_aload_n dX9_init_221 rfl ?_
  refine xs_bipush (nI 64) dX9_init_222 (by decide) ?_
  refine xs_newa (n := 103) (xs_sh.take 104) 64 3 dX9_init_224 rfl (fun _ => rfl) (Or.inr (Or.inr (Or.inr rfl))) ac_long (by decide) (by decide +kernel) (by decide) (tk_len (by decide)) ⟨rfl, rfl⟩ (by decide) ⟨Nat.le_of_ble_eq_true rfl, Nat.le_of_ble_eq_true rfl⟩ (tk_push sc_103) ?_
  refine xs_nmM (fun m55 e_m55 => ?_)
  replace h := h m55 e_m55
  refine xs_putRF dX9_init_226 ff_X9_100 rfl (by rw [tk_len (by decide)]; decide) rfl (tk (by decide) sc_75) ?_
  refine xs_nmM (fun m56 e_m56 => ?_)
  replace h := h m56 e_m56
  refine xs_aload_n dX9_init_229 rfl ?_
  refine xs_bipush (nI 64) dX9_init_230 (by decide) ?_
  refine xs_newa (n := 104) (xs_sh.take 105) 64 3 dX9_init_232 rfl (fun _ => rfl) (Or.inr (Or.inr (Or.inr rfl))) ac_long (by decide) (by decide +kernel) (by decide) (tk_len (by decide)) ⟨rfl, rfl⟩ (by decide) ⟨Nat.le_of_ble_eq_true rfl, Nat.le_of_ble_eq_true rfl⟩ (tk_push sc_104) ?_
  refine xs_nmM (fun m57 e_m57 => ?_)
  replace h := h m57 e_m57
  refine xs_putRF dX9_init_234 ff_X9_103 rfl (by rw [tk_len (by decide)]; decide) rfl (tk (by decide) sc_75) ?_
  refine xs_nmM (fun m58 e_m58 => ?_)
  replace h := h m58 e_m58
  refine xs_aload_n dX9_init_237 rfl ?_
  refine xs_sipush (nI 1920) dX9_init_238 (by decide) ?_
  refine xs_newa (n := 105) (xs_sh.take 106) 1920 0 dX9_init_241 rfl (fun _ => rfl) (Or.inl rfl) ac_int (by decide) (by decide +kernel) (by decide) (tk_len (by decide)) ⟨rfl, rfl⟩ (by decide) ⟨Nat.le_of_ble_eq_true rfl, Nat.le_of_ble_eq_true rfl⟩ (tk_push sc_105) ?_
  refine xs_nmM (fun m59 e_m59 => ?_)
  replace h := h m59 e_m59
  refine xs_putRF dX9_init_243 ff_X9_106 rfl (by rw [tk_len (by decide)]; decide) rfl (tk (by decide) sc_75) ?_
  refine xs_nmM (fun m60 e_m60 => ?_)
  replace h := h m60 e_m60
  refine xs_aload_n dX9_init_246 rfl ?_
  obtain ⟨s61, h⟩ := h
  refine xs_getR dX9_init_247 fl_X9_17 rfl (tk (by decide) sc_75) s61 ?_
  refine xs_sipush (nI 255) dX9_init_250 (by decide) ?_
  refine xs_ldc2 dX9_init_253 cn_X9_109 ?_
  obtain ⟨s62, h⟩ := h
  refine xs_last dX9_init_256 (tk (by decide) sc_77) s62 ?_
  refine xs_nmM (fun m63 e_m63 => ?_)
  replace h := h m63 e_m63
  refine xs_sipush (nI 254) dX9_init_257 (by decide) ?_
  refine xs_istore_n [some (.ref 75), some (.int (nI 254))] dX9_init_260 (by decide) rfl ?_
  exact xs_loc [some (.ref 75), some (.int (nI 254))] ⟨rfl, ⟨rfl, trivial⟩⟩ h
set_option maxHeartbeats 4000000 in
set_option maxRecDepth 100000 in
theorem n_X8_init {Q : xm_M → Prop} {μ : xm_M} 
    (h : ∀ m1 : xm_M, m1 = xm_nw μ 1 →
      ∃ Q2 : xm_M → Prop, xN k_X6_init 2 3 m1 1 Q2 ∧
      ∀ m3 : xm_M, Q2 m3 →
      ∀ m5 : xm_M, m5 = xu_R m3 0 (va_up (m3.2.2 0) 0 (some 1)) →
      ∀ m6 : xm_M, m6 = xm_nw m5 3 →
      ∃ Q7 : xm_M → Prop, xN k_X3_init 4 7 m6 3 Q7 ∧
      ∀ m8 : xm_M, Q7 m8 →
      ∀ m10 : xm_M, m10 = xu_R m8 0 (va_up (m8.2.2 0) 1 (some 3)) →
      ∀ m11 : xm_M, m11 = xm_nw m10 7 →
      ∃ Q12 : xm_M → Prop, xN k_X0_init 8 9 m11 7 Q12 ∧
      ∀ m13 : xm_M, Q12 m13 →
      ∀ m15 : xm_M, m15 = xu_R m13 0 (va_up (m13.2.2 0) 2 (some 7)) →
      ∀ m16 : xm_M, m16 = xm_nw m15 9 →
      ∃ Q17 : xm_M → Prop, xN k_X4_init 10 56 m16 9 Q17 ∧
      ∀ m18 : xm_M, Q17 m18 →
      ∀ m20 : xm_M, m20 = xu_R m18 0 (va_up (m18.2.2 0) 3 (some 9)) →
      ∀ m21 : xm_M, m21 = xm_nw m20 56 →
      ∃ Q22 : xm_M → Prop, xN k_X2_init 57 59 m21 56 Q22 ∧
      ∀ m23 : xm_M, Q22 m23 →
      ∀ m25 : xm_M, m25 = xu_R m23 0 (va_up (m23.2.2 0) 4 (some 56)) →
      ∀ m26 : xm_M, m26 = xm_nw m25 59 →
      ∃ Q27 : xm_M → Prop, xN k_X5_init 60 64 m26 59 Q27 ∧
      ∀ m28 : xm_M, Q27 m28 →
      ∀ m30 : xm_M, m30 = xu_R m28 0 (va_up (m28.2.2 0) 5 (some 59)) →
      ∀ m31 : xm_M, m31 = xm_nw m30 64 →
      ∀ m32 : xm_M, m32 = xu_R m31 0 (va_up (m31.2.2 0) 6 (some 64)) →
      m32.2.2 0 6 = some 64 ∧
      m32.2.2 0 6 = some 64 ∧
      ∀ m36 : xm_M, m36 = xm_nw m32 65 →
      ∃ Q37 : xm_M → Prop, xN k_X7_init 66 70 m36 65 Q37 ∧
      ∀ m38 : xm_M, Q37 m38 →
      ∀ m40 : xm_M, m40 = xu_R m38 64 (va_up (m38.2.2 64) ((nI 0)).toNatClampNeg (some 65)) →
      m40.2.2 0 6 = some 64 ∧
      m40.2.2 0 6 = some 64 ∧
      ∀ m44 : xm_M, m44 = xm_nw m40 70 →
      ∃ Q45 : xm_M → Prop, xN k_X7_init 71 75 m44 70 Q45 ∧
      ∀ m46 : xm_M, Q45 m46 →
      ∀ m48 : xm_M, m48 = xu_R m46 64 (va_up (m46.2.2 64) ((nI 1)).toNatClampNeg (some 70)) →
      m48.2.2 0 6 = some 64 ∧
      ∀ m51 : xm_M, m51 = xu_I m48 0 (upd (m48.1 0) 7 (nI 0)) →
      ∀ m52 : xm_M, m52 = xu_I m51 0 (upd (m51.1 0) 8 (nI 0)) →
      ∀ m53 : xm_M, m53 = xu_I m52 0 (upd (m52.1 0) 9 (nI 0)) →
      ∀ m54 : xm_M, m54 = xu_I m53 0 (upd (m53.1 0) 10 (nI 0)) →
      Q m54) :
    xN k_X8_init 1 75 μ 0 Q := by
  refine xm_met [some (.ref 0), none] 1 (by decide) (by simp [lg_sl, Value.category]) rfl ?_
  refine xs_aload_n dX8_init_0 rfl ?_
  refine xs_oinit dX8_init_1 ml_X8_1 (Nat.le_of_ble_eq_true rfl) (Nat.le_of_ble_eq_true rfl) ?_
  refine xs_aload_n dX8_init_4 rfl ?_
  refine xs_new (n := 1) (ci := 6) (xs_sh.take 2) 2 dX8_init_5 nl_X8_7 (by decide) (tk_len (by decide)) ⟨rfl, rfl⟩ (by decide) ⟨Nat.le_of_ble_eq_true rfl, Nat.le_of_ble_eq_true rfl⟩ (tk_push sc_1) ?_
  refine xs_nmM (fun m1 e_m1 => ?_)
  replace h := h m1 e_m1
  refine xs_dup dX8_init_8 rfl ?_
  obtain ⟨Q2, hQ2, h⟩ := h
  refine xs_callI (j := k_X6_init) (n := 2) dX8_init_9 hQ2 ⟨ml_X8_9, mk_X6_init.1, mk_X6_init.2.1, mk_X6_init.2.2⟩ mi_X6_init rfl rfl ⟨Nat.le_of_ble_eq_true rfl, Nat.le_of_ble_eq_true rfl⟩ (Nat.le_of_ble_eq_true rfl) (tk_len (by decide)) ⟨rfl, rfl⟩ ⟨Nat.le_of_ble_eq_true rfl, Nat.le_of_ble_eq_true rfl⟩ ?_
  rintro rr sh2 m3 ⟨rfl, rfl, hq4⟩
  replace h := h m3 hq4
  refine ⟨rfl, ?_⟩
  refine xs_putRF dX8_init_12 ff_X8_10 rfl (by rw [tk_len (by decide)]; decide) rfl (tk (by decide) sc_0) ?_
  refine xs_nmM (fun m5 e_m5 => ?_)
  replace h := h m5 e_m5
  refine xs_aload_n dX8_init_15 rfl ?_
  refine xs_new (n := 3) (ci := 3) (xs_sh.take 4) 14 dX8_init_16 nl_X8_16 (by decide) (tk_len (by decide)) ⟨rfl, rfl⟩ (by decide) ⟨Nat.le_of_ble_eq_true rfl, Nat.le_of_ble_eq_true rfl⟩ (tk_push sc_3) ?_
  refine xs_nmM (fun m6 e_m6 => ?_)
  replace h := h m6 e_m6
  refine xs_dup dX8_init_19 rfl ?_
  obtain ⟨Q7, hQ7, h⟩ := h
  refine xs_callI (j := k_X3_init) (n := 4) dX8_init_20 hQ7 ⟨ml_X8_18, mk_X3_init.1, mk_X3_init.2.1, mk_X3_init.2.2⟩ mi_X3_init rfl rfl ⟨Nat.le_of_ble_eq_true rfl, Nat.le_of_ble_eq_true rfl⟩ (Nat.le_of_ble_eq_true rfl) (tk_len (by decide)) ⟨rfl, rfl⟩ ⟨Nat.le_of_ble_eq_true rfl, Nat.le_of_ble_eq_true rfl⟩ ?_
  rintro rr sh2 m8 ⟨rfl, rfl, hq9⟩
  replace h := h m8 hq9
  refine ⟨rfl, ?_⟩
  refine xs_putRF dX8_init_23 ff_X8_19 rfl (by rw [tk_len (by decide)]; decide) rfl (tk (by decide) sc_0) ?_
  refine xs_nmM (fun m10 e_m10 => ?_)
  replace h := h m10 e_m10
  refine xs_aload_n dX8_init_26 rfl ?_
  refine xs_new (n := 7) (ci := 0) (xs_sh.take 8) 3 dX8_init_27 nl_X8_23 (by decide) (tk_len (by decide)) ⟨rfl, rfl⟩ (by decide) ⟨Nat.le_of_ble_eq_true rfl, Nat.le_of_ble_eq_true rfl⟩ (tk_push sc_7) ?_
  refine xs_nmM (fun m11 e_m11 => ?_)
  replace h := h m11 e_m11
  refine xs_dup dX8_init_30 rfl ?_
  obtain ⟨Q12, hQ12, h⟩ := h
  refine xs_callI (j := k_X0_init) (n := 8) dX8_init_31 hQ12 ⟨ml_X8_25, mk_X0_init.1, mk_X0_init.2.1, mk_X0_init.2.2⟩ mi_X0_init rfl rfl ⟨Nat.le_of_ble_eq_true rfl, Nat.le_of_ble_eq_true rfl⟩ (Nat.le_of_ble_eq_true rfl) (tk_len (by decide)) ⟨rfl, rfl⟩ ⟨Nat.le_of_ble_eq_true rfl, Nat.le_of_ble_eq_true rfl⟩ ?_
  rintro rr sh2 m13 ⟨rfl, rfl, hq14⟩
  replace h := h m13 hq14
  refine ⟨rfl, ?_⟩
  refine xs_putRF dX8_init_34 ff_X8_26 rfl (by rw [tk_len (by decide)]; decide) rfl (tk (by decide) sc_0) ?_
  refine xs_nmM (fun m15 e_m15 => ?_)
  replace h := h m15 e_m15
  refine xs_aload_n dX8_init_37 rfl ?_
  refine xs_new (n := 9) (ci := 4) (xs_sh.take 10) 15 dX8_init_38 nl_X8_30 (by decide) (tk_len (by decide)) ⟨rfl, rfl⟩ (by decide) ⟨Nat.le_of_ble_eq_true rfl, Nat.le_of_ble_eq_true rfl⟩ (tk_push sc_9) ?_
  refine xs_nmM (fun m16 e_m16 => ?_)
  replace h := h m16 e_m16
  refine xs_dup dX8_init_41 rfl ?_
  obtain ⟨Q17, hQ17, h⟩ := h
  refine xs_callI (j := k_X4_init) (n := 10) dX8_init_42 hQ17 ⟨ml_X8_32, mk_X4_init.1, mk_X4_init.2.1, mk_X4_init.2.2⟩ mi_X4_init rfl rfl ⟨Nat.le_of_ble_eq_true rfl, Nat.le_of_ble_eq_true rfl⟩ (Nat.le_of_ble_eq_true rfl) (tk_len (by decide)) ⟨rfl, rfl⟩ ⟨Nat.le_of_ble_eq_true rfl, Nat.le_of_ble_eq_true rfl⟩ ?_
  rintro rr sh2 m18 ⟨rfl, rfl, hq19⟩
  replace h := h m18 hq19
  refine ⟨rfl, ?_⟩
  refine xs_putRF dX8_init_45 ff_X8_33 rfl (by rw [tk_len (by decide)]; decide) rfl (tk (by decide) sc_0) ?_
  refine xs_nmM (fun m20 e_m20 => ?_)
  replace h := h m20 e_m20
  refine xs_aload_n dX8_init_48 rfl ?_
  refine xs_new (n := 56) (ci := 2) (xs_sh.take 57) 2 dX8_init_49 nl_X8_37 (by decide) (tk_len (by decide)) ⟨rfl, rfl⟩ (by decide) ⟨Nat.le_of_ble_eq_true rfl, Nat.le_of_ble_eq_true rfl⟩ (tk_push sc_56) ?_
  refine xs_nmM (fun m21 e_m21 => ?_)
  replace h := h m21 e_m21
  refine xs_dup dX8_init_52 rfl ?_
  obtain ⟨Q22, hQ22, h⟩ := h
  refine xs_callI (j := k_X2_init) (n := 57) dX8_init_53 hQ22 ⟨ml_X8_39, mk_X2_init.1, mk_X2_init.2.1, mk_X2_init.2.2⟩ mi_X2_init rfl rfl ⟨Nat.le_of_ble_eq_true rfl, Nat.le_of_ble_eq_true rfl⟩ (Nat.le_of_ble_eq_true rfl) (tk_len (by decide)) ⟨rfl, rfl⟩ ⟨Nat.le_of_ble_eq_true rfl, Nat.le_of_ble_eq_true rfl⟩ ?_
  rintro rr sh2 m23 ⟨rfl, rfl, hq24⟩
  replace h := h m23 hq24
  refine ⟨rfl, ?_⟩
  refine xs_putRF dX8_init_56 ff_X8_40 rfl (by rw [tk_len (by decide)]; decide) rfl (tk (by decide) sc_0) ?_
  refine xs_nmM (fun m25 e_m25 => ?_)
  replace h := h m25 e_m25
  refine xs_aload_n dX8_init_59 rfl ?_
  refine xs_new (n := 59) (ci := 5) (xs_sh.take 60) 4 dX8_init_60 nl_X8_44 (by decide) (tk_len (by decide)) ⟨rfl, rfl⟩ (by decide) ⟨Nat.le_of_ble_eq_true rfl, Nat.le_of_ble_eq_true rfl⟩ (tk_push sc_59) ?_
  refine xs_nmM (fun m26 e_m26 => ?_)
  replace h := h m26 e_m26
  refine xs_dup dX8_init_63 rfl ?_
  obtain ⟨Q27, hQ27, h⟩ := h
  refine xs_callI (j := k_X5_init) (n := 60) dX8_init_64 hQ27 ⟨ml_X8_46, mk_X5_init.1, mk_X5_init.2.1, mk_X5_init.2.2⟩ mi_X5_init rfl rfl ⟨Nat.le_of_ble_eq_true rfl, Nat.le_of_ble_eq_true rfl⟩ (Nat.le_of_ble_eq_true rfl) (tk_len (by decide)) ⟨rfl, rfl⟩ ⟨Nat.le_of_ble_eq_true rfl, Nat.le_of_ble_eq_true rfl⟩ ?_
  rintro rr sh2 m28 ⟨rfl, rfl, hq29⟩
  replace h := h m28 hq29
  refine ⟨rfl, ?_⟩
  refine xs_putRF dX8_init_67 ff_X8_47 rfl (by rw [tk_len (by decide)]; decide) rfl (tk (by decide) sc_0) ?_
  refine xs_nmM (fun m30 e_m30 => ?_)
  replace h := h m30 e_m30
  refine xs_aload_n dX8_init_70 rfl ?_
  refine xs_iconst (nI 2) dX8_init_71 (by decide) ?_
  refine xs_newq (n := 64) (xs_sh.take 65) 2 5 dX8_init_72 (Or.inr rfl) (fun _ => rfl) al_X8_51 (by decide) (by decide +kernel) (by decide) (tk_len (by decide)) ⟨rfl, rfl⟩ (by decide) ⟨Nat.le_of_ble_eq_true rfl, Nat.le_of_ble_eq_true rfl⟩ (tk_push sc_64) ?_
  refine xs_nmM (fun m31 e_m31 => ?_)
  replace h := h m31 e_m31
  refine xs_putRF dX8_init_75 ff_X8_53 rfl (by rw [tk_len (by decide)]; decide) rfl (tk (by decide) sc_0) ?_
  refine xs_nmM (fun m32 e_m32 => ?_)
  replace h := h m32 e_m32
  refine xs_iconst (nI 0) dX8_init_78 (by decide) ?_
  refine xs_istore_n [some (.ref 0), some (.int (nI 0))] dX8_init_79 (by decide) rfl ?_
  refine xs_iload_n dX8_init_80 rfl ?_
  refine xs_aload_n dX8_init_81 rfl ?_
  obtain ⟨s33, h⟩ := h
  refine xs_getR dX8_init_82 fl_X8_53 rfl (tk (by decide) sc_0) s33 ?_
  refine xs_alen 5 dX8_init_85 (tk (by decide) sc_64) (fun _ => rfl) ?_
  refine xs_icmp_ge 108 dX8_init_86 (by decide) (fun c34 => absurd c34 (by decide)) (fun _ => ?_)
  refine xs_aload_n dX8_init_89 rfl ?_
  obtain ⟨s35, h⟩ := h
  refine xs_getR dX8_init_90 fl_X8_53 rfl (tk (by decide) sc_0) s35 ?_
  refine xs_iload_n dX8_init_93 rfl ?_
  refine xs_new (n := 65) (ci := 7) (xs_sh.take 66) 5 dX8_init_94 nl_X8_51 (by decide) (tk_len (by decide)) ⟨rfl, rfl⟩ (by decide) ⟨Nat.le_of_ble_eq_true rfl, Nat.le_of_ble_eq_true rfl⟩ (tk_push sc_65) ?_
  refine xs_nmM (fun m36 e_m36 => ?_)
  replace h := h m36 e_m36
  refine xs_dup dX8_init_97 rfl ?_
  obtain ⟨Q37, hQ37, h⟩ := h
  refine xs_callI (j := k_X7_init) (n := 66) dX8_init_98 hQ37 ⟨ml_X8_57, mk_X7_init.1, mk_X7_init.2.1, mk_X7_init.2.2⟩ mi_X7_init rfl rfl ⟨Nat.le_of_ble_eq_true rfl, Nat.le_of_ble_eq_true rfl⟩ (Nat.le_of_ble_eq_true rfl) (tk_len (by decide)) ⟨rfl, rfl⟩ ⟨Nat.le_of_ble_eq_true rfl, Nat.le_of_ble_eq_true rfl⟩ ?_
  rintro rr sh2 m38 ⟨rfl, rfl, hq39⟩
  replace h := h m38 hq39
  refine ⟨rfl, ?_⟩
  refine xs_astV dX8_init_101 (tk (by decide) sc_64) (tk (by decide) sc_65) (vin (by decide) (by decide)) ?_
  refine xs_nmM (fun m40 e_m40 => ?_)
  replace h := h m40 e_m40
  refine xs_iinc (nI 1) [some (.ref 0), some (.int (nI 1))] dX8_init_102 (by decide) rfl (by decide) rfl ?_
  refine xs_goto 80 dX8_init_105 (by decide) ?_
  refine xs_iload_n dX8_init_80 rfl ?_
  refine xs_aload_n dX8_init_81 rfl ?_
  obtain ⟨s41, h⟩ := h
  refine xs_getR dX8_init_82 fl_X8_53 rfl (tk (by decide) sc_0) s41 ?_
  refine xs_alen 5 dX8_init_85 (tk (by decide) sc_64) (fun _ => rfl) ?_
  refine xs_icmp_ge 108 dX8_init_86 (by decide) (fun c42 => absurd c42 (by decide)) (fun _ => ?_)
  refine xs_aload_n dX8_init_89 rfl ?_
  obtain ⟨s43, h⟩ := h
  refine xs_getR dX8_init_90 fl_X8_53 rfl (tk (by decide) sc_0) s43 ?_
  refine xs_iload_n dX8_init_93 rfl ?_
  refine xs_new (n := 70) (ci := 7) (xs_sh.take 71) 5 dX8_init_94 nl_X8_51 (by decide) (tk_len (by decide)) ⟨rfl, rfl⟩ (by decide) ⟨Nat.le_of_ble_eq_true rfl, Nat.le_of_ble_eq_true rfl⟩ (tk_push sc_70) ?_
  refine xs_nmM (fun m44 e_m44 => ?_)
  replace h := h m44 e_m44
  refine xs_dup dX8_init_97 rfl ?_
  obtain ⟨Q45, hQ45, h⟩ := h
  refine xs_callI (j := k_X7_init) (n := 71) dX8_init_98 hQ45 ⟨ml_X8_57, mk_X7_init.1, mk_X7_init.2.1, mk_X7_init.2.2⟩ mi_X7_init rfl rfl ⟨Nat.le_of_ble_eq_true rfl, Nat.le_of_ble_eq_true rfl⟩ (Nat.le_of_ble_eq_true rfl) (tk_len (by decide)) ⟨rfl, rfl⟩ ⟨Nat.le_of_ble_eq_true rfl, Nat.le_of_ble_eq_true rfl⟩ ?_
  rintro rr sh2 m46 ⟨rfl, rfl, hq47⟩
  replace h := h m46 hq47
  refine ⟨rfl, ?_⟩
  refine xs_astV dX8_init_101 (tk (by decide) sc_64) (tk (by decide) sc_70) (vin (by decide) (by decide)) ?_
  refine xs_nmM (fun m48 e_m48 => ?_)
  replace h := h m48 e_m48
  refine xs_iinc (nI 2) [some (.ref 0), some (.int (nI 2))] dX8_init_102 (by decide) rfl (by decide) rfl ?_
  refine xs_goto 80 dX8_init_105 (by decide) ?_
  refine xs_iload_n dX8_init_80 rfl ?_
  refine xs_aload_n dX8_init_81 rfl ?_
  obtain ⟨s49, h⟩ := h
  refine xs_getR dX8_init_82 fl_X8_53 rfl (tk (by decide) sc_0) s49 ?_
  refine xs_alen 5 dX8_init_85 (tk (by decide) sc_64) (fun _ => rfl) ?_
  refine xs_icmp_ge 108 dX8_init_86 (by decide) (fun _ => ?_) (fun c50 => absurd c50 (by decide))
  refine xs_aload_n dX8_init_108 rfl ?_
  refine xs_iconst (nI 0) dX8_init_109 (by decide) ?_
  refine xs_putI dX8_init_110 fl_X8_58 rfl rfl rfl (tk (by decide) sc_0) ?_
  refine xs_nmM (fun m51 e_m51 => ?_)
  replace h := h m51 e_m51
  refine xs_aload_n dX8_init_113 rfl ?_
  refine xs_iconst (nI 0) dX8_init_114 (by decide) ?_
  refine xs_putI dX8_init_115 fl_X8_62 rfl rfl rfl (tk (by decide) sc_0) ?_
  refine xs_nmM (fun m52 e_m52 => ?_)
  replace h := h m52 e_m52
  refine xs_aload_n dX8_init_118 rfl ?_
  refine xs_iconst (nI 0) dX8_init_119 (by decide) ?_
  refine xs_putI dX8_init_120 fl_X8_65 rfl rfl rfl (tk (by decide) sc_0) ?_
  refine xs_nmM (fun m53 e_m53 => ?_)
  replace h := h m53 e_m53
  refine xs_aload_n dX8_init_123 rfl ?_
  refine xs_iconst (nI 0) dX8_init_124 (by decide) ?_
  refine xs_putI dX8_init_125 fl_X8_68 rfl rfl rfl (tk (by decide) sc_0) ?_
  refine xs_nmM (fun m54 e_m54 => ?_)
  replace h := h m54 e_m54
  exact xs_ret none dX8_init_128 trivial rfl ⟨rfl, rfl, h⟩
