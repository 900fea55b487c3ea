/-! walks of f.X5, printed by wip/gen/mkwalk.py -/
set_option maxHeartbeats 4000000 in
set_option maxRecDepth 100000 in
theorem g_X5_cosine {b : Bool} {Q : Int32 → xm_M → Prop} {μ : xm_M} (v0 : Int32) 
    (h : ∀ x1 : Int32, x1 = (if ((nI 128) - v0) < v0 then ((nI 128) - v0) else v0) →
      ((x1 < 0 →
       Q (nI 0) μ) ∧
      (¬ x1 < 0 →
       ((x1 ≤ (nI 64) →
        (((nI 32) < x1 →
         vp_in ((nI 64) - x1) 33 ∧
         Q (-((xs_tab 0).getD (((nI 64) - x1)).toNatClampNeg 0)) μ) ∧
        (¬ (nI 32) < x1 →
         vp_in x1 33 ∧
         Q ((xs_tab 0).getD (x1).toNatClampNeg 0) μ))) ∧
       (¬ x1 ≤ (nI 64) →
        Q (nI 0) μ))))) :
    xCi b b k_X5_cosine μ [.int v0] Q := by
  intro hR
  refine xm_met [some (.int v0), none] 1 (by decide) (by simp [lg_sl, Value.category]) rfl ?_
  refine xs_iload_n dX5_cosine_0 rfl ?_
  refine xs_sipush (nI 128) dX5_cosine_1 (by decide) ?_
  refine xs_iload_n dX5_cosine_4 rfl ?_
  refine xs_isub dX5_cosine_5 ?_
  refine xs_mmin dX5_cosine_6 ml_X5_30 (Nat.le_of_ble_eq_true rfl) (Nat.le_of_ble_eq_true rfl) ?_
  refine xs_nmI (fun x1 e_x1 => ?_)
  replace h := h x1 e_x1
  refine xs_istore_n [some (.int v0), some (.int x1)] dX5_cosine_9 (by decide) rfl ?_
  refine xs_iload_n dX5_cosine_10 rfl ?_
  refine xs_if_lt 20 dX5_cosine_11 (by decide) (fun c2 => ?_) (fun c2 => ?_)
  · replace h := h.1 c2
    refine xs_iconst (nI 0) dX5_cosine_20 (by decide) ?_
    exact xs_ret (some (.int (nI 0))) dX5_cosine_21 rfl rfl ⟨hR, _, rfl, h⟩
  · replace h := h.2 c2
    refine xs_iload_n dX5_cosine_14 rfl ?_
    refine xs_bipush (nI 64) dX5_cosine_15 (by decide) ?_
    refine xs_icmp_le 22 dX5_cosine_17 (by decide) (fun c3 => ?_) (fun c3 => ?_)
    · replace h := h.1 c3
      refine xs_iload_n dX5_cosine_22 rfl ?_
      refine xs_bipush (nI 32) dX5_cosine_23 (by decide) ?_
      refine xs_icmp_gt 36 dX5_cosine_25 (by decide) (fun c4 => ?_) (fun c4 => ?_)
      · replace h := h.1 c4
        refine xs_gets (k := 0) (q := xs_tq 0) dX5_cosine_36 rfl fs_X5_36 ?_
        refine xs_bipush (nI 64) dX5_cosine_39 (by decide) ?_
        refine xs_iload_n dX5_cosine_41 rfl ?_
        refine xs_isub dX5_cosine_42 ?_
        obtain ⟨s5, h⟩ := h
        refine xs_tald (k := 0) (q := xs_tq 0) dX5_cosine_43 rfl s5 ?_
        refine xs_ineg dX5_cosine_44 ?_
        exact xs_ret (some (.int (-((xs_tab 0).getD (((nI 64) - x1)).toNatClampNeg 0)))) dX5_cosine_45 rfl rfl ⟨hR, _, rfl, h⟩
      · replace h := h.2 c4
        refine xs_gets (k := 0) (q := xs_tq 0) dX5_cosine_28 rfl fs_X5_36 ?_
        refine xs_iload_n dX5_cosine_31 rfl ?_
        obtain ⟨s6, h⟩ := h
        refine xs_tald (k := 0) (q := xs_tq 0) dX5_cosine_32 rfl s6 ?_
        refine xs_goto 45 dX5_cosine_33 (by decide) ?_
        exact xs_ret (some (.int ((xs_tab 0).getD (x1).toNatClampNeg 0))) dX5_cosine_45 rfl rfl ⟨hR, _, rfl, h⟩
    · replace h := h.2 c3
      refine xs_iconst (nI 0) dX5_cosine_20 (by decide) ?_
      exact xs_ret (some (.int (nI 0))) dX5_cosine_21 rfl rfl ⟨hR, _, rfl, h⟩
abbrev hd_X5_add_2 (b : Bool) (Q : xm_M → Prop) (V : Nat) (v2 : Int32) (μ : xm_M) : Prop := xs_RT b μ → xR k_X5_add none true (fun r _ μ' => xs_RT b μ' ∧ r = none ∧ Q μ') 2 [some (.ref 59), some (.ref V), some (.int v2), none, none] [] xs_sh (0, 0) μ
abbrev hd_X5_add_83 (b : Bool) (Q : xm_M → Prop) (V : Nat) (v2 : Int32) (μ : xm_M) : Prop := xs_RT b μ → xR k_X5_add none true (fun r _ μ' => xs_RT b μ' ∧ r = none ∧ Q μ') 83 [some (.ref 59), none, some (.int v2), none, none] [] xs_sh (0, 0) μ
set_option maxHeartbeats 4000000 in
set_option maxRecDepth 100000 in
theorem l_X5_add_2 {b : Bool} {Q : xm_M → Prop} {μ : xm_M} {V : Nat} (v2 : Int32) (hV : xs_vo V)
    (h : (((nI 16) ≤ v2 →
       hd_X5_add_83 b Q V (nI 0) μ) ∧
      (¬ (nI 16) ≤ v2 →
       (((nI 16) ≤ v2 →
        hd_X5_add_83 b Q V (nI 0) μ) ∧
       (¬ (nI 16) ≤ v2 →
        (((nI 16) ≤ v2 →
         hd_X5_add_83 b Q V (nI 0) μ) ∧
        (¬ (nI 16) ≤ v2 →
         (((μ.1 V 0) = 0 →
          vp_in v2 16 ∧
          vp_in ((μ.1 (V + 1) (v2).toNatClampNeg) &&& (nI 255)) 256 ∧
          ∀ x7 : Int64, x7 = ((μ.1 62 (((μ.1 (V + 1) (v2).toNatClampNeg) &&& (nI 255))).toNatClampNeg)).toInt64 →
          vp_in v2 16 ∧
          vp_in v2 16 ∧
          ∀ m10 : xm_M, m10 = xu_L μ 61 (vp_updL (μ.2.1 61) (v2).toNatClampNeg ((((μ.1 (V + 2) (v2).toNatClampNeg)).toInt64 * x7) >>> (((nI 8)).toInt64 &&& 63))) →
          ∀ x11 : Int32, x11 = v2 + nI 1 →
          hd_X5_add_2 b Q V x11 m10) ∧
         (¬ (μ.1 V 0) = 0 →
          vp_in v2 16 ∧
          vp_in v2 16 ∧
          ∀ m14 : xm_M, m14 = xu_L μ 61 (vp_updL (μ.2.1 61) (v2).toNatClampNeg ((((μ.1 (V + 2) (v2).toNatClampNeg)).toInt64 * (0 : Int64)) >>> (((nI 8)).toInt64 &&& 63))) →
          ∀ x15 : Int32, x15 = v2 + nI 1 →
          hd_X5_add_2 b Q V x15 m14))))))))) :
    hd_X5_add_2 b Q V v2 μ := by
  intro hR
  refine xs_iload_n dX5_add_2 rfl ?_
  refine xs_aload_n dX5_add_3 rfl ?_
  refine xs_getR dX5_add_4 fl_X5_15 rfl sc_59 (rt_59_1 hR) ?_
  refine xs_alen 3 dX5_add_7 sc_61 (fun _ => rfl) ?_
  refine xs_icmp_ge 81 dX5_add_8 (by decide) (fun c1 => ?_) (fun c1 => ?_)
  · replace h := h.1 c1
    refine xs_iconst (nI 0) dX5_add_81 (by decide) ?_
    refine xs_istore_n [some (.ref 59), some (.ref V), some (.int (nI 0)), none, none] dX5_add_82 (by decide) rfl ?_
    exact xs_loc [some (.ref 59), none, some (.int (nI 0)), none, none] ⟨rfl, ⟨rfl, trivial⟩⟩ (h hR)
  · replace h := h.2 c1
    refine xs_iload_n dX5_add_11 rfl ?_
    refine xs_aload_n dX5_add_12 rfl ?_
    refine xs_getR dX5_add_13 fl_X5_39 rfl (sv_0 hV) (rv_2 hV hR) ?_
    refine xs_alen 0 dX5_add_16 (sv_2 hV) (fun _ => rfl) ?_
    refine xs_icmp_ge 81 dX5_add_17 (by decide) (fun c2 => ?_) (fun c2 => ?_)
    · replace h := h.1 c2
      refine xs_iconst (nI 0) dX5_add_81 (by decide) ?_
      refine xs_istore_n [some (.ref 59), some (.ref V), some (.int (nI 0)), none, none] dX5_add_82 (by decide) rfl ?_
      exact xs_loc [some (.ref 59), none, some (.int (nI 0)), none, none] ⟨rfl, ⟨rfl, trivial⟩⟩ (h hR)
    · replace h := h.2 c2
      refine xs_iload_n dX5_add_20 rfl ?_
      refine xs_aload_n dX5_add_21 rfl ?_
      refine xs_getR dX5_add_22 fl_X5_44 rfl (sv_0 hV) (rv_1 hV hR) ?_
      refine xs_alen 0 dX5_add_25 (sv_1 hV) (fun _ => rfl) ?_
      refine xs_icmp_ge 81 dX5_add_26 (by decide) (fun c3 => ?_) (fun c3 => ?_)
      · replace h := h.1 c3
        refine xs_iconst (nI 0) dX5_add_81 (by decide) ?_
        refine xs_istore_n [some (.ref 59), some (.ref V), some (.int (nI 0)), none, none] dX5_add_82 (by decide) rfl ?_
        exact xs_loc [some (.ref 59), none, some (.int (nI 0)), none, none] ⟨rfl, ⟨rfl, trivial⟩⟩ (h hR)
      · replace h := h.2 c3
        refine xs_aload_n dX5_add_29 rfl ?_
        refine xs_getI dX5_add_30 fl_X5_47.g rfl (sv_0 hV) ?_
        refine xs_if_eq 40 dX5_add_33 (by decide) (fun c4 => ?_) (fun c4 => ?_)
        · replace h := h.1 c4
          refine xs_aload_n dX5_add_40 rfl ?_
          refine xs_getR dX5_add_41 fl_X5_18 rfl sc_59 (rt_59_2 hR) ?_
          refine xs_aload_n dX5_add_44 rfl ?_
          refine xs_getR dX5_add_45 fl_X5_44 rfl (sv_0 hV) (rv_1 hV hR) ?_
          refine xs_iload_n dX5_add_48 rfl ?_
          obtain ⟨s5, h⟩ := h
          refine xs_iald dX5_add_49 (sv_1 hV) s5 ?_
          refine xs_sipush (nI 255) dX5_add_50 (by decide) ?_
          refine xs_iand dX5_add_53 ?_
          obtain ⟨s6, h⟩ := h
          refine xs_iald dX5_add_54 sc_62 s6 ?_
          refine xs_i2l dX5_add_55 ?_
          refine xs_nmL (fun x7 e_x7 => ?_)
          replace h := h x7 e_x7
          refine xs_lstore_n [some (.ref 59), some (.ref V), some (.int v2), some (.long x7), none] dX5_add_56 (by decide) rfl ?_
          refine xs_aload_n dX5_add_57 rfl ?_
          refine xs_getR dX5_add_58 fl_X5_15 rfl sc_59 (rt_59_1 hR) ?_
          refine xs_iload_n dX5_add_61 rfl ?_
          refine xs_aload_n dX5_add_62 rfl ?_
          refine xs_getR dX5_add_63 fl_X5_39 rfl (sv_0 hV) (rv_2 hV hR) ?_
          refine xs_iload_n dX5_add_66 rfl ?_
          obtain ⟨s8, h⟩ := h
          refine xs_iald dX5_add_67 (sv_2 hV) s8 ?_
          refine xs_i2l dX5_add_68 ?_
          refine xs_lload_n dX5_add_69 rfl ?_
          refine xs_lmul dX5_add_70 ?_
          refine xs_bipush (nI 8) dX5_add_71 (by decide) ?_
          refine xs_lshr dX5_add_73 ?_
          obtain ⟨s9, h⟩ := h
          refine xs_last dX5_add_74 sc_61 s9 ?_
          refine xs_nmM (fun m10 e_m10 => ?_)
          replace h := h m10 e_m10
          have hR : xs_RT b m10 := by rw [e_m10]; exact hR
          obtain ⟨x11, e_x11⟩ : ∃ z : Int32, z = v2 + nI 1 := ⟨_, rfl⟩
          replace h := h x11 e_x11
          refine xs_iinc x11 [some (.ref 59), some (.ref V), some (.int x11), some (.long x7), none] dX5_add_75 (by decide) rfl (by rw [e_x11]; rfl) rfl ?_
          refine xs_goto 2 dX5_add_78 (by decide) ?_
          exact xs_loc [some (.ref 59), some (.ref V), some (.int x11), none, none] ⟨rfl, ⟨rfl, ⟨rfl, trivial⟩⟩⟩ (h hR)
        · replace h := h.2 c4
          refine xs_lconst (0 : Int64) dX5_add_36 (by decide) ?_
          refine xs_goto 56 dX5_add_37 (by decide) ?_
          refine xs_lstore_n [some (.ref 59), some (.ref V), some (.int v2), some (.long (0 : Int64)), none] dX5_add_56 (by decide) rfl ?_
          refine xs_aload_n dX5_add_57 rfl ?_
          refine xs_getR dX5_add_58 fl_X5_15 rfl sc_59 (rt_59_1 hR) ?_
          refine xs_iload_n dX5_add_61 rfl ?_
          refine xs_aload_n dX5_add_62 rfl ?_
          refine xs_getR dX5_add_63 fl_X5_39 rfl (sv_0 hV) (rv_2 hV hR) ?_
          refine xs_iload_n dX5_add_66 rfl ?_
          obtain ⟨s12, h⟩ := h
          refine xs_iald dX5_add_67 (sv_2 hV) s12 ?_
          refine xs_i2l dX5_add_68 ?_
          refine xs_lload_n dX5_add_69 rfl ?_
          refine xs_lmul dX5_add_70 ?_
          refine xs_bipush (nI 8) dX5_add_71 (by decide) ?_
          refine xs_lshr dX5_add_73 ?_
          obtain ⟨s13, h⟩ := h
          refine xs_last dX5_add_74 sc_61 s13 ?_
          refine xs_nmM (fun m14 e_m14 => ?_)
          replace h := h m14 e_m14
          have hR : xs_RT b m14 := by rw [e_m14]; exact hR
          obtain ⟨x15, e_x15⟩ : ∃ z : Int32, z = v2 + nI 1 := ⟨_, rfl⟩
          replace h := h x15 e_x15
          refine xs_iinc x15 [some (.ref 59), some (.ref V), some (.int x15), some (.long (0 : Int64)), none] dX5_add_75 (by decide) rfl (by rw [e_x15]; rfl) rfl ?_
          refine xs_goto 2 dX5_add_78 (by decide) ?_
          exact xs_loc [some (.ref 59), some (.ref V), some (.int x15), none, none] ⟨rfl, ⟨rfl, ⟨rfl, trivial⟩⟩⟩ (h hR)
set_option maxHeartbeats 4000000 in
set_option maxRecDepth 100000 in
theorem l_X5_add_83 {b : Bool} {Q : xm_M → Prop} {μ : xm_M} {V : Nat} (v2 : Int32) (hV : xs_vo V)
    (h : (((nI 32) ≤ v2 →
       Q μ) ∧
      (¬ (nI 32) ≤ v2 →
       (((nI 16) ≤ v2 →
        ∀ x3 : Int32, x3 = ((nI 31) - v2) →
        ((x3 < 0 →
         ∀ x5 : Int32, x5 = v2 + nI 1 →
         hd_X5_add_83 b Q V x5 μ) ∧
        (¬ x3 < 0 →
         (((nI 16) ≤ x3 →
          ∀ x7 : Int32, x7 = v2 + nI 1 →
          hd_X5_add_83 b Q V x7 μ) ∧
         (¬ (nI 16) ≤ x3 →
          ∃ Q8 : Int64 → xm_M → Prop, xCl b b k_X5_cosineSum μ [.ref 59, .int v2] Q8 ∧
          ∀ (r10 : Int64) (m9 : xm_M), Q8 r10 m9 →
          vp_in x3 16 ∧
          vp_in v2 32 ∧
          ∀ m14 : xm_M, m14 = xu_L m9 60 (vp_updL (m9.2.1 60) (v2).toNatClampNeg ((r10 * (((xs_tab 1).getD (x3).toNatClampNeg 0)).toInt64) >>> (((nI 12)).toInt64 &&& 63))) →
          ∀ x15 : Int32, x15 = v2 + nI 1 →
          hd_X5_add_83 b Q V x15 m14))))) ∧
       (¬ (nI 16) ≤ v2 →
        ((v2 < 0 →
         ∀ x17 : Int32, x17 = v2 + nI 1 →
         hd_X5_add_83 b Q V x17 μ) ∧
        (¬ v2 < 0 →
         (((nI 16) ≤ v2 →
          ∀ x19 : Int32, x19 = v2 + nI 1 →
          hd_X5_add_83 b Q V x19 μ) ∧
         (¬ (nI 16) ≤ v2 →
          ∃ Q20 : Int64 → xm_M → Prop, xCl b b k_X5_cosineSum μ [.ref 59, .int v2] Q20 ∧
          ∀ (r22 : Int64) (m21 : xm_M), Q20 r22 m21 →
          vp_in v2 16 ∧
          vp_in v2 32 ∧
          ∀ m26 : xm_M, m26 = xu_L m21 60 (vp_updL (m21.2.1 60) (v2).toNatClampNeg ((r22 * (((xs_tab 1).getD (v2).toNatClampNeg 0)).toInt64) >>> (((nI 12)).toInt64 &&& 63))) →
          ∀ x27 : Int32, x27 = v2 + nI 1 →
          hd_X5_add_83 b Q V x27 m26))))))))) :
    hd_X5_add_83 b Q V v2 μ := by
  intro hR
  refine xs_iload_n dX5_add_83 rfl ?_
  refine xs_aload_n dX5_add_84 rfl ?_
  refine xs_getR dX5_add_85 fl_X5_9 rfl sc_59 (rt_59_0 hR) ?_
  refine xs_alen 3 dX5_add_88 sc_60 (fun _ => rfl) ?_
  refine xs_icmp_ge 146 dX5_add_89 (by decide) (fun c1 => ?_) (fun c1 => ?_)
  · replace h := h.1 c1
    exact xs_ret none dX5_add_146 trivial rfl ⟨hR, rfl, h⟩
  · replace h := h.2 c1
    refine xs_iload_n dX5_add_92 rfl ?_
    refine xs_bipush (nI 16) dX5_add_93 (by decide) ?_
    refine xs_icmp_ge 102 dX5_add_95 (by decide) (fun c2 => ?_) (fun c2 => ?_)
    · replace h := h.1 c2
      refine xs_bipush (nI 31) dX5_add_102 (by decide) ?_
      refine xs_iload_n dX5_add_104 rfl ?_
      refine xs_isub dX5_add_105 ?_
      refine xs_nmI (fun x3 e_x3 => ?_)
      replace h := h x3 e_x3
      refine xs_istore_n [some (.ref 59), none, some (.int v2), some (.int x3), none] dX5_add_106 (by decide) rfl ?_
      refine xs_iload_n dX5_add_107 rfl ?_
      refine xs_if_lt 140 dX5_add_108 (by decide) (fun c4 => ?_) (fun c4 => ?_)
      · replace h := h.1 c4
        obtain ⟨x5, e_x5⟩ : ∃ z : Int32, z = v2 + nI 1 := ⟨_, rfl⟩
        replace h := h x5 e_x5
        refine xs_iinc x5 [some (.ref 59), none, some (.int x5), some (.int x3), none] dX5_add_140 (by decide) rfl (by rw [e_x5]; rfl) rfl ?_
        refine xs_goto 83 dX5_add_143 (by decide) ?_
        exact xs_loc [some (.ref 59), none, some (.int x5), none, none] ⟨rfl, ⟨rfl, trivial⟩⟩ (h hR)
      · replace h := h.2 c4
        refine xs_iload_n dX5_add_111 rfl ?_
        refine xs_gets (k := 1) (q := xs_tq 1) dX5_add_112 rfl fs_X5_51 ?_
        refine xs_talen (k := 1) (q := xs_tq 1) dX5_add_115 rfl ?_
        refine xs_icmp_ge 140 dX5_add_116 (by decide) (fun c6 => ?_) (fun c6 => ?_)
        · replace h := h.1 c6
          obtain ⟨x7, e_x7⟩ : ∃ z : Int32, z = v2 + nI 1 := ⟨_, rfl⟩
          replace h := h x7 e_x7
          refine xs_iinc x7 [some (.ref 59), none, some (.int x7), some (.int x3), none] dX5_add_140 (by decide) rfl (by rw [e_x7]; rfl) rfl ?_
          refine xs_goto 83 dX5_add_143 (by decide) ?_
          exact xs_loc [some (.ref 59), none, some (.int x7), none, none] ⟨rfl, ⟨rfl, trivial⟩⟩ (h hR)
        · replace h := h.2 c6
          refine xs_aload_n dX5_add_119 rfl ?_
          refine xs_getR dX5_add_120 fl_X5_9 rfl sc_59 (rt_59_0 hR) ?_
          refine xs_iload_n dX5_add_123 rfl ?_
          refine xs_aload_n dX5_add_124 rfl ?_
          refine xs_iload_n dX5_add_125 rfl ?_
          obtain ⟨Q8, hQ8, h⟩ := h
          refine xs_callV (j := k_X5_cosineSum) (As := [.int v2]) (S := [.int v2, .ref 60]) dX5_add_126 (hQ8 hR) ⟨ml_X5_54, mk_X5_cosineSum.1, mk_X5_cosineSum.2.1, mk_X5_cosineSum.2.2⟩ mv_X5_cosineSum ⟨Nat.le_of_ble_eq_true rfl, Nat.le_of_ble_eq_true rfl⟩ rfl (Nat.le_of_ble_eq_true rfl) sc_59 rfl ⟨rfl, rfl⟩ (fun rr m9 hq11 => ?_)
          obtain ⟨hR, r10, rfl, hq11⟩ := hq11
          replace h := h r10 m9 hq11
          refine xs_gets (k := 1) (q := xs_tq 1) dX5_add_129 rfl fs_X5_51 ?_
          refine xs_iload_n dX5_add_132 rfl ?_
          obtain ⟨s12, h⟩ := h
          refine xs_tald (k := 1) (q := xs_tq 1) dX5_add_133 rfl s12 ?_
          refine xs_i2l dX5_add_134 ?_
          refine xs_lmul dX5_add_135 ?_
          refine xs_bipush (nI 12) dX5_add_136 (by decide) ?_
          refine xs_lshr dX5_add_138 ?_
          obtain ⟨s13, h⟩ := h
          refine xs_last dX5_add_139 sc_60 s13 ?_
          refine xs_nmM (fun m14 e_m14 => ?_)
          replace h := h m14 e_m14
          have hR : xs_RT b m14 := by rw [e_m14]; exact hR
          obtain ⟨x15, e_x15⟩ : ∃ z : Int32, z = v2 + nI 1 := ⟨_, rfl⟩
          replace h := h x15 e_x15
          refine xs_iinc x15 [some (.ref 59), none, some (.int x15), some (.int x3), none] dX5_add_140 (by decide) rfl (by rw [e_x15]; rfl) rfl ?_
          refine xs_goto 83 dX5_add_143 (by decide) ?_
          exact xs_loc [some (.ref 59), none, some (.int x15), none, none] ⟨rfl, ⟨rfl, trivial⟩⟩ (h hR)
    · replace h := h.2 c2
      refine xs_iload_n dX5_add_98 rfl ?_
      refine xs_goto 106 dX5_add_99 (by decide) ?_
      refine xs_istore_n [some (.ref 59), none, some (.int v2), some (.int v2), none] dX5_add_106 (by decide) rfl ?_
      refine xs_iload_n dX5_add_107 rfl ?_
      refine xs_if_lt 140 dX5_add_108 (by decide) (fun c16 => ?_) (fun c16 => ?_)
      · replace h := h.1 c16
        obtain ⟨x17, e_x17⟩ : ∃ z : Int32, z = v2 + nI 1 := ⟨_, rfl⟩
        replace h := h x17 e_x17
        refine xs_iinc x17 [some (.ref 59), none, some (.int x17), some (.int v2), none] dX5_add_140 (by decide) rfl (by rw [e_x17]; rfl) rfl ?_
        refine xs_goto 83 dX5_add_143 (by decide) ?_
        exact xs_loc [some (.ref 59), none, some (.int x17), none, none] ⟨rfl, ⟨rfl, trivial⟩⟩ (h hR)
      · replace h := h.2 c16
        refine xs_iload_n dX5_add_111 rfl ?_
        refine xs_gets (k := 1) (q := xs_tq 1) dX5_add_112 rfl fs_X5_51 ?_
        refine xs_talen (k := 1) (q := xs_tq 1) dX5_add_115 rfl ?_
        refine xs_icmp_ge 140 dX5_add_116 (by decide) (fun c18 => ?_) (fun c18 => ?_)
        · replace h := h.1 c18
          obtain ⟨x19, e_x19⟩ : ∃ z : Int32, z = v2 + nI 1 := ⟨_, rfl⟩
          replace h := h x19 e_x19
          refine xs_iinc x19 [some (.ref 59), none, some (.int x19), some (.int v2), none] dX5_add_140 (by decide) rfl (by rw [e_x19]; rfl) rfl ?_
          refine xs_goto 83 dX5_add_143 (by decide) ?_
          exact xs_loc [some (.ref 59), none, some (.int x19), none, none] ⟨rfl, ⟨rfl, trivial⟩⟩ (h hR)
        · replace h := h.2 c18
          refine xs_aload_n dX5_add_119 rfl ?_
          refine xs_getR dX5_add_120 fl_X5_9 rfl sc_59 (rt_59_0 hR) ?_
          refine xs_iload_n dX5_add_123 rfl ?_
          refine xs_aload_n dX5_add_124 rfl ?_
          refine xs_iload_n dX5_add_125 rfl ?_
          obtain ⟨Q20, hQ20, h⟩ := h
          refine xs_callV (j := k_X5_cosineSum) (As := [.int v2]) (S := [.int v2, .ref 60]) dX5_add_126 (hQ20 hR) ⟨ml_X5_54, mk_X5_cosineSum.1, mk_X5_cosineSum.2.1, mk_X5_cosineSum.2.2⟩ mv_X5_cosineSum ⟨Nat.le_of_ble_eq_true rfl, Nat.le_of_ble_eq_true rfl⟩ rfl (Nat.le_of_ble_eq_true rfl) sc_59 rfl ⟨rfl, rfl⟩ (fun rr m21 hq23 => ?_)
          obtain ⟨hR, r22, rfl, hq23⟩ := hq23
          replace h := h r22 m21 hq23
          refine xs_gets (k := 1) (q := xs_tq 1) dX5_add_129 rfl fs_X5_51 ?_
          refine xs_iload_n dX5_add_132 rfl ?_
          obtain ⟨s24, h⟩ := h
          refine xs_tald (k := 1) (q := xs_tq 1) dX5_add_133 rfl s24 ?_
          refine xs_i2l dX5_add_134 ?_
          refine xs_lmul dX5_add_135 ?_
          refine xs_bipush (nI 12) dX5_add_136 (by decide) ?_
          refine xs_lshr dX5_add_138 ?_
          obtain ⟨s25, h⟩ := h
          refine xs_last dX5_add_139 sc_60 s25 ?_
          refine xs_nmM (fun m26 e_m26 => ?_)
          replace h := h m26 e_m26
          have hR : xs_RT b m26 := by rw [e_m26]; exact hR
          obtain ⟨x27, e_x27⟩ : ∃ z : Int32, z = v2 + nI 1 := ⟨_, rfl⟩
          replace h := h x27 e_x27
          refine xs_iinc x27 [some (.ref 59), none, some (.int x27), some (.int v2), none] dX5_add_140 (by decide) rfl (by rw [e_x27]; rfl) rfl ?_
          refine xs_goto 83 dX5_add_143 (by decide) ?_
          exact xs_loc [some (.ref 59), none, some (.int x27), none, none] ⟨rfl, ⟨rfl, trivial⟩⟩ (h hR)
set_option maxHeartbeats 4000000 in
set_option maxRecDepth 100000 in
theorem g_X5_add {b : Bool} {Q : xm_M → Prop} {μ : xm_M} {V : Nat} (hV : xs_vo V)
    (h : hd_X5_add_2 b Q V (nI 0) μ) :
    xCv b b k_X5_add μ [.ref 59, .ref V] Q := by
  intro hR
  refine xm_met [some (.ref 59), some (.ref V), none, none, none] 3 (by decide) (by simp [lg_sl, Value.category]) rfl ?_
  refine xs_iconst (nI 0) dX5_add_0 (by decide) ?_
  refine xs_istore_n [some (.ref 59), some (.ref V), some (.int (nI 0)), none, none] dX5_add_1 (by decide) rfl ?_
  exact xs_loc [some (.ref 59), some (.ref V), some (.int (nI 0)), none, none] ⟨rfl, ⟨rfl, ⟨rfl, trivial⟩⟩⟩ (h hR)
abbrev hd_X5_cosineSum_7 (b : Bool) (Q : Int64 → xm_M → Prop)  (v1 : Int32) (v2 : Int64) (v4 : Int32) (μ : xm_M) : Prop := xs_RT b μ → xR k_X5_cosineSum none true (fun r _ μ' => xs_RT b μ' ∧ ∃ x : Int64, r = some (.long x) ∧ Q x μ') 7 [some (.ref 59), some (.int v1), some (.long v2), none, some (.int v4), none] [] xs_sh (0, 0) μ
set_option maxHeartbeats 4000000 in
set_option maxRecDepth 100000 in
theorem l_X5_cosineSum_7 {b : Bool} {Q : Int64 → xm_M → Prop} {μ : xm_M}  (v1 : Int32) (v2 : Int64) (v4 : Int32) 
    (h : (((nI 16) ≤ v4 →
       Q (v2 >>> (((nI 12)).toInt64 &&& 63)) μ) ∧
      (¬ (nI 16) ≤ v4 →
       ∀ x2 : Int32, x2 = ((((nI 2) * v1) + (nI 17)) * (((nI 2) * v4) + (nI 1))) →
       vp_in v4 16 ∧
       vp_in (x2 &&& (nI 127)) 128 ∧
       ∀ x5 : Int64, x5 = (v2 + ((μ.2.1 61 (v4).toNatClampNeg) * ((μ.1 63 ((x2 &&& (nI 127))).toNatClampNeg)).toInt64)) →
       ∀ x6 : Int32, x6 = v4 + nI 1 →
       hd_X5_cosineSum_7 b Q  v1 x5 x6 μ))) :
    hd_X5_cosineSum_7 b Q  v1 v2 v4 μ := by
  intro hR
  refine xs_iload dX5_cosineSum_7 rfl ?_
  refine xs_aload_n dX5_cosineSum_9 rfl ?_
  refine xs_getR dX5_cosineSum_10 fl_X5_15 rfl sc_59 (rt_59_1 hR) ?_
  refine xs_alen 3 dX5_cosineSum_13 sc_61 (fun _ => rfl) ?_
  refine xs_icmp_ge 60 dX5_cosineSum_14 (by decide) (fun c1 => ?_) (fun c1 => ?_)
  · replace h := h.1 c1
    refine xs_lload_n dX5_cosineSum_60 rfl ?_
    refine xs_bipush (nI 12) dX5_cosineSum_61 (by decide) ?_
    refine xs_lshr dX5_cosineSum_63 ?_
    exact xs_ret (some (.long (v2 >>> (((nI 12)).toInt64 &&& 63)))) dX5_cosineSum_64 trivial rfl ⟨hR, _, rfl, h⟩
  · replace h := h.2 c1
    refine xs_iconst (nI 2) dX5_cosineSum_17 (by decide) ?_
    refine xs_iload_n dX5_cosineSum_18 rfl ?_
    refine xs_imul dX5_cosineSum_19 ?_
    refine xs_bipush (nI 17) dX5_cosineSum_20 (by decide) ?_
    refine xs_iadd dX5_cosineSum_22 ?_
    refine xs_iconst (nI 2) dX5_cosineSum_23 (by decide) ?_
    refine xs_iload dX5_cosineSum_24 rfl ?_
    refine xs_imul dX5_cosineSum_26 ?_
    refine xs_iconst (nI 1) dX5_cosineSum_27 (by decide) ?_
    refine xs_iadd dX5_cosineSum_28 ?_
    refine xs_imul dX5_cosineSum_29 ?_
    refine xs_nmI (fun x2 e_x2 => ?_)
    replace h := h x2 e_x2
    refine xs_istore [some (.ref 59), some (.int v1), some (.long v2), none, some (.int v4), some (.int x2)] dX5_cosineSum_30 (by decide) rfl ?_
    refine xs_lload_n dX5_cosineSum_32 rfl ?_
    refine xs_aload_n dX5_cosineSum_33 rfl ?_
    refine xs_getR dX5_cosineSum_34 fl_X5_15 rfl sc_59 (rt_59_1 hR) ?_
    refine xs_iload dX5_cosineSum_37 rfl ?_
    obtain ⟨s3, h⟩ := h
    refine xs_lald dX5_cosineSum_39 sc_61 s3 ?_
    refine xs_aload_n dX5_cosineSum_40 rfl ?_
    refine xs_getR dX5_cosineSum_41 fl_X5_23 rfl sc_59 (rt_59_3 hR) ?_
    refine xs_iload dX5_cosineSum_44 rfl ?_
    refine xs_bipush (nI 127) dX5_cosineSum_46 (by decide) ?_
    refine xs_iand dX5_cosineSum_48 ?_
    obtain ⟨s4, h⟩ := h
    refine xs_iald dX5_cosineSum_49 sc_63 s4 ?_
    refine xs_i2l dX5_cosineSum_50 ?_
    refine xs_lmul dX5_cosineSum_51 ?_
    refine xs_ladd dX5_cosineSum_52 ?_
    refine xs_nmL (fun x5 e_x5 => ?_)
    replace h := h x5 e_x5
    refine xs_lstore_n [some (.ref 59), some (.int v1), some (.long x5), none, some (.int v4), some (.int x2)] dX5_cosineSum_53 (by decide) rfl ?_
    obtain ⟨x6, e_x6⟩ : ∃ z : Int32, z = v4 + nI 1 := ⟨_, rfl⟩
    replace h := h x6 e_x6
    refine xs_iinc x6 [some (.ref 59), some (.int v1), some (.long x5), none, some (.int x6), some (.int x2)] dX5_cosineSum_54 (by decide) rfl (by rw [e_x6]; rfl) rfl ?_
    refine xs_goto 7 dX5_cosineSum_57 (by decide) ?_
    exact xs_loc [some (.ref 59), some (.int v1), some (.long x5), none, some (.int x6), none] ⟨rfl, ⟨rfl, ⟨rfl, ⟨rfl, trivial⟩⟩⟩⟩ (h hR)
set_option maxHeartbeats 4000000 in
set_option maxRecDepth 100000 in
theorem g_X5_cosineSum {b : Bool} {Q : Int64 → xm_M → Prop} {μ : xm_M} (v1 : Int32) 
    (h : hd_X5_cosineSum_7 b Q  v1 (2048 : Int64) (nI 0) μ) :
    xCl b b k_X5_cosineSum μ [.ref 59, .int v1] Q := by
  intro hR
  refine xm_met [some (.ref 59), some (.int v1), none, none, none, none] 4 (by decide) (by simp [lg_sl, Value.category]) rfl ?_
  refine xs_ldc2 dX5_cosineSum_0 cn_X5_58 ?_
  refine xs_lstore_n [some (.ref 59), some (.int v1), some (.long (2048 : Int64)), none, none, none] dX5_cosineSum_3 (by decide) rfl ?_
  refine xs_iconst (nI 0) dX5_cosineSum_4 (by decide) ?_
  refine xs_istore [some (.ref 59), some (.int v1), some (.long (2048 : Int64)), none, some (.int (nI 0)), none] dX5_cosineSum_5 (by decide) rfl ?_
  exact xs_loc [some (.ref 59), some (.int v1), some (.long (2048 : Int64)), none, some (.int (nI 0)), none] ⟨rfl, ⟨rfl, ⟨rfl, ⟨rfl, trivial⟩⟩⟩⟩ (h hR)
abbrev hd_X7_clearNumbers_2 (b : Bool) (Q : xm_M → Prop) (V : Nat) (v1 : Int32) (μ : xm_M) : Prop := xs_RT b μ → xR k_X7_clearNumbers none true (fun r _ μ' => xs_RT b μ' ∧ r = none ∧ Q μ') 2 [some (.ref V), some (.int v1)] [] xs_sh (0, 0) μ
set_option maxHeartbeats 4000000 in
set_option maxRecDepth 100000 in
theorem l_X7_clearNumbers_2 {b : Bool} {Q : xm_M → Prop} {μ : xm_M} {V : Nat} (v1 : Int32) (hV : xs_vo V)
    (h : (((nI 16) ≤ v1 →
       Q μ) ∧
      (¬ (nI 16) ≤ v1 →
       vp_in v1 16 ∧
       ∀ m3 : xm_M, m3 = xu_I μ (V + 2) (upd (μ.1 (V + 2)) (v1).toNatClampNeg (nI 0)) →
       ∀ x4 : Int32, x4 = v1 + nI 1 →
       hd_X7_clearNumbers_2 b Q V x4 m3))) :
    hd_X7_clearNumbers_2 b Q V v1 μ := by
  intro hR
  refine xs_iload_n dX7_clearNumbers_2 rfl ?_
  refine xs_aload_n dX7_clearNumbers_3 rfl ?_
  refine xs_getR dX7_clearNumbers_4 fl_X7_19 rfl (sv_0 hV) (rv_2 hV hR) ?_
  refine xs_alen 0 dX7_clearNumbers_7 (sv_2 hV) (fun _ => rfl) ?_
  refine xs_icmp_ge 24 dX7_clearNumbers_8 (by decide) (fun c1 => ?_) (fun c1 => ?_)
  · replace h := h.1 c1
    exact xs_ret none dX7_clearNumbers_24 trivial rfl ⟨hR, rfl, h⟩
  · replace h := h.2 c1
    refine xs_aload_n dX7_clearNumbers_11 rfl ?_
    refine xs_getR dX7_clearNumbers_12 fl_X7_19 rfl (sv_0 hV) (rv_2 hV hR) ?_
    refine xs_iload_n dX7_clearNumbers_15 rfl ?_
    refine xs_iconst (nI 0) dX7_clearNumbers_16 (by decide) ?_
    obtain ⟨s2, h⟩ := h
    refine xs_iast dX7_clearNumbers_17 (sv_2 hV) s2 ?_
    refine xs_nmM (fun m3 e_m3 => ?_)
    replace h := h m3 e_m3
    have hR : xs_RT b m3 := by rw [e_m3]; exact hR
    obtain ⟨x4, e_x4⟩ : ∃ z : Int32, z = v1 + nI 1 := ⟨_, rfl⟩
    replace h := h x4 e_x4
    refine xs_iinc x4 [some (.ref V), some (.int x4)] dX7_clearNumbers_18 (by decide) rfl (by rw [e_x4]; rfl) rfl ?_
    refine xs_goto 2 dX7_clearNumbers_21 (by decide) ?_
    exact xs_loc [some (.ref V), some (.int x4)] ⟨rfl, ⟨rfl, trivial⟩⟩ (h hR)
set_option maxHeartbeats 4000000 in
set_option maxRecDepth 100000 in
theorem g_X7_clearNumbers {b : Bool} {Q : xm_M → Prop} {μ : xm_M} {V : Nat} (hV : xs_vo V)
    (h : hd_X7_clearNumbers_2 b Q V (nI 0) μ) :
    xCv b b k_X7_clearNumbers μ [.ref V] Q := by
  intro hR
  refine xm_met [some (.ref V), none] 1 (by decide) (by simp [lg_sl, Value.category]) rfl ?_
  refine xs_iconst (nI 0) dX7_clearNumbers_0 (by decide) ?_
  refine xs_istore_n [some (.ref V), some (.int (nI 0))] dX7_clearNumbers_1 (by decide) rfl ?_
  exact xs_loc [some (.ref V), some (.int (nI 0))] ⟨rfl, ⟨rfl, trivial⟩⟩ (h hR)
set_option maxHeartbeats 4000000 in
set_option maxRecDepth 100000 in
theorem g_X7_sampleAt {b : Bool} {Q : Int32 → xm_M → Prop} {μ : xm_M} {V : Nat} (v1 : Int32) (hV : xs_vo V)
    (h : ((v1 < 0 →
       Q (nI 0) μ) ∧
      (¬ v1 < 0 →
       (((nI 928) ≤ v1 →
        Q (nI 0) μ) ∧
       (¬ (nI 928) ≤ v1 →
        vp_in v1 928 ∧
        Q (μ.1 (V + 4) (v1).toNatClampNeg) μ))))) :
    xCi b b k_X7_sampleAt μ [.ref V, .int v1] Q := by
  intro hR
  refine xm_met [some (.ref V), some (.int v1)] 0 (by decide) (by simp [lg_sl, Value.category]) rfl ?_
  refine xs_iload_n dX7_sampleAt_0 rfl ?_
  refine xs_if_lt 22 dX7_sampleAt_1 (by decide) (fun c1 => ?_) (fun c1 => ?_)
  · replace h := h.1 c1
    refine xs_iconst (nI 0) dX7_sampleAt_22 (by decide) ?_
    exact xs_ret (some (.int (nI 0))) dX7_sampleAt_23 rfl rfl ⟨hR, _, rfl, h⟩
  · replace h := h.2 c1
    refine xs_iload_n dX7_sampleAt_4 rfl ?_
    refine xs_aload_n dX7_sampleAt_5 rfl ?_
    refine xs_getR dX7_sampleAt_6 fl_X7_28 rfl (sv_0 hV) (rv_4 hV hR) ?_
    refine xs_alen 0 dX7_sampleAt_9 (sv_4 hV) (fun _ => rfl) ?_
    refine xs_icmp_ge 22 dX7_sampleAt_10 (by decide) (fun c2 => ?_) (fun c2 => ?_)
    · replace h := h.1 c2
      refine xs_iconst (nI 0) dX7_sampleAt_22 (by decide) ?_
      exact xs_ret (some (.int (nI 0))) dX7_sampleAt_23 rfl rfl ⟨hR, _, rfl, h⟩
    · replace h := h.2 c2
      refine xs_aload_n dX7_sampleAt_13 rfl ?_
      refine xs_getR dX7_sampleAt_14 fl_X7_28 rfl (sv_0 hV) (rv_4 hV hR) ?_
      refine xs_iload_n dX7_sampleAt_17 rfl ?_
      obtain ⟨s3, h⟩ := h
      refine xs_iald dX7_sampleAt_18 (sv_4 hV) s3 ?_
      refine xs_goto 23 dX7_sampleAt_19 (by decide) ?_
      exact xs_ret (some (.int (μ.1 (V + 4) (v1).toNatClampNeg))) dX7_sampleAt_23 rfl rfl ⟨hR, _, rfl, h⟩
abbrev hd_X7_putSamples_2 (b : Bool) (Q : xm_M → Prop) (V : Nat) (v1 : Int32) (v3 : Int32) (μ : xm_M) : Prop := xs_RT b μ → xR k_X7_putSamples none true (fun r _ μ' => xs_RT b μ' ∧ r = none ∧ Q μ') 2 [some (.ref V), some (.int v1), some (.ref 60), some (.int v3), none, none, none] [] xs_sh (0, 0) μ
set_option maxHeartbeats 4000000 in
set_option maxRecDepth 100000 in
theorem l_X7_putSamples_2 {b : Bool} {Q : xm_M → Prop} {μ : xm_M} {V : Nat} (v1 : Int32) (v3 : Int32) (hV : xs_vo V)
    (h : (((nI 16) ≤ v3 →
       Q μ) ∧
      (¬ (nI 16) ≤ v3 →
       (((nI 32) ≤ v3 →
        Q μ) ∧
       (¬ (nI 32) ≤ v3 →
        vp_in v3 16 ∧
        vp_in v3 32 ∧
        ∀ x5 : Int64, x5 = (((μ.2.1 (V + 3) (v3).toNatClampNeg) + (μ.2.1 60 (v3).toNatClampNeg)) >>> (((nI 8)).toInt64 &&& 63)) →
        ∀ x6 : Int32, x6 = (v1 + v3) →
        ((x6 < 0 →
         ∀ x8 : Int32, x8 = v3 + nI 1 →
         hd_X7_putSamples_2 b Q V v1 x8 μ) ∧
        (¬ x6 < 0 →
         (((nI 928) ≤ x6 →
          ∀ x10 : Int32, x10 = v3 + nI 1 →
          hd_X7_putSamples_2 b Q V v1 x10 μ) ∧
         (¬ (nI 928) ≤ x6 →
          vp_in x6 928 ∧
          ∀ m12 : xm_M, m12 = xu_I μ (V + 4) (upd (μ.1 (V + 4)) (x6).toNatClampNeg ((if (if x5 < (32767 : Int64) then x5 else (32767 : Int64)) < (-32768 : Int64) then (-32768 : Int64) else (if x5 < (32767 : Int64) then x5 else (32767 : Int64)))).toInt32) →
          ∀ x13 : Int32, x13 = v3 + nI 1 →
          hd_X7_putSamples_2 b Q V v1 x13 m12))))))))) :
    hd_X7_putSamples_2 b Q V v1 v3 μ := by
  intro hR
  refine xs_iload_n dX7_putSamples_2 rfl ?_
  refine xs_aload_n dX7_putSamples_3 rfl ?_
  refine xs_getR dX7_putSamples_4 fl_X7_22 rfl (sv_0 hV) (rv_3 hV hR) ?_
  refine xs_alen 3 dX7_putSamples_7 (sv_3 hV) (fun _ => rfl) ?_
  refine xs_icmp_ge 80 dX7_putSamples_8 (by decide) (fun c1 => ?_) (fun c1 => ?_)
  · replace h := h.1 c1
    exact xs_ret none dX7_putSamples_80 trivial rfl ⟨hR, rfl, h⟩
  · replace h := h.2 c1
    refine xs_iload_n dX7_putSamples_11 rfl ?_
    refine xs_aload_n dX7_putSamples_12 rfl ?_
    refine xs_alen 3 dX7_putSamples_13 sc_60 (fun _ => rfl) ?_
    refine xs_icmp_ge 80 dX7_putSamples_14 (by decide) (fun c2 => ?_) (fun c2 => ?_)
    · replace h := h.1 c2
      exact xs_ret none dX7_putSamples_80 trivial rfl ⟨hR, rfl, h⟩
    · replace h := h.2 c2
      refine xs_aload_n dX7_putSamples_17 rfl ?_
      refine xs_getR dX7_putSamples_18 fl_X7_22 rfl (sv_0 hV) (rv_3 hV hR) ?_
      refine xs_iload_n dX7_putSamples_21 rfl ?_
      obtain ⟨s3, h⟩ := h
      refine xs_lald dX7_putSamples_22 (sv_3 hV) s3 ?_
      refine xs_aload_n dX7_putSamples_23 rfl ?_
      refine xs_iload_n dX7_putSamples_24 rfl ?_
      obtain ⟨s4, h⟩ := h
      refine xs_lald dX7_putSamples_25 sc_60 s4 ?_
      refine xs_ladd dX7_putSamples_26 ?_
      refine xs_bipush (nI 8) dX7_putSamples_27 (by decide) ?_
      refine xs_lshr dX7_putSamples_29 ?_
      refine xs_nmL (fun x5 e_x5 => ?_)
      replace h := h x5 e_x5
      refine xs_lstore [some (.ref V), some (.int v1), some (.ref 60), some (.int v3), some (.long x5), none, none] dX7_putSamples_30 (by decide) rfl ?_
      refine xs_iload_n dX7_putSamples_32 rfl ?_
      refine xs_iload_n dX7_putSamples_33 rfl ?_
      refine xs_iadd dX7_putSamples_34 ?_
      refine xs_nmI (fun x6 e_x6 => ?_)
      replace h := h x6 e_x6
      refine xs_istore [some (.ref V), some (.int v1), some (.ref 60), some (.int v3), some (.long x5), none, some (.int x6)] dX7_putSamples_35 (by decide) rfl ?_
      refine xs_iload dX7_putSamples_37 rfl ?_
      refine xs_if_lt 74 dX7_putSamples_39 (by decide) (fun c7 => ?_) (fun c7 => ?_)
      · replace h := h.1 c7
        obtain ⟨x8, e_x8⟩ : ∃ z : Int32, z = v3 + nI 1 := ⟨_, rfl⟩
        replace h := h x8 e_x8
        refine xs_iinc x8 [some (.ref V), some (.int v1), some (.ref 60), some (.int x8), some (.long x5), none, some (.int x6)] dX7_putSamples_74 (by decide) rfl (by rw [e_x8]; rfl) rfl ?_
        refine xs_goto 2 dX7_putSamples_77 (by decide) ?_
        exact xs_loc [some (.ref V), some (.int v1), some (.ref 60), some (.int x8), none, none, none] ⟨rfl, ⟨rfl, ⟨rfl, ⟨rfl, trivial⟩⟩⟩⟩ (h hR)
      · replace h := h.2 c7
        refine xs_iload dX7_putSamples_42 rfl ?_
        refine xs_aload_n dX7_putSamples_44 rfl ?_
        refine xs_getR dX7_putSamples_45 fl_X7_28 rfl (sv_0 hV) (rv_4 hV hR) ?_
        refine xs_alen 0 dX7_putSamples_48 (sv_4 hV) (fun _ => rfl) ?_
        refine xs_icmp_ge 74 dX7_putSamples_49 (by decide) (fun c9 => ?_) (fun c9 => ?_)
        · replace h := h.1 c9
          obtain ⟨x10, e_x10⟩ : ∃ z : Int32, z = v3 + nI 1 := ⟨_, rfl⟩
          replace h := h x10 e_x10
          refine xs_iinc x10 [some (.ref V), some (.int v1), some (.ref 60), some (.int x10), some (.long x5), none, some (.int x6)] dX7_putSamples_74 (by decide) rfl (by rw [e_x10]; rfl) rfl ?_
          refine xs_goto 2 dX7_putSamples_77 (by decide) ?_
          exact xs_loc [some (.ref V), some (.int v1), some (.ref 60), some (.int x10), none, none, none] ⟨rfl, ⟨rfl, ⟨rfl, ⟨rfl, trivial⟩⟩⟩⟩ (h hR)
        · replace h := h.2 c9
          refine xs_aload_n dX7_putSamples_52 rfl ?_
          refine xs_getR dX7_putSamples_53 fl_X7_28 rfl (sv_0 hV) (rv_4 hV hR) ?_
          refine xs_iload dX7_putSamples_56 rfl ?_
          refine xs_ldc2 dX7_putSamples_58 cn_X7_31 ?_
          refine xs_ldc2 dX7_putSamples_61 cn_X7_33 ?_
          refine xs_lload dX7_putSamples_64 rfl ?_
          refine xs_mminL dX7_putSamples_66 ⟨ml_X7_35, ms_J9_min_f86c9, mk_J9_min_f86c9.2.1, mk_J9_min_f86c9.1⟩ (Nat.le_of_ble_eq_true rfl) (Nat.le_of_ble_eq_true rfl) ?_
          refine xs_mmaxL dX7_putSamples_69 ⟨ml_X7_41, ms_J9_max_f86c9, mk_J9_max_f86c9.2.1, mk_J9_max_f86c9.1⟩ (Nat.le_of_ble_eq_true rfl) (Nat.le_of_ble_eq_true rfl) ?_
          refine xs_l2i dX7_putSamples_72 ?_
          obtain ⟨s11, h⟩ := h
          refine xs_iast dX7_putSamples_73 (sv_4 hV) s11 ?_
          refine xs_nmM (fun m12 e_m12 => ?_)
          replace h := h m12 e_m12
          have hR : xs_RT b m12 := by rw [e_m12]; exact hR
          obtain ⟨x13, e_x13⟩ : ∃ z : Int32, z = v3 + nI 1 := ⟨_, rfl⟩
          replace h := h x13 e_x13
          refine xs_iinc x13 [some (.ref V), some (.int v1), some (.ref 60), some (.int x13), some (.long x5), none, some (.int x6)] dX7_putSamples_74 (by decide) rfl (by rw [e_x13]; rfl) rfl ?_
          refine xs_goto 2 dX7_putSamples_77 (by decide) ?_
          exact xs_loc [some (.ref V), some (.int v1), some (.ref 60), some (.int x13), none, none, none] ⟨rfl, ⟨rfl, ⟨rfl, ⟨rfl, trivial⟩⟩⟩⟩ (h hR)
set_option maxHeartbeats 4000000 in
set_option maxRecDepth 100000 in
theorem g_X7_putSamples {b : Bool} {Q : xm_M → Prop} {μ : xm_M} {V : Nat} (v1 : Int32) (hV : xs_vo V)
    (h : hd_X7_putSamples_2 b Q V v1 (nI 0) μ) :
    xCv b b k_X7_putSamples μ [.ref V, .int v1, .ref 60] Q := by
  intro hR
  refine xm_met [some (.ref V), some (.int v1), some (.ref 60), none, none, none, none] 4 (by decide) (by simp [lg_sl, Value.category]) rfl ?_
  refine xs_iconst (nI 0) dX7_putSamples_0 (by decide) ?_
  refine xs_istore_n [some (.ref V), some (.int v1), some (.ref 60), some (.int (nI 0)), none, none, none] dX7_putSamples_1 (by decide) rfl ?_
  exact xs_loc [some (.ref V), some (.int v1), some (.ref 60), some (.int (nI 0)), none, none, none] ⟨rfl, ⟨rfl, ⟨rfl, ⟨rfl, trivial⟩⟩⟩⟩ (h hR)
abbrev hd_X7_keepSecondHalf_2 (b : Bool) (Q : xm_M → Prop) (V : Nat) (v2 : Int32) (μ : xm_M) : Prop := xs_RT b μ → xR k_X7_keepSecondHalf none true (fun r _ μ' => xs_RT b μ' ∧ r = none ∧ Q μ') 2 [some (.ref V), some (.ref 60), some (.int v2)] [] xs_sh (0, 0) μ
set_option maxHeartbeats 4000000 in
set_option maxRecDepth 100000 in
theorem l_X7_keepSecondHalf_2 {b : Bool} {Q : xm_M → Prop} {μ : xm_M} {V : Nat} (v2 : Int32) (hV : xs_vo V)
    (h : (((nI 16) ≤ v2 →
       Q μ) ∧
      (¬ (nI 16) ≤ v2 →
       (((nI 32) ≤ ((nI 16) + v2) →
        Q μ) ∧
       (¬ (nI 32) ≤ ((nI 16) + v2) →
        vp_in ((nI 16) + v2) 32 ∧
        vp_in v2 16 ∧
        ∀ m5 : xm_M, m5 = xu_L μ (V + 3) (vp_updL (μ.2.1 (V + 3)) (v2).toNatClampNeg (μ.2.1 60 (((nI 16) + v2)).toNatClampNeg)) →
        ∀ x6 : Int32, x6 = v2 + nI 1 →
        hd_X7_keepSecondHalf_2 b Q V x6 m5))))) :
    hd_X7_keepSecondHalf_2 b Q V v2 μ := by
  intro hR
  refine xs_iload_n dX7_keepSecondHalf_2 rfl ?_
  refine xs_aload_n dX7_keepSecondHalf_3 rfl ?_
  refine xs_getR dX7_keepSecondHalf_4 fl_X7_22 rfl (sv_0 hV) (rv_3 hV hR) ?_
  refine xs_alen 3 dX7_keepSecondHalf_7 (sv_3 hV) (fun _ => rfl) ?_
  refine xs_icmp_ge 38 dX7_keepSecondHalf_8 (by decide) (fun c1 => ?_) (fun c1 => ?_)
  · replace h := h.1 c1
    exact xs_ret none dX7_keepSecondHalf_38 trivial rfl ⟨hR, rfl, h⟩
  · replace h := h.2 c1
    refine xs_bipush (nI 16) dX7_keepSecondHalf_11 (by decide) ?_
    refine xs_iload_n dX7_keepSecondHalf_13 rfl ?_
    refine xs_iadd dX7_keepSecondHalf_14 ?_
    refine xs_aload_n dX7_keepSecondHalf_15 rfl ?_
    refine xs_alen 3 dX7_keepSecondHalf_16 sc_60 (fun _ => rfl) ?_
    refine xs_icmp_ge 38 dX7_keepSecondHalf_17 (by decide) (fun c2 => ?_) (fun c2 => ?_)
    · replace h := h.1 c2
      exact xs_ret none dX7_keepSecondHalf_38 trivial rfl ⟨hR, rfl, h⟩
    · replace h := h.2 c2
      refine xs_aload_n dX7_keepSecondHalf_20 rfl ?_
      refine xs_getR dX7_keepSecondHalf_21 fl_X7_22 rfl (sv_0 hV) (rv_3 hV hR) ?_
      refine xs_iload_n dX7_keepSecondHalf_24 rfl ?_
      refine xs_aload_n dX7_keepSecondHalf_25 rfl ?_
      refine xs_bipush (nI 16) dX7_keepSecondHalf_26 (by decide) ?_
      refine xs_iload_n dX7_keepSecondHalf_28 rfl ?_
      refine xs_iadd dX7_keepSecondHalf_29 ?_
      obtain ⟨s3, h⟩ := h
      refine xs_lald dX7_keepSecondHalf_30 sc_60 s3 ?_
      obtain ⟨s4, h⟩ := h
      refine xs_last dX7_keepSecondHalf_31 (sv_3 hV) s4 ?_
      refine xs_nmM (fun m5 e_m5 => ?_)
      replace h := h m5 e_m5
      have hR : xs_RT b m5 := by rw [e_m5]; exact hR
      obtain ⟨x6, e_x6⟩ : ∃ z : Int32, z = v2 + nI 1 := ⟨_, rfl⟩
      replace h := h x6 e_x6
      refine xs_iinc x6 [some (.ref V), some (.ref 60), some (.int x6)] dX7_keepSecondHalf_32 (by decide) rfl (by rw [e_x6]; rfl) rfl ?_
      refine xs_goto 2 dX7_keepSecondHalf_35 (by decide) ?_
      exact xs_loc [some (.ref V), some (.ref 60), some (.int x6)] ⟨rfl, ⟨rfl, ⟨rfl, trivial⟩⟩⟩ (h hR)
set_option maxHeartbeats 4000000 in
set_option maxRecDepth 100000 in
theorem g_X7_keepSecondHalf {b : Bool} {Q : xm_M → Prop} {μ : xm_M} {V : Nat} (hV : xs_vo V)
    (h : hd_X7_keepSecondHalf_2 b Q V (nI 0) μ) :
    xCv b b k_X7_keepSecondHalf μ [.ref V, .ref 60] Q := by
  intro hR
  refine xm_met [some (.ref V), some (.ref 60), none] 1 (by decide) (by simp [lg_sl, Value.category]) rfl ?_
  refine xs_iconst (nI 0) dX7_keepSecondHalf_0 (by decide) ?_
  refine xs_istore_n [some (.ref V), some (.ref 60), some (.int (nI 0))] dX7_keepSecondHalf_1 (by decide) rfl ?_
  exact xs_loc [some (.ref V), some (.ref 60), some (.int (nI 0))] ⟨rfl, ⟨rfl, ⟨rfl, trivial⟩⟩⟩ (h hR)
