/-! walks of i.X9, printed by wip/gen/mkwalk.py -/
abbrev hd_X9_crc_6 (b : Bool) (Q : Int32 → xm_M → Prop)  (v1 : Int32) (v2 : Int32) (v3 : Int32) (v4 : Int32) (v5 : Int32) (μ : xm_M) : Prop := xs_RT b μ → xR k_X9_crc none true (fun r _ μ' => xs_RT b μ' ∧ ∃ x : Int32, r = some (.int x) ∧ Q x μ') 6 [some (.ref 76), some (.int v1), some (.int v2), some (.int v3), some (.int v4), some (.int v5), none] [] xs_sh (0, 0) μ
abbrev hd_X9_crc_51 (b : Bool) (Q : Int32 → xm_M → Prop)  (v1 : Int32) (v2 : Int32) (v3 : Int32) (v4 : Int32) (v5 : Int32) (v6 : Int32) (μ : xm_M) : Prop := xs_RT b μ → xR k_X9_crc none true (fun r _ μ' => xs_RT b μ' ∧ ∃ x : Int32, r = some (.int x) ∧ Q x μ') 51 [some (.ref 76), some (.int v1), some (.int v2), some (.int v3), some (.int v4), some (.int v5), some (.int v6)] [] xs_sh (0, 0) μ
set_option maxHeartbeats 4000000 in
set_option maxRecDepth 100000 in
theorem l_X9_crc_6 {b : Bool} {Q : Int32 → xm_M → Prop} {μ : xm_M}  (v1 : Int32) (v2 : Int32) (v3 : Int32) (v4 : Int32) (v5 : Int32) 
    (h : ((v2 ≤ v5 →
       Q v4 μ) ∧
      (¬ v2 ≤ v5 →
       ((v5 < v3 →
        vp_in (v1 + v5) 6300 ∧
        ∀ x4 : Int32, x4 = (v4 ^^^ (((μ.1 76 ((v1 + v5)).toNatClampNeg) &&& (nI 255)) <<< ((nI 24) &&& 31))) →
        hd_X9_crc_51 b Q  v1 v2 v3 x4 v5 (nI 0) μ) ∧
       (¬ v5 < v3 →
        (((v3 + (nI 4)) ≤ v5 →
         vp_in (v1 + v5) 6300 ∧
         ∀ x7 : Int32, x7 = (v4 ^^^ (((μ.1 76 ((v1 + v5)).toNatClampNeg) &&& (nI 255)) <<< ((nI 24) &&& 31))) →
         hd_X9_crc_51 b Q  v1 v2 v3 x7 v5 (nI 0) μ) ∧
        (¬ (v3 + (nI 4)) ≤ v5 →
         ∀ x8 : Int32, x8 = (v4 ^^^ ((nI 0) <<< ((nI 24) &&& 31))) →
         hd_X9_crc_51 b Q  v1 v2 v3 x8 v5 (nI 0) μ))))))) :
    hd_X9_crc_6 b Q  v1 v2 v3 v4 v5 μ := by
  intro hR
  refine xs_iload dX9_crc_6 rfl ?_
  refine xs_iload_n dX9_crc_8 rfl ?_
  refine xs_icmp_ge 91 dX9_crc_9 (by decide) (fun c1 => ?_) (fun c1 => ?_)
  · replace h := h.1 c1
    refine xs_iload dX9_crc_91 rfl ?_
    exact xs_ret (some (.int v4)) dX9_crc_93 rfl rfl ⟨hR, _, rfl, h⟩
  · replace h := h.2 c1
    refine xs_iload dX9_crc_12 rfl ?_
    refine xs_iload dX9_crc_14 rfl ?_
    refine xs_iload_n dX9_crc_16 rfl ?_
    refine xs_icmp_lt 32 dX9_crc_17 (by decide) (fun c2 => ?_) (fun c2 => ?_)
    · replace h := h.1 c2
      refine xs_aload_n dX9_crc_32 rfl ?_
      refine xs_iload_n dX9_crc_33 rfl ?_
      refine xs_iload dX9_crc_34 rfl ?_
      refine xs_iadd dX9_crc_36 ?_
      obtain ⟨s3, h⟩ := h
      refine xs_bald dX9_crc_37 sc_76 s3 ?_
      refine xs_sipush (nI 255) dX9_crc_38 (by decide) ?_
      refine xs_iand dX9_crc_41 ?_
      refine xs_bipush (nI 24) dX9_crc_42 (by decide) ?_
      refine xs_ishl dX9_crc_44 ?_
      refine xs_ixor dX9_crc_45 ?_
      refine xs_nmI (fun x4 e_x4 => ?_)
      replace h := h x4 e_x4
      refine xs_istore [some (.ref 76), some (.int v1), some (.int v2), some (.int v3), some (.int x4), some (.int v5), none] dX9_crc_46 (by decide) rfl ?_
      refine xs_iconst (nI 0) dX9_crc_48 (by decide) ?_
      refine xs_istore [some (.ref 76), some (.int v1), some (.int v2), some (.int v3), some (.int x4), some (.int v5), some (.int (nI 0))] dX9_crc_49 (by decide) rfl ?_
      exact xs_loc [some (.ref 76), some (.int v1), some (.int v2), some (.int v3), some (.int x4), some (.int v5), some (.int (nI 0))] ⟨rfl, ⟨rfl, ⟨rfl, ⟨rfl, ⟨rfl, ⟨rfl, ⟨rfl, trivial⟩⟩⟩⟩⟩⟩⟩ (h hR)
    · replace h := h.2 c2
      refine xs_iload dX9_crc_20 rfl ?_
      refine xs_iload_n dX9_crc_22 rfl ?_
      refine xs_iconst (nI 4) dX9_crc_23 (by decide) ?_
      refine xs_iadd dX9_crc_24 ?_
      refine xs_icmp_ge 32 dX9_crc_25 (by decide) (fun c5 => ?_) (fun c5 => ?_)
      · replace h := h.1 c5
        refine xs_aload_n dX9_crc_32 rfl ?_
        refine xs_iload_n dX9_crc_33 rfl ?_
        refine xs_iload dX9_crc_34 rfl ?_
        refine xs_iadd dX9_crc_36 ?_
        obtain ⟨s6, h⟩ := h
        refine xs_bald dX9_crc_37 sc_76 s6 ?_
        refine xs_sipush (nI 255) dX9_crc_38 (by decide) ?_
        refine xs_iand dX9_crc_41 ?_
        refine xs_bipush (nI 24) dX9_crc_42 (by decide) ?_
        refine xs_ishl dX9_crc_44 ?_
        refine xs_ixor dX9_crc_45 ?_
        refine xs_nmI (fun x7 e_x7 => ?_)
        replace h := h x7 e_x7
        refine xs_istore [some (.ref 76), some (.int v1), some (.int v2), some (.int v3), some (.int x7), some (.int v5), none] dX9_crc_46 (by decide) rfl ?_
        refine xs_iconst (nI 0) dX9_crc_48 (by decide) ?_
        refine xs_istore [some (.ref 76), some (.int v1), some (.int v2), some (.int v3), some (.int x7), some (.int v5), some (.int (nI 0))] dX9_crc_49 (by decide) rfl ?_
        exact xs_loc [some (.ref 76), some (.int v1), some (.int v2), some (.int v3), some (.int x7), some (.int v5), some (.int (nI 0))] ⟨rfl, ⟨rfl, ⟨rfl, ⟨rfl, ⟨rfl, ⟨rfl, ⟨rfl, trivial⟩⟩⟩⟩⟩⟩⟩ (h hR)
      · replace h := h.2 c5
        refine xs_iconst (nI 0) dX9_crc_28 (by decide) ?_
        refine xs_goto 42 dX9_crc_29 (by decide) ?_
        refine xs_bipush (nI 24) dX9_crc_42 (by decide) ?_
        refine xs_ishl dX9_crc_44 ?_
        refine xs_ixor dX9_crc_45 ?_
        refine xs_nmI (fun x8 e_x8 => ?_)
        replace h := h x8 e_x8
        refine xs_istore [some (.ref 76), some (.int v1), some (.int v2), some (.int v3), some (.int x8), some (.int v5), none] dX9_crc_46 (by decide) rfl ?_
        refine xs_iconst (nI 0) dX9_crc_48 (by decide) ?_
        refine xs_istore [some (.ref 76), some (.int v1), some (.int v2), some (.int v3), some (.int x8), some (.int v5), some (.int (nI 0))] dX9_crc_49 (by decide) rfl ?_
        exact xs_loc [some (.ref 76), some (.int v1), some (.int v2), some (.int v3), some (.int x8), some (.int v5), some (.int (nI 0))] ⟨rfl, ⟨rfl, ⟨rfl, ⟨rfl, ⟨rfl, ⟨rfl, ⟨rfl, trivial⟩⟩⟩⟩⟩⟩⟩ (h hR)
set_option maxHeartbeats 4000000 in
set_option maxRecDepth 100000 in
theorem l_X9_crc_51 {b : Bool} {Q : Int32 → xm_M → Prop} {μ : xm_M}  (v1 : Int32) (v2 : Int32) (v3 : Int32) (v4 : Int32) (v5 : Int32) (v6 : Int32) 
    (h : (((nI 8) ≤ v6 →
       ∀ x2 : Int32, x2 = v5 + nI 1 →
       hd_X9_crc_6 b Q  v1 v2 v3 v4 x2 μ) ∧
      (¬ (nI 8) ≤ v6 →
       ((0 ≤ v4 →
        ∀ x4 : Int32, x4 = (v4 <<< ((nI 1) &&& 31)) →
        ∀ x5 : Int32, x5 = v6 + nI 1 →
        hd_X9_crc_51 b Q  v1 v2 v3 x4 v5 x5 μ) ∧
       (¬ 0 ≤ v4 →
        ∀ x6 : Int32, x6 = ((v4 <<< ((nI 1) &&& 31)) ^^^ (nI 79764919)) →
        ∀ x7 : Int32, x7 = v6 + nI 1 →
        hd_X9_crc_51 b Q  v1 v2 v3 x6 v5 x7 μ))))) :
    hd_X9_crc_51 b Q  v1 v2 v3 v4 v5 v6 μ := by
  intro hR
  refine xs_iload dX9_crc_51 rfl ?_
  refine xs_bipush (nI 8) dX9_crc_53 (by decide) ?_
  refine xs_icmp_ge 85 dX9_crc_55 (by decide) (fun c1 => ?_) (fun c1 => ?_)
  · replace h := h.1 c1
    obtain ⟨x2, e_x2⟩ : ∃ z : Int32, z = v5 + nI 1 := ⟨_, rfl⟩
    replace h := h x2 e_x2
    refine xs_iinc x2 [some (.ref 76), some (.int v1), some (.int v2), some (.int v3), some (.int v4), some (.int x2), some (.int v6)] dX9_crc_85 (by decide) rfl (by rw [e_x2]; rfl) rfl ?_
    refine xs_goto 6 dX9_crc_88 (by decide) ?_
    exact xs_loc [some (.ref 76), some (.int v1), some (.int v2), some (.int v3), some (.int v4), some (.int x2), none] ⟨rfl, ⟨rfl, ⟨rfl, ⟨rfl, ⟨rfl, ⟨rfl, trivial⟩⟩⟩⟩⟩⟩ (h hR)
  · replace h := h.2 c1
    refine xs_iload dX9_crc_58 rfl ?_
    refine xs_if_ge 73 dX9_crc_60 (by decide) (fun c3 => ?_) (fun c3 => ?_)
    · replace h := h.1 c3
      refine xs_iload dX9_crc_73 rfl ?_
      refine xs_iconst (nI 1) dX9_crc_75 (by decide) ?_
      refine xs_ishl dX9_crc_76 ?_
      refine xs_nmI (fun x4 e_x4 => ?_)
      replace h := h x4 e_x4
      refine xs_istore [some (.ref 76), some (.int v1), some (.int v2), some (.int v3), some (.int x4), some (.int v5), some (.int v6)] dX9_crc_77 (by decide) rfl ?_
      obtain ⟨x5, e_x5⟩ : ∃ z : Int32, z = v6 + nI 1 := ⟨_, rfl⟩
      replace h := h x5 e_x5
      refine xs_iinc x5 [some (.ref 76), some (.int v1), some (.int v2), some (.int v3), some (.int x4), some (.int v5), some (.int x5)] dX9_crc_79 (by decide) rfl (by rw [e_x5]; rfl) rfl ?_
      refine xs_goto 51 dX9_crc_82 (by decide) ?_
      exact xs_loc [some (.ref 76), some (.int v1), some (.int v2), some (.int v3), some (.int x4), some (.int v5), some (.int x5)] ⟨rfl, ⟨rfl, ⟨rfl, ⟨rfl, ⟨rfl, ⟨rfl, ⟨rfl, trivial⟩⟩⟩⟩⟩⟩⟩ (h hR)
    · replace h := h.2 c3
      refine xs_iload dX9_crc_63 rfl ?_
      refine xs_iconst (nI 1) dX9_crc_65 (by decide) ?_
      refine xs_ishl dX9_crc_66 ?_
      refine xs_ldc dX9_crc_67 cn_X9_115 ?_
      refine xs_ixor dX9_crc_69 ?_
      refine xs_goto 77 dX9_crc_70 (by decide) ?_
      refine xs_nmI (fun x6 e_x6 => ?_)
      replace h := h x6 e_x6
      refine xs_istore [some (.ref 76), some (.int v1), some (.int v2), some (.int v3), some (.int x6), some (.int v5), some (.int v6)] dX9_crc_77 (by decide) rfl ?_
      obtain ⟨x7, e_x7⟩ : ∃ z : Int32, z = v6 + nI 1 := ⟨_, rfl⟩
      replace h := h x7 e_x7
      refine xs_iinc x7 [some (.ref 76), some (.int v1), some (.int v2), some (.int v3), some (.int x6), some (.int v5), some (.int x7)] dX9_crc_79 (by decide) rfl (by rw [e_x7]; rfl) rfl ?_
      refine xs_goto 51 dX9_crc_82 (by decide) ?_
      exact xs_loc [some (.ref 76), some (.int v1), some (.int v2), some (.int v3), some (.int x6), some (.int v5), some (.int x7)] ⟨rfl, ⟨rfl, ⟨rfl, ⟨rfl, ⟨rfl, ⟨rfl, ⟨rfl, trivial⟩⟩⟩⟩⟩⟩⟩ (h hR)
set_option maxHeartbeats 4000000 in
set_option maxRecDepth 100000 in
theorem g_X9_crc {b : Bool} {Q : Int32 → xm_M → Prop} {μ : xm_M} (v1 : Int32) (v2 : Int32) (v3 : Int32) 
    (h : hd_X9_crc_6 b Q  v1 v2 v3 (nI 0) (nI 0) μ) :
    xCi b b k_X9_crc μ [.ref 76, .int v1, .int v2, .int v3] Q := by
  intro hR
  refine xm_met [some (.ref 76), some (.int v1), some (.int v2), some (.int v3), none, none, none] 3 (by decide) (by simp [lg_sl, Value.category]) rfl ?_
  refine xs_iconst (nI 0) dX9_crc_0 (by decide) ?_
  refine xs_istore [some (.ref 76), some (.int v1), some (.int v2), some (.int v3), some (.int (nI 0)), none, none] dX9_crc_1 (by decide) rfl ?_
  refine xs_iconst (nI 0) dX9_crc_3 (by decide) ?_
  refine xs_istore [some (.ref 76), some (.int v1), some (.int v2), some (.int v3), some (.int (nI 0)), some (.int (nI 0)), none] dX9_crc_4 (by decide) rfl ?_
  exact xs_loc [some (.ref 76), some (.int v1), some (.int v2), some (.int v3), some (.int (nI 0)), some (.int (nI 0)), none] ⟨rfl, ⟨rfl, ⟨rfl, ⟨rfl, ⟨rfl, ⟨rfl, trivial⟩⟩⟩⟩⟩⟩ (h hR)
abbrev hd_X9_low_7 (b : Bool) (Q : Int64 → xm_M → Prop)  (v1 : Int32) (v3 : Int64) (v5 : Int32) (μ : xm_M) : Prop := xs_RT b μ → xR k_X9_low none true (fun r _ μ' => xs_RT b μ' ∧ ∃ x : Int64, r = some (.long x) ∧ Q x μ') 7 [some (.ref 76), some (.int v1), none, some (.long v3), none, some (.int v5)] [] xs_sh (0, 0) μ
set_option maxHeartbeats 4000000 in
set_option maxRecDepth 100000 in
theorem l_X9_low_7 {b : Bool} {Q : Int64 → xm_M → Prop} {μ : xm_M}  (v1 : Int32) (v3 : Int64) (v5 : Int32) 
    (h : ((v5 < 0 →
       Q v3 μ) ∧
      (¬ v5 < 0 →
       vp_in (v1 + v5) 6300 ∧
       ∀ x3 : Int64, x3 = ((v3 <<< (((nI 8)).toInt64 &&& 63)) ||| (((μ.1 76 ((v1 + v5)).toNatClampNeg) &&& (nI 255))).toInt64) →
       ∀ x4 : Int32, x4 = v5 + (-1) →
       hd_X9_low_7 b Q  v1 x3 x4 μ))) :
    hd_X9_low_7 b Q  v1 v3 v5 μ := by
  intro hR
  refine xs_iload dX9_low_7 rfl ?_
  refine xs_if_lt 35 dX9_low_9 (by decide) (fun c1 => ?_) (fun c1 => ?_)
  · replace h := h.1 c1
    refine xs_lload_n dX9_low_35 rfl ?_
    exact xs_ret (some (.long v3)) dX9_low_36 trivial rfl ⟨hR, _, rfl, h⟩
  · replace h := h.2 c1
    refine xs_lload_n dX9_low_12 rfl ?_
    refine xs_bipush (nI 8) dX9_low_13 (by decide) ?_
    refine xs_lshl dX9_low_15 ?_
    refine xs_aload_n dX9_low_16 rfl ?_
    refine xs_iload_n dX9_low_17 rfl ?_
    refine xs_iload dX9_low_18 rfl ?_
    refine xs_iadd dX9_low_20 ?_
    obtain ⟨s2, h⟩ := h
    refine xs_bald dX9_low_21 sc_76 s2 ?_
    refine xs_sipush (nI 255) dX9_low_22 (by decide) ?_
    refine xs_iand dX9_low_25 ?_
    refine xs_i2l dX9_low_26 ?_
    refine xs_lor dX9_low_27 ?_
    refine xs_nmL (fun x3 e_x3 => ?_)
    replace h := h x3 e_x3
    refine xs_lstore_n [some (.ref 76), some (.int v1), none, some (.long x3), none, some (.int v5)] dX9_low_28 (by decide) rfl ?_
    obtain ⟨x4, e_x4⟩ : ∃ z : Int32, z = v5 + (-1) := ⟨_, rfl⟩
    replace h := h x4 e_x4
    refine xs_iinc x4 [some (.ref 76), some (.int v1), none, some (.long x3), none, some (.int x4)] dX9_low_29 (by decide) rfl (by rw [e_x4]; rfl) rfl ?_
    refine xs_goto 7 dX9_low_32 (by decide) ?_
    exact xs_loc [some (.ref 76), some (.int v1), none, some (.long x3), none, some (.int x4)] ⟨rfl, ⟨rfl, ⟨rfl, ⟨rfl, trivial⟩⟩⟩⟩ (h hR)
set_option maxHeartbeats 4000000 in
set_option maxRecDepth 100000 in
theorem g_X9_low {b : Bool} {Q : Int64 → xm_M → Prop} {μ : xm_M} (v1 : Int32) (v2 : Int32) 
    (h : ∀ x1 : Int32, x1 = (v2 - (nI 1)) →
      hd_X9_low_7 b Q  v1 (0 : Int64) x1 μ) :
    xCl b b k_X9_low μ [.ref 76, .int v1, .int v2] Q := by
  intro hR
  refine xm_met [some (.ref 76), some (.int v1), some (.int v2), none, none, none] 3 (by decide) (by simp [lg_sl, Value.category]) rfl ?_
  refine xs_lconst (0 : Int64) dX9_low_0 (by decide) ?_
  refine xs_lstore_n [some (.ref 76), some (.int v1), some (.int v2), some (.long (0 : Int64)), none, none] dX9_low_1 (by decide) rfl ?_
  refine xs_iload_n dX9_low_2 rfl ?_
  refine xs_iconst (nI 1) dX9_low_3 (by decide) ?_
  refine xs_isub dX9_low_4 ?_
  refine xs_nmI (fun x1 e_x1 => ?_)
  replace h := h x1 e_x1
  refine xs_istore [some (.ref 76), some (.int v1), some (.int v2), some (.long (0 : Int64)), none, some (.int x1)] dX9_low_5 (by decide) rfl ?_
  exact xs_loc [some (.ref 76), some (.int v1), none, some (.long (0 : Int64)), none, some (.int x1)] ⟨rfl, ⟨rfl, ⟨rfl, ⟨rfl, trivial⟩⟩⟩⟩ (h hR)
abbrev hd_X9_putLow_3 (b : Bool) (Q : xm_M → Prop)  (v1 : Int32) (v2 : Int64) (v4 : Int32) (v5 : Int32) (μ : xm_M) : Prop := xs_RT b μ → xR k_X9_putLow none true (fun r _ μ' => xs_RT b μ' ∧ r = none ∧ Q μ') 3 [some (.ref 76), some (.int v1), some (.long v2), none, some (.int v4), some (.int v5)] [] xs_sh (0, 0) μ
set_option maxHeartbeats 4000000 in
set_option maxRecDepth 100000 in
theorem l_X9_putLow_3 {b : Bool} {Q : xm_M → Prop} {μ : xm_M}  (v1 : Int32) (v2 : Int64) (v4 : Int32) (v5 : Int32) 
    (h : ((v4 ≤ v5 →
       Q μ) ∧
      (¬ v4 ≤ v5 →
       vp_in (v1 + v5) 6300 ∧
       ∀ m3 : xm_M, m3 = xu_I μ 76 (upd (μ.1 76) ((v1 + v5)).toNatClampNeg (vp_nar .byte (((v2 >>> ((((nI 8) * v5)).toInt64 &&& 63))).toInt32).toInt8.toInt32)) →
       ∀ x4 : Int32, x4 = v5 + nI 1 →
       hd_X9_putLow_3 b Q  v1 v2 v4 x4 m3))) :
    hd_X9_putLow_3 b Q  v1 v2 v4 v5 μ := by
  intro hR
  refine xs_iload dX9_putLow_3 rfl ?_
  refine xs_iload dX9_putLow_5 rfl ?_
  refine xs_icmp_ge 31 dX9_putLow_7 (by decide) (fun c1 => ?_) (fun c1 => ?_)
  · replace h := h.1 c1
    exact xs_ret none dX9_putLow_31 trivial rfl ⟨hR, rfl, h⟩
  · replace h := h.2 c1
    refine xs_aload_n dX9_putLow_10 rfl ?_
    refine xs_iload_n dX9_putLow_11 rfl ?_
    refine xs_iload dX9_putLow_12 rfl ?_
    refine xs_iadd dX9_putLow_14 ?_
    refine xs_lload_n dX9_putLow_15 rfl ?_
    refine xs_bipush (nI 8) dX9_putLow_16 (by decide) ?_
    refine xs_iload dX9_putLow_18 rfl ?_
    refine xs_imul dX9_putLow_20 ?_
    refine xs_lshr dX9_putLow_21 ?_
    refine xs_l2i dX9_putLow_22 ?_
    refine xs_i2b dX9_putLow_23 ?_
    obtain ⟨s2, h⟩ := h
    refine xs_bast dX9_putLow_24 sc_76 s2 ?_
    refine xs_nmM (fun m3 e_m3 => ?_)
    replace h := h m3 e_m3
    have hR : xs_RT b m3 := by rw [e_m3]; exact hR
    obtain ⟨x4, e_x4⟩ : ∃ z : Int32, z = v5 + nI 1 := ⟨_, rfl⟩
    replace h := h x4 e_x4
    refine xs_iinc x4 [some (.ref 76), some (.int v1), some (.long v2), none, some (.int v4), some (.int x4)] dX9_putLow_25 (by decide) rfl (by rw [e_x4]; rfl) rfl ?_
    refine xs_goto 3 dX9_putLow_28 (by decide) ?_
    exact xs_loc [some (.ref 76), some (.int v1), some (.long v2), none, some (.int v4), some (.int x4)] ⟨rfl, ⟨rfl, ⟨rfl, ⟨rfl, ⟨rfl, trivial⟩⟩⟩⟩⟩ (h hR)
set_option maxHeartbeats 4000000 in
set_option maxRecDepth 100000 in
theorem g_X9_putLow {b : Bool} {Q : xm_M → Prop} {μ : xm_M} (v1 : Int32) (v2 : Int64) (v4 : Int32) 
    (h : hd_X9_putLow_3 b Q  v1 v2 v4 (nI 0) μ) :
    xCv b b k_X9_putLow μ [.ref 76, .int v1, .long v2, .int v4] Q := by
  intro hR
  refine xm_met [some (.ref 76), some (.int v1), some (.long v2), none, some (.int v4), none] 1 (by decide) (by simp [lg_sl, Value.category]) rfl ?_
  refine xs_iconst (nI 0) dX9_putLow_0 (by decide) ?_
  refine xs_istore [some (.ref 76), some (.int v1), some (.long v2), none, some (.int v4), some (.int (nI 0))] dX9_putLow_1 (by decide) rfl ?_
  exact xs_loc [some (.ref 76), some (.int v1), some (.long v2), none, some (.int v4), some (.int (nI 0))] ⟨rfl, ⟨rfl, ⟨rfl, ⟨rfl, ⟨rfl, trivial⟩⟩⟩⟩⟩ (h hR)
abbrev hd_X9_feed_60 (b : Bool) (Q : Int32 → xm_M → Prop)  (v6 : Int32) (μ : xm_M) : Prop := xs_RT b μ → xR k_X9_feed none true (fun r _ μ' => xs_RT b μ' ∧ ∃ x : Int32, r = some (.int x) ∧ Q x μ') 60 [some (.ref 75), none, none, none, none, none, some (.int v6)] [] xs_sh (0, 0) μ
set_option maxHeartbeats 4000000 in
set_option maxRecDepth 100000 in
theorem l_X9_feed_60 {b : Bool} {Q : Int32 → xm_M → Prop} {μ : xm_M}  (v6 : Int32) 
    (h : (((nI 20) ≤ v6 →
       ∀ m2 : xm_M, m2 = xu_I μ 75 (upd (μ.1 75) 2 ((μ.1 75 2) + (nI 20))) →
       Q (m2.1 75 2) m2) ∧
      (¬ (nI 20) ≤ v6 →
       vp_in (v6 / (nI 4)) 5 ∧
       vp_in ((μ.1 75 2) + v6) 6300 ∧
       ∀ m5 : xm_M, m5 = xu_I μ 76 (upd (μ.1 76) (((μ.1 75 2) + v6)).toNatClampNeg (vp_nar .byte (((μ.1 78 ((v6 / (nI 4))).toNatClampNeg) >>> (((nI 24) - ((nI 8) * (v6 - v6 / (nI 4) * (nI 4)))) &&& 31))).toInt8.toInt32)) →
       ∀ x6 : Int32, x6 = v6 + nI 1 →
       hd_X9_feed_60 b Q  x6 m5))) :
    hd_X9_feed_60 b Q  v6 μ := by
  intro hR
  refine xs_iload dX9_feed_60 rfl ?_
  refine xs_bipush (nI 20) dX9_feed_62 (by decide) ?_
  refine xs_icmp_ge 106 dX9_feed_64 (by decide) (fun c1 => ?_) (fun c1 => ?_)
  · replace h := h.1 c1
    refine xs_aload_n dX9_feed_106 rfl ?_
    refine xs_dup dX9_feed_107 rfl ?_
    refine xs_getI dX9_feed_108 fl_X9_116.g rfl sc_75 ?_
    refine xs_bipush (nI 20) dX9_feed_111 (by decide) ?_
    refine xs_iadd dX9_feed_113 ?_
    refine xs_putI dX9_feed_114 fl_X9_116 rfl rfl rfl sc_75 ?_
    refine xs_nmM (fun m2 e_m2 => ?_)
    replace h := h m2 e_m2
    have hR : xs_RT b m2 := by rw [e_m2]; exact hR
    refine xs_aload_n dX9_feed_117 rfl ?_
    refine xs_getI dX9_feed_118 fl_X9_116.g rfl sc_75 ?_
    exact xs_ret (some (.int (m2.1 75 2))) dX9_feed_121 rfl rfl ⟨hR, _, rfl, h⟩
  · replace h := h.2 c1
    refine xs_aload_n dX9_feed_67 rfl ?_
    refine xs_getR dX9_feed_68 fl_X9_13 rfl sc_75 (rt_75_1 hR) ?_
    refine xs_aload_n dX9_feed_71 rfl ?_
    refine xs_getI dX9_feed_72 fl_X9_116.g rfl sc_75 ?_
    refine xs_iload dX9_feed_75 rfl ?_
    refine xs_iadd dX9_feed_77 ?_
    refine xs_aload_n dX9_feed_78 rfl ?_
    refine xs_getR dX9_feed_79 fl_X9_21 rfl sc_75 (rt_75_4 hR) ?_
    refine xs_iload dX9_feed_82 rfl ?_
    refine xs_iconst (nI 4) dX9_feed_84 (by decide) ?_
    refine xs_idiv dX9_feed_85 (by decide) ?_
    obtain ⟨s3, h⟩ := h
    refine xs_iald dX9_feed_86 sc_78 s3 ?_
    refine xs_bipush (nI 24) dX9_feed_87 (by decide) ?_
    refine xs_bipush (nI 8) dX9_feed_89 (by decide) ?_
    refine xs_iload dX9_feed_91 rfl ?_
    refine xs_iconst (nI 4) dX9_feed_93 (by decide) ?_
    refine xs_irem dX9_feed_94 (by decide) ?_
    refine xs_imul dX9_feed_95 ?_
    refine xs_isub dX9_feed_96 ?_
    refine xs_ishr dX9_feed_97 ?_
    refine xs_i2b dX9_feed_98 ?_
    obtain ⟨s4, h⟩ := h
    refine xs_bast dX9_feed_99 sc_76 s4 ?_
    refine xs_nmM (fun m5 e_m5 => ?_)
    replace h := h m5 e_m5
    have hR : xs_RT b m5 := by rw [e_m5]; exact hR
    obtain ⟨x6, e_x6⟩ : ∃ z : Int32, z = v6 + nI 1 := ⟨_, rfl⟩
    replace h := h x6 e_x6
    refine xs_iinc x6 [some (.ref 75), none, none, none, none, none, some (.int x6)] dX9_feed_100 (by decide) rfl (by rw [e_x6]; rfl) rfl ?_
    refine xs_goto 60 dX9_feed_103 (by decide) ?_
    exact xs_loc [some (.ref 75), none, none, none, none, none, some (.int x6)] ⟨rfl, ⟨rfl, trivial⟩⟩ (h hR)
set_option maxHeartbeats 4000000 in
set_option maxRecDepth 100000 in
theorem g_X9_feed {b : Bool} {Q : Int32 → xm_M → Prop} {μ : xm_M} (v1 : Int32) (v2 : Int32) (v3 : Int32) (v4 : Int32) (v5 : Int32) 
    (h : ∀ m1 : xm_M, m1 = xu_I μ 75 (upd (μ.1 75) 0 (nI 0)) →
      ((((m1.1 75 2) + (nI 20)) ≤ (nI 6000) →
       vp_in (nI 0) 5 ∧
       ∀ m4 : xm_M, m4 = xu_I m1 78 (upd (m1.1 78) ((nI 0)).toNatClampNeg v1) →
       vp_in (nI 1) 5 ∧
       ∀ m6 : xm_M, m6 = xu_I m4 78 (upd (m4.1 78) ((nI 1)).toNatClampNeg v2) →
       vp_in (nI 2) 5 ∧
       ∀ m8 : xm_M, m8 = xu_I m6 78 (upd (m6.1 78) ((nI 2)).toNatClampNeg v3) →
       vp_in (nI 3) 5 ∧
       ∀ m10 : xm_M, m10 = xu_I m8 78 (upd (m8.1 78) ((nI 3)).toNatClampNeg v4) →
       vp_in (nI 4) 5 ∧
       ∀ m12 : xm_M, m12 = xu_I m10 78 (upd (m10.1 78) ((nI 4)).toNatClampNeg v5) →
       hd_X9_feed_60 b Q  (nI 0) m12) ∧
      (¬ ((m1.1 75 2) + (nI 20)) ≤ (nI 6000) →
       Q (-1 : Int32) m1))) :
    xCi b b k_X9_feed μ [.ref 75, .int v1, .int v2, .int v3, .int v4, .int v5] Q := by
  intro hR
  refine xm_met [some (.ref 75), some (.int v1), some (.int v2), some (.int v3), some (.int v4), some (.int v5), none] 1 (by decide) (by simp [lg_sl, Value.category]) rfl ?_
  refine xs_aload_n dX9_feed_0 rfl ?_
  refine xs_iconst (nI 0) dX9_feed_1 (by decide) ?_
  refine xs_putI dX9_feed_2 fl_X9_1 rfl rfl rfl sc_75 ?_
  refine xs_nmM (fun m1 e_m1 => ?_)
  replace h := h m1 e_m1
  have hR : xs_RT b m1 := by rw [e_m1]; exact hR
  refine xs_aload_n dX9_feed_5 rfl ?_
  refine xs_getI dX9_feed_6 fl_X9_116.g rfl sc_75 ?_
  refine xs_bipush (nI 20) dX9_feed_9 (by decide) ?_
  refine xs_iadd dX9_feed_11 ?_
  refine xs_sipush (nI 6000) dX9_feed_12 (by decide) ?_
  refine xs_icmp_le 20 dX9_feed_15 (by decide) (fun c2 => ?_) (fun c2 => ?_)
  · replace h := h.1 c2
    refine xs_aload_n dX9_feed_20 rfl ?_
    refine xs_getR dX9_feed_21 fl_X9_21 rfl sc_75 (rt_75_4 hR) ?_
    refine xs_iconst (nI 0) dX9_feed_24 (by decide) ?_
    refine xs_iload_n dX9_feed_25 rfl ?_
    obtain ⟨s3, h⟩ := h
    refine xs_iast dX9_feed_26 sc_78 s3 ?_
    refine xs_nmM (fun m4 e_m4 => ?_)
    replace h := h m4 e_m4
    have hR : xs_RT b m4 := by rw [e_m4]; exact hR
    refine xs_aload_n dX9_feed_27 rfl ?_
    refine xs_getR dX9_feed_28 fl_X9_21 rfl sc_75 (rt_75_4 hR) ?_
    refine xs_iconst (nI 1) dX9_feed_31 (by decide) ?_
    refine xs_iload_n dX9_feed_32 rfl ?_
    obtain ⟨s5, h⟩ := h
    refine xs_iast dX9_feed_33 sc_78 s5 ?_
    refine xs_nmM (fun m6 e_m6 => ?_)
    replace h := h m6 e_m6
    have hR : xs_RT b m6 := by rw [e_m6]; exact hR
    refine xs_aload_n dX9_feed_34 rfl ?_
    refine xs_getR dX9_feed_35 fl_X9_21 rfl sc_75 (rt_75_4 hR) ?_
    refine xs_iconst (nI 2) dX9_feed_38 (by decide) ?_
    refine xs_iload_n dX9_feed_39 rfl ?_
    obtain ⟨s7, h⟩ := h
    refine xs_iast dX9_feed_40 sc_78 s7 ?_
    refine xs_nmM (fun m8 e_m8 => ?_)
    replace h := h m8 e_m8
    have hR : xs_RT b m8 := by rw [e_m8]; exact hR
    refine xs_aload_n dX9_feed_41 rfl ?_
    refine xs_getR dX9_feed_42 fl_X9_21 rfl sc_75 (rt_75_4 hR) ?_
    refine xs_iconst (nI 3) dX9_feed_45 (by decide) ?_
    refine xs_iload dX9_feed_46 rfl ?_
    obtain ⟨s9, h⟩ := h
    refine xs_iast dX9_feed_48 sc_78 s9 ?_
    refine xs_nmM (fun m10 e_m10 => ?_)
    replace h := h m10 e_m10
    have hR : xs_RT b m10 := by rw [e_m10]; exact hR
    refine xs_aload_n dX9_feed_49 rfl ?_
    refine xs_getR dX9_feed_50 fl_X9_21 rfl sc_75 (rt_75_4 hR) ?_
    refine xs_iconst (nI 4) dX9_feed_53 (by decide) ?_
    refine xs_iload dX9_feed_54 rfl ?_
    obtain ⟨s11, h⟩ := h
    refine xs_iast dX9_feed_56 sc_78 s11 ?_
    refine xs_nmM (fun m12 e_m12 => ?_)
    replace h := h m12 e_m12
    have hR : xs_RT b m12 := by rw [e_m12]; exact hR
    refine xs_iconst (nI 0) dX9_feed_57 (by decide) ?_
    refine xs_istore [some (.ref 75), some (.int v1), some (.int v2), some (.int v3), some (.int v4), some (.int v5), some (.int (nI 0))] dX9_feed_58 (by decide) rfl ?_
    exact xs_loc [some (.ref 75), none, none, none, none, none, some (.int (nI 0))] ⟨rfl, ⟨rfl, trivial⟩⟩ (h hR)
  · replace h := h.2 c2
    refine xs_iconst (-1 : Int32) dX9_feed_18 (by decide) ?_
    exact xs_ret (some (.int (-1 : Int32))) dX9_feed_19 rfl rfl ⟨hR, _, rfl, h⟩
set_option maxHeartbeats 4000000 in
set_option maxRecDepth 100000 in
theorem g_X9_end {b : Bool} {Q : Int32 → xm_M → Prop} {μ : xm_M} (v1 : Int32) 
    (h : ∀ m1 : xm_M, m1 = xu_I μ 75 (upd (μ.1 75) 0 (nI 0)) →
      ((v1 < 0 →
       Q (nI 0) m1) ∧
      (¬ v1 < 0 →
       ((v1 ≤ (m1.1 75 2) →
        ∀ m4 : xm_M, m4 = xu_I m1 75 (upd (m1.1 75) 2 v1) →
        Q (nI 1) m4) ∧
       (¬ v1 ≤ (m1.1 75 2) →
        Q (nI 0) m1))))) :
    xCi b b k_X9_end μ [.ref 75, .int v1] Q := by
  intro hR
  refine xm_met [some (.ref 75), some (.int v1)] 0 (by decide) (by simp [lg_sl, Value.category]) rfl ?_
  refine xs_aload_n dX9_end_0 rfl ?_
  refine xs_iconst (nI 0) dX9_end_1 (by decide) ?_
  refine xs_putI dX9_end_2 fl_X9_1 rfl rfl rfl sc_75 ?_
  refine xs_nmM (fun m1 e_m1 => ?_)
  replace h := h m1 e_m1
  have hR : xs_RT b m1 := by rw [e_m1]; exact hR
  refine xs_iload_n dX9_end_5 rfl ?_
  refine xs_if_lt 17 dX9_end_6 (by decide) (fun c2 => ?_) (fun c2 => ?_)
  · replace h := h.1 c2
    refine xs_iconst (nI 0) dX9_end_17 (by decide) ?_
    exact xs_ret (some (.int (nI 0))) dX9_end_18 rfl rfl ⟨hR, _, rfl, h⟩
  · replace h := h.2 c2
    refine xs_iload_n dX9_end_9 rfl ?_
    refine xs_aload_n dX9_end_10 rfl ?_
    refine xs_getI dX9_end_11 fl_X9_116.g rfl sc_75 ?_
    refine xs_icmp_le 19 dX9_end_14 (by decide) (fun c3 => ?_) (fun c3 => ?_)
    · replace h := h.1 c3
      refine xs_aload_n dX9_end_19 rfl ?_
      refine xs_iload_n dX9_end_20 rfl ?_
      refine xs_putI dX9_end_21 fl_X9_116 rfl rfl rfl sc_75 ?_
      refine xs_nmM (fun m4 e_m4 => ?_)
      replace h := h m4 e_m4
      have hR : xs_RT b m4 := by rw [e_m4]; exact hR
      refine xs_iconst (nI 1) dX9_end_24 (by decide) ?_
      exact xs_ret (some (.int (nI 1))) dX9_end_25 rfl rfl ⟨hR, _, rfl, h⟩
    · replace h := h.2 c3
      refine xs_iconst (nI 0) dX9_end_17 (by decide) ?_
      exact xs_ret (some (.int (nI 0))) dX9_end_18 rfl rfl ⟨hR, _, rfl, h⟩
set_option maxHeartbeats 4000000 in
set_option maxRecDepth 100000 in
theorem g_X9_harm {b : Bool} {Q : Int32 → xm_M → Prop} {μ : xm_M} (v1 : Int32) (v2 : Int32) 
    (h : ∀ m1 : xm_M, m1 = xu_I μ 75 (upd (μ.1 75) 0 (nI 0)) →
      ((v1 < 0 →
       Q (nI 0) m1) ∧
      (¬ v1 < 0 →
       ((v1 < (m1.1 75 2) →
        vp_in v1 6300 ∧
        vp_in v1 6300 ∧
        ∀ m6 : xm_M, m6 = xu_I m1 76 (upd (m1.1 76) (v1).toNatClampNeg (vp_nar .byte (((m1.1 76 (v1).toNatClampNeg) ^^^ (v2).toInt8.toInt32)).toInt8.toInt32)) →
        Q (nI 1) m6) ∧
       (¬ v1 < (m1.1 75 2) →
        Q (nI 0) m1))))) :
    xCi b b k_X9_harm μ [.ref 75, .int v1, .int v2] Q := by
  intro hR
  refine xm_met [some (.ref 75), some (.int v1), some (.int v2)] 0 (by decide) (by simp [lg_sl, Value.category]) rfl ?_
  refine xs_aload_n dX9_harm_0 rfl ?_
  refine xs_iconst (nI 0) dX9_harm_1 (by decide) ?_
  refine xs_putI dX9_harm_2 fl_X9_1 rfl rfl rfl sc_75 ?_
  refine xs_nmM (fun m1 e_m1 => ?_)
  replace h := h m1 e_m1
  have hR : xs_RT b m1 := by rw [e_m1]; exact hR
  refine xs_iload_n dX9_harm_5 rfl ?_
  refine xs_if_lt 17 dX9_harm_6 (by decide) (fun c2 => ?_) (fun c2 => ?_)
  · replace h := h.1 c2
    refine xs_iconst (nI 0) dX9_harm_17 (by decide) ?_
    exact xs_ret (some (.int (nI 0))) dX9_harm_18 rfl rfl ⟨hR, _, rfl, h⟩
  · replace h := h.2 c2
    refine xs_iload_n dX9_harm_9 rfl ?_
    refine xs_aload_n dX9_harm_10 rfl ?_
    refine xs_getI dX9_harm_11 fl_X9_116.g rfl sc_75 ?_
    refine xs_icmp_lt 19 dX9_harm_14 (by decide) (fun c3 => ?_) (fun c3 => ?_)
    · replace h := h.1 c3
      refine xs_aload_n dX9_harm_19 rfl ?_
      refine xs_getR dX9_harm_20 fl_X9_13 rfl sc_75 (rt_75_1 hR) ?_
      refine xs_iload_n dX9_harm_23 rfl ?_
      refine xs_dup2 dX9_harm_24 rfl rfl ?_
      obtain ⟨s4, h⟩ := h
      refine xs_bald dX9_harm_25 sc_76 s4 ?_
      refine xs_iload_n dX9_harm_26 rfl ?_
      refine xs_i2b dX9_harm_27 ?_
      refine xs_ixor dX9_harm_28 ?_
      refine xs_i2b dX9_harm_29 ?_
      obtain ⟨s5, h⟩ := h
      refine xs_bast dX9_harm_30 sc_76 s5 ?_
      refine xs_nmM (fun m6 e_m6 => ?_)
      replace h := h m6 e_m6
      have hR : xs_RT b m6 := by rw [e_m6]; exact hR
      refine xs_iconst (nI 1) dX9_harm_31 (by decide) ?_
      exact xs_ret (some (.int (nI 1))) dX9_harm_32 rfl rfl ⟨hR, _, rfl, h⟩
    · replace h := h.2 c3
      refine xs_iconst (nI 0) dX9_harm_17 (by decide) ?_
      exact xs_ret (some (.int (nI 0))) dX9_harm_18 rfl rfl ⟨hR, _, rfl, h⟩
abbrev hd_X9_page_94 (b : Bool) (Q : Int32 → xm_M → Prop)  (v1 : Int32) (v2 : Int32) (v3 : Int64) (v5 : Int32) (v6 : Int32) (v8 : Int32) (v9 : Int32) (v10 : Int32) (μ : xm_M) : Prop := xs_RT b μ → xR k_X9_page none true (fun r _ μ' => xs_RT b μ' ∧ ∃ x : Int32, r = some (.int x) ∧ Q x μ') 94 [some (.ref 75), some (.int v1), some (.int v2), some (.long v3), none, some (.int v5), some (.int v6), none, some (.int v8), some (.int v9), some (.int v10)] [] xs_sh (0, 0) μ
abbrev hd_X9_page_242 (b : Bool) (Q : Int32 → xm_M → Prop)  (v1 : Int32) (v8 : Int32) (v9 : Int32) (v10 : Int32) (μ : xm_M) : Prop := xs_RT b μ → xR k_X9_page none true (fun r _ μ' => xs_RT b μ' ∧ ∃ x : Int32, r = some (.int x) ∧ Q x μ') 242 [some (.ref 75), some (.int v1), none, none, none, none, none, none, some (.int v8), some (.int v9), some (.int v10)] [] xs_sh (0, 0) μ
set_option maxHeartbeats 4000000 in
set_option maxRecDepth 100000 in
theorem l_X9_page_94 {b : Bool} {Q : Int32 → xm_M → Prop} {μ : xm_M}  (v1 : Int32) (v2 : Int32) (v3 : Int64) (v5 : Int32) (v6 : Int32) (v8 : Int32) (v9 : Int32) (v10 : Int32) 
    (h : ((v10 < v1 →
       vp_in v1 6300 ∧
       ∀ m3 : xm_M, m3 = xu_I μ 76 (upd (μ.1 76) (v1).toNatClampNeg (vp_nar .byte (nI 79))) →
       vp_in (v1 + (nI 1)) 6300 ∧
       ∀ m5 : xm_M, m5 = xu_I m3 76 (upd (m3.1 76) ((v1 + (nI 1))).toNatClampNeg (vp_nar .byte (nI 103))) →
       vp_in (v1 + (nI 2)) 6300 ∧
       ∀ m7 : xm_M, m7 = xu_I m5 76 (upd (m5.1 76) ((v1 + (nI 2))).toNatClampNeg (vp_nar .byte (nI 103))) →
       vp_in (v1 + (nI 3)) 6300 ∧
       ∀ m9 : xm_M, m9 = xu_I m7 76 (upd (m7.1 76) ((v1 + (nI 3))).toNatClampNeg (vp_nar .byte (nI 83))) →
       vp_in (v1 + (nI 4)) 6300 ∧
       ∀ m11 : xm_M, m11 = xu_I m9 76 (upd (m9.1 76) ((v1 + (nI 4))).toNatClampNeg (vp_nar .byte (nI 0))) →
       vp_in (v1 + (nI 5)) 6300 ∧
       ∀ m13 : xm_M, m13 = xu_I m11 76 (upd (m11.1 76) ((v1 + (nI 5))).toNatClampNeg (vp_nar .byte (v2).toInt8.toInt32)) →
       ∃ Q14 : xm_M → Prop, xCv b b k_X9_putLow m13 [.ref 76, .int (v1 + (nI 6)), .long v3, .int (nI 8)] Q14 ∧
       ∀ m15 : xm_M, Q14 m15 →
       ∃ Q18 : xm_M → Prop, xCv b b k_X9_putLow m15 [.ref 76, .int (v1 + (nI 14)), .long (v5).toInt64, .int (nI 4)] Q18 ∧
       ∀ m19 : xm_M, Q18 m19 →
       ∃ Q22 : xm_M → Prop, xCv b b k_X9_putLow m19 [.ref 76, .int (v1 + (nI 18)), .long (v6).toInt64, .int (nI 4)] Q22 ∧
       ∀ m23 : xm_M, Q22 m23 →
       vp_in (v1 + (nI 26)) 6300 ∧
       ∀ m27 : xm_M, m27 = xu_I m23 76 (upd (m23.1 76) ((v1 + (nI 26))).toNatClampNeg (vp_nar .byte (v9).toInt8.toInt32)) →
       hd_X9_page_242 b Q  v1 v8 v9 (nI 0) m27) ∧
      (¬ v10 < v1 →
       vp_in v10 6300 ∧
       vp_in ((v10 + (nI 27)) + v9) 6300 ∧
       ∀ m30 : xm_M, m30 = xu_I μ 76 (upd (μ.1 76) (((v10 + (nI 27)) + v9)).toNatClampNeg (vp_nar .byte (μ.1 76 (v10).toNatClampNeg))) →
       ∀ x31 : Int32, x31 = v10 + (-1) →
       hd_X9_page_94 b Q  v1 v2 v3 v5 v6 v8 v9 x31 m30))) :
    hd_X9_page_94 b Q  v1 v2 v3 v5 v6 v8 v9 v10 μ := by
  intro hR
  refine xs_iload dX9_page_94 rfl ?_
  refine xs_iload_n dX9_page_96 rfl ?_
  refine xs_icmp_lt 126 dX9_page_97 (by decide) (fun c1 => ?_) (fun c1 => ?_)
  · replace h := h.1 c1
    refine xs_aload_n dX9_page_126 rfl ?_
    refine xs_getR dX9_page_127 fl_X9_13 rfl sc_75 (rt_75_1 hR) ?_
    refine xs_iload_n dX9_page_130 rfl ?_
    refine xs_bipush (nI 79) dX9_page_131 (by decide) ?_
    obtain ⟨s2, h⟩ := h
    refine xs_bast dX9_page_133 sc_76 s2 ?_
    refine xs_nmM (fun m3 e_m3 => ?_)
    replace h := h m3 e_m3
    have hR : xs_RT b m3 := by rw [e_m3]; exact hR
    refine xs_aload_n dX9_page_134 rfl ?_
    refine xs_getR dX9_page_135 fl_X9_13 rfl sc_75 (rt_75_1 hR) ?_
    refine xs_iload_n dX9_page_138 rfl ?_
    refine xs_iconst (nI 1) dX9_page_139 (by decide) ?_
    refine xs_iadd dX9_page_140 ?_
    refine xs_bipush (nI 103) dX9_page_141 (by decide) ?_
    obtain ⟨s4, h⟩ := h
    refine xs_bast dX9_page_143 sc_76 s4 ?_
    refine xs_nmM (fun m5 e_m5 => ?_)
    replace h := h m5 e_m5
    have hR : xs_RT b m5 := by rw [e_m5]; exact hR
    refine xs_aload_n dX9_page_144 rfl ?_
    refine xs_getR dX9_page_145 fl_X9_13 rfl sc_75 (rt_75_1 hR) ?_
    refine xs_iload_n dX9_page_148 rfl ?_
    refine xs_iconst (nI 2) dX9_page_149 (by decide) ?_
    refine xs_iadd dX9_page_150 ?_
    refine xs_bipush (nI 103) dX9_page_151 (by decide) ?_
    obtain ⟨s6, h⟩ := h
    refine xs_bast dX9_page_153 sc_76 s6 ?_
    refine xs_nmM (fun m7 e_m7 => ?_)
    replace h := h m7 e_m7
    have hR : xs_RT b m7 := by rw [e_m7]; exact hR
    refine xs_aload_n dX9_page_154 rfl ?_
    refine xs_getR dX9_page_155 fl_X9_13 rfl sc_75 (rt_75_1 hR) ?_
    refine xs_iload_n dX9_page_158 rfl ?_
    refine xs_iconst (nI 3) dX9_page_159 (by decide) ?_
    refine xs_iadd dX9_page_160 ?_
    refine xs_bipush (nI 83) dX9_page_161 (by decide) ?_
    obtain ⟨s8, h⟩ := h
    refine xs_bast dX9_page_163 sc_76 s8 ?_
    refine xs_nmM (fun m9 e_m9 => ?_)
    replace h := h m9 e_m9
    have hR : xs_RT b m9 := by rw [e_m9]; exact hR
    refine xs_aload_n dX9_page_164 rfl ?_
    refine xs_getR dX9_page_165 fl_X9_13 rfl sc_75 (rt_75_1 hR) ?_
    refine xs_iload_n dX9_page_168 rfl ?_
    refine xs_iconst (nI 4) dX9_page_169 (by decide) ?_
    refine xs_iadd dX9_page_170 ?_
    refine xs_iconst (nI 0) dX9_page_171 (by decide) ?_
    obtain ⟨s10, h⟩ := h
    refine xs_bast dX9_page_172 sc_76 s10 ?_
    refine xs_nmM (fun m11 e_m11 => ?_)
    replace h := h m11 e_m11
    have hR : xs_RT b m11 := by rw [e_m11]; exact hR
    refine xs_aload_n dX9_page_173 rfl ?_
    refine xs_getR dX9_page_174 fl_X9_13 rfl sc_75 (rt_75_1 hR) ?_
    refine xs_iload_n dX9_page_177 rfl ?_
    refine xs_iconst (nI 5) dX9_page_178 (by decide) ?_
    refine xs_iadd dX9_page_179 ?_
    refine xs_iload_n dX9_page_180 rfl ?_
    refine xs_i2b dX9_page_181 ?_
    obtain ⟨s12, h⟩ := h
    refine xs_bast dX9_page_182 sc_76 s12 ?_
    refine xs_nmM (fun m13 e_m13 => ?_)
    replace h := h m13 e_m13
    have hR : xs_RT b m13 := by rw [e_m13]; exact hR
    refine xs_aload_n dX9_page_183 rfl ?_
    refine xs_getR dX9_page_184 fl_X9_13 rfl sc_75 (rt_75_1 hR) ?_
    refine xs_iload_n dX9_page_187 rfl ?_
    refine xs_bipush (nI 6) dX9_page_188 (by decide) ?_
    refine xs_iadd dX9_page_190 ?_
    refine xs_lload_n dX9_page_191 rfl ?_
    refine xs_bipush (nI 8) dX9_page_192 (by decide) ?_
    obtain ⟨Q14, hQ14, h⟩ := h
    refine xs_callS (j := k_X9_putLow) (As := [.ref 76, .int (v1 + (nI 6)), .long v3, .int (nI 8)]) (S := []) dX9_page_194 (hQ14 hR) ⟨ml_X9_119, mk_X9_putLow.1, mk_X9_putLow.2.1, mk_X9_putLow.2.2⟩ ms_X9_putLow ⟨Nat.le_of_ble_eq_true rfl, Nat.le_of_ble_eq_true rfl⟩ rfl (Nat.le_of_ble_eq_true rfl) ⟨rfl, rfl⟩ (fun rr m15 hq17 => ?_)
    obtain ⟨hR, rfl, hq17⟩ := hq17
    replace h := h m15 hq17
    refine xs_aload_n dX9_page_197 rfl ?_
    refine xs_getR dX9_page_198 fl_X9_13 rfl sc_75 (rt_75_1 hR) ?_
    refine xs_iload_n dX9_page_201 rfl ?_
    refine xs_bipush (nI 14) dX9_page_202 (by decide) ?_
    refine xs_iadd dX9_page_204 ?_
    refine xs_iload dX9_page_205 rfl ?_
    refine xs_i2l dX9_page_207 ?_
    refine xs_iconst (nI 4) dX9_page_208 (by decide) ?_
    obtain ⟨Q18, hQ18, h⟩ := h
    refine xs_callS (j := k_X9_putLow) (As := [.ref 76, .int (v1 + (nI 14)), .long (v5).toInt64, .int (nI 4)]) (S := []) dX9_page_209 (hQ18 hR) ⟨ml_X9_119, mk_X9_putLow.1, mk_X9_putLow.2.1, mk_X9_putLow.2.2⟩ ms_X9_putLow ⟨Nat.le_of_ble_eq_true rfl, Nat.le_of_ble_eq_true rfl⟩ rfl (Nat.le_of_ble_eq_true rfl) ⟨rfl, rfl⟩ (fun rr m19 hq21 => ?_)
    obtain ⟨hR, rfl, hq21⟩ := hq21
    replace h := h m19 hq21
    refine xs_aload_n dX9_page_212 rfl ?_
    refine xs_getR dX9_page_213 fl_X9_13 rfl sc_75 (rt_75_1 hR) ?_
    refine xs_iload_n dX9_page_216 rfl ?_
    refine xs_bipush (nI 18) dX9_page_217 (by decide) ?_
    refine xs_iadd dX9_page_219 ?_
    refine xs_iload dX9_page_220 rfl ?_
    refine xs_i2l dX9_page_222 ?_
    refine xs_iconst (nI 4) dX9_page_223 (by decide) ?_
    obtain ⟨Q22, hQ22, h⟩ := h
    refine xs_callS (j := k_X9_putLow) (As := [.ref 76, .int (v1 + (nI 18)), .long (v6).toInt64, .int (nI 4)]) (S := []) dX9_page_224 (hQ22 hR) ⟨ml_X9_119, mk_X9_putLow.1, mk_X9_putLow.2.1, mk_X9_putLow.2.2⟩ ms_X9_putLow ⟨Nat.le_of_ble_eq_true rfl, Nat.le_of_ble_eq_true rfl⟩ rfl (Nat.le_of_ble_eq_true rfl) ⟨rfl, rfl⟩ (fun rr m23 hq25 => ?_)
    obtain ⟨hR, rfl, hq25⟩ := hq25
    replace h := h m23 hq25
    refine xs_aload_n dX9_page_227 rfl ?_
    refine xs_getR dX9_page_228 fl_X9_13 rfl sc_75 (rt_75_1 hR) ?_
    refine xs_iload_n dX9_page_231 rfl ?_
    refine xs_bipush (nI 26) dX9_page_232 (by decide) ?_
    refine xs_iadd dX9_page_234 ?_
    refine xs_iload dX9_page_235 rfl ?_
    refine xs_i2b dX9_page_237 ?_
    obtain ⟨s26, h⟩ := h
    refine xs_bast dX9_page_238 sc_76 s26 ?_
    refine xs_nmM (fun m27 e_m27 => ?_)
    replace h := h m27 e_m27
    have hR : xs_RT b m27 := by rw [e_m27]; exact hR
    refine xs_iconst (nI 0) dX9_page_239 (by decide) ?_
    refine xs_istore [some (.ref 75), some (.int v1), some (.int v2), some (.long v3), none, some (.int v5), some (.int v6), none, some (.int v8), some (.int v9), some (.int (nI 0))] dX9_page_240 (by decide) rfl ?_
    exact xs_loc [some (.ref 75), some (.int v1), none, none, none, none, none, none, some (.int v8), some (.int v9), some (.int (nI 0))] ⟨rfl, ⟨rfl, ⟨rfl, ⟨rfl, ⟨rfl, trivial⟩⟩⟩⟩⟩ (h hR)
  · replace h := h.2 c1
    refine xs_aload_n dX9_page_100 rfl ?_
    refine xs_getR dX9_page_101 fl_X9_13 rfl sc_75 (rt_75_1 hR) ?_
    refine xs_iload dX9_page_104 rfl ?_
    refine xs_bipush (nI 27) dX9_page_106 (by decide) ?_
    refine xs_iadd dX9_page_108 ?_
    refine xs_iload dX9_page_109 rfl ?_
    refine xs_iadd dX9_page_111 ?_
    refine xs_aload_n dX9_page_112 rfl ?_
    refine xs_getR dX9_page_113 fl_X9_13 rfl sc_75 (rt_75_1 hR) ?_
    refine xs_iload dX9_page_116 rfl ?_
    obtain ⟨s28, h⟩ := h
    refine xs_bald dX9_page_118 sc_76 s28 ?_
    obtain ⟨s29, h⟩ := h
    refine xs_bast dX9_page_119 sc_76 s29 ?_
    refine xs_nmM (fun m30 e_m30 => ?_)
    replace h := h m30 e_m30
    have hR : xs_RT b m30 := by rw [e_m30]; exact hR
    obtain ⟨x31, e_x31⟩ : ∃ z : Int32, z = v10 + (-1) := ⟨_, rfl⟩
    replace h := h x31 e_x31
    refine xs_iinc x31 [some (.ref 75), some (.int v1), some (.int v2), some (.long v3), none, some (.int v5), some (.int v6), none, some (.int v8), some (.int v9), some (.int x31)] dX9_page_120 (by decide) rfl (by rw [e_x31]; rfl) rfl ?_
    refine xs_goto 94 dX9_page_123 (by decide) ?_
    exact xs_loc [some (.ref 75), some (.int v1), some (.int v2), some (.long v3), none, some (.int v5), some (.int v6), none, some (.int v8), some (.int v9), some (.int x31)] ⟨rfl, ⟨rfl, ⟨rfl, ⟨rfl, ⟨rfl, ⟨rfl, ⟨rfl, ⟨rfl, ⟨rfl, trivial⟩⟩⟩⟩⟩⟩⟩⟩⟩ (h hR)
set_option maxHeartbeats 4000000 in
set_option maxRecDepth 100000 in
theorem l_X9_page_242 {b : Bool} {Q : Int32 → xm_M → Prop} {μ : xm_M}  (v1 : Int32) (v8 : Int32) (v9 : Int32) (v10 : Int32) 
    (h : ((v9 ≤ v10 →
       ∀ m2 : xm_M, m2 = xu_I μ 75 (upd (μ.1 75) 2 ((μ.1 75 2) + ((nI 27) + v9))) →
       ∃ Q3 : Int32 → xm_M → Prop, xCi b b k_X9_crc m2 [.ref 76, .int v1, .int ((m2.1 75 2) - v1), .int (nI 22)] Q3 ∧
       ∀ (r5 : Int32) (m4 : xm_M), Q3 r5 m4 →
       ∃ Q7 : xm_M → Prop, xCv b b k_X9_putLow m4 [.ref 76, .int (v1 + (nI 22)), .long (r5).toInt64, .int (nI 4)] Q7 ∧
       ∀ m8 : xm_M, Q7 m8 →
       Q (m8.1 75 2) m8) ∧
      (¬ v9 ≤ v10 →
       ((v8 < ((nI 255) * (v10 + (nI 1))) →
        vp_in ((v1 + (nI 27)) + v10) 6300 ∧
        ∀ m13 : xm_M, m13 = xu_I μ 76 (upd (μ.1 76) (((v1 + (nI 27)) + v10)).toNatClampNeg (vp_nar .byte ((v8 - v8 / (nI 255) * (nI 255))).toInt8.toInt32)) →
        ∀ x14 : Int32, x14 = v10 + nI 1 →
        hd_X9_page_242 b Q  v1 v8 v9 x14 m13) ∧
       (¬ v8 < ((nI 255) * (v10 + (nI 1))) →
        vp_in ((v1 + (nI 27)) + v10) 6300 ∧
        ∀ m16 : xm_M, m16 = xu_I μ 76 (upd (μ.1 76) (((v1 + (nI 27)) + v10)).toNatClampNeg (vp_nar .byte ((nI 255)).toInt8.toInt32)) →
        ∀ x17 : Int32, x17 = v10 + nI 1 →
        hd_X9_page_242 b Q  v1 v8 v9 x17 m16))))) :
    hd_X9_page_242 b Q  v1 v8 v9 v10 μ := by
  intro hR
  refine xs_iload dX9_page_242 rfl ?_
  refine xs_iload dX9_page_244 rfl ?_
  refine xs_icmp_ge 293 dX9_page_246 (by decide) (fun c1 => ?_) (fun c1 => ?_)
  · replace h := h.1 c1
    refine xs_aload_n dX9_page_293 rfl ?_
    refine xs_dup dX9_page_294 rfl ?_
    refine xs_getI dX9_page_295 fl_X9_116.g rfl sc_75 ?_
    refine xs_bipush (nI 27) dX9_page_298 (by decide) ?_
    refine xs_iload dX9_page_300 rfl ?_
    refine xs_iadd dX9_page_302 ?_
    refine xs_iadd dX9_page_303 ?_
    refine xs_putI dX9_page_304 fl_X9_116 rfl rfl rfl sc_75 ?_
    refine xs_nmM (fun m2 e_m2 => ?_)
    replace h := h m2 e_m2
    have hR : xs_RT b m2 := by rw [e_m2]; exact hR
    refine xs_aload_n dX9_page_307 rfl ?_
    refine xs_getR dX9_page_308 fl_X9_13 rfl sc_75 (rt_75_1 hR) ?_
    refine xs_iload_n dX9_page_311 rfl ?_
    refine xs_bipush (nI 22) dX9_page_312 (by decide) ?_
    refine xs_iadd dX9_page_314 ?_
    refine xs_aload_n dX9_page_315 rfl ?_
    refine xs_getR dX9_page_316 fl_X9_13 rfl sc_75 (rt_75_1 hR) ?_
    refine xs_iload_n dX9_page_319 rfl ?_
    refine xs_aload_n dX9_page_320 rfl ?_
    refine xs_getI dX9_page_321 fl_X9_116.g rfl sc_75 ?_
    refine xs_iload_n dX9_page_324 rfl ?_
    refine xs_isub dX9_page_325 ?_
    refine xs_bipush (nI 22) dX9_page_326 (by decide) ?_
    obtain ⟨Q3, hQ3, h⟩ := h
    refine xs_callS (j := k_X9_crc) (As := [.ref 76, .int v1, .int ((m2.1 75 2) - v1), .int (nI 22)]) (S := [.int (v1 + (nI 22)), .ref 76]) dX9_page_328 (hQ3 hR) ⟨ml_X9_123, mk_X9_crc.1, mk_X9_crc.2.1, mk_X9_crc.2.2⟩ ms_X9_crc ⟨Nat.le_of_ble_eq_true rfl, Nat.le_of_ble_eq_true rfl⟩ rfl (Nat.le_of_ble_eq_true rfl) ⟨rfl, rfl⟩ (fun rr m4 hq6 => ?_)
    obtain ⟨hR, r5, rfl, hq6⟩ := hq6
    replace h := h r5 m4 hq6
    refine xs_i2l dX9_page_331 ?_
    refine xs_iconst (nI 4) dX9_page_332 (by decide) ?_
    obtain ⟨Q7, hQ7, h⟩ := h
    refine xs_callS (j := k_X9_putLow) (As := [.ref 76, .int (v1 + (nI 22)), .long (r5).toInt64, .int (nI 4)]) (S := []) dX9_page_333 (hQ7 hR) ⟨ml_X9_119, mk_X9_putLow.1, mk_X9_putLow.2.1, mk_X9_putLow.2.2⟩ ms_X9_putLow ⟨Nat.le_of_ble_eq_true rfl, Nat.le_of_ble_eq_true rfl⟩ rfl (Nat.le_of_ble_eq_true rfl) ⟨rfl, rfl⟩ (fun rr m8 hq10 => ?_)
    obtain ⟨hR, rfl, hq10⟩ := hq10
    replace h := h m8 hq10
    refine xs_aload_n dX9_page_336 rfl ?_
    refine xs_getI dX9_page_337 fl_X9_116.g rfl sc_75 ?_
    exact xs_ret (some (.int (m8.1 75 2))) dX9_page_340 rfl rfl ⟨hR, _, rfl, h⟩
  · replace h := h.2 c1
    refine xs_aload_n dX9_page_249 rfl ?_
    refine xs_getR dX9_page_250 fl_X9_13 rfl sc_75 (rt_75_1 hR) ?_
    refine xs_iload_n dX9_page_253 rfl ?_
    refine xs_bipush (nI 27) dX9_page_254 (by decide) ?_
    refine xs_iadd dX9_page_256 ?_
    refine xs_iload dX9_page_257 rfl ?_
    refine xs_iadd dX9_page_259 ?_
    refine xs_sipush (nI 255) dX9_page_260 (by decide) ?_
    refine xs_iload dX9_page_263 rfl ?_
    refine xs_iconst (nI 1) dX9_page_265 (by decide) ?_
    refine xs_iadd dX9_page_266 ?_
    refine xs_imul dX9_page_267 ?_
    refine xs_iload dX9_page_268 rfl ?_
    refine xs_icmp_gt 279 dX9_page_270 (by decide) (fun c11 => ?_) (fun c11 => ?_)
    · replace h := h.1 c11
      refine xs_iload dX9_page_279 rfl ?_
      refine xs_sipush (nI 255) dX9_page_281 (by decide) ?_
      refine xs_irem dX9_page_284 (by decide) ?_
      refine xs_i2b dX9_page_285 ?_
      obtain ⟨s12, h⟩ := h
      refine xs_bast dX9_page_286 sc_76 s12 ?_
      refine xs_nmM (fun m13 e_m13 => ?_)
      replace h := h m13 e_m13
      have hR : xs_RT b m13 := by rw [e_m13]; exact hR
      obtain ⟨x14, e_x14⟩ : ∃ z : Int32, z = v10 + nI 1 := ⟨_, rfl⟩
      replace h := h x14 e_x14
      refine xs_iinc x14 [some (.ref 75), some (.int v1), none, none, none, none, none, none, some (.int v8), some (.int v9), some (.int x14)] dX9_page_287 (by decide) rfl (by rw [e_x14]; rfl) rfl ?_
      refine xs_goto 242 dX9_page_290 (by decide) ?_
      exact xs_loc [some (.ref 75), some (.int v1), none, none, none, none, none, none, some (.int v8), some (.int v9), some (.int x14)] ⟨rfl, ⟨rfl, ⟨rfl, ⟨rfl, ⟨rfl, trivial⟩⟩⟩⟩⟩ (h hR)
    · replace h := h.2 c11
      refine xs_sipush (nI 255) dX9_page_273 (by decide) ?_
      refine xs_goto 285 dX9_page_276 (by decide) ?_
      refine xs_i2b dX9_page_285 ?_
      obtain ⟨s15, h⟩ := h
      refine xs_bast dX9_page_286 sc_76 s15 ?_
      refine xs_nmM (fun m16 e_m16 => ?_)
      replace h := h m16 e_m16
      have hR : xs_RT b m16 := by rw [e_m16]; exact hR
      obtain ⟨x17, e_x17⟩ : ∃ z : Int32, z = v10 + nI 1 := ⟨_, rfl⟩
      replace h := h x17 e_x17
      refine xs_iinc x17 [some (.ref 75), some (.int v1), none, none, none, none, none, none, some (.int v8), some (.int v9), some (.int x17)] dX9_page_287 (by decide) rfl (by rw [e_x17]; rfl) rfl ?_
      refine xs_goto 242 dX9_page_290 (by decide) ?_
      exact xs_loc [some (.ref 75), some (.int v1), none, none, none, none, none, none, some (.int v8), some (.int v9), some (.int x17)] ⟨rfl, ⟨rfl, ⟨rfl, ⟨rfl, ⟨rfl, trivial⟩⟩⟩⟩⟩ (h hR)
set_option maxHeartbeats 4000000 in
set_option maxRecDepth 100000 in
theorem g_X9_page {b : Bool} {Q : Int32 → xm_M → Prop} {μ : xm_M} (v1 : Int32) (v2 : Int32) (v3 : Int64) (v5 : Int32) (v6 : Int32) (v7 : Int32) 
    (h : ∀ m1 : xm_M, m1 = xu_I μ 75 (upd (μ.1 75) 0 (nI 0)) →
      ((v1 < 0 →
       Q (-1 : Int32) m1) ∧
      (¬ v1 < 0 →
       ((v1 ≤ (m1.1 75 2) →
        ∀ x4 : Int32, x4 = ((m1.1 75 2) - v1) →
        ((v7 = 0 →
         ∀ x6 : Int32, x6 = ((x4 / (nI 255)) + (nI 1)) →
         (((nI 255) < x6 →
          Q (-1 : Int32) m1) ∧
         (¬ (nI 255) < x6 →
          ((v7 = 0 →
           (((((m1.1 75 2) + (nI 27)) + x6) ≤ (nI 6000) →
            ∀ x10 : Int32, x10 = ((m1.1 75 2) - (nI 1)) →
            hd_X9_page_94 b Q  v1 v2 v3 v5 v6 x4 x6 x10 m1) ∧
           (¬ (((m1.1 75 2) + (nI 27)) + x6) ≤ (nI 6000) →
            Q (-1 : Int32) m1))) ∧
          (¬ v7 = 0 →
           ((¬ (x4 - x4 / (nI 255) * (nI 255)) = 0 →
            Q (-1 : Int32) m1) ∧
           ((x4 - x4 / (nI 255) * (nI 255)) = 0 →
            (((((m1.1 75 2) + (nI 27)) + x6) ≤ (nI 6000) →
             ∀ x13 : Int32, x13 = ((m1.1 75 2) - (nI 1)) →
             hd_X9_page_94 b Q  v1 v2 v3 v5 v6 x4 x6 x13 m1) ∧
            (¬ (((m1.1 75 2) + (nI 27)) + x6) ≤ (nI 6000) →
             Q (-1 : Int32) m1))))))))) ∧
        (¬ v7 = 0 →
         ∀ x14 : Int32, x14 = ((x4 / (nI 255)) + (nI 0)) →
         (((nI 255) < x14 →
          Q (-1 : Int32) m1) ∧
         (¬ (nI 255) < x14 →
          ((v7 = 0 →
           (((((m1.1 75 2) + (nI 27)) + x14) ≤ (nI 6000) →
            ∀ x18 : Int32, x18 = ((m1.1 75 2) - (nI 1)) →
            hd_X9_page_94 b Q  v1 v2 v3 v5 v6 x4 x14 x18 m1) ∧
           (¬ (((m1.1 75 2) + (nI 27)) + x14) ≤ (nI 6000) →
            Q (-1 : Int32) m1))) ∧
          (¬ v7 = 0 →
           ((¬ (x4 - x4 / (nI 255) * (nI 255)) = 0 →
            Q (-1 : Int32) m1) ∧
           ((x4 - x4 / (nI 255) * (nI 255)) = 0 →
            (((((m1.1 75 2) + (nI 27)) + x14) ≤ (nI 6000) →
             ∀ x21 : Int32, x21 = ((m1.1 75 2) - (nI 1)) →
             hd_X9_page_94 b Q  v1 v2 v3 v5 v6 x4 x14 x21 m1) ∧
            (¬ (((m1.1 75 2) + (nI 27)) + x14) ≤ (nI 6000) →
             Q (-1 : Int32) m1))))))))))) ∧
       (¬ v1 ≤ (m1.1 75 2) →
        Q (-1 : Int32) m1))))) :
    xCi b b k_X9_page μ [.ref 75, .int v1, .int v2, .long v3, .int v5, .int v6, .int v7] Q := by
  intro hR
  refine xm_met [some (.ref 75), some (.int v1), some (.int v2), some (.long v3), none, some (.int v5), some (.int v6), some (.int v7), none, none, none] 3 (by decide) (by simp [lg_sl, Value.category]) rfl ?_
  refine xs_aload_n dX9_page_0 rfl ?_
  refine xs_iconst (nI 0) dX9_page_1 (by decide) ?_
  refine xs_putI dX9_page_2 fl_X9_1 rfl rfl rfl sc_75 ?_
  refine xs_nmM (fun m1 e_m1 => ?_)
  replace h := h m1 e_m1
  have hR : xs_RT b m1 := by rw [e_m1]; exact hR
  refine xs_iload_n dX9_page_5 rfl ?_
  refine xs_if_lt 17 dX9_page_6 (by decide) (fun c2 => ?_) (fun c2 => ?_)
  · replace h := h.1 c2
    refine xs_iconst (-1 : Int32) dX9_page_17 (by decide) ?_
    exact xs_ret (some (.int (-1 : Int32))) dX9_page_18 rfl rfl ⟨hR, _, rfl, h⟩
  · replace h := h.2 c2
    refine xs_iload_n dX9_page_9 rfl ?_
    refine xs_aload_n dX9_page_10 rfl ?_
    refine xs_getI dX9_page_11 fl_X9_116.g rfl sc_75 ?_
    refine xs_icmp_le 19 dX9_page_14 (by decide) (fun c3 => ?_) (fun c3 => ?_)
    · replace h := h.1 c3
      refine xs_aload_n dX9_page_19 rfl ?_
      refine xs_getI dX9_page_20 fl_X9_116.g rfl sc_75 ?_
      refine xs_iload_n dX9_page_23 rfl ?_
      refine xs_isub dX9_page_24 ?_
      refine xs_nmI (fun x4 e_x4 => ?_)
      replace h := h x4 e_x4
      refine xs_istore [some (.ref 75), some (.int v1), some (.int v2), some (.long v3), none, some (.int v5), some (.int v6), some (.int v7), some (.int x4), none, none] dX9_page_25 (by decide) rfl ?_
      refine xs_iload dX9_page_27 rfl ?_
      refine xs_sipush (nI 255) dX9_page_29 (by decide) ?_
      refine xs_idiv dX9_page_32 (by decide) ?_
      refine xs_iload dX9_page_33 rfl ?_
      refine xs_if_eq 42 dX9_page_35 (by decide) (fun c5 => ?_) (fun c5 => ?_)
      · replace h := h.1 c5
        refine xs_iconst (nI 1) dX9_page_42 (by decide) ?_
        refine xs_iadd dX9_page_43 ?_
        refine xs_nmI (fun x6 e_x6 => ?_)
        replace h := h x6 e_x6
        refine xs_istore [some (.ref 75), some (.int v1), some (.int v2), some (.long v3), none, some (.int v5), some (.int v6), some (.int v7), some (.int x4), some (.int x6), none] dX9_page_44 (by decide) rfl ?_
        refine xs_iload dX9_page_46 rfl ?_
        refine xs_sipush (nI 255) dX9_page_48 (by decide) ?_
        refine xs_icmp_gt 84 dX9_page_51 (by decide) (fun c7 => ?_) (fun c7 => ?_)
        · replace h := h.1 c7
          refine xs_iconst (-1 : Int32) dX9_page_84 (by decide) ?_
          exact xs_ret (some (.int (-1 : Int32))) dX9_page_85 rfl rfl ⟨hR, _, rfl, h⟩
        · replace h := h.2 c7
          refine xs_iload dX9_page_54 rfl ?_
          refine xs_if_eq 68 dX9_page_56 (by decide) (fun c8 => ?_) (fun c8 => ?_)
          · replace h := h.1 c8
            refine xs_aload_n dX9_page_68 rfl ?_
            refine xs_getI dX9_page_69 fl_X9_116.g rfl sc_75 ?_
            refine xs_bipush (nI 27) dX9_page_72 (by decide) ?_
            refine xs_iadd dX9_page_74 ?_
            refine xs_iload dX9_page_75 rfl ?_
            refine xs_iadd dX9_page_77 ?_
            refine xs_sipush (nI 6000) dX9_page_78 (by decide) ?_
            refine xs_icmp_le 86 dX9_page_81 (by decide) (fun c9 => ?_) (fun c9 => ?_)
            · replace h := h.1 c9
              refine xs_aload_n dX9_page_86 rfl ?_
              refine xs_getI dX9_page_87 fl_X9_116.g rfl sc_75 ?_
              refine xs_iconst (nI 1) dX9_page_90 (by decide) ?_
              refine xs_isub dX9_page_91 ?_
              refine xs_nmI (fun x10 e_x10 => ?_)
              replace h := h x10 e_x10
              refine xs_istore [some (.ref 75), some (.int v1), some (.int v2), some (.long v3), none, some (.int v5), some (.int v6), some (.int v7), some (.int x4), some (.int x6), some (.int x10)] dX9_page_92 (by decide) rfl ?_
              exact xs_loc [some (.ref 75), some (.int v1), some (.int v2), some (.long v3), none, some (.int v5), some (.int v6), none, some (.int x4), some (.int x6), some (.int x10)] ⟨rfl, ⟨rfl, ⟨rfl, ⟨rfl, ⟨rfl, ⟨rfl, ⟨rfl, ⟨rfl, ⟨rfl, trivial⟩⟩⟩⟩⟩⟩⟩⟩⟩ (h hR)
            · replace h := h.2 c9
              refine xs_iconst (-1 : Int32) dX9_page_84 (by decide) ?_
              exact xs_ret (some (.int (-1 : Int32))) dX9_page_85 rfl rfl ⟨hR, _, rfl, h⟩
          · replace h := h.2 c8
            refine xs_iload dX9_page_59 rfl ?_
            refine xs_sipush (nI 255) dX9_page_61 (by decide) ?_
            refine xs_irem dX9_page_64 (by decide) ?_
            refine xs_if_ne 84 dX9_page_65 (by decide) (fun c11 => ?_) (fun c11 => ?_)
            · replace h := h.1 c11
              refine xs_iconst (-1 : Int32) dX9_page_84 (by decide) ?_
              exact xs_ret (some (.int (-1 : Int32))) dX9_page_85 rfl rfl ⟨hR, _, rfl, h⟩
            · replace h := h.2 c11
              refine xs_aload_n dX9_page_68 rfl ?_
              refine xs_getI dX9_page_69 fl_X9_116.g rfl sc_75 ?_
              refine xs_bipush (nI 27) dX9_page_72 (by decide) ?_
              refine xs_iadd dX9_page_74 ?_
              refine xs_iload dX9_page_75 rfl ?_
              refine xs_iadd dX9_page_77 ?_
              refine xs_sipush (nI 6000) dX9_page_78 (by decide) ?_
              refine xs_icmp_le 86 dX9_page_81 (by decide) (fun c12 => ?_) (fun c12 => ?_)
              · replace h := h.1 c12
                refine xs_aload_n dX9_page_86 rfl ?_
                refine xs_getI dX9_page_87 fl_X9_116.g rfl sc_75 ?_
                refine xs_iconst (nI 1) dX9_page_90 (by decide) ?_
                refine xs_isub dX9_page_91 ?_
                refine xs_nmI (fun x13 e_x13 => ?_)
                replace h := h x13 e_x13
                refine xs_istore [some (.ref 75), some (.int v1), some (.int v2), some (.long v3), none, some (.int v5), some (.int v6), some (.int v7), some (.int x4), some (.int x6), some (.int x13)] dX9_page_92 (by decide) rfl ?_
                exact xs_loc [some (.ref 75), some (.int v1), some (.int v2), some (.long v3), none, some (.int v5), some (.int v6), none, some (.int x4), some (.int x6), some (.int x13)] ⟨rfl, ⟨rfl, ⟨rfl, ⟨rfl, ⟨rfl, ⟨rfl, ⟨rfl, ⟨rfl, ⟨rfl, trivial⟩⟩⟩⟩⟩⟩⟩⟩⟩ (h hR)
              · replace h := h.2 c12
                refine xs_iconst (-1 : Int32) dX9_page_84 (by decide) ?_
                exact xs_ret (some (.int (-1 : Int32))) dX9_page_85 rfl rfl ⟨hR, _, rfl, h⟩
      · replace h := h.2 c5
        refine xs_iconst (nI 0) dX9_page_38 (by decide) ?_
        refine xs_goto 43 dX9_page_39 (by decide) ?_
        refine xs_iadd dX9_page_43 ?_
        refine xs_nmI (fun x14 e_x14 => ?_)
        replace h := h x14 e_x14
        refine xs_istore [some (.ref 75), some (.int v1), some (.int v2), some (.long v3), none, some (.int v5), some (.int v6), some (.int v7), some (.int x4), some (.int x14), none] dX9_page_44 (by decide) rfl ?_
        refine xs_iload dX9_page_46 rfl ?_
        refine xs_sipush (nI 255) dX9_page_48 (by decide) ?_
        refine xs_icmp_gt 84 dX9_page_51 (by decide) (fun c15 => ?_) (fun c15 => ?_)
        · replace h := h.1 c15
          refine xs_iconst (-1 : Int32) dX9_page_84 (by decide) ?_
          exact xs_ret (some (.int (-1 : Int32))) dX9_page_85 rfl rfl ⟨hR, _, rfl, h⟩
        · replace h := h.2 c15
          refine xs_iload dX9_page_54 rfl ?_
          refine xs_if_eq 68 dX9_page_56 (by decide) (fun c16 => ?_) (fun c16 => ?_)
          · replace h := h.1 c16
            refine xs_aload_n dX9_page_68 rfl ?_
            refine xs_getI dX9_page_69 fl_X9_116.g rfl sc_75 ?_
            refine xs_bipush (nI 27) dX9_page_72 (by decide) ?_
            refine xs_iadd dX9_page_74 ?_
            refine xs_iload dX9_page_75 rfl ?_
            refine xs_iadd dX9_page_77 ?_
            refine xs_sipush (nI 6000) dX9_page_78 (by decide) ?_
            refine xs_icmp_le 86 dX9_page_81 (by decide) (fun c17 => ?_) (fun c17 => ?_)
            · replace h := h.1 c17
              refine xs_aload_n dX9_page_86 rfl ?_
              refine xs_getI dX9_page_87 fl_X9_116.g rfl sc_75 ?_
              refine xs_iconst (nI 1) dX9_page_90 (by decide) ?_
              refine xs_isub dX9_page_91 ?_
              refine xs_nmI (fun x18 e_x18 => ?_)
              replace h := h x18 e_x18
              refine xs_istore [some (.ref 75), some (.int v1), some (.int v2), some (.long v3), none, some (.int v5), some (.int v6), some (.int v7), some (.int x4), some (.int x14), some (.int x18)] dX9_page_92 (by decide) rfl ?_
              exact xs_loc [some (.ref 75), some (.int v1), some (.int v2), some (.long v3), none, some (.int v5), some (.int v6), none, some (.int x4), some (.int x14), some (.int x18)] ⟨rfl, ⟨rfl, ⟨rfl, ⟨rfl, ⟨rfl, ⟨rfl, ⟨rfl, ⟨rfl, ⟨rfl, trivial⟩⟩⟩⟩⟩⟩⟩⟩⟩ (h hR)
            · replace h := h.2 c17
              refine xs_iconst (-1 : Int32) dX9_page_84 (by decide) ?_
              exact xs_ret (some (.int (-1 : Int32))) dX9_page_85 rfl rfl ⟨hR, _, rfl, h⟩
          · replace h := h.2 c16
            refine xs_iload dX9_page_59 rfl ?_
            refine xs_sipush (nI 255) dX9_page_61 (by decide) ?_
            refine xs_irem dX9_page_64 (by decide) ?_
            refine xs_if_ne 84 dX9_page_65 (by decide) (fun c19 => ?_) (fun c19 => ?_)
            · replace h := h.1 c19
              refine xs_iconst (-1 : Int32) dX9_page_84 (by decide) ?_
              exact xs_ret (some (.int (-1 : Int32))) dX9_page_85 rfl rfl ⟨hR, _, rfl, h⟩
            · replace h := h.2 c19
              refine xs_aload_n dX9_page_68 rfl ?_
              refine xs_getI dX9_page_69 fl_X9_116.g rfl sc_75 ?_
              refine xs_bipush (nI 27) dX9_page_72 (by decide) ?_
              refine xs_iadd dX9_page_74 ?_
              refine xs_iload dX9_page_75 rfl ?_
              refine xs_iadd dX9_page_77 ?_
              refine xs_sipush (nI 6000) dX9_page_78 (by decide) ?_
              refine xs_icmp_le 86 dX9_page_81 (by decide) (fun c20 => ?_) (fun c20 => ?_)
              · replace h := h.1 c20
                refine xs_aload_n dX9_page_86 rfl ?_
                refine xs_getI dX9_page_87 fl_X9_116.g rfl sc_75 ?_
                refine xs_iconst (nI 1) dX9_page_90 (by decide) ?_
                refine xs_isub dX9_page_91 ?_
                refine xs_nmI (fun x21 e_x21 => ?_)
                replace h := h x21 e_x21
                refine xs_istore [some (.ref 75), some (.int v1), some (.int v2), some (.long v3), none, some (.int v5), some (.int v6), some (.int v7), some (.int x4), some (.int x14), some (.int x21)] dX9_page_92 (by decide) rfl ?_
                exact xs_loc [some (.ref 75), some (.int v1), some (.int v2), some (.long v3), none, some (.int v5), some (.int v6), none, some (.int x4), some (.int x14), some (.int x21)] ⟨rfl, ⟨rfl, ⟨rfl, ⟨rfl, ⟨rfl, ⟨rfl, ⟨rfl, ⟨rfl, ⟨rfl, trivial⟩⟩⟩⟩⟩⟩⟩⟩⟩ (h hR)
              · replace h := h.2 c20
                refine xs_iconst (-1 : Int32) dX9_page_84 (by decide) ?_
                exact xs_ret (some (.int (-1 : Int32))) dX9_page_85 rfl rfl ⟨hR, _, rfl, h⟩
    · replace h := h.2 c3
      refine xs_iconst (-1 : Int32) dX9_page_17 (by decide) ?_
      exact xs_ret (some (.int (-1 : Int32))) dX9_page_18 rfl rfl ⟨hR, _, rfl, h⟩
set_option maxHeartbeats 4000000 in
set_option maxRecDepth 100000 in
theorem g_X9_taped {b : Bool} {Q : Int32 → xm_M → Prop} {μ : xm_M}  
    (h : ∀ m1 : xm_M, m1 = xu_I μ 75 (upd (μ.1 75) 0 (nI 0)) →
      Q (m1.1 75 2) m1) :
    xCi b b k_X9_taped μ [.ref 75] Q := by
  intro hR
  refine xm_met [some (.ref 75)] 0 (by decide) (by simp [lg_sl, Value.category]) rfl ?_
  refine xs_aload_n dX9_taped_0 rfl ?_
  refine xs_iconst (nI 0) dX9_taped_1 (by decide) ?_
  refine xs_putI dX9_taped_2 fl_X9_1 rfl rfl rfl sc_75 ?_
  refine xs_nmM (fun m1 e_m1 => ?_)
  replace h := h m1 e_m1
  have hR : xs_RT b m1 := by rw [e_m1]; exact hR
  refine xs_aload_n dX9_taped_5 rfl ?_
  refine xs_getI dX9_taped_6 fl_X9_116.g rfl sc_75 ?_
  exact xs_ret (some (.int (m1.1 75 2))) dX9_taped_9 rfl rfl ⟨hR, _, rfl, h⟩
abbrev hd_X9_pageEnd_104 (b : Bool) (Q : Int32 → xm_M → Prop)  (v1 : Int32) (v2 : Int32) (v3 : Int32) (v4 : Int32) (v5 : Int32) (μ : xm_M) : Prop := xs_RT b μ → xR k_X9_pageEnd none true (fun r _ μ' => xs_RT b μ' ∧ ∃ x : Int32, r = some (.int x) ∧ Q x μ') 104 [some (.ref 75), some (.int v1), some (.int v2), some (.int v3), some (.int v4), some (.int v5)] [] xs_sh (0, 0) μ
set_option maxHeartbeats 4000000 in
set_option maxRecDepth 100000 in
theorem l_X9_pageEnd_104 {b : Bool} {Q : Int32 → xm_M → Prop} {μ : xm_M}  (v1 : Int32) (v2 : Int32) (v3 : Int32) (v4 : Int32) (v5 : Int32) 
    (h : ((v3 ≤ v5 →
       ((v2 < v4 →
        Q (-1 : Int32) μ) ∧
       (¬ v2 < v4 →
        ∃ Q3 : Int32 → xm_M → Prop, xCi b b k_X9_crc μ [.ref 76, .int v1, .int (v4 - v1), .int (nI 22)] Q3 ∧
        ∀ (r5 : Int32) (m4 : xm_M), Q3 r5 m4 →
        ∃ Q7 : Int64 → xm_M → Prop, xCl b b k_X9_low m4 [.ref 76, .int (v1 + (nI 22)), .int (nI 4)] Q7 ∧
        ∀ (r9 : Int64) (m8 : xm_M), Q7 r9 m8 →
        ((¬ r5 = (r9).toInt32 →
         Q (-1 : Int32) m8) ∧
        (r5 = (r9).toInt32 →
         Q v4 m8))))) ∧
      (¬ v3 ≤ v5 →
       vp_in ((v1 + (nI 27)) + v5) 6300 ∧
       ∀ x13 : Int32, x13 = (v4 + ((μ.1 76 (((v1 + (nI 27)) + v5)).toNatClampNeg) &&& (nI 255))) →
       ∀ x14 : Int32, x14 = v5 + nI 1 →
       hd_X9_pageEnd_104 b Q  v1 v2 v3 x13 x14 μ))) :
    hd_X9_pageEnd_104 b Q  v1 v2 v3 v4 v5 μ := by
  intro hR
  refine xs_iload dX9_pageEnd_104 rfl ?_
  refine xs_iload_n dX9_pageEnd_106 rfl ?_
  refine xs_icmp_ge 137 dX9_pageEnd_107 (by decide) (fun c1 => ?_) (fun c1 => ?_)
  · replace h := h.1 c1
    refine xs_iload dX9_pageEnd_137 rfl ?_
    refine xs_iload_n dX9_pageEnd_139 rfl ?_
    refine xs_icmp_gt 178 dX9_pageEnd_140 (by decide) (fun c2 => ?_) (fun c2 => ?_)
    · replace h := h.1 c2
      refine xs_iconst (-1 : Int32) dX9_pageEnd_178 (by decide) ?_
      exact xs_ret (some (.int (-1 : Int32))) dX9_pageEnd_179 rfl rfl ⟨hR, _, rfl, h⟩
    · replace h := h.2 c2
      refine xs_aload_n dX9_pageEnd_143 rfl ?_
      refine xs_getR dX9_pageEnd_144 fl_X9_13 rfl sc_75 (rt_75_1 hR) ?_
      refine xs_iload_n dX9_pageEnd_147 rfl ?_
      refine xs_iload dX9_pageEnd_148 rfl ?_
      refine xs_iload_n dX9_pageEnd_150 rfl ?_
      refine xs_isub dX9_pageEnd_151 ?_
      refine xs_bipush (nI 22) dX9_pageEnd_152 (by decide) ?_
      obtain ⟨Q3, hQ3, h⟩ := h
      refine xs_callS (j := k_X9_crc) (As := [.ref 76, .int v1, .int (v4 - v1), .int (nI 22)]) (S := []) dX9_pageEnd_154 (hQ3 hR) ⟨ml_X9_123, mk_X9_crc.1, mk_X9_crc.2.1, mk_X9_crc.2.2⟩ ms_X9_crc ⟨Nat.le_of_ble_eq_true rfl, Nat.le_of_ble_eq_true rfl⟩ rfl (Nat.le_of_ble_eq_true rfl) ⟨rfl, rfl⟩ (fun rr m4 hq6 => ?_)
      obtain ⟨hR, r5, rfl, hq6⟩ := hq6
      replace h := h r5 m4 hq6
      refine xs_aload_n dX9_pageEnd_157 rfl ?_
      refine xs_getR dX9_pageEnd_158 fl_X9_13 rfl sc_75 (rt_75_1 hR) ?_
      refine xs_iload_n dX9_pageEnd_161 rfl ?_
      refine xs_bipush (nI 22) dX9_pageEnd_162 (by decide) ?_
      refine xs_iadd dX9_pageEnd_164 ?_
      refine xs_iconst (nI 4) dX9_pageEnd_165 (by decide) ?_
      obtain ⟨Q7, hQ7, h⟩ := h
      refine xs_callS (j := k_X9_low) (As := [.ref 76, .int (v1 + (nI 22)), .int (nI 4)]) (S := [.int r5]) dX9_pageEnd_166 (hQ7 hR) ⟨ml_X9_127, mk_X9_low.1, mk_X9_low.2.1, mk_X9_low.2.2⟩ ms_X9_low ⟨Nat.le_of_ble_eq_true rfl, Nat.le_of_ble_eq_true rfl⟩ rfl (Nat.le_of_ble_eq_true rfl) ⟨rfl, rfl⟩ (fun rr m8 hq10 => ?_)
      obtain ⟨hR, r9, rfl, hq10⟩ := hq10
      replace h := h r9 m8 hq10
      refine xs_l2i dX9_pageEnd_169 ?_
      refine xs_icmp_ne 178 dX9_pageEnd_170 (by decide) (fun c11 => ?_) (fun c11 => ?_)
      · replace h := h.1 c11
        refine xs_iconst (-1 : Int32) dX9_pageEnd_178 (by decide) ?_
        exact xs_ret (some (.int (-1 : Int32))) dX9_pageEnd_179 rfl rfl ⟨hR, _, rfl, h⟩
      · replace h := h.2 c11
        refine xs_iload dX9_pageEnd_173 rfl ?_
        refine xs_goto 179 dX9_pageEnd_175 (by decide) ?_
        exact xs_ret (some (.int v4)) dX9_pageEnd_179 rfl rfl ⟨hR, _, rfl, h⟩
  · replace h := h.2 c1
    refine xs_iload dX9_pageEnd_110 rfl ?_
    refine xs_aload_n dX9_pageEnd_112 rfl ?_
    refine xs_getR dX9_pageEnd_113 fl_X9_13 rfl sc_75 (rt_75_1 hR) ?_
    refine xs_iload_n dX9_pageEnd_116 rfl ?_
    refine xs_bipush (nI 27) dX9_pageEnd_117 (by decide) ?_
    refine xs_iadd dX9_pageEnd_119 ?_
    refine xs_iload dX9_pageEnd_120 rfl ?_
    refine xs_iadd dX9_pageEnd_122 ?_
    obtain ⟨s12, h⟩ := h
    refine xs_bald dX9_pageEnd_123 sc_76 s12 ?_
    refine xs_sipush (nI 255) dX9_pageEnd_124 (by decide) ?_
    refine xs_iand dX9_pageEnd_127 ?_
    refine xs_iadd dX9_pageEnd_128 ?_
    refine xs_nmI (fun x13 e_x13 => ?_)
    replace h := h x13 e_x13
    refine xs_istore [some (.ref 75), some (.int v1), some (.int v2), some (.int v3), some (.int x13), some (.int v5)] dX9_pageEnd_129 (by decide) rfl ?_
    obtain ⟨x14, e_x14⟩ : ∃ z : Int32, z = v5 + nI 1 := ⟨_, rfl⟩
    replace h := h x14 e_x14
    refine xs_iinc x14 [some (.ref 75), some (.int v1), some (.int v2), some (.int v3), some (.int x13), some (.int x14)] dX9_pageEnd_131 (by decide) rfl (by rw [e_x14]; rfl) rfl ?_
    refine xs_goto 104 dX9_pageEnd_134 (by decide) ?_
    exact xs_loc [some (.ref 75), some (.int v1), some (.int v2), some (.int v3), some (.int x13), some (.int x14)] ⟨rfl, ⟨rfl, ⟨rfl, ⟨rfl, ⟨rfl, ⟨rfl, trivial⟩⟩⟩⟩⟩⟩ (h hR)
set_option maxHeartbeats 4000000 in
set_option maxRecDepth 100000 in
theorem g_X9_pageEnd {b : Bool} {Q : Int32 → xm_M → Prop} {μ : xm_M} (v1 : Int32) (v2 : Int32) 
    (h : ((v2 < (v1 + (nI 27)) →
       Q (-1 : Int32) μ) ∧
      (¬ v2 < (v1 + (nI 27)) →
       vp_in v1 6300 ∧
       ((¬ (μ.1 76 (v1).toNatClampNeg) = (nI 79) →
        Q (-1 : Int32) μ) ∧
       ((μ.1 76 (v1).toNatClampNeg) = (nI 79) →
        vp_in (v1 + (nI 1)) 6300 ∧
        ((¬ (μ.1 76 ((v1 + (nI 1))).toNatClampNeg) = (nI 103) →
         Q (-1 : Int32) μ) ∧
        ((μ.1 76 ((v1 + (nI 1))).toNatClampNeg) = (nI 103) →
         vp_in (v1 + (nI 2)) 6300 ∧
         ((¬ (μ.1 76 ((v1 + (nI 2))).toNatClampNeg) = (nI 103) →
          Q (-1 : Int32) μ) ∧
         ((μ.1 76 ((v1 + (nI 2))).toNatClampNeg) = (nI 103) →
          vp_in (v1 + (nI 3)) 6300 ∧
          ((¬ (μ.1 76 ((v1 + (nI 3))).toNatClampNeg) = (nI 83) →
           Q (-1 : Int32) μ) ∧
          ((μ.1 76 ((v1 + (nI 3))).toNatClampNeg) = (nI 83) →
           vp_in (v1 + (nI 4)) 6300 ∧
           (((μ.1 76 ((v1 + (nI 4))).toNatClampNeg) = 0 →
            vp_in (v1 + (nI 26)) 6300 ∧
            ∀ x13 : Int32, x13 = ((μ.1 76 ((v1 + (nI 26))).toNatClampNeg) &&& (nI 255)) →
            ∀ x14 : Int32, x14 = ((v1 + (nI 27)) + x13) →
            ((x14 ≤ v2 →
             hd_X9_pageEnd_104 b Q  v1 v2 x13 x14 (nI 0) μ) ∧
            (¬ x14 ≤ v2 →
             Q (-1 : Int32) μ))) ∧
           (¬ (μ.1 76 ((v1 + (nI 4))).toNatClampNeg) = 0 →
            Q (-1 : Int32) μ))))))))))))) :
    xCi b b k_X9_pageEnd μ [.ref 75, .int v1, .int v2] Q := by
  intro hR
  refine xm_met [some (.ref 75), some (.int v1), some (.int v2), none, none, none] 3 (by decide) (by simp [lg_sl, Value.category]) rfl ?_
  refine xs_iload_n dX9_pageEnd_0 rfl ?_
  refine xs_bipush (nI 27) dX9_pageEnd_1 (by decide) ?_
  refine xs_iadd dX9_pageEnd_3 ?_
  refine xs_iload_n dX9_pageEnd_4 rfl ?_
  refine xs_icmp_gt 69 dX9_pageEnd_5 (by decide) (fun c1 => ?_) (fun c1 => ?_)
  · replace h := h.1 c1
    refine xs_iconst (-1 : Int32) dX9_pageEnd_69 (by decide) ?_
    exact xs_ret (some (.int (-1 : Int32))) dX9_pageEnd_70 rfl rfl ⟨hR, _, rfl, h⟩
  · replace h := h.2 c1
    refine xs_aload_n dX9_pageEnd_8 rfl ?_
    refine xs_getR dX9_pageEnd_9 fl_X9_13 rfl sc_75 (rt_75_1 hR) ?_
    refine xs_iload_n dX9_pageEnd_12 rfl ?_
    obtain ⟨s2, h⟩ := h
    refine xs_bald dX9_pageEnd_13 sc_76 s2 ?_
    refine xs_bipush (nI 79) dX9_pageEnd_14 (by decide) ?_
    refine xs_icmp_ne 69 dX9_pageEnd_16 (by decide) (fun c3 => ?_) (fun c3 => ?_)
    · replace h := h.1 c3
      refine xs_iconst (-1 : Int32) dX9_pageEnd_69 (by decide) ?_
      exact xs_ret (some (.int (-1 : Int32))) dX9_pageEnd_70 rfl rfl ⟨hR, _, rfl, h⟩
    · replace h := h.2 c3
      refine xs_aload_n dX9_pageEnd_19 rfl ?_
      refine xs_getR dX9_pageEnd_20 fl_X9_13 rfl sc_75 (rt_75_1 hR) ?_
      refine xs_iload_n dX9_pageEnd_23 rfl ?_
      refine xs_iconst (nI 1) dX9_pageEnd_24 (by decide) ?_
      refine xs_iadd dX9_pageEnd_25 ?_
      obtain ⟨s4, h⟩ := h
      refine xs_bald dX9_pageEnd_26 sc_76 s4 ?_
      refine xs_bipush (nI 103) dX9_pageEnd_27 (by decide) ?_
      refine xs_icmp_ne 69 dX9_pageEnd_29 (by decide) (fun c5 => ?_) (fun c5 => ?_)
      · replace h := h.1 c5
        refine xs_iconst (-1 : Int32) dX9_pageEnd_69 (by decide) ?_
        exact xs_ret (some (.int (-1 : Int32))) dX9_pageEnd_70 rfl rfl ⟨hR, _, rfl, h⟩
      · replace h := h.2 c5
        refine xs_aload_n dX9_pageEnd_32 rfl ?_
        refine xs_getR dX9_pageEnd_33 fl_X9_13 rfl sc_75 (rt_75_1 hR) ?_
        refine xs_iload_n dX9_pageEnd_36 rfl ?_
        refine xs_iconst (nI 2) dX9_pageEnd_37 (by decide) ?_
        refine xs_iadd dX9_pageEnd_38 ?_
        obtain ⟨s6, h⟩ := h
        refine xs_bald dX9_pageEnd_39 sc_76 s6 ?_
        refine xs_bipush (nI 103) dX9_pageEnd_40 (by decide) ?_
        refine xs_icmp_ne 69 dX9_pageEnd_42 (by decide) (fun c7 => ?_) (fun c7 => ?_)
        · replace h := h.1 c7
          refine xs_iconst (-1 : Int32) dX9_pageEnd_69 (by decide) ?_
          exact xs_ret (some (.int (-1 : Int32))) dX9_pageEnd_70 rfl rfl ⟨hR, _, rfl, h⟩
        · replace h := h.2 c7
          refine xs_aload_n dX9_pageEnd_45 rfl ?_
          refine xs_getR dX9_pageEnd_46 fl_X9_13 rfl sc_75 (rt_75_1 hR) ?_
          refine xs_iload_n dX9_pageEnd_49 rfl ?_
          refine xs_iconst (nI 3) dX9_pageEnd_50 (by decide) ?_
          refine xs_iadd dX9_pageEnd_51 ?_
          obtain ⟨s8, h⟩ := h
          refine xs_bald dX9_pageEnd_52 sc_76 s8 ?_
          refine xs_bipush (nI 83) dX9_pageEnd_53 (by decide) ?_
          refine xs_icmp_ne 69 dX9_pageEnd_55 (by decide) (fun c9 => ?_) (fun c9 => ?_)
          · replace h := h.1 c9
            refine xs_iconst (-1 : Int32) dX9_pageEnd_69 (by decide) ?_
            exact xs_ret (some (.int (-1 : Int32))) dX9_pageEnd_70 rfl rfl ⟨hR, _, rfl, h⟩
          · replace h := h.2 c9
            refine xs_aload_n dX9_pageEnd_58 rfl ?_
            refine xs_getR dX9_pageEnd_59 fl_X9_13 rfl sc_75 (rt_75_1 hR) ?_
            refine xs_iload_n dX9_pageEnd_62 rfl ?_
            refine xs_iconst (nI 4) dX9_pageEnd_63 (by decide) ?_
            refine xs_iadd dX9_pageEnd_64 ?_
            obtain ⟨s10, h⟩ := h
            refine xs_bald dX9_pageEnd_65 sc_76 s10 ?_
            refine xs_if_eq 71 dX9_pageEnd_66 (by decide) (fun c11 => ?_) (fun c11 => ?_)
            · replace h := h.1 c11
              refine xs_aload_n dX9_pageEnd_71 rfl ?_
              refine xs_getR dX9_pageEnd_72 fl_X9_13 rfl sc_75 (rt_75_1 hR) ?_
              refine xs_iload_n dX9_pageEnd_75 rfl ?_
              refine xs_bipush (nI 26) dX9_pageEnd_76 (by decide) ?_
              refine xs_iadd dX9_pageEnd_78 ?_
              obtain ⟨s12, h⟩ := h
              refine xs_bald dX9_pageEnd_79 sc_76 s12 ?_
              refine xs_sipush (nI 255) dX9_pageEnd_80 (by decide) ?_
              refine xs_iand dX9_pageEnd_83 ?_
              refine xs_nmI (fun x13 e_x13 => ?_)
              replace h := h x13 e_x13
              refine xs_istore_n [some (.ref 75), some (.int v1), some (.int v2), some (.int x13), none, none] dX9_pageEnd_84 (by decide) rfl ?_
              refine xs_iload_n dX9_pageEnd_85 rfl ?_
              refine xs_bipush (nI 27) dX9_pageEnd_86 (by decide) ?_
              refine xs_iadd dX9_pageEnd_88 ?_
              refine xs_iload_n dX9_pageEnd_89 rfl ?_
              refine xs_iadd dX9_pageEnd_90 ?_
              refine xs_nmI (fun x14 e_x14 => ?_)
              replace h := h x14 e_x14
              refine xs_istore [some (.ref 75), some (.int v1), some (.int v2), some (.int x13), some (.int x14), none] dX9_pageEnd_91 (by decide) rfl ?_
              refine xs_iload dX9_pageEnd_93 rfl ?_
              refine xs_iload_n dX9_pageEnd_95 rfl ?_
              refine xs_icmp_le 101 dX9_pageEnd_96 (by decide) (fun c15 => ?_) (fun c15 => ?_)
              · replace h := h.1 c15
                refine xs_iconst (nI 0) dX9_pageEnd_101 (by decide) ?_
                refine xs_istore [some (.ref 75), some (.int v1), some (.int v2), some (.int x13), some (.int x14), some (.int (nI 0))] dX9_pageEnd_102 (by decide) rfl ?_
                exact xs_loc [some (.ref 75), some (.int v1), some (.int v2), some (.int x13), some (.int x14), some (.int (nI 0))] ⟨rfl, ⟨rfl, ⟨rfl, ⟨rfl, ⟨rfl, ⟨rfl, trivial⟩⟩⟩⟩⟩⟩ (h hR)
              · replace h := h.2 c15
                refine xs_iconst (-1 : Int32) dX9_pageEnd_99 (by decide) ?_
                exact xs_ret (some (.int (-1 : Int32))) dX9_pageEnd_100 rfl rfl ⟨hR, _, rfl, h⟩
            · replace h := h.2 c11
              refine xs_iconst (-1 : Int32) dX9_pageEnd_69 (by decide) ?_
              exact xs_ret (some (.int (-1 : Int32))) dX9_pageEnd_70 rfl rfl ⟨hR, _, rfl, h⟩
set_option maxHeartbeats 4000000 in
set_option maxRecDepth 100000 in
theorem g_X9_begins {b : Bool} {Q : xm_M → Prop} {μ : xm_M}  
    (h : ∀ m1 : xm_M, m1 = xu_I μ 75 (upd (μ.1 75) 9 (nI 0)) →
      ∀ m2 : xm_M, m2 = xu_I m1 75 (upd (m1.1 75) 10 (nI 0)) →
      Q m2) :
    xCv b b k_X9_begins μ [.ref 75] Q := by
  intro hR
  refine xm_met [some (.ref 75)] 0 (by decide) (by simp [lg_sl, Value.category]) rfl ?_
  refine xs_aload_n dX9_begins_0 rfl ?_
  refine xs_iconst (nI 0) dX9_begins_1 (by decide) ?_
  refine xs_putI dX9_begins_2 fl_X9_131 rfl rfl rfl sc_75 ?_
  refine xs_nmM (fun m1 e_m1 => ?_)
  replace h := h m1 e_m1
  have hR : xs_RT b m1 := by rw [e_m1]; exact hR
  refine xs_aload_n dX9_begins_5 rfl ?_
  refine xs_iconst (nI 0) dX9_begins_6 (by decide) ?_
  refine xs_putI dX9_begins_7 fl_X9_134 rfl rfl rfl sc_75 ?_
  refine xs_nmM (fun m2 e_m2 => ?_)
  replace h := h m2 e_m2
  have hR : xs_RT b m2 := by rw [e_m2]; exact hR
  exact xs_ret none dX9_begins_10 trivial rfl ⟨hR, rfl, h⟩
abbrev hd_X9_laces_7 (b : Bool) (Q : xm_M → Prop)  (v1 : Int32) (v2 : Int32) (v3 : Int32) (μ : xm_M) : Prop := xs_RT b μ → xR k_X9_laces none true (fun r _ μ' => xs_RT b μ' ∧ r = none ∧ Q μ') 7 [some (.ref 75), some (.int v1), some (.int v2), some (.int v3)] [] xs_sh (0, 0) μ
abbrev hd_X9_laces_98 (b : Bool) (Q : xm_M → Prop)  (v3 : Int32) (μ : xm_M) : Prop := xs_RT b μ → xR k_X9_laces none true (fun r _ μ' => xs_RT b μ' ∧ r = none ∧ Q μ') 98 [some (.ref 75), none, none, some (.int v3)] [] xs_sh (0, 0) μ
set_option maxHeartbeats 4000000 in
set_option maxRecDepth 100000 in
theorem l_X9_laces_7 {b : Bool} {Q : xm_M → Prop} {μ : xm_M}  (v1 : Int32) (v2 : Int32) (v3 : Int32) 
    (h : ((v2 ≤ v3 →
       ((¬ v2 = (nI 255) →
        (((μ.1 75 9) ≤ (nI 2000) →
         (((nI 60) ≤ (μ.1 75 7) →
          ∃ Q5 : xm_M → Prop, xCv b b k_X9_begins μ [.ref 75] Q5 ∧
          ∀ m6 : xm_M, Q5 m6 →
          Q m6) ∧
         (¬ (nI 60) ≤ (μ.1 75 7) →
          hd_X9_laces_98 b Q  (nI 0) μ))) ∧
        (¬ (μ.1 75 9) ≤ (nI 2000) →
         vp_in (nI 6) 8 ∧
         vp_in (nI 6) 8 ∧
         ∀ m11 : xm_M, m11 = xu_I μ 82 (upd (μ.1 82) ((nI 6)).toNatClampNeg ((μ.1 82 ((nI 6)).toNatClampNeg) + (nI 1))) →
         ∃ Q12 : xm_M → Prop, xCv b b k_X9_begins m11 [.ref 75] Q12 ∧
         ∀ m13 : xm_M, Q12 m13 →
         Q m13))) ∧
       (v2 = (nI 255) →
        Q μ))) ∧
      (¬ v2 ≤ v3 →
       (((nI 2000) ≤ (μ.1 75 9) →
        ∀ m17 : xm_M, m17 = xu_I μ 75 (upd (μ.1 75) 9 ((μ.1 75 9) + (nI 1))) →
        ∀ x18 : Int32, x18 = v3 + nI 1 →
        hd_X9_laces_7 b Q  v1 v2 x18 m17) ∧
       (¬ (nI 2000) ≤ (μ.1 75 9) →
        vp_in (v1 + v3) 6300 ∧
        vp_in (μ.1 75 9) 2000 ∧
        ∀ m21 : xm_M, m21 = xu_I μ 81 (upd (μ.1 81) ((μ.1 75 9)).toNatClampNeg (vp_nar .byte (μ.1 76 ((v1 + v3)).toNatClampNeg))) →
        ∀ m22 : xm_M, m22 = xu_I m21 75 (upd (m21.1 75) 9 ((m21.1 75 9) + (nI 1))) →
        ∀ x23 : Int32, x23 = v3 + nI 1 →
        hd_X9_laces_7 b Q  v1 v2 x23 m22))))) :
    hd_X9_laces_7 b Q  v1 v2 v3 μ := by
  intro hR
  refine xs_iload_n dX9_laces_7 rfl ?_
  refine xs_iload_n dX9_laces_8 rfl ?_
  refine xs_icmp_ge 55 dX9_laces_9 (by decide) (fun c1 => ?_) (fun c1 => ?_)
  · replace h := h.1 c1
    refine xs_iload_n dX9_laces_55 rfl ?_
    refine xs_sipush (nI 255) dX9_laces_56 (by decide) ?_
    refine xs_icmp_ne 63 dX9_laces_59 (by decide) (fun c2 => ?_) (fun c2 => ?_)
    · replace h := h.1 c2
      refine xs_aload_n dX9_laces_63 rfl ?_
      refine xs_getI dX9_laces_64 fl_X9_131.g rfl sc_75 ?_
      refine xs_sipush (nI 2000) dX9_laces_67 (by decide) ?_
      refine xs_icmp_le 87 dX9_laces_70 (by decide) (fun c3 => ?_) (fun c3 => ?_)
      · replace h := h.1 c3
        refine xs_aload_n dX9_laces_87 rfl ?_
        refine xs_getI dX9_laces_88 fl_X9_138.g rfl sc_75 ?_
        refine xs_bipush (nI 60) dX9_laces_91 (by decide) ?_
        refine xs_icmp_ge 191 dX9_laces_93 (by decide) (fun c4 => ?_) (fun c4 => ?_)
        · replace h := h.1 c4
          refine xs_aload_n dX9_laces_191 rfl ?_
          obtain ⟨Q5, hQ5, h⟩ := h
          refine xs_callV (j := k_X9_begins) (As := []) (S := []) dX9_laces_192 (hQ5 hR) ⟨ml_X9_141, mk_X9_begins.1, mk_X9_begins.2.1, mk_X9_begins.2.2⟩ mv_X9_begins ⟨Nat.le_of_ble_eq_true rfl, Nat.le_of_ble_eq_true rfl⟩ rfl (Nat.le_of_ble_eq_true rfl) sc_75 rfl ⟨rfl, rfl⟩ (fun rr m6 hq8 => ?_)
          obtain ⟨hR, rfl, hq8⟩ := hq8
          replace h := h m6 hq8
          exact xs_ret none dX9_laces_195 trivial rfl ⟨hR, rfl, h⟩
        · replace h := h.2 c4
          refine xs_iconst (nI 0) dX9_laces_96 (by decide) ?_
          refine xs_istore_n [some (.ref 75), some (.int v1), some (.int v2), some (.int (nI 0))] dX9_laces_97 (by decide) rfl ?_
          exact xs_loc [some (.ref 75), none, none, some (.int (nI 0))] ⟨rfl, ⟨rfl, trivial⟩⟩ (h hR)
      · replace h := h.2 c3
        refine xs_aload_n dX9_laces_73 rfl ?_
        refine xs_getR dX9_laces_74 fl_X9_35 rfl sc_75 (rt_75_11 hR) ?_
        refine xs_bipush (nI 6) dX9_laces_77 (by decide) ?_
        refine xs_dup2 dX9_laces_79 rfl rfl ?_
        obtain ⟨s9, h⟩ := h
        refine xs_iald dX9_laces_80 sc_82 s9 ?_
        refine xs_iconst (nI 1) dX9_laces_81 (by decide) ?_
        refine xs_iadd dX9_laces_82 ?_
        obtain ⟨s10, h⟩ := h
        refine xs_iast dX9_laces_83 sc_82 s10 ?_
        refine xs_nmM (fun m11 e_m11 => ?_)
        replace h := h m11 e_m11
        have hR : xs_RT b m11 := by rw [e_m11]; exact hR
        refine xs_goto 191 dX9_laces_84 (by decide) ?_
        refine xs_aload_n dX9_laces_191 rfl ?_
        obtain ⟨Q12, hQ12, h⟩ := h
        refine xs_callV (j := k_X9_begins) (As := []) (S := []) dX9_laces_192 (hQ12 hR) ⟨ml_X9_141, mk_X9_begins.1, mk_X9_begins.2.1, mk_X9_begins.2.2⟩ mv_X9_begins ⟨Nat.le_of_ble_eq_true rfl, Nat.le_of_ble_eq_true rfl⟩ rfl (Nat.le_of_ble_eq_true rfl) sc_75 rfl ⟨rfl, rfl⟩ (fun rr m13 hq15 => ?_)
        obtain ⟨hR, rfl, hq15⟩ := hq15
        replace h := h m13 hq15
        exact xs_ret none dX9_laces_195 trivial rfl ⟨hR, rfl, h⟩
    · replace h := h.2 c2
      exact xs_ret none dX9_laces_62 trivial rfl ⟨hR, rfl, h⟩
  · replace h := h.2 c1
    refine xs_aload_n dX9_laces_12 rfl ?_
    refine xs_getI dX9_laces_13 fl_X9_131.g rfl sc_75 ?_
    refine xs_sipush (nI 2000) dX9_laces_16 (by decide) ?_
    refine xs_icmp_ge 39 dX9_laces_19 (by decide) (fun c16 => ?_) (fun c16 => ?_)
    · replace h := h.1 c16
      refine xs_aload_n dX9_laces_39 rfl ?_
      refine xs_dup dX9_laces_40 rfl ?_
      refine xs_getI dX9_laces_41 fl_X9_131.g rfl sc_75 ?_
      refine xs_iconst (nI 1) dX9_laces_44 (by decide) ?_
      refine xs_iadd dX9_laces_45 ?_
      refine xs_putI dX9_laces_46 fl_X9_131 rfl rfl rfl sc_75 ?_
      refine xs_nmM (fun m17 e_m17 => ?_)
      replace h := h m17 e_m17
      have hR : xs_RT b m17 := by rw [e_m17]; exact hR
      obtain ⟨x18, e_x18⟩ : ∃ z : Int32, z = v3 + nI 1 := ⟨_, rfl⟩
      replace h := h x18 e_x18
      refine xs_iinc x18 [some (.ref 75), some (.int v1), some (.int v2), some (.int x18)] dX9_laces_49 (by decide) rfl (by rw [e_x18]; rfl) rfl ?_
      refine xs_goto 7 dX9_laces_52 (by decide) ?_
      exact xs_loc [some (.ref 75), some (.int v1), some (.int v2), some (.int x18)] ⟨rfl, ⟨rfl, ⟨rfl, ⟨rfl, trivial⟩⟩⟩⟩ (h hR)
    · replace h := h.2 c16
      refine xs_aload_n dX9_laces_22 rfl ?_
      refine xs_getR dX9_laces_23 fl_X9_32 rfl sc_75 (rt_75_8 hR) ?_
      refine xs_aload_n dX9_laces_26 rfl ?_
      refine xs_getI dX9_laces_27 fl_X9_131.g rfl sc_75 ?_
      refine xs_aload_n dX9_laces_30 rfl ?_
      refine xs_getR dX9_laces_31 fl_X9_13 rfl sc_75 (rt_75_1 hR) ?_
      refine xs_iload_n dX9_laces_34 rfl ?_
      refine xs_iload_n dX9_laces_35 rfl ?_
      refine xs_iadd dX9_laces_36 ?_
      obtain ⟨s19, h⟩ := h
      refine xs_bald dX9_laces_37 sc_76 s19 ?_
      obtain ⟨s20, h⟩ := h
      refine xs_bast dX9_laces_38 sc_81 s20 ?_
      refine xs_nmM (fun m21 e_m21 => ?_)
      replace h := h m21 e_m21
      have hR : xs_RT b m21 := by rw [e_m21]; exact hR
      refine xs_aload_n dX9_laces_39 rfl ?_
      refine xs_dup dX9_laces_40 rfl ?_
      refine xs_getI dX9_laces_41 fl_X9_131.g rfl sc_75 ?_
      refine xs_iconst (nI 1) dX9_laces_44 (by decide) ?_
      refine xs_iadd dX9_laces_45 ?_
      refine xs_putI dX9_laces_46 fl_X9_131 rfl rfl rfl sc_75 ?_
      refine xs_nmM (fun m22 e_m22 => ?_)
      replace h := h m22 e_m22
      have hR : xs_RT b m22 := by rw [e_m22]; exact hR
      obtain ⟨x23, e_x23⟩ : ∃ z : Int32, z = v3 + nI 1 := ⟨_, rfl⟩
      replace h := h x23 e_x23
      refine xs_iinc x23 [some (.ref 75), some (.int v1), some (.int v2), some (.int x23)] dX9_laces_49 (by decide) rfl (by rw [e_x23]; rfl) rfl ?_
      refine xs_goto 7 dX9_laces_52 (by decide) ?_
      exact xs_loc [some (.ref 75), some (.int v1), some (.int v2), some (.int x23)] ⟨rfl, ⟨rfl, ⟨rfl, ⟨rfl, trivial⟩⟩⟩⟩ (h hR)
set_option maxHeartbeats 4000000 in
set_option maxRecDepth 100000 in
theorem l_X9_laces_98 {b : Bool} {Q : xm_M → Prop} {μ : xm_M}  (v3 : Int32) 
    (h : (((μ.1 75 9) ≤ v3 →
       vp_in (μ.1 75 7) 61 ∧
       ∀ m3 : xm_M, m3 = xu_I μ 80 (upd (μ.1 80) ((μ.1 75 7)).toNatClampNeg (μ.1 75 9)) →
       vp_in (nI 7) 8 ∧
       (((m3.1 75 9) ≤ (m3.1 82 ((nI 7)).toNatClampNeg) →
        vp_in (nI 7) 8 ∧
        vp_in (nI 7) 8 ∧
        ∀ m8 : xm_M, m8 = xu_I m3 82 (upd (m3.1 82) ((nI 7)).toNatClampNeg (m3.1 82 ((nI 7)).toNatClampNeg)) →
        ∀ m9 : xm_M, m9 = xu_I m8 75 (upd (m8.1 75) 7 ((m8.1 75 7) + (nI 1))) →
        ∃ Q10 : xm_M → Prop, xCv b b k_X9_begins m9 [.ref 75] Q10 ∧
        ∀ m11 : xm_M, Q10 m11 →
        Q m11) ∧
       (¬ (m3.1 75 9) ≤ (m3.1 82 ((nI 7)).toNatClampNeg) →
        vp_in (nI 7) 8 ∧
        ∀ m15 : xm_M, m15 = xu_I m3 82 (upd (m3.1 82) ((nI 7)).toNatClampNeg (m3.1 75 9)) →
        ∀ m16 : xm_M, m16 = xu_I m15 75 (upd (m15.1 75) 7 ((m15.1 75 7) + (nI 1))) →
        ∃ Q17 : xm_M → Prop, xCv b b k_X9_begins m16 [.ref 75] Q17 ∧
        ∀ m18 : xm_M, Q17 m18 →
        Q m18))) ∧
      (¬ (μ.1 75 9) ≤ v3 →
       vp_in v3 2000 ∧
       vp_in (((nI 2000) * (μ.1 75 7)) + v3) 120000 ∧
       ∀ m23 : xm_M, m23 = xu_I μ 79 (upd (μ.1 79) ((((nI 2000) * (μ.1 75 7)) + v3)).toNatClampNeg (vp_nar .byte (μ.1 81 (v3).toNatClampNeg))) →
       ∀ x24 : Int32, x24 = v3 + nI 1 →
       hd_X9_laces_98 b Q  x24 m23))) :
    hd_X9_laces_98 b Q  v3 μ := by
  intro hR
  refine xs_iload_n dX9_laces_98 rfl ?_
  refine xs_aload_n dX9_laces_99 rfl ?_
  refine xs_getI dX9_laces_100 fl_X9_131.g rfl sc_75 ?_
  refine xs_icmp_ge 133 dX9_laces_103 (by decide) (fun c1 => ?_) (fun c1 => ?_)
  · replace h := h.1 c1
    refine xs_aload_n dX9_laces_133 rfl ?_
    refine xs_getR dX9_laces_134 fl_X9_29 rfl sc_75 (rt_75_6 hR) ?_
    refine xs_aload_n dX9_laces_137 rfl ?_
    refine xs_getI dX9_laces_138 fl_X9_138.g rfl sc_75 ?_
    refine xs_aload_n dX9_laces_141 rfl ?_
    refine xs_getI dX9_laces_142 fl_X9_131.g rfl sc_75 ?_
    obtain ⟨s2, h⟩ := h
    refine xs_iast dX9_laces_145 sc_80 s2 ?_
    refine xs_nmM (fun m3 e_m3 => ?_)
    replace h := h m3 e_m3
    have hR : xs_RT b m3 := by rw [e_m3]; exact hR
    refine xs_aload_n dX9_laces_146 rfl ?_
    refine xs_getR dX9_laces_147 fl_X9_35 rfl sc_75 (rt_75_11 hR) ?_
    refine xs_bipush (nI 7) dX9_laces_150 (by decide) ?_
    refine xs_aload_n dX9_laces_152 rfl ?_
    refine xs_getI dX9_laces_153 fl_X9_131.g rfl sc_75 ?_
    refine xs_aload_n dX9_laces_156 rfl ?_
    refine xs_getR dX9_laces_157 fl_X9_35 rfl sc_75 (rt_75_11 hR) ?_
    refine xs_bipush (nI 7) dX9_laces_160 (by decide) ?_
    obtain ⟨s4, h⟩ := h
    refine xs_iald dX9_laces_162 sc_82 s4 ?_
    refine xs_icmp_le 173 dX9_laces_163 (by decide) (fun c5 => ?_) (fun c5 => ?_)
    · replace h := h.1 c5
      refine xs_aload_n dX9_laces_173 rfl ?_
      refine xs_getR dX9_laces_174 fl_X9_35 rfl sc_75 (rt_75_11 hR) ?_
      refine xs_bipush (nI 7) dX9_laces_177 (by decide) ?_
      obtain ⟨s6, h⟩ := h
      refine xs_iald dX9_laces_179 sc_82 s6 ?_
      obtain ⟨s7, h⟩ := h
      refine xs_iast dX9_laces_180 sc_82 s7 ?_
      refine xs_nmM (fun m8 e_m8 => ?_)
      replace h := h m8 e_m8
      have hR : xs_RT b m8 := by rw [e_m8]; exact hR
      refine xs_aload_n dX9_laces_181 rfl ?_
      refine xs_dup dX9_laces_182 rfl ?_
      refine xs_getI dX9_laces_183 fl_X9_138.g rfl sc_75 ?_
      refine xs_iconst (nI 1) dX9_laces_186 (by decide) ?_
      refine xs_iadd dX9_laces_187 ?_
      refine xs_putI dX9_laces_188 fl_X9_138 rfl rfl rfl sc_75 ?_
      refine xs_nmM (fun m9 e_m9 => ?_)
      replace h := h m9 e_m9
      have hR : xs_RT b m9 := by rw [e_m9]; exact hR
      refine xs_aload_n dX9_laces_191 rfl ?_
      obtain ⟨Q10, hQ10, h⟩ := h
      refine xs_callV (j := k_X9_begins) (As := []) (S := []) dX9_laces_192 (hQ10 hR) ⟨ml_X9_141, mk_X9_begins.1, mk_X9_begins.2.1, mk_X9_begins.2.2⟩ mv_X9_begins ⟨Nat.le_of_ble_eq_true rfl, Nat.le_of_ble_eq_true rfl⟩ rfl (Nat.le_of_ble_eq_true rfl) sc_75 rfl ⟨rfl, rfl⟩ (fun rr m11 hq13 => ?_)
      obtain ⟨hR, rfl, hq13⟩ := hq13
      replace h := h m11 hq13
      exact xs_ret none dX9_laces_195 trivial rfl ⟨hR, rfl, h⟩
    · replace h := h.2 c5
      refine xs_aload_n dX9_laces_166 rfl ?_
      refine xs_getI dX9_laces_167 fl_X9_131.g rfl sc_75 ?_
      refine xs_goto 180 dX9_laces_170 (by decide) ?_
      obtain ⟨s14, h⟩ := h
      refine xs_iast dX9_laces_180 sc_82 s14 ?_
      refine xs_nmM (fun m15 e_m15 => ?_)
      replace h := h m15 e_m15
      have hR : xs_RT b m15 := by rw [e_m15]; exact hR
      refine xs_aload_n dX9_laces_181 rfl ?_
      refine xs_dup dX9_laces_182 rfl ?_
      refine xs_getI dX9_laces_183 fl_X9_138.g rfl sc_75 ?_
      refine xs_iconst (nI 1) dX9_laces_186 (by decide) ?_
      refine xs_iadd dX9_laces_187 ?_
      refine xs_putI dX9_laces_188 fl_X9_138 rfl rfl rfl sc_75 ?_
      refine xs_nmM (fun m16 e_m16 => ?_)
      replace h := h m16 e_m16
      have hR : xs_RT b m16 := by rw [e_m16]; exact hR
      refine xs_aload_n dX9_laces_191 rfl ?_
      obtain ⟨Q17, hQ17, h⟩ := h
      refine xs_callV (j := k_X9_begins) (As := []) (S := []) dX9_laces_192 (hQ17 hR) ⟨ml_X9_141, mk_X9_begins.1, mk_X9_begins.2.1, mk_X9_begins.2.2⟩ mv_X9_begins ⟨Nat.le_of_ble_eq_true rfl, Nat.le_of_ble_eq_true rfl⟩ rfl (Nat.le_of_ble_eq_true rfl) sc_75 rfl ⟨rfl, rfl⟩ (fun rr m18 hq20 => ?_)
      obtain ⟨hR, rfl, hq20⟩ := hq20
      replace h := h m18 hq20
      exact xs_ret none dX9_laces_195 trivial rfl ⟨hR, rfl, h⟩
  · replace h := h.2 c1
    refine xs_aload_n dX9_laces_106 rfl ?_
    refine xs_getR dX9_laces_107 fl_X9_26 rfl sc_75 (rt_75_5 hR) ?_
    refine xs_sipush (nI 2000) dX9_laces_110 (by decide) ?_
    refine xs_aload_n dX9_laces_113 rfl ?_
    refine xs_getI dX9_laces_114 fl_X9_138.g rfl sc_75 ?_
    refine xs_imul dX9_laces_117 ?_
    refine xs_iload_n dX9_laces_118 rfl ?_
    refine xs_iadd dX9_laces_119 ?_
    refine xs_aload_n dX9_laces_120 rfl ?_
    refine xs_getR dX9_laces_121 fl_X9_32 rfl sc_75 (rt_75_8 hR) ?_
    refine xs_iload_n dX9_laces_124 rfl ?_
    obtain ⟨s21, h⟩ := h
    refine xs_bald dX9_laces_125 sc_81 s21 ?_
    obtain ⟨s22, h⟩ := h
    refine xs_bast dX9_laces_126 sc_79 s22 ?_
    refine xs_nmM (fun m23 e_m23 => ?_)
    replace h := h m23 e_m23
    have hR : xs_RT b m23 := by rw [e_m23]; exact hR
    obtain ⟨x24, e_x24⟩ : ∃ z : Int32, z = v3 + nI 1 := ⟨_, rfl⟩
    replace h := h x24 e_x24
    refine xs_iinc x24 [some (.ref 75), none, none, some (.int x24)] dX9_laces_127 (by decide) rfl (by rw [e_x24]; rfl) rfl ?_
    refine xs_goto 98 dX9_laces_130 (by decide) ?_
    exact xs_loc [some (.ref 75), none, none, some (.int x24)] ⟨rfl, ⟨rfl, trivial⟩⟩ (h hR)
set_option maxHeartbeats 4000000 in
set_option maxRecDepth 100000 in
theorem g_X9_laces {b : Bool} {Q : xm_M → Prop} {μ : xm_M} (v1 : Int32) (v2 : Int32) 
    (h : ∀ m1 : xm_M, m1 = xu_I μ 75 (upd (μ.1 75) 10 (nI 1)) →
      hd_X9_laces_7 b Q  v1 v2 (nI 0) m1) :
    xCv b b k_X9_laces μ [.ref 75, .int v1, .int v2] Q := by
  intro hR
  refine xm_met [some (.ref 75), some (.int v1), some (.int v2), none] 1 (by decide) (by simp [lg_sl, Value.category]) rfl ?_
  refine xs_aload_n dX9_laces_0 rfl ?_
  refine xs_iconst (nI 1) dX9_laces_1 (by decide) ?_
  refine xs_putI dX9_laces_2 fl_X9_134 rfl rfl rfl sc_75 ?_
  refine xs_nmM (fun m1 e_m1 => ?_)
  replace h := h m1 e_m1
  have hR : xs_RT b m1 := by rw [e_m1]; exact hR
  refine xs_iconst (nI 0) dX9_laces_5 (by decide) ?_
  refine xs_istore_n [some (.ref 75), some (.int v1), some (.int v2), some (.int (nI 0))] dX9_laces_6 (by decide) rfl ?_
  exact xs_loc [some (.ref 75), some (.int v1), some (.int v2), some (.int (nI 0))] ⟨rfl, ⟨rfl, ⟨rfl, ⟨rfl, trivial⟩⟩⟩⟩ (h hR)
