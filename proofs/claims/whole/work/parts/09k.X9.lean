/-! walks of k.X9, printed by wip/gen/mkwalk.py -/
abbrev hd_X9_entry_5 (b : Bool) (Q : Int32 → xm_M → Prop)  (v1 : Int32) (v2 : Int32) (v3 : Int32) (μ : xm_M) : Prop := xs_RT b μ → xR k_X9_entry none true (fun r _ μ' => xs_RT b μ' ∧ ∃ x : Int32, r = some (.int x) ∧ Q x μ') 5 [some (.ref 75), some (.int v1), some (.int v2), some (.int v3), none] [] xs_sh (0, 0) μ
set_option maxHeartbeats 4000000 in
set_option maxRecDepth 100000 in
theorem l_X9_entry_5 {b : Bool} {Q : Int32 → xm_M → Prop} {μ : xm_M}  (v1 : Int32) (v2 : Int32) (v3 : Int32) 
    (h : ((v3 < 0 →
       ∀ m2 : xm_M, m2 = xu_I μ 75 (upd (μ.1 75) 17 (nI 1)) →
       Q (-1 : Int32) m2) ∧
      (¬ v3 < 0 →
       ∃ Q3 : Int32 → xm_M → Prop, xCi b b k_X9_bit μ [.ref 75] Q3 ∧
       ∀ (r5 : Int32) (m4 : xm_M), Q3 r5 m4 →
       ∀ x7 : Int32, x7 = (v2 ||| (r5 <<< (v3 &&& 31))) →
       (((m4.1 75 17) = 0 →
        vp_in (((nI 32768) * v1) + x7) 262144 ∧
        (((m4.1 92 ((((nI 32768) * v1) + x7)).toNatClampNeg) < 0 →
         vp_in v1 8 ∧
         ((¬ (m4.1 85 (v1).toNatClampNeg) = (nI 1) →
          ∀ x13 : Int32, x13 = v3 + (-1) →
          hd_X9_entry_5 b Q  v1 x7 x13 m4) ∧
         ((m4.1 85 (v1).toNatClampNeg) = (nI 1) →
          ∀ m14 : xm_M, m14 = xu_I m4 75 (upd (m4.1 75) 17 (nI 1)) →
          Q (-1 : Int32) m14))) ∧
        (¬ (m4.1 92 ((((nI 32768) * v1) + x7)).toNatClampNeg) < 0 →
         vp_in (((nI 64) * v1) + (m4.1 92 ((((nI 32768) * v1) + x7)).toNatClampNeg)) 512 ∧
         ((¬ (m4.1 93 ((((nI 64) * v1) + (m4.1 92 ((((nI 32768) * v1) + x7)).toNatClampNeg))).toNatClampNeg) = ((nI 15) - v3) →
          vp_in v1 8 ∧
          ((¬ (m4.1 85 (v1).toNatClampNeg) = (nI 1) →
           ∀ x19 : Int32, x19 = v3 + (-1) →
           hd_X9_entry_5 b Q  v1 x7 x19 m4) ∧
          ((m4.1 85 (v1).toNatClampNeg) = (nI 1) →
           ∀ m20 : xm_M, m20 = xu_I m4 75 (upd (m4.1 75) 17 (nI 1)) →
           Q (-1 : Int32) m20))) ∧
         ((m4.1 93 ((((nI 64) * v1) + (m4.1 92 ((((nI 32768) * v1) + x7)).toNatClampNeg))).toNatClampNeg) = ((nI 15) - v3) →
          Q (m4.1 92 ((((nI 32768) * v1) + x7)).toNatClampNeg) m4))))) ∧
       (¬ (m4.1 75 17) = 0 →
        Q (-1 : Int32) m4))))) :
    hd_X9_entry_5 b Q  v1 v2 v3 μ := by
  intro hR
  refine xs_iload_n dX9_entry_5 rfl ?_
  refine xs_if_lt 90 dX9_entry_6 (by decide) (fun c1 => ?_) (fun c1 => ?_)
  · replace h := h.1 c1
    refine xs_aload_n dX9_entry_90 rfl ?_
    refine xs_iconst (nI 1) dX9_entry_91 (by decide) ?_
    refine xs_putI dX9_entry_92 fl_X9_174 rfl rfl rfl sc_75 ?_
    refine xs_nmM (fun m2 e_m2 => ?_)
    replace h := h m2 e_m2
    have hR : xs_RT b m2 := by rw [e_m2]; exact hR
    refine xs_iconst (-1 : Int32) dX9_entry_95 (by decide) ?_
    exact xs_ret (some (.int (-1 : Int32))) dX9_entry_96 rfl rfl ⟨hR, _, rfl, h⟩
  · replace h := h.2 c1
    refine xs_iload_n dX9_entry_9 rfl ?_
    refine xs_aload_n dX9_entry_10 rfl ?_
    obtain ⟨Q3, hQ3, h⟩ := h
    refine xs_callV (j := k_X9_bit) (As := []) (S := [.int v2]) dX9_entry_11 (hQ3 hR) ⟨ml_X9_177, mk_X9_bit.1, mk_X9_bit.2.1, mk_X9_bit.2.2⟩ mv_X9_bit ⟨Nat.le_of_ble_eq_true rfl, Nat.le_of_ble_eq_true rfl⟩ rfl (Nat.le_of_ble_eq_true rfl) sc_75 rfl ⟨rfl, rfl⟩ (fun rr m4 hq6 => ?_)
    obtain ⟨hR, r5, rfl, hq6⟩ := hq6
    replace h := h r5 m4 hq6
    refine xs_iload_n dX9_entry_14 rfl ?_
    refine xs_ishl dX9_entry_15 ?_
    refine xs_ior dX9_entry_16 ?_
    refine xs_nmI (fun x7 e_x7 => ?_)
    replace h := h x7 e_x7
    refine xs_istore_n [some (.ref 75), some (.int v1), some (.int x7), some (.int v3), none] dX9_entry_17 (by decide) rfl ?_
    refine xs_aload_n dX9_entry_18 rfl ?_
    refine xs_getI dX9_entry_19 fl_X9_174.g rfl sc_75 ?_
    refine xs_if_eq 27 dX9_entry_22 (by decide) (fun c8 => ?_) (fun c8 => ?_)
    · replace h := h.1 c8
      refine xs_aload_n dX9_entry_27 rfl ?_
      refine xs_getR dX9_entry_28 fl_X9_67 rfl sc_75 (rt_75_29 hR) ?_
      refine xs_ldc dX9_entry_31 cn_X9_188 ?_
      refine xs_iload_n dX9_entry_33 rfl ?_
      refine xs_imul dX9_entry_34 ?_
      refine xs_iload_n dX9_entry_35 rfl ?_
      refine xs_iadd dX9_entry_36 ?_
      obtain ⟨s9, h⟩ := h
      refine xs_bald dX9_entry_37 sc_92 s9 ?_
      refine xs_istore [some (.ref 75), some (.int v1), some (.int x7), some (.int v3), some (.int (m4.1 92 ((((nI 32768) * v1) + x7)).toNatClampNeg))] dX9_entry_38 (by decide) rfl ?_
      refine xs_iload dX9_entry_40 rfl ?_
      refine xs_if_lt 67 dX9_entry_42 (by decide) (fun c10 => ?_) (fun c10 => ?_)
      · replace h := h.1 c10
        refine xs_aload_n dX9_entry_67 rfl ?_
        refine xs_getR dX9_entry_68 fl_X9_44 rfl sc_75 (rt_75_22 hR) ?_
        refine xs_iload_n dX9_entry_71 rfl ?_
        obtain ⟨s11, h⟩ := h
        refine xs_iald dX9_entry_72 sc_85 s11 ?_
        refine xs_iconst (nI 1) dX9_entry_73 (by decide) ?_
        refine xs_icmp_ne 84 dX9_entry_74 (by decide) (fun c12 => ?_) (fun c12 => ?_)
        · replace h := h.1 c12
          obtain ⟨x13, e_x13⟩ : ∃ z : Int32, z = v3 + (-1) := ⟨_, rfl⟩
          replace h := h x13 e_x13
          refine xs_iinc x13 [some (.ref 75), some (.int v1), some (.int x7), some (.int x13), some (.int (m4.1 92 ((((nI 32768) * v1) + x7)).toNatClampNeg))] dX9_entry_84 (by decide) rfl (by rw [e_x13]; rfl) rfl ?_
          refine xs_goto 5 dX9_entry_87 (by decide) ?_
          exact xs_loc [some (.ref 75), some (.int v1), some (.int x7), some (.int x13), none] ⟨rfl, ⟨rfl, ⟨rfl, ⟨rfl, trivial⟩⟩⟩⟩ (h hR)
        · replace h := h.2 c12
          refine xs_aload_n dX9_entry_77 rfl ?_
          refine xs_iconst (nI 1) dX9_entry_78 (by decide) ?_
          refine xs_putI dX9_entry_79 fl_X9_174 rfl rfl rfl sc_75 ?_
          refine xs_nmM (fun m14 e_m14 => ?_)
          replace h := h m14 e_m14
          have hR : xs_RT b m14 := by rw [e_m14]; exact hR
          refine xs_iconst (-1 : Int32) dX9_entry_82 (by decide) ?_
          exact xs_ret (some (.int (-1 : Int32))) dX9_entry_83 rfl rfl ⟨hR, _, rfl, h⟩
      · replace h := h.2 c10
        refine xs_aload_n dX9_entry_45 rfl ?_
        refine xs_getR dX9_entry_46 fl_X9_70 rfl sc_75 (rt_75_30 hR) ?_
        refine xs_bipush (nI 64) dX9_entry_49 (by decide) ?_
        refine xs_iload_n dX9_entry_51 rfl ?_
        refine xs_imul dX9_entry_52 ?_
        refine xs_iload dX9_entry_53 rfl ?_
        refine xs_iadd dX9_entry_55 ?_
        obtain ⟨s15, h⟩ := h
        refine xs_bald dX9_entry_56 sc_93 s15 ?_
        refine xs_bipush (nI 15) dX9_entry_57 (by decide) ?_
        refine xs_iload_n dX9_entry_59 rfl ?_
        refine xs_isub dX9_entry_60 ?_
        refine xs_icmp_ne 67 dX9_entry_61 (by decide) (fun c16 => ?_) (fun c16 => ?_)
        · replace h := h.1 c16
          refine xs_aload_n dX9_entry_67 rfl ?_
          refine xs_getR dX9_entry_68 fl_X9_44 rfl sc_75 (rt_75_22 hR) ?_
          refine xs_iload_n dX9_entry_71 rfl ?_
          obtain ⟨s17, h⟩ := h
          refine xs_iald dX9_entry_72 sc_85 s17 ?_
          refine xs_iconst (nI 1) dX9_entry_73 (by decide) ?_
          refine xs_icmp_ne 84 dX9_entry_74 (by decide) (fun c18 => ?_) (fun c18 => ?_)
          · replace h := h.1 c18
            obtain ⟨x19, e_x19⟩ : ∃ z : Int32, z = v3 + (-1) := ⟨_, rfl⟩
            replace h := h x19 e_x19
            refine xs_iinc x19 [some (.ref 75), some (.int v1), some (.int x7), some (.int x19), some (.int (m4.1 92 ((((nI 32768) * v1) + x7)).toNatClampNeg))] dX9_entry_84 (by decide) rfl (by rw [e_x19]; rfl) rfl ?_
            refine xs_goto 5 dX9_entry_87 (by decide) ?_
            exact xs_loc [some (.ref 75), some (.int v1), some (.int x7), some (.int x19), none] ⟨rfl, ⟨rfl, ⟨rfl, ⟨rfl, trivial⟩⟩⟩⟩ (h hR)
          · replace h := h.2 c18
            refine xs_aload_n dX9_entry_77 rfl ?_
            refine xs_iconst (nI 1) dX9_entry_78 (by decide) ?_
            refine xs_putI dX9_entry_79 fl_X9_174 rfl rfl rfl sc_75 ?_
            refine xs_nmM (fun m20 e_m20 => ?_)
            replace h := h m20 e_m20
            have hR : xs_RT b m20 := by rw [e_m20]; exact hR
            refine xs_iconst (-1 : Int32) dX9_entry_82 (by decide) ?_
            exact xs_ret (some (.int (-1 : Int32))) dX9_entry_83 rfl rfl ⟨hR, _, rfl, h⟩
        · replace h := h.2 c16
          refine xs_iload dX9_entry_64 rfl ?_
          exact xs_ret (some (.int (m4.1 92 ((((nI 32768) * v1) + x7)).toNatClampNeg))) dX9_entry_66 rfl rfl ⟨hR, _, rfl, h⟩
    · replace h := h.2 c8
      refine xs_iconst (-1 : Int32) dX9_entry_25 (by decide) ?_
      exact xs_ret (some (.int (-1 : Int32))) dX9_entry_26 rfl rfl ⟨hR, _, rfl, h⟩
set_option maxHeartbeats 4000000 in
set_option maxRecDepth 100000 in
theorem g_X9_entry {b : Bool} {Q : Int32 → xm_M → Prop} {μ : xm_M} (v1 : Int32) 
    (h : hd_X9_entry_5 b Q  v1 (nI 0) (nI 14) μ) :
    xCi b b k_X9_entry μ [.ref 75, .int v1] Q := by
  intro hR
  refine xm_met [some (.ref 75), some (.int v1), none, none, none] 3 (by decide) (by simp [lg_sl, Value.category]) rfl ?_
  refine xs_iconst (nI 0) dX9_entry_0 (by decide) ?_
  refine xs_istore_n [some (.ref 75), some (.int v1), some (.int (nI 0)), none, none] dX9_entry_1 (by decide) rfl ?_
  refine xs_bipush (nI 14) dX9_entry_2 (by decide) ?_
  refine xs_istore_n [some (.ref 75), some (.int v1), some (.int (nI 0)), some (.int (nI 14)), none] dX9_entry_4 (by decide) rfl ?_
  exact xs_loc [some (.ref 75), some (.int v1), some (.int (nI 0)), some (.int (nI 14)), none] ⟨rfl, ⟨rfl, ⟨rfl, ⟨rfl, trivial⟩⟩⟩⟩ (h hR)
abbrev hd_X9_setup_34 (b : Bool) (Q : xm_M → Prop)   (μ : xm_M) : Prop := xs_RT b μ → xR k_X9_setup none true (fun r _ μ' => xs_RT b μ' ∧ r = none ∧ Q μ') 34 [some (.ref 75), none, none] [] xs_sh (0, 0) μ
abbrev hd_X9_setup_69 (b : Bool) (Q : xm_M → Prop)  (v2 : Int32) (μ : xm_M) : Prop := xs_RT b μ → xR k_X9_setup none true (fun r _ μ' => xs_RT b μ' ∧ r = none ∧ Q μ') 69 [some (.ref 75), none, some (.int v2)] [] xs_sh (0, 0) μ
abbrev hd_X9_setup_95 (b : Bool) (Q : xm_M → Prop)   (μ : xm_M) : Prop := xs_RT b μ → xR k_X9_setup none true (fun r _ μ' => xs_RT b μ' ∧ r = none ∧ Q μ') 95 [some (.ref 75), none, none] [] xs_sh (0, 0) μ
abbrev hd_X9_setup_159 (b : Bool) (Q : xm_M → Prop)   (μ : xm_M) : Prop := xs_RT b μ → xR k_X9_setup none true (fun r _ μ' => xs_RT b μ' ∧ r = none ∧ Q μ') 159 [some (.ref 75), none, none] [] xs_sh (0, 0) μ
abbrev hd_X9_setup_176 (b : Bool) (Q : xm_M → Prop)  (v2 : Int32) (μ : xm_M) : Prop := xs_RT b μ → xR k_X9_setup none true (fun r _ μ' => xs_RT b μ' ∧ r = none ∧ Q μ') 176 [some (.ref 75), none, some (.int v2)] [] xs_sh (0, 0) μ
abbrev hd_X9_setup_204 (b : Bool) (Q : xm_M → Prop)   (μ : xm_M) : Prop := xs_RT b μ → xR k_X9_setup none true (fun r _ μ' => xs_RT b μ' ∧ r = none ∧ Q μ') 204 [some (.ref 75), none, none] [] xs_sh (0, 0) μ
abbrev hd_X9_setup_270 (b : Bool) (Q : xm_M → Prop)   (μ : xm_M) : Prop := xs_RT b μ → xR k_X9_setup none true (fun r _ μ' => xs_RT b μ' ∧ r = none ∧ Q μ') 270 [some (.ref 75), none, none] [] xs_sh (0, 0) μ
abbrev hd_X9_setup_272 (b : Bool) (Q : xm_M → Prop)  (v2 : Int32) (μ : xm_M) : Prop := xs_RT b μ → xR k_X9_setup none true (fun r _ μ' => xs_RT b μ' ∧ r = none ∧ Q μ') 272 [some (.ref 75), none, some (.int v2)] [] xs_sh (0, 0) μ
abbrev hd_X9_setup_298 (b : Bool) (Q : xm_M → Prop)   (μ : xm_M) : Prop := xs_RT b μ → xR k_X9_setup none true (fun r _ μ' => xs_RT b μ' ∧ r = none ∧ Q μ') 298 [some (.ref 75), none, none] [] xs_sh (0, 0) μ
set_option maxHeartbeats 4000000 in
set_option maxRecDepth 100000 in
theorem l_X9_setup_34 {b : Bool} {Q : xm_M → Prop} {μ : xm_M}   
    (h : (((μ.1 75 19) ≤ 0 →
       ∃ Q2 : Int32 → xm_M → Prop, xCi b b k_X9_bit μ [.ref 75] Q2 ∧
       ∀ (r4 : Int32) (m3 : xm_M), Q2 r4 m3 →
       ∀ m6 : xm_M, m6 = xu_I m3 75 (upd (m3.1 75) 31 ((nI 1) + r4)) →
       ∃ Q7 : Int32 → xm_M → Prop, xCi b b k_X9_bits m6 [.ref 75, .int (nI 3)] Q7 ∧
       ∀ (r9 : Int32) (m8 : xm_M), Q7 r9 m8 →
       ∀ m11 : xm_M, m11 = xu_I m8 75 (upd (m8.1 75) 18 ((nI 1) + r9)) →
       ∃ Q12 : xm_M → Prop, xCv b b k_X9_ended m11 [.ref 75] Q12 ∧
       ∀ m13 : xm_M, Q12 m13 →
       hd_X9_setup_69 b Q  (nI 0) m13) ∧
      (¬ (μ.1 75 19) ≤ 0 →
       Q μ))) :
    hd_X9_setup_34 b Q   μ := by
  intro hR
  refine xs_aload_n dX9_setup_34 rfl ?_
  refine xs_getI dX9_setup_35 fl_X9_181.g rfl sc_75 ?_
  refine xs_if_le 42 dX9_setup_38 (by decide) (fun c1 => ?_) (fun c1 => ?_)
  · replace h := h.1 c1
    refine xs_aload_n dX9_setup_42 rfl ?_
    refine xs_iconst (nI 1) dX9_setup_43 (by decide) ?_
    refine xs_aload_n dX9_setup_44 rfl ?_
    obtain ⟨Q2, hQ2, h⟩ := h
    refine xs_callV (j := k_X9_bit) (As := []) (S := [.int (nI 1), .ref 75]) dX9_setup_45 (hQ2 hR) ⟨ml_X9_177, mk_X9_bit.1, mk_X9_bit.2.1, mk_X9_bit.2.2⟩ mv_X9_bit ⟨Nat.le_of_ble_eq_true rfl, Nat.le_of_ble_eq_true rfl⟩ rfl (Nat.le_of_ble_eq_true rfl) sc_75 rfl ⟨rfl, rfl⟩ (fun rr m3 hq5 => ?_)
    obtain ⟨hR, r4, rfl, hq5⟩ := hq5
    replace h := h r4 m3 hq5
    refine xs_iadd dX9_setup_48 ?_
    refine xs_putI dX9_setup_49 fl_X9_210 rfl rfl rfl sc_75 ?_
    refine xs_nmM (fun m6 e_m6 => ?_)
    replace h := h m6 e_m6
    have hR : xs_RT b m6 := by rw [e_m6]; exact hR
    refine xs_aload_n dX9_setup_52 rfl ?_
    refine xs_iconst (nI 1) dX9_setup_53 (by decide) ?_
    refine xs_aload_n dX9_setup_54 rfl ?_
    refine xs_iconst (nI 3) dX9_setup_55 (by decide) ?_
    obtain ⟨Q7, hQ7, h⟩ := h
    refine xs_callV (j := k_X9_bits) (As := [.int (nI 3)]) (S := [.int (nI 1), .ref 75]) dX9_setup_56 (hQ7 hR) ⟨ml_X9_193, mk_X9_bits.1, mk_X9_bits.2.1, mk_X9_bits.2.2⟩ mv_X9_bits ⟨Nat.le_of_ble_eq_true rfl, Nat.le_of_ble_eq_true rfl⟩ rfl (Nat.le_of_ble_eq_true rfl) sc_75 rfl ⟨rfl, rfl⟩ (fun rr m8 hq10 => ?_)
    obtain ⟨hR, r9, rfl, hq10⟩ := hq10
    replace h := h r9 m8 hq10
    refine xs_iadd dX9_setup_59 ?_
    refine xs_putI dX9_setup_60 fl_X9_213 rfl rfl rfl sc_75 ?_
    refine xs_nmM (fun m11 e_m11 => ?_)
    replace h := h m11 e_m11
    have hR : xs_RT b m11 := by rw [e_m11]; exact hR
    refine xs_aload_n dX9_setup_63 rfl ?_
    obtain ⟨Q12, hQ12, h⟩ := h
    refine xs_callV (j := k_X9_ended) (As := []) (S := []) dX9_setup_64 (hQ12 hR) ⟨ml_X9_197, mk_X9_ended.1, mk_X9_ended.2.1, mk_X9_ended.2.2⟩ mv_X9_ended ⟨Nat.le_of_ble_eq_true rfl, Nat.le_of_ble_eq_true rfl⟩ rfl (Nat.le_of_ble_eq_true rfl) sc_75 rfl ⟨rfl, rfl⟩ (fun rr m13 hq15 => ?_)
    obtain ⟨hR, rfl, hq15⟩ := hq15
    replace h := h m13 hq15
    refine xs_iconst (nI 0) dX9_setup_67 (by decide) ?_
    refine xs_istore_n [some (.ref 75), none, some (.int (nI 0))] dX9_setup_68 (by decide) rfl ?_
    exact xs_loc [some (.ref 75), none, some (.int (nI 0))] ⟨rfl, ⟨rfl, trivial⟩⟩ (h hR)
  · replace h := h.2 c1
    exact xs_ret none dX9_setup_41 trivial rfl ⟨hR, rfl, h⟩
set_option maxHeartbeats 4000000 in
set_option maxRecDepth 100000 in
theorem l_X9_setup_69 {b : Bool} {Q : xm_M → Prop} {μ : xm_M}  (v2 : Int32) 
    (h : (((μ.1 75 18) ≤ v2 →
       hd_X9_setup_95 b Q   μ) ∧
      (¬ (μ.1 75 18) ≤ v2 →
       ((¬ (μ.1 75 19) = 0 →
        hd_X9_setup_95 b Q   μ) ∧
       ((μ.1 75 19) = 0 →
        ∃ Q3 : xm_M → Prop, xCv b b k_X9_book μ [.ref 75, .int v2] Q3 ∧
        ∀ m4 : xm_M, Q3 m4 →
        ∀ x7 : Int32, x7 = v2 + nI 1 →
        hd_X9_setup_69 b Q  x7 m4))))) :
    hd_X9_setup_69 b Q  v2 μ := by
  intro hR
  refine xs_iload_n dX9_setup_69 rfl ?_
  refine xs_aload_n dX9_setup_70 rfl ?_
  refine xs_getI dX9_setup_71 fl_X9_213.g rfl sc_75 ?_
  refine xs_icmp_ge 95 dX9_setup_74 (by decide) (fun c1 => ?_) (fun c1 => ?_)
  · replace h := h.1 c1
    exact xs_loc [some (.ref 75), none, none] ⟨rfl, trivial⟩ (h hR)
  · replace h := h.2 c1
    refine xs_aload_n dX9_setup_77 rfl ?_
    refine xs_getI dX9_setup_78 fl_X9_181.g rfl sc_75 ?_
    refine xs_if_ne 95 dX9_setup_81 (by decide) (fun c2 => ?_) (fun c2 => ?_)
    · replace h := h.1 c2
      exact xs_loc [some (.ref 75), none, none] ⟨rfl, trivial⟩ (h hR)
    · replace h := h.2 c2
      refine xs_aload_n dX9_setup_84 rfl ?_
      refine xs_iload_n dX9_setup_85 rfl ?_
      obtain ⟨Q3, hQ3, h⟩ := h
      refine xs_callV (j := k_X9_book) (As := [.int v2]) (S := []) dX9_setup_86 (hQ3 hR) ⟨ml_X9_216, mk_X9_book.1, mk_X9_book.2.1, mk_X9_book.2.2⟩ mv_X9_book ⟨Nat.le_of_ble_eq_true rfl, Nat.le_of_ble_eq_true rfl⟩ rfl (Nat.le_of_ble_eq_true rfl) sc_75 rfl ⟨rfl, rfl⟩ (fun rr m4 hq6 => ?_)
      obtain ⟨hR, rfl, hq6⟩ := hq6
      replace h := h m4 hq6
      obtain ⟨x7, e_x7⟩ : ∃ z : Int32, z = v2 + nI 1 := ⟨_, rfl⟩
      replace h := h x7 e_x7
      refine xs_iinc x7 [some (.ref 75), none, some (.int x7)] dX9_setup_89 (by decide) rfl (by rw [e_x7]; rfl) rfl ?_
      refine xs_goto 69 dX9_setup_92 (by decide) ?_
      exact xs_loc [some (.ref 75), none, some (.int x7)] ⟨rfl, ⟨rfl, trivial⟩⟩ (h hR)
set_option maxHeartbeats 4000000 in
set_option maxRecDepth 100000 in
theorem l_X9_setup_95 {b : Bool} {Q : xm_M → Prop} {μ : xm_M}   
    (h : (((μ.1 75 19) ≤ 0 →
       ∃ Q2 : Int32 → xm_M → Prop, xCi b b k_X9_bits μ [.ref 75, .int (nI 2)] Q2 ∧
       ∀ (r4 : Int32) (m3 : xm_M), Q2 r4 m3 →
       ∀ m6 : xm_M, m6 = xu_I m3 75 (upd (m3.1 75) 32 ((nI 1) + r4)) →
       ∃ Q7 : Int32 → xm_M → Prop, xCi b b k_X9_bits m6 [.ref 75, .int (nI 4)] Q7 ∧
       ∀ (r9 : Int32) (m8 : xm_M), Q7 r9 m8 →
       ∀ m11 : xm_M, m11 = xu_I m8 75 (upd (m8.1 75) 33 r9) →
       ∃ Q12 : Int32 → xm_M → Prop, xCi b b k_X9_bits m11 [.ref 75, .int (nI 3)] Q12 ∧
       ∀ (r14 : Int32) (m13 : xm_M), Q12 r14 m13 →
       ∀ m16 : xm_M, m16 = xu_I m13 75 (upd (m13.1 75) 34 r14) →
       ∃ Q17 : xm_M → Prop, xCv b b k_X9_ended m16 [.ref 75] Q17 ∧
       ∀ m18 : xm_M, Q17 m18 →
       ((¬ (m18.1 75 19) = 0 →
        hd_X9_setup_159 b Q   m18) ∧
       ((m18.1 75 19) = 0 →
        (((m18.1 75 34) < (m18.1 75 18) →
         hd_X9_setup_159 b Q   m18) ∧
        (¬ (m18.1 75 34) < (m18.1 75 18) →
         ∃ Q23 : xm_M → Prop, xCv b b k_X9_wrong m18 [.ref 75, .int (nI 5)] Q23 ∧
         ∀ m24 : xm_M, Q23 m24 →
         hd_X9_setup_159 b Q   m24))))) ∧
      (¬ (μ.1 75 19) ≤ 0 →
       Q μ))) :
    hd_X9_setup_95 b Q   μ := by
  intro hR
  refine xs_aload_n dX9_setup_95 rfl ?_
  refine xs_getI dX9_setup_96 fl_X9_181.g rfl sc_75 ?_
  refine xs_if_le 103 dX9_setup_99 (by decide) (fun c1 => ?_) (fun c1 => ?_)
  · replace h := h.1 c1
    refine xs_aload_n dX9_setup_103 rfl ?_
    refine xs_iconst (nI 1) dX9_setup_104 (by decide) ?_
    refine xs_aload_n dX9_setup_105 rfl ?_
    refine xs_iconst (nI 2) dX9_setup_106 (by decide) ?_
    obtain ⟨Q2, hQ2, h⟩ := h
    refine xs_callV (j := k_X9_bits) (As := [.int (nI 2)]) (S := [.int (nI 1), .ref 75]) dX9_setup_107 (hQ2 hR) ⟨ml_X9_193, mk_X9_bits.1, mk_X9_bits.2.1, mk_X9_bits.2.2⟩ mv_X9_bits ⟨Nat.le_of_ble_eq_true rfl, Nat.le_of_ble_eq_true rfl⟩ rfl (Nat.le_of_ble_eq_true rfl) sc_75 rfl ⟨rfl, rfl⟩ (fun rr m3 hq5 => ?_)
    obtain ⟨hR, r4, rfl, hq5⟩ := hq5
    replace h := h r4 m3 hq5
    refine xs_iadd dX9_setup_110 ?_
    refine xs_putI dX9_setup_111 fl_X9_219 rfl rfl rfl sc_75 ?_
    refine xs_nmM (fun m6 e_m6 => ?_)
    replace h := h m6 e_m6
    have hR : xs_RT b m6 := by rw [e_m6]; exact hR
    refine xs_aload_n dX9_setup_114 rfl ?_
    refine xs_aload_n dX9_setup_115 rfl ?_
    refine xs_iconst (nI 4) dX9_setup_116 (by decide) ?_
    obtain ⟨Q7, hQ7, h⟩ := h
    refine xs_callV (j := k_X9_bits) (As := [.int (nI 4)]) (S := [.ref 75]) dX9_setup_117 (hQ7 hR) ⟨ml_X9_193, mk_X9_bits.1, mk_X9_bits.2.1, mk_X9_bits.2.2⟩ mv_X9_bits ⟨Nat.le_of_ble_eq_true rfl, Nat.le_of_ble_eq_true rfl⟩ rfl (Nat.le_of_ble_eq_true rfl) sc_75 rfl ⟨rfl, rfl⟩ (fun rr m8 hq10 => ?_)
    obtain ⟨hR, r9, rfl, hq10⟩ := hq10
    replace h := h r9 m8 hq10
    refine xs_putI dX9_setup_120 fl_X9_222 rfl rfl rfl sc_75 ?_
    refine xs_nmM (fun m11 e_m11 => ?_)
    replace h := h m11 e_m11
    have hR : xs_RT b m11 := by rw [e_m11]; exact hR
    refine xs_aload_n dX9_setup_123 rfl ?_
    refine xs_aload_n dX9_setup_124 rfl ?_
    refine xs_iconst (nI 3) dX9_setup_125 (by decide) ?_
    obtain ⟨Q12, hQ12, h⟩ := h
    refine xs_callV (j := k_X9_bits) (As := [.int (nI 3)]) (S := [.ref 75]) dX9_setup_126 (hQ12 hR) ⟨ml_X9_193, mk_X9_bits.1, mk_X9_bits.2.1, mk_X9_bits.2.2⟩ mv_X9_bits ⟨Nat.le_of_ble_eq_true rfl, Nat.le_of_ble_eq_true rfl⟩ rfl (Nat.le_of_ble_eq_true rfl) sc_75 rfl ⟨rfl, rfl⟩ (fun rr m13 hq15 => ?_)
    obtain ⟨hR, r14, rfl, hq15⟩ := hq15
    replace h := h r14 m13 hq15
    refine xs_putI dX9_setup_129 fl_X9_225 rfl rfl rfl sc_75 ?_
    refine xs_nmM (fun m16 e_m16 => ?_)
    replace h := h m16 e_m16
    have hR : xs_RT b m16 := by rw [e_m16]; exact hR
    refine xs_aload_n dX9_setup_132 rfl ?_
    obtain ⟨Q17, hQ17, h⟩ := h
    refine xs_callV (j := k_X9_ended) (As := []) (S := []) dX9_setup_133 (hQ17 hR) ⟨ml_X9_197, mk_X9_ended.1, mk_X9_ended.2.1, mk_X9_ended.2.2⟩ mv_X9_ended ⟨Nat.le_of_ble_eq_true rfl, Nat.le_of_ble_eq_true rfl⟩ rfl (Nat.le_of_ble_eq_true rfl) sc_75 rfl ⟨rfl, rfl⟩ (fun rr m18 hq20 => ?_)
    obtain ⟨hR, rfl, hq20⟩ := hq20
    replace h := h m18 hq20
    refine xs_aload_n dX9_setup_136 rfl ?_
    refine xs_getI dX9_setup_137 fl_X9_181.g rfl sc_75 ?_
    refine xs_if_ne 159 dX9_setup_140 (by decide) (fun c21 => ?_) (fun c21 => ?_)
    · replace h := h.1 c21
      exact xs_loc [some (.ref 75), none, none] ⟨rfl, trivial⟩ (h hR)
    · replace h := h.2 c21
      refine xs_aload_n dX9_setup_143 rfl ?_
      refine xs_getI dX9_setup_144 fl_X9_225.g rfl sc_75 ?_
      refine xs_aload_n dX9_setup_147 rfl ?_
      refine xs_getI dX9_setup_148 fl_X9_213.g rfl sc_75 ?_
      refine xs_icmp_lt 159 dX9_setup_151 (by decide) (fun c22 => ?_) (fun c22 => ?_)
      · replace h := h.1 c22
        exact xs_loc [some (.ref 75), none, none] ⟨rfl, trivial⟩ (h hR)
      · replace h := h.2 c22
        refine xs_aload_n dX9_setup_154 rfl ?_
        refine xs_iconst (nI 5) dX9_setup_155 (by decide) ?_
        obtain ⟨Q23, hQ23, h⟩ := h
        refine xs_callV (j := k_X9_wrong) (As := [.int (nI 5)]) (S := []) dX9_setup_156 (hQ23 hR) ⟨ml_X9_184, mk_X9_wrong.1, mk_X9_wrong.2.1, mk_X9_wrong.2.2⟩ mv_X9_wrong ⟨Nat.le_of_ble_eq_true rfl, Nat.le_of_ble_eq_true rfl⟩ rfl (Nat.le_of_ble_eq_true rfl) sc_75 rfl ⟨rfl, rfl⟩ (fun rr m24 hq26 => ?_)
        obtain ⟨hR, rfl, hq26⟩ := hq26
        replace h := h m24 hq26
        exact xs_loc [some (.ref 75), none, none] ⟨rfl, trivial⟩ (h hR)
  · replace h := h.2 c1
    exact xs_ret none dX9_setup_102 trivial rfl ⟨hR, rfl, h⟩
set_option maxHeartbeats 4000000 in
set_option maxRecDepth 100000 in
theorem l_X9_setup_159 {b : Bool} {Q : xm_M → Prop} {μ : xm_M}   
    (h : vp_in (nI 0) 18 ∧
      ∀ m2 : xm_M, m2 = xu_I μ 94 (upd (μ.1 94) ((nI 0)).toNatClampNeg (nI 0)) →
      vp_in (nI 1) 18 ∧
      ∀ m4 : xm_M, m4 = xu_I m2 94 (upd (m2.1 94) ((nI 1)).toNatClampNeg (nI 16)) →
      hd_X9_setup_176 b Q  (nI 0) m4) :
    hd_X9_setup_159 b Q   μ := by
  intro hR
  refine xs_aload_n dX9_setup_159 rfl ?_
  refine xs_getR dX9_setup_160 fl_X9_73 rfl sc_75 (rt_75_39 hR) ?_
  refine xs_iconst (nI 0) dX9_setup_163 (by decide) ?_
  refine xs_iconst (nI 0) dX9_setup_164 (by decide) ?_
  obtain ⟨s1, h⟩ := h
  refine xs_iast dX9_setup_165 sc_94 s1 ?_
  refine xs_nmM (fun m2 e_m2 => ?_)
  replace h := h m2 e_m2
  have hR : xs_RT b m2 := by rw [e_m2]; exact hR
  refine xs_aload_n dX9_setup_166 rfl ?_
  refine xs_getR dX9_setup_167 fl_X9_73 rfl sc_75 (rt_75_39 hR) ?_
  refine xs_iconst (nI 1) dX9_setup_170 (by decide) ?_
  refine xs_bipush (nI 16) dX9_setup_171 (by decide) ?_
  obtain ⟨s3, h⟩ := h
  refine xs_iast dX9_setup_173 sc_94 s3 ?_
  refine xs_nmM (fun m4 e_m4 => ?_)
  replace h := h m4 e_m4
  have hR : xs_RT b m4 := by rw [e_m4]; exact hR
  refine xs_iconst (nI 0) dX9_setup_174 (by decide) ?_
  refine xs_istore_n [some (.ref 75), none, some (.int (nI 0))] dX9_setup_175 (by decide) rfl ?_
  exact xs_loc [some (.ref 75), none, some (.int (nI 0))] ⟨rfl, ⟨rfl, trivial⟩⟩ (h hR)
set_option maxHeartbeats 4000000 in
set_option maxRecDepth 100000 in
theorem l_X9_setup_176 {b : Bool} {Q : xm_M → Prop} {μ : xm_M}  (v2 : Int32) 
    (h : (((μ.1 75 33) ≤ v2 →
       hd_X9_setup_204 b Q   μ) ∧
      (¬ (μ.1 75 33) ≤ v2 →
       ((¬ (μ.1 75 19) = 0 →
        hd_X9_setup_204 b Q   μ) ∧
       ((μ.1 75 19) = 0 →
        ∃ Q3 : xm_M → Prop, xCv b b k_X9_post μ [.ref 75, .int (v2 + (nI 2))] Q3 ∧
        ∀ m4 : xm_M, Q3 m4 →
        ∀ x7 : Int32, x7 = v2 + nI 1 →
        hd_X9_setup_176 b Q  x7 m4))))) :
    hd_X9_setup_176 b Q  v2 μ := by
  intro hR
  refine xs_iload_n dX9_setup_176 rfl ?_
  refine xs_aload_n dX9_setup_177 rfl ?_
  refine xs_getI dX9_setup_178 fl_X9_222.g rfl sc_75 ?_
  refine xs_icmp_ge 204 dX9_setup_181 (by decide) (fun c1 => ?_) (fun c1 => ?_)
  · replace h := h.1 c1
    exact xs_loc [some (.ref 75), none, none] ⟨rfl, trivial⟩ (h hR)
  · replace h := h.2 c1
    refine xs_aload_n dX9_setup_184 rfl ?_
    refine xs_getI dX9_setup_185 fl_X9_181.g rfl sc_75 ?_
    refine xs_if_ne 204 dX9_setup_188 (by decide) (fun c2 => ?_) (fun c2 => ?_)
    · replace h := h.1 c2
      exact xs_loc [some (.ref 75), none, none] ⟨rfl, trivial⟩ (h hR)
    · replace h := h.2 c2
      refine xs_aload_n dX9_setup_191 rfl ?_
      refine xs_iload_n dX9_setup_192 rfl ?_
      refine xs_iconst (nI 2) dX9_setup_193 (by decide) ?_
      refine xs_iadd dX9_setup_194 ?_
      obtain ⟨Q3, hQ3, h⟩ := h
      refine xs_callV (j := k_X9_post) (As := [.int (v2 + (nI 2))]) (S := []) dX9_setup_195 (hQ3 hR) ⟨ml_X9_228, mk_X9_post.1, mk_X9_post.2.1, mk_X9_post.2.2⟩ mv_X9_post ⟨Nat.le_of_ble_eq_true rfl, Nat.le_of_ble_eq_true rfl⟩ rfl (Nat.le_of_ble_eq_true rfl) sc_75 rfl ⟨rfl, rfl⟩ (fun rr m4 hq6 => ?_)
      obtain ⟨hR, rfl, hq6⟩ := hq6
      replace h := h m4 hq6
      obtain ⟨x7, e_x7⟩ : ∃ z : Int32, z = v2 + nI 1 := ⟨_, rfl⟩
      replace h := h x7 e_x7
      refine xs_iinc x7 [some (.ref 75), none, some (.int x7)] dX9_setup_198 (by decide) rfl (by rw [e_x7]; rfl) rfl ?_
      refine xs_goto 176 dX9_setup_201 (by decide) ?_
      exact xs_loc [some (.ref 75), none, some (.int x7)] ⟨rfl, ⟨rfl, trivial⟩⟩ (h hR)
set_option maxHeartbeats 4000000 in
set_option maxRecDepth 100000 in
theorem l_X9_setup_204 {b : Bool} {Q : xm_M → Prop} {μ : xm_M}   
    (h : (((μ.1 75 19) ≤ 0 →
       ∃ Q2 : Int32 → xm_M → Prop, xCi b b k_X9_bits μ [.ref 75, .int (nI 2)] Q2 ∧
       ∀ (r4 : Int32) (m3 : xm_M), Q2 r4 m3 →
       ∀ m6 : xm_M, m6 = xu_I m3 75 (upd (m3.1 75) 35 ((nI 1) <<< (r4 &&& 31))) →
       ∃ Q7 : Int32 → xm_M → Prop, xCi b b k_X9_bits m6 [.ref 75, .int (nI 2)] Q7 ∧
       ∀ (r9 : Int32) (m8 : xm_M), Q7 r9 m8 →
       ∀ m11 : xm_M, m11 = xu_I m8 75 (upd (m8.1 75) 36 ((nI 1) + r9)) →
       ∃ Q12 : Int32 → xm_M → Prop, xCi b b k_X9_bits m11 [.ref 75, .int (nI 3)] Q12 ∧
       ∀ (r14 : Int32) (m13 : xm_M), Q12 r14 m13 →
       ∀ m16 : xm_M, m16 = xu_I m13 75 (upd (m13.1 75) 37 r14) →
       ∃ Q17 : xm_M → Prop, xCv b b k_X9_ended m16 [.ref 75] Q17 ∧
       ∀ m18 : xm_M, Q17 m18 →
       ((¬ (m18.1 75 19) = 0 →
        hd_X9_setup_270 b Q   m18) ∧
       ((m18.1 75 19) = 0 →
        (((m18.1 75 37) < (m18.1 75 18) →
         hd_X9_setup_270 b Q   m18) ∧
        (¬ (m18.1 75 37) < (m18.1 75 18) →
         ∃ Q23 : xm_M → Prop, xCv b b k_X9_wrong m18 [.ref 75, .int (nI 5)] Q23 ∧
         ∀ m24 : xm_M, Q23 m24 →
         hd_X9_setup_270 b Q   m24))))) ∧
      (¬ (μ.1 75 19) ≤ 0 →
       Q μ))) :
    hd_X9_setup_204 b Q   μ := by
  intro hR
  refine xs_aload_n dX9_setup_204 rfl ?_
  refine xs_getI dX9_setup_205 fl_X9_181.g rfl sc_75 ?_
  refine xs_if_le 212 dX9_setup_208 (by decide) (fun c1 => ?_) (fun c1 => ?_)
  · replace h := h.1 c1
    refine xs_aload_n dX9_setup_212 rfl ?_
    refine xs_iconst (nI 1) dX9_setup_213 (by decide) ?_
    refine xs_aload_n dX9_setup_214 rfl ?_
    refine xs_iconst (nI 2) dX9_setup_215 (by decide) ?_
    obtain ⟨Q2, hQ2, h⟩ := h
    refine xs_callV (j := k_X9_bits) (As := [.int (nI 2)]) (S := [.int (nI 1), .ref 75]) dX9_setup_216 (hQ2 hR) ⟨ml_X9_193, mk_X9_bits.1, mk_X9_bits.2.1, mk_X9_bits.2.2⟩ mv_X9_bits ⟨Nat.le_of_ble_eq_true rfl, Nat.le_of_ble_eq_true rfl⟩ rfl (Nat.le_of_ble_eq_true rfl) sc_75 rfl ⟨rfl, rfl⟩ (fun rr m3 hq5 => ?_)
    obtain ⟨hR, r4, rfl, hq5⟩ := hq5
    replace h := h r4 m3 hq5
    refine xs_ishl dX9_setup_219 ?_
    refine xs_putI dX9_setup_220 fl_X9_231 rfl rfl rfl sc_75 ?_
    refine xs_nmM (fun m6 e_m6 => ?_)
    replace h := h m6 e_m6
    have hR : xs_RT b m6 := by rw [e_m6]; exact hR
    refine xs_aload_n dX9_setup_223 rfl ?_
    refine xs_iconst (nI 1) dX9_setup_224 (by decide) ?_
    refine xs_aload_n dX9_setup_225 rfl ?_
    refine xs_iconst (nI 2) dX9_setup_226 (by decide) ?_
    obtain ⟨Q7, hQ7, h⟩ := h
    refine xs_callV (j := k_X9_bits) (As := [.int (nI 2)]) (S := [.int (nI 1), .ref 75]) dX9_setup_227 (hQ7 hR) ⟨ml_X9_193, mk_X9_bits.1, mk_X9_bits.2.1, mk_X9_bits.2.2⟩ mv_X9_bits ⟨Nat.le_of_ble_eq_true rfl, Nat.le_of_ble_eq_true rfl⟩ rfl (Nat.le_of_ble_eq_true rfl) sc_75 rfl ⟨rfl, rfl⟩ (fun rr m8 hq10 => ?_)
    obtain ⟨hR, r9, rfl, hq10⟩ := hq10
    replace h := h r9 m8 hq10
    refine xs_iadd dX9_setup_230 ?_
    refine xs_putI dX9_setup_231 fl_X9_234 rfl rfl rfl sc_75 ?_
    refine xs_nmM (fun m11 e_m11 => ?_)
    replace h := h m11 e_m11
    have hR : xs_RT b m11 := by rw [e_m11]; exact hR
    refine xs_aload_n dX9_setup_234 rfl ?_
    refine xs_aload_n dX9_setup_235 rfl ?_
    refine xs_iconst (nI 3) dX9_setup_236 (by decide) ?_
    obtain ⟨Q12, hQ12, h⟩ := h
    refine xs_callV (j := k_X9_bits) (As := [.int (nI 3)]) (S := [.ref 75]) dX9_setup_237 (hQ12 hR) ⟨ml_X9_193, mk_X9_bits.1, mk_X9_bits.2.1, mk_X9_bits.2.2⟩ mv_X9_bits ⟨Nat.le_of_ble_eq_true rfl, Nat.le_of_ble_eq_true rfl⟩ rfl (Nat.le_of_ble_eq_true rfl) sc_75 rfl ⟨rfl, rfl⟩ (fun rr m13 hq15 => ?_)
    obtain ⟨hR, r14, rfl, hq15⟩ := hq15
    replace h := h r14 m13 hq15
    refine xs_putI dX9_setup_240 fl_X9_237 rfl rfl rfl sc_75 ?_
    refine xs_nmM (fun m16 e_m16 => ?_)
    replace h := h m16 e_m16
    have hR : xs_RT b m16 := by rw [e_m16]; exact hR
    refine xs_aload_n dX9_setup_243 rfl ?_
    obtain ⟨Q17, hQ17, h⟩ := h
    refine xs_callV (j := k_X9_ended) (As := []) (S := []) dX9_setup_244 (hQ17 hR) ⟨ml_X9_197, mk_X9_ended.1, mk_X9_ended.2.1, mk_X9_ended.2.2⟩ mv_X9_ended ⟨Nat.le_of_ble_eq_true rfl, Nat.le_of_ble_eq_true rfl⟩ rfl (Nat.le_of_ble_eq_true rfl) sc_75 rfl ⟨rfl, rfl⟩ (fun rr m18 hq20 => ?_)
    obtain ⟨hR, rfl, hq20⟩ := hq20
    replace h := h m18 hq20
    refine xs_aload_n dX9_setup_247 rfl ?_
    refine xs_getI dX9_setup_248 fl_X9_181.g rfl sc_75 ?_
    refine xs_if_ne 270 dX9_setup_251 (by decide) (fun c21 => ?_) (fun c21 => ?_)
    · replace h := h.1 c21
      exact xs_loc [some (.ref 75), none, none] ⟨rfl, trivial⟩ (h hR)
    · replace h := h.2 c21
      refine xs_aload_n dX9_setup_254 rfl ?_
      refine xs_getI dX9_setup_255 fl_X9_237.g rfl sc_75 ?_
      refine xs_aload_n dX9_setup_258 rfl ?_
      refine xs_getI dX9_setup_259 fl_X9_213.g rfl sc_75 ?_
      refine xs_icmp_lt 270 dX9_setup_262 (by decide) (fun c22 => ?_) (fun c22 => ?_)
      · replace h := h.1 c22
        exact xs_loc [some (.ref 75), none, none] ⟨rfl, trivial⟩ (h hR)
      · replace h := h.2 c22
        refine xs_aload_n dX9_setup_265 rfl ?_
        refine xs_iconst (nI 5) dX9_setup_266 (by decide) ?_
        obtain ⟨Q23, hQ23, h⟩ := h
        refine xs_callV (j := k_X9_wrong) (As := [.int (nI 5)]) (S := []) dX9_setup_267 (hQ23 hR) ⟨ml_X9_184, mk_X9_wrong.1, mk_X9_wrong.2.1, mk_X9_wrong.2.2⟩ mv_X9_wrong ⟨Nat.le_of_ble_eq_true rfl, Nat.le_of_ble_eq_true rfl⟩ rfl (Nat.le_of_ble_eq_true rfl) sc_75 rfl ⟨rfl, rfl⟩ (fun rr m24 hq26 => ?_)
        obtain ⟨hR, rfl, hq26⟩ := hq26
        replace h := h m24 hq26
        exact xs_loc [some (.ref 75), none, none] ⟨rfl, trivial⟩ (h hR)
  · replace h := h.2 c1
    exact xs_ret none dX9_setup_211 trivial rfl ⟨hR, rfl, h⟩
set_option maxHeartbeats 4000000 in
set_option maxRecDepth 100000 in
theorem l_X9_setup_270 {b : Bool} {Q : xm_M → Prop} {μ : xm_M}   
    (h : hd_X9_setup_272 b Q  (nI 0) μ) :
    hd_X9_setup_270 b Q   μ := by
  intro hR
  refine xs_iconst (nI 0) dX9_setup_270 (by decide) ?_
  refine xs_istore_n [some (.ref 75), none, some (.int (nI 0))] dX9_setup_271 (by decide) rfl ?_
  exact xs_loc [some (.ref 75), none, some (.int (nI 0))] ⟨rfl, ⟨rfl, trivial⟩⟩ (h hR)
set_option maxHeartbeats 4000000 in
set_option maxRecDepth 100000 in
theorem l_X9_setup_272 {b : Bool} {Q : xm_M → Prop} {μ : xm_M}  (v2 : Int32) 
    (h : (((μ.1 75 36) ≤ v2 →
       hd_X9_setup_298 b Q   μ) ∧
      (¬ (μ.1 75 36) ≤ v2 →
       ((¬ (μ.1 75 19) = 0 →
        hd_X9_setup_298 b Q   μ) ∧
       ((μ.1 75 19) = 0 →
        ∃ Q3 : xm_M → Prop, xCv b b k_X9_ofClass μ [.ref 75, .int v2] Q3 ∧
        ∀ m4 : xm_M, Q3 m4 →
        ∀ x7 : Int32, x7 = v2 + nI 1 →
        hd_X9_setup_272 b Q  x7 m4))))) :
    hd_X9_setup_272 b Q  v2 μ := by
  intro hR
  refine xs_iload_n dX9_setup_272 rfl ?_
  refine xs_aload_n dX9_setup_273 rfl ?_
  refine xs_getI dX9_setup_274 fl_X9_234.g rfl sc_75 ?_
  refine xs_icmp_ge 298 dX9_setup_277 (by decide) (fun c1 => ?_) (fun c1 => ?_)
  · replace h := h.1 c1
    exact xs_loc [some (.ref 75), none, none] ⟨rfl, trivial⟩ (h hR)
  · replace h := h.2 c1
    refine xs_aload_n dX9_setup_280 rfl ?_
    refine xs_getI dX9_setup_281 fl_X9_181.g rfl sc_75 ?_
    refine xs_if_ne 298 dX9_setup_284 (by decide) (fun c2 => ?_) (fun c2 => ?_)
    · replace h := h.1 c2
      exact xs_loc [some (.ref 75), none, none] ⟨rfl, trivial⟩ (h hR)
    · replace h := h.2 c2
      refine xs_aload_n dX9_setup_287 rfl ?_
      refine xs_iload_n dX9_setup_288 rfl ?_
      obtain ⟨Q3, hQ3, h⟩ := h
      refine xs_callV (j := k_X9_ofClass) (As := [.int v2]) (S := []) dX9_setup_289 (hQ3 hR) ⟨ml_X9_240, mk_X9_ofClass.1, mk_X9_ofClass.2.1, mk_X9_ofClass.2.2⟩ mv_X9_ofClass ⟨Nat.le_of_ble_eq_true rfl, Nat.le_of_ble_eq_true rfl⟩ rfl (Nat.le_of_ble_eq_true rfl) sc_75 rfl ⟨rfl, rfl⟩ (fun rr m4 hq6 => ?_)
      obtain ⟨hR, rfl, hq6⟩ := hq6
      replace h := h m4 hq6
      obtain ⟨x7, e_x7⟩ : ∃ z : Int32, z = v2 + nI 1 := ⟨_, rfl⟩
      replace h := h x7 e_x7
      refine xs_iinc x7 [some (.ref 75), none, some (.int x7)] dX9_setup_292 (by decide) rfl (by rw [e_x7]; rfl) rfl ?_
      refine xs_goto 272 dX9_setup_295 (by decide) ?_
      exact xs_loc [some (.ref 75), none, some (.int x7)] ⟨rfl, ⟨rfl, trivial⟩⟩ (h hR)
set_option maxHeartbeats 4000000 in
set_option maxRecDepth 100000 in
theorem l_X9_setup_298 {b : Bool} {Q : xm_M → Prop} {μ : xm_M}   
    (h : ((¬ (μ.1 75 19) = 0 →
       ∀ m2 : xm_M, m2 = xu_I μ 75 (upd (μ.1 75) 38 (nI 0)) →
       ∃ Q3 : xm_M → Prop, xCv b b k_X9_ended m2 [.ref 75] Q3 ∧
       ∀ m4 : xm_M, Q3 m4 →
       Q m4) ∧
      ((μ.1 75 19) = 0 →
       ((¬ (μ.1 75 31) = (nI 2) →
        ∀ m8 : xm_M, m8 = xu_I μ 75 (upd (μ.1 75) 38 (nI 0)) →
        ∃ Q9 : xm_M → Prop, xCv b b k_X9_ended m8 [.ref 75] Q9 ∧
        ∀ m10 : xm_M, Q9 m10 →
        Q m10) ∧
       ((μ.1 75 31) = (nI 2) →
        ∃ Q13 : Int32 → xm_M → Prop, xCi b b k_X9_bit μ [.ref 75] Q13 ∧
        ∀ (r15 : Int32) (m14 : xm_M), Q13 r15 m14 →
        ((¬ r15 = (nI 1) →
         ∀ m18 : xm_M, m18 = xu_I m14 75 (upd (m14.1 75) 38 (nI 0)) →
         ∃ Q19 : xm_M → Prop, xCv b b k_X9_ended m18 [.ref 75] Q19 ∧
         ∀ m20 : xm_M, Q19 m20 →
         Q m20) ∧
        (r15 = (nI 1) →
         ∀ m23 : xm_M, m23 = xu_I m14 75 (upd (m14.1 75) 38 (nI 1)) →
         ∃ Q24 : xm_M → Prop, xCv b b k_X9_ended m23 [.ref 75] Q24 ∧
         ∀ m25 : xm_M, Q24 m25 →
         Q m25))))))) :
    hd_X9_setup_298 b Q   μ := by
  intro hR
  refine xs_aload_n dX9_setup_298 rfl ?_
  refine xs_aload_n dX9_setup_299 rfl ?_
  refine xs_getI dX9_setup_300 fl_X9_181.g rfl sc_75 ?_
  refine xs_if_ne 326 dX9_setup_303 (by decide) (fun c1 => ?_) (fun c1 => ?_)
  · replace h := h.1 c1
    refine xs_iconst (nI 0) dX9_setup_326 (by decide) ?_
    refine xs_putI dX9_setup_327 fl_X9_243 rfl rfl rfl sc_75 ?_
    refine xs_nmM (fun m2 e_m2 => ?_)
    replace h := h m2 e_m2
    have hR : xs_RT b m2 := by rw [e_m2]; exact hR
    refine xs_aload_n dX9_setup_330 rfl ?_
    obtain ⟨Q3, hQ3, h⟩ := h
    refine xs_callV (j := k_X9_ended) (As := []) (S := []) dX9_setup_331 (hQ3 hR) ⟨ml_X9_197, mk_X9_ended.1, mk_X9_ended.2.1, mk_X9_ended.2.2⟩ mv_X9_ended ⟨Nat.le_of_ble_eq_true rfl, Nat.le_of_ble_eq_true rfl⟩ rfl (Nat.le_of_ble_eq_true rfl) sc_75 rfl ⟨rfl, rfl⟩ (fun rr m4 hq6 => ?_)
    obtain ⟨hR, rfl, hq6⟩ := hq6
    replace h := h m4 hq6
    exact xs_ret none dX9_setup_334 trivial rfl ⟨hR, rfl, h⟩
  · replace h := h.2 c1
    refine xs_aload_n dX9_setup_306 rfl ?_
    refine xs_getI dX9_setup_307 fl_X9_210.g rfl sc_75 ?_
    refine xs_iconst (nI 2) dX9_setup_310 (by decide) ?_
    refine xs_icmp_ne 326 dX9_setup_311 (by decide) (fun c7 => ?_) (fun c7 => ?_)
    · replace h := h.1 c7
      refine xs_iconst (nI 0) dX9_setup_326 (by decide) ?_
      refine xs_putI dX9_setup_327 fl_X9_243 rfl rfl rfl sc_75 ?_
      refine xs_nmM (fun m8 e_m8 => ?_)
      replace h := h m8 e_m8
      have hR : xs_RT b m8 := by rw [e_m8]; exact hR
      refine xs_aload_n dX9_setup_330 rfl ?_
      obtain ⟨Q9, hQ9, h⟩ := h
      refine xs_callV (j := k_X9_ended) (As := []) (S := []) dX9_setup_331 (hQ9 hR) ⟨ml_X9_197, mk_X9_ended.1, mk_X9_ended.2.1, mk_X9_ended.2.2⟩ mv_X9_ended ⟨Nat.le_of_ble_eq_true rfl, Nat.le_of_ble_eq_true rfl⟩ rfl (Nat.le_of_ble_eq_true rfl) sc_75 rfl ⟨rfl, rfl⟩ (fun rr m10 hq12 => ?_)
      obtain ⟨hR, rfl, hq12⟩ := hq12
      replace h := h m10 hq12
      exact xs_ret none dX9_setup_334 trivial rfl ⟨hR, rfl, h⟩
    · replace h := h.2 c7
      refine xs_aload_n dX9_setup_314 rfl ?_
      obtain ⟨Q13, hQ13, h⟩ := h
      refine xs_callV (j := k_X9_bit) (As := []) (S := [.ref 75]) dX9_setup_315 (hQ13 hR) ⟨ml_X9_177, mk_X9_bit.1, mk_X9_bit.2.1, mk_X9_bit.2.2⟩ mv_X9_bit ⟨Nat.le_of_ble_eq_true rfl, Nat.le_of_ble_eq_true rfl⟩ rfl (Nat.le_of_ble_eq_true rfl) sc_75 rfl ⟨rfl, rfl⟩ (fun rr m14 hq16 => ?_)
      obtain ⟨hR, r15, rfl, hq16⟩ := hq16
      replace h := h r15 m14 hq16
      refine xs_iconst (nI 1) dX9_setup_318 (by decide) ?_
      refine xs_icmp_ne 326 dX9_setup_319 (by decide) (fun c17 => ?_) (fun c17 => ?_)
      · replace h := h.1 c17
        refine xs_iconst (nI 0) dX9_setup_326 (by decide) ?_
        refine xs_putI dX9_setup_327 fl_X9_243 rfl rfl rfl sc_75 ?_
        refine xs_nmM (fun m18 e_m18 => ?_)
        replace h := h m18 e_m18
        have hR : xs_RT b m18 := by rw [e_m18]; exact hR
        refine xs_aload_n dX9_setup_330 rfl ?_
        obtain ⟨Q19, hQ19, h⟩ := h
        refine xs_callV (j := k_X9_ended) (As := []) (S := []) dX9_setup_331 (hQ19 hR) ⟨ml_X9_197, mk_X9_ended.1, mk_X9_ended.2.1, mk_X9_ended.2.2⟩ mv_X9_ended ⟨Nat.le_of_ble_eq_true rfl, Nat.le_of_ble_eq_true rfl⟩ rfl (Nat.le_of_ble_eq_true rfl) sc_75 rfl ⟨rfl, rfl⟩ (fun rr m20 hq22 => ?_)
        obtain ⟨hR, rfl, hq22⟩ := hq22
        replace h := h m20 hq22
        exact xs_ret none dX9_setup_334 trivial rfl ⟨hR, rfl, h⟩
      · replace h := h.2 c17
        refine xs_iconst (nI 1) dX9_setup_322 (by decide) ?_
        refine xs_goto 327 dX9_setup_323 (by decide) ?_
        refine xs_putI dX9_setup_327 fl_X9_243 rfl rfl rfl sc_75 ?_
        refine xs_nmM (fun m23 e_m23 => ?_)
        replace h := h m23 e_m23
        have hR : xs_RT b m23 := by rw [e_m23]; exact hR
        refine xs_aload_n dX9_setup_330 rfl ?_
        obtain ⟨Q24, hQ24, h⟩ := h
        refine xs_callV (j := k_X9_ended) (As := []) (S := []) dX9_setup_331 (hQ24 hR) ⟨ml_X9_197, mk_X9_ended.1, mk_X9_ended.2.1, mk_X9_ended.2.2⟩ mv_X9_ended ⟨Nat.le_of_ble_eq_true rfl, Nat.le_of_ble_eq_true rfl⟩ rfl (Nat.le_of_ble_eq_true rfl) sc_75 rfl ⟨rfl, rfl⟩ (fun rr m25 hq27 => ?_)
        obtain ⟨hR, rfl, hq27⟩ := hq27
        replace h := h m25 hq27
        exact xs_ret none dX9_setup_334 trivial rfl ⟨hR, rfl, h⟩
set_option maxHeartbeats 4000000 in
set_option maxRecDepth 100000 in
theorem g_X9_setup {b : Bool} {Q : xm_M → Prop} {μ : xm_M}  
    (h : ∃ Q1 : xm_M → Prop, xCv b b k_X9_opens μ [.ref 75, .int (nI 0)] Q1 ∧
      ∀ m2 : xm_M, Q1 m2 →
      ∃ Q5 : Int32 → xm_M → Prop, xCi b b k_X9_bits m2 [.ref 75, .int (nI 8)] Q5 ∧
      ∀ (r7 : Int32) (m6 : xm_M), Q5 r7 m6 →
      ∃ Q9 : xm_M → Prop, xCv b b k_X9_ended m6 [.ref 75] Q9 ∧
      ∀ m10 : xm_M, Q9 m10 →
      ((¬ (m10.1 75 19) = 0 →
       hd_X9_setup_34 b Q   m10) ∧
      ((m10.1 75 19) = 0 →
       ((r7 = (nI 86) →
        hd_X9_setup_34 b Q   m10) ∧
       (¬ r7 = (nI 86) →
        ∃ Q15 : xm_M → Prop, xCv b b k_X9_wrong m10 [.ref 75, .int (nI 3)] Q15 ∧
        ∀ m16 : xm_M, Q15 m16 →
        hd_X9_setup_34 b Q   m16))))) :
    xCv b b k_X9_setup μ [.ref 75] Q := by
  intro hR
  refine xm_met [some (.ref 75), none, none] 2 (by decide) (by simp [lg_sl, Value.category]) rfl ?_
  refine xs_aload_n dX9_setup_0 rfl ?_
  refine xs_iconst (nI 0) dX9_setup_1 (by decide) ?_
  obtain ⟨Q1, hQ1, h⟩ := h
  refine xs_callV (j := k_X9_opens) (As := [.int (nI 0)]) (S := []) dX9_setup_2 (hQ1 hR) ⟨ml_X9_207, mk_X9_opens.1, mk_X9_opens.2.1, mk_X9_opens.2.2⟩ mv_X9_opens ⟨Nat.le_of_ble_eq_true rfl, Nat.le_of_ble_eq_true rfl⟩ rfl (Nat.le_of_ble_eq_true rfl) sc_75 rfl ⟨rfl, rfl⟩ (fun rr m2 hq4 => ?_)
  obtain ⟨hR, rfl, hq4⟩ := hq4
  replace h := h m2 hq4
  refine xs_aload_n dX9_setup_5 rfl ?_
  refine xs_bipush (nI 8) dX9_setup_6 (by decide) ?_
  obtain ⟨Q5, hQ5, h⟩ := h
  refine xs_callV (j := k_X9_bits) (As := [.int (nI 8)]) (S := []) dX9_setup_8 (hQ5 hR) ⟨ml_X9_193, mk_X9_bits.1, mk_X9_bits.2.1, mk_X9_bits.2.2⟩ mv_X9_bits ⟨Nat.le_of_ble_eq_true rfl, Nat.le_of_ble_eq_true rfl⟩ rfl (Nat.le_of_ble_eq_true rfl) sc_75 rfl ⟨rfl, rfl⟩ (fun rr m6 hq8 => ?_)
  obtain ⟨hR, r7, rfl, hq8⟩ := hq8
  replace h := h r7 m6 hq8
  refine xs_istore_n [some (.ref 75), some (.int r7), none] dX9_setup_11 (by decide) rfl ?_
  refine xs_aload_n dX9_setup_12 rfl ?_
  obtain ⟨Q9, hQ9, h⟩ := h
  refine xs_callV (j := k_X9_ended) (As := []) (S := []) dX9_setup_13 (hQ9 hR) ⟨ml_X9_197, mk_X9_ended.1, mk_X9_ended.2.1, mk_X9_ended.2.2⟩ mv_X9_ended ⟨Nat.le_of_ble_eq_true rfl, Nat.le_of_ble_eq_true rfl⟩ rfl (Nat.le_of_ble_eq_true rfl) sc_75 rfl ⟨rfl, rfl⟩ (fun rr m10 hq12 => ?_)
  obtain ⟨hR, rfl, hq12⟩ := hq12
  replace h := h m10 hq12
  refine xs_aload_n dX9_setup_16 rfl ?_
  refine xs_getI dX9_setup_17 fl_X9_181.g rfl sc_75 ?_
  refine xs_if_ne 34 dX9_setup_20 (by decide) (fun c13 => ?_) (fun c13 => ?_)
  · replace h := h.1 c13
    exact xs_loc [some (.ref 75), none, none] ⟨rfl, trivial⟩ (h hR)
  · replace h := h.2 c13
    refine xs_iload_n dX9_setup_23 rfl ?_
    refine xs_bipush (nI 86) dX9_setup_24 (by decide) ?_
    refine xs_icmp_eq 34 dX9_setup_26 (by decide) (fun c14 => ?_) (fun c14 => ?_)
    · replace h := h.1 c14
      exact xs_loc [some (.ref 75), none, none] ⟨rfl, trivial⟩ (h hR)
    · replace h := h.2 c14
      refine xs_aload_n dX9_setup_29 rfl ?_
      refine xs_iconst (nI 3) dX9_setup_30 (by decide) ?_
      obtain ⟨Q15, hQ15, h⟩ := h
      refine xs_callV (j := k_X9_wrong) (As := [.int (nI 3)]) (S := []) dX9_setup_31 (hQ15 hR) ⟨ml_X9_184, mk_X9_wrong.1, mk_X9_wrong.2.1, mk_X9_wrong.2.2⟩ mv_X9_wrong ⟨Nat.le_of_ble_eq_true rfl, Nat.le_of_ble_eq_true rfl⟩ rfl (Nat.le_of_ble_eq_true rfl) sc_75 rfl ⟨rfl, rfl⟩ (fun rr m16 hq18 => ?_)
      obtain ⟨hR, rfl, hq18⟩ := hq18
      replace h := h m16 hq18
      exact xs_loc [some (.ref 75), none, none] ⟨rfl, trivial⟩ (h hR)
abbrev hd_X9_post_43 (b : Bool) (Q : xm_M → Prop)  (v1 : Int32) (v2 : Int32) (v3 : Int32) (μ : xm_M) : Prop := xs_RT b μ → xR k_X9_post none true (fun r _ μ' => xs_RT b μ' ∧ r = none ∧ Q μ') 43 [some (.ref 75), some (.int v1), some (.int v2), some (.int v3)] [] xs_sh (0, 0) μ
set_option maxHeartbeats 4000000 in
set_option maxRecDepth 100000 in
theorem l_X9_post_43 {b : Bool} {Q : xm_M → Prop} {μ : xm_M}  (v1 : Int32) (v2 : Int32) (v3 : Int32) 
    (h : ((v1 ≤ v3 →
       ((¬ v2 = 0 →
        Q μ) ∧
       (v2 = 0 →
        ∃ Q3 : xm_M → Prop, xCv b b k_X9_wrong μ [.ref 75, .int (nI 6)] Q3 ∧
        ∀ m4 : xm_M, Q3 m4 →
        Q m4))) ∧
      (¬ v1 ≤ v3 →
       ((v2 = 0 →
        ∀ x8 : Int32, x8 = v3 + nI 1 →
        hd_X9_post_43 b Q  v1 (nI 0) x8 μ) ∧
       (¬ v2 = 0 →
        vp_in v3 18 ∧
        vp_in v1 18 ∧
        (((μ.1 94 (v3).toNatClampNeg) = (μ.1 94 (v1).toNatClampNeg) →
         ∀ x12 : Int32, x12 = v3 + nI 1 →
         hd_X9_post_43 b Q  v1 (nI 0) x12 μ) ∧
        (¬ (μ.1 94 (v3).toNatClampNeg) = (μ.1 94 (v1).toNatClampNeg) →
         ∀ x13 : Int32, x13 = v3 + nI 1 →
         hd_X9_post_43 b Q  v1 (nI 1) x13 μ))))))) :
    hd_X9_post_43 b Q  v1 v2 v3 μ := by
  intro hR
  refine xs_iload_n dX9_post_43 rfl ?_
  refine xs_iload_n dX9_post_44 rfl ?_
  refine xs_icmp_ge 79 dX9_post_45 (by decide) (fun c1 => ?_) (fun c1 => ?_)
  · replace h := h.1 c1
    refine xs_iload_n dX9_post_79 rfl ?_
    refine xs_if_ne 89 dX9_post_80 (by decide) (fun c2 => ?_) (fun c2 => ?_)
    · replace h := h.1 c2
      exact xs_ret none dX9_post_89 trivial rfl ⟨hR, rfl, h⟩
    · replace h := h.2 c2
      refine xs_aload_n dX9_post_83 rfl ?_
      refine xs_bipush (nI 6) dX9_post_84 (by decide) ?_
      obtain ⟨Q3, hQ3, h⟩ := h
      refine xs_callV (j := k_X9_wrong) (As := [.int (nI 6)]) (S := []) dX9_post_86 (hQ3 hR) ⟨ml_X9_184, mk_X9_wrong.1, mk_X9_wrong.2.1, mk_X9_wrong.2.2⟩ mv_X9_wrong ⟨Nat.le_of_ble_eq_true rfl, Nat.le_of_ble_eq_true rfl⟩ rfl (Nat.le_of_ble_eq_true rfl) sc_75 rfl ⟨rfl, rfl⟩ (fun rr m4 hq6 => ?_)
      obtain ⟨hR, rfl, hq6⟩ := hq6
      replace h := h m4 hq6
      exact xs_ret none dX9_post_89 trivial rfl ⟨hR, rfl, h⟩
  · replace h := h.2 c1
    refine xs_iload_n dX9_post_48 rfl ?_
    refine xs_if_eq 71 dX9_post_49 (by decide) (fun c7 => ?_) (fun c7 => ?_)
    · replace h := h.1 c7
      refine xs_iconst (nI 0) dX9_post_71 (by decide) ?_
      refine xs_istore_n [some (.ref 75), some (.int v1), some (.int (nI 0)), some (.int v3)] dX9_post_72 (by decide) rfl ?_
      obtain ⟨x8, e_x8⟩ : ∃ z : Int32, z = v3 + nI 1 := ⟨_, rfl⟩
      replace h := h x8 e_x8
      refine xs_iinc x8 [some (.ref 75), some (.int v1), some (.int (nI 0)), some (.int x8)] dX9_post_73 (by decide) rfl (by rw [e_x8]; rfl) rfl ?_
      refine xs_goto 43 dX9_post_76 (by decide) ?_
      exact xs_loc [some (.ref 75), some (.int v1), some (.int (nI 0)), some (.int x8)] ⟨rfl, ⟨rfl, ⟨rfl, ⟨rfl, trivial⟩⟩⟩⟩ (h hR)
    · replace h := h.2 c7
      refine xs_aload_n dX9_post_52 rfl ?_
      refine xs_getR dX9_post_53 fl_X9_73 rfl sc_75 (rt_75_39 hR) ?_
      refine xs_iload_n dX9_post_56 rfl ?_
      obtain ⟨s9, h⟩ := h
      refine xs_iald dX9_post_57 sc_94 s9 ?_
      refine xs_aload_n dX9_post_58 rfl ?_
      refine xs_getR dX9_post_59 fl_X9_73 rfl sc_75 (rt_75_39 hR) ?_
      refine xs_iload_n dX9_post_62 rfl ?_
      obtain ⟨s10, h⟩ := h
      refine xs_iald dX9_post_63 sc_94 s10 ?_
      refine xs_icmp_eq 71 dX9_post_64 (by decide) (fun c11 => ?_) (fun c11 => ?_)
      · replace h := h.1 c11
        refine xs_iconst (nI 0) dX9_post_71 (by decide) ?_
        refine xs_istore_n [some (.ref 75), some (.int v1), some (.int (nI 0)), some (.int v3)] dX9_post_72 (by decide) rfl ?_
        obtain ⟨x12, e_x12⟩ : ∃ z : Int32, z = v3 + nI 1 := ⟨_, rfl⟩
        replace h := h x12 e_x12
        refine xs_iinc x12 [some (.ref 75), some (.int v1), some (.int (nI 0)), some (.int x12)] dX9_post_73 (by decide) rfl (by rw [e_x12]; rfl) rfl ?_
        refine xs_goto 43 dX9_post_76 (by decide) ?_
        exact xs_loc [some (.ref 75), some (.int v1), some (.int (nI 0)), some (.int x12)] ⟨rfl, ⟨rfl, ⟨rfl, ⟨rfl, trivial⟩⟩⟩⟩ (h hR)
      · replace h := h.2 c11
        refine xs_iconst (nI 1) dX9_post_67 (by decide) ?_
        refine xs_goto 72 dX9_post_68 (by decide) ?_
        refine xs_istore_n [some (.ref 75), some (.int v1), some (.int (nI 1)), some (.int v3)] dX9_post_72 (by decide) rfl ?_
        obtain ⟨x13, e_x13⟩ : ∃ z : Int32, z = v3 + nI 1 := ⟨_, rfl⟩
        replace h := h x13 e_x13
        refine xs_iinc x13 [some (.ref 75), some (.int v1), some (.int (nI 1)), some (.int x13)] dX9_post_73 (by decide) rfl (by rw [e_x13]; rfl) rfl ?_
        refine xs_goto 43 dX9_post_76 (by decide) ?_
        exact xs_loc [some (.ref 75), some (.int v1), some (.int (nI 1)), some (.int x13)] ⟨rfl, ⟨rfl, ⟨rfl, ⟨rfl, trivial⟩⟩⟩⟩ (h hR)
set_option maxHeartbeats 4000000 in
set_option maxRecDepth 100000 in
theorem g_X9_post {b : Bool} {Q : xm_M → Prop} {μ : xm_M} (v1 : Int32) 
    (h : ∃ Q1 : Int32 → xm_M → Prop, xCi b b k_X9_bits μ [.ref 75, .int (nI 5)] Q1 ∧
      ∀ (r3 : Int32) (m2 : xm_M), Q1 r3 m2 →
      vp_in v1 18 ∧
      ∀ m6 : xm_M, m6 = xu_I m2 94 (upd (m2.1 94) (v1).toNatClampNeg r3) →
      ∃ Q7 : xm_M → Prop, xCv b b k_X9_ended m6 [.ref 75] Q7 ∧
      ∀ m8 : xm_M, Q7 m8 →
      vp_in v1 18 ∧
      (((m8.1 94 (v1).toNatClampNeg) ≤ 0 →
       hd_X9_post_43 b Q  v1 (nI 0) (nI 2) m8) ∧
      (¬ (m8.1 94 (v1).toNatClampNeg) ≤ 0 →
       vp_in v1 18 ∧
       (((nI 16) ≤ (m8.1 94 (v1).toNatClampNeg) →
        hd_X9_post_43 b Q  v1 (nI 0) (nI 2) m8) ∧
       (¬ (nI 16) ≤ (m8.1 94 (v1).toNatClampNeg) →
        hd_X9_post_43 b Q  v1 (nI 1) (nI 2) m8))))) :
    xCv b b k_X9_post μ [.ref 75, .int v1] Q := by
  intro hR
  refine xm_met [some (.ref 75), some (.int v1), none, none] 2 (by decide) (by simp [lg_sl, Value.category]) rfl ?_
  refine xs_aload_n dX9_post_0 rfl ?_
  refine xs_getR dX9_post_1 fl_X9_73 rfl sc_75 (rt_75_39 hR) ?_
  refine xs_iload_n dX9_post_4 rfl ?_
  refine xs_aload_n dX9_post_5 rfl ?_
  refine xs_iconst (nI 5) dX9_post_6 (by decide) ?_
  obtain ⟨Q1, hQ1, h⟩ := h
  refine xs_callV (j := k_X9_bits) (As := [.int (nI 5)]) (S := [.int v1, .ref 94]) dX9_post_7 (hQ1 hR) ⟨ml_X9_193, mk_X9_bits.1, mk_X9_bits.2.1, mk_X9_bits.2.2⟩ mv_X9_bits ⟨Nat.le_of_ble_eq_true rfl, Nat.le_of_ble_eq_true rfl⟩ rfl (Nat.le_of_ble_eq_true rfl) sc_75 rfl ⟨rfl, rfl⟩ (fun rr m2 hq4 => ?_)
  obtain ⟨hR, r3, rfl, hq4⟩ := hq4
  replace h := h r3 m2 hq4
  obtain ⟨s5, h⟩ := h
  refine xs_iast dX9_post_10 sc_94 s5 ?_
  refine xs_nmM (fun m6 e_m6 => ?_)
  replace h := h m6 e_m6
  have hR : xs_RT b m6 := by rw [e_m6]; exact hR
  refine xs_aload_n dX9_post_11 rfl ?_
  obtain ⟨Q7, hQ7, h⟩ := h
  refine xs_callV (j := k_X9_ended) (As := []) (S := []) dX9_post_12 (hQ7 hR) ⟨ml_X9_197, mk_X9_ended.1, mk_X9_ended.2.1, mk_X9_ended.2.2⟩ mv_X9_ended ⟨Nat.le_of_ble_eq_true rfl, Nat.le_of_ble_eq_true rfl⟩ rfl (Nat.le_of_ble_eq_true rfl) sc_75 rfl ⟨rfl, rfl⟩ (fun rr m8 hq10 => ?_)
  obtain ⟨hR, rfl, hq10⟩ := hq10
  replace h := h m8 hq10
  refine xs_aload_n dX9_post_15 rfl ?_
  refine xs_getR dX9_post_16 fl_X9_73 rfl sc_75 (rt_75_39 hR) ?_
  refine xs_iload_n dX9_post_19 rfl ?_
  obtain ⟨s11, h⟩ := h
  refine xs_iald dX9_post_20 sc_94 s11 ?_
  refine xs_if_le 39 dX9_post_21 (by decide) (fun c12 => ?_) (fun c12 => ?_)
  · replace h := h.1 c12
    refine xs_iconst (nI 0) dX9_post_39 (by decide) ?_
    refine xs_istore_n [some (.ref 75), some (.int v1), some (.int (nI 0)), none] dX9_post_40 (by decide) rfl ?_
    refine xs_iconst (nI 2) dX9_post_41 (by decide) ?_
    refine xs_istore_n [some (.ref 75), some (.int v1), some (.int (nI 0)), some (.int (nI 2))] dX9_post_42 (by decide) rfl ?_
    exact xs_loc [some (.ref 75), some (.int v1), some (.int (nI 0)), some (.int (nI 2))] ⟨rfl, ⟨rfl, ⟨rfl, ⟨rfl, trivial⟩⟩⟩⟩ (h hR)
  · replace h := h.2 c12
    refine xs_aload_n dX9_post_24 rfl ?_
    refine xs_getR dX9_post_25 fl_X9_73 rfl sc_75 (rt_75_39 hR) ?_
    refine xs_iload_n dX9_post_28 rfl ?_
    obtain ⟨s13, h⟩ := h
    refine xs_iald dX9_post_29 sc_94 s13 ?_
    refine xs_bipush (nI 16) dX9_post_30 (by decide) ?_
    refine xs_icmp_ge 39 dX9_post_32 (by decide) (fun c14 => ?_) (fun c14 => ?_)
    · replace h := h.1 c14
      refine xs_iconst (nI 0) dX9_post_39 (by decide) ?_
      refine xs_istore_n [some (.ref 75), some (.int v1), some (.int (nI 0)), none] dX9_post_40 (by decide) rfl ?_
      refine xs_iconst (nI 2) dX9_post_41 (by decide) ?_
      refine xs_istore_n [some (.ref 75), some (.int v1), some (.int (nI 0)), some (.int (nI 2))] dX9_post_42 (by decide) rfl ?_
      exact xs_loc [some (.ref 75), some (.int v1), some (.int (nI 0)), some (.int (nI 2))] ⟨rfl, ⟨rfl, ⟨rfl, ⟨rfl, trivial⟩⟩⟩⟩ (h hR)
    · replace h := h.2 c14
      refine xs_iconst (nI 1) dX9_post_35 (by decide) ?_
      refine xs_goto 40 dX9_post_36 (by decide) ?_
      refine xs_istore_n [some (.ref 75), some (.int v1), some (.int (nI 1)), none] dX9_post_40 (by decide) rfl ?_
      refine xs_iconst (nI 2) dX9_post_41 (by decide) ?_
      refine xs_istore_n [some (.ref 75), some (.int v1), some (.int (nI 1)), some (.int (nI 2))] dX9_post_42 (by decide) rfl ?_
      exact xs_loc [some (.ref 75), some (.int v1), some (.int (nI 1)), some (.int (nI 2))] ⟨rfl, ⟨rfl, ⟨rfl, ⟨rfl, trivial⟩⟩⟩⟩ (h hR)
set_option maxHeartbeats 4000000 in
set_option maxRecDepth 100000 in
theorem g_X9_ofClass {b : Bool} {Q : xm_M → Prop} {μ : xm_M} (v1 : Int32) 
    (h : ∃ Q1 : Int32 → xm_M → Prop, xCi b b k_X9_bits μ [.ref 75, .int (nI 4)] Q1 ∧
      ∀ (r3 : Int32) (m2 : xm_M), Q1 r3 m2 →
      ∃ Q5 : xm_M → Prop, xCv b b k_X9_ended m2 [.ref 75] Q5 ∧
      ∀ m6 : xm_M, Q5 m6 →
      (((nI 8) ≤ r3 →
       vp_in v1 4 ∧
       ∀ m11 : xm_M, m11 = xu_I m6 95 (upd (m6.1 95) (v1).toNatClampNeg (-1 : Int32)) →
       ((0 < (m11.1 75 19) →
        Q m11) ∧
       (¬ 0 < (m11.1 75 19) →
        ((r3 < (nI 8) →
         ((r3 < (m11.1 75 18) →
          vp_in r3 8 ∧
          (((m11.1 86 (r3).toNatClampNeg) = 0 →
           ∃ Q17 : xm_M → Prop, xCv b b k_X9_wrong m11 [.ref 75, .int (nI 7)] Q17 ∧
           ∀ m18 : xm_M, Q17 m18 →
           Q m18) ∧
          (¬ (m11.1 86 (r3).toNatClampNeg) = 0 →
           vp_in r3 8 ∧
           ¬ (m11.1 83 (r3).toNatClampNeg) = 0 ∧
           ((((m11.1 75 35) - (m11.1 75 35) / (m11.1 83 (r3).toNatClampNeg) * (m11.1 83 (r3).toNatClampNeg)) = 0 →
            Q m11) ∧
           (¬ ((m11.1 75 35) - (m11.1 75 35) / (m11.1 83 (r3).toNatClampNeg) * (m11.1 83 (r3).toNatClampNeg)) = 0 →
            ∃ Q24 : xm_M → Prop, xCv b b k_X9_wrong m11 [.ref 75, .int (nI 7)] Q24 ∧
            ∀ m25 : xm_M, Q24 m25 →
            Q m25))))) ∧
         (¬ r3 < (m11.1 75 18) →
          ∃ Q28 : xm_M → Prop, xCv b b k_X9_wrong m11 [.ref 75, .int (nI 5)] Q28 ∧
          ∀ m29 : xm_M, Q28 m29 →
          Q m29))) ∧
        (¬ r3 < (nI 8) →
         Q m11))))) ∧
      (¬ (nI 8) ≤ r3 →
       vp_in v1 4 ∧
       ∀ m33 : xm_M, m33 = xu_I m6 95 (upd (m6.1 95) (v1).toNatClampNeg r3) →
       ((0 < (m33.1 75 19) →
        Q m33) ∧
       (¬ 0 < (m33.1 75 19) →
        ((r3 < (nI 8) →
         ((r3 < (m33.1 75 18) →
          vp_in r3 8 ∧
          (((m33.1 86 (r3).toNatClampNeg) = 0 →
           ∃ Q39 : xm_M → Prop, xCv b b k_X9_wrong m33 [.ref 75, .int (nI 7)] Q39 ∧
           ∀ m40 : xm_M, Q39 m40 →
           Q m40) ∧
          (¬ (m33.1 86 (r3).toNatClampNeg) = 0 →
           vp_in r3 8 ∧
           ¬ (m33.1 83 (r3).toNatClampNeg) = 0 ∧
           ((((m33.1 75 35) - (m33.1 75 35) / (m33.1 83 (r3).toNatClampNeg) * (m33.1 83 (r3).toNatClampNeg)) = 0 →
            Q m33) ∧
           (¬ ((m33.1 75 35) - (m33.1 75 35) / (m33.1 83 (r3).toNatClampNeg) * (m33.1 83 (r3).toNatClampNeg)) = 0 →
            ∃ Q46 : xm_M → Prop, xCv b b k_X9_wrong m33 [.ref 75, .int (nI 7)] Q46 ∧
            ∀ m47 : xm_M, Q46 m47 →
            Q m47))))) ∧
         (¬ r3 < (m33.1 75 18) →
          ∃ Q50 : xm_M → Prop, xCv b b k_X9_wrong m33 [.ref 75, .int (nI 5)] Q50 ∧
          ∀ m51 : xm_M, Q50 m51 →
          Q m51))) ∧
        (¬ r3 < (nI 8) →
         Q m33))))))) :
    xCv b b k_X9_ofClass μ [.ref 75, .int v1] Q := by
  intro hR
  refine xm_met [some (.ref 75), some (.int v1), none] 1 (by decide) (by simp [lg_sl, Value.category]) rfl ?_
  refine xs_aload_n dX9_ofClass_0 rfl ?_
  refine xs_iconst (nI 4) dX9_ofClass_1 (by decide) ?_
  obtain ⟨Q1, hQ1, h⟩ := h
  refine xs_callV (j := k_X9_bits) (As := [.int (nI 4)]) (S := []) dX9_ofClass_2 (hQ1 hR) ⟨ml_X9_193, mk_X9_bits.1, mk_X9_bits.2.1, mk_X9_bits.2.2⟩ mv_X9_bits ⟨Nat.le_of_ble_eq_true rfl, Nat.le_of_ble_eq_true rfl⟩ rfl (Nat.le_of_ble_eq_true rfl) sc_75 rfl ⟨rfl, rfl⟩ (fun rr m2 hq4 => ?_)
  obtain ⟨hR, r3, rfl, hq4⟩ := hq4
  replace h := h r3 m2 hq4
  refine xs_istore_n [some (.ref 75), some (.int v1), some (.int r3)] dX9_ofClass_5 (by decide) rfl ?_
  refine xs_aload_n dX9_ofClass_6 rfl ?_
  obtain ⟨Q5, hQ5, h⟩ := h
  refine xs_callV (j := k_X9_ended) (As := []) (S := []) dX9_ofClass_7 (hQ5 hR) ⟨ml_X9_197, mk_X9_ended.1, mk_X9_ended.2.1, mk_X9_ended.2.2⟩ mv_X9_ended ⟨Nat.le_of_ble_eq_true rfl, Nat.le_of_ble_eq_true rfl⟩ rfl (Nat.le_of_ble_eq_true rfl) sc_75 rfl ⟨rfl, rfl⟩ (fun rr m6 hq8 => ?_)
  obtain ⟨hR, rfl, hq8⟩ := hq8
  replace h := h m6 hq8
  refine xs_aload_n dX9_ofClass_10 rfl ?_
  refine xs_getR dX9_ofClass_11 fl_X9_76 rfl sc_75 (rt_75_40 hR) ?_
  refine xs_iload_n dX9_ofClass_14 rfl ?_
  refine xs_iload_n dX9_ofClass_15 rfl ?_
  refine xs_bipush (nI 8) dX9_ofClass_16 (by decide) ?_
  refine xs_icmp_ge 25 dX9_ofClass_18 (by decide) (fun c9 => ?_) (fun c9 => ?_)
  · replace h := h.1 c9
    refine xs_iconst (-1 : Int32) dX9_ofClass_25 (by decide) ?_
    obtain ⟨s10, h⟩ := h
    refine xs_iast dX9_ofClass_26 sc_95 s10 ?_
    refine xs_nmM (fun m11 e_m11 => ?_)
    replace h := h m11 e_m11
    have hR : xs_RT b m11 := by rw [e_m11]; exact hR
    refine xs_aload_n dX9_ofClass_27 rfl ?_
    refine xs_getI dX9_ofClass_28 fl_X9_181.g rfl sc_75 ?_
    refine xs_if_gt 40 dX9_ofClass_31 (by decide) (fun c12 => ?_) (fun c12 => ?_)
    · replace h := h.1 c12
      exact xs_ret none dX9_ofClass_40 trivial rfl ⟨hR, rfl, h⟩
    · replace h := h.2 c12
      refine xs_iload_n dX9_ofClass_34 rfl ?_
      refine xs_bipush (nI 8) dX9_ofClass_35 (by decide) ?_
      refine xs_icmp_lt 41 dX9_ofClass_37 (by decide) (fun c13 => ?_) (fun c13 => ?_)
      · replace h := h.1 c13
        refine xs_iload_n dX9_ofClass_41 rfl ?_
        refine xs_aload_n dX9_ofClass_42 rfl ?_
        refine xs_getI dX9_ofClass_43 fl_X9_213.g rfl sc_75 ?_
        refine xs_icmp_lt 57 dX9_ofClass_46 (by decide) (fun c14 => ?_) (fun c14 => ?_)
        · replace h := h.1 c14
          refine xs_aload_n dX9_ofClass_57 rfl ?_
          refine xs_getR dX9_ofClass_58 fl_X9_47 rfl sc_75 (rt_75_23 hR) ?_
          refine xs_iload_n dX9_ofClass_61 rfl ?_
          obtain ⟨s15, h⟩ := h
          refine xs_zald dX9_ofClass_62 sc_86 s15 ?_
          refine xs_if_eq 80 dX9_ofClass_63 (by decide) (fun c16 => ?_) (fun c16 => ?_)
          · replace h := h.1 c16
            refine xs_aload_n dX9_ofClass_80 rfl ?_
            refine xs_bipush (nI 7) dX9_ofClass_81 (by decide) ?_
            obtain ⟨Q17, hQ17, h⟩ := h
            refine xs_callV (j := k_X9_wrong) (As := [.int (nI 7)]) (S := []) dX9_ofClass_83 (hQ17 hR) ⟨ml_X9_184, mk_X9_wrong.1, mk_X9_wrong.2.1, mk_X9_wrong.2.2⟩ mv_X9_wrong ⟨Nat.le_of_ble_eq_true rfl, Nat.le_of_ble_eq_true rfl⟩ rfl (Nat.le_of_ble_eq_true rfl) sc_75 rfl ⟨rfl, rfl⟩ (fun rr m18 hq20 => ?_)
            obtain ⟨hR, rfl, hq20⟩ := hq20
            replace h := h m18 hq20
            exact xs_ret none dX9_ofClass_86 trivial rfl ⟨hR, rfl, h⟩
          · replace h := h.2 c16
            refine xs_aload_n dX9_ofClass_66 rfl ?_
            refine xs_getI dX9_ofClass_67 fl_X9_231.g rfl sc_75 ?_
            refine xs_aload_n dX9_ofClass_70 rfl ?_
            refine xs_getR dX9_ofClass_71 fl_X9_38 rfl sc_75 (rt_75_20 hR) ?_
            refine xs_iload_n dX9_ofClass_74 rfl ?_
            obtain ⟨s21, h⟩ := h
            refine xs_iald dX9_ofClass_75 sc_83 s21 ?_
            obtain ⟨s22, h⟩ := h
            refine xs_irem dX9_ofClass_76 s22 ?_
            refine xs_if_eq 86 dX9_ofClass_77 (by decide) (fun c23 => ?_) (fun c23 => ?_)
            · replace h := h.1 c23
              exact xs_ret none dX9_ofClass_86 trivial rfl ⟨hR, rfl, h⟩
            · replace h := h.2 c23
              refine xs_aload_n dX9_ofClass_80 rfl ?_
              refine xs_bipush (nI 7) dX9_ofClass_81 (by decide) ?_
              obtain ⟨Q24, hQ24, h⟩ := h
              refine xs_callV (j := k_X9_wrong) (As := [.int (nI 7)]) (S := []) dX9_ofClass_83 (hQ24 hR) ⟨ml_X9_184, mk_X9_wrong.1, mk_X9_wrong.2.1, mk_X9_wrong.2.2⟩ mv_X9_wrong ⟨Nat.le_of_ble_eq_true rfl, Nat.le_of_ble_eq_true rfl⟩ rfl (Nat.le_of_ble_eq_true rfl) sc_75 rfl ⟨rfl, rfl⟩ (fun rr m25 hq27 => ?_)
              obtain ⟨hR, rfl, hq27⟩ := hq27
              replace h := h m25 hq27
              exact xs_ret none dX9_ofClass_86 trivial rfl ⟨hR, rfl, h⟩
        · replace h := h.2 c14
          refine xs_aload_n dX9_ofClass_49 rfl ?_
          refine xs_iconst (nI 5) dX9_ofClass_50 (by decide) ?_
          obtain ⟨Q28, hQ28, h⟩ := h
          refine xs_callV (j := k_X9_wrong) (As := [.int (nI 5)]) (S := []) dX9_ofClass_51 (hQ28 hR) ⟨ml_X9_184, mk_X9_wrong.1, mk_X9_wrong.2.1, mk_X9_wrong.2.2⟩ mv_X9_wrong ⟨Nat.le_of_ble_eq_true rfl, Nat.le_of_ble_eq_true rfl⟩ rfl (Nat.le_of_ble_eq_true rfl) sc_75 rfl ⟨rfl, rfl⟩ (fun rr m29 hq31 => ?_)
          obtain ⟨hR, rfl, hq31⟩ := hq31
          replace h := h m29 hq31
          refine xs_goto 86 dX9_ofClass_54 (by decide) ?_
          exact xs_ret none dX9_ofClass_86 trivial rfl ⟨hR, rfl, h⟩
      · replace h := h.2 c13
        exact xs_ret none dX9_ofClass_40 trivial rfl ⟨hR, rfl, h⟩
  · replace h := h.2 c9
    refine xs_iload_n dX9_ofClass_21 rfl ?_
    refine xs_goto 26 dX9_ofClass_22 (by decide) ?_
    obtain ⟨s32, h⟩ := h
    refine xs_iast dX9_ofClass_26 sc_95 s32 ?_
    refine xs_nmM (fun m33 e_m33 => ?_)
    replace h := h m33 e_m33
    have hR : xs_RT b m33 := by rw [e_m33]; exact hR
    refine xs_aload_n dX9_ofClass_27 rfl ?_
    refine xs_getI dX9_ofClass_28 fl_X9_181.g rfl sc_75 ?_
    refine xs_if_gt 40 dX9_ofClass_31 (by decide) (fun c34 => ?_) (fun c34 => ?_)
    · replace h := h.1 c34
      exact xs_ret none dX9_ofClass_40 trivial rfl ⟨hR, rfl, h⟩
    · replace h := h.2 c34
      refine xs_iload_n dX9_ofClass_34 rfl ?_
      refine xs_bipush (nI 8) dX9_ofClass_35 (by decide) ?_
      refine xs_icmp_lt 41 dX9_ofClass_37 (by decide) (fun c35 => ?_) (fun c35 => ?_)
      · replace h := h.1 c35
        refine xs_iload_n dX9_ofClass_41 rfl ?_
        refine xs_aload_n dX9_ofClass_42 rfl ?_
        refine xs_getI dX9_ofClass_43 fl_X9_213.g rfl sc_75 ?_
        refine xs_icmp_lt 57 dX9_ofClass_46 (by decide) (fun c36 => ?_) (fun c36 => ?_)
        · replace h := h.1 c36
          refine xs_aload_n dX9_ofClass_57 rfl ?_
          refine xs_getR dX9_ofClass_58 fl_X9_47 rfl sc_75 (rt_75_23 hR) ?_
          refine xs_iload_n dX9_ofClass_61 rfl ?_
          obtain ⟨s37, h⟩ := h
          refine xs_zald dX9_ofClass_62 sc_86 s37 ?_
          refine xs_if_eq 80 dX9_ofClass_63 (by decide) (fun c38 => ?_) (fun c38 => ?_)
          · replace h := h.1 c38
            refine xs_aload_n dX9_ofClass_80 rfl ?_
            refine xs_bipush (nI 7) dX9_ofClass_81 (by decide) ?_
            obtain ⟨Q39, hQ39, h⟩ := h
            refine xs_callV (j := k_X9_wrong) (As := [.int (nI 7)]) (S := []) dX9_ofClass_83 (hQ39 hR) ⟨ml_X9_184, mk_X9_wrong.1, mk_X9_wrong.2.1, mk_X9_wrong.2.2⟩ mv_X9_wrong ⟨Nat.le_of_ble_eq_true rfl, Nat.le_of_ble_eq_true rfl⟩ rfl (Nat.le_of_ble_eq_true rfl) sc_75 rfl ⟨rfl, rfl⟩ (fun rr m40 hq42 => ?_)
            obtain ⟨hR, rfl, hq42⟩ := hq42
            replace h := h m40 hq42
            exact xs_ret none dX9_ofClass_86 trivial rfl ⟨hR, rfl, h⟩
          · replace h := h.2 c38
            refine xs_aload_n dX9_ofClass_66 rfl ?_
            refine xs_getI dX9_ofClass_67 fl_X9_231.g rfl sc_75 ?_
            refine xs_aload_n dX9_ofClass_70 rfl ?_
            refine xs_getR dX9_ofClass_71 fl_X9_38 rfl sc_75 (rt_75_20 hR) ?_
            refine xs_iload_n dX9_ofClass_74 rfl ?_
            obtain ⟨s43, h⟩ := h
            refine xs_iald dX9_ofClass_75 sc_83 s43 ?_
            obtain ⟨s44, h⟩ := h
            refine xs_irem dX9_ofClass_76 s44 ?_
            refine xs_if_eq 86 dX9_ofClass_77 (by decide) (fun c45 => ?_) (fun c45 => ?_)
            · replace h := h.1 c45
              exact xs_ret none dX9_ofClass_86 trivial rfl ⟨hR, rfl, h⟩
            · replace h := h.2 c45
              refine xs_aload_n dX9_ofClass_80 rfl ?_
              refine xs_bipush (nI 7) dX9_ofClass_81 (by decide) ?_
              obtain ⟨Q46, hQ46, h⟩ := h
              refine xs_callV (j := k_X9_wrong) (As := [.int (nI 7)]) (S := []) dX9_ofClass_83 (hQ46 hR) ⟨ml_X9_184, mk_X9_wrong.1, mk_X9_wrong.2.1, mk_X9_wrong.2.2⟩ mv_X9_wrong ⟨Nat.le_of_ble_eq_true rfl, Nat.le_of_ble_eq_true rfl⟩ rfl (Nat.le_of_ble_eq_true rfl) sc_75 rfl ⟨rfl, rfl⟩ (fun rr m47 hq49 => ?_)
              obtain ⟨hR, rfl, hq49⟩ := hq49
              replace h := h m47 hq49
              exact xs_ret none dX9_ofClass_86 trivial rfl ⟨hR, rfl, h⟩
        · replace h := h.2 c36
          refine xs_aload_n dX9_ofClass_49 rfl ?_
          refine xs_iconst (nI 5) dX9_ofClass_50 (by decide) ?_
          obtain ⟨Q50, hQ50, h⟩ := h
          refine xs_callV (j := k_X9_wrong) (As := [.int (nI 5)]) (S := []) dX9_ofClass_51 (hQ50 hR) ⟨ml_X9_184, mk_X9_wrong.1, mk_X9_wrong.2.1, mk_X9_wrong.2.2⟩ mv_X9_wrong ⟨Nat.le_of_ble_eq_true rfl, Nat.le_of_ble_eq_true rfl⟩ rfl (Nat.le_of_ble_eq_true rfl) sc_75 rfl ⟨rfl, rfl⟩ (fun rr m51 hq53 => ?_)
          obtain ⟨hR, rfl, hq53⟩ := hq53
          replace h := h m51 hq53
          refine xs_goto 86 dX9_ofClass_54 (by decide) ?_
          exact xs_ret none dX9_ofClass_86 trivial rfl ⟨hR, rfl, h⟩
      · replace h := h.2 c35
        exact xs_ret none dX9_ofClass_40 trivial rfl ⟨hR, rfl, h⟩
set_option maxHeartbeats 4000000 in
set_option maxRecDepth 100000 in
theorem g_X9_line {b : Bool} {Q : Int32 → xm_M → Prop} {μ : xm_M} (v1 : Int32) (v2 : Int32) (v3 : Int32) 
    (h : vp_in v2 18 ∧
      vp_in v1 18 ∧
      ∀ x3 : Int32, x3 = ((μ.1 96 (v2).toNatClampNeg) - (μ.1 96 (v1).toNatClampNeg)) →
      ((0 ≤ x3 →
       vp_in v1 18 ∧
       vp_in v2 18 ∧
       vp_in v1 18 ∧
       ¬ ((μ.1 94 (v2).toNatClampNeg) - (μ.1 94 (v1).toNatClampNeg)) = 0 ∧
       ∀ x9 : Int32, x9 = ((x3 * (v3 - (μ.1 94 (v1).toNatClampNeg))) / ((μ.1 94 (v2).toNatClampNeg) - (μ.1 94 (v1).toNatClampNeg))) →
       ((0 ≤ x3 →
        vp_in v1 18 ∧
        Q ((μ.1 96 (v1).toNatClampNeg) + x9) μ) ∧
       (¬ 0 ≤ x3 →
        vp_in v1 18 ∧
        Q ((μ.1 96 (v1).toNatClampNeg) - x9) μ))) ∧
      (¬ 0 ≤ x3 →
       vp_in v1 18 ∧
       vp_in v2 18 ∧
       vp_in v1 18 ∧
       ¬ ((μ.1 94 (v2).toNatClampNeg) - (μ.1 94 (v1).toNatClampNeg)) = 0 ∧
       ∀ x17 : Int32, x17 = (((-x3) * (v3 - (μ.1 94 (v1).toNatClampNeg))) / ((μ.1 94 (v2).toNatClampNeg) - (μ.1 94 (v1).toNatClampNeg))) →
       ((0 ≤ x3 →
        vp_in v1 18 ∧
        Q ((μ.1 96 (v1).toNatClampNeg) + x17) μ) ∧
       (¬ 0 ≤ x3 →
        vp_in v1 18 ∧
        Q ((μ.1 96 (v1).toNatClampNeg) - x17) μ))))) :
    xCi b b k_X9_line μ [.ref 75, .int v1, .int v2, .int v3] Q := by
  intro hR
  refine xm_met [some (.ref 75), some (.int v1), some (.int v2), some (.int v3), none, none] 2 (by decide) (by simp [lg_sl, Value.category]) rfl ?_
  refine xs_aload_n dX9_line_0 rfl ?_
  refine xs_getR dX9_line_1 fl_X9_79 rfl sc_75 (rt_75_41 hR) ?_
  refine xs_iload_n dX9_line_4 rfl ?_
  obtain ⟨s1, h⟩ := h
  refine xs_iald dX9_line_5 sc_96 s1 ?_
  refine xs_aload_n dX9_line_6 rfl ?_
  refine xs_getR dX9_line_7 fl_X9_79 rfl sc_75 (rt_75_41 hR) ?_
  refine xs_iload_n dX9_line_10 rfl ?_
  obtain ⟨s2, h⟩ := h
  refine xs_iald dX9_line_11 sc_96 s2 ?_
  refine xs_isub dX9_line_12 ?_
  refine xs_nmI (fun x3 e_x3 => ?_)
  replace h := h x3 e_x3
  refine xs_istore [some (.ref 75), some (.int v1), some (.int v2), some (.int v3), some (.int x3), none] dX9_line_13 (by decide) rfl ?_
  refine xs_iload dX9_line_15 rfl ?_
  refine xs_if_ge 26 dX9_line_17 (by decide) (fun c4 => ?_) (fun c4 => ?_)
  · replace h := h.1 c4
    refine xs_iload dX9_line_26 rfl ?_
    refine xs_iload_n dX9_line_28 rfl ?_
    refine xs_aload_n dX9_line_29 rfl ?_
    refine xs_getR dX9_line_30 fl_X9_73 rfl sc_75 (rt_75_39 hR) ?_
    refine xs_iload_n dX9_line_33 rfl ?_
    obtain ⟨s5, h⟩ := h
    refine xs_iald dX9_line_34 sc_94 s5 ?_
    refine xs_isub dX9_line_35 ?_
    refine xs_imul dX9_line_36 ?_
    refine xs_aload_n dX9_line_37 rfl ?_
    refine xs_getR dX9_line_38 fl_X9_73 rfl sc_75 (rt_75_39 hR) ?_
    refine xs_iload_n dX9_line_41 rfl ?_
    obtain ⟨s6, h⟩ := h
    refine xs_iald dX9_line_42 sc_94 s6 ?_
    refine xs_aload_n dX9_line_43 rfl ?_
    refine xs_getR dX9_line_44 fl_X9_73 rfl sc_75 (rt_75_39 hR) ?_
    refine xs_iload_n dX9_line_47 rfl ?_
    obtain ⟨s7, h⟩ := h
    refine xs_iald dX9_line_48 sc_94 s7 ?_
    refine xs_isub dX9_line_49 ?_
    obtain ⟨s8, h⟩ := h
    refine xs_idiv dX9_line_50 s8 ?_
    refine xs_nmI (fun x9 e_x9 => ?_)
    replace h := h x9 e_x9
    refine xs_istore [some (.ref 75), some (.int v1), some (.int v2), some (.int v3), some (.int x3), some (.int x9)] dX9_line_51 (by decide) rfl ?_
    refine xs_iload dX9_line_53 rfl ?_
    refine xs_if_ge 70 dX9_line_55 (by decide) (fun c10 => ?_) (fun c10 => ?_)
    · replace h := h.1 c10
      refine xs_aload_n dX9_line_70 rfl ?_
      refine xs_getR dX9_line_71 fl_X9_79 rfl sc_75 (rt_75_41 hR) ?_
      refine xs_iload_n dX9_line_74 rfl ?_
      obtain ⟨s11, h⟩ := h
      refine xs_iald dX9_line_75 sc_96 s11 ?_
      refine xs_iload dX9_line_76 rfl ?_
      refine xs_iadd dX9_line_78 ?_
      exact xs_ret (some (.int ((μ.1 96 (v1).toNatClampNeg) + x9))) dX9_line_79 rfl rfl ⟨hR, _, rfl, h⟩
    · replace h := h.2 c10
      refine xs_aload_n dX9_line_58 rfl ?_
      refine xs_getR dX9_line_59 fl_X9_79 rfl sc_75 (rt_75_41 hR) ?_
      refine xs_iload_n dX9_line_62 rfl ?_
      obtain ⟨s12, h⟩ := h
      refine xs_iald dX9_line_63 sc_96 s12 ?_
      refine xs_iload dX9_line_64 rfl ?_
      refine xs_isub dX9_line_66 ?_
      refine xs_goto 79 dX9_line_67 (by decide) ?_
      exact xs_ret (some (.int ((μ.1 96 (v1).toNatClampNeg) - x9))) dX9_line_79 rfl rfl ⟨hR, _, rfl, h⟩
  · replace h := h.2 c4
    refine xs_iload dX9_line_20 rfl ?_
    refine xs_ineg dX9_line_22 ?_
    refine xs_goto 28 dX9_line_23 (by decide) ?_
    refine xs_iload_n dX9_line_28 rfl ?_
    refine xs_aload_n dX9_line_29 rfl ?_
    refine xs_getR dX9_line_30 fl_X9_73 rfl sc_75 (rt_75_39 hR) ?_
    refine xs_iload_n dX9_line_33 rfl ?_
    obtain ⟨s13, h⟩ := h
    refine xs_iald dX9_line_34 sc_94 s13 ?_
    refine xs_isub dX9_line_35 ?_
    refine xs_imul dX9_line_36 ?_
    refine xs_aload_n dX9_line_37 rfl ?_
    refine xs_getR dX9_line_38 fl_X9_73 rfl sc_75 (rt_75_39 hR) ?_
    refine xs_iload_n dX9_line_41 rfl ?_
    obtain ⟨s14, h⟩ := h
    refine xs_iald dX9_line_42 sc_94 s14 ?_
    refine xs_aload_n dX9_line_43 rfl ?_
    refine xs_getR dX9_line_44 fl_X9_73 rfl sc_75 (rt_75_39 hR) ?_
    refine xs_iload_n dX9_line_47 rfl ?_
    obtain ⟨s15, h⟩ := h
    refine xs_iald dX9_line_48 sc_94 s15 ?_
    refine xs_isub dX9_line_49 ?_
    obtain ⟨s16, h⟩ := h
    refine xs_idiv dX9_line_50 s16 ?_
    refine xs_nmI (fun x17 e_x17 => ?_)
    replace h := h x17 e_x17
    refine xs_istore [some (.ref 75), some (.int v1), some (.int v2), some (.int v3), some (.int x3), some (.int x17)] dX9_line_51 (by decide) rfl ?_
    refine xs_iload dX9_line_53 rfl ?_
    refine xs_if_ge 70 dX9_line_55 (by decide) (fun c18 => ?_) (fun c18 => ?_)
    · replace h := h.1 c18
      refine xs_aload_n dX9_line_70 rfl ?_
      refine xs_getR dX9_line_71 fl_X9_79 rfl sc_75 (rt_75_41 hR) ?_
      refine xs_iload_n dX9_line_74 rfl ?_
      obtain ⟨s19, h⟩ := h
      refine xs_iald dX9_line_75 sc_96 s19 ?_
      refine xs_iload dX9_line_76 rfl ?_
      refine xs_iadd dX9_line_78 ?_
      exact xs_ret (some (.int ((μ.1 96 (v1).toNatClampNeg) + x17))) dX9_line_79 rfl rfl ⟨hR, _, rfl, h⟩
    · replace h := h.2 c18
      refine xs_aload_n dX9_line_58 rfl ?_
      refine xs_getR dX9_line_59 fl_X9_79 rfl sc_75 (rt_75_41 hR) ?_
      refine xs_iload_n dX9_line_62 rfl ?_
      obtain ⟨s20, h⟩ := h
      refine xs_iald dX9_line_63 sc_96 s20 ?_
      refine xs_iload dX9_line_64 rfl ?_
      refine xs_isub dX9_line_66 ?_
      refine xs_goto 79 dX9_line_67 (by decide) ?_
      exact xs_ret (some (.int ((μ.1 96 (v1).toNatClampNeg) - x17))) dX9_line_79 rfl rfl ⟨hR, _, rfl, h⟩
set_option maxHeartbeats 4000000 in
set_option maxRecDepth 100000 in
theorem g_X9_range {b : Bool} {Q : Int32 → xm_M → Prop} {μ : xm_M}  
    (h : ((¬ (μ.1 75 32) = (nI 1) →
       ((¬ (μ.1 75 32) = (nI 2) →
        ((¬ (μ.1 75 32) = (nI 3) →
         Q (nI 64) μ) ∧
        ((μ.1 75 32) = (nI 3) →
         Q (nI 86) μ))) ∧
       ((μ.1 75 32) = (nI 2) →
        Q (nI 128) μ))) ∧
      ((μ.1 75 32) = (nI 1) →
       Q (nI 256) μ))) :
    xCi b b k_X9_range μ [.ref 75] Q := by
  intro hR
  refine xm_met [some (.ref 75)] 0 (by decide) (by simp [lg_sl, Value.category]) rfl ?_
  refine xs_aload_n dX9_range_0 rfl ?_
  refine xs_getI dX9_range_1 fl_X9_219.g rfl sc_75 ?_
  refine xs_iconst (nI 1) dX9_range_4 (by decide) ?_
  refine xs_icmp_ne 14 dX9_range_5 (by decide) (fun c1 => ?_) (fun c1 => ?_)
  · replace h := h.1 c1
    refine xs_aload_n dX9_range_14 rfl ?_
    refine xs_getI dX9_range_15 fl_X9_219.g rfl sc_75 ?_
    refine xs_iconst (nI 2) dX9_range_18 (by decide) ?_
    refine xs_icmp_ne 28 dX9_range_19 (by decide) (fun c2 => ?_) (fun c2 => ?_)
    · replace h := h.1 c2
      refine xs_aload_n dX9_range_28 rfl ?_
      refine xs_getI dX9_range_29 fl_X9_219.g rfl sc_75 ?_
      refine xs_iconst (nI 3) dX9_range_32 (by decide) ?_
      refine xs_icmp_ne 41 dX9_range_33 (by decide) (fun c3 => ?_) (fun c3 => ?_)
      · replace h := h.1 c3
        refine xs_bipush (nI 64) dX9_range_41 (by decide) ?_
        exact xs_ret (some (.int (nI 64))) dX9_range_43 rfl rfl ⟨hR, _, rfl, h⟩
      · replace h := h.2 c3
        refine xs_bipush (nI 86) dX9_range_36 (by decide) ?_
        refine xs_goto 43 dX9_range_38 (by decide) ?_
        exact xs_ret (some (.int (nI 86))) dX9_range_43 rfl rfl ⟨hR, _, rfl, h⟩
    · replace h := h.2 c2
      refine xs_sipush (nI 128) dX9_range_22 (by decide) ?_
      refine xs_goto 43 dX9_range_25 (by decide) ?_
      exact xs_ret (some (.int (nI 128))) dX9_range_43 rfl rfl ⟨hR, _, rfl, h⟩
  · replace h := h.2 c1
    refine xs_sipush (nI 256) dX9_range_8 (by decide) ?_
    refine xs_goto 43 dX9_range_11 (by decide) ?_
    exact xs_ret (some (.int (nI 256))) dX9_range_43 rfl rfl ⟨hR, _, rfl, h⟩
abbrev hd_X9_beside_5 (b : Bool) (Q : Int32 → xm_M → Prop)  (v1 : Int32) (v2 : Int32) (v3 : Int32) (v4 : Int32) (μ : xm_M) : Prop := xs_RT b μ → xR k_X9_beside none true (fun r _ μ' => xs_RT b μ' ∧ ∃ x : Int32, r = some (.int x) ∧ Q x μ') 5 [some (.ref 75), some (.int v1), some (.int v2), some (.int v3), some (.int v4)] [] xs_sh (0, 0) μ
set_option maxHeartbeats 4000000 in
set_option maxRecDepth 100000 in
theorem l_X9_beside_5 {b : Bool} {Q : Int32 → xm_M → Prop} {μ : xm_M}  (v1 : Int32) (v2 : Int32) (v3 : Int32) (v4 : Int32) 
    (h : ((v1 ≤ v4 →
       Q v3 μ) ∧
      (¬ v1 ≤ v4 →
       ((v2 = 0 →
        vp_in v4 18 ∧
        vp_in v1 18 ∧
        (((μ.1 94 (v4).toNatClampNeg) ≤ (μ.1 94 (v1).toNatClampNeg) →
         ((v3 < 0 →
          ∀ x7 : Int32, x7 = v4 + nI 1 →
          hd_X9_beside_5 b Q  v1 v2 v4 x7 μ) ∧
         (¬ v3 < 0 →
          ((v2 = 0 →
           vp_in v4 18 ∧
           vp_in v3 18 ∧
           (((μ.1 94 (v4).toNatClampNeg) ≤ (μ.1 94 (v3).toNatClampNeg) →
            ∀ x12 : Int32, x12 = v4 + nI 1 →
            hd_X9_beside_5 b Q  v1 v2 v3 x12 μ) ∧
           (¬ (μ.1 94 (v4).toNatClampNeg) ≤ (μ.1 94 (v3).toNatClampNeg) →
            ∀ x13 : Int32, x13 = v4 + nI 1 →
            hd_X9_beside_5 b Q  v1 v2 v4 x13 μ))) ∧
          (¬ v2 = 0 →
           vp_in v4 18 ∧
           vp_in v3 18 ∧
           (((μ.1 94 (v3).toNatClampNeg) ≤ (μ.1 94 (v4).toNatClampNeg) →
            ∀ x17 : Int32, x17 = v4 + nI 1 →
            hd_X9_beside_5 b Q  v1 v2 v3 x17 μ) ∧
           (¬ (μ.1 94 (v3).toNatClampNeg) ≤ (μ.1 94 (v4).toNatClampNeg) →
            ∀ x18 : Int32, x18 = v4 + nI 1 →
            hd_X9_beside_5 b Q  v1 v2 v4 x18 μ))))))) ∧
        (¬ (μ.1 94 (v4).toNatClampNeg) ≤ (μ.1 94 (v1).toNatClampNeg) →
         ∀ x19 : Int32, x19 = v4 + nI 1 →
         hd_X9_beside_5 b Q  v1 v2 v3 x19 μ))) ∧
       (¬ v2 = 0 →
        vp_in v4 18 ∧
        vp_in v1 18 ∧
        (((μ.1 94 (v1).toNatClampNeg) ≤ (μ.1 94 (v4).toNatClampNeg) →
         ((v3 < 0 →
          ∀ x24 : Int32, x24 = v4 + nI 1 →
          hd_X9_beside_5 b Q  v1 v2 v4 x24 μ) ∧
         (¬ v3 < 0 →
          ((v2 = 0 →
           vp_in v4 18 ∧
           vp_in v3 18 ∧
           (((μ.1 94 (v4).toNatClampNeg) ≤ (μ.1 94 (v3).toNatClampNeg) →
            ∀ x29 : Int32, x29 = v4 + nI 1 →
            hd_X9_beside_5 b Q  v1 v2 v3 x29 μ) ∧
           (¬ (μ.1 94 (v4).toNatClampNeg) ≤ (μ.1 94 (v3).toNatClampNeg) →
            ∀ x30 : Int32, x30 = v4 + nI 1 →
            hd_X9_beside_5 b Q  v1 v2 v4 x30 μ))) ∧
          (¬ v2 = 0 →
           vp_in v4 18 ∧
           vp_in v3 18 ∧
           (((μ.1 94 (v3).toNatClampNeg) ≤ (μ.1 94 (v4).toNatClampNeg) →
            ∀ x34 : Int32, x34 = v4 + nI 1 →
            hd_X9_beside_5 b Q  v1 v2 v3 x34 μ) ∧
           (¬ (μ.1 94 (v3).toNatClampNeg) ≤ (μ.1 94 (v4).toNatClampNeg) →
            ∀ x35 : Int32, x35 = v4 + nI 1 →
            hd_X9_beside_5 b Q  v1 v2 v4 x35 μ))))))) ∧
        (¬ (μ.1 94 (v1).toNatClampNeg) ≤ (μ.1 94 (v4).toNatClampNeg) →
         ∀ x36 : Int32, x36 = v4 + nI 1 →
         hd_X9_beside_5 b Q  v1 v2 v3 x36 μ))))))) :
    hd_X9_beside_5 b Q  v1 v2 v3 v4 μ := by
  intro hR
  refine xs_iload dX9_beside_5 rfl ?_
  refine xs_iload_n dX9_beside_7 rfl ?_
  refine xs_icmp_ge 105 dX9_beside_8 (by decide) (fun c1 => ?_) (fun c1 => ?_)
  · replace h := h.1 c1
    refine xs_iload_n dX9_beside_105 rfl ?_
    exact xs_ret (some (.int v3)) dX9_beside_106 rfl rfl ⟨hR, _, rfl, h⟩
  · replace h := h.2 c1
    refine xs_iload_n dX9_beside_11 rfl ?_
    refine xs_if_eq 34 dX9_beside_12 (by decide) (fun c2 => ?_) (fun c2 => ?_)
    · replace h := h.1 c2
      refine xs_aload_n dX9_beside_34 rfl ?_
      refine xs_getR dX9_beside_35 fl_X9_73 rfl sc_75 (rt_75_39 hR) ?_
      refine xs_iload dX9_beside_38 rfl ?_
      obtain ⟨s3, h⟩ := h
      refine xs_iald dX9_beside_40 sc_94 s3 ?_
      refine xs_aload_n dX9_beside_41 rfl ?_
      refine xs_getR dX9_beside_42 fl_X9_73 rfl sc_75 (rt_75_39 hR) ?_
      refine xs_iload_n dX9_beside_45 rfl ?_
      obtain ⟨s4, h⟩ := h
      refine xs_iald dX9_beside_46 sc_94 s4 ?_
      refine xs_icmp_le 53 dX9_beside_47 (by decide) (fun c5 => ?_) (fun c5 => ?_)
      · replace h := h.1 c5
        refine xs_iload_n dX9_beside_53 rfl ?_
        refine xs_if_lt 96 dX9_beside_54 (by decide) (fun c6 => ?_) (fun c6 => ?_)
        · replace h := h.1 c6
          refine xs_iload dX9_beside_96 rfl ?_
          refine xs_istore_n [some (.ref 75), some (.int v1), some (.int v2), some (.int v4), some (.int v4)] dX9_beside_98 (by decide) rfl ?_
          obtain ⟨x7, e_x7⟩ : ∃ z : Int32, z = v4 + nI 1 := ⟨_, rfl⟩
          replace h := h x7 e_x7
          refine xs_iinc x7 [some (.ref 75), some (.int v1), some (.int v2), some (.int v4), some (.int x7)] dX9_beside_99 (by decide) rfl (by rw [e_x7]; rfl) rfl ?_
          refine xs_goto 5 dX9_beside_102 (by decide) ?_
          exact xs_loc [some (.ref 75), some (.int v1), some (.int v2), some (.int v4), some (.int x7)] ⟨rfl, ⟨rfl, ⟨rfl, ⟨rfl, ⟨rfl, trivial⟩⟩⟩⟩⟩ (h hR)
        · replace h := h.2 c6
          refine xs_iload_n dX9_beside_57 rfl ?_
          refine xs_if_eq 80 dX9_beside_58 (by decide) (fun c8 => ?_) (fun c8 => ?_)
          · replace h := h.1 c8
            refine xs_aload_n dX9_beside_80 rfl ?_
            refine xs_getR dX9_beside_81 fl_X9_73 rfl sc_75 (rt_75_39 hR) ?_
            refine xs_iload dX9_beside_84 rfl ?_
            obtain ⟨s9, h⟩ := h
            refine xs_iald dX9_beside_86 sc_94 s9 ?_
            refine xs_aload_n dX9_beside_87 rfl ?_
            refine xs_getR dX9_beside_88 fl_X9_73 rfl sc_75 (rt_75_39 hR) ?_
            refine xs_iload_n dX9_beside_91 rfl ?_
            obtain ⟨s10, h⟩ := h
            refine xs_iald dX9_beside_92 sc_94 s10 ?_
            refine xs_icmp_le 99 dX9_beside_93 (by decide) (fun c11 => ?_) (fun c11 => ?_)
            · replace h := h.1 c11
              obtain ⟨x12, e_x12⟩ : ∃ z : Int32, z = v4 + nI 1 := ⟨_, rfl⟩
              replace h := h x12 e_x12
              refine xs_iinc x12 [some (.ref 75), some (.int v1), some (.int v2), some (.int v3), some (.int x12)] dX9_beside_99 (by decide) rfl (by rw [e_x12]; rfl) rfl ?_
              refine xs_goto 5 dX9_beside_102 (by decide) ?_
              exact xs_loc [some (.ref 75), some (.int v1), some (.int v2), some (.int v3), some (.int x12)] ⟨rfl, ⟨rfl, ⟨rfl, ⟨rfl, ⟨rfl, trivial⟩⟩⟩⟩⟩ (h hR)
            · replace h := h.2 c11
              refine xs_iload dX9_beside_96 rfl ?_
              refine xs_istore_n [some (.ref 75), some (.int v1), some (.int v2), some (.int v4), some (.int v4)] dX9_beside_98 (by decide) rfl ?_
              obtain ⟨x13, e_x13⟩ : ∃ z : Int32, z = v4 + nI 1 := ⟨_, rfl⟩
              replace h := h x13 e_x13
              refine xs_iinc x13 [some (.ref 75), some (.int v1), some (.int v2), some (.int v4), some (.int x13)] dX9_beside_99 (by decide) rfl (by rw [e_x13]; rfl) rfl ?_
              refine xs_goto 5 dX9_beside_102 (by decide) ?_
              exact xs_loc [some (.ref 75), some (.int v1), some (.int v2), some (.int v4), some (.int x13)] ⟨rfl, ⟨rfl, ⟨rfl, ⟨rfl, ⟨rfl, trivial⟩⟩⟩⟩⟩ (h hR)
          · replace h := h.2 c8
            refine xs_aload_n dX9_beside_61 rfl ?_
            refine xs_getR dX9_beside_62 fl_X9_73 rfl sc_75 (rt_75_39 hR) ?_
            refine xs_iload dX9_beside_65 rfl ?_
            obtain ⟨s14, h⟩ := h
            refine xs_iald dX9_beside_67 sc_94 s14 ?_
            refine xs_aload_n dX9_beside_68 rfl ?_
            refine xs_getR dX9_beside_69 fl_X9_73 rfl sc_75 (rt_75_39 hR) ?_
            refine xs_iload_n dX9_beside_72 rfl ?_
            obtain ⟨s15, h⟩ := h
            refine xs_iald dX9_beside_73 sc_94 s15 ?_
            refine xs_icmp_ge 99 dX9_beside_74 (by decide) (fun c16 => ?_) (fun c16 => ?_)
            · replace h := h.1 c16
              obtain ⟨x17, e_x17⟩ : ∃ z : Int32, z = v4 + nI 1 := ⟨_, rfl⟩
              replace h := h x17 e_x17
              refine xs_iinc x17 [some (.ref 75), some (.int v1), some (.int v2), some (.int v3), some (.int x17)] dX9_beside_99 (by decide) rfl (by rw [e_x17]; rfl) rfl ?_
              refine xs_goto 5 dX9_beside_102 (by decide) ?_
              exact xs_loc [some (.ref 75), some (.int v1), some (.int v2), some (.int v3), some (.int x17)] ⟨rfl, ⟨rfl, ⟨rfl, ⟨rfl, ⟨rfl, trivial⟩⟩⟩⟩⟩ (h hR)
            · replace h := h.2 c16
              refine xs_goto 96 dX9_beside_77 (by decide) ?_
              refine xs_iload dX9_beside_96 rfl ?_
              refine xs_istore_n [some (.ref 75), some (.int v1), some (.int v2), some (.int v4), some (.int v4)] dX9_beside_98 (by decide) rfl ?_
              obtain ⟨x18, e_x18⟩ : ∃ z : Int32, z = v4 + nI 1 := ⟨_, rfl⟩
              replace h := h x18 e_x18
              refine xs_iinc x18 [some (.ref 75), some (.int v1), some (.int v2), some (.int v4), some (.int x18)] dX9_beside_99 (by decide) rfl (by rw [e_x18]; rfl) rfl ?_
              refine xs_goto 5 dX9_beside_102 (by decide) ?_
              exact xs_loc [some (.ref 75), some (.int v1), some (.int v2), some (.int v4), some (.int x18)] ⟨rfl, ⟨rfl, ⟨rfl, ⟨rfl, ⟨rfl, trivial⟩⟩⟩⟩⟩ (h hR)
      · replace h := h.2 c5
        refine xs_goto 99 dX9_beside_50 (by decide) ?_
        obtain ⟨x19, e_x19⟩ : ∃ z : Int32, z = v4 + nI 1 := ⟨_, rfl⟩
        replace h := h x19 e_x19
        refine xs_iinc x19 [some (.ref 75), some (.int v1), some (.int v2), some (.int v3), some (.int x19)] dX9_beside_99 (by decide) rfl (by rw [e_x19]; rfl) rfl ?_
        refine xs_goto 5 dX9_beside_102 (by decide) ?_
        exact xs_loc [some (.ref 75), some (.int v1), some (.int v2), some (.int v3), some (.int x19)] ⟨rfl, ⟨rfl, ⟨rfl, ⟨rfl, ⟨rfl, trivial⟩⟩⟩⟩⟩ (h hR)
    · replace h := h.2 c2
      refine xs_aload_n dX9_beside_15 rfl ?_
      refine xs_getR dX9_beside_16 fl_X9_73 rfl sc_75 (rt_75_39 hR) ?_
      refine xs_iload dX9_beside_19 rfl ?_
      obtain ⟨s20, h⟩ := h
      refine xs_iald dX9_beside_21 sc_94 s20 ?_
      refine xs_aload_n dX9_beside_22 rfl ?_
      refine xs_getR dX9_beside_23 fl_X9_73 rfl sc_75 (rt_75_39 hR) ?_
      refine xs_iload_n dX9_beside_26 rfl ?_
      obtain ⟨s21, h⟩ := h
      refine xs_iald dX9_beside_27 sc_94 s21 ?_
      refine xs_icmp_ge 53 dX9_beside_28 (by decide) (fun c22 => ?_) (fun c22 => ?_)
      · replace h := h.1 c22
        refine xs_iload_n dX9_beside_53 rfl ?_
        refine xs_if_lt 96 dX9_beside_54 (by decide) (fun c23 => ?_) (fun c23 => ?_)
        · replace h := h.1 c23
          refine xs_iload dX9_beside_96 rfl ?_
          refine xs_istore_n [some (.ref 75), some (.int v1), some (.int v2), some (.int v4), some (.int v4)] dX9_beside_98 (by decide) rfl ?_
          obtain ⟨x24, e_x24⟩ : ∃ z : Int32, z = v4 + nI 1 := ⟨_, rfl⟩
          replace h := h x24 e_x24
          refine xs_iinc x24 [some (.ref 75), some (.int v1), some (.int v2), some (.int v4), some (.int x24)] dX9_beside_99 (by decide) rfl (by rw [e_x24]; rfl) rfl ?_
          refine xs_goto 5 dX9_beside_102 (by decide) ?_
          exact xs_loc [some (.ref 75), some (.int v1), some (.int v2), some (.int v4), some (.int x24)] ⟨rfl, ⟨rfl, ⟨rfl, ⟨rfl, ⟨rfl, trivial⟩⟩⟩⟩⟩ (h hR)
        · replace h := h.2 c23
          refine xs_iload_n dX9_beside_57 rfl ?_
          refine xs_if_eq 80 dX9_beside_58 (by decide) (fun c25 => ?_) (fun c25 => ?_)
          · replace h := h.1 c25
            refine xs_aload_n dX9_beside_80 rfl ?_
            refine xs_getR dX9_beside_81 fl_X9_73 rfl sc_75 (rt_75_39 hR) ?_
            refine xs_iload dX9_beside_84 rfl ?_
            obtain ⟨s26, h⟩ := h
            refine xs_iald dX9_beside_86 sc_94 s26 ?_
            refine xs_aload_n dX9_beside_87 rfl ?_
            refine xs_getR dX9_beside_88 fl_X9_73 rfl sc_75 (rt_75_39 hR) ?_
            refine xs_iload_n dX9_beside_91 rfl ?_
            obtain ⟨s27, h⟩ := h
            refine xs_iald dX9_beside_92 sc_94 s27 ?_
            refine xs_icmp_le 99 dX9_beside_93 (by decide) (fun c28 => ?_) (fun c28 => ?_)
            · replace h := h.1 c28
              obtain ⟨x29, e_x29⟩ : ∃ z : Int32, z = v4 + nI 1 := ⟨_, rfl⟩
              replace h := h x29 e_x29
              refine xs_iinc x29 [some (.ref 75), some (.int v1), some (.int v2), some (.int v3), some (.int x29)] dX9_beside_99 (by decide) rfl (by rw [e_x29]; rfl) rfl ?_
              refine xs_goto 5 dX9_beside_102 (by decide) ?_
              exact xs_loc [some (.ref 75), some (.int v1), some (.int v2), some (.int v3), some (.int x29)] ⟨rfl, ⟨rfl, ⟨rfl, ⟨rfl, ⟨rfl, trivial⟩⟩⟩⟩⟩ (h hR)
            · replace h := h.2 c28
              refine xs_iload dX9_beside_96 rfl ?_
              refine xs_istore_n [some (.ref 75), some (.int v1), some (.int v2), some (.int v4), some (.int v4)] dX9_beside_98 (by decide) rfl ?_
              obtain ⟨x30, e_x30⟩ : ∃ z : Int32, z = v4 + nI 1 := ⟨_, rfl⟩
              replace h := h x30 e_x30
              refine xs_iinc x30 [some (.ref 75), some (.int v1), some (.int v2), some (.int v4), some (.int x30)] dX9_beside_99 (by decide) rfl (by rw [e_x30]; rfl) rfl ?_
              refine xs_goto 5 dX9_beside_102 (by decide) ?_
              exact xs_loc [some (.ref 75), some (.int v1), some (.int v2), some (.int v4), some (.int x30)] ⟨rfl, ⟨rfl, ⟨rfl, ⟨rfl, ⟨rfl, trivial⟩⟩⟩⟩⟩ (h hR)
          · replace h := h.2 c25
            refine xs_aload_n dX9_beside_61 rfl ?_
            refine xs_getR dX9_beside_62 fl_X9_73 rfl sc_75 (rt_75_39 hR) ?_
            refine xs_iload dX9_beside_65 rfl ?_
            obtain ⟨s31, h⟩ := h
            refine xs_iald dX9_beside_67 sc_94 s31 ?_
            refine xs_aload_n dX9_beside_68 rfl ?_
            refine xs_getR dX9_beside_69 fl_X9_73 rfl sc_75 (rt_75_39 hR) ?_
            refine xs_iload_n dX9_beside_72 rfl ?_
            obtain ⟨s32, h⟩ := h
            refine xs_iald dX9_beside_73 sc_94 s32 ?_
            refine xs_icmp_ge 99 dX9_beside_74 (by decide) (fun c33 => ?_) (fun c33 => ?_)
            · replace h := h.1 c33
              obtain ⟨x34, e_x34⟩ : ∃ z : Int32, z = v4 + nI 1 := ⟨_, rfl⟩
              replace h := h x34 e_x34
              refine xs_iinc x34 [some (.ref 75), some (.int v1), some (.int v2), some (.int v3), some (.int x34)] dX9_beside_99 (by decide) rfl (by rw [e_x34]; rfl) rfl ?_
              refine xs_goto 5 dX9_beside_102 (by decide) ?_
              exact xs_loc [some (.ref 75), some (.int v1), some (.int v2), some (.int v3), some (.int x34)] ⟨rfl, ⟨rfl, ⟨rfl, ⟨rfl, ⟨rfl, trivial⟩⟩⟩⟩⟩ (h hR)
            · replace h := h.2 c33
              refine xs_goto 96 dX9_beside_77 (by decide) ?_
              refine xs_iload dX9_beside_96 rfl ?_
              refine xs_istore_n [some (.ref 75), some (.int v1), some (.int v2), some (.int v4), some (.int v4)] dX9_beside_98 (by decide) rfl ?_
              obtain ⟨x35, e_x35⟩ : ∃ z : Int32, z = v4 + nI 1 := ⟨_, rfl⟩
              replace h := h x35 e_x35
              refine xs_iinc x35 [some (.ref 75), some (.int v1), some (.int v2), some (.int v4), some (.int x35)] dX9_beside_99 (by decide) rfl (by rw [e_x35]; rfl) rfl ?_
              refine xs_goto 5 dX9_beside_102 (by decide) ?_
              exact xs_loc [some (.ref 75), some (.int v1), some (.int v2), some (.int v4), some (.int x35)] ⟨rfl, ⟨rfl, ⟨rfl, ⟨rfl, ⟨rfl, trivial⟩⟩⟩⟩⟩ (h hR)
      · replace h := h.2 c22
        refine xs_goto 99 dX9_beside_31 (by decide) ?_
        obtain ⟨x36, e_x36⟩ : ∃ z : Int32, z = v4 + nI 1 := ⟨_, rfl⟩
        replace h := h x36 e_x36
        refine xs_iinc x36 [some (.ref 75), some (.int v1), some (.int v2), some (.int v3), some (.int x36)] dX9_beside_99 (by decide) rfl (by rw [e_x36]; rfl) rfl ?_
        refine xs_goto 5 dX9_beside_102 (by decide) ?_
        exact xs_loc [some (.ref 75), some (.int v1), some (.int v2), some (.int v3), some (.int x36)] ⟨rfl, ⟨rfl, ⟨rfl, ⟨rfl, ⟨rfl, trivial⟩⟩⟩⟩⟩ (h hR)
set_option maxHeartbeats 4000000 in
set_option maxRecDepth 100000 in
theorem g_X9_beside {b : Bool} {Q : Int32 → xm_M → Prop} {μ : xm_M} (v1 : Int32) (v2 : Int32) 
    (h : hd_X9_beside_5 b Q  v1 v2 (-1 : Int32) (nI 0) μ) :
    xCi b b k_X9_beside μ [.ref 75, .int v1, .int v2] Q := by
  intro hR
  refine xm_met [some (.ref 75), some (.int v1), some (.int v2), none, none] 2 (by decide) (by simp [lg_sl, Value.category]) rfl ?_
  refine xs_iconst (-1 : Int32) dX9_beside_0 (by decide) ?_
  refine xs_istore_n [some (.ref 75), some (.int v1), some (.int v2), some (.int (-1 : Int32)), none] dX9_beside_1 (by decide) rfl ?_
  refine xs_iconst (nI 0) dX9_beside_2 (by decide) ?_
  refine xs_istore [some (.ref 75), some (.int v1), some (.int v2), some (.int (-1 : Int32)), some (.int (nI 0))] dX9_beside_3 (by decide) rfl ?_
  exact xs_loc [some (.ref 75), some (.int v1), some (.int v2), some (.int (-1 : Int32)), some (.int (nI 0))] ⟨rfl, ⟨rfl, ⟨rfl, ⟨rfl, ⟨rfl, trivial⟩⟩⟩⟩⟩ (h hR)
abbrev hd_X9_told_88 (b : Bool) (Q : Int32 → xm_M → Prop)  (v7 : Int32) (μ : xm_M) : Prop := xs_RT b μ → xR k_X9_told none true (fun r _ μ' => xs_RT b μ' ∧ ∃ x : Int32, r = some (.int x) ∧ Q x μ') 88 [some (.ref 75), none, none, none, none, none, none, some (.int v7)] [] xs_sh (0, 0) μ
set_option maxHeartbeats 4000000 in
set_option maxRecDepth 100000 in
theorem l_X9_told_88 {b : Bool} {Q : Int32 → xm_M → Prop} {μ : xm_M}  (v7 : Int32) 
    (h : ((0 ≤ v7 →
       ∃ Q2 : Int32 → xm_M → Prop, xCi b b k_X9_range μ [.ref 75] Q2 ∧
       ∀ (r4 : Int32) (m3 : xm_M), Q2 r4 m3 →
       ((v7 < r4 →
        Q v7 m3) ∧
       (¬ v7 < r4 →
        ∃ Q7 : Int32 → xm_M → Prop, xCi b b k_X9_range m3 [.ref 75] Q7 ∧
        ∀ (r9 : Int32) (m8 : xm_M), Q7 r9 m8 →
        Q (r9 - (nI 1)) m8))) ∧
      (¬ 0 ≤ v7 →
       Q (nI 0) μ))) :
    hd_X9_told_88 b Q  v7 μ := by
  intro hR
  refine xs_iload dX9_told_88 rfl ?_
  refine xs_if_ge 97 dX9_told_90 (by decide) (fun c1 => ?_) (fun c1 => ?_)
  · replace h := h.1 c1
    refine xs_iload dX9_told_97 rfl ?_
    refine xs_aload_n dX9_told_99 rfl ?_
    obtain ⟨Q2, hQ2, h⟩ := h
    refine xs_callV (j := k_X9_range) (As := []) (S := [.int v7]) dX9_told_100 (hQ2 hR) ⟨ml_X9_246, mk_X9_range.1, mk_X9_range.2.1, mk_X9_range.2.2⟩ mv_X9_range ⟨Nat.le_of_ble_eq_true rfl, Nat.le_of_ble_eq_true rfl⟩ rfl (Nat.le_of_ble_eq_true rfl) sc_75 rfl ⟨rfl, rfl⟩ (fun rr m3 hq5 => ?_)
    obtain ⟨hR, r4, rfl, hq5⟩ := hq5
    replace h := h r4 m3 hq5
    refine xs_icmp_lt 115 dX9_told_103 (by decide) (fun c6 => ?_) (fun c6 => ?_)
    · replace h := h.1 c6
      refine xs_iload dX9_told_115 rfl ?_
      exact xs_ret (some (.int v7)) dX9_told_117 rfl rfl ⟨hR, _, rfl, h⟩
    · replace h := h.2 c6
      refine xs_aload_n dX9_told_106 rfl ?_
      obtain ⟨Q7, hQ7, h⟩ := h
      refine xs_callV (j := k_X9_range) (As := []) (S := []) dX9_told_107 (hQ7 hR) ⟨ml_X9_246, mk_X9_range.1, mk_X9_range.2.1, mk_X9_range.2.2⟩ mv_X9_range ⟨Nat.le_of_ble_eq_true rfl, Nat.le_of_ble_eq_true rfl⟩ rfl (Nat.le_of_ble_eq_true rfl) sc_75 rfl ⟨rfl, rfl⟩ (fun rr m8 hq10 => ?_)
      obtain ⟨hR, r9, rfl, hq10⟩ := hq10
      replace h := h r9 m8 hq10
      refine xs_iconst (nI 1) dX9_told_110 (by decide) ?_
      refine xs_isub dX9_told_111 ?_
      refine xs_goto 117 dX9_told_112 (by decide) ?_
      exact xs_ret (some (.int (r9 - (nI 1)))) dX9_told_117 rfl rfl ⟨hR, _, rfl, h⟩
  · replace h := h.2 c1
    refine xs_iconst (nI 0) dX9_told_93 (by decide) ?_
    refine xs_goto 117 dX9_told_94 (by decide) ?_
    exact xs_ret (some (.int (nI 0))) dX9_told_117 rfl rfl ⟨hR, _, rfl, h⟩
set_option maxHeartbeats 4000000 in
set_option maxRecDepth 100000 in
theorem g_X9_told {b : Bool} {Q : Int32 → xm_M → Prop} {μ : xm_M} (v1 : Int32) (v2 : Int32) (v3 : Int32) 
    (h : ∃ Q1 : Int32 → xm_M → Prop, xCi b b k_X9_range μ [.ref 75] Q1 ∧
      ∀ (r3 : Int32) (m2 : xm_M), Q1 r3 m2 →
      ∀ x5 : Int32, x5 = (r3 - v2) →
      ((v2 ≤ x5 →
       ∀ x7 : Int32, x7 = ((nI 2) * v2) →
       ((v3 < x7 →
        ((¬ (v3 - v3 / (nI 2) * (nI 2)) = (nI 1) →
         ∀ x10 : Int32, x10 = (v2 + (v3 / (nI 2))) →
         hd_X9_told_88 b Q  x10 m2) ∧
        ((v3 - v3 / (nI 2) * (nI 2)) = (nI 1) →
         ∀ x11 : Int32, x11 = (v2 - ((v3 + (nI 1)) / (nI 2))) →
         hd_X9_told_88 b Q  x11 m2))) ∧
       (¬ v3 < x7 →
        ((x5 ≤ v2 →
         ∀ x13 : Int32, x13 = (((v2 + x5) - v3) - (nI 1)) →
         hd_X9_told_88 b Q  x13 m2) ∧
        (¬ x5 ≤ v2 →
         ∀ x14 : Int32, x14 = ((v2 + v3) - v2) →
         hd_X9_told_88 b Q  x14 m2))))) ∧
      (¬ v2 ≤ x5 →
       ∀ x15 : Int32, x15 = ((nI 2) * x5) →
       ((v3 < x15 →
        ((¬ (v3 - v3 / (nI 2) * (nI 2)) = (nI 1) →
         ∀ x18 : Int32, x18 = (v2 + (v3 / (nI 2))) →
         hd_X9_told_88 b Q  x18 m2) ∧
        ((v3 - v3 / (nI 2) * (nI 2)) = (nI 1) →
         ∀ x19 : Int32, x19 = (v2 - ((v3 + (nI 1)) / (nI 2))) →
         hd_X9_told_88 b Q  x19 m2))) ∧
       (¬ v3 < x15 →
        ((x5 ≤ v2 →
         ∀ x21 : Int32, x21 = (((v2 + x5) - v3) - (nI 1)) →
         hd_X9_told_88 b Q  x21 m2) ∧
        (¬ x5 ≤ v2 →
         ∀ x22 : Int32, x22 = ((v2 + v3) - v2) →
         hd_X9_told_88 b Q  x22 m2))))))) :
    xCi b b k_X9_told μ [.ref 75, .int v1, .int v2, .int v3] Q := by
  intro hR
  refine xm_met [some (.ref 75), some (.int v1), some (.int v2), some (.int v3), none, none, none, none] 4 (by decide) (by simp [lg_sl, Value.category]) rfl ?_
  refine xs_aload_n dX9_told_0 rfl ?_
  obtain ⟨Q1, hQ1, h⟩ := h
  refine xs_callV (j := k_X9_range) (As := []) (S := []) dX9_told_1 (hQ1 hR) ⟨ml_X9_246, mk_X9_range.1, mk_X9_range.2.1, mk_X9_range.2.2⟩ mv_X9_range ⟨Nat.le_of_ble_eq_true rfl, Nat.le_of_ble_eq_true rfl⟩ rfl (Nat.le_of_ble_eq_true rfl) sc_75 rfl ⟨rfl, rfl⟩ (fun rr m2 hq4 => ?_)
  obtain ⟨hR, r3, rfl, hq4⟩ := hq4
  replace h := h r3 m2 hq4
  refine xs_iload_n dX9_told_4 rfl ?_
  refine xs_isub dX9_told_5 ?_
  refine xs_nmI (fun x5 e_x5 => ?_)
  replace h := h x5 e_x5
  refine xs_istore [some (.ref 75), some (.int v1), some (.int v2), some (.int v3), some (.int x5), none, none, none] dX9_told_6 (by decide) rfl ?_
  refine xs_iload_n dX9_told_8 rfl ?_
  refine xs_istore [some (.ref 75), some (.int v1), some (.int v2), some (.int v3), some (.int x5), some (.int v2), none, none] dX9_told_9 (by decide) rfl ?_
  refine xs_iconst (nI 2) dX9_told_11 (by decide) ?_
  refine xs_iload dX9_told_12 rfl ?_
  refine xs_iload dX9_told_14 rfl ?_
  refine xs_icmp_ge 24 dX9_told_16 (by decide) (fun c6 => ?_) (fun c6 => ?_)
  · replace h := h.1 c6
    refine xs_iload dX9_told_24 rfl ?_
    refine xs_imul dX9_told_26 ?_
    refine xs_nmI (fun x7 e_x7 => ?_)
    replace h := h x7 e_x7
    refine xs_istore [some (.ref 75), some (.int v1), some (.int v2), some (.int v3), some (.int x5), some (.int v2), some (.int x7), none] dX9_told_27 (by decide) rfl ?_
    refine xs_iload_n dX9_told_29 rfl ?_
    refine xs_iload dX9_told_30 rfl ?_
    refine xs_icmp_lt 64 dX9_told_32 (by decide) (fun c8 => ?_) (fun c8 => ?_)
    · replace h := h.1 c8
      refine xs_iload_n dX9_told_64 rfl ?_
      refine xs_iconst (nI 2) dX9_told_65 (by decide) ?_
      refine xs_irem dX9_told_66 (by decide) ?_
      refine xs_iconst (nI 1) dX9_told_67 (by decide) ?_
      refine xs_icmp_ne 81 dX9_told_68 (by decide) (fun c9 => ?_) (fun c9 => ?_)
      · replace h := h.1 c9
        refine xs_iload_n dX9_told_81 rfl ?_
        refine xs_iload_n dX9_told_82 rfl ?_
        refine xs_iconst (nI 2) dX9_told_83 (by decide) ?_
        refine xs_idiv dX9_told_84 (by decide) ?_
        refine xs_iadd dX9_told_85 ?_
        refine xs_nmI (fun x10 e_x10 => ?_)
        replace h := h x10 e_x10
        refine xs_istore [some (.ref 75), some (.int v1), some (.int v2), some (.int v3), some (.int x5), some (.int v2), some (.int x7), some (.int x10)] dX9_told_86 (by decide) rfl ?_
        exact xs_loc [some (.ref 75), none, none, none, none, none, none, some (.int x10)] ⟨rfl, ⟨rfl, trivial⟩⟩ (h hR)
      · replace h := h.2 c9
        refine xs_iload_n dX9_told_71 rfl ?_
        refine xs_iload_n dX9_told_72 rfl ?_
        refine xs_iconst (nI 1) dX9_told_73 (by decide) ?_
        refine xs_iadd dX9_told_74 ?_
        refine xs_iconst (nI 2) dX9_told_75 (by decide) ?_
        refine xs_idiv dX9_told_76 (by decide) ?_
        refine xs_isub dX9_told_77 ?_
        refine xs_goto 86 dX9_told_78 (by decide) ?_
        refine xs_nmI (fun x11 e_x11 => ?_)
        replace h := h x11 e_x11
        refine xs_istore [some (.ref 75), some (.int v1), some (.int v2), some (.int v3), some (.int x5), some (.int v2), some (.int x7), some (.int x11)] dX9_told_86 (by decide) rfl ?_
        exact xs_loc [some (.ref 75), none, none, none, none, none, none, some (.int x11)] ⟨rfl, ⟨rfl, trivial⟩⟩ (h hR)
    · replace h := h.2 c8
      refine xs_iload dX9_told_35 rfl ?_
      refine xs_iload dX9_told_37 rfl ?_
      refine xs_icmp_le 51 dX9_told_39 (by decide) (fun c12 => ?_) (fun c12 => ?_)
      · replace h := h.1 c12
        refine xs_iload_n dX9_told_51 rfl ?_
        refine xs_iload dX9_told_52 rfl ?_
        refine xs_iadd dX9_told_54 ?_
        refine xs_iload_n dX9_told_55 rfl ?_
        refine xs_isub dX9_told_56 ?_
        refine xs_iconst (nI 1) dX9_told_57 (by decide) ?_
        refine xs_isub dX9_told_58 ?_
        refine xs_nmI (fun x13 e_x13 => ?_)
        replace h := h x13 e_x13
        refine xs_istore [some (.ref 75), some (.int v1), some (.int v2), some (.int v3), some (.int x5), some (.int v2), some (.int x7), some (.int x13)] dX9_told_59 (by decide) rfl ?_
        refine xs_goto 88 dX9_told_61 (by decide) ?_
        exact xs_loc [some (.ref 75), none, none, none, none, none, none, some (.int x13)] ⟨rfl, ⟨rfl, trivial⟩⟩ (h hR)
      · replace h := h.2 c12
        refine xs_iload_n dX9_told_42 rfl ?_
        refine xs_iload_n dX9_told_43 rfl ?_
        refine xs_iadd dX9_told_44 ?_
        refine xs_iload dX9_told_45 rfl ?_
        refine xs_isub dX9_told_47 ?_
        refine xs_goto 59 dX9_told_48 (by decide) ?_
        refine xs_nmI (fun x14 e_x14 => ?_)
        replace h := h x14 e_x14
        refine xs_istore [some (.ref 75), some (.int v1), some (.int v2), some (.int v3), some (.int x5), some (.int v2), some (.int x7), some (.int x14)] dX9_told_59 (by decide) rfl ?_
        refine xs_goto 88 dX9_told_61 (by decide) ?_
        exact xs_loc [some (.ref 75), none, none, none, none, none, none, some (.int x14)] ⟨rfl, ⟨rfl, trivial⟩⟩ (h hR)
  · replace h := h.2 c6
    refine xs_iload dX9_told_19 rfl ?_
    refine xs_goto 26 dX9_told_21 (by decide) ?_
    refine xs_imul dX9_told_26 ?_
    refine xs_nmI (fun x15 e_x15 => ?_)
    replace h := h x15 e_x15
    refine xs_istore [some (.ref 75), some (.int v1), some (.int v2), some (.int v3), some (.int x5), some (.int v2), some (.int x15), none] dX9_told_27 (by decide) rfl ?_
    refine xs_iload_n dX9_told_29 rfl ?_
    refine xs_iload dX9_told_30 rfl ?_
    refine xs_icmp_lt 64 dX9_told_32 (by decide) (fun c16 => ?_) (fun c16 => ?_)
    · replace h := h.1 c16
      refine xs_iload_n dX9_told_64 rfl ?_
      refine xs_iconst (nI 2) dX9_told_65 (by decide) ?_
      refine xs_irem dX9_told_66 (by decide) ?_
      refine xs_iconst (nI 1) dX9_told_67 (by decide) ?_
      refine xs_icmp_ne 81 dX9_told_68 (by decide) (fun c17 => ?_) (fun c17 => ?_)
      · replace h := h.1 c17
        refine xs_iload_n dX9_told_81 rfl ?_
        refine xs_iload_n dX9_told_82 rfl ?_
        refine xs_iconst (nI 2) dX9_told_83 (by decide) ?_
        refine xs_idiv dX9_told_84 (by decide) ?_
        refine xs_iadd dX9_told_85 ?_
        refine xs_nmI (fun x18 e_x18 => ?_)
        replace h := h x18 e_x18
        refine xs_istore [some (.ref 75), some (.int v1), some (.int v2), some (.int v3), some (.int x5), some (.int v2), some (.int x15), some (.int x18)] dX9_told_86 (by decide) rfl ?_
        exact xs_loc [some (.ref 75), none, none, none, none, none, none, some (.int x18)] ⟨rfl, ⟨rfl, trivial⟩⟩ (h hR)
      · replace h := h.2 c17
        refine xs_iload_n dX9_told_71 rfl ?_
        refine xs_iload_n dX9_told_72 rfl ?_
        refine xs_iconst (nI 1) dX9_told_73 (by decide) ?_
        refine xs_iadd dX9_told_74 ?_
        refine xs_iconst (nI 2) dX9_told_75 (by decide) ?_
        refine xs_idiv dX9_told_76 (by decide) ?_
        refine xs_isub dX9_told_77 ?_
        refine xs_goto 86 dX9_told_78 (by decide) ?_
        refine xs_nmI (fun x19 e_x19 => ?_)
        replace h := h x19 e_x19
        refine xs_istore [some (.ref 75), some (.int v1), some (.int v2), some (.int v3), some (.int x5), some (.int v2), some (.int x15), some (.int x19)] dX9_told_86 (by decide) rfl ?_
        exact xs_loc [some (.ref 75), none, none, none, none, none, none, some (.int x19)] ⟨rfl, ⟨rfl, trivial⟩⟩ (h hR)
    · replace h := h.2 c16
      refine xs_iload dX9_told_35 rfl ?_
      refine xs_iload dX9_told_37 rfl ?_
      refine xs_icmp_le 51 dX9_told_39 (by decide) (fun c20 => ?_) (fun c20 => ?_)
      · replace h := h.1 c20
        refine xs_iload_n dX9_told_51 rfl ?_
        refine xs_iload dX9_told_52 rfl ?_
        refine xs_iadd dX9_told_54 ?_
        refine xs_iload_n dX9_told_55 rfl ?_
        refine xs_isub dX9_told_56 ?_
        refine xs_iconst (nI 1) dX9_told_57 (by decide) ?_
        refine xs_isub dX9_told_58 ?_
        refine xs_nmI (fun x21 e_x21 => ?_)
        replace h := h x21 e_x21
        refine xs_istore [some (.ref 75), some (.int v1), some (.int v2), some (.int v3), some (.int x5), some (.int v2), some (.int x15), some (.int x21)] dX9_told_59 (by decide) rfl ?_
        refine xs_goto 88 dX9_told_61 (by decide) ?_
        exact xs_loc [some (.ref 75), none, none, none, none, none, none, some (.int x21)] ⟨rfl, ⟨rfl, trivial⟩⟩ (h hR)
      · replace h := h.2 c20
        refine xs_iload_n dX9_told_42 rfl ?_
        refine xs_iload_n dX9_told_43 rfl ?_
        refine xs_iadd dX9_told_44 ?_
        refine xs_iload dX9_told_45 rfl ?_
        refine xs_isub dX9_told_47 ?_
        refine xs_goto 59 dX9_told_48 (by decide) ?_
        refine xs_nmI (fun x22 e_x22 => ?_)
        replace h := h x22 e_x22
        refine xs_istore [some (.ref 75), some (.int v1), some (.int v2), some (.int v3), some (.int x5), some (.int v2), some (.int x15), some (.int x22)] dX9_told_59 (by decide) rfl ?_
        refine xs_goto 88 dX9_told_61 (by decide) ?_
        exact xs_loc [some (.ref 75), none, none, none, none, none, none, some (.int x22)] ⟨rfl, ⟨rfl, trivial⟩⟩ (h hR)
abbrev hd_X9_curve_69 (b : Bool) (Q : Int32 → xm_M → Prop)  (v1 : Int32) (v2 : Int32) (v3 : Int32) (μ : xm_M) : Prop := xs_RT b μ → xR k_X9_curve none true (fun r _ μ' => xs_RT b μ' ∧ ∃ x : Int32, r = some (.int x) ∧ Q x μ') 69 [some (.ref 75), some (.int v1), some (.int v2), some (.int v3), none, none, none] [] xs_sh (0, 0) μ
abbrev hd_X9_curve_131 (b : Bool) (Q : Int32 → xm_M → Prop)  (v1 : Int32) (v3 : Int32) (μ : xm_M) : Prop := xs_RT b μ → xR k_X9_curve none true (fun r _ μ' => xs_RT b μ' ∧ ∃ x : Int32, r = some (.int x) ∧ Q x μ') 131 [some (.ref 75), some (.int v1), none, some (.int v3), none, none, none] [] xs_sh (0, 0) μ
abbrev hd_X9_curve_172 (b : Bool) (Q : Int32 → xm_M → Prop)  (v1 : Int32) (v3 : Int32) (μ : xm_M) : Prop := xs_RT b μ → xR k_X9_curve none true (fun r _ μ' => xs_RT b μ' ∧ ∃ x : Int32, r = some (.int x) ∧ Q x μ') 172 [some (.ref 75), some (.int v1), none, some (.int v3), none, none, none] [] xs_sh (0, 0) μ
abbrev hd_X9_curve_292 (b : Bool) (Q : Int32 → xm_M → Prop)  (v1 : Int32) (v3 : Int32) (μ : xm_M) : Prop := xs_RT b μ → xR k_X9_curve none true (fun r _ μ' => xs_RT b μ' ∧ ∃ x : Int32, r = some (.int x) ∧ Q x μ') 292 [some (.ref 75), some (.int v1), none, some (.int v3), none, none, none] [] xs_sh (0, 0) μ
abbrev hd_X9_curve_300 (b : Bool) (Q : Int32 → xm_M → Prop)  (v1 : Int32) (v3 : Int32) (μ : xm_M) : Prop := xs_RT b μ → xR k_X9_curve none true (fun r _ μ' => xs_RT b μ' ∧ ∃ x : Int32, r = some (.int x) ∧ Q x μ') 300 [some (.ref 75), some (.int v1), none, some (.int v3), none, none, none] [] xs_sh (0, 0) μ
set_option maxHeartbeats 4000000 in
set_option maxRecDepth 100000 in
theorem l_X9_curve_69 {b : Bool} {Q : Int32 → xm_M → Prop} {μ : xm_M}  (v1 : Int32) (v2 : Int32) (v3 : Int32) 
    (h : (((nI 2) ≤ v3 →
       (((μ.1 75 17) = 0 →
        hd_X9_curve_131 b Q  v1 (nI 2) μ) ∧
       (¬ (μ.1 75 17) = 0 →
        Q (nI 0) μ))) ∧
      (¬ (nI 2) ≤ v3 →
       ∃ Q3 : Int32 → xm_M → Prop, xCi b b k_X9_bits μ [.ref 75, .int v2] Q3 ∧
       ∀ (r5 : Int32) (m4 : xm_M), Q3 r5 m4 →
       ∃ Q7 : Int32 → xm_M → Prop, xCi b b k_X9_range m4 [.ref 75] Q7 ∧
       ∀ (r9 : Int32) (m8 : xm_M), Q7 r9 m8 →
       ((r5 < r9 →
        vp_in v3 18 ∧
        ∀ m13 : xm_M, m13 = xu_I m8 96 (upd (m8.1 96) (v3).toNatClampNeg r5) →
        vp_in v3 18 ∧
        ∀ m15 : xm_M, m15 = xu_I m13 97 (upd (m13.1 97) (v3).toNatClampNeg (vp_nar .boolean (nI 1))) →
        ∀ x16 : Int32, x16 = v3 + nI 1 →
        hd_X9_curve_69 b Q  v1 v2 x16 m15) ∧
       (¬ r5 < r9 →
        ∃ Q17 : Int32 → xm_M → Prop, xCi b b k_X9_range m8 [.ref 75] Q17 ∧
        ∀ (r19 : Int32) (m18 : xm_M), Q17 r19 m18 →
        vp_in v3 18 ∧
        ∀ m22 : xm_M, m22 = xu_I m18 96 (upd (m18.1 96) (v3).toNatClampNeg (r19 - (nI 1))) →
        vp_in v3 18 ∧
        ∀ m24 : xm_M, m24 = xu_I m22 97 (upd (m22.1 97) (v3).toNatClampNeg (vp_nar .boolean (nI 1))) →
        ∀ x25 : Int32, x25 = v3 + nI 1 →
        hd_X9_curve_69 b Q  v1 v2 x25 m24))))) :
    hd_X9_curve_69 b Q  v1 v2 v3 μ := by
  intro hR
  refine xs_iload_n dX9_curve_69 rfl ?_
  refine xs_iconst (nI 2) dX9_curve_70 (by decide) ?_
  refine xs_icmp_ge 120 dX9_curve_71 (by decide) (fun c1 => ?_) (fun c1 => ?_)
  · replace h := h.1 c1
    refine xs_aload_n dX9_curve_120 rfl ?_
    refine xs_getI dX9_curve_121 fl_X9_174.g rfl sc_75 ?_
    refine xs_if_eq 129 dX9_curve_124 (by decide) (fun c2 => ?_) (fun c2 => ?_)
    · replace h := h.1 c2
      refine xs_iconst (nI 2) dX9_curve_129 (by decide) ?_
      refine xs_istore_n [some (.ref 75), some (.int v1), some (.int v2), some (.int (nI 2)), none, none, none] dX9_curve_130 (by decide) rfl ?_
      exact xs_loc [some (.ref 75), some (.int v1), none, some (.int (nI 2)), none, none, none] ⟨rfl, ⟨rfl, ⟨rfl, trivial⟩⟩⟩ (h hR)
    · replace h := h.2 c2
      refine xs_iconst (nI 0) dX9_curve_127 (by decide) ?_
      exact xs_ret (some (.int (nI 0))) dX9_curve_128 rfl rfl ⟨hR, _, rfl, h⟩
  · replace h := h.2 c1
    refine xs_aload_n dX9_curve_74 rfl ?_
    refine xs_iload_n dX9_curve_75 rfl ?_
    obtain ⟨Q3, hQ3, h⟩ := h
    refine xs_callV (j := k_X9_bits) (As := [.int v2]) (S := []) dX9_curve_76 (hQ3 hR) ⟨ml_X9_193, mk_X9_bits.1, mk_X9_bits.2.1, mk_X9_bits.2.2⟩ mv_X9_bits ⟨Nat.le_of_ble_eq_true rfl, Nat.le_of_ble_eq_true rfl⟩ rfl (Nat.le_of_ble_eq_true rfl) sc_75 rfl ⟨rfl, rfl⟩ (fun rr m4 hq6 => ?_)
    obtain ⟨hR, r5, rfl, hq6⟩ := hq6
    replace h := h r5 m4 hq6
    refine xs_istore [some (.ref 75), some (.int v1), some (.int v2), some (.int v3), some (.int r5), none, none] dX9_curve_79 (by decide) rfl ?_
    refine xs_aload_n dX9_curve_81 rfl ?_
    refine xs_getR dX9_curve_82 fl_X9_79 rfl sc_75 (rt_75_41 hR) ?_
    refine xs_iload_n dX9_curve_85 rfl ?_
    refine xs_iload dX9_curve_86 rfl ?_
    refine xs_aload_n dX9_curve_88 rfl ?_
    obtain ⟨Q7, hQ7, h⟩ := h
    refine xs_callV (j := k_X9_range) (As := []) (S := [.int r5, .int v3, .ref 96]) dX9_curve_89 (hQ7 hR) ⟨ml_X9_246, mk_X9_range.1, mk_X9_range.2.1, mk_X9_range.2.2⟩ mv_X9_range ⟨Nat.le_of_ble_eq_true rfl, Nat.le_of_ble_eq_true rfl⟩ rfl (Nat.le_of_ble_eq_true rfl) sc_75 rfl ⟨rfl, rfl⟩ (fun rr m8 hq10 => ?_)
    obtain ⟨hR, r9, rfl, hq10⟩ := hq10
    replace h := h r9 m8 hq10
    refine xs_icmp_lt 104 dX9_curve_92 (by decide) (fun c11 => ?_) (fun c11 => ?_)
    · replace h := h.1 c11
      refine xs_iload dX9_curve_104 rfl ?_
      obtain ⟨s12, h⟩ := h
      refine xs_iast dX9_curve_106 sc_96 s12 ?_
      refine xs_nmM (fun m13 e_m13 => ?_)
      replace h := h m13 e_m13
      have hR : xs_RT b m13 := by rw [e_m13]; exact hR
      refine xs_aload_n dX9_curve_107 rfl ?_
      refine xs_getR dX9_curve_108 fl_X9_82 rfl sc_75 (rt_75_42 hR) ?_
      refine xs_iload_n dX9_curve_111 rfl ?_
      refine xs_iconst (nI 1) dX9_curve_112 (by decide) ?_
      obtain ⟨s14, h⟩ := h
      refine xs_zast dX9_curve_113 sc_97 s14 ?_
      refine xs_nmM (fun m15 e_m15 => ?_)
      replace h := h m15 e_m15
      have hR : xs_RT b m15 := by rw [e_m15]; exact hR
      obtain ⟨x16, e_x16⟩ : ∃ z : Int32, z = v3 + nI 1 := ⟨_, rfl⟩
      replace h := h x16 e_x16
      refine xs_iinc x16 [some (.ref 75), some (.int v1), some (.int v2), some (.int x16), some (.int r5), none, none] dX9_curve_114 (by decide) rfl (by rw [e_x16]; rfl) rfl ?_
      refine xs_goto 69 dX9_curve_117 (by decide) ?_
      exact xs_loc [some (.ref 75), some (.int v1), some (.int v2), some (.int x16), none, none, none] ⟨rfl, ⟨rfl, ⟨rfl, ⟨rfl, trivial⟩⟩⟩⟩ (h hR)
    · replace h := h.2 c11
      refine xs_aload_n dX9_curve_95 rfl ?_
      obtain ⟨Q17, hQ17, h⟩ := h
      refine xs_callV (j := k_X9_range) (As := []) (S := [.int v3, .ref 96]) dX9_curve_96 (hQ17 hR) ⟨ml_X9_246, mk_X9_range.1, mk_X9_range.2.1, mk_X9_range.2.2⟩ mv_X9_range ⟨Nat.le_of_ble_eq_true rfl, Nat.le_of_ble_eq_true rfl⟩ rfl (Nat.le_of_ble_eq_true rfl) sc_75 rfl ⟨rfl, rfl⟩ (fun rr m18 hq20 => ?_)
      obtain ⟨hR, r19, rfl, hq20⟩ := hq20
      replace h := h r19 m18 hq20
      refine xs_iconst (nI 1) dX9_curve_99 (by decide) ?_
      refine xs_isub dX9_curve_100 ?_
      refine xs_goto 106 dX9_curve_101 (by decide) ?_
      obtain ⟨s21, h⟩ := h
      refine xs_iast dX9_curve_106 sc_96 s21 ?_
      refine xs_nmM (fun m22 e_m22 => ?_)
      replace h := h m22 e_m22
      have hR : xs_RT b m22 := by rw [e_m22]; exact hR
      refine xs_aload_n dX9_curve_107 rfl ?_
      refine xs_getR dX9_curve_108 fl_X9_82 rfl sc_75 (rt_75_42 hR) ?_
      refine xs_iload_n dX9_curve_111 rfl ?_
      refine xs_iconst (nI 1) dX9_curve_112 (by decide) ?_
      obtain ⟨s23, h⟩ := h
      refine xs_zast dX9_curve_113 sc_97 s23 ?_
      refine xs_nmM (fun m24 e_m24 => ?_)
      replace h := h m24 e_m24
      have hR : xs_RT b m24 := by rw [e_m24]; exact hR
      obtain ⟨x25, e_x25⟩ : ∃ z : Int32, z = v3 + nI 1 := ⟨_, rfl⟩
      replace h := h x25 e_x25
      refine xs_iinc x25 [some (.ref 75), some (.int v1), some (.int v2), some (.int x25), some (.int r5), none, none] dX9_curve_114 (by decide) rfl (by rw [e_x25]; rfl) rfl ?_
      refine xs_goto 69 dX9_curve_117 (by decide) ?_
      exact xs_loc [some (.ref 75), some (.int v1), some (.int v2), some (.int x25), none, none, none] ⟨rfl, ⟨rfl, ⟨rfl, ⟨rfl, trivial⟩⟩⟩⟩ (h hR)
set_option maxHeartbeats 4000000 in
set_option maxRecDepth 100000 in
theorem l_X9_curve_131 {b : Bool} {Q : Int32 → xm_M → Prop} {μ : xm_M}  (v1 : Int32) (v3 : Int32) 
    (h : ((((μ.1 75 33) + (nI 2)) ≤ v3 →
       hd_X9_curve_172 b Q  v1 (nI 2) μ) ∧
      (¬ ((μ.1 75 33) + (nI 2)) ≤ v3 →
       ∃ Q2 : Int32 → xm_M → Prop, xCi b b k_X9_entry μ [.ref 75, .int (μ.1 75 34)] Q2 ∧
       ∀ (r4 : Int32) (m3 : xm_M), Q2 r4 m3 →
       vp_in v3 18 ∧
       ∀ m7 : xm_M, m7 = xu_I m3 100 (upd (m3.1 100) (v3).toNatClampNeg r4) →
       (((m7.1 75 17) = 0 →
        ∀ x9 : Int32, x9 = v3 + nI 1 →
        hd_X9_curve_131 b Q  v1 x9 m7) ∧
       (¬ (m7.1 75 17) = 0 →
        Q (nI 0) m7))))) :
    hd_X9_curve_131 b Q  v1 v3 μ := by
  intro hR
  refine xs_iload_n dX9_curve_131 rfl ?_
  refine xs_aload_n dX9_curve_132 rfl ?_
  refine xs_getI dX9_curve_133 fl_X9_222.g rfl sc_75 ?_
  refine xs_iconst (nI 2) dX9_curve_136 (by decide) ?_
  refine xs_iadd dX9_curve_137 ?_
  refine xs_icmp_ge 170 dX9_curve_138 (by decide) (fun c1 => ?_) (fun c1 => ?_)
  · replace h := h.1 c1
    refine xs_iconst (nI 2) dX9_curve_170 (by decide) ?_
    refine xs_istore_n [some (.ref 75), some (.int v1), none, some (.int (nI 2)), none, none, none] dX9_curve_171 (by decide) rfl ?_
    exact xs_loc [some (.ref 75), some (.int v1), none, some (.int (nI 2)), none, none, none] ⟨rfl, ⟨rfl, ⟨rfl, trivial⟩⟩⟩ (h hR)
  · replace h := h.2 c1
    refine xs_aload_n dX9_curve_141 rfl ?_
    refine xs_getR dX9_curve_142 fl_X9_91 rfl sc_75 (rt_75_45 hR) ?_
    refine xs_iload_n dX9_curve_145 rfl ?_
    refine xs_aload_n dX9_curve_146 rfl ?_
    refine xs_aload_n dX9_curve_147 rfl ?_
    refine xs_getI dX9_curve_148 fl_X9_225.g rfl sc_75 ?_
    obtain ⟨Q2, hQ2, h⟩ := h
    refine xs_callV (j := k_X9_entry) (As := [.int (μ.1 75 34)]) (S := [.int v3, .ref 100]) dX9_curve_151 (hQ2 hR) ⟨ml_X9_249, mk_X9_entry.1, mk_X9_entry.2.1, mk_X9_entry.2.2⟩ mv_X9_entry ⟨Nat.le_of_ble_eq_true rfl, Nat.le_of_ble_eq_true rfl⟩ rfl (Nat.le_of_ble_eq_true rfl) sc_75 rfl ⟨rfl, rfl⟩ (fun rr m3 hq5 => ?_)
    obtain ⟨hR, r4, rfl, hq5⟩ := hq5
    replace h := h r4 m3 hq5
    obtain ⟨s6, h⟩ := h
    refine xs_iast dX9_curve_154 sc_100 s6 ?_
    refine xs_nmM (fun m7 e_m7 => ?_)
    replace h := h m7 e_m7
    have hR : xs_RT b m7 := by rw [e_m7]; exact hR
    refine xs_aload_n dX9_curve_155 rfl ?_
    refine xs_getI dX9_curve_156 fl_X9_174.g rfl sc_75 ?_
    refine xs_if_eq 164 dX9_curve_159 (by decide) (fun c8 => ?_) (fun c8 => ?_)
    · replace h := h.1 c8
      obtain ⟨x9, e_x9⟩ : ∃ z : Int32, z = v3 + nI 1 := ⟨_, rfl⟩
      replace h := h x9 e_x9
      refine xs_iinc x9 [some (.ref 75), some (.int v1), none, some (.int x9), none, none, none] dX9_curve_164 (by decide) rfl (by rw [e_x9]; rfl) rfl ?_
      refine xs_goto 131 dX9_curve_167 (by decide) ?_
      exact xs_loc [some (.ref 75), some (.int v1), none, some (.int x9), none, none, none] ⟨rfl, ⟨rfl, ⟨rfl, trivial⟩⟩⟩ (h hR)
    · replace h := h.2 c8
      refine xs_iconst (nI 0) dX9_curve_162 (by decide) ?_
      exact xs_ret (some (.int (nI 0))) dX9_curve_163 rfl rfl ⟨hR, _, rfl, h⟩
set_option maxHeartbeats 4000000 in
set_option maxRecDepth 100000 in
theorem l_X9_curve_172 {b : Bool} {Q : Int32 → xm_M → Prop} {μ : xm_M}  (v1 : Int32) (v3 : Int32) 
    (h : ((((μ.1 75 33) + (nI 2)) ≤ v3 →
       hd_X9_curve_300 b Q  v1 (nI 0) μ) ∧
      (¬ ((μ.1 75 33) + (nI 2)) ≤ v3 →
       ∃ Q2 : Int32 → xm_M → Prop, xCi b b k_X9_beside μ [.ref 75, .int v3, .int (nI 0)] Q2 ∧
       ∀ (r4 : Int32) (m3 : xm_M), Q2 r4 m3 →
       ∃ Q6 : Int32 → xm_M → Prop, xCi b b k_X9_beside m3 [.ref 75, .int v3, .int (nI 1)] Q6 ∧
       ∀ (r8 : Int32) (m7 : xm_M), Q6 r8 m7 →
       vp_in v3 18 ∧
       ∃ Q11 : Int32 → xm_M → Prop, xCi b b k_X9_line m7 [.ref 75, .int r4, .int r8, .int (m7.1 94 (v3).toNatClampNeg)] Q11 ∧
       ∀ (r13 : Int32) (m12 : xm_M), Q11 r13 m12 →
       vp_in v3 18 ∧
       (((m12.1 100 (v3).toNatClampNeg) ≤ 0 →
        vp_in v3 18 ∧
        ∀ m18 : xm_M, m18 = xu_I m12 97 (upd (m12.1 97) (v3).toNatClampNeg (vp_nar .boolean (nI 0))) →
        vp_in v3 18 ∧
        (((m18.1 97 (v3).toNatClampNeg) = 0 →
         vp_in v3 18 ∧
         ∀ m22 : xm_M, m22 = xu_I m18 96 (upd (m18.1 96) (v3).toNatClampNeg r13) →
         vp_in v3 18 ∧
         (((m22.1 97 (v3).toNatClampNeg) = 0 →
          hd_X9_curve_292 b Q  v1 v3 m22) ∧
         (¬ (m22.1 97 (v3).toNatClampNeg) = 0 →
          vp_in r4 18 ∧
          ∀ m26 : xm_M, m26 = xu_I m22 97 (upd (m22.1 97) (r4).toNatClampNeg (vp_nar .boolean (nI 1))) →
          vp_in r8 18 ∧
          ∀ m28 : xm_M, m28 = xu_I m26 97 (upd (m26.1 97) (r8).toNatClampNeg (vp_nar .boolean (nI 1))) →
          hd_X9_curve_292 b Q  v1 v3 m28))) ∧
        (¬ (m18.1 97 (v3).toNatClampNeg) = 0 →
         vp_in v3 18 ∧
         ∃ Q30 : Int32 → xm_M → Prop, xCi b b k_X9_told m18 [.ref 75, .int v3, .int r13, .int (m18.1 100 (v3).toNatClampNeg)] Q30 ∧
         ∀ (r32 : Int32) (m31 : xm_M), Q30 r32 m31 →
         vp_in v3 18 ∧
         ∀ m35 : xm_M, m35 = xu_I m31 96 (upd (m31.1 96) (v3).toNatClampNeg r32) →
         vp_in v3 18 ∧
         (((m35.1 97 (v3).toNatClampNeg) = 0 →
          hd_X9_curve_292 b Q  v1 v3 m35) ∧
         (¬ (m35.1 97 (v3).toNatClampNeg) = 0 →
          vp_in r4 18 ∧
          ∀ m39 : xm_M, m39 = xu_I m35 97 (upd (m35.1 97) (r4).toNatClampNeg (vp_nar .boolean (nI 1))) →
          vp_in r8 18 ∧
          ∀ m41 : xm_M, m41 = xu_I m39 97 (upd (m39.1 97) (r8).toNatClampNeg (vp_nar .boolean (nI 1))) →
          hd_X9_curve_292 b Q  v1 v3 m41))))) ∧
       (¬ (m12.1 100 (v3).toNatClampNeg) ≤ 0 →
        vp_in v3 18 ∧
        ∀ m43 : xm_M, m43 = xu_I m12 97 (upd (m12.1 97) (v3).toNatClampNeg (vp_nar .boolean (nI 1))) →
        vp_in v3 18 ∧
        (((m43.1 97 (v3).toNatClampNeg) = 0 →
         vp_in v3 18 ∧
         ∀ m47 : xm_M, m47 = xu_I m43 96 (upd (m43.1 96) (v3).toNatClampNeg r13) →
         vp_in v3 18 ∧
         (((m47.1 97 (v3).toNatClampNeg) = 0 →
          hd_X9_curve_292 b Q  v1 v3 m47) ∧
         (¬ (m47.1 97 (v3).toNatClampNeg) = 0 →
          vp_in r4 18 ∧
          ∀ m51 : xm_M, m51 = xu_I m47 97 (upd (m47.1 97) (r4).toNatClampNeg (vp_nar .boolean (nI 1))) →
          vp_in r8 18 ∧
          ∀ m53 : xm_M, m53 = xu_I m51 97 (upd (m51.1 97) (r8).toNatClampNeg (vp_nar .boolean (nI 1))) →
          hd_X9_curve_292 b Q  v1 v3 m53))) ∧
        (¬ (m43.1 97 (v3).toNatClampNeg) = 0 →
         vp_in v3 18 ∧
         ∃ Q55 : Int32 → xm_M → Prop, xCi b b k_X9_told m43 [.ref 75, .int v3, .int r13, .int (m43.1 100 (v3).toNatClampNeg)] Q55 ∧
         ∀ (r57 : Int32) (m56 : xm_M), Q55 r57 m56 →
         vp_in v3 18 ∧
         ∀ m60 : xm_M, m60 = xu_I m56 96 (upd (m56.1 96) (v3).toNatClampNeg r57) →
         vp_in v3 18 ∧
         (((m60.1 97 (v3).toNatClampNeg) = 0 →
          hd_X9_curve_292 b Q  v1 v3 m60) ∧
         (¬ (m60.1 97 (v3).toNatClampNeg) = 0 →
          vp_in r4 18 ∧
          ∀ m64 : xm_M, m64 = xu_I m60 97 (upd (m60.1 97) (r4).toNatClampNeg (vp_nar .boolean (nI 1))) →
          vp_in r8 18 ∧
          ∀ m66 : xm_M, m66 = xu_I m64 97 (upd (m64.1 97) (r8).toNatClampNeg (vp_nar .boolean (nI 1))) →
          hd_X9_curve_292 b Q  v1 v3 m66))))))))) :
    hd_X9_curve_172 b Q  v1 v3 μ := by
  intro hR
  refine xs_iload_n dX9_curve_172 rfl ?_
  refine xs_aload_n dX9_curve_173 rfl ?_
  refine xs_getI dX9_curve_174 fl_X9_222.g rfl sc_75 ?_
  refine xs_iconst (nI 2) dX9_curve_177 (by decide) ?_
  refine xs_iadd dX9_curve_178 ?_
  refine xs_icmp_ge 298 dX9_curve_179 (by decide) (fun c1 => ?_) (fun c1 => ?_)
  · replace h := h.1 c1
    refine xs_iconst (nI 0) dX9_curve_298 (by decide) ?_
    refine xs_istore_n [some (.ref 75), some (.int v1), none, some (.int (nI 0)), none, none, none] dX9_curve_299 (by decide) rfl ?_
    exact xs_loc [some (.ref 75), some (.int v1), none, some (.int (nI 0)), none, none, none] ⟨rfl, ⟨rfl, ⟨rfl, trivial⟩⟩⟩ (h hR)
  · replace h := h.2 c1
    refine xs_aload_n dX9_curve_182 rfl ?_
    refine xs_iload_n dX9_curve_183 rfl ?_
    refine xs_iconst (nI 0) dX9_curve_184 (by decide) ?_
    obtain ⟨Q2, hQ2, h⟩ := h
    refine xs_callV (j := k_X9_beside) (As := [.int v3, .int (nI 0)]) (S := []) dX9_curve_185 (hQ2 hR) ⟨ml_X9_252, mk_X9_beside.1, mk_X9_beside.2.1, mk_X9_beside.2.2⟩ mv_X9_beside ⟨Nat.le_of_ble_eq_true rfl, Nat.le_of_ble_eq_true rfl⟩ rfl (Nat.le_of_ble_eq_true rfl) sc_75 rfl ⟨rfl, rfl⟩ (fun rr m3 hq5 => ?_)
    obtain ⟨hR, r4, rfl, hq5⟩ := hq5
    replace h := h r4 m3 hq5
    refine xs_istore [some (.ref 75), some (.int v1), none, some (.int v3), some (.int r4), none, none] dX9_curve_188 (by decide) rfl ?_
    refine xs_aload_n dX9_curve_190 rfl ?_
    refine xs_iload_n dX9_curve_191 rfl ?_
    refine xs_iconst (nI 1) dX9_curve_192 (by decide) ?_
    obtain ⟨Q6, hQ6, h⟩ := h
    refine xs_callV (j := k_X9_beside) (As := [.int v3, .int (nI 1)]) (S := []) dX9_curve_193 (hQ6 hR) ⟨ml_X9_252, mk_X9_beside.1, mk_X9_beside.2.1, mk_X9_beside.2.2⟩ mv_X9_beside ⟨Nat.le_of_ble_eq_true rfl, Nat.le_of_ble_eq_true rfl⟩ rfl (Nat.le_of_ble_eq_true rfl) sc_75 rfl ⟨rfl, rfl⟩ (fun rr m7 hq9 => ?_)
    obtain ⟨hR, r8, rfl, hq9⟩ := hq9
    replace h := h r8 m7 hq9
    refine xs_istore [some (.ref 75), some (.int v1), none, some (.int v3), some (.int r4), some (.int r8), none] dX9_curve_196 (by decide) rfl ?_
    refine xs_aload_n dX9_curve_198 rfl ?_
    refine xs_iload dX9_curve_199 rfl ?_
    refine xs_iload dX9_curve_201 rfl ?_
    refine xs_aload_n dX9_curve_203 rfl ?_
    refine xs_getR dX9_curve_204 fl_X9_73 rfl sc_75 (rt_75_39 hR) ?_
    refine xs_iload_n dX9_curve_207 rfl ?_
    obtain ⟨s10, h⟩ := h
    refine xs_iald dX9_curve_208 sc_94 s10 ?_
    obtain ⟨Q11, hQ11, h⟩ := h
    refine xs_callV (j := k_X9_line) (As := [.int r4, .int r8, .int (m7.1 94 (v3).toNatClampNeg)]) (S := []) dX9_curve_209 (hQ11 hR) ⟨ml_X9_256, mk_X9_line.1, mk_X9_line.2.1, mk_X9_line.2.2⟩ mv_X9_line ⟨Nat.le_of_ble_eq_true rfl, Nat.le_of_ble_eq_true rfl⟩ rfl (Nat.le_of_ble_eq_true rfl) sc_75 rfl ⟨rfl, rfl⟩ (fun rr m12 hq14 => ?_)
    obtain ⟨hR, r13, rfl, hq14⟩ := hq14
    replace h := h r13 m12 hq14
    refine xs_istore [some (.ref 75), some (.int v1), none, some (.int v3), some (.int r4), some (.int r8), some (.int r13)] dX9_curve_212 (by decide) rfl ?_
    refine xs_aload_n dX9_curve_214 rfl ?_
    refine xs_getR dX9_curve_215 fl_X9_82 rfl sc_75 (rt_75_42 hR) ?_
    refine xs_iload_n dX9_curve_218 rfl ?_
    refine xs_aload_n dX9_curve_219 rfl ?_
    refine xs_getR dX9_curve_220 fl_X9_91 rfl sc_75 (rt_75_45 hR) ?_
    refine xs_iload_n dX9_curve_223 rfl ?_
    obtain ⟨s15, h⟩ := h
    refine xs_iald dX9_curve_224 sc_100 s15 ?_
    refine xs_if_le 232 dX9_curve_225 (by decide) (fun c16 => ?_) (fun c16 => ?_)
    · replace h := h.1 c16
      refine xs_iconst (nI 0) dX9_curve_232 (by decide) ?_
      obtain ⟨s17, h⟩ := h
      refine xs_zast dX9_curve_233 sc_97 s17 ?_
      refine xs_nmM (fun m18 e_m18 => ?_)
      replace h := h m18 e_m18
      have hR : xs_RT b m18 := by rw [e_m18]; exact hR
      refine xs_aload_n dX9_curve_234 rfl ?_
      refine xs_getR dX9_curve_235 fl_X9_79 rfl sc_75 (rt_75_41 hR) ?_
      refine xs_iload_n dX9_curve_238 rfl ?_
      refine xs_aload_n dX9_curve_239 rfl ?_
      refine xs_getR dX9_curve_240 fl_X9_82 rfl sc_75 (rt_75_42 hR) ?_
      refine xs_iload_n dX9_curve_243 rfl ?_
      obtain ⟨s19, h⟩ := h
      refine xs_zald dX9_curve_244 sc_97 s19 ?_
      refine xs_if_eq 264 dX9_curve_245 (by decide) (fun c20 => ?_) (fun c20 => ?_)
      · replace h := h.1 c20
        refine xs_iload dX9_curve_264 rfl ?_
        obtain ⟨s21, h⟩ := h
        refine xs_iast dX9_curve_266 sc_96 s21 ?_
        refine xs_nmM (fun m22 e_m22 => ?_)
        replace h := h m22 e_m22
        have hR : xs_RT b m22 := by rw [e_m22]; exact hR
        refine xs_aload_n dX9_curve_267 rfl ?_
        refine xs_getR dX9_curve_268 fl_X9_82 rfl sc_75 (rt_75_42 hR) ?_
        refine xs_iload_n dX9_curve_271 rfl ?_
        obtain ⟨s23, h⟩ := h
        refine xs_zald dX9_curve_272 sc_97 s23 ?_
        refine xs_if_eq 292 dX9_curve_273 (by decide) (fun c24 => ?_) (fun c24 => ?_)
        · replace h := h.1 c24
          exact xs_loc [some (.ref 75), some (.int v1), none, some (.int v3), none, none, none] ⟨rfl, ⟨rfl, ⟨rfl, trivial⟩⟩⟩ (h hR)
        · replace h := h.2 c24
          refine xs_aload_n dX9_curve_276 rfl ?_
          refine xs_getR dX9_curve_277 fl_X9_82 rfl sc_75 (rt_75_42 hR) ?_
          refine xs_iload dX9_curve_280 rfl ?_
          refine xs_iconst (nI 1) dX9_curve_282 (by decide) ?_
          obtain ⟨s25, h⟩ := h
          refine xs_zast dX9_curve_283 sc_97 s25 ?_
          refine xs_nmM (fun m26 e_m26 => ?_)
          replace h := h m26 e_m26
          have hR : xs_RT b m26 := by rw [e_m26]; exact hR
          refine xs_aload_n dX9_curve_284 rfl ?_
          refine xs_getR dX9_curve_285 fl_X9_82 rfl sc_75 (rt_75_42 hR) ?_
          refine xs_iload dX9_curve_288 rfl ?_
          refine xs_iconst (nI 1) dX9_curve_290 (by decide) ?_
          obtain ⟨s27, h⟩ := h
          refine xs_zast dX9_curve_291 sc_97 s27 ?_
          refine xs_nmM (fun m28 e_m28 => ?_)
          replace h := h m28 e_m28
          have hR : xs_RT b m28 := by rw [e_m28]; exact hR
          exact xs_loc [some (.ref 75), some (.int v1), none, some (.int v3), none, none, none] ⟨rfl, ⟨rfl, ⟨rfl, trivial⟩⟩⟩ (h hR)
      · replace h := h.2 c20
        refine xs_aload_n dX9_curve_248 rfl ?_
        refine xs_iload_n dX9_curve_249 rfl ?_
        refine xs_iload dX9_curve_250 rfl ?_
        refine xs_aload_n dX9_curve_252 rfl ?_
        refine xs_getR dX9_curve_253 fl_X9_91 rfl sc_75 (rt_75_45 hR) ?_
        refine xs_iload_n dX9_curve_256 rfl ?_
        obtain ⟨s29, h⟩ := h
        refine xs_iald dX9_curve_257 sc_100 s29 ?_
        obtain ⟨Q30, hQ30, h⟩ := h
        refine xs_callV (j := k_X9_told) (As := [.int v3, .int r13, .int (m18.1 100 (v3).toNatClampNeg)]) (S := [.int v3, .ref 96]) dX9_curve_258 (hQ30 hR) ⟨ml_X9_260, mk_X9_told.1, mk_X9_told.2.1, mk_X9_told.2.2⟩ mv_X9_told ⟨Nat.le_of_ble_eq_true rfl, Nat.le_of_ble_eq_true rfl⟩ rfl (Nat.le_of_ble_eq_true rfl) sc_75 rfl ⟨rfl, rfl⟩ (fun rr m31 hq33 => ?_)
        obtain ⟨hR, r32, rfl, hq33⟩ := hq33
        replace h := h r32 m31 hq33
        refine xs_goto 266 dX9_curve_261 (by decide) ?_
        obtain ⟨s34, h⟩ := h
        refine xs_iast dX9_curve_266 sc_96 s34 ?_
        refine xs_nmM (fun m35 e_m35 => ?_)
        replace h := h m35 e_m35
        have hR : xs_RT b m35 := by rw [e_m35]; exact hR
        refine xs_aload_n dX9_curve_267 rfl ?_
        refine xs_getR dX9_curve_268 fl_X9_82 rfl sc_75 (rt_75_42 hR) ?_
        refine xs_iload_n dX9_curve_271 rfl ?_
        obtain ⟨s36, h⟩ := h
        refine xs_zald dX9_curve_272 sc_97 s36 ?_
        refine xs_if_eq 292 dX9_curve_273 (by decide) (fun c37 => ?_) (fun c37 => ?_)
        · replace h := h.1 c37
          exact xs_loc [some (.ref 75), some (.int v1), none, some (.int v3), none, none, none] ⟨rfl, ⟨rfl, ⟨rfl, trivial⟩⟩⟩ (h hR)
        · replace h := h.2 c37
          refine xs_aload_n dX9_curve_276 rfl ?_
          refine xs_getR dX9_curve_277 fl_X9_82 rfl sc_75 (rt_75_42 hR) ?_
          refine xs_iload dX9_curve_280 rfl ?_
          refine xs_iconst (nI 1) dX9_curve_282 (by decide) ?_
          obtain ⟨s38, h⟩ := h
          refine xs_zast dX9_curve_283 sc_97 s38 ?_
          refine xs_nmM (fun m39 e_m39 => ?_)
          replace h := h m39 e_m39
          have hR : xs_RT b m39 := by rw [e_m39]; exact hR
          refine xs_aload_n dX9_curve_284 rfl ?_
          refine xs_getR dX9_curve_285 fl_X9_82 rfl sc_75 (rt_75_42 hR) ?_
          refine xs_iload dX9_curve_288 rfl ?_
          refine xs_iconst (nI 1) dX9_curve_290 (by decide) ?_
          obtain ⟨s40, h⟩ := h
          refine xs_zast dX9_curve_291 sc_97 s40 ?_
          refine xs_nmM (fun m41 e_m41 => ?_)
          replace h := h m41 e_m41
          have hR : xs_RT b m41 := by rw [e_m41]; exact hR
          exact xs_loc [some (.ref 75), some (.int v1), none, some (.int v3), none, none, none] ⟨rfl, ⟨rfl, ⟨rfl, trivial⟩⟩⟩ (h hR)
    · replace h := h.2 c16
      refine xs_iconst (nI 1) dX9_curve_228 (by decide) ?_
      refine xs_goto 233 dX9_curve_229 (by decide) ?_
      obtain ⟨s42, h⟩ := h
      refine xs_zast dX9_curve_233 sc_97 s42 ?_
      refine xs_nmM (fun m43 e_m43 => ?_)
      replace h := h m43 e_m43
      have hR : xs_RT b m43 := by rw [e_m43]; exact hR
      refine xs_aload_n dX9_curve_234 rfl ?_
      refine xs_getR dX9_curve_235 fl_X9_79 rfl sc_75 (rt_75_41 hR) ?_
      refine xs_iload_n dX9_curve_238 rfl ?_
      refine xs_aload_n dX9_curve_239 rfl ?_
      refine xs_getR dX9_curve_240 fl_X9_82 rfl sc_75 (rt_75_42 hR) ?_
      refine xs_iload_n dX9_curve_243 rfl ?_
      obtain ⟨s44, h⟩ := h
      refine xs_zald dX9_curve_244 sc_97 s44 ?_
      refine xs_if_eq 264 dX9_curve_245 (by decide) (fun c45 => ?_) (fun c45 => ?_)
      · replace h := h.1 c45
        refine xs_iload dX9_curve_264 rfl ?_
        obtain ⟨s46, h⟩ := h
        refine xs_iast dX9_curve_266 sc_96 s46 ?_
        refine xs_nmM (fun m47 e_m47 => ?_)
        replace h := h m47 e_m47
        have hR : xs_RT b m47 := by rw [e_m47]; exact hR
        refine xs_aload_n dX9_curve_267 rfl ?_
        refine xs_getR dX9_curve_268 fl_X9_82 rfl sc_75 (rt_75_42 hR) ?_
        refine xs_iload_n dX9_curve_271 rfl ?_
        obtain ⟨s48, h⟩ := h
        refine xs_zald dX9_curve_272 sc_97 s48 ?_
        refine xs_if_eq 292 dX9_curve_273 (by decide) (fun c49 => ?_) (fun c49 => ?_)
        · replace h := h.1 c49
          exact xs_loc [some (.ref 75), some (.int v1), none, some (.int v3), none, none, none] ⟨rfl, ⟨rfl, ⟨rfl, trivial⟩⟩⟩ (h hR)
        · replace h := h.2 c49
          refine xs_aload_n dX9_curve_276 rfl ?_
          refine xs_getR dX9_curve_277 fl_X9_82 rfl sc_75 (rt_75_42 hR) ?_
          refine xs_iload dX9_curve_280 rfl ?_
          refine xs_iconst (nI 1) dX9_curve_282 (by decide) ?_
          obtain ⟨s50, h⟩ := h
          refine xs_zast dX9_curve_283 sc_97 s50 ?_
          refine xs_nmM (fun m51 e_m51 => ?_)
          replace h := h m51 e_m51
          have hR : xs_RT b m51 := by rw [e_m51]; exact hR
          refine xs_aload_n dX9_curve_284 rfl ?_
          refine xs_getR dX9_curve_285 fl_X9_82 rfl sc_75 (rt_75_42 hR) ?_
          refine xs_iload dX9_curve_288 rfl ?_
          refine xs_iconst (nI 1) dX9_curve_290 (by decide) ?_
          obtain ⟨s52, h⟩ := h
          refine xs_zast dX9_curve_291 sc_97 s52 ?_
          refine xs_nmM (fun m53 e_m53 => ?_)
          replace h := h m53 e_m53
          have hR : xs_RT b m53 := by rw [e_m53]; exact hR
          exact xs_loc [some (.ref 75), some (.int v1), none, some (.int v3), none, none, none] ⟨rfl, ⟨rfl, ⟨rfl, trivial⟩⟩⟩ (h hR)
      · replace h := h.2 c45
        refine xs_aload_n dX9_curve_248 rfl ?_
        refine xs_iload_n dX9_curve_249 rfl ?_
        refine xs_iload dX9_curve_250 rfl ?_
        refine xs_aload_n dX9_curve_252 rfl ?_
        refine xs_getR dX9_curve_253 fl_X9_91 rfl sc_75 (rt_75_45 hR) ?_
        refine xs_iload_n dX9_curve_256 rfl ?_
        obtain ⟨s54, h⟩ := h
        refine xs_iald dX9_curve_257 sc_100 s54 ?_
        obtain ⟨Q55, hQ55, h⟩ := h
        refine xs_callV (j := k_X9_told) (As := [.int v3, .int r13, .int (m43.1 100 (v3).toNatClampNeg)]) (S := [.int v3, .ref 96]) dX9_curve_258 (hQ55 hR) ⟨ml_X9_260, mk_X9_told.1, mk_X9_told.2.1, mk_X9_told.2.2⟩ mv_X9_told ⟨Nat.le_of_ble_eq_true rfl, Nat.le_of_ble_eq_true rfl⟩ rfl (Nat.le_of_ble_eq_true rfl) sc_75 rfl ⟨rfl, rfl⟩ (fun rr m56 hq58 => ?_)
        obtain ⟨hR, r57, rfl, hq58⟩ := hq58
        replace h := h r57 m56 hq58
        refine xs_goto 266 dX9_curve_261 (by decide) ?_
        obtain ⟨s59, h⟩ := h
        refine xs_iast dX9_curve_266 sc_96 s59 ?_
        refine xs_nmM (fun m60 e_m60 => ?_)
        replace h := h m60 e_m60
        have hR : xs_RT b m60 := by rw [e_m60]; exact hR
        refine xs_aload_n dX9_curve_267 rfl ?_
        refine xs_getR dX9_curve_268 fl_X9_82 rfl sc_75 (rt_75_42 hR) ?_
        refine xs_iload_n dX9_curve_271 rfl ?_
        obtain ⟨s61, h⟩ := h
        refine xs_zald dX9_curve_272 sc_97 s61 ?_
        refine xs_if_eq 292 dX9_curve_273 (by decide) (fun c62 => ?_) (fun c62 => ?_)
        · replace h := h.1 c62
          exact xs_loc [some (.ref 75), some (.int v1), none, some (.int v3), none, none, none] ⟨rfl, ⟨rfl, ⟨rfl, trivial⟩⟩⟩ (h hR)
        · replace h := h.2 c62
          refine xs_aload_n dX9_curve_276 rfl ?_
          refine xs_getR dX9_curve_277 fl_X9_82 rfl sc_75 (rt_75_42 hR) ?_
          refine xs_iload dX9_curve_280 rfl ?_
          refine xs_iconst (nI 1) dX9_curve_282 (by decide) ?_
          obtain ⟨s63, h⟩ := h
          refine xs_zast dX9_curve_283 sc_97 s63 ?_
          refine xs_nmM (fun m64 e_m64 => ?_)
          replace h := h m64 e_m64
          have hR : xs_RT b m64 := by rw [e_m64]; exact hR
          refine xs_aload_n dX9_curve_284 rfl ?_
          refine xs_getR dX9_curve_285 fl_X9_82 rfl sc_75 (rt_75_42 hR) ?_
          refine xs_iload dX9_curve_288 rfl ?_
          refine xs_iconst (nI 1) dX9_curve_290 (by decide) ?_
          obtain ⟨s65, h⟩ := h
          refine xs_zast dX9_curve_291 sc_97 s65 ?_
          refine xs_nmM (fun m66 e_m66 => ?_)
          replace h := h m66 e_m66
          have hR : xs_RT b m66 := by rw [e_m66]; exact hR
          exact xs_loc [some (.ref 75), some (.int v1), none, some (.int v3), none, none, none] ⟨rfl, ⟨rfl, ⟨rfl, trivial⟩⟩⟩ (h hR)
set_option maxHeartbeats 4000000 in
set_option maxRecDepth 100000 in
theorem l_X9_curve_292 {b : Bool} {Q : Int32 → xm_M → Prop} {μ : xm_M}  (v1 : Int32) (v3 : Int32) 
    (h : ∀ x1 : Int32, x1 = v3 + nI 1 →
      hd_X9_curve_172 b Q  v1 x1 μ) :
    hd_X9_curve_292 b Q  v1 v3 μ := by
  intro hR
  obtain ⟨x1, e_x1⟩ : ∃ z : Int32, z = v3 + nI 1 := ⟨_, rfl⟩
  replace h := h x1 e_x1
  refine xs_iinc x1 [some (.ref 75), some (.int v1), none, some (.int x1), none, none, none] dX9_curve_292 (by decide) rfl (by rw [e_x1]; rfl) rfl ?_
  refine xs_goto 172 dX9_curve_295 (by decide) ?_
  exact xs_loc [some (.ref 75), some (.int v1), none, some (.int x1), none, none, none] ⟨rfl, ⟨rfl, ⟨rfl, trivial⟩⟩⟩ (h hR)
set_option maxHeartbeats 4000000 in
set_option maxRecDepth 100000 in
theorem l_X9_curve_300 {b : Bool} {Q : Int32 → xm_M → Prop} {μ : xm_M}  (v1 : Int32) (v3 : Int32) 
    (h : (((nI 16) ≤ v3 →
       Q (nI 1) μ) ∧
      (¬ (nI 16) ≤ v3 →
       ∃ Q2 : Int64 → xm_M → Prop, xCl b b k_X9_height μ [.ref 75, .int v3] Q2 ∧
       ∀ (r4 : Int64) (m3 : xm_M), Q2 r4 m3 →
       vp_in (((nI 16) * v1) + v3) 32 ∧
       ∀ m7 : xm_M, m7 = xu_L m3 98 (vp_updL (m3.2.1 98) ((((nI 16) * v1) + v3)).toNatClampNeg r4) →
       ∀ x8 : Int32, x8 = v3 + nI 1 →
       hd_X9_curve_300 b Q  v1 x8 m7))) :
    hd_X9_curve_300 b Q  v1 v3 μ := by
  intro hR
  refine xs_iload_n dX9_curve_300 rfl ?_
  refine xs_bipush (nI 16) dX9_curve_301 (by decide) ?_
  refine xs_icmp_ge 328 dX9_curve_303 (by decide) (fun c1 => ?_) (fun c1 => ?_)
  · replace h := h.1 c1
    refine xs_iconst (nI 1) dX9_curve_328 (by decide) ?_
    exact xs_ret (some (.int (nI 1))) dX9_curve_329 rfl rfl ⟨hR, _, rfl, h⟩
  · replace h := h.2 c1
    refine xs_aload_n dX9_curve_306 rfl ?_
    refine xs_getR dX9_curve_307 fl_X9_85 rfl sc_75 (rt_75_43 hR) ?_
    refine xs_bipush (nI 16) dX9_curve_310 (by decide) ?_
    refine xs_iload_n dX9_curve_312 rfl ?_
    refine xs_imul dX9_curve_313 ?_
    refine xs_iload_n dX9_curve_314 rfl ?_
    refine xs_iadd dX9_curve_315 ?_
    refine xs_aload_n dX9_curve_316 rfl ?_
    refine xs_iload_n dX9_curve_317 rfl ?_
    obtain ⟨Q2, hQ2, h⟩ := h
    refine xs_callV (j := k_X9_height) (As := [.int v3]) (S := [.int (((nI 16) * v1) + v3), .ref 98]) dX9_curve_318 (hQ2 hR) ⟨ml_X9_263, mk_X9_height.1, mk_X9_height.2.1, mk_X9_height.2.2⟩ mv_X9_height ⟨Nat.le_of_ble_eq_true rfl, Nat.le_of_ble_eq_true rfl⟩ rfl (Nat.le_of_ble_eq_true rfl) sc_75 rfl ⟨rfl, rfl⟩ (fun rr m3 hq5 => ?_)
    obtain ⟨hR, r4, rfl, hq5⟩ := hq5
    replace h := h r4 m3 hq5
    obtain ⟨s6, h⟩ := h
    refine xs_last dX9_curve_321 sc_98 s6 ?_
    refine xs_nmM (fun m7 e_m7 => ?_)
    replace h := h m7 e_m7
    have hR : xs_RT b m7 := by rw [e_m7]; exact hR
    obtain ⟨x8, e_x8⟩ : ∃ z : Int32, z = v3 + nI 1 := ⟨_, rfl⟩
    replace h := h x8 e_x8
    refine xs_iinc x8 [some (.ref 75), some (.int v1), none, some (.int x8), none, none, none] dX9_curve_322 (by decide) rfl (by rw [e_x8]; rfl) rfl ?_
    refine xs_goto 300 dX9_curve_325 (by decide) ?_
    exact xs_loc [some (.ref 75), some (.int v1), none, some (.int x8), none, none, none] ⟨rfl, ⟨rfl, ⟨rfl, trivial⟩⟩⟩ (h hR)
set_option maxHeartbeats 4000000 in
set_option maxRecDepth 100000 in
theorem g_X9_curve {b : Bool} {Q : Int32 → xm_M → Prop} {μ : xm_M} (v1 : Int32) 
    (h : ∃ Q1 : Int32 → xm_M → Prop, xCi b b k_X9_bit μ [.ref 75] Q1 ∧
      ∀ (r3 : Int32) (m2 : xm_M), Q1 r3 m2 →
      ((¬ r3 = 0 →
       vp_in v1 2 ∧
       ∀ m7 : xm_M, m7 = xu_I m2 99 (upd (m2.1 99) (v1).toNatClampNeg (vp_nar .boolean (nI 0))) →
       (((m7.1 75 17) = 0 →
        vp_in v1 2 ∧
        (((m7.1 99 (v1).toNatClampNeg) = 0 →
         ((¬ (m7.1 75 32) = (nI 1) →
          ((¬ (m7.1 75 32) = (nI 4) →
           hd_X9_curve_69 b Q  v1 (nI 7) (nI 0) m7) ∧
          ((m7.1 75 32) = (nI 4) →
           hd_X9_curve_69 b Q  v1 (nI 6) (nI 0) m7))) ∧
         ((m7.1 75 32) = (nI 1) →
          hd_X9_curve_69 b Q  v1 (nI 8) (nI 0) m7))) ∧
        (¬ (m7.1 99 (v1).toNatClampNeg) = 0 →
         Q (nI 1) m7))) ∧
       (¬ (m7.1 75 17) = 0 →
        Q (nI 0) m7))) ∧
      (r3 = 0 →
       vp_in v1 2 ∧
       ∀ m14 : xm_M, m14 = xu_I m2 99 (upd (m2.1 99) (v1).toNatClampNeg (vp_nar .boolean (nI 1))) →
       (((m14.1 75 17) = 0 →
        vp_in v1 2 ∧
        (((m14.1 99 (v1).toNatClampNeg) = 0 →
         ((¬ (m14.1 75 32) = (nI 1) →
          ((¬ (m14.1 75 32) = (nI 4) →
           hd_X9_curve_69 b Q  v1 (nI 7) (nI 0) m14) ∧
          ((m14.1 75 32) = (nI 4) →
           hd_X9_curve_69 b Q  v1 (nI 6) (nI 0) m14))) ∧
         ((m14.1 75 32) = (nI 1) →
          hd_X9_curve_69 b Q  v1 (nI 8) (nI 0) m14))) ∧
        (¬ (m14.1 99 (v1).toNatClampNeg) = 0 →
         Q (nI 1) m14))) ∧
       (¬ (m14.1 75 17) = 0 →
        Q (nI 0) m14))))) :
    xCi b b k_X9_curve μ [.ref 75, .int v1] Q := by
  intro hR
  refine xm_met [some (.ref 75), some (.int v1), none, none, none, none, none] 5 (by decide) (by simp [lg_sl, Value.category]) rfl ?_
  refine xs_aload_n dX9_curve_0 rfl ?_
  refine xs_getR dX9_curve_1 fl_X9_88 rfl sc_75 (rt_75_44 hR) ?_
  refine xs_iload_n dX9_curve_4 rfl ?_
  refine xs_aload_n dX9_curve_5 rfl ?_
  obtain ⟨Q1, hQ1, h⟩ := h
  refine xs_callV (j := k_X9_bit) (As := []) (S := [.int v1, .ref 99]) dX9_curve_6 (hQ1 hR) ⟨ml_X9_177, mk_X9_bit.1, mk_X9_bit.2.1, mk_X9_bit.2.2⟩ mv_X9_bit ⟨Nat.le_of_ble_eq_true rfl, Nat.le_of_ble_eq_true rfl⟩ rfl (Nat.le_of_ble_eq_true rfl) sc_75 rfl ⟨rfl, rfl⟩ (fun rr m2 hq4 => ?_)
  obtain ⟨hR, r3, rfl, hq4⟩ := hq4
  replace h := h r3 m2 hq4
  refine xs_if_ne 16 dX9_curve_9 (by decide) (fun c5 => ?_) (fun c5 => ?_)
  · replace h := h.1 c5
    refine xs_iconst (nI 0) dX9_curve_16 (by decide) ?_
    obtain ⟨s6, h⟩ := h
    refine xs_zast dX9_curve_17 sc_99 s6 ?_
    refine xs_nmM (fun m7 e_m7 => ?_)
    replace h := h m7 e_m7
    have hR : xs_RT b m7 := by rw [e_m7]; exact hR
    refine xs_aload_n dX9_curve_18 rfl ?_
    refine xs_getI dX9_curve_19 fl_X9_174.g rfl sc_75 ?_
    refine xs_if_eq 27 dX9_curve_22 (by decide) (fun c8 => ?_) (fun c8 => ?_)
    · replace h := h.1 c8
      refine xs_aload_n dX9_curve_27 rfl ?_
      refine xs_getR dX9_curve_28 fl_X9_88 rfl sc_75 (rt_75_44 hR) ?_
      refine xs_iload_n dX9_curve_31 rfl ?_
      obtain ⟨s9, h⟩ := h
      refine xs_zald dX9_curve_32 sc_99 s9 ?_
      refine xs_if_eq 38 dX9_curve_33 (by decide) (fun c10 => ?_) (fun c10 => ?_)
      · replace h := h.1 c10
        refine xs_aload_n dX9_curve_38 rfl ?_
        refine xs_getI dX9_curve_39 fl_X9_219.g rfl sc_75 ?_
        refine xs_iconst (nI 1) dX9_curve_42 (by decide) ?_
        refine xs_icmp_ne 51 dX9_curve_43 (by decide) (fun c11 => ?_) (fun c11 => ?_)
        · replace h := h.1 c11
          refine xs_aload_n dX9_curve_51 rfl ?_
          refine xs_getI dX9_curve_52 fl_X9_219.g rfl sc_75 ?_
          refine xs_iconst (nI 4) dX9_curve_55 (by decide) ?_
          refine xs_icmp_ne 64 dX9_curve_56 (by decide) (fun c12 => ?_) (fun c12 => ?_)
          · replace h := h.1 c12
            refine xs_bipush (nI 7) dX9_curve_64 (by decide) ?_
            refine xs_istore_n [some (.ref 75), some (.int v1), some (.int (nI 7)), none, none, none, none] dX9_curve_66 (by decide) rfl ?_
            refine xs_iconst (nI 0) dX9_curve_67 (by decide) ?_
            refine xs_istore_n [some (.ref 75), some (.int v1), some (.int (nI 7)), some (.int (nI 0)), none, none, none] dX9_curve_68 (by decide) rfl ?_
            exact xs_loc [some (.ref 75), some (.int v1), some (.int (nI 7)), some (.int (nI 0)), none, none, none] ⟨rfl, ⟨rfl, ⟨rfl, ⟨rfl, trivial⟩⟩⟩⟩ (h hR)
          · replace h := h.2 c12
            refine xs_bipush (nI 6) dX9_curve_59 (by decide) ?_
            refine xs_goto 66 dX9_curve_61 (by decide) ?_
            refine xs_istore_n [some (.ref 75), some (.int v1), some (.int (nI 6)), none, none, none, none] dX9_curve_66 (by decide) rfl ?_
            refine xs_iconst (nI 0) dX9_curve_67 (by decide) ?_
            refine xs_istore_n [some (.ref 75), some (.int v1), some (.int (nI 6)), some (.int (nI 0)), none, none, none] dX9_curve_68 (by decide) rfl ?_
            exact xs_loc [some (.ref 75), some (.int v1), some (.int (nI 6)), some (.int (nI 0)), none, none, none] ⟨rfl, ⟨rfl, ⟨rfl, ⟨rfl, trivial⟩⟩⟩⟩ (h hR)
        · replace h := h.2 c11
          refine xs_bipush (nI 8) dX9_curve_46 (by decide) ?_
          refine xs_goto 66 dX9_curve_48 (by decide) ?_
          refine xs_istore_n [some (.ref 75), some (.int v1), some (.int (nI 8)), none, none, none, none] dX9_curve_66 (by decide) rfl ?_
          refine xs_iconst (nI 0) dX9_curve_67 (by decide) ?_
          refine xs_istore_n [some (.ref 75), some (.int v1), some (.int (nI 8)), some (.int (nI 0)), none, none, none] dX9_curve_68 (by decide) rfl ?_
          exact xs_loc [some (.ref 75), some (.int v1), some (.int (nI 8)), some (.int (nI 0)), none, none, none] ⟨rfl, ⟨rfl, ⟨rfl, ⟨rfl, trivial⟩⟩⟩⟩ (h hR)
      · replace h := h.2 c10
        refine xs_iconst (nI 1) dX9_curve_36 (by decide) ?_
        exact xs_ret (some (.int (nI 1))) dX9_curve_37 rfl rfl ⟨hR, _, rfl, h⟩
    · replace h := h.2 c8
      refine xs_iconst (nI 0) dX9_curve_25 (by decide) ?_
      exact xs_ret (some (.int (nI 0))) dX9_curve_26 rfl rfl ⟨hR, _, rfl, h⟩
  · replace h := h.2 c5
    refine xs_iconst (nI 1) dX9_curve_12 (by decide) ?_
    refine xs_goto 17 dX9_curve_13 (by decide) ?_
    obtain ⟨s13, h⟩ := h
    refine xs_zast dX9_curve_17 sc_99 s13 ?_
    refine xs_nmM (fun m14 e_m14 => ?_)
    replace h := h m14 e_m14
    have hR : xs_RT b m14 := by rw [e_m14]; exact hR
    refine xs_aload_n dX9_curve_18 rfl ?_
    refine xs_getI dX9_curve_19 fl_X9_174.g rfl sc_75 ?_
    refine xs_if_eq 27 dX9_curve_22 (by decide) (fun c15 => ?_) (fun c15 => ?_)
    · replace h := h.1 c15
      refine xs_aload_n dX9_curve_27 rfl ?_
      refine xs_getR dX9_curve_28 fl_X9_88 rfl sc_75 (rt_75_44 hR) ?_
      refine xs_iload_n dX9_curve_31 rfl ?_
      obtain ⟨s16, h⟩ := h
      refine xs_zald dX9_curve_32 sc_99 s16 ?_
      refine xs_if_eq 38 dX9_curve_33 (by decide) (fun c17 => ?_) (fun c17 => ?_)
      · replace h := h.1 c17
        refine xs_aload_n dX9_curve_38 rfl ?_
        refine xs_getI dX9_curve_39 fl_X9_219.g rfl sc_75 ?_
        refine xs_iconst (nI 1) dX9_curve_42 (by decide) ?_
        refine xs_icmp_ne 51 dX9_curve_43 (by decide) (fun c18 => ?_) (fun c18 => ?_)
        · replace h := h.1 c18
          refine xs_aload_n dX9_curve_51 rfl ?_
          refine xs_getI dX9_curve_52 fl_X9_219.g rfl sc_75 ?_
          refine xs_iconst (nI 4) dX9_curve_55 (by decide) ?_
          refine xs_icmp_ne 64 dX9_curve_56 (by decide) (fun c19 => ?_) (fun c19 => ?_)
          · replace h := h.1 c19
            refine xs_bipush (nI 7) dX9_curve_64 (by decide) ?_
            refine xs_istore_n [some (.ref 75), some (.int v1), some (.int (nI 7)), none, none, none, none] dX9_curve_66 (by decide) rfl ?_
            refine xs_iconst (nI 0) dX9_curve_67 (by decide) ?_
            refine xs_istore_n [some (.ref 75), some (.int v1), some (.int (nI 7)), some (.int (nI 0)), none, none, none] dX9_curve_68 (by decide) rfl ?_
            exact xs_loc [some (.ref 75), some (.int v1), some (.int (nI 7)), some (.int (nI 0)), none, none, none] ⟨rfl, ⟨rfl, ⟨rfl, ⟨rfl, trivial⟩⟩⟩⟩ (h hR)
          · replace h := h.2 c19
            refine xs_bipush (nI 6) dX9_curve_59 (by decide) ?_
            refine xs_goto 66 dX9_curve_61 (by decide) ?_
            refine xs_istore_n [some (.ref 75), some (.int v1), some (.int (nI 6)), none, none, none, none] dX9_curve_66 (by decide) rfl ?_
            refine xs_iconst (nI 0) dX9_curve_67 (by decide) ?_
            refine xs_istore_n [some (.ref 75), some (.int v1), some (.int (nI 6)), some (.int (nI 0)), none, none, none] dX9_curve_68 (by decide) rfl ?_
            exact xs_loc [some (.ref 75), some (.int v1), some (.int (nI 6)), some (.int (nI 0)), none, none, none] ⟨rfl, ⟨rfl, ⟨rfl, ⟨rfl, trivial⟩⟩⟩⟩ (h hR)
        · replace h := h.2 c18
          refine xs_bipush (nI 8) dX9_curve_46 (by decide) ?_
          refine xs_goto 66 dX9_curve_48 (by decide) ?_
          refine xs_istore_n [some (.ref 75), some (.int v1), some (.int (nI 8)), none, none, none, none] dX9_curve_66 (by decide) rfl ?_
          refine xs_iconst (nI 0) dX9_curve_67 (by decide) ?_
          refine xs_istore_n [some (.ref 75), some (.int v1), some (.int (nI 8)), some (.int (nI 0)), none, none, none] dX9_curve_68 (by decide) rfl ?_
          exact xs_loc [some (.ref 75), some (.int v1), some (.int (nI 8)), some (.int (nI 0)), none, none, none] ⟨rfl, ⟨rfl, ⟨rfl, ⟨rfl, trivial⟩⟩⟩⟩ (h hR)
      · replace h := h.2 c17
        refine xs_iconst (nI 1) dX9_curve_36 (by decide) ?_
        exact xs_ret (some (.int (nI 1))) dX9_curve_37 rfl rfl ⟨hR, _, rfl, h⟩
    · replace h := h.2 c15
      refine xs_iconst (nI 0) dX9_curve_25 (by decide) ?_
      exact xs_ret (some (.int (nI 0))) dX9_curve_26 rfl rfl ⟨hR, _, rfl, h⟩
abbrev hd_X9_height_7 (b : Bool) (Q : Int64 → xm_M → Prop)  (v1 : Int32) (v2 : Int32) (v3 : Int32) (v4 : Int32) (μ : xm_M) : Prop := xs_RT b μ → xR k_X9_height none true (fun r _ μ' => xs_RT b μ' ∧ ∃ x : Int64, r = some (.long x) ∧ Q x μ') 7 [some (.ref 75), some (.int v1), some (.int v2), some (.int v3), some (.int v4)] [] xs_sh (0, 0) μ
set_option maxHeartbeats 4000000 in
set_option maxRecDepth 100000 in
theorem l_X9_height_7 {b : Bool} {Q : Int64 → xm_M → Prop} {μ : xm_M}  (v1 : Int32) (v2 : Int32) (v3 : Int32) (v4 : Int32) 
    (h : ((((μ.1 75 33) + (nI 2)) ≤ v4 →
       ∃ Q2 : Int32 → xm_M → Prop, xCi b b k_X9_line μ [.ref 75, .int v2, .int v3, .int v1] Q2 ∧
       ∀ (r4 : Int32) (m3 : xm_M), Q2 r4 m3 →
       ∀ x6 : Int32, x6 = (r4 * (m3.1 75 32)) →
       ((x6 ≤ (nI 255) →
        vp_in x6 256 ∧
        Q (m3.2.1 77 (x6).toNatClampNeg) m3) ∧
       (¬ x6 ≤ (nI 255) →
        vp_in (nI 255) 256 ∧
        Q (m3.2.1 77 ((nI 255)).toNatClampNeg) m3))) ∧
      (¬ ((μ.1 75 33) + (nI 2)) ≤ v4 →
       vp_in v4 18 ∧
       ((¬ (μ.1 97 (v4).toNatClampNeg) = 0 →
        vp_in v4 18 ∧
        ((v1 < (μ.1 94 (v4).toNatClampNeg) →
         vp_in v4 18 ∧
         (((μ.1 94 (v4).toNatClampNeg) ≤ v1 →
          ∀ x16 : Int32, x16 = v4 + nI 1 →
          hd_X9_height_7 b Q  v1 v2 v3 x16 μ) ∧
         (¬ (μ.1 94 (v4).toNatClampNeg) ≤ v1 →
          vp_in v4 18 ∧
          vp_in v3 18 ∧
          (((μ.1 94 (v3).toNatClampNeg) ≤ (μ.1 94 (v4).toNatClampNeg) →
           ∀ x20 : Int32, x20 = v4 + nI 1 →
           hd_X9_height_7 b Q  v1 v2 v3 x20 μ) ∧
          (¬ (μ.1 94 (v3).toNatClampNeg) ≤ (μ.1 94 (v4).toNatClampNeg) →
           ∀ x21 : Int32, x21 = v4 + nI 1 →
           hd_X9_height_7 b Q  v1 v2 v4 x21 μ))))) ∧
        (¬ v1 < (μ.1 94 (v4).toNatClampNeg) →
         vp_in v4 18 ∧
         vp_in v2 18 ∧
         (((μ.1 94 (v4).toNatClampNeg) ≤ (μ.1 94 (v2).toNatClampNeg) →
          vp_in v4 18 ∧
          (((μ.1 94 (v4).toNatClampNeg) ≤ v1 →
           ∀ x27 : Int32, x27 = v4 + nI 1 →
           hd_X9_height_7 b Q  v1 v2 v3 x27 μ) ∧
          (¬ (μ.1 94 (v4).toNatClampNeg) ≤ v1 →
           vp_in v4 18 ∧
           vp_in v3 18 ∧
           (((μ.1 94 (v3).toNatClampNeg) ≤ (μ.1 94 (v4).toNatClampNeg) →
            ∀ x31 : Int32, x31 = v4 + nI 1 →
            hd_X9_height_7 b Q  v1 v2 v3 x31 μ) ∧
           (¬ (μ.1 94 (v3).toNatClampNeg) ≤ (μ.1 94 (v4).toNatClampNeg) →
            ∀ x32 : Int32, x32 = v4 + nI 1 →
            hd_X9_height_7 b Q  v1 v2 v4 x32 μ))))) ∧
         (¬ (μ.1 94 (v4).toNatClampNeg) ≤ (μ.1 94 (v2).toNatClampNeg) →
          vp_in v4 18 ∧
          (((μ.1 94 (v4).toNatClampNeg) ≤ v1 →
           ∀ x35 : Int32, x35 = v4 + nI 1 →
           hd_X9_height_7 b Q  v1 v4 v3 x35 μ) ∧
          (¬ (μ.1 94 (v4).toNatClampNeg) ≤ v1 →
           vp_in v4 18 ∧
           vp_in v3 18 ∧
           (((μ.1 94 (v3).toNatClampNeg) ≤ (μ.1 94 (v4).toNatClampNeg) →
            ∀ x39 : Int32, x39 = v4 + nI 1 →
            hd_X9_height_7 b Q  v1 v4 v3 x39 μ) ∧
           (¬ (μ.1 94 (v3).toNatClampNeg) ≤ (μ.1 94 (v4).toNatClampNeg) →
            ∀ x40 : Int32, x40 = v4 + nI 1 →
            hd_X9_height_7 b Q  v1 v4 v4 x40 μ))))))))) ∧
       ((μ.1 97 (v4).toNatClampNeg) = 0 →
        ∀ x41 : Int32, x41 = v4 + nI 1 →
        hd_X9_height_7 b Q  v1 v2 v3 x41 μ))))) :
    hd_X9_height_7 b Q  v1 v2 v3 v4 μ := by
  intro hR
  refine xs_iload dX9_height_7 rfl ?_
  refine xs_aload_n dX9_height_9 rfl ?_
  refine xs_getI dX9_height_10 fl_X9_222.g rfl sc_75 ?_
  refine xs_iconst (nI 2) dX9_height_13 (by decide) ?_
  refine xs_iadd dX9_height_14 ?_
  refine xs_icmp_ge 97 dX9_height_15 (by decide) (fun c1 => ?_) (fun c1 => ?_)
  · replace h := h.1 c1
    refine xs_aload_n dX9_height_97 rfl ?_
    refine xs_iload_n dX9_height_98 rfl ?_
    refine xs_iload_n dX9_height_99 rfl ?_
    refine xs_iload_n dX9_height_100 rfl ?_
    obtain ⟨Q2, hQ2, h⟩ := h
    refine xs_callV (j := k_X9_line) (As := [.int v2, .int v3, .int v1]) (S := []) dX9_height_101 (hQ2 hR) ⟨ml_X9_256, mk_X9_line.1, mk_X9_line.2.1, mk_X9_line.2.2⟩ mv_X9_line ⟨Nat.le_of_ble_eq_true rfl, Nat.le_of_ble_eq_true rfl⟩ rfl (Nat.le_of_ble_eq_true rfl) sc_75 rfl ⟨rfl, rfl⟩ (fun rr m3 hq5 => ?_)
    obtain ⟨hR, r4, rfl, hq5⟩ := hq5
    replace h := h r4 m3 hq5
    refine xs_aload_n dX9_height_104 rfl ?_
    refine xs_getI dX9_height_105 fl_X9_219.g rfl sc_75 ?_
    refine xs_imul dX9_height_108 ?_
    refine xs_nmI (fun x6 e_x6 => ?_)
    replace h := h x6 e_x6
    refine xs_istore [some (.ref 75), some (.int v1), some (.int v2), some (.int v3), some (.int x6)] dX9_height_109 (by decide) rfl ?_
    refine xs_aload_n dX9_height_111 rfl ?_
    refine xs_getR dX9_height_112 fl_X9_17 rfl sc_75 (rt_75_3 hR) ?_
    refine xs_iload dX9_height_115 rfl ?_
    refine xs_sipush (nI 255) dX9_height_117 (by decide) ?_
    refine xs_icmp_le 129 dX9_height_120 (by decide) (fun c7 => ?_) (fun c7 => ?_)
    · replace h := h.1 c7
      refine xs_iload dX9_height_129 rfl ?_
      obtain ⟨s8, h⟩ := h
      refine xs_lald dX9_height_131 sc_77 s8 ?_
      exact xs_ret (some (.long (m3.2.1 77 (x6).toNatClampNeg))) dX9_height_132 trivial rfl ⟨hR, _, rfl, h⟩
    · replace h := h.2 c7
      refine xs_sipush (nI 255) dX9_height_123 (by decide) ?_
      refine xs_goto 131 dX9_height_126 (by decide) ?_
      obtain ⟨s9, h⟩ := h
      refine xs_lald dX9_height_131 sc_77 s9 ?_
      exact xs_ret (some (.long (m3.2.1 77 ((nI 255)).toNatClampNeg))) dX9_height_132 trivial rfl ⟨hR, _, rfl, h⟩
  · replace h := h.2 c1
    refine xs_aload_n dX9_height_18 rfl ?_
    refine xs_getR dX9_height_19 fl_X9_82 rfl sc_75 (rt_75_42 hR) ?_
    refine xs_iload dX9_height_22 rfl ?_
    obtain ⟨s10, h⟩ := h
    refine xs_zald dX9_height_24 sc_97 s10 ?_
    refine xs_if_ne 31 dX9_height_25 (by decide) (fun c11 => ?_) (fun c11 => ?_)
    · replace h := h.1 c11
      refine xs_aload_n dX9_height_31 rfl ?_
      refine xs_getR dX9_height_32 fl_X9_73 rfl sc_75 (rt_75_39 hR) ?_
      refine xs_iload dX9_height_35 rfl ?_
      obtain ⟨s12, h⟩ := h
      refine xs_iald dX9_height_37 sc_94 s12 ?_
      refine xs_iload_n dX9_height_38 rfl ?_
      refine xs_icmp_gt 61 dX9_height_39 (by decide) (fun c13 => ?_) (fun c13 => ?_)
      · replace h := h.1 c13
        refine xs_aload_n dX9_height_61 rfl ?_
        refine xs_getR dX9_height_62 fl_X9_73 rfl sc_75 (rt_75_39 hR) ?_
        refine xs_iload dX9_height_65 rfl ?_
        obtain ⟨s14, h⟩ := h
        refine xs_iald dX9_height_67 sc_94 s14 ?_
        refine xs_iload_n dX9_height_68 rfl ?_
        refine xs_icmp_le 91 dX9_height_69 (by decide) (fun c15 => ?_) (fun c15 => ?_)
        · replace h := h.1 c15
          obtain ⟨x16, e_x16⟩ : ∃ z : Int32, z = v4 + nI 1 := ⟨_, rfl⟩
          replace h := h x16 e_x16
          refine xs_iinc x16 [some (.ref 75), some (.int v1), some (.int v2), some (.int v3), some (.int x16)] dX9_height_91 (by decide) rfl (by rw [e_x16]; rfl) rfl ?_
          refine xs_goto 7 dX9_height_94 (by decide) ?_
          exact xs_loc [some (.ref 75), some (.int v1), some (.int v2), some (.int v3), some (.int x16)] ⟨rfl, ⟨rfl, ⟨rfl, ⟨rfl, ⟨rfl, trivial⟩⟩⟩⟩⟩ (h hR)
        · replace h := h.2 c15
          refine xs_aload_n dX9_height_72 rfl ?_
          refine xs_getR dX9_height_73 fl_X9_73 rfl sc_75 (rt_75_39 hR) ?_
          refine xs_iload dX9_height_76 rfl ?_
          obtain ⟨s17, h⟩ := h
          refine xs_iald dX9_height_78 sc_94 s17 ?_
          refine xs_aload_n dX9_height_79 rfl ?_
          refine xs_getR dX9_height_80 fl_X9_73 rfl sc_75 (rt_75_39 hR) ?_
          refine xs_iload_n dX9_height_83 rfl ?_
          obtain ⟨s18, h⟩ := h
          refine xs_iald dX9_height_84 sc_94 s18 ?_
          refine xs_icmp_ge 91 dX9_height_85 (by decide) (fun c19 => ?_) (fun c19 => ?_)
          · replace h := h.1 c19
            obtain ⟨x20, e_x20⟩ : ∃ z : Int32, z = v4 + nI 1 := ⟨_, rfl⟩
            replace h := h x20 e_x20
            refine xs_iinc x20 [some (.ref 75), some (.int v1), some (.int v2), some (.int v3), some (.int x20)] dX9_height_91 (by decide) rfl (by rw [e_x20]; rfl) rfl ?_
            refine xs_goto 7 dX9_height_94 (by decide) ?_
            exact xs_loc [some (.ref 75), some (.int v1), some (.int v2), some (.int v3), some (.int x20)] ⟨rfl, ⟨rfl, ⟨rfl, ⟨rfl, ⟨rfl, trivial⟩⟩⟩⟩⟩ (h hR)
          · replace h := h.2 c19
            refine xs_iload dX9_height_88 rfl ?_
            refine xs_istore_n [some (.ref 75), some (.int v1), some (.int v2), some (.int v4), some (.int v4)] dX9_height_90 (by decide) rfl ?_
            obtain ⟨x21, e_x21⟩ : ∃ z : Int32, z = v4 + nI 1 := ⟨_, rfl⟩
            replace h := h x21 e_x21
            refine xs_iinc x21 [some (.ref 75), some (.int v1), some (.int v2), some (.int v4), some (.int x21)] dX9_height_91 (by decide) rfl (by rw [e_x21]; rfl) rfl ?_
            refine xs_goto 7 dX9_height_94 (by decide) ?_
            exact xs_loc [some (.ref 75), some (.int v1), some (.int v2), some (.int v4), some (.int x21)] ⟨rfl, ⟨rfl, ⟨rfl, ⟨rfl, ⟨rfl, trivial⟩⟩⟩⟩⟩ (h hR)
      · replace h := h.2 c13
        refine xs_aload_n dX9_height_42 rfl ?_
        refine xs_getR dX9_height_43 fl_X9_73 rfl sc_75 (rt_75_39 hR) ?_
        refine xs_iload dX9_height_46 rfl ?_
        obtain ⟨s22, h⟩ := h
        refine xs_iald dX9_height_48 sc_94 s22 ?_
        refine xs_aload_n dX9_height_49 rfl ?_
        refine xs_getR dX9_height_50 fl_X9_73 rfl sc_75 (rt_75_39 hR) ?_
        refine xs_iload_n dX9_height_53 rfl ?_
        obtain ⟨s23, h⟩ := h
        refine xs_iald dX9_height_54 sc_94 s23 ?_
        refine xs_icmp_le 61 dX9_height_55 (by decide) (fun c24 => ?_) (fun c24 => ?_)
        · replace h := h.1 c24
          refine xs_aload_n dX9_height_61 rfl ?_
          refine xs_getR dX9_height_62 fl_X9_73 rfl sc_75 (rt_75_39 hR) ?_
          refine xs_iload dX9_height_65 rfl ?_
          obtain ⟨s25, h⟩ := h
          refine xs_iald dX9_height_67 sc_94 s25 ?_
          refine xs_iload_n dX9_height_68 rfl ?_
          refine xs_icmp_le 91 dX9_height_69 (by decide) (fun c26 => ?_) (fun c26 => ?_)
          · replace h := h.1 c26
            obtain ⟨x27, e_x27⟩ : ∃ z : Int32, z = v4 + nI 1 := ⟨_, rfl⟩
            replace h := h x27 e_x27
            refine xs_iinc x27 [some (.ref 75), some (.int v1), some (.int v2), some (.int v3), some (.int x27)] dX9_height_91 (by decide) rfl (by rw [e_x27]; rfl) rfl ?_
            refine xs_goto 7 dX9_height_94 (by decide) ?_
            exact xs_loc [some (.ref 75), some (.int v1), some (.int v2), some (.int v3), some (.int x27)] ⟨rfl, ⟨rfl, ⟨rfl, ⟨rfl, ⟨rfl, trivial⟩⟩⟩⟩⟩ (h hR)
          · replace h := h.2 c26
            refine xs_aload_n dX9_height_72 rfl ?_
            refine xs_getR dX9_height_73 fl_X9_73 rfl sc_75 (rt_75_39 hR) ?_
            refine xs_iload dX9_height_76 rfl ?_
            obtain ⟨s28, h⟩ := h
            refine xs_iald dX9_height_78 sc_94 s28 ?_
            refine xs_aload_n dX9_height_79 rfl ?_
            refine xs_getR dX9_height_80 fl_X9_73 rfl sc_75 (rt_75_39 hR) ?_
            refine xs_iload_n dX9_height_83 rfl ?_
            obtain ⟨s29, h⟩ := h
            refine xs_iald dX9_height_84 sc_94 s29 ?_
            refine xs_icmp_ge 91 dX9_height_85 (by decide) (fun c30 => ?_) (fun c30 => ?_)
            · replace h := h.1 c30
              obtain ⟨x31, e_x31⟩ : ∃ z : Int32, z = v4 + nI 1 := ⟨_, rfl⟩
              replace h := h x31 e_x31
              refine xs_iinc x31 [some (.ref 75), some (.int v1), some (.int v2), some (.int v3), some (.int x31)] dX9_height_91 (by decide) rfl (by rw [e_x31]; rfl) rfl ?_
              refine xs_goto 7 dX9_height_94 (by decide) ?_
              exact xs_loc [some (.ref 75), some (.int v1), some (.int v2), some (.int v3), some (.int x31)] ⟨rfl, ⟨rfl, ⟨rfl, ⟨rfl, ⟨rfl, trivial⟩⟩⟩⟩⟩ (h hR)
            · replace h := h.2 c30
              refine xs_iload dX9_height_88 rfl ?_
              refine xs_istore_n [some (.ref 75), some (.int v1), some (.int v2), some (.int v4), some (.int v4)] dX9_height_90 (by decide) rfl ?_
              obtain ⟨x32, e_x32⟩ : ∃ z : Int32, z = v4 + nI 1 := ⟨_, rfl⟩
              replace h := h x32 e_x32
              refine xs_iinc x32 [some (.ref 75), some (.int v1), some (.int v2), some (.int v4), some (.int x32)] dX9_height_91 (by decide) rfl (by rw [e_x32]; rfl) rfl ?_
              refine xs_goto 7 dX9_height_94 (by decide) ?_
              exact xs_loc [some (.ref 75), some (.int v1), some (.int v2), some (.int v4), some (.int x32)] ⟨rfl, ⟨rfl, ⟨rfl, ⟨rfl, ⟨rfl, trivial⟩⟩⟩⟩⟩ (h hR)
        · replace h := h.2 c24
          refine xs_iload dX9_height_58 rfl ?_
          refine xs_istore_n [some (.ref 75), some (.int v1), some (.int v4), some (.int v3), some (.int v4)] dX9_height_60 (by decide) rfl ?_
          refine xs_aload_n dX9_height_61 rfl ?_
          refine xs_getR dX9_height_62 fl_X9_73 rfl sc_75 (rt_75_39 hR) ?_
          refine xs_iload dX9_height_65 rfl ?_
          obtain ⟨s33, h⟩ := h
          refine xs_iald dX9_height_67 sc_94 s33 ?_
          refine xs_iload_n dX9_height_68 rfl ?_
          refine xs_icmp_le 91 dX9_height_69 (by decide) (fun c34 => ?_) (fun c34 => ?_)
          · replace h := h.1 c34
            obtain ⟨x35, e_x35⟩ : ∃ z : Int32, z = v4 + nI 1 := ⟨_, rfl⟩
            replace h := h x35 e_x35
            refine xs_iinc x35 [some (.ref 75), some (.int v1), some (.int v4), some (.int v3), some (.int x35)] dX9_height_91 (by decide) rfl (by rw [e_x35]; rfl) rfl ?_
            refine xs_goto 7 dX9_height_94 (by decide) ?_
            exact xs_loc [some (.ref 75), some (.int v1), some (.int v4), some (.int v3), some (.int x35)] ⟨rfl, ⟨rfl, ⟨rfl, ⟨rfl, ⟨rfl, trivial⟩⟩⟩⟩⟩ (h hR)
          · replace h := h.2 c34
            refine xs_aload_n dX9_height_72 rfl ?_
            refine xs_getR dX9_height_73 fl_X9_73 rfl sc_75 (rt_75_39 hR) ?_
            refine xs_iload dX9_height_76 rfl ?_
            obtain ⟨s36, h⟩ := h
            refine xs_iald dX9_height_78 sc_94 s36 ?_
            refine xs_aload_n dX9_height_79 rfl ?_
            refine xs_getR dX9_height_80 fl_X9_73 rfl sc_75 (rt_75_39 hR) ?_
            refine xs_iload_n dX9_height_83 rfl ?_
            obtain ⟨s37, h⟩ := h
            refine xs_iald dX9_height_84 sc_94 s37 ?_
            refine xs_icmp_ge 91 dX9_height_85 (by decide) (fun c38 => ?_) (fun c38 => ?_)
            · replace h := h.1 c38
              obtain ⟨x39, e_x39⟩ : ∃ z : Int32, z = v4 + nI 1 := ⟨_, rfl⟩
              replace h := h x39 e_x39
              refine xs_iinc x39 [some (.ref 75), some (.int v1), some (.int v4), some (.int v3), some (.int x39)] dX9_height_91 (by decide) rfl (by rw [e_x39]; rfl) rfl ?_
              refine xs_goto 7 dX9_height_94 (by decide) ?_
              exact xs_loc [some (.ref 75), some (.int v1), some (.int v4), some (.int v3), some (.int x39)] ⟨rfl, ⟨rfl, ⟨rfl, ⟨rfl, ⟨rfl, trivial⟩⟩⟩⟩⟩ (h hR)
            · replace h := h.2 c38
              refine xs_iload dX9_height_88 rfl ?_
              refine xs_istore_n [some (.ref 75), some (.int v1), some (.int v4), some (.int v4), some (.int v4)] dX9_height_90 (by decide) rfl ?_
              obtain ⟨x40, e_x40⟩ : ∃ z : Int32, z = v4 + nI 1 := ⟨_, rfl⟩
              replace h := h x40 e_x40
              refine xs_iinc x40 [some (.ref 75), some (.int v1), some (.int v4), some (.int v4), some (.int x40)] dX9_height_91 (by decide) rfl (by rw [e_x40]; rfl) rfl ?_
              refine xs_goto 7 dX9_height_94 (by decide) ?_
              exact xs_loc [some (.ref 75), some (.int v1), some (.int v4), some (.int v4), some (.int x40)] ⟨rfl, ⟨rfl, ⟨rfl, ⟨rfl, ⟨rfl, trivial⟩⟩⟩⟩⟩ (h hR)
    · replace h := h.2 c11
      refine xs_goto 91 dX9_height_28 (by decide) ?_
      obtain ⟨x41, e_x41⟩ : ∃ z : Int32, z = v4 + nI 1 := ⟨_, rfl⟩
      replace h := h x41 e_x41
      refine xs_iinc x41 [some (.ref 75), some (.int v1), some (.int v2), some (.int v3), some (.int x41)] dX9_height_91 (by decide) rfl (by rw [e_x41]; rfl) rfl ?_
      refine xs_goto 7 dX9_height_94 (by decide) ?_
      exact xs_loc [some (.ref 75), some (.int v1), some (.int v2), some (.int v3), some (.int x41)] ⟨rfl, ⟨rfl, ⟨rfl, ⟨rfl, ⟨rfl, trivial⟩⟩⟩⟩⟩ (h hR)
set_option maxHeartbeats 4000000 in
set_option maxRecDepth 100000 in
theorem g_X9_height {b : Bool} {Q : Int64 → xm_M → Prop} {μ : xm_M} (v1 : Int32) 
    (h : hd_X9_height_7 b Q  v1 (nI 0) (nI 1) (nI 0) μ) :
    xCl b b k_X9_height μ [.ref 75, .int v1] Q := by
  intro hR
  refine xm_met [some (.ref 75), some (.int v1), none, none, none] 3 (by decide) (by simp [lg_sl, Value.category]) rfl ?_
  refine xs_iconst (nI 0) dX9_height_0 (by decide) ?_
  refine xs_istore_n [some (.ref 75), some (.int v1), some (.int (nI 0)), none, none] dX9_height_1 (by decide) rfl ?_
  refine xs_iconst (nI 1) dX9_height_2 (by decide) ?_
  refine xs_istore_n [some (.ref 75), some (.int v1), some (.int (nI 0)), some (.int (nI 1)), none] dX9_height_3 (by decide) rfl ?_
  refine xs_iconst (nI 0) dX9_height_4 (by decide) ?_
  refine xs_istore [some (.ref 75), some (.int v1), some (.int (nI 0)), some (.int (nI 1)), some (.int (nI 0))] dX9_height_5 (by decide) rfl ?_
  exact xs_loc [some (.ref 75), some (.int v1), some (.int (nI 0)), some (.int (nI 1)), some (.int (nI 0))] ⟨rfl, ⟨rfl, ⟨rfl, ⟨rfl, ⟨rfl, trivial⟩⟩⟩⟩⟩ (h hR)
abbrev hd_X9_values_9 (b : Bool) (Q : xm_M → Prop)  (v1 : Int32) (v2 : Int32) (v3 : Int32) (v4 : Int32) (v5 : Int64) (v7 : Int32) (μ : xm_M) : Prop := xs_RT b μ → xR k_X9_values none true (fun r _ μ' => xs_RT b μ' ∧ r = none ∧ Q μ') 9 [some (.ref 75), some (.int v1), some (.int v2), some (.int v3), some (.int v4), some (.long v5), none, some (.int v7), none, none] [] xs_sh (0, 0) μ
set_option maxHeartbeats 4000000 in
set_option maxRecDepth 100000 in
theorem l_X9_values_9 {b : Bool} {Q : xm_M → Prop} {μ : xm_M}  (v1 : Int32) (v2 : Int32) (v3 : Int32) (v4 : Int32) (v5 : Int64) (v7 : Int32) 
    (h : vp_in v1 8 ∧
      (((μ.1 83 (v1).toNatClampNeg) ≤ v7 →
       Q μ) ∧
      (¬ (μ.1 83 (v1).toNatClampNeg) ≤ v7 →
       ¬ v4 = 0 ∧
       vp_in v1 8 ∧
       ¬ (μ.1 90 (v1).toNatClampNeg) = 0 ∧
       vp_in (((nI 64) * v1) + ((v2 / v4) - (v2 / v4) / (μ.1 90 (v1).toNatClampNeg) * (μ.1 90 (v1).toNatClampNeg))) 512 ∧
       vp_in v1 8 ∧
       vp_in v1 8 ∧
       vp_in v1 8 ∧
       (((μ.1 89 (v1).toNatClampNeg) = 0 →
        ∀ x11 : Int64, x11 = (((((μ.1 91 ((((nI 64) * v1) + ((v2 / v4) - (v2 / v4) / (μ.1 90 (v1).toNatClampNeg) * (μ.1 90 (v1).toNatClampNeg)))).toNatClampNeg)).toInt64 * ((μ.1 88 (v1).toNatClampNeg)).toInt64) + ((μ.1 87 (v1).toNatClampNeg)).toInt64) + (0 : Int64)) →
        vp_in (v3 + v7) 32 ∧
        ∀ m13 : xm_M, m13 = xu_L μ 101 (vp_updL (μ.2.1 101) ((v3 + v7)).toNatClampNeg x11) →
        vp_in v1 8 ∧
        ∀ x15 : Int32, x15 = (v4 * (m13.1 90 (v1).toNatClampNeg)) →
        ∀ x16 : Int32, x16 = v7 + nI 1 →
        hd_X9_values_9 b Q  v1 v2 v3 x15 x11 x16 m13) ∧
       (¬ (μ.1 89 (v1).toNatClampNeg) = 0 →
        ∀ x17 : Int64, x17 = (((((μ.1 91 ((((nI 64) * v1) + ((v2 / v4) - (v2 / v4) / (μ.1 90 (v1).toNatClampNeg) * (μ.1 90 (v1).toNatClampNeg)))).toNatClampNeg)).toInt64 * ((μ.1 88 (v1).toNatClampNeg)).toInt64) + ((μ.1 87 (v1).toNatClampNeg)).toInt64) + v5) →
        vp_in (v3 + v7) 32 ∧
        ∀ m19 : xm_M, m19 = xu_L μ 101 (vp_updL (μ.2.1 101) ((v3 + v7)).toNatClampNeg x17) →
        vp_in v1 8 ∧
        ∀ x21 : Int32, x21 = (v4 * (m19.1 90 (v1).toNatClampNeg)) →
        ∀ x22 : Int32, x22 = v7 + nI 1 →
        hd_X9_values_9 b Q  v1 v2 v3 x21 x17 x22 m19))))) :
    hd_X9_values_9 b Q  v1 v2 v3 v4 v5 v7 μ := by
  intro hR
  refine xs_iload dX9_values_9 rfl ?_
  refine xs_aload_n dX9_values_11 rfl ?_
  refine xs_getR dX9_values_12 fl_X9_38 rfl sc_75 (rt_75_20 hR) ?_
  refine xs_iload_n dX9_values_15 rfl ?_
  obtain ⟨s1, h⟩ := h
  refine xs_iald dX9_values_16 sc_83 s1 ?_
  refine xs_icmp_ge 108 dX9_values_17 (by decide) (fun c2 => ?_) (fun c2 => ?_)
  · replace h := h.1 c2
    exact xs_ret none dX9_values_108 trivial rfl ⟨hR, rfl, h⟩
  · replace h := h.2 c2
    refine xs_aload_n dX9_values_20 rfl ?_
    refine xs_getR dX9_values_21 fl_X9_63 rfl sc_75 (rt_75_28 hR) ?_
    refine xs_bipush (nI 64) dX9_values_24 (by decide) ?_
    refine xs_iload_n dX9_values_26 rfl ?_
    refine xs_imul dX9_values_27 ?_
    refine xs_iload_n dX9_values_28 rfl ?_
    refine xs_iload dX9_values_29 rfl ?_
    obtain ⟨s3, h⟩ := h
    refine xs_idiv dX9_values_31 s3 ?_
    refine xs_aload_n dX9_values_32 rfl ?_
    refine xs_getR dX9_values_33 fl_X9_60 rfl sc_75 (rt_75_27 hR) ?_
    refine xs_iload_n dX9_values_36 rfl ?_
    obtain ⟨s4, h⟩ := h
    refine xs_iald dX9_values_37 sc_90 s4 ?_
    obtain ⟨s5, h⟩ := h
    refine xs_irem dX9_values_38 s5 ?_
    refine xs_iadd dX9_values_39 ?_
    obtain ⟨s6, h⟩ := h
    refine xs_iald dX9_values_40 sc_91 s6 ?_
    refine xs_i2l dX9_values_41 ?_
    refine xs_aload_n dX9_values_42 rfl ?_
    refine xs_getR dX9_values_43 fl_X9_54 rfl sc_75 (rt_75_25 hR) ?_
    refine xs_iload_n dX9_values_46 rfl ?_
    obtain ⟨s7, h⟩ := h
    refine xs_iald dX9_values_47 sc_88 s7 ?_
    refine xs_i2l dX9_values_48 ?_
    refine xs_lmul dX9_values_49 ?_
    refine xs_aload_n dX9_values_50 rfl ?_
    refine xs_getR dX9_values_51 fl_X9_51 rfl sc_75 (rt_75_24 hR) ?_
    refine xs_iload_n dX9_values_54 rfl ?_
    obtain ⟨s8, h⟩ := h
    refine xs_iald dX9_values_55 sc_87 s8 ?_
    refine xs_i2l dX9_values_56 ?_
    refine xs_ladd dX9_values_57 ?_
    refine xs_aload_n dX9_values_58 rfl ?_
    refine xs_getR dX9_values_59 fl_X9_57 rfl sc_75 (rt_75_26 hR) ?_
    refine xs_iload_n dX9_values_62 rfl ?_
    obtain ⟨s9, h⟩ := h
    refine xs_zald dX9_values_63 sc_89 s9 ?_
    refine xs_if_eq 72 dX9_values_64 (by decide) (fun c10 => ?_) (fun c10 => ?_)
    · replace h := h.1 c10
      refine xs_lconst (0 : Int64) dX9_values_72 (by decide) ?_
      refine xs_ladd dX9_values_73 ?_
      refine xs_nmL (fun x11 e_x11 => ?_)
      replace h := h x11 e_x11
      refine xs_lstore [some (.ref 75), some (.int v1), some (.int v2), some (.int v3), some (.int v4), some (.long v5), none, some (.int v7), some (.long x11), none] dX9_values_74 (by decide) rfl ?_
      refine xs_aload_n dX9_values_76 rfl ?_
      refine xs_getR dX9_values_77 fl_X9_94 rfl sc_75 (rt_75_46 hR) ?_
      refine xs_iload_n dX9_values_80 rfl ?_
      refine xs_iload dX9_values_81 rfl ?_
      refine xs_iadd dX9_values_83 ?_
      refine xs_lload dX9_values_84 rfl ?_
      obtain ⟨s12, h⟩ := h
      refine xs_last dX9_values_86 sc_101 s12 ?_
      refine xs_nmM (fun m13 e_m13 => ?_)
      replace h := h m13 e_m13
      have hR : xs_RT b m13 := by rw [e_m13]; exact hR
      refine xs_lload dX9_values_87 rfl ?_
      refine xs_lstore [some (.ref 75), some (.int v1), some (.int v2), some (.int v3), some (.int v4), some (.long x11), none, some (.int v7), some (.long x11), none] dX9_values_89 (by decide) rfl ?_
      refine xs_iload dX9_values_91 rfl ?_
      refine xs_aload_n dX9_values_93 rfl ?_
      refine xs_getR dX9_values_94 fl_X9_60 rfl sc_75 (rt_75_27 hR) ?_
      refine xs_iload_n dX9_values_97 rfl ?_
      obtain ⟨s14, h⟩ := h
      refine xs_iald dX9_values_98 sc_90 s14 ?_
      refine xs_imul dX9_values_99 ?_
      refine xs_nmI (fun x15 e_x15 => ?_)
      replace h := h x15 e_x15
      refine xs_istore [some (.ref 75), some (.int v1), some (.int v2), some (.int v3), some (.int x15), some (.long x11), none, some (.int v7), some (.long x11), none] dX9_values_100 (by decide) rfl ?_
      obtain ⟨x16, e_x16⟩ : ∃ z : Int32, z = v7 + nI 1 := ⟨_, rfl⟩
      replace h := h x16 e_x16
      refine xs_iinc x16 [some (.ref 75), some (.int v1), some (.int v2), some (.int v3), some (.int x15), some (.long x11), none, some (.int x16), some (.long x11), none] dX9_values_102 (by decide) rfl (by rw [e_x16]; rfl) rfl ?_
      refine xs_goto 9 dX9_values_105 (by decide) ?_
      exact xs_loc [some (.ref 75), some (.int v1), some (.int v2), some (.int v3), some (.int x15), some (.long x11), none, some (.int x16), none, none] ⟨rfl, ⟨rfl, ⟨rfl, ⟨rfl, ⟨rfl, ⟨rfl, ⟨rfl, trivial⟩⟩⟩⟩⟩⟩⟩ (h hR)
    · replace h := h.2 c10
      refine xs_lload dX9_values_67 rfl ?_
      refine xs_goto 73 dX9_values_69 (by decide) ?_
      refine xs_ladd dX9_values_73 ?_
      refine xs_nmL (fun x17 e_x17 => ?_)
      replace h := h x17 e_x17
      refine xs_lstore [some (.ref 75), some (.int v1), some (.int v2), some (.int v3), some (.int v4), some (.long v5), none, some (.int v7), some (.long x17), none] dX9_values_74 (by decide) rfl ?_
      refine xs_aload_n dX9_values_76 rfl ?_
      refine xs_getR dX9_values_77 fl_X9_94 rfl sc_75 (rt_75_46 hR) ?_
      refine xs_iload_n dX9_values_80 rfl ?_
      refine xs_iload dX9_values_81 rfl ?_
      refine xs_iadd dX9_values_83 ?_
      refine xs_lload dX9_values_84 rfl ?_
      obtain ⟨s18, h⟩ := h
      refine xs_last dX9_values_86 sc_101 s18 ?_
      refine xs_nmM (fun m19 e_m19 => ?_)
      replace h := h m19 e_m19
      have hR : xs_RT b m19 := by rw [e_m19]; exact hR
      refine xs_lload dX9_values_87 rfl ?_
      refine xs_lstore [some (.ref 75), some (.int v1), some (.int v2), some (.int v3), some (.int v4), some (.long x17), none, some (.int v7), some (.long x17), none] dX9_values_89 (by decide) rfl ?_
      refine xs_iload dX9_values_91 rfl ?_
      refine xs_aload_n dX9_values_93 rfl ?_
      refine xs_getR dX9_values_94 fl_X9_60 rfl sc_75 (rt_75_27 hR) ?_
      refine xs_iload_n dX9_values_97 rfl ?_
      obtain ⟨s20, h⟩ := h
      refine xs_iald dX9_values_98 sc_90 s20 ?_
      refine xs_imul dX9_values_99 ?_
      refine xs_nmI (fun x21 e_x21 => ?_)
      replace h := h x21 e_x21
      refine xs_istore [some (.ref 75), some (.int v1), some (.int v2), some (.int v3), some (.int x21), some (.long x17), none, some (.int v7), some (.long x17), none] dX9_values_100 (by decide) rfl ?_
      obtain ⟨x22, e_x22⟩ : ∃ z : Int32, z = v7 + nI 1 := ⟨_, rfl⟩
      replace h := h x22 e_x22
      refine xs_iinc x22 [some (.ref 75), some (.int v1), some (.int v2), some (.int v3), some (.int x21), some (.long x17), none, some (.int x22), some (.long x17), none] dX9_values_102 (by decide) rfl (by rw [e_x22]; rfl) rfl ?_
      refine xs_goto 9 dX9_values_105 (by decide) ?_
      exact xs_loc [some (.ref 75), some (.int v1), some (.int v2), some (.int v3), some (.int x21), some (.long x17), none, some (.int x22), none, none] ⟨rfl, ⟨rfl, ⟨rfl, ⟨rfl, ⟨rfl, ⟨rfl, ⟨rfl, trivial⟩⟩⟩⟩⟩⟩⟩ (h hR)
set_option maxHeartbeats 4000000 in
set_option maxRecDepth 100000 in
theorem g_X9_values {b : Bool} {Q : xm_M → Prop} {μ : xm_M} (v1 : Int32) (v2 : Int32) (v3 : Int32) 
    (h : hd_X9_values_9 b Q  v1 v2 v3 (nI 1) (0 : Int64) (nI 0) μ) :
    xCv b b k_X9_values μ [.ref 75, .int v1, .int v2, .int v3] Q := by
  intro hR
  refine xm_met [some (.ref 75), some (.int v1), some (.int v2), some (.int v3), none, none, none, none, none, none] 6 (by decide) (by simp [lg_sl, Value.category]) rfl ?_
  refine xs_iconst (nI 1) dX9_values_0 (by decide) ?_
  refine xs_istore [some (.ref 75), some (.int v1), some (.int v2), some (.int v3), some (.int (nI 1)), none, none, none, none, none] dX9_values_1 (by decide) rfl ?_
  refine xs_lconst (0 : Int64) dX9_values_3 (by decide) ?_
  refine xs_lstore [some (.ref 75), some (.int v1), some (.int v2), some (.int v3), some (.int (nI 1)), some (.long (0 : Int64)), none, none, none, none] dX9_values_4 (by decide) rfl ?_
  refine xs_iconst (nI 0) dX9_values_6 (by decide) ?_
  refine xs_istore [some (.ref 75), some (.int v1), some (.int v2), some (.int v3), some (.int (nI 1)), some (.long (0 : Int64)), none, some (.int (nI 0)), none, none] dX9_values_7 (by decide) rfl ?_
  exact xs_loc [some (.ref 75), some (.int v1), some (.int v2), some (.int v3), some (.int (nI 1)), some (.long (0 : Int64)), none, some (.int (nI 0)), none, none] ⟨rfl, ⟨rfl, ⟨rfl, ⟨rfl, ⟨rfl, ⟨rfl, ⟨rfl, trivial⟩⟩⟩⟩⟩⟩⟩ (h hR)
