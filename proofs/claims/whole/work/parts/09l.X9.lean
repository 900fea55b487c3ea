/-! walks of l.X9, printed by wip/gen/mkwalk.py -/
abbrev hd_X9_rests_2 (b : Bool) (Q : xm_M → Prop)  (v1 : Int32) (v2 : Int32) (μ : xm_M) : Prop := xs_RT b μ → xR k_X9_rests none true (fun r _ μ' => xs_RT b μ' ∧ r = none ∧ Q μ') 2 [some (.ref 75), some (.int v1), some (.int v2), none, none, none, none] [] xs_sh (0, 0) μ
abbrev hd_X9_rests_41 (b : Bool) (Q : xm_M → Prop)  (v1 : Int32) (v2 : Int32) (v4 : Int32) (v5 : Int32) (μ : xm_M) : Prop := xs_RT b μ → xR k_X9_rests none true (fun r _ μ' => xs_RT b μ' ∧ r = none ∧ Q μ') 41 [some (.ref 75), some (.int v1), some (.int v2), none, some (.int v4), some (.int v5), none] [] xs_sh (0, 0) μ
set_option maxHeartbeats 4000000 in
set_option maxRecDepth 100000 in
theorem l_X9_rests_2 {b : Bool} {Q : xm_M → Prop} {μ : xm_M}  (v1 : Int32) (v2 : Int32) 
    (h : (((nI 16) ≤ v2 →
       Q μ) ∧
      (¬ (nI 16) ≤ v2 →
       ∃ Q2 : Int32 → xm_M → Prop, xCi b b k_X9_entry μ [.ref 75, .int (μ.1 75 37)] Q2 ∧
       ∀ (r4 : Int32) (m3 : xm_M), Q2 r4 m3 →
       (((m3.1 75 17) = 0 →
        ¬ (m3.1 75 36) = 0 ∧
        vp_in (r4 - r4 / (m3.1 75 36) * (m3.1 75 36)) 4 ∧
        hd_X9_rests_41 b Q  v1 v2 (m3.1 95 ((r4 - r4 / (m3.1 75 36) * (m3.1 75 36))).toNatClampNeg) (nI 0) m3) ∧
       (¬ (m3.1 75 17) = 0 →
        Q m3))))) :
    hd_X9_rests_2 b Q  v1 v2 μ := by
  intro hR
  refine xs_iload_n dX9_rests_2 rfl ?_
  refine xs_bipush (nI 16) dX9_rests_3 (by decide) ?_
  refine xs_icmp_ge 113 dX9_rests_5 (by decide) (fun c1 => ?_) (fun c1 => ?_)
  · replace h := h.1 c1
    exact xs_ret none dX9_rests_113 trivial rfl ⟨hR, rfl, h⟩
  · replace h := h.2 c1
    refine xs_aload_n dX9_rests_8 rfl ?_
    refine xs_aload_n dX9_rests_9 rfl ?_
    refine xs_getI dX9_rests_10 fl_X9_237.g rfl sc_75 ?_
    obtain ⟨Q2, hQ2, h⟩ := h
    refine xs_callV (j := k_X9_entry) (As := [.int (μ.1 75 37)]) (S := []) dX9_rests_13 (hQ2 hR) ⟨ml_X9_249, mk_X9_entry.1, mk_X9_entry.2.1, mk_X9_entry.2.2⟩ mv_X9_entry ⟨Nat.le_of_ble_eq_true rfl, Nat.le_of_ble_eq_true rfl⟩ rfl (Nat.le_of_ble_eq_true rfl) sc_75 rfl ⟨rfl, rfl⟩ (fun rr m3 hq5 => ?_)
    obtain ⟨hR, r4, rfl, hq5⟩ := hq5
    replace h := h r4 m3 hq5
    refine xs_istore_n [some (.ref 75), some (.int v1), some (.int v2), some (.int r4), none, none, none] dX9_rests_16 (by decide) rfl ?_
    refine xs_aload_n dX9_rests_17 rfl ?_
    refine xs_getI dX9_rests_18 fl_X9_174.g rfl sc_75 ?_
    refine xs_if_eq 25 dX9_rests_21 (by decide) (fun c6 => ?_) (fun c6 => ?_)
    · replace h := h.1 c6
      refine xs_aload_n dX9_rests_25 rfl ?_
      refine xs_getR dX9_rests_26 fl_X9_76 rfl sc_75 (rt_75_40 hR) ?_
      refine xs_iload_n dX9_rests_29 rfl ?_
      refine xs_aload_n dX9_rests_30 rfl ?_
      refine xs_getI dX9_rests_31 fl_X9_234.g rfl sc_75 ?_
      obtain ⟨s7, h⟩ := h
      refine xs_irem dX9_rests_34 s7 ?_
      obtain ⟨s8, h⟩ := h
      refine xs_iald dX9_rests_35 sc_95 s8 ?_
      refine xs_istore [some (.ref 75), some (.int v1), some (.int v2), some (.int r4), some (.int (m3.1 95 ((r4 - r4 / (m3.1 75 36) * (m3.1 75 36))).toNatClampNeg)), none, none] dX9_rests_36 (by decide) rfl ?_
      refine xs_iconst (nI 0) dX9_rests_38 (by decide) ?_
      refine xs_istore [some (.ref 75), some (.int v1), some (.int v2), some (.int r4), some (.int (m3.1 95 ((r4 - r4 / (m3.1 75 36) * (m3.1 75 36))).toNatClampNeg)), some (.int (nI 0)), none] dX9_rests_39 (by decide) rfl ?_
      exact xs_loc [some (.ref 75), some (.int v1), some (.int v2), none, some (.int (m3.1 95 ((r4 - r4 / (m3.1 75 36) * (m3.1 75 36))).toNatClampNeg)), some (.int (nI 0)), none] ⟨rfl, ⟨rfl, ⟨rfl, ⟨rfl, ⟨rfl, trivial⟩⟩⟩⟩⟩ (h hR)
    · replace h := h.2 c6
      exact xs_ret none dX9_rests_24 trivial rfl ⟨hR, rfl, h⟩
set_option maxHeartbeats 4000000 in
set_option maxRecDepth 100000 in
theorem l_X9_rests_41 {b : Bool} {Q : xm_M → Prop} {μ : xm_M}  (v1 : Int32) (v2 : Int32) (v4 : Int32) (v5 : Int32) 
    (h : ((v4 < 0 →
       ∀ x2 : Int32, x2 = (v2 + (μ.1 75 35)) →
       hd_X9_rests_2 b Q  v1 x2 μ) ∧
      (¬ v4 < 0 →
       (((μ.1 75 35) ≤ v5 →
        ∀ x4 : Int32, x4 = (v2 + (μ.1 75 35)) →
        hd_X9_rests_2 b Q  v1 x4 μ) ∧
       (¬ (μ.1 75 35) ≤ v5 →
        ∃ Q5 : Int32 → xm_M → Prop, xCi b b k_X9_entry μ [.ref 75, .int v4] Q5 ∧
        ∀ (r7 : Int32) (m6 : xm_M), Q5 r7 m6 →
        (((m6.1 75 17) = 0 →
         ∃ Q10 : xm_M → Prop, xCv b b k_X9_values m6 [.ref 75, .int v4, .int r7, .int ((((nI 16) * v1) + v2) + v5)] Q10 ∧
         ∀ m11 : xm_M, Q10 m11 →
         vp_in v4 8 ∧
         ∀ x15 : Int32, x15 = (v5 + (m11.1 83 (v4).toNatClampNeg)) →
         hd_X9_rests_41 b Q  v1 v2 v4 x15 m11) ∧
        (¬ (m6.1 75 17) = 0 →
         Q m6))))))) :
    hd_X9_rests_41 b Q  v1 v2 v4 v5 μ := by
  intro hR
  refine xs_iload dX9_rests_41 rfl ?_
  refine xs_if_lt 103 dX9_rests_43 (by decide) (fun c1 => ?_) (fun c1 => ?_)
  · replace h := h.1 c1
    refine xs_iload_n dX9_rests_103 rfl ?_
    refine xs_aload_n dX9_rests_104 rfl ?_
    refine xs_getI dX9_rests_105 fl_X9_231.g rfl sc_75 ?_
    refine xs_iadd dX9_rests_108 ?_
    refine xs_nmI (fun x2 e_x2 => ?_)
    replace h := h x2 e_x2
    refine xs_istore_n [some (.ref 75), some (.int v1), some (.int x2), none, some (.int v4), some (.int v5), none] dX9_rests_109 (by decide) rfl ?_
    refine xs_goto 2 dX9_rests_110 (by decide) ?_
    exact xs_loc [some (.ref 75), some (.int v1), some (.int x2), none, none, none, none] ⟨rfl, ⟨rfl, ⟨rfl, trivial⟩⟩⟩ (h hR)
  · replace h := h.2 c1
    refine xs_iload dX9_rests_46 rfl ?_
    refine xs_aload_n dX9_rests_48 rfl ?_
    refine xs_getI dX9_rests_49 fl_X9_231.g rfl sc_75 ?_
    refine xs_icmp_ge 103 dX9_rests_52 (by decide) (fun c3 => ?_) (fun c3 => ?_)
    · replace h := h.1 c3
      refine xs_iload_n dX9_rests_103 rfl ?_
      refine xs_aload_n dX9_rests_104 rfl ?_
      refine xs_getI dX9_rests_105 fl_X9_231.g rfl sc_75 ?_
      refine xs_iadd dX9_rests_108 ?_
      refine xs_nmI (fun x4 e_x4 => ?_)
      replace h := h x4 e_x4
      refine xs_istore_n [some (.ref 75), some (.int v1), some (.int x4), none, some (.int v4), some (.int v5), none] dX9_rests_109 (by decide) rfl ?_
      refine xs_goto 2 dX9_rests_110 (by decide) ?_
      exact xs_loc [some (.ref 75), some (.int v1), some (.int x4), none, none, none, none] ⟨rfl, ⟨rfl, ⟨rfl, trivial⟩⟩⟩ (h hR)
    · replace h := h.2 c3
      refine xs_aload_n dX9_rests_55 rfl ?_
      refine xs_iload dX9_rests_56 rfl ?_
      obtain ⟨Q5, hQ5, h⟩ := h
      refine xs_callV (j := k_X9_entry) (As := [.int v4]) (S := []) dX9_rests_58 (hQ5 hR) ⟨ml_X9_249, mk_X9_entry.1, mk_X9_entry.2.1, mk_X9_entry.2.2⟩ mv_X9_entry ⟨Nat.le_of_ble_eq_true rfl, Nat.le_of_ble_eq_true rfl⟩ rfl (Nat.le_of_ble_eq_true rfl) sc_75 rfl ⟨rfl, rfl⟩ (fun rr m6 hq8 => ?_)
      obtain ⟨hR, r7, rfl, hq8⟩ := hq8
      replace h := h r7 m6 hq8
      refine xs_istore [some (.ref 75), some (.int v1), some (.int v2), none, some (.int v4), some (.int v5), some (.int r7)] dX9_rests_61 (by decide) rfl ?_
      refine xs_aload_n dX9_rests_63 rfl ?_
      refine xs_getI dX9_rests_64 fl_X9_174.g rfl sc_75 ?_
      refine xs_if_eq 71 dX9_rests_67 (by decide) (fun c9 => ?_) (fun c9 => ?_)
      · replace h := h.1 c9
        refine xs_aload_n dX9_rests_71 rfl ?_
        refine xs_iload dX9_rests_72 rfl ?_
        refine xs_iload dX9_rests_74 rfl ?_
        refine xs_bipush (nI 16) dX9_rests_76 (by decide) ?_
        refine xs_iload_n dX9_rests_78 rfl ?_
        refine xs_imul dX9_rests_79 ?_
        refine xs_iload_n dX9_rests_80 rfl ?_
        refine xs_iadd dX9_rests_81 ?_
        refine xs_iload dX9_rests_82 rfl ?_
        refine xs_iadd dX9_rests_84 ?_
        obtain ⟨Q10, hQ10, h⟩ := h
        refine xs_callV (j := k_X9_values) (As := [.int v4, .int r7, .int ((((nI 16) * v1) + v2) + v5)]) (S := []) dX9_rests_85 (hQ10 hR) ⟨ml_X9_267, mk_X9_values.1, mk_X9_values.2.1, mk_X9_values.2.2⟩ mv_X9_values ⟨Nat.le_of_ble_eq_true rfl, Nat.le_of_ble_eq_true rfl⟩ rfl (Nat.le_of_ble_eq_true rfl) sc_75 rfl ⟨rfl, rfl⟩ (fun rr m11 hq13 => ?_)
        obtain ⟨hR, rfl, hq13⟩ := hq13
        replace h := h m11 hq13
        refine xs_iload dX9_rests_88 rfl ?_
        refine xs_aload_n dX9_rests_90 rfl ?_
        refine xs_getR dX9_rests_91 fl_X9_38 rfl sc_75 (rt_75_20 hR) ?_
        refine xs_iload dX9_rests_94 rfl ?_
        obtain ⟨s14, h⟩ := h
        refine xs_iald dX9_rests_96 sc_83 s14 ?_
        refine xs_iadd dX9_rests_97 ?_
        refine xs_nmI (fun x15 e_x15 => ?_)
        replace h := h x15 e_x15
        refine xs_istore [some (.ref 75), some (.int v1), some (.int v2), none, some (.int v4), some (.int x15), some (.int r7)] dX9_rests_98 (by decide) rfl ?_
        refine xs_goto 41 dX9_rests_100 (by decide) ?_
        exact xs_loc [some (.ref 75), some (.int v1), some (.int v2), none, some (.int v4), some (.int x15), none] ⟨rfl, ⟨rfl, ⟨rfl, ⟨rfl, ⟨rfl, trivial⟩⟩⟩⟩⟩ (h hR)
      · replace h := h.2 c9
        exact xs_ret none dX9_rests_70 trivial rfl ⟨hR, rfl, h⟩
set_option maxHeartbeats 4000000 in
set_option maxRecDepth 100000 in
theorem g_X9_rests {b : Bool} {Q : xm_M → Prop} {μ : xm_M} (v1 : Int32) 
    (h : hd_X9_rests_2 b Q  v1 (nI 0) μ) :
    xCv b b k_X9_rests μ [.ref 75, .int v1] Q := by
  intro hR
  refine xm_met [some (.ref 75), some (.int v1), none, none, none, none, none] 5 (by decide) (by simp [lg_sl, Value.category]) rfl ?_
  refine xs_iconst (nI 0) dX9_rests_0 (by decide) ?_
  refine xs_istore_n [some (.ref 75), some (.int v1), some (.int (nI 0)), none, none, none, none] dX9_rests_1 (by decide) rfl ?_
  exact xs_loc [some (.ref 75), some (.int v1), some (.int (nI 0)), none, none, none, none] ⟨rfl, ⟨rfl, ⟨rfl, trivial⟩⟩⟩ (h hR)
abbrev hd_X9_leans_2 (b : Bool) (Q : xm_M → Prop)  (v1 : Int32) (μ : xm_M) : Prop := xs_RT b μ → xR k_X9_leans none true (fun r _ μ' => xs_RT b μ' ∧ r = none ∧ Q μ') 2 [some (.ref 75), some (.int v1), none, none, none, none, none, none, none] [] xs_sh (0, 0) μ
set_option maxHeartbeats 4000000 in
set_option maxRecDepth 100000 in
theorem l_X9_leans_2 {b : Bool} {Q : xm_M → Prop} {μ : xm_M}  (v1 : Int32) 
    (h : (((nI 16) ≤ v1 →
       Q μ) ∧
      (¬ (nI 16) ≤ v1 →
       vp_in v1 32 ∧
       vp_in ((nI 16) + v1) 32 ∧
       ((0 < (lg_cmp (μ.2.1 101 (((nI 16) + v1)).toNatClampNeg) (0 : Int64)) →
        (((lg_cmp (μ.2.1 101 (v1).toNatClampNeg) (0 : Int64)) ≤ 0 →
         (((lg_cmp (μ.2.1 101 (((nI 16) + v1)).toNatClampNeg) (0 : Int64)) ≤ 0 →
          ∀ x8 : Int64, x8 = ((μ.2.1 101 (v1).toNatClampNeg) - (μ.2.1 101 (((nI 16) + v1)).toNatClampNeg)) →
          vp_in v1 32 ∧
          ∀ m11 : xm_M, m11 = xu_L μ 101 (vp_updL (μ.2.1 101) (v1).toNatClampNeg (μ.2.1 101 (v1).toNatClampNeg)) →
          vp_in ((nI 16) + v1) 32 ∧
          ∀ m14 : xm_M, m14 = xu_L m11 101 (vp_updL (m11.2.1 101) (((nI 16) + v1)).toNatClampNeg x8) →
          ∀ x15 : Int32, x15 = v1 + nI 1 →
          hd_X9_leans_2 b Q  x15 m14) ∧
         (¬ (lg_cmp (μ.2.1 101 (((nI 16) + v1)).toNatClampNeg) (0 : Int64)) ≤ 0 →
          ∀ x17 : Int64, x17 = ((μ.2.1 101 (v1).toNatClampNeg) + (μ.2.1 101 (((nI 16) + v1)).toNatClampNeg)) →
          vp_in v1 32 ∧
          ∀ m20 : xm_M, m20 = xu_L μ 101 (vp_updL (μ.2.1 101) (v1).toNatClampNeg (μ.2.1 101 (v1).toNatClampNeg)) →
          vp_in ((nI 16) + v1) 32 ∧
          ∀ m23 : xm_M, m23 = xu_L m20 101 (vp_updL (m20.2.1 101) (((nI 16) + v1)).toNatClampNeg x17) →
          ∀ x24 : Int32, x24 = v1 + nI 1 →
          hd_X9_leans_2 b Q  x24 m23))) ∧
        (¬ (lg_cmp (μ.2.1 101 (v1).toNatClampNeg) (0 : Int64)) ≤ 0 →
         (((lg_cmp (μ.2.1 101 (((nI 16) + v1)).toNatClampNeg) (0 : Int64)) ≤ 0 →
          ∀ x27 : Int64, x27 = ((μ.2.1 101 (v1).toNatClampNeg) + (μ.2.1 101 (((nI 16) + v1)).toNatClampNeg)) →
          vp_in v1 32 ∧
          ∀ m30 : xm_M, m30 = xu_L μ 101 (vp_updL (μ.2.1 101) (v1).toNatClampNeg (μ.2.1 101 (v1).toNatClampNeg)) →
          vp_in ((nI 16) + v1) 32 ∧
          ∀ m33 : xm_M, m33 = xu_L m30 101 (vp_updL (m30.2.1 101) (((nI 16) + v1)).toNatClampNeg x27) →
          ∀ x34 : Int32, x34 = v1 + nI 1 →
          hd_X9_leans_2 b Q  x34 m33) ∧
         (¬ (lg_cmp (μ.2.1 101 (((nI 16) + v1)).toNatClampNeg) (0 : Int64)) ≤ 0 →
          ∀ x36 : Int64, x36 = ((μ.2.1 101 (v1).toNatClampNeg) - (μ.2.1 101 (((nI 16) + v1)).toNatClampNeg)) →
          vp_in v1 32 ∧
          ∀ m39 : xm_M, m39 = xu_L μ 101 (vp_updL (μ.2.1 101) (v1).toNatClampNeg (μ.2.1 101 (v1).toNatClampNeg)) →
          vp_in ((nI 16) + v1) 32 ∧
          ∀ m42 : xm_M, m42 = xu_L m39 101 (vp_updL (m39.2.1 101) (((nI 16) + v1)).toNatClampNeg x36) →
          ∀ x43 : Int32, x43 = v1 + nI 1 →
          hd_X9_leans_2 b Q  x43 m42))))) ∧
       (¬ 0 < (lg_cmp (μ.2.1 101 (((nI 16) + v1)).toNatClampNeg) (0 : Int64)) →
        (((lg_cmp (μ.2.1 101 (v1).toNatClampNeg) (0 : Int64)) ≤ 0 →
         (((lg_cmp (μ.2.1 101 (((nI 16) + v1)).toNatClampNeg) (0 : Int64)) ≤ 0 →
          ∀ x47 : Int64, x47 = ((μ.2.1 101 (v1).toNatClampNeg) - (μ.2.1 101 (((nI 16) + v1)).toNatClampNeg)) →
          vp_in v1 32 ∧
          ∀ m50 : xm_M, m50 = xu_L μ 101 (vp_updL (μ.2.1 101) (v1).toNatClampNeg x47) →
          vp_in ((nI 16) + v1) 32 ∧
          ∀ m53 : xm_M, m53 = xu_L m50 101 (vp_updL (m50.2.1 101) (((nI 16) + v1)).toNatClampNeg (μ.2.1 101 (v1).toNatClampNeg)) →
          ∀ x54 : Int32, x54 = v1 + nI 1 →
          hd_X9_leans_2 b Q  x54 m53) ∧
         (¬ (lg_cmp (μ.2.1 101 (((nI 16) + v1)).toNatClampNeg) (0 : Int64)) ≤ 0 →
          ∀ x56 : Int64, x56 = ((μ.2.1 101 (v1).toNatClampNeg) + (μ.2.1 101 (((nI 16) + v1)).toNatClampNeg)) →
          vp_in v1 32 ∧
          ∀ m59 : xm_M, m59 = xu_L μ 101 (vp_updL (μ.2.1 101) (v1).toNatClampNeg x56) →
          vp_in ((nI 16) + v1) 32 ∧
          ∀ m62 : xm_M, m62 = xu_L m59 101 (vp_updL (m59.2.1 101) (((nI 16) + v1)).toNatClampNeg (μ.2.1 101 (v1).toNatClampNeg)) →
          ∀ x63 : Int32, x63 = v1 + nI 1 →
          hd_X9_leans_2 b Q  x63 m62))) ∧
        (¬ (lg_cmp (μ.2.1 101 (v1).toNatClampNeg) (0 : Int64)) ≤ 0 →
         (((lg_cmp (μ.2.1 101 (((nI 16) + v1)).toNatClampNeg) (0 : Int64)) ≤ 0 →
          ∀ x66 : Int64, x66 = ((μ.2.1 101 (v1).toNatClampNeg) + (μ.2.1 101 (((nI 16) + v1)).toNatClampNeg)) →
          vp_in v1 32 ∧
          ∀ m69 : xm_M, m69 = xu_L μ 101 (vp_updL (μ.2.1 101) (v1).toNatClampNeg x66) →
          vp_in ((nI 16) + v1) 32 ∧
          ∀ m72 : xm_M, m72 = xu_L m69 101 (vp_updL (m69.2.1 101) (((nI 16) + v1)).toNatClampNeg (μ.2.1 101 (v1).toNatClampNeg)) →
          ∀ x73 : Int32, x73 = v1 + nI 1 →
          hd_X9_leans_2 b Q  x73 m72) ∧
         (¬ (lg_cmp (μ.2.1 101 (((nI 16) + v1)).toNatClampNeg) (0 : Int64)) ≤ 0 →
          ∀ x75 : Int64, x75 = ((μ.2.1 101 (v1).toNatClampNeg) - (μ.2.1 101 (((nI 16) + v1)).toNatClampNeg)) →
          vp_in v1 32 ∧
          ∀ m78 : xm_M, m78 = xu_L μ 101 (vp_updL (μ.2.1 101) (v1).toNatClampNeg x75) →
          vp_in ((nI 16) + v1) 32 ∧
          ∀ m81 : xm_M, m81 = xu_L m78 101 (vp_updL (m78.2.1 101) (((nI 16) + v1)).toNatClampNeg (μ.2.1 101 (v1).toNatClampNeg)) →
          ∀ x82 : Int32, x82 = v1 + nI 1 →
          hd_X9_leans_2 b Q  x82 m81))))))))) :
    hd_X9_leans_2 b Q  v1 μ := by
  intro hR
  refine xs_iload_n dX9_leans_2 rfl ?_
  refine xs_bipush (nI 16) dX9_leans_3 (by decide) ?_
  refine xs_icmp_ge 122 dX9_leans_5 (by decide) (fun c1 => ?_) (fun c1 => ?_)
  · replace h := h.1 c1
    exact xs_ret none dX9_leans_122 trivial rfl ⟨hR, rfl, h⟩
  · replace h := h.2 c1
    refine xs_aload_n dX9_leans_8 rfl ?_
    refine xs_getR dX9_leans_9 fl_X9_94 rfl sc_75 (rt_75_46 hR) ?_
    refine xs_iload_n dX9_leans_12 rfl ?_
    obtain ⟨s2, h⟩ := h
    refine xs_lald dX9_leans_13 sc_101 s2 ?_
    refine xs_lstore_n [some (.ref 75), some (.int v1), some (.long (μ.2.1 101 (v1).toNatClampNeg)), none, none, none, none, none, none] dX9_leans_14 (by decide) rfl ?_
    refine xs_aload_n dX9_leans_15 rfl ?_
    refine xs_getR dX9_leans_16 fl_X9_94 rfl sc_75 (rt_75_46 hR) ?_
    refine xs_bipush (nI 16) dX9_leans_19 (by decide) ?_
    refine xs_iload_n dX9_leans_21 rfl ?_
    refine xs_iadd dX9_leans_22 ?_
    obtain ⟨s3, h⟩ := h
    refine xs_lald dX9_leans_23 sc_101 s3 ?_
    refine xs_lstore [some (.ref 75), some (.int v1), some (.long (μ.2.1 101 (v1).toNatClampNeg)), none, some (.long (μ.2.1 101 (((nI 16) + v1)).toNatClampNeg)), none, none, none, none] dX9_leans_24 (by decide) rfl ?_
    refine xs_lload dX9_leans_26 rfl ?_
    refine xs_lconst (0 : Int64) dX9_leans_28 (by decide) ?_
    refine xs_lcmp dX9_leans_29 ?_
    refine xs_if_gt 37 dX9_leans_30 (by decide) (fun c4 => ?_) (fun c4 => ?_)
    · replace h := h.1 c4
      refine xs_iconst (nI 0) dX9_leans_37 (by decide) ?_
      refine xs_istore [some (.ref 75), some (.int v1), some (.long (μ.2.1 101 (v1).toNatClampNeg)), none, some (.long (μ.2.1 101 (((nI 16) + v1)).toNatClampNeg)), none, some (.int (nI 0)), none, none] dX9_leans_38 (by decide) rfl ?_
      refine xs_lload_n dX9_leans_40 rfl ?_
      refine xs_lconst (0 : Int64) dX9_leans_41 (by decide) ?_
      refine xs_lcmp dX9_leans_42 ?_
      refine xs_if_le 50 dX9_leans_43 (by decide) (fun c5 => ?_) (fun c5 => ?_)
      · replace h := h.1 c5
        refine xs_iconst (nI 0) dX9_leans_50 (by decide) ?_
        refine xs_lload dX9_leans_51 rfl ?_
        refine xs_lconst (0 : Int64) dX9_leans_53 (by decide) ?_
        refine xs_lcmp dX9_leans_54 ?_
        refine xs_if_le 62 dX9_leans_55 (by decide) (fun c6 => ?_) (fun c6 => ?_)
        · replace h := h.1 c6
          refine xs_iconst (nI 0) dX9_leans_62 (by decide) ?_
          refine xs_icmp_ne 73 dX9_leans_63 (by decide) (fun c7 => absurd c7 (by decide)) (fun _ => ?_)
          refine xs_lload_n dX9_leans_66 rfl ?_
          refine xs_lload dX9_leans_67 rfl ?_
          refine xs_lsub dX9_leans_69 ?_
          refine xs_goto 77 dX9_leans_70 (by decide) ?_
          refine xs_nmL (fun x8 e_x8 => ?_)
          replace h := h x8 e_x8
          refine xs_lstore [some (.ref 75), some (.int v1), some (.long (μ.2.1 101 (v1).toNatClampNeg)), none, some (.long (μ.2.1 101 (((nI 16) + v1)).toNatClampNeg)), none, some (.int (nI 0)), some (.long x8), none] dX9_leans_77 (by decide) rfl ?_
          refine xs_aload_n dX9_leans_79 rfl ?_
          refine xs_getR dX9_leans_80 fl_X9_94 rfl sc_75 (rt_75_46 hR) ?_
          refine xs_iload_n dX9_leans_83 rfl ?_
          refine xs_iload dX9_leans_84 rfl ?_
          refine xs_if_eq 94 dX9_leans_86 (by decide) (fun _ => ?_) (fun c9 => absurd c9 (by decide))
          refine xs_lload_n dX9_leans_94 rfl ?_
          obtain ⟨s10, h⟩ := h
          refine xs_last dX9_leans_95 sc_101 s10 ?_
          refine xs_nmM (fun m11 e_m11 => ?_)
          replace h := h m11 e_m11
          have hR : xs_RT b m11 := by rw [e_m11]; exact hR
          refine xs_aload_n dX9_leans_96 rfl ?_
          refine xs_getR dX9_leans_97 fl_X9_94 rfl sc_75 (rt_75_46 hR) ?_
          refine xs_bipush (nI 16) dX9_leans_100 (by decide) ?_
          refine xs_iload_n dX9_leans_102 rfl ?_
          refine xs_iadd dX9_leans_103 ?_
          refine xs_iload dX9_leans_104 rfl ?_
          refine xs_if_eq 113 dX9_leans_106 (by decide) (fun _ => ?_) (fun c12 => absurd c12 (by decide))
          refine xs_lload dX9_leans_113 rfl ?_
          obtain ⟨s13, h⟩ := h
          refine xs_last dX9_leans_115 sc_101 s13 ?_
          refine xs_nmM (fun m14 e_m14 => ?_)
          replace h := h m14 e_m14
          have hR : xs_RT b m14 := by rw [e_m14]; exact hR
          obtain ⟨x15, e_x15⟩ : ∃ z : Int32, z = v1 + nI 1 := ⟨_, rfl⟩
          replace h := h x15 e_x15
          refine xs_iinc x15 [some (.ref 75), some (.int x15), some (.long (μ.2.1 101 (v1).toNatClampNeg)), none, some (.long (μ.2.1 101 (((nI 16) + v1)).toNatClampNeg)), none, some (.int (nI 0)), some (.long x8), none] dX9_leans_116 (by decide) rfl (by rw [e_x15]; rfl) rfl ?_
          refine xs_goto 2 dX9_leans_119 (by decide) ?_
          exact xs_loc [some (.ref 75), some (.int x15), none, none, none, none, none, none, none] ⟨rfl, ⟨rfl, trivial⟩⟩ (h hR)
        · replace h := h.2 c6
          refine xs_iconst (nI 1) dX9_leans_58 (by decide) ?_
          refine xs_goto 63 dX9_leans_59 (by decide) ?_
          refine xs_icmp_ne 73 dX9_leans_63 (by decide) (fun _ => ?_) (fun c16 => absurd c16 (by decide))
          refine xs_lload_n dX9_leans_73 rfl ?_
          refine xs_lload dX9_leans_74 rfl ?_
          refine xs_ladd dX9_leans_76 ?_
          refine xs_nmL (fun x17 e_x17 => ?_)
          replace h := h x17 e_x17
          refine xs_lstore [some (.ref 75), some (.int v1), some (.long (μ.2.1 101 (v1).toNatClampNeg)), none, some (.long (μ.2.1 101 (((nI 16) + v1)).toNatClampNeg)), none, some (.int (nI 0)), some (.long x17), none] dX9_leans_77 (by decide) rfl ?_
          refine xs_aload_n dX9_leans_79 rfl ?_
          refine xs_getR dX9_leans_80 fl_X9_94 rfl sc_75 (rt_75_46 hR) ?_
          refine xs_iload_n dX9_leans_83 rfl ?_
          refine xs_iload dX9_leans_84 rfl ?_
          refine xs_if_eq 94 dX9_leans_86 (by decide) (fun _ => ?_) (fun c18 => absurd c18 (by decide))
          refine xs_lload_n dX9_leans_94 rfl ?_
          obtain ⟨s19, h⟩ := h
          refine xs_last dX9_leans_95 sc_101 s19 ?_
          refine xs_nmM (fun m20 e_m20 => ?_)
          replace h := h m20 e_m20
          have hR : xs_RT b m20 := by rw [e_m20]; exact hR
          refine xs_aload_n dX9_leans_96 rfl ?_
          refine xs_getR dX9_leans_97 fl_X9_94 rfl sc_75 (rt_75_46 hR) ?_
          refine xs_bipush (nI 16) dX9_leans_100 (by decide) ?_
          refine xs_iload_n dX9_leans_102 rfl ?_
          refine xs_iadd dX9_leans_103 ?_
          refine xs_iload dX9_leans_104 rfl ?_
          refine xs_if_eq 113 dX9_leans_106 (by decide) (fun _ => ?_) (fun c21 => absurd c21 (by decide))
          refine xs_lload dX9_leans_113 rfl ?_
          obtain ⟨s22, h⟩ := h
          refine xs_last dX9_leans_115 sc_101 s22 ?_
          refine xs_nmM (fun m23 e_m23 => ?_)
          replace h := h m23 e_m23
          have hR : xs_RT b m23 := by rw [e_m23]; exact hR
          obtain ⟨x24, e_x24⟩ : ∃ z : Int32, z = v1 + nI 1 := ⟨_, rfl⟩
          replace h := h x24 e_x24
          refine xs_iinc x24 [some (.ref 75), some (.int x24), some (.long (μ.2.1 101 (v1).toNatClampNeg)), none, some (.long (μ.2.1 101 (((nI 16) + v1)).toNatClampNeg)), none, some (.int (nI 0)), some (.long x17), none] dX9_leans_116 (by decide) rfl (by rw [e_x24]; rfl) rfl ?_
          refine xs_goto 2 dX9_leans_119 (by decide) ?_
          exact xs_loc [some (.ref 75), some (.int x24), none, none, none, none, none, none, none] ⟨rfl, ⟨rfl, trivial⟩⟩ (h hR)
      · replace h := h.2 c5
        refine xs_iconst (nI 1) dX9_leans_46 (by decide) ?_
        refine xs_goto 51 dX9_leans_47 (by decide) ?_
        refine xs_lload dX9_leans_51 rfl ?_
        refine xs_lconst (0 : Int64) dX9_leans_53 (by decide) ?_
        refine xs_lcmp dX9_leans_54 ?_
        refine xs_if_le 62 dX9_leans_55 (by decide) (fun c25 => ?_) (fun c25 => ?_)
        · replace h := h.1 c25
          refine xs_iconst (nI 0) dX9_leans_62 (by decide) ?_
          refine xs_icmp_ne 73 dX9_leans_63 (by decide) (fun _ => ?_) (fun c26 => absurd c26 (by decide))
          refine xs_lload_n dX9_leans_73 rfl ?_
          refine xs_lload dX9_leans_74 rfl ?_
          refine xs_ladd dX9_leans_76 ?_
          refine xs_nmL (fun x27 e_x27 => ?_)
          replace h := h x27 e_x27
          refine xs_lstore [some (.ref 75), some (.int v1), some (.long (μ.2.1 101 (v1).toNatClampNeg)), none, some (.long (μ.2.1 101 (((nI 16) + v1)).toNatClampNeg)), none, some (.int (nI 0)), some (.long x27), none] dX9_leans_77 (by decide) rfl ?_
          refine xs_aload_n dX9_leans_79 rfl ?_
          refine xs_getR dX9_leans_80 fl_X9_94 rfl sc_75 (rt_75_46 hR) ?_
          refine xs_iload_n dX9_leans_83 rfl ?_
          refine xs_iload dX9_leans_84 rfl ?_
          refine xs_if_eq 94 dX9_leans_86 (by decide) (fun _ => ?_) (fun c28 => absurd c28 (by decide))
          refine xs_lload_n dX9_leans_94 rfl ?_
          obtain ⟨s29, h⟩ := h
          refine xs_last dX9_leans_95 sc_101 s29 ?_
          refine xs_nmM (fun m30 e_m30 => ?_)
          replace h := h m30 e_m30
          have hR : xs_RT b m30 := by rw [e_m30]; exact hR
          refine xs_aload_n dX9_leans_96 rfl ?_
          refine xs_getR dX9_leans_97 fl_X9_94 rfl sc_75 (rt_75_46 hR) ?_
          refine xs_bipush (nI 16) dX9_leans_100 (by decide) ?_
          refine xs_iload_n dX9_leans_102 rfl ?_
          refine xs_iadd dX9_leans_103 ?_
          refine xs_iload dX9_leans_104 rfl ?_
          refine xs_if_eq 113 dX9_leans_106 (by decide) (fun _ => ?_) (fun c31 => absurd c31 (by decide))
          refine xs_lload dX9_leans_113 rfl ?_
          obtain ⟨s32, h⟩ := h
          refine xs_last dX9_leans_115 sc_101 s32 ?_
          refine xs_nmM (fun m33 e_m33 => ?_)
          replace h := h m33 e_m33
          have hR : xs_RT b m33 := by rw [e_m33]; exact hR
          obtain ⟨x34, e_x34⟩ : ∃ z : Int32, z = v1 + nI 1 := ⟨_, rfl⟩
          replace h := h x34 e_x34
          refine xs_iinc x34 [some (.ref 75), some (.int x34), some (.long (μ.2.1 101 (v1).toNatClampNeg)), none, some (.long (μ.2.1 101 (((nI 16) + v1)).toNatClampNeg)), none, some (.int (nI 0)), some (.long x27), none] dX9_leans_116 (by decide) rfl (by rw [e_x34]; rfl) rfl ?_
          refine xs_goto 2 dX9_leans_119 (by decide) ?_
          exact xs_loc [some (.ref 75), some (.int x34), none, none, none, none, none, none, none] ⟨rfl, ⟨rfl, trivial⟩⟩ (h hR)
        · replace h := h.2 c25
          refine xs_iconst (nI 1) dX9_leans_58 (by decide) ?_
          refine xs_goto 63 dX9_leans_59 (by decide) ?_
          refine xs_icmp_ne 73 dX9_leans_63 (by decide) (fun c35 => absurd c35 (by decide)) (fun _ => ?_)
          refine xs_lload_n dX9_leans_66 rfl ?_
          refine xs_lload dX9_leans_67 rfl ?_
          refine xs_lsub dX9_leans_69 ?_
          refine xs_goto 77 dX9_leans_70 (by decide) ?_
          refine xs_nmL (fun x36 e_x36 => ?_)
          replace h := h x36 e_x36
          refine xs_lstore [some (.ref 75), some (.int v1), some (.long (μ.2.1 101 (v1).toNatClampNeg)), none, some (.long (μ.2.1 101 (((nI 16) + v1)).toNatClampNeg)), none, some (.int (nI 0)), some (.long x36), none] dX9_leans_77 (by decide) rfl ?_
          refine xs_aload_n dX9_leans_79 rfl ?_
          refine xs_getR dX9_leans_80 fl_X9_94 rfl sc_75 (rt_75_46 hR) ?_
          refine xs_iload_n dX9_leans_83 rfl ?_
          refine xs_iload dX9_leans_84 rfl ?_
          refine xs_if_eq 94 dX9_leans_86 (by decide) (fun _ => ?_) (fun c37 => absurd c37 (by decide))
          refine xs_lload_n dX9_leans_94 rfl ?_
          obtain ⟨s38, h⟩ := h
          refine xs_last dX9_leans_95 sc_101 s38 ?_
          refine xs_nmM (fun m39 e_m39 => ?_)
          replace h := h m39 e_m39
          have hR : xs_RT b m39 := by rw [e_m39]; exact hR
          refine xs_aload_n dX9_leans_96 rfl ?_
          refine xs_getR dX9_leans_97 fl_X9_94 rfl sc_75 (rt_75_46 hR) ?_
          refine xs_bipush (nI 16) dX9_leans_100 (by decide) ?_
          refine xs_iload_n dX9_leans_102 rfl ?_
          refine xs_iadd dX9_leans_103 ?_
          refine xs_iload dX9_leans_104 rfl ?_
          refine xs_if_eq 113 dX9_leans_106 (by decide) (fun _ => ?_) (fun c40 => absurd c40 (by decide))
          refine xs_lload dX9_leans_113 rfl ?_
          obtain ⟨s41, h⟩ := h
          refine xs_last dX9_leans_115 sc_101 s41 ?_
          refine xs_nmM (fun m42 e_m42 => ?_)
          replace h := h m42 e_m42
          have hR : xs_RT b m42 := by rw [e_m42]; exact hR
          obtain ⟨x43, e_x43⟩ : ∃ z : Int32, z = v1 + nI 1 := ⟨_, rfl⟩
          replace h := h x43 e_x43
          refine xs_iinc x43 [some (.ref 75), some (.int x43), some (.long (μ.2.1 101 (v1).toNatClampNeg)), none, some (.long (μ.2.1 101 (((nI 16) + v1)).toNatClampNeg)), none, some (.int (nI 0)), some (.long x36), none] dX9_leans_116 (by decide) rfl (by rw [e_x43]; rfl) rfl ?_
          refine xs_goto 2 dX9_leans_119 (by decide) ?_
          exact xs_loc [some (.ref 75), some (.int x43), none, none, none, none, none, none, none] ⟨rfl, ⟨rfl, trivial⟩⟩ (h hR)
    · replace h := h.2 c4
      refine xs_iconst (nI 1) dX9_leans_33 (by decide) ?_
      refine xs_goto 38 dX9_leans_34 (by decide) ?_
      refine xs_istore [some (.ref 75), some (.int v1), some (.long (μ.2.1 101 (v1).toNatClampNeg)), none, some (.long (μ.2.1 101 (((nI 16) + v1)).toNatClampNeg)), none, some (.int (nI 1)), none, none] dX9_leans_38 (by decide) rfl ?_
      refine xs_lload_n dX9_leans_40 rfl ?_
      refine xs_lconst (0 : Int64) dX9_leans_41 (by decide) ?_
      refine xs_lcmp dX9_leans_42 ?_
      refine xs_if_le 50 dX9_leans_43 (by decide) (fun c44 => ?_) (fun c44 => ?_)
      · replace h := h.1 c44
        refine xs_iconst (nI 0) dX9_leans_50 (by decide) ?_
        refine xs_lload dX9_leans_51 rfl ?_
        refine xs_lconst (0 : Int64) dX9_leans_53 (by decide) ?_
        refine xs_lcmp dX9_leans_54 ?_
        refine xs_if_le 62 dX9_leans_55 (by decide) (fun c45 => ?_) (fun c45 => ?_)
        · replace h := h.1 c45
          refine xs_iconst (nI 0) dX9_leans_62 (by decide) ?_
          refine xs_icmp_ne 73 dX9_leans_63 (by decide) (fun c46 => absurd c46 (by decide)) (fun _ => ?_)
          refine xs_lload_n dX9_leans_66 rfl ?_
          refine xs_lload dX9_leans_67 rfl ?_
          refine xs_lsub dX9_leans_69 ?_
          refine xs_goto 77 dX9_leans_70 (by decide) ?_
          refine xs_nmL (fun x47 e_x47 => ?_)
          replace h := h x47 e_x47
          refine xs_lstore [some (.ref 75), some (.int v1), some (.long (μ.2.1 101 (v1).toNatClampNeg)), none, some (.long (μ.2.1 101 (((nI 16) + v1)).toNatClampNeg)), none, some (.int (nI 1)), some (.long x47), none] dX9_leans_77 (by decide) rfl ?_
          refine xs_aload_n dX9_leans_79 rfl ?_
          refine xs_getR dX9_leans_80 fl_X9_94 rfl sc_75 (rt_75_46 hR) ?_
          refine xs_iload_n dX9_leans_83 rfl ?_
          refine xs_iload dX9_leans_84 rfl ?_
          refine xs_if_eq 94 dX9_leans_86 (by decide) (fun c48 => absurd c48 (by decide)) (fun _ => ?_)
          refine xs_lload dX9_leans_89 rfl ?_
          refine xs_goto 95 dX9_leans_91 (by decide) ?_
          obtain ⟨s49, h⟩ := h
          refine xs_last dX9_leans_95 sc_101 s49 ?_
          refine xs_nmM (fun m50 e_m50 => ?_)
          replace h := h m50 e_m50
          have hR : xs_RT b m50 := by rw [e_m50]; exact hR
          refine xs_aload_n dX9_leans_96 rfl ?_
          refine xs_getR dX9_leans_97 fl_X9_94 rfl sc_75 (rt_75_46 hR) ?_
          refine xs_bipush (nI 16) dX9_leans_100 (by decide) ?_
          refine xs_iload_n dX9_leans_102 rfl ?_
          refine xs_iadd dX9_leans_103 ?_
          refine xs_iload dX9_leans_104 rfl ?_
          refine xs_if_eq 113 dX9_leans_106 (by decide) (fun c51 => absurd c51 (by decide)) (fun _ => ?_)
          refine xs_lload_n dX9_leans_109 rfl ?_
          refine xs_goto 115 dX9_leans_110 (by decide) ?_
          obtain ⟨s52, h⟩ := h
          refine xs_last dX9_leans_115 sc_101 s52 ?_
          refine xs_nmM (fun m53 e_m53 => ?_)
          replace h := h m53 e_m53
          have hR : xs_RT b m53 := by rw [e_m53]; exact hR
          obtain ⟨x54, e_x54⟩ : ∃ z : Int32, z = v1 + nI 1 := ⟨_, rfl⟩
          replace h := h x54 e_x54
          refine xs_iinc x54 [some (.ref 75), some (.int x54), some (.long (μ.2.1 101 (v1).toNatClampNeg)), none, some (.long (μ.2.1 101 (((nI 16) + v1)).toNatClampNeg)), none, some (.int (nI 1)), some (.long x47), none] dX9_leans_116 (by decide) rfl (by rw [e_x54]; rfl) rfl ?_
          refine xs_goto 2 dX9_leans_119 (by decide) ?_
          exact xs_loc [some (.ref 75), some (.int x54), none, none, none, none, none, none, none] ⟨rfl, ⟨rfl, trivial⟩⟩ (h hR)
        · replace h := h.2 c45
          refine xs_iconst (nI 1) dX9_leans_58 (by decide) ?_
          refine xs_goto 63 dX9_leans_59 (by decide) ?_
          refine xs_icmp_ne 73 dX9_leans_63 (by decide) (fun _ => ?_) (fun c55 => absurd c55 (by decide))
          refine xs_lload_n dX9_leans_73 rfl ?_
          refine xs_lload dX9_leans_74 rfl ?_
          refine xs_ladd dX9_leans_76 ?_
          refine xs_nmL (fun x56 e_x56 => ?_)
          replace h := h x56 e_x56
          refine xs_lstore [some (.ref 75), some (.int v1), some (.long (μ.2.1 101 (v1).toNatClampNeg)), none, some (.long (μ.2.1 101 (((nI 16) + v1)).toNatClampNeg)), none, some (.int (nI 1)), some (.long x56), none] dX9_leans_77 (by decide) rfl ?_
          refine xs_aload_n dX9_leans_79 rfl ?_
          refine xs_getR dX9_leans_80 fl_X9_94 rfl sc_75 (rt_75_46 hR) ?_
          refine xs_iload_n dX9_leans_83 rfl ?_
          refine xs_iload dX9_leans_84 rfl ?_
          refine xs_if_eq 94 dX9_leans_86 (by decide) (fun c57 => absurd c57 (by decide)) (fun _ => ?_)
          refine xs_lload dX9_leans_89 rfl ?_
          refine xs_goto 95 dX9_leans_91 (by decide) ?_
          obtain ⟨s58, h⟩ := h
          refine xs_last dX9_leans_95 sc_101 s58 ?_
          refine xs_nmM (fun m59 e_m59 => ?_)
          replace h := h m59 e_m59
          have hR : xs_RT b m59 := by rw [e_m59]; exact hR
          refine xs_aload_n dX9_leans_96 rfl ?_
          refine xs_getR dX9_leans_97 fl_X9_94 rfl sc_75 (rt_75_46 hR) ?_
          refine xs_bipush (nI 16) dX9_leans_100 (by decide) ?_
          refine xs_iload_n dX9_leans_102 rfl ?_
          refine xs_iadd dX9_leans_103 ?_
          refine xs_iload dX9_leans_104 rfl ?_
          refine xs_if_eq 113 dX9_leans_106 (by decide) (fun c60 => absurd c60 (by decide)) (fun _ => ?_)
          refine xs_lload_n dX9_leans_109 rfl ?_
          refine xs_goto 115 dX9_leans_110 (by decide) ?_
          obtain ⟨s61, h⟩ := h
          refine xs_last dX9_leans_115 sc_101 s61 ?_
          refine xs_nmM (fun m62 e_m62 => ?_)
          replace h := h m62 e_m62
          have hR : xs_RT b m62 := by rw [e_m62]; exact hR
          obtain ⟨x63, e_x63⟩ : ∃ z : Int32, z = v1 + nI 1 := ⟨_, rfl⟩
          replace h := h x63 e_x63
          refine xs_iinc x63 [some (.ref 75), some (.int x63), some (.long (μ.2.1 101 (v1).toNatClampNeg)), none, some (.long (μ.2.1 101 (((nI 16) + v1)).toNatClampNeg)), none, some (.int (nI 1)), some (.long x56), none] dX9_leans_116 (by decide) rfl (by rw [e_x63]; rfl) rfl ?_
          refine xs_goto 2 dX9_leans_119 (by decide) ?_
          exact xs_loc [some (.ref 75), some (.int x63), none, none, none, none, none, none, none] ⟨rfl, ⟨rfl, trivial⟩⟩ (h hR)
      · replace h := h.2 c44
        refine xs_iconst (nI 1) dX9_leans_46 (by decide) ?_
        refine xs_goto 51 dX9_leans_47 (by decide) ?_
        refine xs_lload dX9_leans_51 rfl ?_
        refine xs_lconst (0 : Int64) dX9_leans_53 (by decide) ?_
        refine xs_lcmp dX9_leans_54 ?_
        refine xs_if_le 62 dX9_leans_55 (by decide) (fun c64 => ?_) (fun c64 => ?_)
        · replace h := h.1 c64
          refine xs_iconst (nI 0) dX9_leans_62 (by decide) ?_
          refine xs_icmp_ne 73 dX9_leans_63 (by decide) (fun _ => ?_) (fun c65 => absurd c65 (by decide))
          refine xs_lload_n dX9_leans_73 rfl ?_
          refine xs_lload dX9_leans_74 rfl ?_
          refine xs_ladd dX9_leans_76 ?_
          refine xs_nmL (fun x66 e_x66 => ?_)
          replace h := h x66 e_x66
          refine xs_lstore [some (.ref 75), some (.int v1), some (.long (μ.2.1 101 (v1).toNatClampNeg)), none, some (.long (μ.2.1 101 (((nI 16) + v1)).toNatClampNeg)), none, some (.int (nI 1)), some (.long x66), none] dX9_leans_77 (by decide) rfl ?_
          refine xs_aload_n dX9_leans_79 rfl ?_
          refine xs_getR dX9_leans_80 fl_X9_94 rfl sc_75 (rt_75_46 hR) ?_
          refine xs_iload_n dX9_leans_83 rfl ?_
          refine xs_iload dX9_leans_84 rfl ?_
          refine xs_if_eq 94 dX9_leans_86 (by decide) (fun c67 => absurd c67 (by decide)) (fun _ => ?_)
          refine xs_lload dX9_leans_89 rfl ?_
          refine xs_goto 95 dX9_leans_91 (by decide) ?_
          obtain ⟨s68, h⟩ := h
          refine xs_last dX9_leans_95 sc_101 s68 ?_
          refine xs_nmM (fun m69 e_m69 => ?_)
          replace h := h m69 e_m69
          have hR : xs_RT b m69 := by rw [e_m69]; exact hR
          refine xs_aload_n dX9_leans_96 rfl ?_
          refine xs_getR dX9_leans_97 fl_X9_94 rfl sc_75 (rt_75_46 hR) ?_
          refine xs_bipush (nI 16) dX9_leans_100 (by decide) ?_
          refine xs_iload_n dX9_leans_102 rfl ?_
          refine xs_iadd dX9_leans_103 ?_
          refine xs_iload dX9_leans_104 rfl ?_
          refine xs_if_eq 113 dX9_leans_106 (by decide) (fun c70 => absurd c70 (by decide)) (fun _ => ?_)
          refine xs_lload_n dX9_leans_109 rfl ?_
          refine xs_goto 115 dX9_leans_110 (by decide) ?_
          obtain ⟨s71, h⟩ := h
          refine xs_last dX9_leans_115 sc_101 s71 ?_
          refine xs_nmM (fun m72 e_m72 => ?_)
          replace h := h m72 e_m72
          have hR : xs_RT b m72 := by rw [e_m72]; exact hR
          obtain ⟨x73, e_x73⟩ : ∃ z : Int32, z = v1 + nI 1 := ⟨_, rfl⟩
          replace h := h x73 e_x73
          refine xs_iinc x73 [some (.ref 75), some (.int x73), some (.long (μ.2.1 101 (v1).toNatClampNeg)), none, some (.long (μ.2.1 101 (((nI 16) + v1)).toNatClampNeg)), none, some (.int (nI 1)), some (.long x66), none] dX9_leans_116 (by decide) rfl (by rw [e_x73]; rfl) rfl ?_
          refine xs_goto 2 dX9_leans_119 (by decide) ?_
          exact xs_loc [some (.ref 75), some (.int x73), none, none, none, none, none, none, none] ⟨rfl, ⟨rfl, trivial⟩⟩ (h hR)
        · replace h := h.2 c64
          refine xs_iconst (nI 1) dX9_leans_58 (by decide) ?_
          refine xs_goto 63 dX9_leans_59 (by decide) ?_
          refine xs_icmp_ne 73 dX9_leans_63 (by decide) (fun c74 => absurd c74 (by decide)) (fun _ => ?_)
          refine xs_lload_n dX9_leans_66 rfl ?_
          refine xs_lload dX9_leans_67 rfl ?_
          refine xs_lsub dX9_leans_69 ?_
          refine xs_goto 77 dX9_leans_70 (by decide) ?_
          refine xs_nmL (fun x75 e_x75 => ?_)
          replace h := h x75 e_x75
          refine xs_lstore [some (.ref 75), some (.int v1), some (.long (μ.2.1 101 (v1).toNatClampNeg)), none, some (.long (μ.2.1 101 (((nI 16) + v1)).toNatClampNeg)), none, some (.int (nI 1)), some (.long x75), none] dX9_leans_77 (by decide) rfl ?_
          refine xs_aload_n dX9_leans_79 rfl ?_
          refine xs_getR dX9_leans_80 fl_X9_94 rfl sc_75 (rt_75_46 hR) ?_
          refine xs_iload_n dX9_leans_83 rfl ?_
          refine xs_iload dX9_leans_84 rfl ?_
          refine xs_if_eq 94 dX9_leans_86 (by decide) (fun c76 => absurd c76 (by decide)) (fun _ => ?_)
          refine xs_lload dX9_leans_89 rfl ?_
          refine xs_goto 95 dX9_leans_91 (by decide) ?_
          obtain ⟨s77, h⟩ := h
          refine xs_last dX9_leans_95 sc_101 s77 ?_
          refine xs_nmM (fun m78 e_m78 => ?_)
          replace h := h m78 e_m78
          have hR : xs_RT b m78 := by rw [e_m78]; exact hR
          refine xs_aload_n dX9_leans_96 rfl ?_
          refine xs_getR dX9_leans_97 fl_X9_94 rfl sc_75 (rt_75_46 hR) ?_
          refine xs_bipush (nI 16) dX9_leans_100 (by decide) ?_
          refine xs_iload_n dX9_leans_102 rfl ?_
          refine xs_iadd dX9_leans_103 ?_
          refine xs_iload dX9_leans_104 rfl ?_
          refine xs_if_eq 113 dX9_leans_106 (by decide) (fun c79 => absurd c79 (by decide)) (fun _ => ?_)
          refine xs_lload_n dX9_leans_109 rfl ?_
          refine xs_goto 115 dX9_leans_110 (by decide) ?_
          obtain ⟨s80, h⟩ := h
          refine xs_last dX9_leans_115 sc_101 s80 ?_
          refine xs_nmM (fun m81 e_m81 => ?_)
          replace h := h m81 e_m81
          have hR : xs_RT b m81 := by rw [e_m81]; exact hR
          obtain ⟨x82, e_x82⟩ : ∃ z : Int32, z = v1 + nI 1 := ⟨_, rfl⟩
          replace h := h x82 e_x82
          refine xs_iinc x82 [some (.ref 75), some (.int x82), some (.long (μ.2.1 101 (v1).toNatClampNeg)), none, some (.long (μ.2.1 101 (((nI 16) + v1)).toNatClampNeg)), none, some (.int (nI 1)), some (.long x75), none] dX9_leans_116 (by decide) rfl (by rw [e_x82]; rfl) rfl ?_
          refine xs_goto 2 dX9_leans_119 (by decide) ?_
          exact xs_loc [some (.ref 75), some (.int x82), none, none, none, none, none, none, none] ⟨rfl, ⟨rfl, trivial⟩⟩ (h hR)
set_option maxHeartbeats 4000000 in
set_option maxRecDepth 100000 in
theorem g_X9_leans {b : Bool} {Q : xm_M → Prop} {μ : xm_M}  
    (h : hd_X9_leans_2 b Q  (nI 0) μ) :
    xCv b b k_X9_leans μ [.ref 75] Q := by
  intro hR
  refine xm_met [some (.ref 75), none, none, none, none, none, none, none, none] 8 (by decide) (by simp [lg_sl, Value.category]) rfl ?_
  refine xs_iconst (nI 0) dX9_leans_0 (by decide) ?_
  refine xs_istore_n [some (.ref 75), some (.int (nI 0)), none, none, none, none, none, none, none] dX9_leans_1 (by decide) rfl ?_
  exact xs_loc [some (.ref 75), some (.int (nI 0)), none, none, none, none, none, none, none] ⟨rfl, ⟨rfl, trivial⟩⟩ (h hR)
set_option maxHeartbeats 4000000 in
set_option maxRecDepth 100000 in
theorem g_X9_cosine {b : Bool} {Q : Int64 → xm_M → Prop} {μ : xm_M} (v0 : Int32) 
    (h : ∀ x1 : Int32, x1 = (v0 - v0 / (nI 128) * (nI 128)) →
      ((x1 ≤ (nI 64) →
       ((x1 ≤ (nI 32) →
        vp_in x1 33 ∧
        Q (((xs_tab 5).getD (x1).toNatClampNeg 0)).toInt64 μ) ∧
       (¬ x1 ≤ (nI 32) →
        vp_in ((nI 64) - x1) 33 ∧
        Q ((-((xs_tab 5).getD (((nI 64) - x1)).toNatClampNeg 0))).toInt64 μ))) ∧
      (¬ x1 ≤ (nI 64) →
       ∀ x6 : Int32, x6 = ((nI 128) - x1) →
       ((x6 ≤ (nI 32) →
        vp_in x6 33 ∧
        Q (((xs_tab 5).getD (x6).toNatClampNeg 0)).toInt64 μ) ∧
       (¬ x6 ≤ (nI 32) →
        vp_in ((nI 64) - x6) 33 ∧
        Q ((-((xs_tab 5).getD (((nI 64) - x6)).toNatClampNeg 0))).toInt64 μ))))) :
    xCl b b k_X9_cosine μ [.int v0] Q := by
  intro hR
  refine xm_met [some (.int v0), none] 1 (by decide) (by simp [lg_sl, Value.category]) rfl ?_
  refine xs_iload_n dX9_cosine_0 rfl ?_
  refine xs_sipush (nI 128) dX9_cosine_1 (by decide) ?_
  refine xs_irem dX9_cosine_4 (by decide) ?_
  refine xs_nmI (fun x1 e_x1 => ?_)
  replace h := h x1 e_x1
  refine xs_istore_n [some (.int v0), some (.int x1)] dX9_cosine_5 (by decide) rfl ?_
  refine xs_iload_n dX9_cosine_6 rfl ?_
  refine xs_bipush (nI 64) dX9_cosine_7 (by decide) ?_
  refine xs_icmp_le 18 dX9_cosine_9 (by decide) (fun c2 => ?_) (fun c2 => ?_)
  · replace h := h.1 c2
    refine xs_iload_n dX9_cosine_18 rfl ?_
    refine xs_bipush (nI 32) dX9_cosine_19 (by decide) ?_
    refine xs_icmp_le 37 dX9_cosine_21 (by decide) (fun c3 => ?_) (fun c3 => ?_)
    · replace h := h.1 c3
      refine xs_gets (k := 5) (q := xs_tq 5) dX9_cosine_37 rfl fs_X9_271 ?_
      refine xs_iload_n dX9_cosine_40 rfl ?_
      obtain ⟨s4, h⟩ := h
      refine xs_tald (k := 5) (q := xs_tq 5) dX9_cosine_41 rfl s4 ?_
      refine xs_i2l dX9_cosine_42 ?_
      exact xs_ret (some (.long (((xs_tab 5).getD (x1).toNatClampNeg 0)).toInt64)) dX9_cosine_43 trivial rfl ⟨hR, _, rfl, h⟩
    · replace h := h.2 c3
      refine xs_gets (k := 5) (q := xs_tq 5) dX9_cosine_24 rfl fs_X9_271 ?_
      refine xs_bipush (nI 64) dX9_cosine_27 (by decide) ?_
      refine xs_iload_n dX9_cosine_29 rfl ?_
      refine xs_isub dX9_cosine_30 ?_
      obtain ⟨s5, h⟩ := h
      refine xs_tald (k := 5) (q := xs_tq 5) dX9_cosine_31 rfl s5 ?_
      refine xs_ineg dX9_cosine_32 ?_
      refine xs_i2l dX9_cosine_33 ?_
      refine xs_goto 43 dX9_cosine_34 (by decide) ?_
      exact xs_ret (some (.long ((-((xs_tab 5).getD (((nI 64) - x1)).toNatClampNeg 0))).toInt64)) dX9_cosine_43 trivial rfl ⟨hR, _, rfl, h⟩
  · replace h := h.2 c2
    refine xs_sipush (nI 128) dX9_cosine_12 (by decide) ?_
    refine xs_iload_n dX9_cosine_15 rfl ?_
    refine xs_isub dX9_cosine_16 ?_
    refine xs_nmI (fun x6 e_x6 => ?_)
    replace h := h x6 e_x6
    refine xs_istore_n [some (.int v0), some (.int x6)] dX9_cosine_17 (by decide) rfl ?_
    refine xs_iload_n dX9_cosine_18 rfl ?_
    refine xs_bipush (nI 32) dX9_cosine_19 (by decide) ?_
    refine xs_icmp_le 37 dX9_cosine_21 (by decide) (fun c7 => ?_) (fun c7 => ?_)
    · replace h := h.1 c7
      refine xs_gets (k := 5) (q := xs_tq 5) dX9_cosine_37 rfl fs_X9_271 ?_
      refine xs_iload_n dX9_cosine_40 rfl ?_
      obtain ⟨s8, h⟩ := h
      refine xs_tald (k := 5) (q := xs_tq 5) dX9_cosine_41 rfl s8 ?_
      refine xs_i2l dX9_cosine_42 ?_
      exact xs_ret (some (.long (((xs_tab 5).getD (x6).toNatClampNeg 0)).toInt64)) dX9_cosine_43 trivial rfl ⟨hR, _, rfl, h⟩
    · replace h := h.2 c7
      refine xs_gets (k := 5) (q := xs_tq 5) dX9_cosine_24 rfl fs_X9_271 ?_
      refine xs_bipush (nI 64) dX9_cosine_27 (by decide) ?_
      refine xs_iload_n dX9_cosine_29 rfl ?_
      refine xs_isub dX9_cosine_30 ?_
      obtain ⟨s9, h⟩ := h
      refine xs_tald (k := 5) (q := xs_tq 5) dX9_cosine_31 rfl s9 ?_
      refine xs_ineg dX9_cosine_32 ?_
      refine xs_i2l dX9_cosine_33 ?_
      refine xs_goto 43 dX9_cosine_34 (by decide) ?_
      exact xs_ret (some (.long ((-((xs_tab 5).getD (((nI 64) - x6)).toNatClampNeg 0))).toInt64)) dX9_cosine_43 trivial rfl ⟨hR, _, rfl, h⟩
set_option maxHeartbeats 4000000 in
set_option maxRecDepth 100000 in
theorem g_X9_window {b : Bool} {Q : Int64 → xm_M → Prop} {μ : xm_M} (v0 : Int32) 
    (h : (((nI 16) ≤ v0 →
       vp_in ((nI 31) - v0) 16 ∧
       Q (((xs_tab 6).getD (((nI 31) - v0)).toNatClampNeg 0)).toInt64 μ) ∧
      (¬ (nI 16) ≤ v0 →
       vp_in v0 16 ∧
       Q (((xs_tab 6).getD (v0).toNatClampNeg 0)).toInt64 μ))) :
    xCl b b k_X9_window μ [.int v0] Q := by
  intro hR
  refine xm_met [some (.int v0)] 0 (by decide) (by simp [lg_sl, Value.category]) rfl ?_
  refine xs_iload_n dX9_window_0 rfl ?_
  refine xs_bipush (nI 16) dX9_window_1 (by decide) ?_
  refine xs_icmp_ge 15 dX9_window_3 (by decide) (fun c1 => ?_) (fun c1 => ?_)
  · replace h := h.1 c1
    refine xs_gets (k := 6) (q := xs_tq 6) dX9_window_15 rfl fs_X9_274 ?_
    refine xs_bipush (nI 31) dX9_window_18 (by decide) ?_
    refine xs_iload_n dX9_window_20 rfl ?_
    refine xs_isub dX9_window_21 ?_
    obtain ⟨s2, h⟩ := h
    refine xs_tald (k := 6) (q := xs_tq 6) dX9_window_22 rfl s2 ?_
    refine xs_i2l dX9_window_23 ?_
    exact xs_ret (some (.long (((xs_tab 6).getD (((nI 31) - v0)).toNatClampNeg 0)).toInt64)) dX9_window_24 trivial rfl ⟨hR, _, rfl, h⟩
  · replace h := h.2 c1
    refine xs_gets (k := 6) (q := xs_tq 6) dX9_window_6 rfl fs_X9_274 ?_
    refine xs_iload_n dX9_window_9 rfl ?_
    obtain ⟨s3, h⟩ := h
    refine xs_tald (k := 6) (q := xs_tq 6) dX9_window_10 rfl s3 ?_
    refine xs_i2l dX9_window_11 ?_
    refine xs_goto 24 dX9_window_12 (by decide) ?_
    exact xs_ret (some (.long (((xs_tab 6).getD (v0).toNatClampNeg 0)).toInt64)) dX9_window_24 trivial rfl ⟨hR, _, rfl, h⟩
abbrev hd_X9_sums_2 (b : Bool) (Q : xm_M → Prop)  (v1 : Int32) (v2 : Int32) (μ : xm_M) : Prop := xs_RT b μ → xR k_X9_sums none true (fun r _ μ' => xs_RT b μ' ∧ r = none ∧ Q μ') 2 [some (.ref 75), some (.int v1), some (.int v2), none, none, none, none, none] [] xs_sh (0, 0) μ
abbrev hd_X9_sums_15 (b : Bool) (Q : xm_M → Prop)  (v1 : Int32) (v2 : Int32) (v3 : Int64) (v5 : Int32) (μ : xm_M) : Prop := xs_RT b μ → xR k_X9_sums none true (fun r _ μ' => xs_RT b μ' ∧ r = none ∧ Q μ') 15 [some (.ref 75), some (.int v1), some (.int v2), some (.long v3), none, some (.int v5), none, none] [] xs_sh (0, 0) μ
set_option maxHeartbeats 4000000 in
set_option maxRecDepth 100000 in
theorem l_X9_sums_2 {b : Bool} {Q : xm_M → Prop} {μ : xm_M}  (v1 : Int32) (v2 : Int32) 
    (h : (((nI 32) ≤ v2 →
       Q μ) ∧
      (¬ (nI 32) ≤ v2 →
       hd_X9_sums_15 b Q  v1 v2 (2048 : Int64) (nI 0) μ))) :
    hd_X9_sums_2 b Q  v1 v2 μ := by
  intro hR
  refine xs_iload_n dX9_sums_2 rfl ?_
  refine xs_bipush (nI 32) dX9_sums_3 (by decide) ?_
  refine xs_icmp_ge 122 dX9_sums_5 (by decide) (fun c1 => ?_) (fun c1 => ?_)
  · replace h := h.1 c1
    exact xs_ret none dX9_sums_122 trivial rfl ⟨hR, rfl, h⟩
  · replace h := h.2 c1
    refine xs_ldc2 dX9_sums_8 cn_X9_277 ?_
    refine xs_lstore_n [some (.ref 75), some (.int v1), some (.int v2), some (.long (2048 : Int64)), none, none, none, none] dX9_sums_11 (by decide) rfl ?_
    refine xs_iconst (nI 0) dX9_sums_12 (by decide) ?_
    refine xs_istore [some (.ref 75), some (.int v1), some (.int v2), some (.long (2048 : Int64)), none, some (.int (nI 0)), none, none] dX9_sums_13 (by decide) rfl ?_
    exact xs_loc [some (.ref 75), some (.int v1), some (.int v2), some (.long (2048 : Int64)), none, some (.int (nI 0)), none, none] ⟨rfl, ⟨rfl, ⟨rfl, ⟨rfl, ⟨rfl, trivial⟩⟩⟩⟩⟩ (h hR)
set_option maxHeartbeats 4000000 in
set_option maxRecDepth 100000 in
theorem l_X9_sums_15 {b : Bool} {Q : xm_M → Prop} {μ : xm_M}  (v1 : Int32) (v2 : Int32) (v3 : Int64) (v5 : Int32) 
    (h : (((nI 16) ≤ v5 →
       ∃ Q2 : Int64 → xm_M → Prop, xCl b b k_X9_window μ [.int v2] Q2 ∧
       ∀ (r4 : Int64) (m3 : xm_M), Q2 r4 m3 →
       vp_in (((nI 32) * v1) + v2) 64 ∧
       ∀ m7 : xm_M, m7 = xu_L m3 103 (vp_updL (m3.2.1 103) ((((nI 32) * v1) + v2)).toNatClampNeg (((v3 >>> (((nI 12)).toInt64 &&& 63)) * r4) >>> (((nI 12)).toInt64 &&& 63))) →
       ∀ x8 : Int32, x8 = v2 + nI 1 →
       hd_X9_sums_2 b Q  v1 x8 m7) ∧
      (¬ (nI 16) ≤ v5 →
       vp_in v1 2 ∧
       (((μ.1 99 (v1).toNatClampNeg) = 0 →
        vp_in (((nI 16) * v1) + v5) 32 ∧
        vp_in (((nI 16) * v1) + v5) 32 ∧
        ∀ x13 : Int64, x13 = (((μ.2.1 101 ((((nI 16) * v1) + v5)).toNatClampNeg) * (μ.2.1 98 ((((nI 16) * v1) + v5)).toNatClampNeg)) >>> (((nI 8)).toInt64 &&& 63)) →
        ∃ Q14 : Int64 → xm_M → Prop, xCl b b k_X9_cosine μ [.int ((((nI 2) * v2) + (nI 17)) * (((nI 2) * v5) + (nI 1)))] Q14 ∧
        ∀ (r16 : Int64) (m15 : xm_M), Q14 r16 m15 →
        ∀ x18 : Int64, x18 = (v3 + (x13 * r16)) →
        ∀ x19 : Int32, x19 = v5 + nI 1 →
        hd_X9_sums_15 b Q  v1 v2 x18 x19 m15) ∧
       (¬ (μ.1 99 (v1).toNatClampNeg) = 0 →
        ∃ Q20 : Int64 → xm_M → Prop, xCl b b k_X9_cosine μ [.int ((((nI 2) * v2) + (nI 17)) * (((nI 2) * v5) + (nI 1)))] Q20 ∧
        ∀ (r22 : Int64) (m21 : xm_M), Q20 r22 m21 →
        ∀ x24 : Int64, x24 = (v3 + ((0 : Int64) * r22)) →
        ∀ x25 : Int32, x25 = v5 + nI 1 →
        hd_X9_sums_15 b Q  v1 v2 x24 x25 m21))))) :
    hd_X9_sums_15 b Q  v1 v2 v3 v5 μ := by
  intro hR
  refine xs_iload dX9_sums_15 rfl ?_
  refine xs_bipush (nI 16) dX9_sums_17 (by decide) ?_
  refine xs_icmp_ge 93 dX9_sums_19 (by decide) (fun c1 => ?_) (fun c1 => ?_)
  · replace h := h.1 c1
    refine xs_aload_n dX9_sums_93 rfl ?_
    refine xs_getR dX9_sums_94 fl_X9_100 rfl sc_75 (rt_75_48 hR) ?_
    refine xs_bipush (nI 32) dX9_sums_97 (by decide) ?_
    refine xs_iload_n dX9_sums_99 rfl ?_
    refine xs_imul dX9_sums_100 ?_
    refine xs_iload_n dX9_sums_101 rfl ?_
    refine xs_iadd dX9_sums_102 ?_
    refine xs_lload_n dX9_sums_103 rfl ?_
    refine xs_bipush (nI 12) dX9_sums_104 (by decide) ?_
    refine xs_lshr dX9_sums_106 ?_
    refine xs_iload_n dX9_sums_107 rfl ?_
    obtain ⟨Q2, hQ2, h⟩ := h
    refine xs_callS (j := k_X9_window) (As := [.int v2]) (S := [.long (v3 >>> (((nI 12)).toInt64 &&& 63)), .int (((nI 32) * v1) + v2), .ref 103]) dX9_sums_108 (hQ2 hR) ⟨ml_X9_282, mk_X9_window.1, mk_X9_window.2.1, mk_X9_window.2.2⟩ ms_X9_window ⟨Nat.le_of_ble_eq_true rfl, Nat.le_of_ble_eq_true rfl⟩ rfl (Nat.le_of_ble_eq_true rfl) ⟨rfl, rfl⟩ (fun rr m3 hq5 => ?_)
    obtain ⟨hR, r4, rfl, hq5⟩ := hq5
    replace h := h r4 m3 hq5
    refine xs_lmul dX9_sums_111 ?_
    refine xs_bipush (nI 12) dX9_sums_112 (by decide) ?_
    refine xs_lshr dX9_sums_114 ?_
    obtain ⟨s6, h⟩ := h
    refine xs_last dX9_sums_115 sc_103 s6 ?_
    refine xs_nmM (fun m7 e_m7 => ?_)
    replace h := h m7 e_m7
    have hR : xs_RT b m7 := by rw [e_m7]; exact hR
    obtain ⟨x8, e_x8⟩ : ∃ z : Int32, z = v2 + nI 1 := ⟨_, rfl⟩
    replace h := h x8 e_x8
    refine xs_iinc x8 [some (.ref 75), some (.int v1), some (.int x8), some (.long v3), none, some (.int v5), none, none] dX9_sums_116 (by decide) rfl (by rw [e_x8]; rfl) rfl ?_
    refine xs_goto 2 dX9_sums_119 (by decide) ?_
    exact xs_loc [some (.ref 75), some (.int v1), some (.int x8), none, none, none, none, none] ⟨rfl, ⟨rfl, ⟨rfl, trivial⟩⟩⟩ (h hR)
  · replace h := h.2 c1
    refine xs_aload_n dX9_sums_22 rfl ?_
    refine xs_getR dX9_sums_23 fl_X9_88 rfl sc_75 (rt_75_44 hR) ?_
    refine xs_iload_n dX9_sums_26 rfl ?_
    obtain ⟨s9, h⟩ := h
    refine xs_zald dX9_sums_27 sc_99 s9 ?_
    refine xs_if_eq 35 dX9_sums_28 (by decide) (fun c10 => ?_) (fun c10 => ?_)
    · replace h := h.1 c10
      refine xs_aload_n dX9_sums_35 rfl ?_
      refine xs_getR dX9_sums_36 fl_X9_94 rfl sc_75 (rt_75_46 hR) ?_
      refine xs_bipush (nI 16) dX9_sums_39 (by decide) ?_
      refine xs_iload_n dX9_sums_41 rfl ?_
      refine xs_imul dX9_sums_42 ?_
      refine xs_iload dX9_sums_43 rfl ?_
      refine xs_iadd dX9_sums_45 ?_
      obtain ⟨s11, h⟩ := h
      refine xs_lald dX9_sums_46 sc_101 s11 ?_
      refine xs_aload_n dX9_sums_47 rfl ?_
      refine xs_getR dX9_sums_48 fl_X9_85 rfl sc_75 (rt_75_43 hR) ?_
      refine xs_bipush (nI 16) dX9_sums_51 (by decide) ?_
      refine xs_iload_n dX9_sums_53 rfl ?_
      refine xs_imul dX9_sums_54 ?_
      refine xs_iload dX9_sums_55 rfl ?_
      refine xs_iadd dX9_sums_57 ?_
      obtain ⟨s12, h⟩ := h
      refine xs_lald dX9_sums_58 sc_98 s12 ?_
      refine xs_lmul dX9_sums_59 ?_
      refine xs_bipush (nI 8) dX9_sums_60 (by decide) ?_
      refine xs_lshr dX9_sums_62 ?_
      refine xs_nmL (fun x13 e_x13 => ?_)
      replace h := h x13 e_x13
      refine xs_lstore [some (.ref 75), some (.int v1), some (.int v2), some (.long v3), none, some (.int v5), some (.long x13), none] dX9_sums_63 (by decide) rfl ?_
      refine xs_lload_n dX9_sums_65 rfl ?_
      refine xs_lload dX9_sums_66 rfl ?_
      refine xs_iconst (nI 2) dX9_sums_68 (by decide) ?_
      refine xs_iload_n dX9_sums_69 rfl ?_
      refine xs_imul dX9_sums_70 ?_
      refine xs_bipush (nI 17) dX9_sums_71 (by decide) ?_
      refine xs_iadd dX9_sums_73 ?_
      refine xs_iconst (nI 2) dX9_sums_74 (by decide) ?_
      refine xs_iload dX9_sums_75 rfl ?_
      refine xs_imul dX9_sums_77 ?_
      refine xs_iconst (nI 1) dX9_sums_78 (by decide) ?_
      refine xs_iadd dX9_sums_79 ?_
      refine xs_imul dX9_sums_80 ?_
      obtain ⟨Q14, hQ14, h⟩ := h
      refine xs_callS (j := k_X9_cosine) (As := [.int ((((nI 2) * v2) + (nI 17)) * (((nI 2) * v5) + (nI 1)))]) (S := [.long x13, .long v3]) dX9_sums_81 (hQ14 hR) ⟨ml_X9_279, mk_X9_cosine.1, mk_X9_cosine.2.1, mk_X9_cosine.2.2⟩ ms_X9_cosine ⟨Nat.le_of_ble_eq_true rfl, Nat.le_of_ble_eq_true rfl⟩ rfl (Nat.le_of_ble_eq_true rfl) ⟨rfl, rfl⟩ (fun rr m15 hq17 => ?_)
      obtain ⟨hR, r16, rfl, hq17⟩ := hq17
      replace h := h r16 m15 hq17
      refine xs_lmul dX9_sums_84 ?_
      refine xs_ladd dX9_sums_85 ?_
      refine xs_nmL (fun x18 e_x18 => ?_)
      replace h := h x18 e_x18
      refine xs_lstore_n [some (.ref 75), some (.int v1), some (.int v2), some (.long x18), none, some (.int v5), some (.long x13), none] dX9_sums_86 (by decide) rfl ?_
      obtain ⟨x19, e_x19⟩ : ∃ z : Int32, z = v5 + nI 1 := ⟨_, rfl⟩
      replace h := h x19 e_x19
      refine xs_iinc x19 [some (.ref 75), some (.int v1), some (.int v2), some (.long x18), none, some (.int x19), some (.long x13), none] dX9_sums_87 (by decide) rfl (by rw [e_x19]; rfl) rfl ?_
      refine xs_goto 15 dX9_sums_90 (by decide) ?_
      exact xs_loc [some (.ref 75), some (.int v1), some (.int v2), some (.long x18), none, some (.int x19), none, none] ⟨rfl, ⟨rfl, ⟨rfl, ⟨rfl, ⟨rfl, trivial⟩⟩⟩⟩⟩ (h hR)
    · replace h := h.2 c10
      refine xs_lconst (0 : Int64) dX9_sums_31 (by decide) ?_
      refine xs_goto 63 dX9_sums_32 (by decide) ?_
      refine xs_lstore [some (.ref 75), some (.int v1), some (.int v2), some (.long v3), none, some (.int v5), some (.long (0 : Int64)), none] dX9_sums_63 (by decide) rfl ?_
      refine xs_lload_n dX9_sums_65 rfl ?_
      refine xs_lload dX9_sums_66 rfl ?_
      refine xs_iconst (nI 2) dX9_sums_68 (by decide) ?_
      refine xs_iload_n dX9_sums_69 rfl ?_
      refine xs_imul dX9_sums_70 ?_
      refine xs_bipush (nI 17) dX9_sums_71 (by decide) ?_
      refine xs_iadd dX9_sums_73 ?_
      refine xs_iconst (nI 2) dX9_sums_74 (by decide) ?_
      refine xs_iload dX9_sums_75 rfl ?_
      refine xs_imul dX9_sums_77 ?_
      refine xs_iconst (nI 1) dX9_sums_78 (by decide) ?_
      refine xs_iadd dX9_sums_79 ?_
      refine xs_imul dX9_sums_80 ?_
      obtain ⟨Q20, hQ20, h⟩ := h
      refine xs_callS (j := k_X9_cosine) (As := [.int ((((nI 2) * v2) + (nI 17)) * (((nI 2) * v5) + (nI 1)))]) (S := [.long (0 : Int64), .long v3]) dX9_sums_81 (hQ20 hR) ⟨ml_X9_279, mk_X9_cosine.1, mk_X9_cosine.2.1, mk_X9_cosine.2.2⟩ ms_X9_cosine ⟨Nat.le_of_ble_eq_true rfl, Nat.le_of_ble_eq_true rfl⟩ rfl (Nat.le_of_ble_eq_true rfl) ⟨rfl, rfl⟩ (fun rr m21 hq23 => ?_)
      obtain ⟨hR, r22, rfl, hq23⟩ := hq23
      replace h := h r22 m21 hq23
      refine xs_lmul dX9_sums_84 ?_
      refine xs_ladd dX9_sums_85 ?_
      refine xs_nmL (fun x24 e_x24 => ?_)
      replace h := h x24 e_x24
      refine xs_lstore_n [some (.ref 75), some (.int v1), some (.int v2), some (.long x24), none, some (.int v5), some (.long (0 : Int64)), none] dX9_sums_86 (by decide) rfl ?_
      obtain ⟨x25, e_x25⟩ : ∃ z : Int32, z = v5 + nI 1 := ⟨_, rfl⟩
      replace h := h x25 e_x25
      refine xs_iinc x25 [some (.ref 75), some (.int v1), some (.int v2), some (.long x24), none, some (.int x25), some (.long (0 : Int64)), none] dX9_sums_87 (by decide) rfl (by rw [e_x25]; rfl) rfl ?_
      refine xs_goto 15 dX9_sums_90 (by decide) ?_
      exact xs_loc [some (.ref 75), some (.int v1), some (.int v2), some (.long x24), none, some (.int x25), none, none] ⟨rfl, ⟨rfl, ⟨rfl, ⟨rfl, ⟨rfl, trivial⟩⟩⟩⟩⟩ (h hR)
set_option maxHeartbeats 4000000 in
set_option maxRecDepth 100000 in
theorem g_X9_sums {b : Bool} {Q : xm_M → Prop} {μ : xm_M} (v1 : Int32) 
    (h : hd_X9_sums_2 b Q  v1 (nI 0) μ) :
    xCv b b k_X9_sums μ [.ref 75, .int v1] Q := by
  intro hR
  refine xm_met [some (.ref 75), some (.int v1), none, none, none, none, none, none] 6 (by decide) (by simp [lg_sl, Value.category]) rfl ?_
  refine xs_iconst (nI 0) dX9_sums_0 (by decide) ?_
  refine xs_istore_n [some (.ref 75), some (.int v1), some (.int (nI 0)), none, none, none, none, none] dX9_sums_1 (by decide) rfl ?_
  exact xs_loc [some (.ref 75), some (.int v1), some (.int (nI 0)), none, none, none, none, none] ⟨rfl, ⟨rfl, ⟨rfl, trivial⟩⟩⟩ (h hR)
abbrev hd_X9_sound_7 (b : Bool) (Q : Int32 → xm_M → Prop)  (v2 : Int32) (μ : xm_M) : Prop := xs_RT b μ → xR k_X9_sound none true (fun r _ μ' => xs_RT b μ' ∧ ∃ x : Int32, r = some (.int x) ∧ Q x μ') 7 [some (.ref 75), none, some (.int v2), none] [] xs_sh (0, 0) μ
abbrev hd_X9_sound_35 (b : Bool) (Q : Int32 → xm_M → Prop)  (v2 : Int32) (v3 : Int32) (μ : xm_M) : Prop := xs_RT b μ → xR k_X9_sound none true (fun r _ μ' => xs_RT b μ' ∧ ∃ x : Int32, r = some (.int x) ∧ Q x μ') 35 [some (.ref 75), none, some (.int v2), some (.int v3)] [] xs_sh (0, 0) μ
abbrev hd_X9_sound_70 (b : Bool) (Q : Int32 → xm_M → Prop)  (v2 : Int32) (v3 : Int32) (μ : xm_M) : Prop := xs_RT b μ → xR k_X9_sound none true (fun r _ μ' => xs_RT b μ' ∧ ∃ x : Int32, r = some (.int x) ∧ Q x μ') 70 [some (.ref 75), none, some (.int v2), some (.int v3)] [] xs_sh (0, 0) μ
abbrev hd_X9_sound_91 (b : Bool) (Q : Int32 → xm_M → Prop)  (v2 : Int32) (v3 : Int32) (μ : xm_M) : Prop := xs_RT b μ → xR k_X9_sound none true (fun r _ μ' => xs_RT b μ' ∧ ∃ x : Int32, r = some (.int x) ∧ Q x μ') 91 [some (.ref 75), none, some (.int v2), some (.int v3)] [] xs_sh (0, 0) μ
abbrev hd_X9_sound_151 (b : Bool) (Q : Int32 → xm_M → Prop)  (v2 : Int32) (v3 : Int32) (μ : xm_M) : Prop := xs_RT b μ → xR k_X9_sound none true (fun r _ μ' => xs_RT b μ' ∧ ∃ x : Int32, r = some (.int x) ∧ Q x μ') 151 [some (.ref 75), none, some (.int v2), some (.int v3)] [] xs_sh (0, 0) μ
abbrev hd_X9_sound_174 (b : Bool) (Q : Int32 → xm_M → Prop)  (v3 : Int32) (μ : xm_M) : Prop := xs_RT b μ → xR k_X9_sound none true (fun r _ μ' => xs_RT b μ' ∧ ∃ x : Int32, r = some (.int x) ∧ Q x μ') 174 [some (.ref 75), none, none, some (.int v3)] [] xs_sh (0, 0) μ
set_option maxHeartbeats 4000000 in
set_option maxRecDepth 100000 in
theorem l_X9_sound_7 {b : Bool} {Q : Int32 → xm_M → Prop} {μ : xm_M}  (v2 : Int32) 
    (h : (((μ.1 75 31) ≤ v2 →
       hd_X9_sound_35 b Q  (nI 0) (nI 0) μ) ∧
      (¬ (μ.1 75 31) ≤ v2 →
       ∃ Q2 : Int32 → xm_M → Prop, xCi b b k_X9_curve μ [.ref 75, .int v2] Q2 ∧
       ∀ (r4 : Int32) (m3 : xm_M), Q2 r4 m3 →
       ((¬ r4 = 0 →
        ∀ x7 : Int32, x7 = v2 + nI 1 →
        hd_X9_sound_7 b Q  x7 m3) ∧
       (r4 = 0 →
        Q (nI 0) m3))))) :
    hd_X9_sound_7 b Q  v2 μ := by
  intro hR
  refine xs_iload_n dX9_sound_7 rfl ?_
  refine xs_aload_n dX9_sound_8 rfl ?_
  refine xs_getI dX9_sound_9 fl_X9_210.g rfl sc_75 ?_
  refine xs_icmp_ge 31 dX9_sound_12 (by decide) (fun c1 => ?_) (fun c1 => ?_)
  · replace h := h.1 c1
    refine xs_iconst (nI 0) dX9_sound_31 (by decide) ?_
    refine xs_istore_n [some (.ref 75), none, some (.int (nI 0)), none] dX9_sound_32 (by decide) rfl ?_
    refine xs_iconst (nI 0) dX9_sound_33 (by decide) ?_
    refine xs_istore_n [some (.ref 75), none, some (.int (nI 0)), some (.int (nI 0))] dX9_sound_34 (by decide) rfl ?_
    exact xs_loc [some (.ref 75), none, some (.int (nI 0)), some (.int (nI 0))] ⟨rfl, ⟨rfl, ⟨rfl, trivial⟩⟩⟩ (h hR)
  · replace h := h.2 c1
    refine xs_aload_n dX9_sound_15 rfl ?_
    refine xs_iload_n dX9_sound_16 rfl ?_
    obtain ⟨Q2, hQ2, h⟩ := h
    refine xs_callV (j := k_X9_curve) (As := [.int v2]) (S := []) dX9_sound_17 (hQ2 hR) ⟨ml_X9_285, mk_X9_curve.1, mk_X9_curve.2.1, mk_X9_curve.2.2⟩ mv_X9_curve ⟨Nat.le_of_ble_eq_true rfl, Nat.le_of_ble_eq_true rfl⟩ rfl (Nat.le_of_ble_eq_true rfl) sc_75 rfl ⟨rfl, rfl⟩ (fun rr m3 hq5 => ?_)
    obtain ⟨hR, r4, rfl, hq5⟩ := hq5
    replace h := h r4 m3 hq5
    refine xs_if_ne 25 dX9_sound_20 (by decide) (fun c6 => ?_) (fun c6 => ?_)
    · replace h := h.1 c6
      obtain ⟨x7, e_x7⟩ : ∃ z : Int32, z = v2 + nI 1 := ⟨_, rfl⟩
      replace h := h x7 e_x7
      refine xs_iinc x7 [some (.ref 75), none, some (.int x7), none] dX9_sound_25 (by decide) rfl (by rw [e_x7]; rfl) rfl ?_
      refine xs_goto 7 dX9_sound_28 (by decide) ?_
      exact xs_loc [some (.ref 75), none, some (.int x7), none] ⟨rfl, ⟨rfl, trivial⟩⟩ (h hR)
    · replace h := h.2 c6
      refine xs_iconst (nI 0) dX9_sound_23 (by decide) ?_
      exact xs_ret (some (.int (nI 0))) dX9_sound_24 rfl rfl ⟨hR, _, rfl, h⟩
set_option maxHeartbeats 4000000 in
set_option maxRecDepth 100000 in
theorem l_X9_sound_35 {b : Bool} {Q : Int32 → xm_M → Prop} {μ : xm_M}  (v2 : Int32) (v3 : Int32) 
    (h : (((μ.1 75 31) ≤ v3 →
       hd_X9_sound_70 b Q  v2 (nI 0) μ) ∧
      (¬ (μ.1 75 31) ≤ v3 →
       ((¬ v2 = 0 →
        ∀ x3 : Int32, x3 = v3 + nI 1 →
        hd_X9_sound_35 b Q  (nI 1) x3 μ) ∧
       (v2 = 0 →
        vp_in v3 2 ∧
        ((¬ (μ.1 99 (v3).toNatClampNeg) = 0 →
         ∀ x6 : Int32, x6 = v3 + nI 1 →
         hd_X9_sound_35 b Q  (nI 0) x6 μ) ∧
        ((μ.1 99 (v3).toNatClampNeg) = 0 →
         ∀ x7 : Int32, x7 = v3 + nI 1 →
         hd_X9_sound_35 b Q  (nI 1) x7 μ))))))) :
    hd_X9_sound_35 b Q  v2 v3 μ := by
  intro hR
  refine xs_iload_n dX9_sound_35 rfl ?_
  refine xs_aload_n dX9_sound_36 rfl ?_
  refine xs_getI dX9_sound_37 fl_X9_210.g rfl sc_75 ?_
  refine xs_icmp_ge 68 dX9_sound_40 (by decide) (fun c1 => ?_) (fun c1 => ?_)
  · replace h := h.1 c1
    refine xs_iconst (nI 0) dX9_sound_68 (by decide) ?_
    refine xs_istore_n [some (.ref 75), none, some (.int v2), some (.int (nI 0))] dX9_sound_69 (by decide) rfl ?_
    exact xs_loc [some (.ref 75), none, some (.int v2), some (.int (nI 0))] ⟨rfl, ⟨rfl, ⟨rfl, trivial⟩⟩⟩ (h hR)
  · replace h := h.2 c1
    refine xs_iload_n dX9_sound_43 rfl ?_
    refine xs_if_ne 56 dX9_sound_44 (by decide) (fun c2 => ?_) (fun c2 => ?_)
    · replace h := h.1 c2
      refine xs_iconst (nI 1) dX9_sound_56 (by decide) ?_
      refine xs_goto 61 dX9_sound_57 (by decide) ?_
      refine xs_istore_n [some (.ref 75), none, some (.int (nI 1)), some (.int v3)] dX9_sound_61 (by decide) rfl ?_
      obtain ⟨x3, e_x3⟩ : ∃ z : Int32, z = v3 + nI 1 := ⟨_, rfl⟩
      replace h := h x3 e_x3
      refine xs_iinc x3 [some (.ref 75), none, some (.int (nI 1)), some (.int x3)] dX9_sound_62 (by decide) rfl (by rw [e_x3]; rfl) rfl ?_
      refine xs_goto 35 dX9_sound_65 (by decide) ?_
      exact xs_loc [some (.ref 75), none, some (.int (nI 1)), some (.int x3)] ⟨rfl, ⟨rfl, ⟨rfl, trivial⟩⟩⟩ (h hR)
    · replace h := h.2 c2
      refine xs_aload_n dX9_sound_47 rfl ?_
      refine xs_getR dX9_sound_48 fl_X9_88 rfl sc_75 (rt_75_44 hR) ?_
      refine xs_iload_n dX9_sound_51 rfl ?_
      obtain ⟨s4, h⟩ := h
      refine xs_zald dX9_sound_52 sc_99 s4 ?_
      refine xs_if_ne 60 dX9_sound_53 (by decide) (fun c5 => ?_) (fun c5 => ?_)
      · replace h := h.1 c5
        refine xs_iconst (nI 0) dX9_sound_60 (by decide) ?_
        refine xs_istore_n [some (.ref 75), none, some (.int (nI 0)), some (.int v3)] dX9_sound_61 (by decide) rfl ?_
        obtain ⟨x6, e_x6⟩ : ∃ z : Int32, z = v3 + nI 1 := ⟨_, rfl⟩
        replace h := h x6 e_x6
        refine xs_iinc x6 [some (.ref 75), none, some (.int (nI 0)), some (.int x6)] dX9_sound_62 (by decide) rfl (by rw [e_x6]; rfl) rfl ?_
        refine xs_goto 35 dX9_sound_65 (by decide) ?_
        exact xs_loc [some (.ref 75), none, some (.int (nI 0)), some (.int x6)] ⟨rfl, ⟨rfl, ⟨rfl, trivial⟩⟩⟩ (h hR)
      · replace h := h.2 c5
        refine xs_iconst (nI 1) dX9_sound_56 (by decide) ?_
        refine xs_goto 61 dX9_sound_57 (by decide) ?_
        refine xs_istore_n [some (.ref 75), none, some (.int (nI 1)), some (.int v3)] dX9_sound_61 (by decide) rfl ?_
        obtain ⟨x7, e_x7⟩ : ∃ z : Int32, z = v3 + nI 1 := ⟨_, rfl⟩
        replace h := h x7 e_x7
        refine xs_iinc x7 [some (.ref 75), none, some (.int (nI 1)), some (.int x7)] dX9_sound_62 (by decide) rfl (by rw [e_x7]; rfl) rfl ?_
        refine xs_goto 35 dX9_sound_65 (by decide) ?_
        exact xs_loc [some (.ref 75), none, some (.int (nI 1)), some (.int x7)] ⟨rfl, ⟨rfl, ⟨rfl, trivial⟩⟩⟩ (h hR)
set_option maxHeartbeats 4000000 in
set_option maxRecDepth 100000 in
theorem l_X9_sound_70 {b : Bool} {Q : Int32 → xm_M → Prop} {μ : xm_M}  (v2 : Int32) (v3 : Int32) 
    (h : (((nI 32) ≤ v3 →
       hd_X9_sound_91 b Q  v2 (nI 0) μ) ∧
      (¬ (nI 32) ≤ v3 →
       vp_in v3 32 ∧
       ∀ m3 : xm_M, m3 = xu_L μ 101 (vp_updL (μ.2.1 101) (v3).toNatClampNeg (0 : Int64)) →
       ∀ x4 : Int32, x4 = v3 + nI 1 →
       hd_X9_sound_70 b Q  v2 x4 m3))) :
    hd_X9_sound_70 b Q  v2 v3 μ := by
  intro hR
  refine xs_iload_n dX9_sound_70 rfl ?_
  refine xs_bipush (nI 32) dX9_sound_71 (by decide) ?_
  refine xs_icmp_ge 89 dX9_sound_73 (by decide) (fun c1 => ?_) (fun c1 => ?_)
  · replace h := h.1 c1
    refine xs_iconst (nI 0) dX9_sound_89 (by decide) ?_
    refine xs_istore_n [some (.ref 75), none, some (.int v2), some (.int (nI 0))] dX9_sound_90 (by decide) rfl ?_
    exact xs_loc [some (.ref 75), none, some (.int v2), some (.int (nI 0))] ⟨rfl, ⟨rfl, ⟨rfl, trivial⟩⟩⟩ (h hR)
  · replace h := h.2 c1
    refine xs_aload_n dX9_sound_76 rfl ?_
    refine xs_getR dX9_sound_77 fl_X9_94 rfl sc_75 (rt_75_46 hR) ?_
    refine xs_iload_n dX9_sound_80 rfl ?_
    refine xs_lconst (0 : Int64) dX9_sound_81 (by decide) ?_
    obtain ⟨s2, h⟩ := h
    refine xs_last dX9_sound_82 sc_101 s2 ?_
    refine xs_nmM (fun m3 e_m3 => ?_)
    replace h := h m3 e_m3
    have hR : xs_RT b m3 := by rw [e_m3]; exact hR
    obtain ⟨x4, e_x4⟩ : ∃ z : Int32, z = v3 + nI 1 := ⟨_, rfl⟩
    replace h := h x4 e_x4
    refine xs_iinc x4 [some (.ref 75), none, some (.int v2), some (.int x4)] dX9_sound_83 (by decide) rfl (by rw [e_x4]; rfl) rfl ?_
    refine xs_goto 70 dX9_sound_86 (by decide) ?_
    exact xs_loc [some (.ref 75), none, some (.int v2), some (.int x4)] ⟨rfl, ⟨rfl, ⟨rfl, trivial⟩⟩⟩ (h hR)
set_option maxHeartbeats 4000000 in
set_option maxRecDepth 100000 in
theorem l_X9_sound_91 {b : Bool} {Q : Int32 → xm_M → Prop} {μ : xm_M}  (v2 : Int32) (v3 : Int32) 
    (h : (((μ.1 75 31) ≤ v3 →
       (((μ.1 75 38) = 0 →
        hd_X9_sound_174 b Q  (nI 0) μ) ∧
       (¬ (μ.1 75 38) = 0 →
        ((v2 = 0 →
         hd_X9_sound_174 b Q  (nI 0) μ) ∧
        (¬ v2 = 0 →
         ∃ Q4 : xm_M → Prop, xCv b b k_X9_leans μ [.ref 75] Q4 ∧
         ∀ m5 : xm_M, Q4 m5 →
         hd_X9_sound_174 b Q  (nI 0) m5))))) ∧
      (¬ (μ.1 75 31) ≤ v3 →
       (((μ.1 75 38) = 0 →
        vp_in v3 2 ∧
        ((¬ (μ.1 99 (v3).toNatClampNeg) = 0 →
         vp_in v3 2 ∧
         ∀ m12 : xm_M, m12 = xu_I μ 102 (upd (μ.1 102) (v3).toNatClampNeg (vp_nar .boolean (nI 0))) →
         vp_in v3 2 ∧
         (((m12.1 102 (v3).toNatClampNeg) = 0 →
          hd_X9_sound_151 b Q  v2 v3 m12) ∧
         (¬ (m12.1 102 (v3).toNatClampNeg) = 0 →
          ((¬ (m12.1 75 17) = 0 →
           hd_X9_sound_151 b Q  v2 v3 m12) ∧
          ((m12.1 75 17) = 0 →
           ∃ Q16 : xm_M → Prop, xCv b b k_X9_rests m12 [.ref 75, .int v3] Q16 ∧
           ∀ m17 : xm_M, Q16 m17 →
           hd_X9_sound_151 b Q  v2 v3 m17))))) ∧
        ((μ.1 99 (v3).toNatClampNeg) = 0 →
         vp_in v3 2 ∧
         ∀ m21 : xm_M, m21 = xu_I μ 102 (upd (μ.1 102) (v3).toNatClampNeg (vp_nar .boolean (nI 1))) →
         vp_in v3 2 ∧
         (((m21.1 102 (v3).toNatClampNeg) = 0 →
          hd_X9_sound_151 b Q  v2 v3 m21) ∧
         (¬ (m21.1 102 (v3).toNatClampNeg) = 0 →
          ((¬ (m21.1 75 17) = 0 →
           hd_X9_sound_151 b Q  v2 v3 m21) ∧
          ((m21.1 75 17) = 0 →
           ∃ Q25 : xm_M → Prop, xCv b b k_X9_rests m21 [.ref 75, .int v3] Q25 ∧
           ∀ m26 : xm_M, Q25 m26 →
           hd_X9_sound_151 b Q  v2 v3 m26))))))) ∧
       (¬ (μ.1 75 38) = 0 →
        vp_in v3 2 ∧
        ∀ m30 : xm_M, m30 = xu_I μ 102 (upd (μ.1 102) (v3).toNatClampNeg (vp_nar .boolean v2)) →
        vp_in v3 2 ∧
        (((m30.1 102 (v3).toNatClampNeg) = 0 →
         hd_X9_sound_151 b Q  v2 v3 m30) ∧
        (¬ (m30.1 102 (v3).toNatClampNeg) = 0 →
         ((¬ (m30.1 75 17) = 0 →
          hd_X9_sound_151 b Q  v2 v3 m30) ∧
         ((m30.1 75 17) = 0 →
          ∃ Q34 : xm_M → Prop, xCv b b k_X9_rests m30 [.ref 75, .int v3] Q34 ∧
          ∀ m35 : xm_M, Q34 m35 →
          hd_X9_sound_151 b Q  v2 v3 m35))))))))) :
    hd_X9_sound_91 b Q  v2 v3 μ := by
  intro hR
  refine xs_iload_n dX9_sound_91 rfl ?_
  refine xs_aload_n dX9_sound_92 rfl ?_
  refine xs_getI dX9_sound_93 fl_X9_210.g rfl sc_75 ?_
  refine xs_icmp_ge 157 dX9_sound_96 (by decide) (fun c1 => ?_) (fun c1 => ?_)
  · replace h := h.1 c1
    refine xs_aload_n dX9_sound_157 rfl ?_
    refine xs_getI dX9_sound_158 fl_X9_243.g rfl sc_75 ?_
    refine xs_if_eq 172 dX9_sound_161 (by decide) (fun c2 => ?_) (fun c2 => ?_)
    · replace h := h.1 c2
      refine xs_iconst (nI 0) dX9_sound_172 (by decide) ?_
      refine xs_istore_n [some (.ref 75), none, some (.int v2), some (.int (nI 0))] dX9_sound_173 (by decide) rfl ?_
      exact xs_loc [some (.ref 75), none, none, some (.int (nI 0))] ⟨rfl, ⟨rfl, trivial⟩⟩ (h hR)
    · replace h := h.2 c2
      refine xs_iload_n dX9_sound_164 rfl ?_
      refine xs_if_eq 172 dX9_sound_165 (by decide) (fun c3 => ?_) (fun c3 => ?_)
      · replace h := h.1 c3
        refine xs_iconst (nI 0) dX9_sound_172 (by decide) ?_
        refine xs_istore_n [some (.ref 75), none, some (.int v2), some (.int (nI 0))] dX9_sound_173 (by decide) rfl ?_
        exact xs_loc [some (.ref 75), none, none, some (.int (nI 0))] ⟨rfl, ⟨rfl, trivial⟩⟩ (h hR)
      · replace h := h.2 c3
        refine xs_aload_n dX9_sound_168 rfl ?_
        obtain ⟨Q4, hQ4, h⟩ := h
        refine xs_callV (j := k_X9_leans) (As := []) (S := []) dX9_sound_169 (hQ4 hR) ⟨ml_X9_291, mk_X9_leans.1, mk_X9_leans.2.1, mk_X9_leans.2.2⟩ mv_X9_leans ⟨Nat.le_of_ble_eq_true rfl, Nat.le_of_ble_eq_true rfl⟩ rfl (Nat.le_of_ble_eq_true rfl) sc_75 rfl ⟨rfl, rfl⟩ (fun rr m5 hq7 => ?_)
        obtain ⟨hR, rfl, hq7⟩ := hq7
        replace h := h m5 hq7
        refine xs_iconst (nI 0) dX9_sound_172 (by decide) ?_
        refine xs_istore_n [some (.ref 75), none, some (.int v2), some (.int (nI 0))] dX9_sound_173 (by decide) rfl ?_
        exact xs_loc [some (.ref 75), none, none, some (.int (nI 0))] ⟨rfl, ⟨rfl, trivial⟩⟩ (h hR)
  · replace h := h.2 c1
    refine xs_aload_n dX9_sound_99 rfl ?_
    refine xs_getR dX9_sound_100 fl_X9_97 rfl sc_75 (rt_75_47 hR) ?_
    refine xs_iload_n dX9_sound_103 rfl ?_
    refine xs_aload_n dX9_sound_104 rfl ?_
    refine xs_getI dX9_sound_105 fl_X9_243.g rfl sc_75 ?_
    refine xs_if_eq 115 dX9_sound_108 (by decide) (fun c8 => ?_) (fun c8 => ?_)
    · replace h := h.1 c8
      refine xs_aload_n dX9_sound_115 rfl ?_
      refine xs_getR dX9_sound_116 fl_X9_88 rfl sc_75 (rt_75_44 hR) ?_
      refine xs_iload_n dX9_sound_119 rfl ?_
      obtain ⟨s9, h⟩ := h
      refine xs_zald dX9_sound_120 sc_99 s9 ?_
      refine xs_if_ne 128 dX9_sound_121 (by decide) (fun c10 => ?_) (fun c10 => ?_)
      · replace h := h.1 c10
        refine xs_iconst (nI 0) dX9_sound_128 (by decide) ?_
        obtain ⟨s11, h⟩ := h
        refine xs_zast dX9_sound_129 sc_102 s11 ?_
        refine xs_nmM (fun m12 e_m12 => ?_)
        replace h := h m12 e_m12
        have hR : xs_RT b m12 := by rw [e_m12]; exact hR
        refine xs_aload_n dX9_sound_130 rfl ?_
        refine xs_getR dX9_sound_131 fl_X9_97 rfl sc_75 (rt_75_47 hR) ?_
        refine xs_iload_n dX9_sound_134 rfl ?_
        obtain ⟨s13, h⟩ := h
        refine xs_zald dX9_sound_135 sc_102 s13 ?_
        refine xs_if_eq 151 dX9_sound_136 (by decide) (fun c14 => ?_) (fun c14 => ?_)
        · replace h := h.1 c14
          exact xs_loc [some (.ref 75), none, some (.int v2), some (.int v3)] ⟨rfl, ⟨rfl, ⟨rfl, trivial⟩⟩⟩ (h hR)
        · replace h := h.2 c14
          refine xs_aload_n dX9_sound_139 rfl ?_
          refine xs_getI dX9_sound_140 fl_X9_174.g rfl sc_75 ?_
          refine xs_if_ne 151 dX9_sound_143 (by decide) (fun c15 => ?_) (fun c15 => ?_)
          · replace h := h.1 c15
            exact xs_loc [some (.ref 75), none, some (.int v2), some (.int v3)] ⟨rfl, ⟨rfl, ⟨rfl, trivial⟩⟩⟩ (h hR)
          · replace h := h.2 c15
            refine xs_aload_n dX9_sound_146 rfl ?_
            refine xs_iload_n dX9_sound_147 rfl ?_
            obtain ⟨Q16, hQ16, h⟩ := h
            refine xs_callV (j := k_X9_rests) (As := [.int v3]) (S := []) dX9_sound_148 (hQ16 hR) ⟨ml_X9_288, mk_X9_rests.1, mk_X9_rests.2.1, mk_X9_rests.2.2⟩ mv_X9_rests ⟨Nat.le_of_ble_eq_true rfl, Nat.le_of_ble_eq_true rfl⟩ rfl (Nat.le_of_ble_eq_true rfl) sc_75 rfl ⟨rfl, rfl⟩ (fun rr m17 hq19 => ?_)
            obtain ⟨hR, rfl, hq19⟩ := hq19
            replace h := h m17 hq19
            exact xs_loc [some (.ref 75), none, some (.int v2), some (.int v3)] ⟨rfl, ⟨rfl, ⟨rfl, trivial⟩⟩⟩ (h hR)
      · replace h := h.2 c10
        refine xs_iconst (nI 1) dX9_sound_124 (by decide) ?_
        refine xs_goto 129 dX9_sound_125 (by decide) ?_
        obtain ⟨s20, h⟩ := h
        refine xs_zast dX9_sound_129 sc_102 s20 ?_
        refine xs_nmM (fun m21 e_m21 => ?_)
        replace h := h m21 e_m21
        have hR : xs_RT b m21 := by rw [e_m21]; exact hR
        refine xs_aload_n dX9_sound_130 rfl ?_
        refine xs_getR dX9_sound_131 fl_X9_97 rfl sc_75 (rt_75_47 hR) ?_
        refine xs_iload_n dX9_sound_134 rfl ?_
        obtain ⟨s22, h⟩ := h
        refine xs_zald dX9_sound_135 sc_102 s22 ?_
        refine xs_if_eq 151 dX9_sound_136 (by decide) (fun c23 => ?_) (fun c23 => ?_)
        · replace h := h.1 c23
          exact xs_loc [some (.ref 75), none, some (.int v2), some (.int v3)] ⟨rfl, ⟨rfl, ⟨rfl, trivial⟩⟩⟩ (h hR)
        · replace h := h.2 c23
          refine xs_aload_n dX9_sound_139 rfl ?_
          refine xs_getI dX9_sound_140 fl_X9_174.g rfl sc_75 ?_
          refine xs_if_ne 151 dX9_sound_143 (by decide) (fun c24 => ?_) (fun c24 => ?_)
          · replace h := h.1 c24
            exact xs_loc [some (.ref 75), none, some (.int v2), some (.int v3)] ⟨rfl, ⟨rfl, ⟨rfl, trivial⟩⟩⟩ (h hR)
          · replace h := h.2 c24
            refine xs_aload_n dX9_sound_146 rfl ?_
            refine xs_iload_n dX9_sound_147 rfl ?_
            obtain ⟨Q25, hQ25, h⟩ := h
            refine xs_callV (j := k_X9_rests) (As := [.int v3]) (S := []) dX9_sound_148 (hQ25 hR) ⟨ml_X9_288, mk_X9_rests.1, mk_X9_rests.2.1, mk_X9_rests.2.2⟩ mv_X9_rests ⟨Nat.le_of_ble_eq_true rfl, Nat.le_of_ble_eq_true rfl⟩ rfl (Nat.le_of_ble_eq_true rfl) sc_75 rfl ⟨rfl, rfl⟩ (fun rr m26 hq28 => ?_)
            obtain ⟨hR, rfl, hq28⟩ := hq28
            replace h := h m26 hq28
            exact xs_loc [some (.ref 75), none, some (.int v2), some (.int v3)] ⟨rfl, ⟨rfl, ⟨rfl, trivial⟩⟩⟩ (h hR)
    · replace h := h.2 c8
      refine xs_iload_n dX9_sound_111 rfl ?_
      refine xs_goto 129 dX9_sound_112 (by decide) ?_
      obtain ⟨s29, h⟩ := h
      refine xs_zast dX9_sound_129 sc_102 s29 ?_
      refine xs_nmM (fun m30 e_m30 => ?_)
      replace h := h m30 e_m30
      have hR : xs_RT b m30 := by rw [e_m30]; exact hR
      refine xs_aload_n dX9_sound_130 rfl ?_
      refine xs_getR dX9_sound_131 fl_X9_97 rfl sc_75 (rt_75_47 hR) ?_
      refine xs_iload_n dX9_sound_134 rfl ?_
      obtain ⟨s31, h⟩ := h
      refine xs_zald dX9_sound_135 sc_102 s31 ?_
      refine xs_if_eq 151 dX9_sound_136 (by decide) (fun c32 => ?_) (fun c32 => ?_)
      · replace h := h.1 c32
        exact xs_loc [some (.ref 75), none, some (.int v2), some (.int v3)] ⟨rfl, ⟨rfl, ⟨rfl, trivial⟩⟩⟩ (h hR)
      · replace h := h.2 c32
        refine xs_aload_n dX9_sound_139 rfl ?_
        refine xs_getI dX9_sound_140 fl_X9_174.g rfl sc_75 ?_
        refine xs_if_ne 151 dX9_sound_143 (by decide) (fun c33 => ?_) (fun c33 => ?_)
        · replace h := h.1 c33
          exact xs_loc [some (.ref 75), none, some (.int v2), some (.int v3)] ⟨rfl, ⟨rfl, ⟨rfl, trivial⟩⟩⟩ (h hR)
        · replace h := h.2 c33
          refine xs_aload_n dX9_sound_146 rfl ?_
          refine xs_iload_n dX9_sound_147 rfl ?_
          obtain ⟨Q34, hQ34, h⟩ := h
          refine xs_callV (j := k_X9_rests) (As := [.int v3]) (S := []) dX9_sound_148 (hQ34 hR) ⟨ml_X9_288, mk_X9_rests.1, mk_X9_rests.2.1, mk_X9_rests.2.2⟩ mv_X9_rests ⟨Nat.le_of_ble_eq_true rfl, Nat.le_of_ble_eq_true rfl⟩ rfl (Nat.le_of_ble_eq_true rfl) sc_75 rfl ⟨rfl, rfl⟩ (fun rr m35 hq37 => ?_)
          obtain ⟨hR, rfl, hq37⟩ := hq37
          replace h := h m35 hq37
          exact xs_loc [some (.ref 75), none, some (.int v2), some (.int v3)] ⟨rfl, ⟨rfl, ⟨rfl, trivial⟩⟩⟩ (h hR)
set_option maxHeartbeats 4000000 in
set_option maxRecDepth 100000 in
theorem l_X9_sound_151 {b : Bool} {Q : Int32 → xm_M → Prop} {μ : xm_M}  (v2 : Int32) (v3 : Int32) 
    (h : ∀ x1 : Int32, x1 = v3 + nI 1 →
      hd_X9_sound_91 b Q  v2 x1 μ) :
    hd_X9_sound_151 b Q  v2 v3 μ := by
  intro hR
  obtain ⟨x1, e_x1⟩ : ∃ z : Int32, z = v3 + nI 1 := ⟨_, rfl⟩
  replace h := h x1 e_x1
  refine xs_iinc x1 [some (.ref 75), none, some (.int v2), some (.int x1)] dX9_sound_151 (by decide) rfl (by rw [e_x1]; rfl) rfl ?_
  refine xs_goto 91 dX9_sound_154 (by decide) ?_
  exact xs_loc [some (.ref 75), none, some (.int v2), some (.int x1)] ⟨rfl, ⟨rfl, ⟨rfl, trivial⟩⟩⟩ (h hR)
set_option maxHeartbeats 4000000 in
set_option maxRecDepth 100000 in
theorem l_X9_sound_174 {b : Bool} {Q : Int32 → xm_M → Prop} {μ : xm_M}  (v3 : Int32) 
    (h : (((μ.1 75 31) ≤ v3 →
       Q (nI 1) μ) ∧
      (¬ (μ.1 75 31) ≤ v3 →
       ∃ Q2 : xm_M → Prop, xCv b b k_X9_sums μ [.ref 75, .int v3] Q2 ∧
       ∀ m3 : xm_M, Q2 m3 →
       ∀ x6 : Int32, x6 = v3 + nI 1 →
       hd_X9_sound_174 b Q  x6 m3))) :
    hd_X9_sound_174 b Q  v3 μ := by
  intro hR
  refine xs_iload_n dX9_sound_174 rfl ?_
  refine xs_aload_n dX9_sound_175 rfl ?_
  refine xs_getI dX9_sound_176 fl_X9_210.g rfl sc_75 ?_
  refine xs_icmp_ge 193 dX9_sound_179 (by decide) (fun c1 => ?_) (fun c1 => ?_)
  · replace h := h.1 c1
    refine xs_iconst (nI 1) dX9_sound_193 (by decide) ?_
    exact xs_ret (some (.int (nI 1))) dX9_sound_194 rfl rfl ⟨hR, _, rfl, h⟩
  · replace h := h.2 c1
    refine xs_aload_n dX9_sound_182 rfl ?_
    refine xs_iload_n dX9_sound_183 rfl ?_
    obtain ⟨Q2, hQ2, h⟩ := h
    refine xs_callV (j := k_X9_sums) (As := [.int v3]) (S := []) dX9_sound_184 (hQ2 hR) ⟨ml_X9_294, mk_X9_sums.1, mk_X9_sums.2.1, mk_X9_sums.2.2⟩ mv_X9_sums ⟨Nat.le_of_ble_eq_true rfl, Nat.le_of_ble_eq_true rfl⟩ rfl (Nat.le_of_ble_eq_true rfl) sc_75 rfl ⟨rfl, rfl⟩ (fun rr m3 hq5 => ?_)
    obtain ⟨hR, rfl, hq5⟩ := hq5
    replace h := h m3 hq5
    obtain ⟨x6, e_x6⟩ : ∃ z : Int32, z = v3 + nI 1 := ⟨_, rfl⟩
    replace h := h x6 e_x6
    refine xs_iinc x6 [some (.ref 75), none, none, some (.int x6)] dX9_sound_187 (by decide) rfl (by rw [e_x6]; rfl) rfl ?_
    refine xs_goto 174 dX9_sound_190 (by decide) ?_
    exact xs_loc [some (.ref 75), none, none, some (.int x6)] ⟨rfl, ⟨rfl, trivial⟩⟩ (h hR)
set_option maxHeartbeats 4000000 in
set_option maxRecDepth 100000 in
theorem g_X9_sound {b : Bool} {Q : Int32 → xm_M → Prop} {μ : xm_M} (v1 : Int32) 
    (h : ∃ Q1 : xm_M → Prop, xCv b b k_X9_opens μ [.ref 75, .int v1] Q1 ∧
      ∀ m2 : xm_M, Q1 m2 →
      hd_X9_sound_7 b Q  (nI 0) m2) :
    xCi b b k_X9_sound μ [.ref 75, .int v1] Q := by
  intro hR
  refine xm_met [some (.ref 75), some (.int v1), none, none] 2 (by decide) (by simp [lg_sl, Value.category]) rfl ?_
  refine xs_aload_n dX9_sound_0 rfl ?_
  refine xs_iload_n dX9_sound_1 rfl ?_
  obtain ⟨Q1, hQ1, h⟩ := h
  refine xs_callV (j := k_X9_opens) (As := [.int v1]) (S := []) dX9_sound_2 (hQ1 hR) ⟨ml_X9_207, mk_X9_opens.1, mk_X9_opens.2.1, mk_X9_opens.2.2⟩ mv_X9_opens ⟨Nat.le_of_ble_eq_true rfl, Nat.le_of_ble_eq_true rfl⟩ rfl (Nat.le_of_ble_eq_true rfl) sc_75 rfl ⟨rfl, rfl⟩ (fun rr m2 hq4 => ?_)
  obtain ⟨hR, rfl, hq4⟩ := hq4
  replace h := h m2 hq4
  refine xs_iconst (nI 0) dX9_sound_5 (by decide) ?_
  refine xs_istore_n [some (.ref 75), some (.int v1), some (.int (nI 0)), none] dX9_sound_6 (by decide) rfl ?_
  exact xs_loc [some (.ref 75), none, some (.int (nI 0)), none] ⟨rfl, ⟨rfl, trivial⟩⟩ (h hR)
abbrev hd_X9_puts_11 (b : Bool) (Q : xm_M → Prop)  (v1 : Int32) (μ : xm_M) : Prop := xs_RT b μ → xR k_X9_puts none true (fun r _ μ' => xs_RT b μ' ∧ r = none ∧ Q μ') 11 [some (.ref 75), some (.int v1), none, none, none] [] xs_sh (0, 0) μ
abbrev hd_X9_puts_21 (b : Bool) (Q : xm_M → Prop)  (v1 : Int32) (v2 : Int32) (μ : xm_M) : Prop := xs_RT b μ → xR k_X9_puts none true (fun r _ μ' => xs_RT b μ' ∧ r = none ∧ Q μ') 21 [some (.ref 75), some (.int v1), some (.int v2), none, none] [] xs_sh (0, 0) μ
abbrev hd_X9_puts_129 (b : Bool) (Q : xm_M → Prop)  (v1 : Int32) (μ : xm_M) : Prop := xs_RT b μ → xR k_X9_puts none true (fun r _ μ' => xs_RT b μ' ∧ r = none ∧ Q μ') 129 [some (.ref 75), some (.int v1), none, none, none] [] xs_sh (0, 0) μ
set_option maxHeartbeats 4000000 in
set_option maxRecDepth 100000 in
theorem l_X9_puts_11 {b : Bool} {Q : xm_M → Prop} {μ : xm_M}  (v1 : Int32) 
    (h : (((μ.1 75 31) ≤ v1 →
       ∀ m2 : xm_M, m2 = xu_I μ 75 (upd (μ.1 75) 51 ((μ.1 75 51) + (nI 16))) →
       hd_X9_puts_129 b Q  (nI 0) m2) ∧
      (¬ (μ.1 75 31) ≤ v1 →
       hd_X9_puts_21 b Q  v1 (nI 0) μ))) :
    hd_X9_puts_11 b Q  v1 μ := by
  intro hR
  refine xs_iload_n dX9_puts_11 rfl ?_
  refine xs_aload_n dX9_puts_12 rfl ?_
  refine xs_getI dX9_puts_13 fl_X9_210.g rfl sc_75 ?_
  refine xs_icmp_ge 116 dX9_puts_16 (by decide) (fun c1 => ?_) (fun c1 => ?_)
  · replace h := h.1 c1
    refine xs_aload_n dX9_puts_116 rfl ?_
    refine xs_dup dX9_puts_117 rfl ?_
    refine xs_getI dX9_puts_118 fl_X9_297.g rfl sc_75 ?_
    refine xs_bipush (nI 16) dX9_puts_121 (by decide) ?_
    refine xs_iadd dX9_puts_123 ?_
    refine xs_putI dX9_puts_124 fl_X9_297 rfl rfl rfl sc_75 ?_
    refine xs_nmM (fun m2 e_m2 => ?_)
    replace h := h m2 e_m2
    have hR : xs_RT b m2 := by rw [e_m2]; exact hR
    refine xs_iconst (nI 0) dX9_puts_127 (by decide) ?_
    refine xs_istore_n [some (.ref 75), some (.int (nI 0)), none, none, none] dX9_puts_128 (by decide) rfl ?_
    exact xs_loc [some (.ref 75), some (.int (nI 0)), none, none, none] ⟨rfl, ⟨rfl, trivial⟩⟩ (h hR)
  · replace h := h.2 c1
    refine xs_iconst (nI 0) dX9_puts_19 (by decide) ?_
    refine xs_istore_n [some (.ref 75), some (.int v1), some (.int (nI 0)), none, none] dX9_puts_20 (by decide) rfl ?_
    exact xs_loc [some (.ref 75), some (.int v1), some (.int (nI 0)), none, none] ⟨rfl, ⟨rfl, ⟨rfl, trivial⟩⟩⟩ (h hR)
set_option maxHeartbeats 4000000 in
set_option maxRecDepth 100000 in
theorem l_X9_puts_21 {b : Bool} {Q : xm_M → Prop} {μ : xm_M}  (v1 : Int32) (v2 : Int32) 
    (h : (((nI 16) ≤ v2 →
       ∀ x2 : Int32, x2 = v1 + nI 1 →
       hd_X9_puts_11 b Q  x2 μ) ∧
      (¬ (nI 16) ≤ v2 →
       vp_in ((((nI 32) * v1) + (nI 16)) + v2) 64 ∧
       vp_in (((nI 32) * v1) + v2) 64 ∧
       ∀ x5 : Int64, x5 = (((μ.2.1 104 (((((nI 32) * v1) + (nI 16)) + v2)).toNatClampNeg) + (μ.2.1 103 ((((nI 32) * v1) + v2)).toNatClampNeg)) >>> (((nI 8)).toInt64 &&& 63)) →
       ((0 ≤ (lg_cmp x5 (-32768 : Int64)) →
        (((lg_cmp x5 (32767 : Int64)) ≤ 0 →
         vp_in ((((nI 960) * v1) + (μ.1 75 51)) + v2) 1920 ∧
         ∀ m9 : xm_M, m9 = xu_I μ 105 (upd (μ.1 105) (((((nI 960) * v1) + (μ.1 75 51)) + v2)).toNatClampNeg (x5).toInt32) →
         ∀ x10 : Int32, x10 = v2 + nI 1 →
         hd_X9_puts_21 b Q  v1 x10 m9) ∧
        (¬ (lg_cmp x5 (32767 : Int64)) ≤ 0 →
         vp_in ((((nI 960) * v1) + (μ.1 75 51)) + v2) 1920 ∧
         ∀ m12 : xm_M, m12 = xu_I μ 105 (upd (μ.1 105) (((((nI 960) * v1) + (μ.1 75 51)) + v2)).toNatClampNeg ((32767 : Int64)).toInt32) →
         ∀ x13 : Int32, x13 = v2 + nI 1 →
         hd_X9_puts_21 b Q  v1 x13 m12))) ∧
       (¬ 0 ≤ (lg_cmp x5 (-32768 : Int64)) →
        vp_in ((((nI 960) * v1) + (μ.1 75 51)) + v2) 1920 ∧
        ∀ m15 : xm_M, m15 = xu_I μ 105 (upd (μ.1 105) (((((nI 960) * v1) + (μ.1 75 51)) + v2)).toNatClampNeg ((-32768 : Int64)).toInt32) →
        ∀ x16 : Int32, x16 = v2 + nI 1 →
        hd_X9_puts_21 b Q  v1 x16 m15))))) :
    hd_X9_puts_21 b Q  v1 v2 μ := by
  intro hR
  refine xs_iload_n dX9_puts_21 rfl ?_
  refine xs_bipush (nI 16) dX9_puts_22 (by decide) ?_
  refine xs_icmp_ge 110 dX9_puts_24 (by decide) (fun c1 => ?_) (fun c1 => ?_)
  · replace h := h.1 c1
    obtain ⟨x2, e_x2⟩ : ∃ z : Int32, z = v1 + nI 1 := ⟨_, rfl⟩
    replace h := h x2 e_x2
    refine xs_iinc x2 [some (.ref 75), some (.int x2), some (.int v2), none, none] dX9_puts_110 (by decide) rfl (by rw [e_x2]; rfl) rfl ?_
    refine xs_goto 11 dX9_puts_113 (by decide) ?_
    exact xs_loc [some (.ref 75), some (.int x2), none, none, none] ⟨rfl, ⟨rfl, trivial⟩⟩ (h hR)
  · replace h := h.2 c1
    refine xs_aload_n dX9_puts_27 rfl ?_
    refine xs_getR dX9_puts_28 fl_X9_103 rfl sc_75 (rt_75_49 hR) ?_
    refine xs_bipush (nI 32) dX9_puts_31 (by decide) ?_
    refine xs_iload_n dX9_puts_33 rfl ?_
    refine xs_imul dX9_puts_34 ?_
    refine xs_bipush (nI 16) dX9_puts_35 (by decide) ?_
    refine xs_iadd dX9_puts_37 ?_
    refine xs_iload_n dX9_puts_38 rfl ?_
    refine xs_iadd dX9_puts_39 ?_
    obtain ⟨s3, h⟩ := h
    refine xs_lald dX9_puts_40 sc_104 s3 ?_
    refine xs_aload_n dX9_puts_41 rfl ?_
    refine xs_getR dX9_puts_42 fl_X9_100 rfl sc_75 (rt_75_48 hR) ?_
    refine xs_bipush (nI 32) dX9_puts_45 (by decide) ?_
    refine xs_iload_n dX9_puts_47 rfl ?_
    refine xs_imul dX9_puts_48 ?_
    refine xs_iload_n dX9_puts_49 rfl ?_
    refine xs_iadd dX9_puts_50 ?_
    obtain ⟨s4, h⟩ := h
    refine xs_lald dX9_puts_51 sc_103 s4 ?_
    refine xs_ladd dX9_puts_52 ?_
    refine xs_bipush (nI 8) dX9_puts_53 (by decide) ?_
    refine xs_lshr dX9_puts_55 ?_
    refine xs_nmL (fun x5 e_x5 => ?_)
    replace h := h x5 e_x5
    refine xs_lstore_n [some (.ref 75), some (.int v1), some (.int v2), some (.long x5), none] dX9_puts_56 (by decide) rfl ?_
    refine xs_aload_n dX9_puts_57 rfl ?_
    refine xs_getR dX9_puts_58 fl_X9_106 rfl sc_75 (rt_75_50 hR) ?_
    refine xs_sipush (nI 960) dX9_puts_61 (by decide) ?_
    refine xs_iload_n dX9_puts_64 rfl ?_
    refine xs_imul dX9_puts_65 ?_
    refine xs_aload_n dX9_puts_66 rfl ?_
    refine xs_getI dX9_puts_67 fl_X9_297.g rfl sc_75 ?_
    refine xs_iadd dX9_puts_70 ?_
    refine xs_iload_n dX9_puts_71 rfl ?_
    refine xs_iadd dX9_puts_72 ?_
    refine xs_lload_n dX9_puts_73 rfl ?_
    refine xs_ldc2 dX9_puts_74 cn_X9_300 ?_
    refine xs_lcmp dX9_puts_77 ?_
    refine xs_if_ge 87 dX9_puts_78 (by decide) (fun c6 => ?_) (fun c6 => ?_)
    · replace h := h.1 c6
      refine xs_lload_n dX9_puts_87 rfl ?_
      refine xs_ldc2 dX9_puts_88 cn_X9_302 ?_
      refine xs_lcmp dX9_puts_91 ?_
      refine xs_if_le 101 dX9_puts_92 (by decide) (fun c7 => ?_) (fun c7 => ?_)
      · replace h := h.1 c7
        refine xs_lload_n dX9_puts_101 rfl ?_
        refine xs_l2i dX9_puts_102 ?_
        obtain ⟨s8, h⟩ := h
        refine xs_iast dX9_puts_103 sc_105 s8 ?_
        refine xs_nmM (fun m9 e_m9 => ?_)
        replace h := h m9 e_m9
        have hR : xs_RT b m9 := by rw [e_m9]; exact hR
        obtain ⟨x10, e_x10⟩ : ∃ z : Int32, z = v2 + nI 1 := ⟨_, rfl⟩
        replace h := h x10 e_x10
        refine xs_iinc x10 [some (.ref 75), some (.int v1), some (.int x10), some (.long x5), none] dX9_puts_104 (by decide) rfl (by rw [e_x10]; rfl) rfl ?_
        refine xs_goto 21 dX9_puts_107 (by decide) ?_
        exact xs_loc [some (.ref 75), some (.int v1), some (.int x10), none, none] ⟨rfl, ⟨rfl, ⟨rfl, trivial⟩⟩⟩ (h hR)
      · replace h := h.2 c7
        refine xs_ldc2 dX9_puts_95 cn_X9_302 ?_
        refine xs_goto 102 dX9_puts_98 (by decide) ?_
        refine xs_l2i dX9_puts_102 ?_
        obtain ⟨s11, h⟩ := h
        refine xs_iast dX9_puts_103 sc_105 s11 ?_
        refine xs_nmM (fun m12 e_m12 => ?_)
        replace h := h m12 e_m12
        have hR : xs_RT b m12 := by rw [e_m12]; exact hR
        obtain ⟨x13, e_x13⟩ : ∃ z : Int32, z = v2 + nI 1 := ⟨_, rfl⟩
        replace h := h x13 e_x13
        refine xs_iinc x13 [some (.ref 75), some (.int v1), some (.int x13), some (.long x5), none] dX9_puts_104 (by decide) rfl (by rw [e_x13]; rfl) rfl ?_
        refine xs_goto 21 dX9_puts_107 (by decide) ?_
        exact xs_loc [some (.ref 75), some (.int v1), some (.int x13), none, none] ⟨rfl, ⟨rfl, ⟨rfl, trivial⟩⟩⟩ (h hR)
    · replace h := h.2 c6
      refine xs_ldc2 dX9_puts_81 cn_X9_300 ?_
      refine xs_goto 102 dX9_puts_84 (by decide) ?_
      refine xs_l2i dX9_puts_102 ?_
      obtain ⟨s14, h⟩ := h
      refine xs_iast dX9_puts_103 sc_105 s14 ?_
      refine xs_nmM (fun m15 e_m15 => ?_)
      replace h := h m15 e_m15
      have hR : xs_RT b m15 := by rw [e_m15]; exact hR
      obtain ⟨x16, e_x16⟩ : ∃ z : Int32, z = v2 + nI 1 := ⟨_, rfl⟩
      replace h := h x16 e_x16
      refine xs_iinc x16 [some (.ref 75), some (.int v1), some (.int x16), some (.long x5), none] dX9_puts_104 (by decide) rfl (by rw [e_x16]; rfl) rfl ?_
      refine xs_goto 21 dX9_puts_107 (by decide) ?_
      exact xs_loc [some (.ref 75), some (.int v1), some (.int x16), none, none] ⟨rfl, ⟨rfl, ⟨rfl, trivial⟩⟩⟩ (h hR)
set_option maxHeartbeats 4000000 in
set_option maxRecDepth 100000 in
theorem l_X9_puts_129 {b : Bool} {Q : xm_M → Prop} {μ : xm_M}  (v1 : Int32) 
    (h : (((nI 64) ≤ v1 →
       vp_in (nI 3) 8 ∧
       vp_in (nI 3) 8 ∧
       ∀ m4 : xm_M, m4 = xu_I μ 82 (upd (μ.1 82) ((nI 3)).toNatClampNeg ((μ.1 82 ((nI 3)).toNatClampNeg) + (nI 1))) →
       Q m4) ∧
      (¬ (nI 64) ≤ v1 →
       vp_in v1 64 ∧
       vp_in v1 64 ∧
       ∀ m7 : xm_M, m7 = xu_L μ 104 (vp_updL (μ.2.1 104) (v1).toNatClampNeg (μ.2.1 103 (v1).toNatClampNeg)) →
       ∀ x8 : Int32, x8 = v1 + nI 1 →
       hd_X9_puts_129 b Q  x8 m7))) :
    hd_X9_puts_129 b Q  v1 μ := by
  intro hR
  refine xs_iload_n dX9_puts_129 rfl ?_
  refine xs_bipush (nI 64) dX9_puts_130 (by decide) ?_
  refine xs_icmp_ge 153 dX9_puts_132 (by decide) (fun c1 => ?_) (fun c1 => ?_)
  · replace h := h.1 c1
    refine xs_aload_n dX9_puts_153 rfl ?_
    refine xs_getR dX9_puts_154 fl_X9_35 rfl sc_75 (rt_75_11 hR) ?_
    refine xs_iconst (nI 3) dX9_puts_157 (by decide) ?_
    refine xs_dup2 dX9_puts_158 rfl rfl ?_
    obtain ⟨s2, h⟩ := h
    refine xs_iald dX9_puts_159 sc_82 s2 ?_
    refine xs_iconst (nI 1) dX9_puts_160 (by decide) ?_
    refine xs_iadd dX9_puts_161 ?_
    obtain ⟨s3, h⟩ := h
    refine xs_iast dX9_puts_162 sc_82 s3 ?_
    refine xs_nmM (fun m4 e_m4 => ?_)
    replace h := h m4 e_m4
    have hR : xs_RT b m4 := by rw [e_m4]; exact hR
    exact xs_ret none dX9_puts_163 trivial rfl ⟨hR, rfl, h⟩
  · replace h := h.2 c1
    refine xs_aload_n dX9_puts_135 rfl ?_
    refine xs_getR dX9_puts_136 fl_X9_103 rfl sc_75 (rt_75_49 hR) ?_
    refine xs_iload_n dX9_puts_139 rfl ?_
    refine xs_aload_n dX9_puts_140 rfl ?_
    refine xs_getR dX9_puts_141 fl_X9_100 rfl sc_75 (rt_75_48 hR) ?_
    refine xs_iload_n dX9_puts_144 rfl ?_
    obtain ⟨s5, h⟩ := h
    refine xs_lald dX9_puts_145 sc_103 s5 ?_
    obtain ⟨s6, h⟩ := h
    refine xs_last dX9_puts_146 sc_104 s6 ?_
    refine xs_nmM (fun m7 e_m7 => ?_)
    replace h := h m7 e_m7
    have hR : xs_RT b m7 := by rw [e_m7]; exact hR
    obtain ⟨x8, e_x8⟩ : ∃ z : Int32, z = v1 + nI 1 := ⟨_, rfl⟩
    replace h := h x8 e_x8
    refine xs_iinc x8 [some (.ref 75), some (.int x8), none, none, none] dX9_puts_147 (by decide) rfl (by rw [e_x8]; rfl) rfl ?_
    refine xs_goto 129 dX9_puts_150 (by decide) ?_
    exact xs_loc [some (.ref 75), some (.int x8), none, none, none] ⟨rfl, ⟨rfl, trivial⟩⟩ (h hR)
set_option maxHeartbeats 4000000 in
set_option maxRecDepth 100000 in
theorem g_X9_puts {b : Bool} {Q : xm_M → Prop} {μ : xm_M}  
    (h : vp_in (nI 3) 8 ∧
      (((μ.1 82 ((nI 3)).toNatClampNeg) ≤ 0 →
       hd_X9_puts_129 b Q  (nI 0) μ) ∧
      (¬ (μ.1 82 ((nI 3)).toNatClampNeg) ≤ 0 →
       hd_X9_puts_11 b Q  (nI 0) μ))) :
    xCv b b k_X9_puts μ [.ref 75] Q := by
  intro hR
  refine xm_met [some (.ref 75), none, none, none, none] 4 (by decide) (by simp [lg_sl, Value.category]) rfl ?_
  refine xs_aload_n dX9_puts_0 rfl ?_
  refine xs_getR dX9_puts_1 fl_X9_35 rfl sc_75 (rt_75_11 hR) ?_
  refine xs_iconst (nI 3) dX9_puts_4 (by decide) ?_
  obtain ⟨s1, h⟩ := h
  refine xs_iald dX9_puts_5 sc_82 s1 ?_
  refine xs_if_le 127 dX9_puts_6 (by decide) (fun c2 => ?_) (fun c2 => ?_)
  · replace h := h.1 c2
    refine xs_iconst (nI 0) dX9_puts_127 (by decide) ?_
    refine xs_istore_n [some (.ref 75), some (.int (nI 0)), none, none, none] dX9_puts_128 (by decide) rfl ?_
    exact xs_loc [some (.ref 75), some (.int (nI 0)), none, none, none] ⟨rfl, ⟨rfl, trivial⟩⟩ (h hR)
  · replace h := h.2 c2
    refine xs_iconst (nI 0) dX9_puts_9 (by decide) ?_
    refine xs_istore_n [some (.ref 75), some (.int (nI 0)), none, none, none] dX9_puts_10 (by decide) rfl ?_
    exact xs_loc [some (.ref 75), some (.int (nI 0)), none, none, none] ⟨rfl, ⟨rfl, trivial⟩⟩ (h hR)
abbrev hd_X9_read_17 (b : Bool) (Q : Int32 → xm_M → Prop)  (v1 : Int32) (v2 : Int32) (μ : xm_M) : Prop := xs_RT b μ → xR k_X9_read none true (fun r _ μ' => xs_RT b μ' ∧ ∃ x : Int32, r = some (.int x) ∧ Q x μ') 17 [some (.ref 75), some (.int v1), some (.int v2)] [] xs_sh (0, 0) μ
abbrev hd_X9_read_99 (b : Bool) (Q : Int32 → xm_M → Prop)   (μ : xm_M) : Prop := xs_RT b μ → xR k_X9_read none true (fun r _ μ' => xs_RT b μ' ∧ ∃ x : Int32, r = some (.int x) ∧ Q x μ') 99 [some (.ref 75), none, none] [] xs_sh (0, 0) μ
abbrev hd_X9_read_129 (b : Bool) (Q : Int32 → xm_M → Prop)  (v2 : Int32) (μ : xm_M) : Prop := xs_RT b μ → xR k_X9_read none true (fun r _ μ' => xs_RT b μ' ∧ ∃ x : Int32, r = some (.int x) ∧ Q x μ') 129 [some (.ref 75), none, some (.int v2)] [] xs_sh (0, 0) μ
abbrev hd_X9_read_162 (b : Bool) (Q : Int32 → xm_M → Prop)  (v2 : Int32) (μ : xm_M) : Prop := xs_RT b μ → xR k_X9_read none true (fun r _ μ' => xs_RT b μ' ∧ ∃ x : Int32, r = some (.int x) ∧ Q x μ') 162 [some (.ref 75), none, some (.int v2)] [] xs_sh (0, 0) μ
set_option maxHeartbeats 4000000 in
set_option maxRecDepth 100000 in
theorem l_X9_read_17 {b : Bool} {Q : Int32 → xm_M → Prop} {μ : xm_M}  (v1 : Int32) (v2 : Int32) 
    (h : (((nI 8) ≤ v2 →
       ∀ m2 : xm_M, m2 = xu_I μ 75 (upd (μ.1 75) 7 (nI 0)) →
       ∀ m3 : xm_M, m3 = xu_I m2 75 (upd (m2.1 75) 51 (nI 0)) →
       ∀ m4 : xm_M, m4 = xu_I m3 75 (upd (m3.1 75) 19 (nI 0)) →
       ∀ m5 : xm_M, m5 = xu_I m4 75 (upd (m4.1 75) 31 (nI 0)) →
       ∀ m6 : xm_M, m6 = xu_I m5 75 (upd (m5.1 75) 12 (nI 0)) →
       ∃ Q7 : xm_M → Prop, xCv b b k_X9_begins m6 [.ref 75] Q7 ∧
       ∀ m8 : xm_M, Q7 m8 →
       ∃ Q11 : xm_M → Prop, xCv b b k_X9_pages m8 [.ref 75, .int v1] Q11 ∧
       ∀ m12 : xm_M, Q11 m12 →
       vp_in (nI 2) 8 ∧
       ∀ m16 : xm_M, m16 = xu_I m12 82 (upd (m12.1 82) ((nI 2)).toNatClampNeg (m12.1 75 7)) →
       ((¬ (m16.1 75 7) = 0 →
        ∃ Q18 : xm_M → Prop, xCv b b k_X9_setup m16 [.ref 75] Q18 ∧
        ∀ m19 : xm_M, Q18 m19 →
        hd_X9_read_99 b Q   m19) ∧
       ((m16.1 75 7) = 0 →
        ∃ Q22 : xm_M → Prop, xCv b b k_X9_wrong m16 [.ref 75, .int (nI 1)] Q22 ∧
        ∀ m23 : xm_M, Q22 m23 →
        hd_X9_read_99 b Q   m23))) ∧
      (¬ (nI 8) ≤ v2 →
       vp_in v2 8 ∧
       ∀ m27 : xm_M, m27 = xu_I μ 82 (upd (μ.1 82) (v2).toNatClampNeg (nI 0)) →
       ∀ x28 : Int32, x28 = v2 + nI 1 →
       hd_X9_read_17 b Q  v1 x28 m27))) :
    hd_X9_read_17 b Q  v1 v2 μ := by
  intro hR
  refine xs_iload_n dX9_read_17 rfl ?_
  refine xs_bipush (nI 8) dX9_read_18 (by decide) ?_
  refine xs_icmp_ge 36 dX9_read_20 (by decide) (fun c1 => ?_) (fun c1 => ?_)
  · replace h := h.1 c1
    refine xs_aload_n dX9_read_36 rfl ?_
    refine xs_iconst (nI 0) dX9_read_37 (by decide) ?_
    refine xs_putI dX9_read_38 fl_X9_138 rfl rfl rfl sc_75 ?_
    refine xs_nmM (fun m2 e_m2 => ?_)
    replace h := h m2 e_m2
    have hR : xs_RT b m2 := by rw [e_m2]; exact hR
    refine xs_aload_n dX9_read_41 rfl ?_
    refine xs_iconst (nI 0) dX9_read_42 (by decide) ?_
    refine xs_putI dX9_read_43 fl_X9_297 rfl rfl rfl sc_75 ?_
    refine xs_nmM (fun m3 e_m3 => ?_)
    replace h := h m3 e_m3
    have hR : xs_RT b m3 := by rw [e_m3]; exact hR
    refine xs_aload_n dX9_read_46 rfl ?_
    refine xs_iconst (nI 0) dX9_read_47 (by decide) ?_
    refine xs_putI dX9_read_48 fl_X9_181 rfl rfl rfl sc_75 ?_
    refine xs_nmM (fun m4 e_m4 => ?_)
    replace h := h m4 e_m4
    have hR : xs_RT b m4 := by rw [e_m4]; exact hR
    refine xs_aload_n dX9_read_51 rfl ?_
    refine xs_iconst (nI 0) dX9_read_52 (by decide) ?_
    refine xs_putI dX9_read_53 fl_X9_210 rfl rfl rfl sc_75 ?_
    refine xs_nmM (fun m5 e_m5 => ?_)
    replace h := h m5 e_m5
    have hR : xs_RT b m5 := by rw [e_m5]; exact hR
    refine xs_aload_n dX9_read_56 rfl ?_
    refine xs_iconst (nI 0) dX9_read_57 (by decide) ?_
    refine xs_putI dX9_read_58 fl_X9_148 rfl rfl rfl sc_75 ?_
    refine xs_nmM (fun m6 e_m6 => ?_)
    replace h := h m6 e_m6
    have hR : xs_RT b m6 := by rw [e_m6]; exact hR
    refine xs_aload_n dX9_read_61 rfl ?_
    obtain ⟨Q7, hQ7, h⟩ := h
    refine xs_callV (j := k_X9_begins) (As := []) (S := []) dX9_read_62 (hQ7 hR) ⟨ml_X9_141, mk_X9_begins.1, mk_X9_begins.2.1, mk_X9_begins.2.2⟩ mv_X9_begins ⟨Nat.le_of_ble_eq_true rfl, Nat.le_of_ble_eq_true rfl⟩ rfl (Nat.le_of_ble_eq_true rfl) sc_75 rfl ⟨rfl, rfl⟩ (fun rr m8 hq10 => ?_)
    obtain ⟨hR, rfl, hq10⟩ := hq10
    replace h := h m8 hq10
    refine xs_aload_n dX9_read_65 rfl ?_
    refine xs_iload_n dX9_read_66 rfl ?_
    obtain ⟨Q11, hQ11, h⟩ := h
    refine xs_callV (j := k_X9_pages) (As := [.int v1]) (S := []) dX9_read_67 (hQ11 hR) ⟨ml_X9_304, mk_X9_pages.1, mk_X9_pages.2.1, mk_X9_pages.2.2⟩ mv_X9_pages ⟨Nat.le_of_ble_eq_true rfl, Nat.le_of_ble_eq_true rfl⟩ rfl (Nat.le_of_ble_eq_true rfl) sc_75 rfl ⟨rfl, rfl⟩ (fun rr m12 hq14 => ?_)
    obtain ⟨hR, rfl, hq14⟩ := hq14
    replace h := h m12 hq14
    refine xs_aload_n dX9_read_70 rfl ?_
    refine xs_getR dX9_read_71 fl_X9_35 rfl sc_75 (rt_75_11 hR) ?_
    refine xs_iconst (nI 2) dX9_read_74 (by decide) ?_
    refine xs_aload_n dX9_read_75 rfl ?_
    refine xs_getI dX9_read_76 fl_X9_138.g rfl sc_75 ?_
    obtain ⟨s15, h⟩ := h
    refine xs_iast dX9_read_79 sc_82 s15 ?_
    refine xs_nmM (fun m16 e_m16 => ?_)
    replace h := h m16 e_m16
    have hR : xs_RT b m16 := by rw [e_m16]; exact hR
    refine xs_aload_n dX9_read_80 rfl ?_
    refine xs_getI dX9_read_81 fl_X9_138.g rfl sc_75 ?_
    refine xs_if_ne 95 dX9_read_84 (by decide) (fun c17 => ?_) (fun c17 => ?_)
    · replace h := h.1 c17
      refine xs_aload_n dX9_read_95 rfl ?_
      obtain ⟨Q18, hQ18, h⟩ := h
      refine xs_callV (j := k_X9_setup) (As := []) (S := []) dX9_read_96 (hQ18 hR) ⟨ml_X9_307, mk_X9_setup.1, mk_X9_setup.2.1, mk_X9_setup.2.2⟩ mv_X9_setup ⟨Nat.le_of_ble_eq_true rfl, Nat.le_of_ble_eq_true rfl⟩ rfl (Nat.le_of_ble_eq_true rfl) sc_75 rfl ⟨rfl, rfl⟩ (fun rr m19 hq21 => ?_)
      obtain ⟨hR, rfl, hq21⟩ := hq21
      replace h := h m19 hq21
      exact xs_loc [some (.ref 75), none, none] ⟨rfl, trivial⟩ (h hR)
    · replace h := h.2 c17
      refine xs_aload_n dX9_read_87 rfl ?_
      refine xs_iconst (nI 1) dX9_read_88 (by decide) ?_
      obtain ⟨Q22, hQ22, h⟩ := h
      refine xs_callV (j := k_X9_wrong) (As := [.int (nI 1)]) (S := []) dX9_read_89 (hQ22 hR) ⟨ml_X9_184, mk_X9_wrong.1, mk_X9_wrong.2.1, mk_X9_wrong.2.2⟩ mv_X9_wrong ⟨Nat.le_of_ble_eq_true rfl, Nat.le_of_ble_eq_true rfl⟩ rfl (Nat.le_of_ble_eq_true rfl) sc_75 rfl ⟨rfl, rfl⟩ (fun rr m23 hq25 => ?_)
      obtain ⟨hR, rfl, hq25⟩ := hq25
      replace h := h m23 hq25
      refine xs_goto 99 dX9_read_92 (by decide) ?_
      exact xs_loc [some (.ref 75), none, none] ⟨rfl, trivial⟩ (h hR)
  · replace h := h.2 c1
    refine xs_aload_n dX9_read_23 rfl ?_
    refine xs_getR dX9_read_24 fl_X9_35 rfl sc_75 (rt_75_11 hR) ?_
    refine xs_iload_n dX9_read_27 rfl ?_
    refine xs_iconst (nI 0) dX9_read_28 (by decide) ?_
    obtain ⟨s26, h⟩ := h
    refine xs_iast dX9_read_29 sc_82 s26 ?_
    refine xs_nmM (fun m27 e_m27 => ?_)
    replace h := h m27 e_m27
    have hR : xs_RT b m27 := by rw [e_m27]; exact hR
    obtain ⟨x28, e_x28⟩ : ∃ z : Int32, z = v2 + nI 1 := ⟨_, rfl⟩
    replace h := h x28 e_x28
    refine xs_iinc x28 [some (.ref 75), some (.int v1), some (.int x28)] dX9_read_30 (by decide) rfl (by rw [e_x28]; rfl) rfl ?_
    refine xs_goto 17 dX9_read_33 (by decide) ?_
    exact xs_loc [some (.ref 75), some (.int v1), some (.int x28)] ⟨rfl, ⟨rfl, ⟨rfl, trivial⟩⟩⟩ (h hR)
set_option maxHeartbeats 4000000 in
set_option maxRecDepth 100000 in
theorem l_X9_read_99 {b : Bool} {Q : Int32 → xm_M → Prop} {μ : xm_M}   
    (h : (((μ.1 75 19) ≤ 0 →
       vp_in (nI 5) 8 ∧
       ∀ m3 : xm_M, m3 = xu_I μ 82 (upd (μ.1 82) ((nI 5)).toNatClampNeg (μ.1 75 31)) →
       hd_X9_read_129 b Q  (nI 1) m3) ∧
      (¬ (μ.1 75 19) ≤ 0 →
       ∀ m4 : xm_M, m4 = xu_I μ 75 (upd (μ.1 75) 31 (nI 0)) →
       Q (-(m4.1 75 19)) m4))) :
    hd_X9_read_99 b Q   μ := by
  intro hR
  refine xs_aload_n dX9_read_99 rfl ?_
  refine xs_getI dX9_read_100 fl_X9_181.g rfl sc_75 ?_
  refine xs_if_le 117 dX9_read_103 (by decide) (fun c1 => ?_) (fun c1 => ?_)
  · replace h := h.1 c1
    refine xs_aload_n dX9_read_117 rfl ?_
    refine xs_getR dX9_read_118 fl_X9_35 rfl sc_75 (rt_75_11 hR) ?_
    refine xs_iconst (nI 5) dX9_read_121 (by decide) ?_
    refine xs_aload_n dX9_read_122 rfl ?_
    refine xs_getI dX9_read_123 fl_X9_210.g rfl sc_75 ?_
    obtain ⟨s2, h⟩ := h
    refine xs_iast dX9_read_126 sc_82 s2 ?_
    refine xs_nmM (fun m3 e_m3 => ?_)
    replace h := h m3 e_m3
    have hR : xs_RT b m3 := by rw [e_m3]; exact hR
    refine xs_iconst (nI 1) dX9_read_127 (by decide) ?_
    refine xs_istore_n [some (.ref 75), none, some (.int (nI 1))] dX9_read_128 (by decide) rfl ?_
    exact xs_loc [some (.ref 75), none, some (.int (nI 1))] ⟨rfl, ⟨rfl, trivial⟩⟩ (h hR)
  · replace h := h.2 c1
    refine xs_aload_n dX9_read_106 rfl ?_
    refine xs_iconst (nI 0) dX9_read_107 (by decide) ?_
    refine xs_putI dX9_read_108 fl_X9_210 rfl rfl rfl sc_75 ?_
    refine xs_nmM (fun m4 e_m4 => ?_)
    replace h := h m4 e_m4
    have hR : xs_RT b m4 := by rw [e_m4]; exact hR
    refine xs_aload_n dX9_read_111 rfl ?_
    refine xs_getI dX9_read_112 fl_X9_181.g rfl sc_75 ?_
    refine xs_ineg dX9_read_115 ?_
    exact xs_ret (some (.int (-(m4.1 75 19)))) dX9_read_116 rfl rfl ⟨hR, _, rfl, h⟩
set_option maxHeartbeats 4000000 in
set_option maxRecDepth 100000 in
theorem l_X9_read_129 {b : Bool} {Q : Int32 → xm_M → Prop} {μ : xm_M}  (v2 : Int32) 
    (h : (((μ.1 75 7) ≤ v2 →
       (((μ.1 75 12) = 0 →
        Q (μ.1 75 51) μ) ∧
       (¬ (μ.1 75 12) = 0 →
        (((lg_cmp (μ.2.1 75 13) (0 : Int64)) < 0 →
         Q (μ.1 75 51) μ) ∧
        (¬ (lg_cmp (μ.2.1 75 13) (0 : Int64)) < 0 →
         ((0 ≤ (lg_cmp (μ.2.1 75 13) ((μ.1 75 51)).toInt64) →
          Q (μ.1 75 51) μ) ∧
         (¬ 0 ≤ (lg_cmp (μ.2.1 75 13) ((μ.1 75 51)).toInt64) →
          ∀ m5 : xm_M, m5 = xu_I μ 75 (upd (μ.1 75) 51 ((μ.2.1 75 13)).toInt32) →
          Q (m5.1 75 51) m5))))))) ∧
      (¬ (μ.1 75 7) ≤ v2 →
       ∃ Q6 : Int32 → xm_M → Prop, xCi b b k_X9_sound μ [.ref 75, .int v2] Q6 ∧
       ∀ (r8 : Int32) (m7 : xm_M), Q6 r8 m7 →
       ((r8 = 0 →
        vp_in (nI 4) 8 ∧
        vp_in (nI 4) 8 ∧
        ∀ m13 : xm_M, m13 = xu_I m7 82 (upd (m7.1 82) ((nI 4)).toNatClampNeg ((m7.1 82 ((nI 4)).toNatClampNeg) + (nI 1))) →
        hd_X9_read_162 b Q  v2 m13) ∧
       (¬ r8 = 0 →
        ∃ Q14 : xm_M → Prop, xCv b b k_X9_puts m7 [.ref 75] Q14 ∧
        ∀ m15 : xm_M, Q14 m15 →
        hd_X9_read_162 b Q  v2 m15))))) :
    hd_X9_read_129 b Q  v2 μ := by
  intro hR
  refine xs_iload_n dX9_read_129 rfl ?_
  refine xs_aload_n dX9_read_130 rfl ?_
  refine xs_getI dX9_read_131 fl_X9_138.g rfl sc_75 ?_
  refine xs_icmp_ge 168 dX9_read_134 (by decide) (fun c1 => ?_) (fun c1 => ?_)
  · replace h := h.1 c1
    refine xs_aload_n dX9_read_168 rfl ?_
    refine xs_getI dX9_read_169 fl_X9_148.g rfl sc_75 ?_
    refine xs_if_eq 206 dX9_read_172 (by decide) (fun c2 => ?_) (fun c2 => ?_)
    · replace h := h.1 c2
      refine xs_aload_n dX9_read_206 rfl ?_
      refine xs_getI dX9_read_207 fl_X9_297.g rfl sc_75 ?_
      exact xs_ret (some (.int (μ.1 75 51))) dX9_read_210 rfl rfl ⟨hR, _, rfl, h⟩
    · replace h := h.2 c2
      refine xs_aload_n dX9_read_175 rfl ?_
      refine xs_getL dX9_read_176 fl_X9_151.g rfl sc_75 ?_
      refine xs_lconst (0 : Int64) dX9_read_179 (by decide) ?_
      refine xs_lcmp dX9_read_180 ?_
      refine xs_if_lt 206 dX9_read_181 (by decide) (fun c3 => ?_) (fun c3 => ?_)
      · replace h := h.1 c3
        refine xs_aload_n dX9_read_206 rfl ?_
        refine xs_getI dX9_read_207 fl_X9_297.g rfl sc_75 ?_
        exact xs_ret (some (.int (μ.1 75 51))) dX9_read_210 rfl rfl ⟨hR, _, rfl, h⟩
      · replace h := h.2 c3
        refine xs_aload_n dX9_read_184 rfl ?_
        refine xs_getL dX9_read_185 fl_X9_151.g rfl sc_75 ?_
        refine xs_aload_n dX9_read_188 rfl ?_
        refine xs_getI dX9_read_189 fl_X9_297.g rfl sc_75 ?_
        refine xs_i2l dX9_read_192 ?_
        refine xs_lcmp dX9_read_193 ?_
        refine xs_if_ge 206 dX9_read_194 (by decide) (fun c4 => ?_) (fun c4 => ?_)
        · replace h := h.1 c4
          refine xs_aload_n dX9_read_206 rfl ?_
          refine xs_getI dX9_read_207 fl_X9_297.g rfl sc_75 ?_
          exact xs_ret (some (.int (μ.1 75 51))) dX9_read_210 rfl rfl ⟨hR, _, rfl, h⟩
        · replace h := h.2 c4
          refine xs_aload_n dX9_read_197 rfl ?_
          refine xs_aload_n dX9_read_198 rfl ?_
          refine xs_getL dX9_read_199 fl_X9_151.g rfl sc_75 ?_
          refine xs_l2i dX9_read_202 ?_
          refine xs_putI dX9_read_203 fl_X9_297 rfl rfl rfl sc_75 ?_
          refine xs_nmM (fun m5 e_m5 => ?_)
          replace h := h m5 e_m5
          have hR : xs_RT b m5 := by rw [e_m5]; exact hR
          refine xs_aload_n dX9_read_206 rfl ?_
          refine xs_getI dX9_read_207 fl_X9_297.g rfl sc_75 ?_
          exact xs_ret (some (.int (m5.1 75 51))) dX9_read_210 rfl rfl ⟨hR, _, rfl, h⟩
  · replace h := h.2 c1
    refine xs_aload_n dX9_read_137 rfl ?_
    refine xs_iload_n dX9_read_138 rfl ?_
    obtain ⟨Q6, hQ6, h⟩ := h
    refine xs_callV (j := k_X9_sound) (As := [.int v2]) (S := []) dX9_read_139 (hQ6 hR) ⟨ml_X9_310, mk_X9_sound.1, mk_X9_sound.2.1, mk_X9_sound.2.2⟩ mv_X9_sound ⟨Nat.le_of_ble_eq_true rfl, Nat.le_of_ble_eq_true rfl⟩ rfl (Nat.le_of_ble_eq_true rfl) sc_75 rfl ⟨rfl, rfl⟩ (fun rr m7 hq9 => ?_)
    obtain ⟨hR, r8, rfl, hq9⟩ := hq9
    replace h := h r8 m7 hq9
    refine xs_if_eq 152 dX9_read_142 (by decide) (fun c10 => ?_) (fun c10 => ?_)
    · replace h := h.1 c10
      refine xs_aload_n dX9_read_152 rfl ?_
      refine xs_getR dX9_read_153 fl_X9_35 rfl sc_75 (rt_75_11 hR) ?_
      refine xs_iconst (nI 4) dX9_read_156 (by decide) ?_
      refine xs_dup2 dX9_read_157 rfl rfl ?_
      obtain ⟨s11, h⟩ := h
      refine xs_iald dX9_read_158 sc_82 s11 ?_
      refine xs_iconst (nI 1) dX9_read_159 (by decide) ?_
      refine xs_iadd dX9_read_160 ?_
      obtain ⟨s12, h⟩ := h
      refine xs_iast dX9_read_161 sc_82 s12 ?_
      refine xs_nmM (fun m13 e_m13 => ?_)
      replace h := h m13 e_m13
      have hR : xs_RT b m13 := by rw [e_m13]; exact hR
      exact xs_loc [some (.ref 75), none, some (.int v2)] ⟨rfl, ⟨rfl, trivial⟩⟩ (h hR)
    · replace h := h.2 c10
      refine xs_aload_n dX9_read_145 rfl ?_
      obtain ⟨Q14, hQ14, h⟩ := h
      refine xs_callV (j := k_X9_puts) (As := []) (S := []) dX9_read_146 (hQ14 hR) ⟨ml_X9_313, mk_X9_puts.1, mk_X9_puts.2.1, mk_X9_puts.2.2⟩ mv_X9_puts ⟨Nat.le_of_ble_eq_true rfl, Nat.le_of_ble_eq_true rfl⟩ rfl (Nat.le_of_ble_eq_true rfl) sc_75 rfl ⟨rfl, rfl⟩ (fun rr m15 hq17 => ?_)
      obtain ⟨hR, rfl, hq17⟩ := hq17
      replace h := h m15 hq17
      refine xs_goto 162 dX9_read_149 (by decide) ?_
      exact xs_loc [some (.ref 75), none, some (.int v2)] ⟨rfl, ⟨rfl, trivial⟩⟩ (h hR)
set_option maxHeartbeats 4000000 in
set_option maxRecDepth 100000 in
theorem l_X9_read_162 {b : Bool} {Q : Int32 → xm_M → Prop} {μ : xm_M}  (v2 : Int32) 
    (h : ∀ x1 : Int32, x1 = v2 + nI 1 →
      hd_X9_read_129 b Q  x1 μ) :
    hd_X9_read_162 b Q  v2 μ := by
  intro hR
  obtain ⟨x1, e_x1⟩ : ∃ z : Int32, z = v2 + nI 1 := ⟨_, rfl⟩
  replace h := h x1 e_x1
  refine xs_iinc x1 [some (.ref 75), none, some (.int x1)] dX9_read_162 (by decide) rfl (by rw [e_x1]; rfl) rfl ?_
  refine xs_goto 129 dX9_read_165 (by decide) ?_
  exact xs_loc [some (.ref 75), none, some (.int x1)] ⟨rfl, ⟨rfl, trivial⟩⟩ (h hR)
set_option maxHeartbeats 4000000 in
set_option maxRecDepth 100000 in
theorem g_X9_read {b : Bool} {Q : Int32 → xm_M → Prop} {μ : xm_M}  
    (h : ∀ m1 : xm_M, m1 = xu_I μ 75 (upd (μ.1 75) 0 (nI 0)) →
      ∀ m2 : xm_M, m2 = xu_I m1 75 (upd (m1.1 75) 2 (nI 0)) →
      hd_X9_read_17 b Q  (m1.1 75 2) (nI 0) m2) :
    xCi b b k_X9_read μ [.ref 75] Q := by
  intro hR
  refine xm_met [some (.ref 75), none, none] 2 (by decide) (by simp [lg_sl, Value.category]) rfl ?_
  refine xs_aload_n dX9_read_0 rfl ?_
  refine xs_iconst (nI 0) dX9_read_1 (by decide) ?_
  refine xs_putI dX9_read_2 fl_X9_1 rfl rfl rfl sc_75 ?_
  refine xs_nmM (fun m1 e_m1 => ?_)
  replace h := h m1 e_m1
  have hR : xs_RT b m1 := by rw [e_m1]; exact hR
  refine xs_aload_n dX9_read_5 rfl ?_
  refine xs_getI dX9_read_6 fl_X9_116.g rfl sc_75 ?_
  refine xs_istore_n [some (.ref 75), some (.int (m1.1 75 2)), none] dX9_read_9 (by decide) rfl ?_
  refine xs_aload_n dX9_read_10 rfl ?_
  refine xs_iconst (nI 0) dX9_read_11 (by decide) ?_
  refine xs_putI dX9_read_12 fl_X9_116 rfl rfl rfl sc_75 ?_
  refine xs_nmM (fun m2 e_m2 => ?_)
  replace h := h m2 e_m2
  have hR : xs_RT b m2 := by rw [e_m2]; exact hR
  refine xs_iconst (nI 0) dX9_read_15 (by decide) ?_
  refine xs_istore_n [some (.ref 75), some (.int (m1.1 75 2)), some (.int (nI 0))] dX9_read_16 (by decide) rfl ?_
  exact xs_loc [some (.ref 75), some (.int (m1.1 75 2)), some (.int (nI 0))] ⟨rfl, ⟨rfl, ⟨rfl, trivial⟩⟩⟩ (h hR)
set_option maxHeartbeats 4000000 in
set_option maxRecDepth 100000 in
theorem g_X9_sample {b : Bool} {Q : Int32 → xm_M → Prop} {μ : xm_M} (v1 : Int32) (v2 : Int32) 
    (h : ∀ m1 : xm_M, m1 = xu_I μ 75 (upd (μ.1 75) 0 (nI 0)) →
      ((v1 < 0 →
       Q (nI 0) m1) ∧
      (¬ v1 < 0 →
       (((m1.1 75 31) ≤ v1 →
        Q (nI 0) m1) ∧
       (¬ (m1.1 75 31) ≤ v1 →
        ((v2 < 0 →
         Q (nI 0) m1) ∧
        (¬ v2 < 0 →
         ((v2 < (m1.1 75 51) →
          vp_in (((nI 960) * v1) + v2) 1920 ∧
          Q (m1.1 105 ((((nI 960) * v1) + v2)).toNatClampNeg) m1) ∧
         (¬ v2 < (m1.1 75 51) →
          Q (nI 0) m1))))))))) :
    xCi b b k_X9_sample μ [.ref 75, .int v1, .int v2] Q := by
  intro hR
  refine xm_met [some (.ref 75), some (.int v1), some (.int v2)] 0 (by decide) (by simp [lg_sl, Value.category]) rfl ?_
  refine xs_aload_n dX9_sample_0 rfl ?_
  refine xs_iconst (nI 0) dX9_sample_1 (by decide) ?_
  refine xs_putI dX9_sample_2 fl_X9_1 rfl rfl rfl sc_75 ?_
  refine xs_nmM (fun m1 e_m1 => ?_)
  replace h := h m1 e_m1
  have hR : xs_RT b m1 := by rw [e_m1]; exact hR
  refine xs_iload_n dX9_sample_5 rfl ?_
  refine xs_if_lt 29 dX9_sample_6 (by decide) (fun c2 => ?_) (fun c2 => ?_)
  · replace h := h.1 c2
    refine xs_iconst (nI 0) dX9_sample_29 (by decide) ?_
    refine xs_goto 45 dX9_sample_30 (by decide) ?_
    exact xs_ret (some (.int (nI 0))) dX9_sample_45 rfl rfl ⟨hR, _, rfl, h⟩
  · replace h := h.2 c2
    refine xs_iload_n dX9_sample_9 rfl ?_
    refine xs_aload_n dX9_sample_10 rfl ?_
    refine xs_getI dX9_sample_11 fl_X9_210.g rfl sc_75 ?_
    refine xs_icmp_ge 29 dX9_sample_14 (by decide) (fun c3 => ?_) (fun c3 => ?_)
    · replace h := h.1 c3
      refine xs_iconst (nI 0) dX9_sample_29 (by decide) ?_
      refine xs_goto 45 dX9_sample_30 (by decide) ?_
      exact xs_ret (some (.int (nI 0))) dX9_sample_45 rfl rfl ⟨hR, _, rfl, h⟩
    · replace h := h.2 c3
      refine xs_iload_n dX9_sample_17 rfl ?_
      refine xs_if_lt 29 dX9_sample_18 (by decide) (fun c4 => ?_) (fun c4 => ?_)
      · replace h := h.1 c4
        refine xs_iconst (nI 0) dX9_sample_29 (by decide) ?_
        refine xs_goto 45 dX9_sample_30 (by decide) ?_
        exact xs_ret (some (.int (nI 0))) dX9_sample_45 rfl rfl ⟨hR, _, rfl, h⟩
      · replace h := h.2 c4
        refine xs_iload_n dX9_sample_21 rfl ?_
        refine xs_aload_n dX9_sample_22 rfl ?_
        refine xs_getI dX9_sample_23 fl_X9_297.g rfl sc_75 ?_
        refine xs_icmp_lt 33 dX9_sample_26 (by decide) (fun c5 => ?_) (fun c5 => ?_)
        · replace h := h.1 c5
          refine xs_aload_n dX9_sample_33 rfl ?_
          refine xs_getR dX9_sample_34 fl_X9_106 rfl sc_75 (rt_75_50 hR) ?_
          refine xs_sipush (nI 960) dX9_sample_37 (by decide) ?_
          refine xs_iload_n dX9_sample_40 rfl ?_
          refine xs_imul dX9_sample_41 ?_
          refine xs_iload_n dX9_sample_42 rfl ?_
          refine xs_iadd dX9_sample_43 ?_
          obtain ⟨s6, h⟩ := h
          refine xs_iald dX9_sample_44 sc_105 s6 ?_
          exact xs_ret (some (.int (m1.1 105 ((((nI 960) * v1) + v2)).toNatClampNeg))) dX9_sample_45 rfl rfl ⟨hR, _, rfl, h⟩
        · replace h := h.2 c5
          refine xs_iconst (nI 0) dX9_sample_29 (by decide) ?_
          refine xs_goto 45 dX9_sample_30 (by decide) ?_
          exact xs_ret (some (.int (nI 0))) dX9_sample_45 rfl rfl ⟨hR, _, rfl, h⟩
set_option maxHeartbeats 4000000 in
set_option maxRecDepth 100000 in
theorem g_X9_look {b : Bool} {Q : Int32 → xm_M → Prop} {μ : xm_M} (v1 : Int32) 
    (h : ∀ m1 : xm_M, m1 = xu_I μ 75 (upd (μ.1 75) 0 (nI 0)) →
      ((v1 < 0 →
       Q (-1 : Int32) m1) ∧
      (¬ v1 < 0 →
       ((v1 ≤ (nI 7) →
        vp_in v1 8 ∧
        Q (m1.1 82 (v1).toNatClampNeg) m1) ∧
       (¬ v1 ≤ (nI 7) →
        Q (-1 : Int32) m1))))) :
    xCi b b k_X9_look μ [.ref 75, .int v1] Q := by
  intro hR
  refine xm_met [some (.ref 75), some (.int v1)] 0 (by decide) (by simp [lg_sl, Value.category]) rfl ?_
  refine xs_aload_n dX9_look_0 rfl ?_
  refine xs_iconst (nI 0) dX9_look_1 (by decide) ?_
  refine xs_putI dX9_look_2 fl_X9_1 rfl rfl rfl sc_75 ?_
  refine xs_nmM (fun m1 e_m1 => ?_)
  replace h := h m1 e_m1
  have hR : xs_RT b m1 := by rw [e_m1]; exact hR
  refine xs_iload_n dX9_look_5 rfl ?_
  refine xs_if_lt 15 dX9_look_6 (by decide) (fun c2 => ?_) (fun c2 => ?_)
  · replace h := h.1 c2
    refine xs_iconst (-1 : Int32) dX9_look_15 (by decide) ?_
    refine xs_goto 25 dX9_look_16 (by decide) ?_
    exact xs_ret (some (.int (-1 : Int32))) dX9_look_25 rfl rfl ⟨hR, _, rfl, h⟩
  · replace h := h.2 c2
    refine xs_iload_n dX9_look_9 rfl ?_
    refine xs_bipush (nI 7) dX9_look_10 (by decide) ?_
    refine xs_icmp_le 19 dX9_look_12 (by decide) (fun c3 => ?_) (fun c3 => ?_)
    · replace h := h.1 c3
      refine xs_aload_n dX9_look_19 rfl ?_
      refine xs_getR dX9_look_20 fl_X9_35 rfl sc_75 (rt_75_11 hR) ?_
      refine xs_iload_n dX9_look_23 rfl ?_
      obtain ⟨s4, h⟩ := h
      refine xs_iald dX9_look_24 sc_82 s4 ?_
      exact xs_ret (some (.int (m1.1 82 (v1).toNatClampNeg))) dX9_look_25 rfl rfl ⟨hR, _, rfl, h⟩
    · replace h := h.2 c3
      refine xs_iconst (-1 : Int32) dX9_look_15 (by decide) ?_
      refine xs_goto 25 dX9_look_16 (by decide) ?_
      exact xs_ret (some (.int (-1 : Int32))) dX9_look_25 rfl rfl ⟨hR, _, rfl, h⟩
abbrev hd_X9_sum_9 (b : Bool) (Q : Int32 → xm_M → Prop)  (v1 : Int32) (v2 : Int32) (v3 : Int32) (μ : xm_M) : Prop := xs_RT b μ → xR k_X9_sum none true (fun r _ μ' => xs_RT b μ' ∧ ∃ x : Int32, r = some (.int x) ∧ Q x μ') 9 [some (.ref 75), some (.int v1), some (.int v2), some (.int v3)] [] xs_sh (0, 0) μ
set_option maxHeartbeats 4000000 in
set_option maxRecDepth 100000 in
theorem l_X9_sum_9 {b : Bool} {Q : Int32 → xm_M → Prop} {μ : xm_M}  (v1 : Int32) (v2 : Int32) (v3 : Int32) 
    (h : (((μ.1 75 51) ≤ v3 →
       Q v2 μ) ∧
      (¬ (μ.1 75 51) ≤ v3 →
       ((v1 < 0 →
        Q v2 μ) ∧
       (¬ v1 < 0 →
        (((μ.1 75 31) ≤ v1 →
         Q v2 μ) ∧
        (¬ (μ.1 75 31) ≤ v1 →
         vp_in (((nI 960) * v1) + v3) 1920 ∧
         ∀ x5 : Int32, x5 = (v2 + ((μ.1 105 ((((nI 960) * v1) + v3)).toNatClampNeg) * ((nI 1) + v3))) →
         ∀ x6 : Int32, x6 = v3 + nI 1 →
         hd_X9_sum_9 b Q  v1 x5 x6 μ))))))) :
    hd_X9_sum_9 b Q  v1 v2 v3 μ := by
  intro hR
  refine xs_iload_n dX9_sum_9 rfl ?_
  refine xs_aload_n dX9_sum_10 rfl ?_
  refine xs_getI dX9_sum_11 fl_X9_297.g rfl sc_75 ?_
  refine xs_icmp_ge 54 dX9_sum_14 (by decide) (fun c1 => ?_) (fun c1 => ?_)
  · replace h := h.1 c1
    refine xs_iload_n dX9_sum_54 rfl ?_
    exact xs_ret (some (.int v2)) dX9_sum_55 rfl rfl ⟨hR, _, rfl, h⟩
  · replace h := h.2 c1
    refine xs_iload_n dX9_sum_17 rfl ?_
    refine xs_if_lt 54 dX9_sum_18 (by decide) (fun c2 => ?_) (fun c2 => ?_)
    · replace h := h.1 c2
      refine xs_iload_n dX9_sum_54 rfl ?_
      exact xs_ret (some (.int v2)) dX9_sum_55 rfl rfl ⟨hR, _, rfl, h⟩
    · replace h := h.2 c2
      refine xs_iload_n dX9_sum_21 rfl ?_
      refine xs_aload_n dX9_sum_22 rfl ?_
      refine xs_getI dX9_sum_23 fl_X9_210.g rfl sc_75 ?_
      refine xs_icmp_ge 54 dX9_sum_26 (by decide) (fun c3 => ?_) (fun c3 => ?_)
      · replace h := h.1 c3
        refine xs_iload_n dX9_sum_54 rfl ?_
        exact xs_ret (some (.int v2)) dX9_sum_55 rfl rfl ⟨hR, _, rfl, h⟩
      · replace h := h.2 c3
        refine xs_iload_n dX9_sum_29 rfl ?_
        refine xs_aload_n dX9_sum_30 rfl ?_
        refine xs_getR dX9_sum_31 fl_X9_106 rfl sc_75 (rt_75_50 hR) ?_
        refine xs_sipush (nI 960) dX9_sum_34 (by decide) ?_
        refine xs_iload_n dX9_sum_37 rfl ?_
        refine xs_imul dX9_sum_38 ?_
        refine xs_iload_n dX9_sum_39 rfl ?_
        refine xs_iadd dX9_sum_40 ?_
        obtain ⟨s4, h⟩ := h
        refine xs_iald dX9_sum_41 sc_105 s4 ?_
        refine xs_iconst (nI 1) dX9_sum_42 (by decide) ?_
        refine xs_iload_n dX9_sum_43 rfl ?_
        refine xs_iadd dX9_sum_44 ?_
        refine xs_imul dX9_sum_45 ?_
        refine xs_iadd dX9_sum_46 ?_
        refine xs_nmI (fun x5 e_x5 => ?_)
        replace h := h x5 e_x5
        refine xs_istore_n [some (.ref 75), some (.int v1), some (.int x5), some (.int v3)] dX9_sum_47 (by decide) rfl ?_
        obtain ⟨x6, e_x6⟩ : ∃ z : Int32, z = v3 + nI 1 := ⟨_, rfl⟩
        replace h := h x6 e_x6
        refine xs_iinc x6 [some (.ref 75), some (.int v1), some (.int x5), some (.int x6)] dX9_sum_48 (by decide) rfl (by rw [e_x6]; rfl) rfl ?_
        refine xs_goto 9 dX9_sum_51 (by decide) ?_
        exact xs_loc [some (.ref 75), some (.int v1), some (.int x5), some (.int x6)] ⟨rfl, ⟨rfl, ⟨rfl, ⟨rfl, trivial⟩⟩⟩⟩ (h hR)
set_option maxHeartbeats 4000000 in
set_option maxRecDepth 100000 in
theorem g_X9_sum {b : Bool} {Q : Int32 → xm_M → Prop} {μ : xm_M} (v1 : Int32) 
    (h : ∀ m1 : xm_M, m1 = xu_I μ 75 (upd (μ.1 75) 0 (nI 0)) →
      hd_X9_sum_9 b Q  v1 (nI 0) (nI 0) m1) :
    xCi b b k_X9_sum μ [.ref 75, .int v1] Q := by
  intro hR
  refine xm_met [some (.ref 75), some (.int v1), none, none] 2 (by decide) (by simp [lg_sl, Value.category]) rfl ?_
  refine xs_aload_n dX9_sum_0 rfl ?_
  refine xs_iconst (nI 0) dX9_sum_1 (by decide) ?_
  refine xs_putI dX9_sum_2 fl_X9_1 rfl rfl rfl sc_75 ?_
  refine xs_nmM (fun m1 e_m1 => ?_)
  replace h := h m1 e_m1
  have hR : xs_RT b m1 := by rw [e_m1]; exact hR
  refine xs_iconst (nI 0) dX9_sum_5 (by decide) ?_
  refine xs_istore_n [some (.ref 75), some (.int v1), some (.int (nI 0)), none] dX9_sum_6 (by decide) rfl ?_
  refine xs_iconst (nI 0) dX9_sum_7 (by decide) ?_
  refine xs_istore_n [some (.ref 75), some (.int v1), some (.int (nI 0)), some (.int (nI 0))] dX9_sum_8 (by decide) rfl ?_
  exact xs_loc [some (.ref 75), some (.int v1), some (.int (nI 0)), some (.int (nI 0))] ⟨rfl, ⟨rfl, ⟨rfl, ⟨rfl, trivial⟩⟩⟩⟩ (h hR)
