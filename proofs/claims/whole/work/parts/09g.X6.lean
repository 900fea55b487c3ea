/-! walks of g.X6, printed by wip/gen/mkwalk.py -/
set_option maxHeartbeats 4000000 in
set_option maxRecDepth 100000 in
theorem g_X6_byteAt {b : Bool} {Q : Int32 → xm_M → Prop} {μ : xm_M} (v1 : Int32) 
    (h : ((v1 < 0 →
       Q (nI 0) μ) ∧
      (¬ v1 < 0 →
       (((μ.1 1 1) ≤ v1 →
        Q (nI 0) μ) ∧
       (¬ (μ.1 1 1) ≤ v1 →
        (((nI 6000) ≤ v1 →
         Q (nI 0) μ) ∧
        (¬ (nI 6000) ≤ v1 →
         vp_in v1 6000 ∧
         Q ((μ.1 2 (v1).toNatClampNeg) &&& (nI 255)) μ))))))) :
    xCi b b k_X6_byteAt μ [.ref 1, .int v1] Q := by
  intro hR
  refine xm_met [some (.ref 1), some (.int v1)] 0 (by decide) (by simp [lg_sl, Value.category]) rfl ?_
  refine xs_iload_n dX6_byteAt_0 rfl ?_
  refine xs_if_lt 34 dX6_byteAt_1 (by decide) (fun c1 => ?_) (fun c1 => ?_)
  · replace h := h.1 c1
    refine xs_iconst (nI 0) dX6_byteAt_34 (by decide) ?_
    exact xs_ret (some (.int (nI 0))) dX6_byteAt_35 rfl rfl ⟨hR, _, rfl, h⟩
  · replace h := h.2 c1
    refine xs_iload_n dX6_byteAt_4 rfl ?_
    refine xs_aload_n dX6_byteAt_5 rfl ?_
    refine xs_getI dX6_byteAt_6 fl_X6_13.g rfl sc_1 ?_
    refine xs_icmp_ge 34 dX6_byteAt_9 (by decide) (fun c2 => ?_) (fun c2 => ?_)
    · replace h := h.1 c2
      refine xs_iconst (nI 0) dX6_byteAt_34 (by decide) ?_
      exact xs_ret (some (.int (nI 0))) dX6_byteAt_35 rfl rfl ⟨hR, _, rfl, h⟩
    · replace h := h.2 c2
      refine xs_iload_n dX6_byteAt_12 rfl ?_
      refine xs_aload_n dX6_byteAt_13 rfl ?_
      refine xs_getR dX6_byteAt_14 fl_X6_9 rfl sc_1 (rt_1_0 hR) ?_
      refine xs_alen 1 dX6_byteAt_17 sc_2 (fun _ => rfl) ?_
      refine xs_icmp_ge 34 dX6_byteAt_18 (by decide) (fun c3 => ?_) (fun c3 => ?_)
      · replace h := h.1 c3
        refine xs_iconst (nI 0) dX6_byteAt_34 (by decide) ?_
        exact xs_ret (some (.int (nI 0))) dX6_byteAt_35 rfl rfl ⟨hR, _, rfl, h⟩
      · replace h := h.2 c3
        refine xs_aload_n dX6_byteAt_21 rfl ?_
        refine xs_getR dX6_byteAt_22 fl_X6_9 rfl sc_1 (rt_1_0 hR) ?_
        refine xs_iload_n dX6_byteAt_25 rfl ?_
        obtain ⟨s4, h⟩ := h
        refine xs_bald dX6_byteAt_26 sc_2 s4 ?_
        refine xs_sipush (nI 255) dX6_byteAt_27 (by decide) ?_
        refine xs_iand dX6_byteAt_30 ?_
        refine xs_goto 35 dX6_byteAt_31 (by decide) ?_
        exact xs_ret (some (.int ((μ.1 2 (v1).toNatClampNeg) &&& (nI 255)))) dX6_byteAt_35 rfl rfl ⟨hR, _, rfl, h⟩
set_option maxHeartbeats 4000000 in
set_option maxRecDepth 100000 in
theorem g_X6_setByte {b : Bool} {Q : xm_M → Prop} {μ : xm_M} (v1 : Int32) (v2 : Int32) 
    (h : ((v1 < 0 →
       Q μ) ∧
      (¬ v1 < 0 →
       (((nI 6000) ≤ v1 →
        Q μ) ∧
       (¬ (nI 6000) ≤ v1 →
        vp_in v1 6000 ∧
        ∀ m4 : xm_M, m4 = xu_I μ 2 (upd (μ.1 2) (v1).toNatClampNeg (vp_nar .byte (v2).toInt8.toInt32)) →
        Q m4))))) :
    xCv b b k_X6_setByte μ [.ref 1, .int v1, .int v2] Q := by
  intro hR
  refine xm_met [some (.ref 1), some (.int v1), some (.int v2)] 0 (by decide) (by simp [lg_sl, Value.category]) rfl ?_
  refine xs_iload_n dX6_setByte_0 rfl ?_
  refine xs_if_lt 21 dX6_setByte_1 (by decide) (fun c1 => ?_) (fun c1 => ?_)
  · replace h := h.1 c1
    exact xs_ret none dX6_setByte_21 trivial rfl ⟨hR, rfl, h⟩
  · replace h := h.2 c1
    refine xs_iload_n dX6_setByte_4 rfl ?_
    refine xs_aload_n dX6_setByte_5 rfl ?_
    refine xs_getR dX6_setByte_6 fl_X6_9 rfl sc_1 (rt_1_0 hR) ?_
    refine xs_alen 1 dX6_setByte_9 sc_2 (fun _ => rfl) ?_
    refine xs_icmp_ge 21 dX6_setByte_10 (by decide) (fun c2 => ?_) (fun c2 => ?_)
    · replace h := h.1 c2
      exact xs_ret none dX6_setByte_21 trivial rfl ⟨hR, rfl, h⟩
    · replace h := h.2 c2
      refine xs_aload_n dX6_setByte_13 rfl ?_
      refine xs_getR dX6_setByte_14 fl_X6_9 rfl sc_1 (rt_1_0 hR) ?_
      refine xs_iload_n dX6_setByte_17 rfl ?_
      refine xs_iload_n dX6_setByte_18 rfl ?_
      refine xs_i2b dX6_setByte_19 ?_
      obtain ⟨s3, h⟩ := h
      refine xs_bast dX6_setByte_20 sc_2 s3 ?_
      refine xs_nmM (fun m4 e_m4 => ?_)
      replace h := h m4 e_m4
      have hR : xs_RT b m4 := by rw [e_m4]; exact hR
      exact xs_ret none dX6_setByte_21 trivial rfl ⟨hR, rfl, h⟩
abbrev hd_X6_putHighestFirst_3 (b : Bool) (Q : xm_M → Prop)  (v1 : Int32) (v2 : Int32) (μ : xm_M) : Prop := xs_RT b μ → xR k_X6_putHighestFirst none true (fun r _ μ' => xs_RT b μ' ∧ r = none ∧ Q μ') 3 [some (.ref 1), some (.int v1), some (.int v2)] [] xs_sh (0, 0) μ
set_option maxHeartbeats 4000000 in
set_option maxRecDepth 100000 in
theorem l_X6_putHighestFirst_3 {b : Bool} {Q : xm_M → Prop} {μ : xm_M}  (v1 : Int32) (v2 : Int32) 
    (h : ((v2 < 0 →
       Q μ) ∧
      (¬ v2 < 0 →
       ∃ Q2 : xm_M → Prop, xCv b b k_X6_setByte μ [.ref 1, .int (μ.1 1 1), .int ((v1).toUInt32 >>> ((v2).toUInt32 &&& Int32.toUInt32 31)).toInt32] Q2 ∧
       ∀ m3 : xm_M, Q2 m3 →
       ∀ m6 : xm_M, m6 = xu_I m3 1 (upd (m3.1 1) 1 ((m3.1 1 1) + (nI 1))) →
       ∀ x7 : Int32, x7 = v2 + (-8) →
       hd_X6_putHighestFirst_3 b Q  v1 x7 m6))) :
    hd_X6_putHighestFirst_3 b Q  v1 v2 μ := by
  intro hR
  refine xs_iload_n dX6_putHighestFirst_3 rfl ?_
  refine xs_if_lt 34 dX6_putHighestFirst_4 (by decide) (fun c1 => ?_) (fun c1 => ?_)
  · replace h := h.1 c1
    exact xs_ret none dX6_putHighestFirst_34 trivial rfl ⟨hR, rfl, h⟩
  · replace h := h.2 c1
    refine xs_aload_n dX6_putHighestFirst_7 rfl ?_
    refine xs_aload_n dX6_putHighestFirst_8 rfl ?_
    refine xs_getI dX6_putHighestFirst_9 fl_X6_13.g rfl sc_1 ?_
    refine xs_iload_n dX6_putHighestFirst_12 rfl ?_
    refine xs_iload_n dX6_putHighestFirst_13 rfl ?_
    refine xs_iushr dX6_putHighestFirst_14 ?_
    obtain ⟨Q2, hQ2, h⟩ := h
    refine xs_callV (j := k_X6_setByte) (As := [.int (μ.1 1 1), .int ((v1).toUInt32 >>> ((v2).toUInt32 &&& Int32.toUInt32 31)).toInt32]) (S := []) dX6_putHighestFirst_15 (hQ2 hR) ⟨ml_X6_17, mk_X6_setByte.1, mk_X6_setByte.2.1, mk_X6_setByte.2.2⟩ mv_X6_setByte ⟨Nat.le_of_ble_eq_true rfl, Nat.le_of_ble_eq_true rfl⟩ rfl (Nat.le_of_ble_eq_true rfl) sc_1 rfl ⟨rfl, rfl⟩ (fun rr m3 hq5 => ?_)
    obtain ⟨hR, rfl, hq5⟩ := hq5
    replace h := h m3 hq5
    refine xs_aload_n dX6_putHighestFirst_18 rfl ?_
    refine xs_dup dX6_putHighestFirst_19 rfl ?_
    refine xs_getI dX6_putHighestFirst_20 fl_X6_13.g rfl sc_1 ?_
    refine xs_iconst (nI 1) dX6_putHighestFirst_23 (by decide) ?_
    refine xs_iadd dX6_putHighestFirst_24 ?_
    refine xs_putI dX6_putHighestFirst_25 fl_X6_13 rfl rfl rfl sc_1 ?_
    refine xs_nmM (fun m6 e_m6 => ?_)
    replace h := h m6 e_m6
    have hR : xs_RT b m6 := by rw [e_m6]; exact hR
    obtain ⟨x7, e_x7⟩ : ∃ z : Int32, z = v2 + (-8) := ⟨_, rfl⟩
    replace h := h x7 e_x7
    refine xs_iinc x7 [some (.ref 1), some (.int v1), some (.int x7)] dX6_putHighestFirst_28 (by decide) rfl (by rw [e_x7]; rfl) rfl ?_
    refine xs_goto 3 dX6_putHighestFirst_31 (by decide) ?_
    exact xs_loc [some (.ref 1), some (.int v1), some (.int x7)] ⟨rfl, ⟨rfl, ⟨rfl, trivial⟩⟩⟩ (h hR)
set_option maxHeartbeats 4000000 in
set_option maxRecDepth 100000 in
theorem g_X6_putHighestFirst {b : Bool} {Q : xm_M → Prop} {μ : xm_M} (v1 : Int32) 
    (h : hd_X6_putHighestFirst_3 b Q  v1 (nI 24) μ) :
    xCv b b k_X6_putHighestFirst μ [.ref 1, .int v1] Q := by
  intro hR
  refine xm_met [some (.ref 1), some (.int v1), none] 1 (by decide) (by simp [lg_sl, Value.category]) rfl ?_
  refine xs_bipush (nI 24) dX6_putHighestFirst_0 (by decide) ?_
  refine xs_istore_n [some (.ref 1), some (.int v1), some (.int (nI 24))] dX6_putHighestFirst_2 (by decide) rfl ?_
  exact xs_loc [some (.ref 1), some (.int v1), some (.int (nI 24))] ⟨rfl, ⟨rfl, ⟨rfl, trivial⟩⟩⟩ (h hR)
abbrev hd_X6_writeFour_2 (b : Bool) (Q : xm_M → Prop)  (v1 : Int32) (v2 : Int32) (v3 : Int32) (μ : xm_M) : Prop := xs_RT b μ → xR k_X6_writeFour none true (fun r _ μ' => xs_RT b μ' ∧ r = none ∧ Q μ') 2 [some (.ref 1), some (.int v1), some (.int v2), some (.int v3)] [] xs_sh (0, 0) μ
set_option maxHeartbeats 4000000 in
set_option maxRecDepth 100000 in
theorem l_X6_writeFour_2 {b : Bool} {Q : xm_M → Prop} {μ : xm_M}  (v1 : Int32) (v2 : Int32) (v3 : Int32) 
    (h : (((nI 4) ≤ v3 →
       Q μ) ∧
      (¬ (nI 4) ≤ v3 →
       ∃ Q2 : xm_M → Prop, xCv b b k_X6_setByte μ [.ref 1, .int (v1 + v3), .int ((v2).toUInt32 >>> ((((nI 8) * v3)).toUInt32 &&& Int32.toUInt32 31)).toInt32] Q2 ∧
       ∀ m3 : xm_M, Q2 m3 →
       ∀ x6 : Int32, x6 = v3 + nI 1 →
       hd_X6_writeFour_2 b Q  v1 v2 x6 m3))) :
    hd_X6_writeFour_2 b Q  v1 v2 v3 μ := by
  intro hR
  refine xs_iload_n dX6_writeFour_2 rfl ?_
  refine xs_iconst (nI 4) dX6_writeFour_3 (by decide) ?_
  refine xs_icmp_ge 26 dX6_writeFour_4 (by decide) (fun c1 => ?_) (fun c1 => ?_)
  · replace h := h.1 c1
    exact xs_ret none dX6_writeFour_26 trivial rfl ⟨hR, rfl, h⟩
  · replace h := h.2 c1
    refine xs_aload_n dX6_writeFour_7 rfl ?_
    refine xs_iload_n dX6_writeFour_8 rfl ?_
    refine xs_iload_n dX6_writeFour_9 rfl ?_
    refine xs_iadd dX6_writeFour_10 ?_
    refine xs_iload_n dX6_writeFour_11 rfl ?_
    refine xs_bipush (nI 8) dX6_writeFour_12 (by decide) ?_
    refine xs_iload_n dX6_writeFour_14 rfl ?_
    refine xs_imul dX6_writeFour_15 ?_
    refine xs_iushr dX6_writeFour_16 ?_
    obtain ⟨Q2, hQ2, h⟩ := h
    refine xs_callV (j := k_X6_setByte) (As := [.int (v1 + v3), .int ((v2).toUInt32 >>> ((((nI 8) * v3)).toUInt32 &&& Int32.toUInt32 31)).toInt32]) (S := []) dX6_writeFour_17 (hQ2 hR) ⟨ml_X6_17, mk_X6_setByte.1, mk_X6_setByte.2.1, mk_X6_setByte.2.2⟩ mv_X6_setByte ⟨Nat.le_of_ble_eq_true rfl, Nat.le_of_ble_eq_true rfl⟩ rfl (Nat.le_of_ble_eq_true rfl) sc_1 rfl ⟨rfl, rfl⟩ (fun rr m3 hq5 => ?_)
    obtain ⟨hR, rfl, hq5⟩ := hq5
    replace h := h m3 hq5
    obtain ⟨x6, e_x6⟩ : ∃ z : Int32, z = v3 + nI 1 := ⟨_, rfl⟩
    replace h := h x6 e_x6
    refine xs_iinc x6 [some (.ref 1), some (.int v1), some (.int v2), some (.int x6)] dX6_writeFour_20 (by decide) rfl (by rw [e_x6]; rfl) rfl ?_
    refine xs_goto 2 dX6_writeFour_23 (by decide) ?_
    exact xs_loc [some (.ref 1), some (.int v1), some (.int v2), some (.int x6)] ⟨rfl, ⟨rfl, ⟨rfl, ⟨rfl, trivial⟩⟩⟩⟩ (h hR)
set_option maxHeartbeats 4000000 in
set_option maxRecDepth 100000 in
theorem g_X6_writeFour {b : Bool} {Q : xm_M → Prop} {μ : xm_M} (v1 : Int32) (v2 : Int32) 
    (h : hd_X6_writeFour_2 b Q  v1 v2 (nI 0) μ) :
    xCv b b k_X6_writeFour μ [.ref 1, .int v1, .int v2] Q := by
  intro hR
  refine xm_met [some (.ref 1), some (.int v1), some (.int v2), none] 1 (by decide) (by simp [lg_sl, Value.category]) rfl ?_
  refine xs_iconst (nI 0) dX6_writeFour_0 (by decide) ?_
  refine xs_istore_n [some (.ref 1), some (.int v1), some (.int v2), some (.int (nI 0))] dX6_writeFour_1 (by decide) rfl ?_
  exact xs_loc [some (.ref 1), some (.int v1), some (.int v2), some (.int (nI 0))] ⟨rfl, ⟨rfl, ⟨rfl, ⟨rfl, trivial⟩⟩⟩⟩ (h hR)
abbrev hd_X6_fourAt_4 (b : Bool) (Q : Int32 → xm_M → Prop)  (v1 : Int32) (v2 : Int32) (v3 : Int32) (μ : xm_M) : Prop := xs_RT b μ → xR k_X6_fourAt none true (fun r _ μ' => xs_RT b μ' ∧ ∃ x : Int32, r = some (.int x) ∧ Q x μ') 4 [some (.ref 1), some (.int v1), some (.int v2), some (.int v3)] [] xs_sh (0, 0) μ
set_option maxHeartbeats 4000000 in
set_option maxRecDepth 100000 in
theorem l_X6_fourAt_4 {b : Bool} {Q : Int32 → xm_M → Prop} {μ : xm_M}  (v1 : Int32) (v2 : Int32) (v3 : Int32) 
    (h : ((v3 < 0 →
       Q v2 μ) ∧
      (¬ v3 < 0 →
       ∃ Q2 : Int32 → xm_M → Prop, xCi b b k_X6_byteAt μ [.ref 1, .int (v1 + v3)] Q2 ∧
       ∀ (r4 : Int32) (m3 : xm_M), Q2 r4 m3 →
       ∀ x6 : Int32, x6 = ((v2 <<< ((nI 8) &&& 31)) ||| r4) →
       ∀ x7 : Int32, x7 = v3 + (-1) →
       hd_X6_fourAt_4 b Q  v1 x6 x7 m3))) :
    hd_X6_fourAt_4 b Q  v1 v2 v3 μ := by
  intro hR
  refine xs_iload_n dX6_fourAt_4 rfl ?_
  refine xs_if_lt 27 dX6_fourAt_5 (by decide) (fun c1 => ?_) (fun c1 => ?_)
  · replace h := h.1 c1
    refine xs_iload_n dX6_fourAt_27 rfl ?_
    exact xs_ret (some (.int v2)) dX6_fourAt_28 rfl rfl ⟨hR, _, rfl, h⟩
  · replace h := h.2 c1
    refine xs_iload_n dX6_fourAt_8 rfl ?_
    refine xs_bipush (nI 8) dX6_fourAt_9 (by decide) ?_
    refine xs_ishl dX6_fourAt_11 ?_
    refine xs_aload_n dX6_fourAt_12 rfl ?_
    refine xs_iload_n dX6_fourAt_13 rfl ?_
    refine xs_iload_n dX6_fourAt_14 rfl ?_
    refine xs_iadd dX6_fourAt_15 ?_
    obtain ⟨Q2, hQ2, h⟩ := h
    refine xs_callV (j := k_X6_byteAt) (As := [.int (v1 + v3)]) (S := [.int (v2 <<< ((nI 8) &&& 31))]) dX6_fourAt_16 (hQ2 hR) ⟨ml_X6_21, mk_X6_byteAt.1, mk_X6_byteAt.2.1, mk_X6_byteAt.2.2⟩ mv_X6_byteAt ⟨Nat.le_of_ble_eq_true rfl, Nat.le_of_ble_eq_true rfl⟩ rfl (Nat.le_of_ble_eq_true rfl) sc_1 rfl ⟨rfl, rfl⟩ (fun rr m3 hq5 => ?_)
    obtain ⟨hR, r4, rfl, hq5⟩ := hq5
    replace h := h r4 m3 hq5
    refine xs_ior dX6_fourAt_19 ?_
    refine xs_nmI (fun x6 e_x6 => ?_)
    replace h := h x6 e_x6
    refine xs_istore_n [some (.ref 1), some (.int v1), some (.int x6), some (.int v3)] dX6_fourAt_20 (by decide) rfl ?_
    obtain ⟨x7, e_x7⟩ : ∃ z : Int32, z = v3 + (-1) := ⟨_, rfl⟩
    replace h := h x7 e_x7
    refine xs_iinc x7 [some (.ref 1), some (.int v1), some (.int x6), some (.int x7)] dX6_fourAt_21 (by decide) rfl (by rw [e_x7]; rfl) rfl ?_
    refine xs_goto 4 dX6_fourAt_24 (by decide) ?_
    exact xs_loc [some (.ref 1), some (.int v1), some (.int x6), some (.int x7)] ⟨rfl, ⟨rfl, ⟨rfl, ⟨rfl, trivial⟩⟩⟩⟩ (h hR)
set_option maxHeartbeats 4000000 in
set_option maxRecDepth 100000 in
theorem g_X6_fourAt {b : Bool} {Q : Int32 → xm_M → Prop} {μ : xm_M} (v1 : Int32) 
    (h : hd_X6_fourAt_4 b Q  v1 (nI 0) (nI 3) μ) :
    xCi b b k_X6_fourAt μ [.ref 1, .int v1] Q := by
  intro hR
  refine xm_met [some (.ref 1), some (.int v1), none, none] 2 (by decide) (by simp [lg_sl, Value.category]) rfl ?_
  refine xs_iconst (nI 0) dX6_fourAt_0 (by decide) ?_
  refine xs_istore_n [some (.ref 1), some (.int v1), some (.int (nI 0)), none] dX6_fourAt_1 (by decide) rfl ?_
  refine xs_iconst (nI 3) dX6_fourAt_2 (by decide) ?_
  refine xs_istore_n [some (.ref 1), some (.int v1), some (.int (nI 0)), some (.int (nI 3))] dX6_fourAt_3 (by decide) rfl ?_
  exact xs_loc [some (.ref 1), some (.int v1), some (.int (nI 0)), some (.int (nI 3))] ⟨rfl, ⟨rfl, ⟨rfl, ⟨rfl, trivial⟩⟩⟩⟩ (h hR)
set_option maxHeartbeats 4000000 in
set_option maxRecDepth 100000 in
theorem g_X6_eightAt {b : Bool} {Q : Int64 → xm_M → Prop} {μ : xm_M} (v1 : Int32) 
    (h : ∃ Q1 : Int32 → xm_M → Prop, xCi b b k_X6_fourAt μ [.ref 1, .int v1] Q1 ∧
      ∀ (r3 : Int32) (m2 : xm_M), Q1 r3 m2 →
      ∀ x5 : Int64, x5 = ((r3).toInt64 &&& (4294967295 : Int64)) →
      ∃ Q6 : Int32 → xm_M → Prop, xCi b b k_X6_fourAt m2 [.ref 1, .int (v1 + (nI 4))] Q6 ∧
      ∀ (r8 : Int32) (m7 : xm_M), Q6 r8 m7 →
      Q (((r8).toInt64 <<< (((nI 32)).toInt64 &&& 63)) ||| x5) m7) :
    xCl b b k_X6_eightAt μ [.ref 1, .int v1] Q := by
  intro hR
  refine xm_met [some (.ref 1), some (.int v1), none, none] 2 (by decide) (by simp [lg_sl, Value.category]) rfl ?_
  refine xs_aload_n dX6_eightAt_0 rfl ?_
  refine xs_iload_n dX6_eightAt_1 rfl ?_
  obtain ⟨Q1, hQ1, h⟩ := h
  refine xs_callV (j := k_X6_fourAt) (As := [.int v1]) (S := []) dX6_eightAt_2 (hQ1 hR) ⟨ml_X6_25, mk_X6_fourAt.1, mk_X6_fourAt.2.1, mk_X6_fourAt.2.2⟩ mv_X6_fourAt ⟨Nat.le_of_ble_eq_true rfl, Nat.le_of_ble_eq_true rfl⟩ rfl (Nat.le_of_ble_eq_true rfl) sc_1 rfl ⟨rfl, rfl⟩ (fun rr m2 hq4 => ?_)
  obtain ⟨hR, r3, rfl, hq4⟩ := hq4
  replace h := h r3 m2 hq4
  refine xs_i2l dX6_eightAt_5 ?_
  refine xs_ldc2 dX6_eightAt_6 cn_X6_28 ?_
  refine xs_land dX6_eightAt_9 ?_
  refine xs_nmL (fun x5 e_x5 => ?_)
  replace h := h x5 e_x5
  refine xs_lstore_n [some (.ref 1), some (.int v1), some (.long x5), none] dX6_eightAt_10 (by decide) rfl ?_
  refine xs_aload_n dX6_eightAt_11 rfl ?_
  refine xs_iload_n dX6_eightAt_12 rfl ?_
  refine xs_iconst (nI 4) dX6_eightAt_13 (by decide) ?_
  refine xs_iadd dX6_eightAt_14 ?_
  obtain ⟨Q6, hQ6, h⟩ := h
  refine xs_callV (j := k_X6_fourAt) (As := [.int (v1 + (nI 4))]) (S := []) dX6_eightAt_15 (hQ6 hR) ⟨ml_X6_25, mk_X6_fourAt.1, mk_X6_fourAt.2.1, mk_X6_fourAt.2.2⟩ mv_X6_fourAt ⟨Nat.le_of_ble_eq_true rfl, Nat.le_of_ble_eq_true rfl⟩ rfl (Nat.le_of_ble_eq_true rfl) sc_1 rfl ⟨rfl, rfl⟩ (fun rr m7 hq9 => ?_)
  obtain ⟨hR, r8, rfl, hq9⟩ := hq9
  replace h := h r8 m7 hq9
  refine xs_i2l dX6_eightAt_18 ?_
  refine xs_bipush (nI 32) dX6_eightAt_19 (by decide) ?_
  refine xs_lshl dX6_eightAt_21 ?_
  refine xs_lload_n dX6_eightAt_22 rfl ?_
  refine xs_lor dX6_eightAt_23 ?_
  exact xs_ret (some (.long (((r8).toInt64 <<< (((nI 32)).toInt64 &&& 63)) ||| x5))) dX6_eightAt_24 trivial rfl ⟨hR, _, rfl, h⟩
set_option maxHeartbeats 4000000 in
set_option maxRecDepth 100000 in
theorem g_X6_openGap {b : Bool} {Q : xm_M → Prop} {μ : xm_M} (v1 : Int32) (v2 : Int32) 
    (h : ∀ x1 : Int32, x1 = ((μ.1 1 1) - v1) →
      ((v1 < 0 →
       Q μ) ∧
      (¬ v1 < 0 →
       ((x1 < 0 →
        Q μ) ∧
       (¬ x1 < 0 →
        ((v2 < 0 →
         Q μ) ∧
        (¬ v2 < 0 →
         ((((μ.1 1 1) + v2) ≤ (nI 6000) →
          (¬ v1 < 0 ∧ ¬ (v1 + v2) < 0 ∧ ¬ x1 < 0 ∧ (v1).toNatClampNeg + (x1).toNatClampNeg ≤ 6000 ∧ ((v1 + v2)).toNatClampNeg + (x1).toNatClampNeg ≤ 6000 ∧ ∀ i, i < (x1).toNatClampNeg → fits .byte (.int (μ.1 2 ((v1).toNatClampNeg + i))) = true) ∧
          ∀ m6 : xm_M, m6 = xu_I μ 2 (va_cpy (μ.1 2) (μ.1 2) (v1).toNatClampNeg ((v1 + v2)).toNatClampNeg (x1).toNatClampNeg) →
          ∀ m8 : xm_M, m8 = xu_I m6 1 (upd (m6.1 1) 1 ((m6.1 1 1) + v2)) →
          Q m8) ∧
         (¬ ((μ.1 1 1) + v2) ≤ (nI 6000) →
          Q μ))))))))) :
    xCv b b k_X6_openGap μ [.ref 1, .int v1, .int v2] Q := by
  intro hR
  refine xm_met [some (.ref 1), some (.int v1), some (.int v2), none] 1 (by decide) (by simp [lg_sl, Value.category]) rfl ?_
  refine xs_aload_n dX6_openGap_0 rfl ?_
  refine xs_getI dX6_openGap_1 fl_X6_13.g rfl sc_1 ?_
  refine xs_iload_n dX6_openGap_4 rfl ?_
  refine xs_isub dX6_openGap_5 ?_
  refine xs_nmI (fun x1 e_x1 => ?_)
  replace h := h x1 e_x1
  refine xs_istore_n [some (.ref 1), some (.int v1), some (.int v2), some (.int x1)] dX6_openGap_6 (by decide) rfl ?_
  refine xs_iload_n dX6_openGap_7 rfl ?_
  refine xs_if_lt 33 dX6_openGap_8 (by decide) (fun c2 => ?_) (fun c2 => ?_)
  · replace h := h.1 c2
    exact xs_ret none dX6_openGap_33 trivial rfl ⟨hR, rfl, h⟩
  · replace h := h.2 c2
    refine xs_iload_n dX6_openGap_11 rfl ?_
    refine xs_if_lt 33 dX6_openGap_12 (by decide) (fun c3 => ?_) (fun c3 => ?_)
    · replace h := h.1 c3
      exact xs_ret none dX6_openGap_33 trivial rfl ⟨hR, rfl, h⟩
    · replace h := h.2 c3
      refine xs_iload_n dX6_openGap_15 rfl ?_
      refine xs_if_lt 33 dX6_openGap_16 (by decide) (fun c4 => ?_) (fun c4 => ?_)
      · replace h := h.1 c4
        exact xs_ret none dX6_openGap_33 trivial rfl ⟨hR, rfl, h⟩
      · replace h := h.2 c4
        refine xs_aload_n dX6_openGap_19 rfl ?_
        refine xs_getI dX6_openGap_20 fl_X6_13.g rfl sc_1 ?_
        refine xs_iload_n dX6_openGap_23 rfl ?_
        refine xs_iadd dX6_openGap_24 ?_
        refine xs_aload_n dX6_openGap_25 rfl ?_
        refine xs_getR dX6_openGap_26 fl_X6_9 rfl sc_1 (rt_1_0 hR) ?_
        refine xs_alen 1 dX6_openGap_29 sc_2 (fun _ => rfl) ?_
        refine xs_icmp_le 34 dX6_openGap_30 (by decide) (fun c5 => ?_) (fun c5 => ?_)
        · replace h := h.1 c5
          refine xs_aload_n dX6_openGap_34 rfl ?_
          refine xs_getR dX6_openGap_35 fl_X6_9 rfl sc_1 (rt_1_0 hR) ?_
          refine xs_iload_n dX6_openGap_38 rfl ?_
          refine xs_aload_n dX6_openGap_39 rfl ?_
          refine xs_getR dX6_openGap_40 fl_X6_9 rfl sc_1 (rt_1_0 hR) ?_
          refine xs_iload_n dX6_openGap_43 rfl ?_
          refine xs_iload_n dX6_openGap_44 rfl ?_
          refine xs_iadd dX6_openGap_45 ?_
          refine xs_iload_n dX6_openGap_46 rfl ?_
          obtain ⟨s7, h⟩ := h
          refine xs_copyb dX6_openGap_47 ml_X6_30 sc_2 sc_2 s7.1 s7.2.1 s7.2.2.1 s7.2.2.2.1 s7.2.2.2.2.1 s7.2.2.2.2.2 (Nat.le_of_ble_eq_true rfl) (Nat.le_of_ble_eq_true rfl) ?_
          refine xs_nmM (fun m6 e_m6 => ?_)
          replace h := h m6 e_m6
          have hR : xs_RT b m6 := by rw [e_m6]; exact hR
          refine xs_aload_n dX6_openGap_50 rfl ?_
          refine xs_dup dX6_openGap_51 rfl ?_
          refine xs_getI dX6_openGap_52 fl_X6_13.g rfl sc_1 ?_
          refine xs_iload_n dX6_openGap_55 rfl ?_
          refine xs_iadd dX6_openGap_56 ?_
          refine xs_putI dX6_openGap_57 fl_X6_13 rfl rfl rfl sc_1 ?_
          refine xs_nmM (fun m8 e_m8 => ?_)
          replace h := h m8 e_m8
          have hR : xs_RT b m8 := by rw [e_m8]; exact hR
          exact xs_ret none dX6_openGap_60 trivial rfl ⟨hR, rfl, h⟩
        · replace h := h.2 c5
          exact xs_ret none dX6_openGap_33 trivial rfl ⟨hR, rfl, h⟩
set_option maxHeartbeats 4000000 in
set_option maxRecDepth 100000 in
theorem g_X6_moveBack {b : Bool} {Q : xm_M → Prop} {μ : xm_M} (v1 : Int32) (v2 : Int32) (v3 : Int32) 
    (h : ((v1 < 0 →
       Q μ) ∧
      (¬ v1 < 0 →
       ((v2 < 0 →
        Q μ) ∧
       (¬ v2 < 0 →
        ((v3 < 0 →
         Q μ) ∧
        (¬ v3 < 0 →
         (((nI 6000) < (v1 + v3) →
          Q μ) ∧
         (¬ (nI 6000) < (v1 + v3) →
          (((v2 + v3) ≤ (nI 6000) →
           (¬ v1 < 0 ∧ ¬ v2 < 0 ∧ ¬ v3 < 0 ∧ (v1).toNatClampNeg + (v3).toNatClampNeg ≤ 6000 ∧ (v2).toNatClampNeg + (v3).toNatClampNeg ≤ 6000 ∧ ∀ i, i < (v3).toNatClampNeg → fits .byte (.int (μ.1 2 ((v1).toNatClampNeg + i))) = true) ∧
           ∀ m6 : xm_M, m6 = xu_I μ 2 (va_cpy (μ.1 2) (μ.1 2) (v1).toNatClampNeg (v2).toNatClampNeg (v3).toNatClampNeg) →
           Q m6) ∧
          (¬ (v2 + v3) ≤ (nI 6000) →
           Q μ))))))))))) :
    xCv b b k_X6_moveBack μ [.ref 1, .int v1, .int v2, .int v3] Q := by
  intro hR
  refine xm_met [some (.ref 1), some (.int v1), some (.int v2), some (.int v3)] 0 (by decide) (by simp [lg_sl, Value.category]) rfl ?_
  refine xs_iload_n dX6_moveBack_0 rfl ?_
  refine xs_if_lt 34 dX6_moveBack_1 (by decide) (fun c1 => ?_) (fun c1 => ?_)
  · replace h := h.1 c1
    exact xs_ret none dX6_moveBack_34 trivial rfl ⟨hR, rfl, h⟩
  · replace h := h.2 c1
    refine xs_iload_n dX6_moveBack_4 rfl ?_
    refine xs_if_lt 34 dX6_moveBack_5 (by decide) (fun c2 => ?_) (fun c2 => ?_)
    · replace h := h.1 c2
      exact xs_ret none dX6_moveBack_34 trivial rfl ⟨hR, rfl, h⟩
    · replace h := h.2 c2
      refine xs_iload_n dX6_moveBack_8 rfl ?_
      refine xs_if_lt 34 dX6_moveBack_9 (by decide) (fun c3 => ?_) (fun c3 => ?_)
      · replace h := h.1 c3
        exact xs_ret none dX6_moveBack_34 trivial rfl ⟨hR, rfl, h⟩
      · replace h := h.2 c3
        refine xs_iload_n dX6_moveBack_12 rfl ?_
        refine xs_iload_n dX6_moveBack_13 rfl ?_
        refine xs_iadd dX6_moveBack_14 ?_
        refine xs_aload_n dX6_moveBack_15 rfl ?_
        refine xs_getR dX6_moveBack_16 fl_X6_9 rfl sc_1 (rt_1_0 hR) ?_
        refine xs_alen 1 dX6_moveBack_19 sc_2 (fun _ => rfl) ?_
        refine xs_icmp_gt 34 dX6_moveBack_20 (by decide) (fun c4 => ?_) (fun c4 => ?_)
        · replace h := h.1 c4
          exact xs_ret none dX6_moveBack_34 trivial rfl ⟨hR, rfl, h⟩
        · replace h := h.2 c4
          refine xs_iload_n dX6_moveBack_23 rfl ?_
          refine xs_iload_n dX6_moveBack_24 rfl ?_
          refine xs_iadd dX6_moveBack_25 ?_
          refine xs_aload_n dX6_moveBack_26 rfl ?_
          refine xs_getR dX6_moveBack_27 fl_X6_9 rfl sc_1 (rt_1_0 hR) ?_
          refine xs_alen 1 dX6_moveBack_30 sc_2 (fun _ => rfl) ?_
          refine xs_icmp_le 35 dX6_moveBack_31 (by decide) (fun c5 => ?_) (fun c5 => ?_)
          · replace h := h.1 c5
            refine xs_aload_n dX6_moveBack_35 rfl ?_
            refine xs_getR dX6_moveBack_36 fl_X6_9 rfl sc_1 (rt_1_0 hR) ?_
            refine xs_iload_n dX6_moveBack_39 rfl ?_
            refine xs_aload_n dX6_moveBack_40 rfl ?_
            refine xs_getR dX6_moveBack_41 fl_X6_9 rfl sc_1 (rt_1_0 hR) ?_
            refine xs_iload_n dX6_moveBack_44 rfl ?_
            refine xs_iload_n dX6_moveBack_45 rfl ?_
            obtain ⟨s7, h⟩ := h
            refine xs_copyb dX6_moveBack_46 ml_X6_30 sc_2 sc_2 s7.1 s7.2.1 s7.2.2.1 s7.2.2.2.1 s7.2.2.2.2.1 s7.2.2.2.2.2 (Nat.le_of_ble_eq_true rfl) (Nat.le_of_ble_eq_true rfl) ?_
            refine xs_nmM (fun m6 e_m6 => ?_)
            replace h := h m6 e_m6
            have hR : xs_RT b m6 := by rw [e_m6]; exact hR
            exact xs_ret none dX6_moveBack_49 trivial rfl ⟨hR, rfl, h⟩
          · replace h := h.2 c5
            exact xs_ret none dX6_moveBack_34 trivial rfl ⟨hR, rfl, h⟩
set_option maxHeartbeats 4000000 in
set_option maxRecDepth 100000 in
theorem g_X6_writeHead {b : Bool} {Q : xm_M → Prop} {μ : xm_M} (v1 : Int32) (v2 : Int32) (v3 : Int64) (v5 : Int32) (v6 : Int32) 
    (h : ∃ Q1 : xm_M → Prop, xCv b b k_X6_setByte μ [.ref 1, .int v1, .int (nI 79)] Q1 ∧
      ∀ m2 : xm_M, Q1 m2 →
      ∃ Q5 : xm_M → Prop, xCv b b k_X6_setByte m2 [.ref 1, .int (v1 + (nI 1)), .int (nI 103)] Q5 ∧
      ∀ m6 : xm_M, Q5 m6 →
      ∃ Q9 : xm_M → Prop, xCv b b k_X6_setByte m6 [.ref 1, .int (v1 + (nI 2)), .int (nI 103)] Q9 ∧
      ∀ m10 : xm_M, Q9 m10 →
      ∃ Q13 : xm_M → Prop, xCv b b k_X6_setByte m10 [.ref 1, .int (v1 + (nI 3)), .int (nI 83)] Q13 ∧
      ∀ m14 : xm_M, Q13 m14 →
      ∃ Q17 : xm_M → Prop, xCv b b k_X6_setByte m14 [.ref 1, .int (v1 + (nI 4)), .int (nI 0)] Q17 ∧
      ∀ m18 : xm_M, Q17 m18 →
      ∃ Q21 : xm_M → Prop, xCv b b k_X6_setByte m18 [.ref 1, .int (v1 + (nI 5)), .int v2] Q21 ∧
      ∀ m22 : xm_M, Q21 m22 →
      ∃ Q25 : xm_M → Prop, xCv b b k_X6_writeFour m22 [.ref 1, .int (v1 + (nI 6)), .int (v3).toInt32] Q25 ∧
      ∀ m26 : xm_M, Q25 m26 →
      ∃ Q29 : xm_M → Prop, xCv b b k_X6_writeFour m26 [.ref 1, .int ((v1 + (nI 6)) + (nI 4)), .int (((v3).toUInt64 >>> (((nI 32)).toInt64.toUInt64 &&& Int64.toUInt64 63)).toInt64).toInt32] Q29 ∧
      ∀ m30 : xm_M, Q29 m30 →
      ∃ Q33 : xm_M → Prop, xCv b b k_X6_writeFour m30 [.ref 1, .int (v1 + (nI 14)), .int v5] Q33 ∧
      ∀ m34 : xm_M, Q33 m34 →
      ∃ Q37 : xm_M → Prop, xCv b b k_X6_writeFour m34 [.ref 1, .int (v1 + (nI 18)), .int v6] Q37 ∧
      ∀ m38 : xm_M, Q37 m38 →
      ∃ Q41 : xm_M → Prop, xCv b b k_X6_writeFour m38 [.ref 1, .int (v1 + (nI 22)), .int (nI 0)] Q41 ∧
      ∀ m42 : xm_M, Q41 m42 →
      Q m42) :
    xCv b b k_X6_writeHead μ [.ref 1, .int v1, .int v2, .long v3, .int v5, .int v6] Q := by
  intro hR
  refine xm_met [some (.ref 1), some (.int v1), some (.int v2), some (.long v3), none, some (.int v5), some (.int v6)] 0 (by decide) (by simp [lg_sl, Value.category]) rfl ?_
  refine xs_aload_n dX6_writeHead_0 rfl ?_
  refine xs_iload_n dX6_writeHead_1 rfl ?_
  refine xs_bipush (nI 79) dX6_writeHead_2 (by decide) ?_
  obtain ⟨Q1, hQ1, h⟩ := h
  refine xs_callV (j := k_X6_setByte) (As := [.int v1, .int (nI 79)]) (S := []) dX6_writeHead_4 (hQ1 hR) ⟨ml_X6_17, mk_X6_setByte.1, mk_X6_setByte.2.1, mk_X6_setByte.2.2⟩ mv_X6_setByte ⟨Nat.le_of_ble_eq_true rfl, Nat.le_of_ble_eq_true rfl⟩ rfl (Nat.le_of_ble_eq_true rfl) sc_1 rfl ⟨rfl, rfl⟩ (fun rr m2 hq4 => ?_)
  obtain ⟨hR, rfl, hq4⟩ := hq4
  replace h := h m2 hq4
  refine xs_aload_n dX6_writeHead_7 rfl ?_
  refine xs_iload_n dX6_writeHead_8 rfl ?_
  refine xs_iconst (nI 1) dX6_writeHead_9 (by decide) ?_
  refine xs_iadd dX6_writeHead_10 ?_
  refine xs_bipush (nI 103) dX6_writeHead_11 (by decide) ?_
  obtain ⟨Q5, hQ5, h⟩ := h
  refine xs_callV (j := k_X6_setByte) (As := [.int (v1 + (nI 1)), .int (nI 103)]) (S := []) dX6_writeHead_13 (hQ5 hR) ⟨ml_X6_17, mk_X6_setByte.1, mk_X6_setByte.2.1, mk_X6_setByte.2.2⟩ mv_X6_setByte ⟨Nat.le_of_ble_eq_true rfl, Nat.le_of_ble_eq_true rfl⟩ rfl (Nat.le_of_ble_eq_true rfl) sc_1 rfl ⟨rfl, rfl⟩ (fun rr m6 hq8 => ?_)
  obtain ⟨hR, rfl, hq8⟩ := hq8
  replace h := h m6 hq8
  refine xs_aload_n dX6_writeHead_16 rfl ?_
  refine xs_iload_n dX6_writeHead_17 rfl ?_
  refine xs_iconst (nI 2) dX6_writeHead_18 (by decide) ?_
  refine xs_iadd dX6_writeHead_19 ?_
  refine xs_bipush (nI 103) dX6_writeHead_20 (by decide) ?_
  obtain ⟨Q9, hQ9, h⟩ := h
  refine xs_callV (j := k_X6_setByte) (As := [.int (v1 + (nI 2)), .int (nI 103)]) (S := []) dX6_writeHead_22 (hQ9 hR) ⟨ml_X6_17, mk_X6_setByte.1, mk_X6_setByte.2.1, mk_X6_setByte.2.2⟩ mv_X6_setByte ⟨Nat.le_of_ble_eq_true rfl, Nat.le_of_ble_eq_true rfl⟩ rfl (Nat.le_of_ble_eq_true rfl) sc_1 rfl ⟨rfl, rfl⟩ (fun rr m10 hq12 => ?_)
  obtain ⟨hR, rfl, hq12⟩ := hq12
  replace h := h m10 hq12
  refine xs_aload_n dX6_writeHead_25 rfl ?_
  refine xs_iload_n dX6_writeHead_26 rfl ?_
  refine xs_iconst (nI 3) dX6_writeHead_27 (by decide) ?_
  refine xs_iadd dX6_writeHead_28 ?_
  refine xs_bipush (nI 83) dX6_writeHead_29 (by decide) ?_
  obtain ⟨Q13, hQ13, h⟩ := h
  refine xs_callV (j := k_X6_setByte) (As := [.int (v1 + (nI 3)), .int (nI 83)]) (S := []) dX6_writeHead_31 (hQ13 hR) ⟨ml_X6_17, mk_X6_setByte.1, mk_X6_setByte.2.1, mk_X6_setByte.2.2⟩ mv_X6_setByte ⟨Nat.le_of_ble_eq_true rfl, Nat.le_of_ble_eq_true rfl⟩ rfl (Nat.le_of_ble_eq_true rfl) sc_1 rfl ⟨rfl, rfl⟩ (fun rr m14 hq16 => ?_)
  obtain ⟨hR, rfl, hq16⟩ := hq16
  replace h := h m14 hq16
  refine xs_aload_n dX6_writeHead_34 rfl ?_
  refine xs_iload_n dX6_writeHead_35 rfl ?_
  refine xs_iconst (nI 4) dX6_writeHead_36 (by decide) ?_
  refine xs_iadd dX6_writeHead_37 ?_
  refine xs_iconst (nI 0) dX6_writeHead_38 (by decide) ?_
  obtain ⟨Q17, hQ17, h⟩ := h
  refine xs_callV (j := k_X6_setByte) (As := [.int (v1 + (nI 4)), .int (nI 0)]) (S := []) dX6_writeHead_39 (hQ17 hR) ⟨ml_X6_17, mk_X6_setByte.1, mk_X6_setByte.2.1, mk_X6_setByte.2.2⟩ mv_X6_setByte ⟨Nat.le_of_ble_eq_true rfl, Nat.le_of_ble_eq_true rfl⟩ rfl (Nat.le_of_ble_eq_true rfl) sc_1 rfl ⟨rfl, rfl⟩ (fun rr m18 hq20 => ?_)
  obtain ⟨hR, rfl, hq20⟩ := hq20
  replace h := h m18 hq20
  refine xs_aload_n dX6_writeHead_42 rfl ?_
  refine xs_iload_n dX6_writeHead_43 rfl ?_
  refine xs_iconst (nI 5) dX6_writeHead_44 (by decide) ?_
  refine xs_iadd dX6_writeHead_45 ?_
  refine xs_iload_n dX6_writeHead_46 rfl ?_
  obtain ⟨Q21, hQ21, h⟩ := h
  refine xs_callV (j := k_X6_setByte) (As := [.int (v1 + (nI 5)), .int v2]) (S := []) dX6_writeHead_47 (hQ21 hR) ⟨ml_X6_17, mk_X6_setByte.1, mk_X6_setByte.2.1, mk_X6_setByte.2.2⟩ mv_X6_setByte ⟨Nat.le_of_ble_eq_true rfl, Nat.le_of_ble_eq_true rfl⟩ rfl (Nat.le_of_ble_eq_true rfl) sc_1 rfl ⟨rfl, rfl⟩ (fun rr m22 hq24 => ?_)
  obtain ⟨hR, rfl, hq24⟩ := hq24
  replace h := h m22 hq24
  refine xs_aload_n dX6_writeHead_50 rfl ?_
  refine xs_iload_n dX6_writeHead_51 rfl ?_
  refine xs_bipush (nI 6) dX6_writeHead_52 (by decide) ?_
  refine xs_iadd dX6_writeHead_54 ?_
  refine xs_lload_n dX6_writeHead_55 rfl ?_
  refine xs_l2i dX6_writeHead_56 ?_
  obtain ⟨Q25, hQ25, h⟩ := h
  refine xs_callV (j := k_X6_writeFour) (As := [.int (v1 + (nI 6)), .int (v3).toInt32]) (S := []) dX6_writeHead_57 (hQ25 hR) ⟨ml_X6_36, mk_X6_writeFour.1, mk_X6_writeFour.2.1, mk_X6_writeFour.2.2⟩ mv_X6_writeFour ⟨Nat.le_of_ble_eq_true rfl, Nat.le_of_ble_eq_true rfl⟩ rfl (Nat.le_of_ble_eq_true rfl) sc_1 rfl ⟨rfl, rfl⟩ (fun rr m26 hq28 => ?_)
  obtain ⟨hR, rfl, hq28⟩ := hq28
  replace h := h m26 hq28
  refine xs_aload_n dX6_writeHead_60 rfl ?_
  refine xs_iload_n dX6_writeHead_61 rfl ?_
  refine xs_bipush (nI 6) dX6_writeHead_62 (by decide) ?_
  refine xs_iadd dX6_writeHead_64 ?_
  refine xs_iconst (nI 4) dX6_writeHead_65 (by decide) ?_
  refine xs_iadd dX6_writeHead_66 ?_
  refine xs_lload_n dX6_writeHead_67 rfl ?_
  refine xs_bipush (nI 32) dX6_writeHead_68 (by decide) ?_
  refine xs_lushr dX6_writeHead_70 ?_
  refine xs_l2i dX6_writeHead_71 ?_
  obtain ⟨Q29, hQ29, h⟩ := h
  refine xs_callV (j := k_X6_writeFour) (As := [.int ((v1 + (nI 6)) + (nI 4)), .int (((v3).toUInt64 >>> (((nI 32)).toInt64.toUInt64 &&& Int64.toUInt64 63)).toInt64).toInt32]) (S := []) dX6_writeHead_72 (hQ29 hR) ⟨ml_X6_36, mk_X6_writeFour.1, mk_X6_writeFour.2.1, mk_X6_writeFour.2.2⟩ mv_X6_writeFour ⟨Nat.le_of_ble_eq_true rfl, Nat.le_of_ble_eq_true rfl⟩ rfl (Nat.le_of_ble_eq_true rfl) sc_1 rfl ⟨rfl, rfl⟩ (fun rr m30 hq32 => ?_)
  obtain ⟨hR, rfl, hq32⟩ := hq32
  replace h := h m30 hq32
  refine xs_aload_n dX6_writeHead_75 rfl ?_
  refine xs_iload_n dX6_writeHead_76 rfl ?_
  refine xs_bipush (nI 14) dX6_writeHead_77 (by decide) ?_
  refine xs_iadd dX6_writeHead_79 ?_
  refine xs_iload dX6_writeHead_80 rfl ?_
  obtain ⟨Q33, hQ33, h⟩ := h
  refine xs_callV (j := k_X6_writeFour) (As := [.int (v1 + (nI 14)), .int v5]) (S := []) dX6_writeHead_82 (hQ33 hR) ⟨ml_X6_36, mk_X6_writeFour.1, mk_X6_writeFour.2.1, mk_X6_writeFour.2.2⟩ mv_X6_writeFour ⟨Nat.le_of_ble_eq_true rfl, Nat.le_of_ble_eq_true rfl⟩ rfl (Nat.le_of_ble_eq_true rfl) sc_1 rfl ⟨rfl, rfl⟩ (fun rr m34 hq36 => ?_)
  obtain ⟨hR, rfl, hq36⟩ := hq36
  replace h := h m34 hq36
  refine xs_aload_n dX6_writeHead_85 rfl ?_
  refine xs_iload_n dX6_writeHead_86 rfl ?_
  refine xs_bipush (nI 18) dX6_writeHead_87 (by decide) ?_
  refine xs_iadd dX6_writeHead_89 ?_
  refine xs_iload dX6_writeHead_90 rfl ?_
  obtain ⟨Q37, hQ37, h⟩ := h
  refine xs_callV (j := k_X6_writeFour) (As := [.int (v1 + (nI 18)), .int v6]) (S := []) dX6_writeHead_92 (hQ37 hR) ⟨ml_X6_36, mk_X6_writeFour.1, mk_X6_writeFour.2.1, mk_X6_writeFour.2.2⟩ mv_X6_writeFour ⟨Nat.le_of_ble_eq_true rfl, Nat.le_of_ble_eq_true rfl⟩ rfl (Nat.le_of_ble_eq_true rfl) sc_1 rfl ⟨rfl, rfl⟩ (fun rr m38 hq40 => ?_)
  obtain ⟨hR, rfl, hq40⟩ := hq40
  replace h := h m38 hq40
  refine xs_aload_n dX6_writeHead_95 rfl ?_
  refine xs_iload_n dX6_writeHead_96 rfl ?_
  refine xs_bipush (nI 22) dX6_writeHead_97 (by decide) ?_
  refine xs_iadd dX6_writeHead_99 ?_
  refine xs_iconst (nI 0) dX6_writeHead_100 (by decide) ?_
  obtain ⟨Q41, hQ41, h⟩ := h
  refine xs_callV (j := k_X6_writeFour) (As := [.int (v1 + (nI 22)), .int (nI 0)]) (S := []) dX6_writeHead_101 (hQ41 hR) ⟨ml_X6_36, mk_X6_writeFour.1, mk_X6_writeFour.2.1, mk_X6_writeFour.2.2⟩ mv_X6_writeFour ⟨Nat.le_of_ble_eq_true rfl, Nat.le_of_ble_eq_true rfl⟩ rfl (Nat.le_of_ble_eq_true rfl) sc_1 rfl ⟨rfl, rfl⟩ (fun rr m42 hq44 => ?_)
  obtain ⟨hR, rfl, hq44⟩ := hq44
  replace h := h m42 hq44
  exact xs_ret none dX6_writeHead_104 trivial rfl ⟨hR, rfl, h⟩
abbrev hd_X6_writeLaces_12 (b : Bool) (Q : xm_M → Prop)  (v1 : Int32) (v2 : Int32) (v3 : Int32) (v4 : Int32) (μ : xm_M) : Prop := xs_RT b μ → xR k_X6_writeLaces none true (fun r _ μ' => xs_RT b μ' ∧ r = none ∧ Q μ') 12 [some (.ref 1), some (.int v1), some (.int v2), some (.int v3), some (.int v4)] [] xs_sh (0, 0) μ
set_option maxHeartbeats 4000000 in
set_option maxRecDepth 100000 in
theorem l_X6_writeLaces_12 {b : Bool} {Q : xm_M → Prop} {μ : xm_M}  (v1 : Int32) (v2 : Int32) (v3 : Int32) (v4 : Int32) 
    (h : ((v2 ≤ v4 →
       Q μ) ∧
      (¬ v2 ≤ v4 →
       ((¬ v4 = (v2 - (nI 1)) →
        ∃ Q3 : xm_M → Prop, xCv b b k_X6_setByte μ [.ref 1, .int ((v1 + (nI 27)) + v4), .int (nI 255)] Q3 ∧
        ∀ m4 : xm_M, Q3 m4 →
        ∀ x7 : Int32, x7 = v4 + nI 1 →
        hd_X6_writeLaces_12 b Q  v1 v2 v3 x7 m4) ∧
       (v4 = (v2 - (nI 1)) →
        ∃ Q8 : xm_M → Prop, xCv b b k_X6_setByte μ [.ref 1, .int ((v1 + (nI 27)) + v4), .int v3] Q8 ∧
        ∀ m9 : xm_M, Q8 m9 →
        ∀ x12 : Int32, x12 = v4 + nI 1 →
        hd_X6_writeLaces_12 b Q  v1 v2 v3 x12 m9))))) :
    hd_X6_writeLaces_12 b Q  v1 v2 v3 v4 μ := by
  intro hR
  refine xs_iload dX6_writeLaces_12 rfl ?_
  refine xs_iload_n dX6_writeLaces_14 rfl ?_
  refine xs_icmp_ge 50 dX6_writeLaces_15 (by decide) (fun c1 => ?_) (fun c1 => ?_)
  · replace h := h.1 c1
    exact xs_ret none dX6_writeLaces_50 trivial rfl ⟨hR, rfl, h⟩
  · replace h := h.2 c1
    refine xs_aload_n dX6_writeLaces_18 rfl ?_
    refine xs_iload_n dX6_writeLaces_19 rfl ?_
    refine xs_bipush (nI 27) dX6_writeLaces_20 (by decide) ?_
    refine xs_iadd dX6_writeLaces_22 ?_
    refine xs_iload dX6_writeLaces_23 rfl ?_
    refine xs_iadd dX6_writeLaces_25 ?_
    refine xs_iload dX6_writeLaces_26 rfl ?_
    refine xs_iload_n dX6_writeLaces_28 rfl ?_
    refine xs_iconst (nI 1) dX6_writeLaces_29 (by decide) ?_
    refine xs_isub dX6_writeLaces_30 ?_
    refine xs_icmp_ne 38 dX6_writeLaces_31 (by decide) (fun c2 => ?_) (fun c2 => ?_)
    · replace h := h.1 c2
      refine xs_sipush (nI 255) dX6_writeLaces_38 (by decide) ?_
      obtain ⟨Q3, hQ3, h⟩ := h
      refine xs_callV (j := k_X6_setByte) (As := [.int ((v1 + (nI 27)) + v4), .int (nI 255)]) (S := []) dX6_writeLaces_41 (hQ3 hR) ⟨ml_X6_17, mk_X6_setByte.1, mk_X6_setByte.2.1, mk_X6_setByte.2.2⟩ mv_X6_setByte ⟨Nat.le_of_ble_eq_true rfl, Nat.le_of_ble_eq_true rfl⟩ rfl (Nat.le_of_ble_eq_true rfl) sc_1 rfl ⟨rfl, rfl⟩ (fun rr m4 hq6 => ?_)
      obtain ⟨hR, rfl, hq6⟩ := hq6
      replace h := h m4 hq6
      obtain ⟨x7, e_x7⟩ : ∃ z : Int32, z = v4 + nI 1 := ⟨_, rfl⟩
      replace h := h x7 e_x7
      refine xs_iinc x7 [some (.ref 1), some (.int v1), some (.int v2), some (.int v3), some (.int x7)] dX6_writeLaces_44 (by decide) rfl (by rw [e_x7]; rfl) rfl ?_
      refine xs_goto 12 dX6_writeLaces_47 (by decide) ?_
      exact xs_loc [some (.ref 1), some (.int v1), some (.int v2), some (.int v3), some (.int x7)] ⟨rfl, ⟨rfl, ⟨rfl, ⟨rfl, ⟨rfl, trivial⟩⟩⟩⟩⟩ (h hR)
    · replace h := h.2 c2
      refine xs_iload_n dX6_writeLaces_34 rfl ?_
      refine xs_goto 41 dX6_writeLaces_35 (by decide) ?_
      obtain ⟨Q8, hQ8, h⟩ := h
      refine xs_callV (j := k_X6_setByte) (As := [.int ((v1 + (nI 27)) + v4), .int v3]) (S := []) dX6_writeLaces_41 (hQ8 hR) ⟨ml_X6_17, mk_X6_setByte.1, mk_X6_setByte.2.1, mk_X6_setByte.2.2⟩ mv_X6_setByte ⟨Nat.le_of_ble_eq_true rfl, Nat.le_of_ble_eq_true rfl⟩ rfl (Nat.le_of_ble_eq_true rfl) sc_1 rfl ⟨rfl, rfl⟩ (fun rr m9 hq11 => ?_)
      obtain ⟨hR, rfl, hq11⟩ := hq11
      replace h := h m9 hq11
      obtain ⟨x12, e_x12⟩ : ∃ z : Int32, z = v4 + nI 1 := ⟨_, rfl⟩
      replace h := h x12 e_x12
      refine xs_iinc x12 [some (.ref 1), some (.int v1), some (.int v2), some (.int v3), some (.int x12)] dX6_writeLaces_44 (by decide) rfl (by rw [e_x12]; rfl) rfl ?_
      refine xs_goto 12 dX6_writeLaces_47 (by decide) ?_
      exact xs_loc [some (.ref 1), some (.int v1), some (.int v2), some (.int v3), some (.int x12)] ⟨rfl, ⟨rfl, ⟨rfl, ⟨rfl, ⟨rfl, trivial⟩⟩⟩⟩⟩ (h hR)
set_option maxHeartbeats 4000000 in
set_option maxRecDepth 100000 in
theorem g_X6_writeLaces {b : Bool} {Q : xm_M → Prop} {μ : xm_M} (v1 : Int32) (v2 : Int32) (v3 : Int32) 
    (h : ∃ Q1 : xm_M → Prop, xCv b b k_X6_setByte μ [.ref 1, .int (v1 + (nI 26)), .int v2] Q1 ∧
      ∀ m2 : xm_M, Q1 m2 →
      hd_X6_writeLaces_12 b Q  v1 v2 v3 (nI 0) m2) :
    xCv b b k_X6_writeLaces μ [.ref 1, .int v1, .int v2, .int v3] Q := by
  intro hR
  refine xm_met [some (.ref 1), some (.int v1), some (.int v2), some (.int v3), none] 1 (by decide) (by simp [lg_sl, Value.category]) rfl ?_
  refine xs_aload_n dX6_writeLaces_0 rfl ?_
  refine xs_iload_n dX6_writeLaces_1 rfl ?_
  refine xs_bipush (nI 26) dX6_writeLaces_2 (by decide) ?_
  refine xs_iadd dX6_writeLaces_4 ?_
  refine xs_iload_n dX6_writeLaces_5 rfl ?_
  obtain ⟨Q1, hQ1, h⟩ := h
  refine xs_callV (j := k_X6_setByte) (As := [.int (v1 + (nI 26)), .int v2]) (S := []) dX6_writeLaces_6 (hQ1 hR) ⟨ml_X6_17, mk_X6_setByte.1, mk_X6_setByte.2.1, mk_X6_setByte.2.2⟩ mv_X6_setByte ⟨Nat.le_of_ble_eq_true rfl, Nat.le_of_ble_eq_true rfl⟩ rfl (Nat.le_of_ble_eq_true rfl) sc_1 rfl ⟨rfl, rfl⟩ (fun rr m2 hq4 => ?_)
  obtain ⟨hR, rfl, hq4⟩ := hq4
  replace h := h m2 hq4
  refine xs_iconst (nI 0) dX6_writeLaces_9 (by decide) ?_
  refine xs_istore [some (.ref 1), some (.int v1), some (.int v2), some (.int v3), some (.int (nI 0))] dX6_writeLaces_10 (by decide) rfl ?_
  exact xs_loc [some (.ref 1), some (.int v1), some (.int v2), some (.int v3), some (.int (nI 0))] ⟨rfl, ⟨rfl, ⟨rfl, ⟨rfl, ⟨rfl, trivial⟩⟩⟩⟩⟩ (h hR)
abbrev hd_X6_rightPageAt_50 (b : Bool) (Q : Int32 → xm_M → Prop)  (v1 : Int32) (v2 : Int32) (v3 : Int32) (v4 : Int32) (μ : xm_M) : Prop := xs_RT b μ → xR k_X6_rightPageAt none true (fun r _ μ' => xs_RT b μ' ∧ ∃ x : Int32, r = some (.int x) ∧ Q x μ') 50 [some (.ref 1), some (.int v1), some (.int v2), some (.int v3), some (.int v4)] [] xs_sh (0, 0) μ
set_option maxHeartbeats 4000000 in
set_option maxRecDepth 100000 in
theorem l_X6_rightPageAt_50 {b : Bool} {Q : Int32 → xm_M → Prop} {μ : xm_M}  (v1 : Int32) (v2 : Int32) (v3 : Int32) (v4 : Int32) 
    (h : ((v2 ≤ v4 →
       (((μ.1 1 1) < (v1 + v3) →
        Q (nI 0) μ) ∧
       (¬ (μ.1 1 1) < (v1 + v3) →
        ∃ Q3 : Int32 → xm_M → Prop, xCi b b k_X6_crc μ [.ref 1, .int v1, .int (v1 + v3)] Q3 ∧
        ∀ (r5 : Int32) (m4 : xm_M), Q3 r5 m4 →
        ∃ Q7 : Int32 → xm_M → Prop, xCi b b k_X6_fourAt m4 [.ref 1, .int (v1 + (nI 22))] Q7 ∧
        ∀ (r9 : Int32) (m8 : xm_M), Q7 r9 m8 →
        ((r5 = r9 →
         Q v3 m8) ∧
        (¬ r5 = r9 →
         Q (nI 0) m8))))) ∧
      (¬ v2 ≤ v4 →
       ∃ Q12 : Int32 → xm_M → Prop, xCi b b k_X6_byteAt μ [.ref 1, .int ((v1 + (nI 27)) + v4)] Q12 ∧
       ∀ (r14 : Int32) (m13 : xm_M), Q12 r14 m13 →
       ∀ x16 : Int32, x16 = (v3 + r14) →
       ∀ x17 : Int32, x17 = v4 + nI 1 →
       hd_X6_rightPageAt_50 b Q  v1 v2 x16 x17 m13))) :
    hd_X6_rightPageAt_50 b Q  v1 v2 v3 v4 μ := by
  intro hR
  refine xs_iload dX6_rightPageAt_50 rfl ?_
  refine xs_iload_n dX6_rightPageAt_52 rfl ?_
  refine xs_icmp_ge 76 dX6_rightPageAt_53 (by decide) (fun c1 => ?_) (fun c1 => ?_)
  · replace h := h.1 c1
    refine xs_iload_n dX6_rightPageAt_76 rfl ?_
    refine xs_iload_n dX6_rightPageAt_77 rfl ?_
    refine xs_iadd dX6_rightPageAt_78 ?_
    refine xs_aload_n dX6_rightPageAt_79 rfl ?_
    refine xs_getI dX6_rightPageAt_80 fl_X6_13.g rfl sc_1 ?_
    refine xs_icmp_gt 105 dX6_rightPageAt_83 (by decide) (fun c2 => ?_) (fun c2 => ?_)
    · replace h := h.1 c2
      refine xs_iconst (nI 0) dX6_rightPageAt_105 (by decide) ?_
      exact xs_ret (some (.int (nI 0))) dX6_rightPageAt_106 rfl rfl ⟨hR, _, rfl, h⟩
    · replace h := h.2 c2
      refine xs_aload_n dX6_rightPageAt_86 rfl ?_
      refine xs_iload_n dX6_rightPageAt_87 rfl ?_
      refine xs_iload_n dX6_rightPageAt_88 rfl ?_
      refine xs_iload_n dX6_rightPageAt_89 rfl ?_
      refine xs_iadd dX6_rightPageAt_90 ?_
      obtain ⟨Q3, hQ3, h⟩ := h
      refine xs_callV (j := k_X6_crc) (As := [.int v1, .int (v1 + v3)]) (S := []) dX6_rightPageAt_91 (hQ3 hR) ⟨ml_X6_43, mk_X6_crc.1, mk_X6_crc.2.1, mk_X6_crc.2.2⟩ mv_X6_crc ⟨Nat.le_of_ble_eq_true rfl, Nat.le_of_ble_eq_true rfl⟩ rfl (Nat.le_of_ble_eq_true rfl) sc_1 rfl ⟨rfl, rfl⟩ (fun rr m4 hq6 => ?_)
      obtain ⟨hR, r5, rfl, hq6⟩ := hq6
      replace h := h r5 m4 hq6
      refine xs_aload_n dX6_rightPageAt_94 rfl ?_
      refine xs_iload_n dX6_rightPageAt_95 rfl ?_
      refine xs_bipush (nI 22) dX6_rightPageAt_96 (by decide) ?_
      refine xs_iadd dX6_rightPageAt_98 ?_
      obtain ⟨Q7, hQ7, h⟩ := h
      refine xs_callV (j := k_X6_fourAt) (As := [.int (v1 + (nI 22))]) (S := [.int r5]) dX6_rightPageAt_99 (hQ7 hR) ⟨ml_X6_25, mk_X6_fourAt.1, mk_X6_fourAt.2.1, mk_X6_fourAt.2.2⟩ mv_X6_fourAt ⟨Nat.le_of_ble_eq_true rfl, Nat.le_of_ble_eq_true rfl⟩ rfl (Nat.le_of_ble_eq_true rfl) sc_1 rfl ⟨rfl, rfl⟩ (fun rr m8 hq10 => ?_)
      obtain ⟨hR, r9, rfl, hq10⟩ := hq10
      replace h := h r9 m8 hq10
      refine xs_icmp_eq 107 dX6_rightPageAt_102 (by decide) (fun c11 => ?_) (fun c11 => ?_)
      · replace h := h.1 c11
        refine xs_iload_n dX6_rightPageAt_107 rfl ?_
        exact xs_ret (some (.int v3)) dX6_rightPageAt_108 rfl rfl ⟨hR, _, rfl, h⟩
      · replace h := h.2 c11
        refine xs_iconst (nI 0) dX6_rightPageAt_105 (by decide) ?_
        exact xs_ret (some (.int (nI 0))) dX6_rightPageAt_106 rfl rfl ⟨hR, _, rfl, h⟩
  · replace h := h.2 c1
    refine xs_iload_n dX6_rightPageAt_56 rfl ?_
    refine xs_aload_n dX6_rightPageAt_57 rfl ?_
    refine xs_iload_n dX6_rightPageAt_58 rfl ?_
    refine xs_bipush (nI 27) dX6_rightPageAt_59 (by decide) ?_
    refine xs_iadd dX6_rightPageAt_61 ?_
    refine xs_iload dX6_rightPageAt_62 rfl ?_
    refine xs_iadd dX6_rightPageAt_64 ?_
    obtain ⟨Q12, hQ12, h⟩ := h
    refine xs_callV (j := k_X6_byteAt) (As := [.int ((v1 + (nI 27)) + v4)]) (S := [.int v3]) dX6_rightPageAt_65 (hQ12 hR) ⟨ml_X6_21, mk_X6_byteAt.1, mk_X6_byteAt.2.1, mk_X6_byteAt.2.2⟩ mv_X6_byteAt ⟨Nat.le_of_ble_eq_true rfl, Nat.le_of_ble_eq_true rfl⟩ rfl (Nat.le_of_ble_eq_true rfl) sc_1 rfl ⟨rfl, rfl⟩ (fun rr m13 hq15 => ?_)
    obtain ⟨hR, r14, rfl, hq15⟩ := hq15
    replace h := h r14 m13 hq15
    refine xs_iadd dX6_rightPageAt_68 ?_
    refine xs_nmI (fun x16 e_x16 => ?_)
    replace h := h x16 e_x16
    refine xs_istore_n [some (.ref 1), some (.int v1), some (.int v2), some (.int x16), some (.int v4)] dX6_rightPageAt_69 (by decide) rfl ?_
    obtain ⟨x17, e_x17⟩ : ∃ z : Int32, z = v4 + nI 1 := ⟨_, rfl⟩
    replace h := h x17 e_x17
    refine xs_iinc x17 [some (.ref 1), some (.int v1), some (.int v2), some (.int x16), some (.int x17)] dX6_rightPageAt_70 (by decide) rfl (by rw [e_x17]; rfl) rfl ?_
    refine xs_goto 50 dX6_rightPageAt_73 (by decide) ?_
    exact xs_loc [some (.ref 1), some (.int v1), some (.int v2), some (.int x16), some (.int x17)] ⟨rfl, ⟨rfl, ⟨rfl, ⟨rfl, ⟨rfl, trivial⟩⟩⟩⟩⟩ (h hR)
set_option maxHeartbeats 4000000 in
set_option maxRecDepth 100000 in
theorem g_X6_rightPageAt {b : Bool} {Q : Int32 → xm_M → Prop} {μ : xm_M} (v1 : Int32) 
    (h : ∃ Q1 : Int32 → xm_M → Prop, xCi b b k_X6_hasMarkAt μ [.ref 1, .int v1] Q1 ∧
      ∀ (r3 : Int32) (m2 : xm_M), Q1 r3 m2 →
      ((r3 = 0 →
       Q (nI 0) m2) ∧
      (¬ r3 = 0 →
       (((v1 + (nI 27)) ≤ (m2.1 1 1) →
        ∃ Q7 : Int32 → xm_M → Prop, xCi b b k_X6_byteAt m2 [.ref 1, .int (v1 + (nI 26))] Q7 ∧
        ∀ (r9 : Int32) (m8 : xm_M), Q7 r9 m8 →
        ∀ x11 : Int32, x11 = ((nI 27) + r9) →
        (((v1 + x11) ≤ (m8.1 1 1) →
         hd_X6_rightPageAt_50 b Q  v1 r9 x11 (nI 0) m8) ∧
        (¬ (v1 + x11) ≤ (m8.1 1 1) →
         Q (nI 0) m8))) ∧
       (¬ (v1 + (nI 27)) ≤ (m2.1 1 1) →
        Q (nI 0) m2))))) :
    xCi b b k_X6_rightPageAt μ [.ref 1, .int v1] Q := by
  intro hR
  refine xm_met [some (.ref 1), some (.int v1), none, none, none] 3 (by decide) (by simp [lg_sl, Value.category]) rfl ?_
  refine xs_aload_n dX6_rightPageAt_0 rfl ?_
  refine xs_iload_n dX6_rightPageAt_1 rfl ?_
  obtain ⟨Q1, hQ1, h⟩ := h
  refine xs_callV (j := k_X6_hasMarkAt) (As := [.int v1]) (S := []) dX6_rightPageAt_2 (hQ1 hR) ⟨ml_X6_39, mk_X6_hasMarkAt.1, mk_X6_hasMarkAt.2.1, mk_X6_hasMarkAt.2.2⟩ mv_X6_hasMarkAt ⟨Nat.le_of_ble_eq_true rfl, Nat.le_of_ble_eq_true rfl⟩ rfl (Nat.le_of_ble_eq_true rfl) sc_1 rfl ⟨rfl, rfl⟩ (fun rr m2 hq4 => ?_)
  obtain ⟨hR, r3, rfl, hq4⟩ := hq4
  replace h := h r3 m2 hq4
  refine xs_if_eq 19 dX6_rightPageAt_5 (by decide) (fun c5 => ?_) (fun c5 => ?_)
  · replace h := h.1 c5
    refine xs_iconst (nI 0) dX6_rightPageAt_19 (by decide) ?_
    exact xs_ret (some (.int (nI 0))) dX6_rightPageAt_20 rfl rfl ⟨hR, _, rfl, h⟩
  · replace h := h.2 c5
    refine xs_iload_n dX6_rightPageAt_8 rfl ?_
    refine xs_bipush (nI 27) dX6_rightPageAt_9 (by decide) ?_
    refine xs_iadd dX6_rightPageAt_11 ?_
    refine xs_aload_n dX6_rightPageAt_12 rfl ?_
    refine xs_getI dX6_rightPageAt_13 fl_X6_13.g rfl sc_1 ?_
    refine xs_icmp_le 21 dX6_rightPageAt_16 (by decide) (fun c6 => ?_) (fun c6 => ?_)
    · replace h := h.1 c6
      refine xs_aload_n dX6_rightPageAt_21 rfl ?_
      refine xs_iload_n dX6_rightPageAt_22 rfl ?_
      refine xs_bipush (nI 26) dX6_rightPageAt_23 (by decide) ?_
      refine xs_iadd dX6_rightPageAt_25 ?_
      obtain ⟨Q7, hQ7, h⟩ := h
      refine xs_callV (j := k_X6_byteAt) (As := [.int (v1 + (nI 26))]) (S := []) dX6_rightPageAt_26 (hQ7 hR) ⟨ml_X6_21, mk_X6_byteAt.1, mk_X6_byteAt.2.1, mk_X6_byteAt.2.2⟩ mv_X6_byteAt ⟨Nat.le_of_ble_eq_true rfl, Nat.le_of_ble_eq_true rfl⟩ rfl (Nat.le_of_ble_eq_true rfl) sc_1 rfl ⟨rfl, rfl⟩ (fun rr m8 hq10 => ?_)
      obtain ⟨hR, r9, rfl, hq10⟩ := hq10
      replace h := h r9 m8 hq10
      refine xs_istore_n [some (.ref 1), some (.int v1), some (.int r9), none, none] dX6_rightPageAt_29 (by decide) rfl ?_
      refine xs_bipush (nI 27) dX6_rightPageAt_30 (by decide) ?_
      refine xs_iload_n dX6_rightPageAt_32 rfl ?_
      refine xs_iadd dX6_rightPageAt_33 ?_
      refine xs_nmI (fun x11 e_x11 => ?_)
      replace h := h x11 e_x11
      refine xs_istore_n [some (.ref 1), some (.int v1), some (.int r9), some (.int x11), none] dX6_rightPageAt_34 (by decide) rfl ?_
      refine xs_iload_n dX6_rightPageAt_35 rfl ?_
      refine xs_iload_n dX6_rightPageAt_36 rfl ?_
      refine xs_iadd dX6_rightPageAt_37 ?_
      refine xs_aload_n dX6_rightPageAt_38 rfl ?_
      refine xs_getI dX6_rightPageAt_39 fl_X6_13.g rfl sc_1 ?_
      refine xs_icmp_le 47 dX6_rightPageAt_42 (by decide) (fun c12 => ?_) (fun c12 => ?_)
      · replace h := h.1 c12
        refine xs_iconst (nI 0) dX6_rightPageAt_47 (by decide) ?_
        refine xs_istore [some (.ref 1), some (.int v1), some (.int r9), some (.int x11), some (.int (nI 0))] dX6_rightPageAt_48 (by decide) rfl ?_
        exact xs_loc [some (.ref 1), some (.int v1), some (.int r9), some (.int x11), some (.int (nI 0))] ⟨rfl, ⟨rfl, ⟨rfl, ⟨rfl, ⟨rfl, trivial⟩⟩⟩⟩⟩ (h hR)
      · replace h := h.2 c12
        refine xs_iconst (nI 0) dX6_rightPageAt_45 (by decide) ?_
        exact xs_ret (some (.int (nI 0))) dX6_rightPageAt_46 rfl rfl ⟨hR, _, rfl, h⟩
    · replace h := h.2 c6
      refine xs_iconst (nI 0) dX6_rightPageAt_19 (by decide) ?_
      exact xs_ret (some (.int (nI 0))) dX6_rightPageAt_20 rfl rfl ⟨hR, _, rfl, h⟩
set_option maxHeartbeats 4000000 in
set_option maxRecDepth 100000 in
theorem g_X6_hasMarkAt {b : Bool} {Q : Int32 → xm_M → Prop} {μ : xm_M} (v1 : Int32) 
    (h : ∃ Q1 : Int32 → xm_M → Prop, xCi b b k_X6_byteAt μ [.ref 1, .int v1] Q1 ∧
      ∀ (r3 : Int32) (m2 : xm_M), Q1 r3 m2 →
      ((¬ r3 = (nI 79) →
       Q (nI 0) m2) ∧
      (r3 = (nI 79) →
       ∃ Q6 : Int32 → xm_M → Prop, xCi b b k_X6_byteAt m2 [.ref 1, .int (v1 + (nI 1))] Q6 ∧
       ∀ (r8 : Int32) (m7 : xm_M), Q6 r8 m7 →
       ((¬ r8 = (nI 103) →
        Q (nI 0) m7) ∧
       (r8 = (nI 103) →
        ∃ Q11 : Int32 → xm_M → Prop, xCi b b k_X6_byteAt m7 [.ref 1, .int (v1 + (nI 2))] Q11 ∧
        ∀ (r13 : Int32) (m12 : xm_M), Q11 r13 m12 →
        ((¬ r13 = (nI 103) →
         Q (nI 0) m12) ∧
        (r13 = (nI 103) →
         ∃ Q16 : Int32 → xm_M → Prop, xCi b b k_X6_byteAt m12 [.ref 1, .int (v1 + (nI 3))] Q16 ∧
         ∀ (r18 : Int32) (m17 : xm_M), Q16 r18 m17 →
         ((¬ r18 = (nI 83) →
          Q (nI 0) m17) ∧
         (r18 = (nI 83) →
          ∃ Q21 : Int32 → xm_M → Prop, xCi b b k_X6_byteAt m17 [.ref 1, .int (v1 + (nI 4))] Q21 ∧
          ∀ (r23 : Int32) (m22 : xm_M), Q21 r23 m22 →
          ((¬ r23 = 0 →
           Q (nI 0) m22) ∧
          (r23 = 0 →
           Q (nI 1) m22))))))))))) :
    xCi b b k_X6_hasMarkAt μ [.ref 1, .int v1] Q := by
  intro hR
  refine xm_met [some (.ref 1), some (.int v1)] 0 (by decide) (by simp [lg_sl, Value.category]) rfl ?_
  refine xs_aload_n dX6_hasMarkAt_0 rfl ?_
  refine xs_iload_n dX6_hasMarkAt_1 rfl ?_
  obtain ⟨Q1, hQ1, h⟩ := h
  refine xs_callV (j := k_X6_byteAt) (As := [.int v1]) (S := []) dX6_hasMarkAt_2 (hQ1 hR) ⟨ml_X6_21, mk_X6_byteAt.1, mk_X6_byteAt.2.1, mk_X6_byteAt.2.2⟩ mv_X6_byteAt ⟨Nat.le_of_ble_eq_true rfl, Nat.le_of_ble_eq_true rfl⟩ rfl (Nat.le_of_ble_eq_true rfl) sc_1 rfl ⟨rfl, rfl⟩ (fun rr m2 hq4 => ?_)
  obtain ⟨hR, r3, rfl, hq4⟩ := hq4
  replace h := h r3 m2 hq4
  refine xs_bipush (nI 79) dX6_hasMarkAt_5 (by decide) ?_
  refine xs_icmp_ne 60 dX6_hasMarkAt_7 (by decide) (fun c5 => ?_) (fun c5 => ?_)
  · replace h := h.1 c5
    refine xs_iconst (nI 0) dX6_hasMarkAt_60 (by decide) ?_
    exact xs_ret (some (.int (nI 0))) dX6_hasMarkAt_61 rfl rfl ⟨hR, _, rfl, h⟩
  · replace h := h.2 c5
    refine xs_aload_n dX6_hasMarkAt_10 rfl ?_
    refine xs_iload_n dX6_hasMarkAt_11 rfl ?_
    refine xs_iconst (nI 1) dX6_hasMarkAt_12 (by decide) ?_
    refine xs_iadd dX6_hasMarkAt_13 ?_
    obtain ⟨Q6, hQ6, h⟩ := h
    refine xs_callV (j := k_X6_byteAt) (As := [.int (v1 + (nI 1))]) (S := []) dX6_hasMarkAt_14 (hQ6 hR) ⟨ml_X6_21, mk_X6_byteAt.1, mk_X6_byteAt.2.1, mk_X6_byteAt.2.2⟩ mv_X6_byteAt ⟨Nat.le_of_ble_eq_true rfl, Nat.le_of_ble_eq_true rfl⟩ rfl (Nat.le_of_ble_eq_true rfl) sc_1 rfl ⟨rfl, rfl⟩ (fun rr m7 hq9 => ?_)
    obtain ⟨hR, r8, rfl, hq9⟩ := hq9
    replace h := h r8 m7 hq9
    refine xs_bipush (nI 103) dX6_hasMarkAt_17 (by decide) ?_
    refine xs_icmp_ne 60 dX6_hasMarkAt_19 (by decide) (fun c10 => ?_) (fun c10 => ?_)
    · replace h := h.1 c10
      refine xs_iconst (nI 0) dX6_hasMarkAt_60 (by decide) ?_
      exact xs_ret (some (.int (nI 0))) dX6_hasMarkAt_61 rfl rfl ⟨hR, _, rfl, h⟩
    · replace h := h.2 c10
      refine xs_aload_n dX6_hasMarkAt_22 rfl ?_
      refine xs_iload_n dX6_hasMarkAt_23 rfl ?_
      refine xs_iconst (nI 2) dX6_hasMarkAt_24 (by decide) ?_
      refine xs_iadd dX6_hasMarkAt_25 ?_
      obtain ⟨Q11, hQ11, h⟩ := h
      refine xs_callV (j := k_X6_byteAt) (As := [.int (v1 + (nI 2))]) (S := []) dX6_hasMarkAt_26 (hQ11 hR) ⟨ml_X6_21, mk_X6_byteAt.1, mk_X6_byteAt.2.1, mk_X6_byteAt.2.2⟩ mv_X6_byteAt ⟨Nat.le_of_ble_eq_true rfl, Nat.le_of_ble_eq_true rfl⟩ rfl (Nat.le_of_ble_eq_true rfl) sc_1 rfl ⟨rfl, rfl⟩ (fun rr m12 hq14 => ?_)
      obtain ⟨hR, r13, rfl, hq14⟩ := hq14
      replace h := h r13 m12 hq14
      refine xs_bipush (nI 103) dX6_hasMarkAt_29 (by decide) ?_
      refine xs_icmp_ne 60 dX6_hasMarkAt_31 (by decide) (fun c15 => ?_) (fun c15 => ?_)
      · replace h := h.1 c15
        refine xs_iconst (nI 0) dX6_hasMarkAt_60 (by decide) ?_
        exact xs_ret (some (.int (nI 0))) dX6_hasMarkAt_61 rfl rfl ⟨hR, _, rfl, h⟩
      · replace h := h.2 c15
        refine xs_aload_n dX6_hasMarkAt_34 rfl ?_
        refine xs_iload_n dX6_hasMarkAt_35 rfl ?_
        refine xs_iconst (nI 3) dX6_hasMarkAt_36 (by decide) ?_
        refine xs_iadd dX6_hasMarkAt_37 ?_
        obtain ⟨Q16, hQ16, h⟩ := h
        refine xs_callV (j := k_X6_byteAt) (As := [.int (v1 + (nI 3))]) (S := []) dX6_hasMarkAt_38 (hQ16 hR) ⟨ml_X6_21, mk_X6_byteAt.1, mk_X6_byteAt.2.1, mk_X6_byteAt.2.2⟩ mv_X6_byteAt ⟨Nat.le_of_ble_eq_true rfl, Nat.le_of_ble_eq_true rfl⟩ rfl (Nat.le_of_ble_eq_true rfl) sc_1 rfl ⟨rfl, rfl⟩ (fun rr m17 hq19 => ?_)
        obtain ⟨hR, r18, rfl, hq19⟩ := hq19
        replace h := h r18 m17 hq19
        refine xs_bipush (nI 83) dX6_hasMarkAt_41 (by decide) ?_
        refine xs_icmp_ne 60 dX6_hasMarkAt_43 (by decide) (fun c20 => ?_) (fun c20 => ?_)
        · replace h := h.1 c20
          refine xs_iconst (nI 0) dX6_hasMarkAt_60 (by decide) ?_
          exact xs_ret (some (.int (nI 0))) dX6_hasMarkAt_61 rfl rfl ⟨hR, _, rfl, h⟩
        · replace h := h.2 c20
          refine xs_aload_n dX6_hasMarkAt_46 rfl ?_
          refine xs_iload_n dX6_hasMarkAt_47 rfl ?_
          refine xs_iconst (nI 4) dX6_hasMarkAt_48 (by decide) ?_
          refine xs_iadd dX6_hasMarkAt_49 ?_
          obtain ⟨Q21, hQ21, h⟩ := h
          refine xs_callV (j := k_X6_byteAt) (As := [.int (v1 + (nI 4))]) (S := []) dX6_hasMarkAt_50 (hQ21 hR) ⟨ml_X6_21, mk_X6_byteAt.1, mk_X6_byteAt.2.1, mk_X6_byteAt.2.2⟩ mv_X6_byteAt ⟨Nat.le_of_ble_eq_true rfl, Nat.le_of_ble_eq_true rfl⟩ rfl (Nat.le_of_ble_eq_true rfl) sc_1 rfl ⟨rfl, rfl⟩ (fun rr m22 hq24 => ?_)
          obtain ⟨hR, r23, rfl, hq24⟩ := hq24
          replace h := h r23 m22 hq24
          refine xs_if_ne 60 dX6_hasMarkAt_53 (by decide) (fun c25 => ?_) (fun c25 => ?_)
          · replace h := h.1 c25
            refine xs_iconst (nI 0) dX6_hasMarkAt_60 (by decide) ?_
            exact xs_ret (some (.int (nI 0))) dX6_hasMarkAt_61 rfl rfl ⟨hR, _, rfl, h⟩
          · replace h := h.2 c25
            refine xs_iconst (nI 1) dX6_hasMarkAt_56 (by decide) ?_
            refine xs_goto 61 dX6_hasMarkAt_57 (by decide) ?_
            exact xs_ret (some (.int (nI 1))) dX6_hasMarkAt_61 rfl rfl ⟨hR, _, rfl, h⟩
abbrev hd_X6_crc_14 (b : Bool) (Q : Int32 → xm_M → Prop)  (v1 : Int32) (v2 : Int32) (v3 : Int32) (v4 : Int32) (μ : xm_M) : Prop := xs_RT b μ → xR k_X6_crc none true (fun r _ μ' => xs_RT b μ' ∧ ∃ x : Int32, r = some (.int x) ∧ Q x μ') 14 [some (.ref 1), some (.int v1), some (.int v2), some (.int v3), some (.int v4)] [] xs_sh (0, 0) μ
set_option maxHeartbeats 4000000 in
set_option maxRecDepth 100000 in
theorem l_X6_crc_14 {b : Bool} {Q : Int32 → xm_M → Prop} {μ : xm_M}  (v1 : Int32) (v2 : Int32) (v3 : Int32) (v4 : Int32) 
    (h : (((nI 4) ≤ v4 →
       ∃ Q2 : Int32 → xm_M → Prop, xCi b b k_X6_crcOn μ [.ref 1, .int v3, .int ((v1 + (nI 22)) + (nI 4)), .int v2] Q2 ∧
       ∀ (r4 : Int32) (m3 : xm_M), Q2 r4 m3 →
       Q r4 m3) ∧
      (¬ (nI 4) ≤ v4 →
       ∃ Q6 : Int32 → xm_M → Prop, xCi b b k_X6_turned μ [.int v3] Q6 ∧
       ∀ (r8 : Int32) (m7 : xm_M), Q6 r8 m7 →
       ∀ x10 : Int32, x10 = v4 + nI 1 →
       hd_X6_crc_14 b Q  v1 v2 r8 x10 m7))) :
    hd_X6_crc_14 b Q  v1 v2 v3 v4 μ := by
  intro hR
  refine xs_iload dX6_crc_14 rfl ?_
  refine xs_iconst (nI 4) dX6_crc_16 (by decide) ?_
  refine xs_icmp_ge 31 dX6_crc_17 (by decide) (fun c1 => ?_) (fun c1 => ?_)
  · replace h := h.1 c1
    refine xs_aload_n dX6_crc_31 rfl ?_
    refine xs_iload_n dX6_crc_32 rfl ?_
    refine xs_iload_n dX6_crc_33 rfl ?_
    refine xs_bipush (nI 22) dX6_crc_34 (by decide) ?_
    refine xs_iadd dX6_crc_36 ?_
    refine xs_iconst (nI 4) dX6_crc_37 (by decide) ?_
    refine xs_iadd dX6_crc_38 ?_
    refine xs_iload_n dX6_crc_39 rfl ?_
    obtain ⟨Q2, hQ2, h⟩ := h
    refine xs_callV (j := k_X6_crcOn) (As := [.int v3, .int ((v1 + (nI 22)) + (nI 4)), .int v2]) (S := []) dX6_crc_40 (hQ2 hR) ⟨ml_X6_47, mk_X6_crcOn.1, mk_X6_crcOn.2.1, mk_X6_crcOn.2.2⟩ mv_X6_crcOn ⟨Nat.le_of_ble_eq_true rfl, Nat.le_of_ble_eq_true rfl⟩ rfl (Nat.le_of_ble_eq_true rfl) sc_1 rfl ⟨rfl, rfl⟩ (fun rr m3 hq5 => ?_)
    obtain ⟨hR, r4, rfl, hq5⟩ := hq5
    replace h := h r4 m3 hq5
    exact xs_ret (some (.int r4)) dX6_crc_43 rfl rfl ⟨hR, _, rfl, h⟩
  · replace h := h.2 c1
    refine xs_iload_n dX6_crc_20 rfl ?_
    obtain ⟨Q6, hQ6, h⟩ := h
    refine xs_callS (j := k_X6_turned) (As := [.int v3]) (S := []) dX6_crc_21 (hQ6 hR) ⟨ml_X6_51, mk_X6_turned.1, mk_X6_turned.2.1, mk_X6_turned.2.2⟩ ms_X6_turned ⟨Nat.le_of_ble_eq_true rfl, Nat.le_of_ble_eq_true rfl⟩ rfl (Nat.le_of_ble_eq_true rfl) ⟨rfl, rfl⟩ (fun rr m7 hq9 => ?_)
    obtain ⟨hR, r8, rfl, hq9⟩ := hq9
    replace h := h r8 m7 hq9
    refine xs_istore_n [some (.ref 1), some (.int v1), some (.int v2), some (.int r8), some (.int v4)] dX6_crc_24 (by decide) rfl ?_
    obtain ⟨x10, e_x10⟩ : ∃ z : Int32, z = v4 + nI 1 := ⟨_, rfl⟩
    replace h := h x10 e_x10
    refine xs_iinc x10 [some (.ref 1), some (.int v1), some (.int v2), some (.int r8), some (.int x10)] dX6_crc_25 (by decide) rfl (by rw [e_x10]; rfl) rfl ?_
    refine xs_goto 14 dX6_crc_28 (by decide) ?_
    exact xs_loc [some (.ref 1), some (.int v1), some (.int v2), some (.int r8), some (.int x10)] ⟨rfl, ⟨rfl, ⟨rfl, ⟨rfl, ⟨rfl, trivial⟩⟩⟩⟩⟩ (h hR)
set_option maxHeartbeats 4000000 in
set_option maxRecDepth 100000 in
theorem g_X6_crc {b : Bool} {Q : Int32 → xm_M → Prop} {μ : xm_M} (v1 : Int32) (v2 : Int32) 
    (h : ∃ Q1 : Int32 → xm_M → Prop, xCi b b k_X6_crcOn μ [.ref 1, .int (nI 0), .int v1, .int (v1 + (nI 22))] Q1 ∧
      ∀ (r3 : Int32) (m2 : xm_M), Q1 r3 m2 →
      hd_X6_crc_14 b Q  v1 v2 r3 (nI 0) m2) :
    xCi b b k_X6_crc μ [.ref 1, .int v1, .int v2] Q := by
  intro hR
  refine xm_met [some (.ref 1), some (.int v1), some (.int v2), none, none] 2 (by decide) (by simp [lg_sl, Value.category]) rfl ?_
  refine xs_aload_n dX6_crc_0 rfl ?_
  refine xs_iconst (nI 0) dX6_crc_1 (by decide) ?_
  refine xs_iload_n dX6_crc_2 rfl ?_
  refine xs_iload_n dX6_crc_3 rfl ?_
  refine xs_bipush (nI 22) dX6_crc_4 (by decide) ?_
  refine xs_iadd dX6_crc_6 ?_
  obtain ⟨Q1, hQ1, h⟩ := h
  refine xs_callV (j := k_X6_crcOn) (As := [.int (nI 0), .int v1, .int (v1 + (nI 22))]) (S := []) dX6_crc_7 (hQ1 hR) ⟨ml_X6_47, mk_X6_crcOn.1, mk_X6_crcOn.2.1, mk_X6_crcOn.2.2⟩ mv_X6_crcOn ⟨Nat.le_of_ble_eq_true rfl, Nat.le_of_ble_eq_true rfl⟩ rfl (Nat.le_of_ble_eq_true rfl) sc_1 rfl ⟨rfl, rfl⟩ (fun rr m2 hq4 => ?_)
  obtain ⟨hR, r3, rfl, hq4⟩ := hq4
  replace h := h r3 m2 hq4
  refine xs_istore_n [some (.ref 1), some (.int v1), some (.int v2), some (.int r3), none] dX6_crc_10 (by decide) rfl ?_
  refine xs_iconst (nI 0) dX6_crc_11 (by decide) ?_
  refine xs_istore [some (.ref 1), some (.int v1), some (.int v2), some (.int r3), some (.int (nI 0))] dX6_crc_12 (by decide) rfl ?_
  exact xs_loc [some (.ref 1), some (.int v1), some (.int v2), some (.int r3), some (.int (nI 0))] ⟨rfl, ⟨rfl, ⟨rfl, ⟨rfl, ⟨rfl, trivial⟩⟩⟩⟩⟩ (h hR)
abbrev hd_X6_crcOn_10 (b : Bool) (Q : Int32 → xm_M → Prop)  (v3 : Int32) (v4 : Int32) (v5 : Int32) (μ : xm_M) : Prop := xs_RT b μ → xR k_X6_crcOn none true (fun r _ μ' => xs_RT b μ' ∧ ∃ x : Int32, r = some (.int x) ∧ Q x μ') 10 [some (.ref 1), none, none, some (.int v3), some (.int v4), some (.int v5)] [] xs_sh (0, 0) μ
set_option maxHeartbeats 4000000 in
set_option maxRecDepth 100000 in
theorem l_X6_crcOn_10 {b : Bool} {Q : Int32 → xm_M → Prop} {μ : xm_M}  (v3 : Int32) (v4 : Int32) (v5 : Int32) 
    (h : ((v3 ≤ v5 →
       Q v4 μ) ∧
      (¬ v3 ≤ v5 →
       (((nI 6000) ≤ v5 →
        Q v4 μ) ∧
       (¬ (nI 6000) ≤ v5 →
        vp_in v5 6000 ∧
        ∃ Q4 : Int32 → xm_M → Prop, xCi b b k_X6_turned μ [.int (v4 ^^^ ((μ.1 2 (v5).toNatClampNeg) <<< ((nI 24) &&& 31)))] Q4 ∧
        ∀ (r6 : Int32) (m5 : xm_M), Q4 r6 m5 →
        ∀ x8 : Int32, x8 = v5 + nI 1 →
        hd_X6_crcOn_10 b Q  v3 r6 x8 m5))))) :
    hd_X6_crcOn_10 b Q  v3 v4 v5 μ := by
  intro hR
  refine xs_iload dX6_crcOn_10 rfl ?_
  refine xs_iload_n dX6_crcOn_12 rfl ?_
  refine xs_icmp_ge 50 dX6_crcOn_13 (by decide) (fun c1 => ?_) (fun c1 => ?_)
  · replace h := h.1 c1
    refine xs_iload dX6_crcOn_50 rfl ?_
    exact xs_ret (some (.int v4)) dX6_crcOn_52 rfl rfl ⟨hR, _, rfl, h⟩
  · replace h := h.2 c1
    refine xs_iload dX6_crcOn_16 rfl ?_
    refine xs_aload_n dX6_crcOn_18 rfl ?_
    refine xs_getR dX6_crcOn_19 fl_X6_9 rfl sc_1 (rt_1_0 hR) ?_
    refine xs_alen 1 dX6_crcOn_22 sc_2 (fun _ => rfl) ?_
    refine xs_icmp_ge 50 dX6_crcOn_23 (by decide) (fun c2 => ?_) (fun c2 => ?_)
    · replace h := h.1 c2
      refine xs_iload dX6_crcOn_50 rfl ?_
      exact xs_ret (some (.int v4)) dX6_crcOn_52 rfl rfl ⟨hR, _, rfl, h⟩
    · replace h := h.2 c2
      refine xs_iload dX6_crcOn_26 rfl ?_
      refine xs_aload_n dX6_crcOn_28 rfl ?_
      refine xs_getR dX6_crcOn_29 fl_X6_9 rfl sc_1 (rt_1_0 hR) ?_
      refine xs_iload dX6_crcOn_32 rfl ?_
      obtain ⟨s3, h⟩ := h
      refine xs_bald dX6_crcOn_34 sc_2 s3 ?_
      refine xs_bipush (nI 24) dX6_crcOn_35 (by decide) ?_
      refine xs_ishl dX6_crcOn_37 ?_
      refine xs_ixor dX6_crcOn_38 ?_
      obtain ⟨Q4, hQ4, h⟩ := h
      refine xs_callS (j := k_X6_turned) (As := [.int (v4 ^^^ ((μ.1 2 (v5).toNatClampNeg) <<< ((nI 24) &&& 31)))]) (S := []) dX6_crcOn_39 (hQ4 hR) ⟨ml_X6_51, mk_X6_turned.1, mk_X6_turned.2.1, mk_X6_turned.2.2⟩ ms_X6_turned ⟨Nat.le_of_ble_eq_true rfl, Nat.le_of_ble_eq_true rfl⟩ rfl (Nat.le_of_ble_eq_true rfl) ⟨rfl, rfl⟩ (fun rr m5 hq7 => ?_)
      obtain ⟨hR, r6, rfl, hq7⟩ := hq7
      replace h := h r6 m5 hq7
      refine xs_istore [some (.ref 1), none, none, some (.int v3), some (.int r6), some (.int v5)] dX6_crcOn_42 (by decide) rfl ?_
      obtain ⟨x8, e_x8⟩ : ∃ z : Int32, z = v5 + nI 1 := ⟨_, rfl⟩
      replace h := h x8 e_x8
      refine xs_iinc x8 [some (.ref 1), none, none, some (.int v3), some (.int r6), some (.int x8)] dX6_crcOn_44 (by decide) rfl (by rw [e_x8]; rfl) rfl ?_
      refine xs_goto 10 dX6_crcOn_47 (by decide) ?_
      exact xs_loc [some (.ref 1), none, none, some (.int v3), some (.int r6), some (.int x8)] ⟨rfl, ⟨rfl, ⟨rfl, ⟨rfl, trivial⟩⟩⟩⟩ (h hR)
set_option maxHeartbeats 4000000 in
set_option maxRecDepth 100000 in
theorem g_X6_crcOn {b : Bool} {Q : Int32 → xm_M → Prop} {μ : xm_M} (v1 : Int32) (v2 : Int32) (v3 : Int32) 
    (h : ∀ x1 : Int32, x1 = (if (nI 0) < v2 then v2 else (nI 0)) →
      hd_X6_crcOn_10 b Q  v3 v1 x1 μ) :
    xCi b b k_X6_crcOn μ [.ref 1, .int v1, .int v2, .int v3] Q := by
  intro hR
  refine xm_met [some (.ref 1), some (.int v1), some (.int v2), some (.int v3), none, none] 2 (by decide) (by simp [lg_sl, Value.category]) rfl ?_
  refine xs_iload_n dX6_crcOn_0 rfl ?_
  refine xs_istore [some (.ref 1), some (.int v1), some (.int v2), some (.int v3), some (.int v1), none] dX6_crcOn_1 (by decide) rfl ?_
  refine xs_iconst (nI 0) dX6_crcOn_3 (by decide) ?_
  refine xs_iload_n dX6_crcOn_4 rfl ?_
  refine xs_mmax dX6_crcOn_5 ml_X6_54 (Nat.le_of_ble_eq_true rfl) (Nat.le_of_ble_eq_true rfl) ?_
  refine xs_nmI (fun x1 e_x1 => ?_)
  replace h := h x1 e_x1
  refine xs_istore [some (.ref 1), some (.int v1), some (.int v2), some (.int v3), some (.int v1), some (.int x1)] dX6_crcOn_8 (by decide) rfl ?_
  exact xs_loc [some (.ref 1), none, none, some (.int v3), some (.int v1), some (.int x1)] ⟨rfl, ⟨rfl, ⟨rfl, ⟨rfl, trivial⟩⟩⟩⟩ (h hR)
set_option maxHeartbeats 4000000 in
set_option maxRecDepth 100000 in
theorem g_X6_turned {b : Bool} {Q : Int32 → xm_M → Prop} {μ : xm_M} (v0 : Int32) 
    (h : vp_in ((v0).toUInt32 >>> (((nI 28)).toUInt32 &&& Int32.toUInt32 31)).toInt32 16 ∧
      ∀ x2 : Int32, x2 = ((v0 <<< ((nI 4) &&& 31)) ^^^ ((xs_tab 2).getD (((v0).toUInt32 >>> (((nI 28)).toUInt32 &&& Int32.toUInt32 31)).toInt32).toNatClampNeg 0)) →
      vp_in ((x2).toUInt32 >>> (((nI 28)).toUInt32 &&& Int32.toUInt32 31)).toInt32 16 ∧
      Q ((x2 <<< ((nI 4) &&& 31)) ^^^ ((xs_tab 2).getD (((x2).toUInt32 >>> (((nI 28)).toUInt32 &&& Int32.toUInt32 31)).toInt32).toNatClampNeg 0)) μ) :
    xCi b b k_X6_turned μ [.int v0] Q := by
  intro hR
  refine xm_met [some (.int v0), none] 1 (by decide) (by simp [lg_sl, Value.category]) rfl ?_
  refine xs_iload_n dX6_turned_0 rfl ?_
  refine xs_iconst (nI 4) dX6_turned_1 (by decide) ?_
  refine xs_ishl dX6_turned_2 ?_
  refine xs_gets (k := 2) (q := xs_tq 2) dX6_turned_3 rfl fs_X6_59 ?_
  refine xs_iload_n dX6_turned_6 rfl ?_
  refine xs_bipush (nI 28) dX6_turned_7 (by decide) ?_
  refine xs_iushr dX6_turned_9 ?_
  obtain ⟨s1, h⟩ := h
  refine xs_tald (k := 2) (q := xs_tq 2) dX6_turned_10 rfl s1 ?_
  refine xs_ixor dX6_turned_11 ?_
  refine xs_nmI (fun x2 e_x2 => ?_)
  replace h := h x2 e_x2
  refine xs_istore_n [some (.int v0), some (.int x2)] dX6_turned_12 (by decide) rfl ?_
  refine xs_iload_n dX6_turned_13 rfl ?_
  refine xs_iconst (nI 4) dX6_turned_14 (by decide) ?_
  refine xs_ishl dX6_turned_15 ?_
  refine xs_gets (k := 2) (q := xs_tq 2) dX6_turned_16 rfl fs_X6_59 ?_
  refine xs_iload_n dX6_turned_19 rfl ?_
  refine xs_bipush (nI 28) dX6_turned_20 (by decide) ?_
  refine xs_iushr dX6_turned_22 ?_
  obtain ⟨s3, h⟩ := h
  refine xs_tald (k := 2) (q := xs_tq 2) dX6_turned_23 rfl s3 ?_
  refine xs_ixor dX6_turned_24 ?_
  exact xs_ret (some (.int ((x2 <<< ((nI 4) &&& 31)) ^^^ ((xs_tab 2).getD (((x2).toUInt32 >>> (((nI 28)).toUInt32 &&& Int32.toUInt32 31)).toInt32).toNatClampNeg 0)))) dX6_turned_25 rfl rfl ⟨hR, _, rfl, h⟩
