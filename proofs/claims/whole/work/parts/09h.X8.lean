/-! walks of h.X8, printed by wip/gen/mkwalk.py -/
set_option maxHeartbeats 4000000 in
set_option maxRecDepth 100000 in
theorem g_X8_feed {b : Bool} {Q : Int32 → xm_M → Prop} {μ : xm_M} (v1 : Int32) (v2 : Int32) (v3 : Int32) (v4 : Int32) (v5 : Int32) 
    (h : ((((μ.1 1 1) + (nI 20)) ≤ (nI 6000) →
       ∃ Q2 : xm_M → Prop, xCv b b k_X6_putHighestFirst μ [.ref 1, .int v1] Q2 ∧
       ∀ m3 : xm_M, Q2 m3 →
       ∃ Q6 : xm_M → Prop, xCv b b k_X6_putHighestFirst m3 [.ref 1, .int v2] Q6 ∧
       ∀ m7 : xm_M, Q6 m7 →
       ∃ Q10 : xm_M → Prop, xCv b b k_X6_putHighestFirst m7 [.ref 1, .int v3] Q10 ∧
       ∀ m11 : xm_M, Q10 m11 →
       ∃ Q14 : xm_M → Prop, xCv b b k_X6_putHighestFirst m11 [.ref 1, .int v4] Q14 ∧
       ∀ m15 : xm_M, Q14 m15 →
       ∃ Q18 : xm_M → Prop, xCv b b k_X6_putHighestFirst m15 [.ref 1, .int v5] Q18 ∧
       ∀ m19 : xm_M, Q18 m19 →
       Q (m19.1 1 1) m19) ∧
      (¬ ((μ.1 1 1) + (nI 20)) ≤ (nI 6000) →
       Q (-1 : Int32) μ))) :
    xCi b b k_X8_feed μ [.ref 0, .int v1, .int v2, .int v3, .int v4, .int v5] Q := by
  intro hR
  refine xm_met [some (.ref 0), some (.int v1), some (.int v2), some (.int v3), some (.int v4), some (.int v5)] 0 (by decide) (by simp [lg_sl, Value.category]) rfl ?_
  refine xs_aload_n dX8_feed_0 rfl ?_
  refine xs_getR dX8_feed_1 fl_X8_10 rfl sc_0 (rt_0_0 hR) ?_
  refine xs_getI dX8_feed_4 fl_X8_71.g rfl sc_1 ?_
  refine xs_bipush (nI 20) dX8_feed_7 (by decide) ?_
  refine xs_iadd dX8_feed_9 ?_
  refine xs_sipush (nI 6000) dX8_feed_10 (by decide) ?_
  refine xs_icmp_le 18 dX8_feed_13 (by decide) (fun c1 => ?_) (fun c1 => ?_)
  · replace h := h.1 c1
    refine xs_aload_n dX8_feed_18 rfl ?_
    refine xs_getR dX8_feed_19 fl_X8_10 rfl sc_0 (rt_0_0 hR) ?_
    refine xs_iload_n dX8_feed_22 rfl ?_
    obtain ⟨Q2, hQ2, h⟩ := h
    refine xs_callV (j := k_X6_putHighestFirst) (As := [.int v1]) (S := []) dX8_feed_23 (hQ2 hR) ⟨ml_X8_74, mk_X6_putHighestFirst.1, mk_X6_putHighestFirst.2.1, mk_X6_putHighestFirst.2.2⟩ mv_X6_putHighestFirst ⟨Nat.le_of_ble_eq_true rfl, Nat.le_of_ble_eq_true rfl⟩ rfl (Nat.le_of_ble_eq_true rfl) sc_1 rfl ⟨rfl, rfl⟩ (fun rr m3 hq5 => ?_)
    obtain ⟨hR, rfl, hq5⟩ := hq5
    replace h := h m3 hq5
    refine xs_aload_n dX8_feed_26 rfl ?_
    refine xs_getR dX8_feed_27 fl_X8_10 rfl sc_0 (rt_0_0 hR) ?_
    refine xs_iload_n dX8_feed_30 rfl ?_
    obtain ⟨Q6, hQ6, h⟩ := h
    refine xs_callV (j := k_X6_putHighestFirst) (As := [.int v2]) (S := []) dX8_feed_31 (hQ6 hR) ⟨ml_X8_74, mk_X6_putHighestFirst.1, mk_X6_putHighestFirst.2.1, mk_X6_putHighestFirst.2.2⟩ mv_X6_putHighestFirst ⟨Nat.le_of_ble_eq_true rfl, Nat.le_of_ble_eq_true rfl⟩ rfl (Nat.le_of_ble_eq_true rfl) sc_1 rfl ⟨rfl, rfl⟩ (fun rr m7 hq9 => ?_)
    obtain ⟨hR, rfl, hq9⟩ := hq9
    replace h := h m7 hq9
    refine xs_aload_n dX8_feed_34 rfl ?_
    refine xs_getR dX8_feed_35 fl_X8_10 rfl sc_0 (rt_0_0 hR) ?_
    refine xs_iload_n dX8_feed_38 rfl ?_
    obtain ⟨Q10, hQ10, h⟩ := h
    refine xs_callV (j := k_X6_putHighestFirst) (As := [.int v3]) (S := []) dX8_feed_39 (hQ10 hR) ⟨ml_X8_74, mk_X6_putHighestFirst.1, mk_X6_putHighestFirst.2.1, mk_X6_putHighestFirst.2.2⟩ mv_X6_putHighestFirst ⟨Nat.le_of_ble_eq_true rfl, Nat.le_of_ble_eq_true rfl⟩ rfl (Nat.le_of_ble_eq_true rfl) sc_1 rfl ⟨rfl, rfl⟩ (fun rr m11 hq13 => ?_)
    obtain ⟨hR, rfl, hq13⟩ := hq13
    replace h := h m11 hq13
    refine xs_aload_n dX8_feed_42 rfl ?_
    refine xs_getR dX8_feed_43 fl_X8_10 rfl sc_0 (rt_0_0 hR) ?_
    refine xs_iload dX8_feed_46 rfl ?_
    obtain ⟨Q14, hQ14, h⟩ := h
    refine xs_callV (j := k_X6_putHighestFirst) (As := [.int v4]) (S := []) dX8_feed_48 (hQ14 hR) ⟨ml_X8_74, mk_X6_putHighestFirst.1, mk_X6_putHighestFirst.2.1, mk_X6_putHighestFirst.2.2⟩ mv_X6_putHighestFirst ⟨Nat.le_of_ble_eq_true rfl, Nat.le_of_ble_eq_true rfl⟩ rfl (Nat.le_of_ble_eq_true rfl) sc_1 rfl ⟨rfl, rfl⟩ (fun rr m15 hq17 => ?_)
    obtain ⟨hR, rfl, hq17⟩ := hq17
    replace h := h m15 hq17
    refine xs_aload_n dX8_feed_51 rfl ?_
    refine xs_getR dX8_feed_52 fl_X8_10 rfl sc_0 (rt_0_0 hR) ?_
    refine xs_iload dX8_feed_55 rfl ?_
    obtain ⟨Q18, hQ18, h⟩ := h
    refine xs_callV (j := k_X6_putHighestFirst) (As := [.int v5]) (S := []) dX8_feed_57 (hQ18 hR) ⟨ml_X8_74, mk_X6_putHighestFirst.1, mk_X6_putHighestFirst.2.1, mk_X6_putHighestFirst.2.2⟩ mv_X6_putHighestFirst ⟨Nat.le_of_ble_eq_true rfl, Nat.le_of_ble_eq_true rfl⟩ rfl (Nat.le_of_ble_eq_true rfl) sc_1 rfl ⟨rfl, rfl⟩ (fun rr m19 hq21 => ?_)
    obtain ⟨hR, rfl, hq21⟩ := hq21
    replace h := h m19 hq21
    refine xs_aload_n dX8_feed_60 rfl ?_
    refine xs_getR dX8_feed_61 fl_X8_10 rfl sc_0 (rt_0_0 hR) ?_
    refine xs_getI dX8_feed_64 fl_X8_71.g rfl sc_1 ?_
    exact xs_ret (some (.int (m19.1 1 1))) dX8_feed_67 rfl rfl ⟨hR, _, rfl, h⟩
  · replace h := h.2 c1
    refine xs_iconst (-1 : Int32) dX8_feed_16 (by decide) ?_
    exact xs_ret (some (.int (-1 : Int32))) dX8_feed_17 rfl rfl ⟨hR, _, rfl, h⟩
set_option maxHeartbeats 4000000 in
set_option maxRecDepth 100000 in
theorem g_X8_end {b : Bool} {Q : Int32 → xm_M → Prop} {μ : xm_M} (v1 : Int32) 
    (h : ((v1 < 0 →
       Q (nI 0) μ) ∧
      (¬ v1 < 0 →
       ((v1 ≤ (μ.1 1 1) →
        ∀ m3 : xm_M, m3 = xu_I μ 1 (upd (μ.1 1) 1 v1) →
        Q (nI 1) m3) ∧
       (¬ v1 ≤ (μ.1 1 1) →
        Q (nI 0) μ))))) :
    xCi b b k_X8_end μ [.ref 0, .int v1] Q := by
  intro hR
  refine xm_met [some (.ref 0), some (.int v1)] 0 (by decide) (by simp [lg_sl, Value.category]) rfl ?_
  refine xs_iload_n dX8_end_0 rfl ?_
  refine xs_if_lt 15 dX8_end_1 (by decide) (fun c1 => ?_) (fun c1 => ?_)
  · replace h := h.1 c1
    refine xs_iconst (nI 0) dX8_end_15 (by decide) ?_
    exact xs_ret (some (.int (nI 0))) dX8_end_16 rfl rfl ⟨hR, _, rfl, h⟩
  · replace h := h.2 c1
    refine xs_iload_n dX8_end_4 rfl ?_
    refine xs_aload_n dX8_end_5 rfl ?_
    refine xs_getR dX8_end_6 fl_X8_10 rfl sc_0 (rt_0_0 hR) ?_
    refine xs_getI dX8_end_9 fl_X8_71.g rfl sc_1 ?_
    refine xs_icmp_le 17 dX8_end_12 (by decide) (fun c2 => ?_) (fun c2 => ?_)
    · replace h := h.1 c2
      refine xs_aload_n dX8_end_17 rfl ?_
      refine xs_getR dX8_end_18 fl_X8_10 rfl sc_0 (rt_0_0 hR) ?_
      refine xs_iload_n dX8_end_21 rfl ?_
      refine xs_putI dX8_end_22 fl_X8_71 rfl rfl rfl sc_1 ?_
      refine xs_nmM (fun m3 e_m3 => ?_)
      replace h := h m3 e_m3
      have hR : xs_RT b m3 := by rw [e_m3]; exact hR
      refine xs_iconst (nI 1) dX8_end_25 (by decide) ?_
      exact xs_ret (some (.int (nI 1))) dX8_end_26 rfl rfl ⟨hR, _, rfl, h⟩
    · replace h := h.2 c2
      refine xs_iconst (nI 0) dX8_end_15 (by decide) ?_
      exact xs_ret (some (.int (nI 0))) dX8_end_16 rfl rfl ⟨hR, _, rfl, h⟩
set_option maxHeartbeats 4000000 in
set_option maxRecDepth 100000 in
theorem g_X8_harm {b : Bool} {Q : Int32 → xm_M → Prop} {μ : xm_M} (v1 : Int32) (v2 : Int32) 
    (h : ((v1 < 0 →
       Q (nI 0) μ) ∧
      (¬ v1 < 0 →
       ((v1 < (μ.1 1 1) →
        ∃ Q3 : Int32 → xm_M → Prop, xCi b b k_X6_byteAt μ [.ref 1, .int v1] Q3 ∧
        ∀ (r5 : Int32) (m4 : xm_M), Q3 r5 m4 →
        ∃ Q7 : xm_M → Prop, xCv b b k_X6_setByte m4 [.ref 1, .int v1, .int (r5 ^^^ v2)] Q7 ∧
        ∀ m8 : xm_M, Q7 m8 →
        Q (nI 1) m8) ∧
       (¬ v1 < (μ.1 1 1) →
        Q (nI 0) μ))))) :
    xCi b b k_X8_harm μ [.ref 0, .int v1, .int v2] Q := by
  intro hR
  refine xm_met [some (.ref 0), some (.int v1), some (.int v2)] 0 (by decide) (by simp [lg_sl, Value.category]) rfl ?_
  refine xs_iload_n dX8_harm_0 rfl ?_
  refine xs_if_lt 15 dX8_harm_1 (by decide) (fun c1 => ?_) (fun c1 => ?_)
  · replace h := h.1 c1
    refine xs_iconst (nI 0) dX8_harm_15 (by decide) ?_
    exact xs_ret (some (.int (nI 0))) dX8_harm_16 rfl rfl ⟨hR, _, rfl, h⟩
  · replace h := h.2 c1
    refine xs_iload_n dX8_harm_4 rfl ?_
    refine xs_aload_n dX8_harm_5 rfl ?_
    refine xs_getR dX8_harm_6 fl_X8_10 rfl sc_0 (rt_0_0 hR) ?_
    refine xs_getI dX8_harm_9 fl_X8_71.g rfl sc_1 ?_
    refine xs_icmp_lt 17 dX8_harm_12 (by decide) (fun c2 => ?_) (fun c2 => ?_)
    · replace h := h.1 c2
      refine xs_aload_n dX8_harm_17 rfl ?_
      refine xs_getR dX8_harm_18 fl_X8_10 rfl sc_0 (rt_0_0 hR) ?_
      refine xs_iload_n dX8_harm_21 rfl ?_
      refine xs_aload_n dX8_harm_22 rfl ?_
      refine xs_getR dX8_harm_23 fl_X8_10 rfl sc_0 (rt_0_0 hR) ?_
      refine xs_iload_n dX8_harm_26 rfl ?_
      obtain ⟨Q3, hQ3, h⟩ := h
      refine xs_callV (j := k_X6_byteAt) (As := [.int v1]) (S := [.int v1, .ref 1]) dX8_harm_27 (hQ3 hR) ⟨ml_X8_78, mk_X6_byteAt.1, mk_X6_byteAt.2.1, mk_X6_byteAt.2.2⟩ mv_X6_byteAt ⟨Nat.le_of_ble_eq_true rfl, Nat.le_of_ble_eq_true rfl⟩ rfl (Nat.le_of_ble_eq_true rfl) sc_1 rfl ⟨rfl, rfl⟩ (fun rr m4 hq6 => ?_)
      obtain ⟨hR, r5, rfl, hq6⟩ := hq6
      replace h := h r5 m4 hq6
      refine xs_iload_n dX8_harm_30 rfl ?_
      refine xs_ixor dX8_harm_31 ?_
      obtain ⟨Q7, hQ7, h⟩ := h
      refine xs_callV (j := k_X6_setByte) (As := [.int v1, .int (r5 ^^^ v2)]) (S := []) dX8_harm_32 (hQ7 hR) ⟨ml_X8_82, mk_X6_setByte.1, mk_X6_setByte.2.1, mk_X6_setByte.2.2⟩ mv_X6_setByte ⟨Nat.le_of_ble_eq_true rfl, Nat.le_of_ble_eq_true rfl⟩ rfl (Nat.le_of_ble_eq_true rfl) sc_1 rfl ⟨rfl, rfl⟩ (fun rr m8 hq10 => ?_)
      obtain ⟨hR, rfl, hq10⟩ := hq10
      replace h := h m8 hq10
      refine xs_iconst (nI 1) dX8_harm_35 (by decide) ?_
      exact xs_ret (some (.int (nI 1))) dX8_harm_36 rfl rfl ⟨hR, _, rfl, h⟩
    · replace h := h.2 c2
      refine xs_iconst (nI 0) dX8_harm_15 (by decide) ?_
      exact xs_ret (some (.int (nI 0))) dX8_harm_16 rfl rfl ⟨hR, _, rfl, h⟩
abbrev hd_X8_page_48 (b : Bool) (Q : Int32 → xm_M → Prop)  (v1 : Int32) (v2 : Int32) (v3 : Int64) (v5 : Int32) (v6 : Int32) (v7 : Int32) (v8 : Int32) (v9 : Int32) (μ : xm_M) : Prop := xs_RT b μ → xR k_X8_page none true (fun r _ μ' => xs_RT b μ' ∧ ∃ x : Int32, r = some (.int x) ∧ Q x μ') 48 [some (.ref 0), some (.int v1), some (.int v2), some (.long v3), none, some (.int v5), some (.int v6), some (.int v7), some (.int v8), some (.int v9), none] [] xs_sh (0, 0) μ
set_option maxHeartbeats 4000000 in
set_option maxRecDepth 100000 in
theorem l_X8_page_48 {b : Bool} {Q : Int32 → xm_M → Prop} {μ : xm_M}  (v1 : Int32) (v2 : Int32) (v3 : Int64) (v5 : Int32) (v6 : Int32) (v7 : Int32) (v8 : Int32) (v9 : Int32) 
    (h : ((v7 = 0 →
       ∀ x2 : Int32, x2 = ((v8 / (nI 255)) + (nI 1)) →
       (((nI 255) < x2 →
        Q (-1 : Int32) μ) ∧
       (¬ (nI 255) < x2 →
        (((((μ.1 1 1) + (nI 27)) + x2) ≤ (nI 6000) →
         ∃ Q5 : xm_M → Prop, xCv b b k_X6_openGap μ [.ref 1, .int v1, .int ((nI 27) + x2)] Q5 ∧
         ∀ m6 : xm_M, Q5 m6 →
         ∃ Q9 : xm_M → Prop, xCv b b k_X6_writeHead m6 [.ref 1, .int v1, .int v2, .long v3, .int v5, .int v6] Q9 ∧
         ∀ m10 : xm_M, Q9 m10 →
         ((v7 = 0 →
          ∃ Q14 : xm_M → Prop, xCv b b k_X6_writeLaces m10 [.ref 1, .int v1, .int x2, .int v9] Q14 ∧
          ∀ m15 : xm_M, Q14 m15 →
          ∃ Q18 : Int32 → xm_M → Prop, xCi b b k_X6_crc m15 [.ref 1, .int v1, .int (m15.1 1 1)] Q18 ∧
          ∀ (r20 : Int32) (m19 : xm_M), Q18 r20 m19 →
          ∃ Q22 : xm_M → Prop, xCv b b k_X6_writeFour m19 [.ref 1, .int (v1 + (nI 22)), .int r20] Q22 ∧
          ∀ m23 : xm_M, Q22 m23 →
          Q (m23.1 1 1) m23) ∧
         (¬ v7 = 0 →
          ∃ Q26 : xm_M → Prop, xCv b b k_X6_writeLaces m10 [.ref 1, .int v1, .int x2, .int (nI 255)] Q26 ∧
          ∀ m27 : xm_M, Q26 m27 →
          ∃ Q30 : Int32 → xm_M → Prop, xCi b b k_X6_crc m27 [.ref 1, .int v1, .int (m27.1 1 1)] Q30 ∧
          ∀ (r32 : Int32) (m31 : xm_M), Q30 r32 m31 →
          ∃ Q34 : xm_M → Prop, xCv b b k_X6_writeFour m31 [.ref 1, .int (v1 + (nI 22)), .int r32] Q34 ∧
          ∀ m35 : xm_M, Q34 m35 →
          Q (m35.1 1 1) m35))) ∧
        (¬ (((μ.1 1 1) + (nI 27)) + x2) ≤ (nI 6000) →
         Q (-1 : Int32) μ))))) ∧
      (¬ v7 = 0 →
       ∀ x38 : Int32, x38 = ((v8 / (nI 255)) + (nI 0)) →
       (((nI 255) < x38 →
        Q (-1 : Int32) μ) ∧
       (¬ (nI 255) < x38 →
        (((((μ.1 1 1) + (nI 27)) + x38) ≤ (nI 6000) →
         ∃ Q41 : xm_M → Prop, xCv b b k_X6_openGap μ [.ref 1, .int v1, .int ((nI 27) + x38)] Q41 ∧
         ∀ m42 : xm_M, Q41 m42 →
         ∃ Q45 : xm_M → Prop, xCv b b k_X6_writeHead m42 [.ref 1, .int v1, .int v2, .long v3, .int v5, .int v6] Q45 ∧
         ∀ m46 : xm_M, Q45 m46 →
         ((v7 = 0 →
          ∃ Q50 : xm_M → Prop, xCv b b k_X6_writeLaces m46 [.ref 1, .int v1, .int x38, .int v9] Q50 ∧
          ∀ m51 : xm_M, Q50 m51 →
          ∃ Q54 : Int32 → xm_M → Prop, xCi b b k_X6_crc m51 [.ref 1, .int v1, .int (m51.1 1 1)] Q54 ∧
          ∀ (r56 : Int32) (m55 : xm_M), Q54 r56 m55 →
          ∃ Q58 : xm_M → Prop, xCv b b k_X6_writeFour m55 [.ref 1, .int (v1 + (nI 22)), .int r56] Q58 ∧
          ∀ m59 : xm_M, Q58 m59 →
          Q (m59.1 1 1) m59) ∧
         (¬ v7 = 0 →
          ∃ Q62 : xm_M → Prop, xCv b b k_X6_writeLaces m46 [.ref 1, .int v1, .int x38, .int (nI 255)] Q62 ∧
          ∀ m63 : xm_M, Q62 m63 →
          ∃ Q66 : Int32 → xm_M → Prop, xCi b b k_X6_crc m63 [.ref 1, .int v1, .int (m63.1 1 1)] Q66 ∧
          ∀ (r68 : Int32) (m67 : xm_M), Q66 r68 m67 →
          ∃ Q70 : xm_M → Prop, xCv b b k_X6_writeFour m67 [.ref 1, .int (v1 + (nI 22)), .int r68] Q70 ∧
          ∀ m71 : xm_M, Q70 m71 →
          Q (m71.1 1 1) m71))) ∧
        (¬ (((μ.1 1 1) + (nI 27)) + x38) ≤ (nI 6000) →
         Q (-1 : Int32) μ))))))) :
    hd_X8_page_48 b Q  v1 v2 v3 v5 v6 v7 v8 v9 μ := by
  intro hR
  refine xs_iload dX8_page_48 rfl ?_
  refine xs_sipush (nI 255) dX8_page_50 (by decide) ?_
  refine xs_idiv dX8_page_53 (by decide) ?_
  refine xs_iload dX8_page_54 rfl ?_
  refine xs_if_eq 63 dX8_page_56 (by decide) (fun c1 => ?_) (fun c1 => ?_)
  · replace h := h.1 c1
    refine xs_iconst (nI 1) dX8_page_63 (by decide) ?_
    refine xs_iadd dX8_page_64 ?_
    refine xs_nmI (fun x2 e_x2 => ?_)
    replace h := h x2 e_x2
    refine xs_istore [some (.ref 0), some (.int v1), some (.int v2), some (.long v3), none, some (.int v5), some (.int v6), some (.int v7), some (.int v8), some (.int v9), some (.int x2)] dX8_page_65 (by decide) rfl ?_
    refine xs_iload dX8_page_67 rfl ?_
    refine xs_sipush (nI 255) dX8_page_69 (by decide) ?_
    refine xs_icmp_gt 94 dX8_page_72 (by decide) (fun c3 => ?_) (fun c3 => ?_)
    · replace h := h.1 c3
      refine xs_iconst (-1 : Int32) dX8_page_94 (by decide) ?_
      exact xs_ret (some (.int (-1 : Int32))) dX8_page_95 rfl rfl ⟨hR, _, rfl, h⟩
    · replace h := h.2 c3
      refine xs_aload_n dX8_page_75 rfl ?_
      refine xs_getR dX8_page_76 fl_X8_10 rfl sc_0 (rt_0_0 hR) ?_
      refine xs_getI dX8_page_79 fl_X8_71.g rfl sc_1 ?_
      refine xs_bipush (nI 27) dX8_page_82 (by decide) ?_
      refine xs_iadd dX8_page_84 ?_
      refine xs_iload dX8_page_85 rfl ?_
      refine xs_iadd dX8_page_87 ?_
      refine xs_sipush (nI 6000) dX8_page_88 (by decide) ?_
      refine xs_icmp_le 96 dX8_page_91 (by decide) (fun c4 => ?_) (fun c4 => ?_)
      · replace h := h.1 c4
        refine xs_aload_n dX8_page_96 rfl ?_
        refine xs_getR dX8_page_97 fl_X8_10 rfl sc_0 (rt_0_0 hR) ?_
        refine xs_iload_n dX8_page_100 rfl ?_
        refine xs_bipush (nI 27) dX8_page_101 (by decide) ?_
        refine xs_iload dX8_page_103 rfl ?_
        refine xs_iadd dX8_page_105 ?_
        obtain ⟨Q5, hQ5, h⟩ := h
        refine xs_callV (j := k_X6_openGap) (As := [.int v1, .int ((nI 27) + x2)]) (S := []) dX8_page_106 (hQ5 hR) ⟨ml_X8_86, mk_X6_openGap.1, mk_X6_openGap.2.1, mk_X6_openGap.2.2⟩ mv_X6_openGap ⟨Nat.le_of_ble_eq_true rfl, Nat.le_of_ble_eq_true rfl⟩ rfl (Nat.le_of_ble_eq_true rfl) sc_1 rfl ⟨rfl, rfl⟩ (fun rr m6 hq8 => ?_)
        obtain ⟨hR, rfl, hq8⟩ := hq8
        replace h := h m6 hq8
        refine xs_aload_n dX8_page_109 rfl ?_
        refine xs_getR dX8_page_110 fl_X8_10 rfl sc_0 (rt_0_0 hR) ?_
        refine xs_iload_n dX8_page_113 rfl ?_
        refine xs_iload_n dX8_page_114 rfl ?_
        refine xs_lload_n dX8_page_115 rfl ?_
        refine xs_iload dX8_page_116 rfl ?_
        refine xs_iload dX8_page_118 rfl ?_
        obtain ⟨Q9, hQ9, h⟩ := h
        refine xs_callV (j := k_X6_writeHead) (As := [.int v1, .int v2, .long v3, .int v5, .int v6]) (S := []) dX8_page_120 (hQ9 hR) ⟨ml_X8_89, mk_X6_writeHead.1, mk_X6_writeHead.2.1, mk_X6_writeHead.2.2⟩ mv_X6_writeHead ⟨Nat.le_of_ble_eq_true rfl, Nat.le_of_ble_eq_true rfl⟩ rfl (Nat.le_of_ble_eq_true rfl) sc_1 rfl ⟨rfl, rfl⟩ (fun rr m10 hq12 => ?_)
        obtain ⟨hR, rfl, hq12⟩ := hq12
        replace h := h m10 hq12
        refine xs_aload_n dX8_page_123 rfl ?_
        refine xs_getR dX8_page_124 fl_X8_10 rfl sc_0 (rt_0_0 hR) ?_
        refine xs_iload_n dX8_page_127 rfl ?_
        refine xs_iload dX8_page_128 rfl ?_
        refine xs_iload dX8_page_130 rfl ?_
        refine xs_if_eq 141 dX8_page_132 (by decide) (fun c13 => ?_) (fun c13 => ?_)
        · replace h := h.1 c13
          refine xs_iload dX8_page_141 rfl ?_
          obtain ⟨Q14, hQ14, h⟩ := h
          refine xs_callV (j := k_X6_writeLaces) (As := [.int v1, .int x2, .int v9]) (S := []) dX8_page_143 (hQ14 hR) ⟨ml_X8_93, mk_X6_writeLaces.1, mk_X6_writeLaces.2.1, mk_X6_writeLaces.2.2⟩ mv_X6_writeLaces ⟨Nat.le_of_ble_eq_true rfl, Nat.le_of_ble_eq_true rfl⟩ rfl (Nat.le_of_ble_eq_true rfl) sc_1 rfl ⟨rfl, rfl⟩ (fun rr m15 hq17 => ?_)
          obtain ⟨hR, rfl, hq17⟩ := hq17
          replace h := h m15 hq17
          refine xs_aload_n dX8_page_146 rfl ?_
          refine xs_getR dX8_page_147 fl_X8_10 rfl sc_0 (rt_0_0 hR) ?_
          refine xs_iload_n dX8_page_150 rfl ?_
          refine xs_bipush (nI 22) dX8_page_151 (by decide) ?_
          refine xs_iadd dX8_page_153 ?_
          refine xs_aload_n dX8_page_154 rfl ?_
          refine xs_getR dX8_page_155 fl_X8_10 rfl sc_0 (rt_0_0 hR) ?_
          refine xs_iload_n dX8_page_158 rfl ?_
          refine xs_aload_n dX8_page_159 rfl ?_
          refine xs_getR dX8_page_160 fl_X8_10 rfl sc_0 (rt_0_0 hR) ?_
          refine xs_getI dX8_page_163 fl_X8_71.g rfl sc_1 ?_
          obtain ⟨Q18, hQ18, h⟩ := h
          refine xs_callV (j := k_X6_crc) (As := [.int v1, .int (m15.1 1 1)]) (S := [.int (v1 + (nI 22)), .ref 1]) dX8_page_166 (hQ18 hR) ⟨ml_X8_97, mk_X6_crc.1, mk_X6_crc.2.1, mk_X6_crc.2.2⟩ mv_X6_crc ⟨Nat.le_of_ble_eq_true rfl, Nat.le_of_ble_eq_true rfl⟩ rfl (Nat.le_of_ble_eq_true rfl) sc_1 rfl ⟨rfl, rfl⟩ (fun rr m19 hq21 => ?_)
          obtain ⟨hR, r20, rfl, hq21⟩ := hq21
          replace h := h r20 m19 hq21
          obtain ⟨Q22, hQ22, h⟩ := h
          refine xs_callV (j := k_X6_writeFour) (As := [.int (v1 + (nI 22)), .int r20]) (S := []) dX8_page_169 (hQ22 hR) ⟨ml_X8_101, mk_X6_writeFour.1, mk_X6_writeFour.2.1, mk_X6_writeFour.2.2⟩ mv_X6_writeFour ⟨Nat.le_of_ble_eq_true rfl, Nat.le_of_ble_eq_true rfl⟩ rfl (Nat.le_of_ble_eq_true rfl) sc_1 rfl ⟨rfl, rfl⟩ (fun rr m23 hq25 => ?_)
          obtain ⟨hR, rfl, hq25⟩ := hq25
          replace h := h m23 hq25
          refine xs_aload_n dX8_page_172 rfl ?_
          refine xs_getR dX8_page_173 fl_X8_10 rfl sc_0 (rt_0_0 hR) ?_
          refine xs_getI dX8_page_176 fl_X8_71.g rfl sc_1 ?_
          exact xs_ret (some (.int (m23.1 1 1))) dX8_page_179 rfl rfl ⟨hR, _, rfl, h⟩
        · replace h := h.2 c13
          refine xs_sipush (nI 255) dX8_page_135 (by decide) ?_
          refine xs_goto 143 dX8_page_138 (by decide) ?_
          obtain ⟨Q26, hQ26, h⟩ := h
          refine xs_callV (j := k_X6_writeLaces) (As := [.int v1, .int x2, .int (nI 255)]) (S := []) dX8_page_143 (hQ26 hR) ⟨ml_X8_93, mk_X6_writeLaces.1, mk_X6_writeLaces.2.1, mk_X6_writeLaces.2.2⟩ mv_X6_writeLaces ⟨Nat.le_of_ble_eq_true rfl, Nat.le_of_ble_eq_true rfl⟩ rfl (Nat.le_of_ble_eq_true rfl) sc_1 rfl ⟨rfl, rfl⟩ (fun rr m27 hq29 => ?_)
          obtain ⟨hR, rfl, hq29⟩ := hq29
          replace h := h m27 hq29
          refine xs_aload_n dX8_page_146 rfl ?_
          refine xs_getR dX8_page_147 fl_X8_10 rfl sc_0 (rt_0_0 hR) ?_
          refine xs_iload_n dX8_page_150 rfl ?_
          refine xs_bipush (nI 22) dX8_page_151 (by decide) ?_
          refine xs_iadd dX8_page_153 ?_
          refine xs_aload_n dX8_page_154 rfl ?_
          refine xs_getR dX8_page_155 fl_X8_10 rfl sc_0 (rt_0_0 hR) ?_
          refine xs_iload_n dX8_page_158 rfl ?_
          refine xs_aload_n dX8_page_159 rfl ?_
          refine xs_getR dX8_page_160 fl_X8_10 rfl sc_0 (rt_0_0 hR) ?_
          refine xs_getI dX8_page_163 fl_X8_71.g rfl sc_1 ?_
          obtain ⟨Q30, hQ30, h⟩ := h
          refine xs_callV (j := k_X6_crc) (As := [.int v1, .int (m27.1 1 1)]) (S := [.int (v1 + (nI 22)), .ref 1]) dX8_page_166 (hQ30 hR) ⟨ml_X8_97, mk_X6_crc.1, mk_X6_crc.2.1, mk_X6_crc.2.2⟩ mv_X6_crc ⟨Nat.le_of_ble_eq_true rfl, Nat.le_of_ble_eq_true rfl⟩ rfl (Nat.le_of_ble_eq_true rfl) sc_1 rfl ⟨rfl, rfl⟩ (fun rr m31 hq33 => ?_)
          obtain ⟨hR, r32, rfl, hq33⟩ := hq33
          replace h := h r32 m31 hq33
          obtain ⟨Q34, hQ34, h⟩ := h
          refine xs_callV (j := k_X6_writeFour) (As := [.int (v1 + (nI 22)), .int r32]) (S := []) dX8_page_169 (hQ34 hR) ⟨ml_X8_101, mk_X6_writeFour.1, mk_X6_writeFour.2.1, mk_X6_writeFour.2.2⟩ mv_X6_writeFour ⟨Nat.le_of_ble_eq_true rfl, Nat.le_of_ble_eq_true rfl⟩ rfl (Nat.le_of_ble_eq_true rfl) sc_1 rfl ⟨rfl, rfl⟩ (fun rr m35 hq37 => ?_)
          obtain ⟨hR, rfl, hq37⟩ := hq37
          replace h := h m35 hq37
          refine xs_aload_n dX8_page_172 rfl ?_
          refine xs_getR dX8_page_173 fl_X8_10 rfl sc_0 (rt_0_0 hR) ?_
          refine xs_getI dX8_page_176 fl_X8_71.g rfl sc_1 ?_
          exact xs_ret (some (.int (m35.1 1 1))) dX8_page_179 rfl rfl ⟨hR, _, rfl, h⟩
      · replace h := h.2 c4
        refine xs_iconst (-1 : Int32) dX8_page_94 (by decide) ?_
        exact xs_ret (some (.int (-1 : Int32))) dX8_page_95 rfl rfl ⟨hR, _, rfl, h⟩
  · replace h := h.2 c1
    refine xs_iconst (nI 0) dX8_page_59 (by decide) ?_
    refine xs_goto 64 dX8_page_60 (by decide) ?_
    refine xs_iadd dX8_page_64 ?_
    refine xs_nmI (fun x38 e_x38 => ?_)
    replace h := h x38 e_x38
    refine xs_istore [some (.ref 0), some (.int v1), some (.int v2), some (.long v3), none, some (.int v5), some (.int v6), some (.int v7), some (.int v8), some (.int v9), some (.int x38)] dX8_page_65 (by decide) rfl ?_
    refine xs_iload dX8_page_67 rfl ?_
    refine xs_sipush (nI 255) dX8_page_69 (by decide) ?_
    refine xs_icmp_gt 94 dX8_page_72 (by decide) (fun c39 => ?_) (fun c39 => ?_)
    · replace h := h.1 c39
      refine xs_iconst (-1 : Int32) dX8_page_94 (by decide) ?_
      exact xs_ret (some (.int (-1 : Int32))) dX8_page_95 rfl rfl ⟨hR, _, rfl, h⟩
    · replace h := h.2 c39
      refine xs_aload_n dX8_page_75 rfl ?_
      refine xs_getR dX8_page_76 fl_X8_10 rfl sc_0 (rt_0_0 hR) ?_
      refine xs_getI dX8_page_79 fl_X8_71.g rfl sc_1 ?_
      refine xs_bipush (nI 27) dX8_page_82 (by decide) ?_
      refine xs_iadd dX8_page_84 ?_
      refine xs_iload dX8_page_85 rfl ?_
      refine xs_iadd dX8_page_87 ?_
      refine xs_sipush (nI 6000) dX8_page_88 (by decide) ?_
      refine xs_icmp_le 96 dX8_page_91 (by decide) (fun c40 => ?_) (fun c40 => ?_)
      · replace h := h.1 c40
        refine xs_aload_n dX8_page_96 rfl ?_
        refine xs_getR dX8_page_97 fl_X8_10 rfl sc_0 (rt_0_0 hR) ?_
        refine xs_iload_n dX8_page_100 rfl ?_
        refine xs_bipush (nI 27) dX8_page_101 (by decide) ?_
        refine xs_iload dX8_page_103 rfl ?_
        refine xs_iadd dX8_page_105 ?_
        obtain ⟨Q41, hQ41, h⟩ := h
        refine xs_callV (j := k_X6_openGap) (As := [.int v1, .int ((nI 27) + x38)]) (S := []) dX8_page_106 (hQ41 hR) ⟨ml_X8_86, mk_X6_openGap.1, mk_X6_openGap.2.1, mk_X6_openGap.2.2⟩ mv_X6_openGap ⟨Nat.le_of_ble_eq_true rfl, Nat.le_of_ble_eq_true rfl⟩ rfl (Nat.le_of_ble_eq_true rfl) sc_1 rfl ⟨rfl, rfl⟩ (fun rr m42 hq44 => ?_)
        obtain ⟨hR, rfl, hq44⟩ := hq44
        replace h := h m42 hq44
        refine xs_aload_n dX8_page_109 rfl ?_
        refine xs_getR dX8_page_110 fl_X8_10 rfl sc_0 (rt_0_0 hR) ?_
        refine xs_iload_n dX8_page_113 rfl ?_
        refine xs_iload_n dX8_page_114 rfl ?_
        refine xs_lload_n dX8_page_115 rfl ?_
        refine xs_iload dX8_page_116 rfl ?_
        refine xs_iload dX8_page_118 rfl ?_
        obtain ⟨Q45, hQ45, h⟩ := h
        refine xs_callV (j := k_X6_writeHead) (As := [.int v1, .int v2, .long v3, .int v5, .int v6]) (S := []) dX8_page_120 (hQ45 hR) ⟨ml_X8_89, mk_X6_writeHead.1, mk_X6_writeHead.2.1, mk_X6_writeHead.2.2⟩ mv_X6_writeHead ⟨Nat.le_of_ble_eq_true rfl, Nat.le_of_ble_eq_true rfl⟩ rfl (Nat.le_of_ble_eq_true rfl) sc_1 rfl ⟨rfl, rfl⟩ (fun rr m46 hq48 => ?_)
        obtain ⟨hR, rfl, hq48⟩ := hq48
        replace h := h m46 hq48
        refine xs_aload_n dX8_page_123 rfl ?_
        refine xs_getR dX8_page_124 fl_X8_10 rfl sc_0 (rt_0_0 hR) ?_
        refine xs_iload_n dX8_page_127 rfl ?_
        refine xs_iload dX8_page_128 rfl ?_
        refine xs_iload dX8_page_130 rfl ?_
        refine xs_if_eq 141 dX8_page_132 (by decide) (fun c49 => ?_) (fun c49 => ?_)
        · replace h := h.1 c49
          refine xs_iload dX8_page_141 rfl ?_
          obtain ⟨Q50, hQ50, h⟩ := h
          refine xs_callV (j := k_X6_writeLaces) (As := [.int v1, .int x38, .int v9]) (S := []) dX8_page_143 (hQ50 hR) ⟨ml_X8_93, mk_X6_writeLaces.1, mk_X6_writeLaces.2.1, mk_X6_writeLaces.2.2⟩ mv_X6_writeLaces ⟨Nat.le_of_ble_eq_true rfl, Nat.le_of_ble_eq_true rfl⟩ rfl (Nat.le_of_ble_eq_true rfl) sc_1 rfl ⟨rfl, rfl⟩ (fun rr m51 hq53 => ?_)
          obtain ⟨hR, rfl, hq53⟩ := hq53
          replace h := h m51 hq53
          refine xs_aload_n dX8_page_146 rfl ?_
          refine xs_getR dX8_page_147 fl_X8_10 rfl sc_0 (rt_0_0 hR) ?_
          refine xs_iload_n dX8_page_150 rfl ?_
          refine xs_bipush (nI 22) dX8_page_151 (by decide) ?_
          refine xs_iadd dX8_page_153 ?_
          refine xs_aload_n dX8_page_154 rfl ?_
          refine xs_getR dX8_page_155 fl_X8_10 rfl sc_0 (rt_0_0 hR) ?_
          refine xs_iload_n dX8_page_158 rfl ?_
          refine xs_aload_n dX8_page_159 rfl ?_
          refine xs_getR dX8_page_160 fl_X8_10 rfl sc_0 (rt_0_0 hR) ?_
          refine xs_getI dX8_page_163 fl_X8_71.g rfl sc_1 ?_
          obtain ⟨Q54, hQ54, h⟩ := h
          refine xs_callV (j := k_X6_crc) (As := [.int v1, .int (m51.1 1 1)]) (S := [.int (v1 + (nI 22)), .ref 1]) dX8_page_166 (hQ54 hR) ⟨ml_X8_97, mk_X6_crc.1, mk_X6_crc.2.1, mk_X6_crc.2.2⟩ mv_X6_crc ⟨Nat.le_of_ble_eq_true rfl, Nat.le_of_ble_eq_true rfl⟩ rfl (Nat.le_of_ble_eq_true rfl) sc_1 rfl ⟨rfl, rfl⟩ (fun rr m55 hq57 => ?_)
          obtain ⟨hR, r56, rfl, hq57⟩ := hq57
          replace h := h r56 m55 hq57
          obtain ⟨Q58, hQ58, h⟩ := h
          refine xs_callV (j := k_X6_writeFour) (As := [.int (v1 + (nI 22)), .int r56]) (S := []) dX8_page_169 (hQ58 hR) ⟨ml_X8_101, mk_X6_writeFour.1, mk_X6_writeFour.2.1, mk_X6_writeFour.2.2⟩ mv_X6_writeFour ⟨Nat.le_of_ble_eq_true rfl, Nat.le_of_ble_eq_true rfl⟩ rfl (Nat.le_of_ble_eq_true rfl) sc_1 rfl ⟨rfl, rfl⟩ (fun rr m59 hq61 => ?_)
          obtain ⟨hR, rfl, hq61⟩ := hq61
          replace h := h m59 hq61
          refine xs_aload_n dX8_page_172 rfl ?_
          refine xs_getR dX8_page_173 fl_X8_10 rfl sc_0 (rt_0_0 hR) ?_
          refine xs_getI dX8_page_176 fl_X8_71.g rfl sc_1 ?_
          exact xs_ret (some (.int (m59.1 1 1))) dX8_page_179 rfl rfl ⟨hR, _, rfl, h⟩
        · replace h := h.2 c49
          refine xs_sipush (nI 255) dX8_page_135 (by decide) ?_
          refine xs_goto 143 dX8_page_138 (by decide) ?_
          obtain ⟨Q62, hQ62, h⟩ := h
          refine xs_callV (j := k_X6_writeLaces) (As := [.int v1, .int x38, .int (nI 255)]) (S := []) dX8_page_143 (hQ62 hR) ⟨ml_X8_93, mk_X6_writeLaces.1, mk_X6_writeLaces.2.1, mk_X6_writeLaces.2.2⟩ mv_X6_writeLaces ⟨Nat.le_of_ble_eq_true rfl, Nat.le_of_ble_eq_true rfl⟩ rfl (Nat.le_of_ble_eq_true rfl) sc_1 rfl ⟨rfl, rfl⟩ (fun rr m63 hq65 => ?_)
          obtain ⟨hR, rfl, hq65⟩ := hq65
          replace h := h m63 hq65
          refine xs_aload_n dX8_page_146 rfl ?_
          refine xs_getR dX8_page_147 fl_X8_10 rfl sc_0 (rt_0_0 hR) ?_
          refine xs_iload_n dX8_page_150 rfl ?_
          refine xs_bipush (nI 22) dX8_page_151 (by decide) ?_
          refine xs_iadd dX8_page_153 ?_
          refine xs_aload_n dX8_page_154 rfl ?_
          refine xs_getR dX8_page_155 fl_X8_10 rfl sc_0 (rt_0_0 hR) ?_
          refine xs_iload_n dX8_page_158 rfl ?_
          refine xs_aload_n dX8_page_159 rfl ?_
          refine xs_getR dX8_page_160 fl_X8_10 rfl sc_0 (rt_0_0 hR) ?_
          refine xs_getI dX8_page_163 fl_X8_71.g rfl sc_1 ?_
          obtain ⟨Q66, hQ66, h⟩ := h
          refine xs_callV (j := k_X6_crc) (As := [.int v1, .int (m63.1 1 1)]) (S := [.int (v1 + (nI 22)), .ref 1]) dX8_page_166 (hQ66 hR) ⟨ml_X8_97, mk_X6_crc.1, mk_X6_crc.2.1, mk_X6_crc.2.2⟩ mv_X6_crc ⟨Nat.le_of_ble_eq_true rfl, Nat.le_of_ble_eq_true rfl⟩ rfl (Nat.le_of_ble_eq_true rfl) sc_1 rfl ⟨rfl, rfl⟩ (fun rr m67 hq69 => ?_)
          obtain ⟨hR, r68, rfl, hq69⟩ := hq69
          replace h := h r68 m67 hq69
          obtain ⟨Q70, hQ70, h⟩ := h
          refine xs_callV (j := k_X6_writeFour) (As := [.int (v1 + (nI 22)), .int r68]) (S := []) dX8_page_169 (hQ70 hR) ⟨ml_X8_101, mk_X6_writeFour.1, mk_X6_writeFour.2.1, mk_X6_writeFour.2.2⟩ mv_X6_writeFour ⟨Nat.le_of_ble_eq_true rfl, Nat.le_of_ble_eq_true rfl⟩ rfl (Nat.le_of_ble_eq_true rfl) sc_1 rfl ⟨rfl, rfl⟩ (fun rr m71 hq73 => ?_)
          obtain ⟨hR, rfl, hq73⟩ := hq73
          replace h := h m71 hq73
          refine xs_aload_n dX8_page_172 rfl ?_
          refine xs_getR dX8_page_173 fl_X8_10 rfl sc_0 (rt_0_0 hR) ?_
          refine xs_getI dX8_page_176 fl_X8_71.g rfl sc_1 ?_
          exact xs_ret (some (.int (m71.1 1 1))) dX8_page_179 rfl rfl ⟨hR, _, rfl, h⟩
      · replace h := h.2 c40
        refine xs_iconst (-1 : Int32) dX8_page_94 (by decide) ?_
        exact xs_ret (some (.int (-1 : Int32))) dX8_page_95 rfl rfl ⟨hR, _, rfl, h⟩
set_option maxHeartbeats 4000000 in
set_option maxRecDepth 100000 in
theorem g_X8_page {b : Bool} {Q : Int32 → xm_M → Prop} {μ : xm_M} (v1 : Int32) (v2 : Int32) (v3 : Int64) (v5 : Int32) (v6 : Int32) (v7 : Int32) 
    (h : ((v1 < 0 →
       Q (-1 : Int32) μ) ∧
      (¬ v1 < 0 →
       ((v1 ≤ (μ.1 1 1) →
        ∀ x3 : Int32, x3 = ((μ.1 1 1) - v1) →
        ∀ x4 : Int32, x4 = (x3 - x3 / (nI 255) * (nI 255)) →
        ((v7 = 0 →
         hd_X8_page_48 b Q  v1 v2 v3 v5 v6 v7 x3 x4 μ) ∧
        (¬ v7 = 0 →
         ((x4 = 0 →
          hd_X8_page_48 b Q  v1 v2 v3 v5 v6 v7 x3 x4 μ) ∧
         (¬ x4 = 0 →
          Q (-1 : Int32) μ))))) ∧
       (¬ v1 ≤ (μ.1 1 1) →
        Q (-1 : Int32) μ))))) :
    xCi b b k_X8_page μ [.ref 0, .int v1, .int v2, .long v3, .int v5, .int v6, .int v7] Q := by
  intro hR
  refine xm_met [some (.ref 0), some (.int v1), some (.int v2), some (.long v3), none, some (.int v5), some (.int v6), some (.int v7), none, none, none] 3 (by decide) (by simp [lg_sl, Value.category]) rfl ?_
  refine xs_iload_n dX8_page_0 rfl ?_
  refine xs_if_lt 15 dX8_page_1 (by decide) (fun c1 => ?_) (fun c1 => ?_)
  · replace h := h.1 c1
    refine xs_iconst (-1 : Int32) dX8_page_15 (by decide) ?_
    exact xs_ret (some (.int (-1 : Int32))) dX8_page_16 rfl rfl ⟨hR, _, rfl, h⟩
  · replace h := h.2 c1
    refine xs_iload_n dX8_page_4 rfl ?_
    refine xs_aload_n dX8_page_5 rfl ?_
    refine xs_getR dX8_page_6 fl_X8_10 rfl sc_0 (rt_0_0 hR) ?_
    refine xs_getI dX8_page_9 fl_X8_71.g rfl sc_1 ?_
    refine xs_icmp_le 17 dX8_page_12 (by decide) (fun c2 => ?_) (fun c2 => ?_)
    · replace h := h.1 c2
      refine xs_aload_n dX8_page_17 rfl ?_
      refine xs_getR dX8_page_18 fl_X8_10 rfl sc_0 (rt_0_0 hR) ?_
      refine xs_getI dX8_page_21 fl_X8_71.g rfl sc_1 ?_
      refine xs_iload_n dX8_page_24 rfl ?_
      refine xs_isub dX8_page_25 ?_
      refine xs_nmI (fun x3 e_x3 => ?_)
      replace h := h x3 e_x3
      refine xs_istore [some (.ref 0), some (.int v1), some (.int v2), some (.long v3), none, some (.int v5), some (.int v6), some (.int v7), some (.int x3), none, none] dX8_page_26 (by decide) rfl ?_
      refine xs_iload dX8_page_28 rfl ?_
      refine xs_sipush (nI 255) dX8_page_30 (by decide) ?_
      refine xs_irem dX8_page_33 (by decide) ?_
      refine xs_nmI (fun x4 e_x4 => ?_)
      replace h := h x4 e_x4
      refine xs_istore [some (.ref 0), some (.int v1), some (.int v2), some (.long v3), none, some (.int v5), some (.int v6), some (.int v7), some (.int x3), some (.int x4), none] dX8_page_34 (by decide) rfl ?_
      refine xs_iload dX8_page_36 rfl ?_
      refine xs_if_eq 48 dX8_page_38 (by decide) (fun c5 => ?_) (fun c5 => ?_)
      · replace h := h.1 c5
        exact xs_loc [some (.ref 0), some (.int v1), some (.int v2), some (.long v3), none, some (.int v5), some (.int v6), some (.int v7), some (.int x3), some (.int x4), none] ⟨rfl, ⟨rfl, ⟨rfl, ⟨rfl, ⟨rfl, ⟨rfl, ⟨rfl, ⟨rfl, ⟨rfl, trivial⟩⟩⟩⟩⟩⟩⟩⟩⟩ (h hR)
      · replace h := h.2 c5
        refine xs_iload dX8_page_41 rfl ?_
        refine xs_if_eq 48 dX8_page_43 (by decide) (fun c6 => ?_) (fun c6 => ?_)
        · replace h := h.1 c6
          exact xs_loc [some (.ref 0), some (.int v1), some (.int v2), some (.long v3), none, some (.int v5), some (.int v6), some (.int v7), some (.int x3), some (.int x4), none] ⟨rfl, ⟨rfl, ⟨rfl, ⟨rfl, ⟨rfl, ⟨rfl, ⟨rfl, ⟨rfl, ⟨rfl, trivial⟩⟩⟩⟩⟩⟩⟩⟩⟩ (h hR)
        · replace h := h.2 c6
          refine xs_iconst (-1 : Int32) dX8_page_46 (by decide) ?_
          exact xs_ret (some (.int (-1 : Int32))) dX8_page_47 rfl rfl ⟨hR, _, rfl, h⟩
    · replace h := h.2 c2
      refine xs_iconst (-1 : Int32) dX8_page_15 (by decide) ?_
      exact xs_ret (some (.int (-1 : Int32))) dX8_page_16 rfl rfl ⟨hR, _, rfl, h⟩
set_option maxHeartbeats 4000000 in
set_option maxRecDepth 100000 in
theorem g_X8_read {Q : Int32 → xm_M → Prop} {μ : xm_M}  
    (h : ∀ m1 : xm_M, m1 = xu_I μ 0 (upd (μ.1 0) 7 (nI 0)) →
      ∀ m2 : xm_M, m2 = xu_I m1 0 (upd (m1.1 0) 8 (nI 0)) →
      ∀ m3 : xm_M, m3 = xu_I m2 0 (upd (m2.1 0) 9 (nI 0)) →
      ∀ m4 : xm_M, m4 = xu_I m3 0 (upd (m3.1 0) 10 (nI 0)) →
      ∃ Q5 : xm_M → Prop, xCv false false k_X3_gather m4 [.ref 3, .ref 1] Q5 ∧
      ∀ m6 : xm_M, Q5 m6 →
      ∀ m9 : xm_M, m9 = xu_I m6 1 (upd (m6.1 1) 1 (nI 0)) →
      ∃ Q10 : Int32 → xm_M → Prop, xCi false false k_X8_learnSetup m9 [.ref 0] Q10 ∧
      ∀ (r12 : Int32) (m11 : xm_M), Q10 r12 m11 →
      ((r12 = 0 →
       ∀ m15 : xm_M, m15 = xu_I m11 0 (upd (m11.1 0) 7 (m11.1 9 0)) →
       ∃ Q16 : xm_M → Prop, xCv false false k_X8_playSounds m15 [.ref 0] Q16 ∧
       ∀ m17 : xm_M, Q16 m17 →
       ∃ Q20 : Int32 → xm_M → Prop, xCi false false k_X8_cutWhereTold m17 [.ref 0, .int ((if (nI 0) < ((m17.1 0 9) - (nI 1)) then ((m17.1 0 9) - (nI 1)) else (nI 0)) * (nI 16))] Q20 ∧
       ∀ (r22 : Int32) (m21 : xm_M), Q20 r22 m21 →
       ∀ m24 : xm_M, m24 = xu_I m21 0 (upd (m21.1 0) 8 r22) →
       Q (m24.1 0 8) m24) ∧
      (¬ r12 = 0 →
       Q (-r12) m11))) :
    xCi false false k_X8_read μ [.ref 0] Q := by
  intro hR
  refine xm_met [some (.ref 0), none] 1 (by decide) (by simp [lg_sl, Value.category]) rfl ?_
  refine xs_aload_n dX8_read_0 rfl ?_
  refine xs_iconst (nI 0) dX8_read_1 (by decide) ?_
  refine xs_putI dX8_read_2 fl_X8_58 rfl rfl rfl sc_0 ?_
  refine xs_nmM (fun m1 e_m1 => ?_)
  replace h := h m1 e_m1
  have hR : xs_RT false m1 := by rw [e_m1]; exact hR
  refine xs_aload_n dX8_read_5 rfl ?_
  refine xs_iconst (nI 0) dX8_read_6 (by decide) ?_
  refine xs_putI dX8_read_7 fl_X8_62 rfl rfl rfl sc_0 ?_
  refine xs_nmM (fun m2 e_m2 => ?_)
  replace h := h m2 e_m2
  have hR : xs_RT false m2 := by rw [e_m2]; exact hR
  refine xs_aload_n dX8_read_10 rfl ?_
  refine xs_iconst (nI 0) dX8_read_11 (by decide) ?_
  refine xs_putI dX8_read_12 fl_X8_65 rfl rfl rfl sc_0 ?_
  refine xs_nmM (fun m3 e_m3 => ?_)
  replace h := h m3 e_m3
  have hR : xs_RT false m3 := by rw [e_m3]; exact hR
  refine xs_aload_n dX8_read_15 rfl ?_
  refine xs_iconst (nI 0) dX8_read_16 (by decide) ?_
  refine xs_putI dX8_read_17 fl_X8_68 rfl rfl rfl sc_0 ?_
  refine xs_nmM (fun m4 e_m4 => ?_)
  replace h := h m4 e_m4
  have hR : xs_RT false m4 := by rw [e_m4]; exact hR
  refine xs_aload_n dX8_read_20 rfl ?_
  refine xs_getR dX8_read_21 fl_X8_19 rfl sc_0 (rt_0_1 hR) ?_
  refine xs_aload_n dX8_read_24 rfl ?_
  refine xs_getR dX8_read_25 fl_X8_10 rfl sc_0 (rt_0_0 hR) ?_
  obtain ⟨Q5, hQ5, h⟩ := h
  refine xs_callV (j := k_X3_gather) (As := [.ref 1]) (S := []) dX8_read_28 (hQ5 hR) ⟨ml_X8_104, mk_X3_gather.1, mk_X3_gather.2.1, mk_X3_gather.2.2⟩ mv_X3_gather ⟨Nat.le_of_ble_eq_true rfl, Nat.le_of_ble_eq_true rfl⟩ rfl (Nat.le_of_ble_eq_true rfl) sc_3 rfl ⟨rfl, rfl⟩ (fun rr m6 hq8 => ?_)
  obtain ⟨hR, rfl, hq8⟩ := hq8
  replace h := h m6 hq8
  refine xs_aload_n dX8_read_31 rfl ?_
  refine xs_getR dX8_read_32 fl_X8_10 rfl sc_0 (rt_0_0 hR) ?_
  refine xs_iconst (nI 0) dX8_read_35 (by decide) ?_
  refine xs_putI dX8_read_36 fl_X8_71 rfl rfl rfl sc_1 ?_
  refine xs_nmM (fun m9 e_m9 => ?_)
  replace h := h m9 e_m9
  have hR : xs_RT false m9 := by rw [e_m9]; exact hR
  refine xs_aload_n dX8_read_39 rfl ?_
  obtain ⟨Q10, hQ10, h⟩ := h
  refine xs_callV (j := k_X8_learnSetup) (As := []) (S := []) dX8_read_40 (hQ10 hR) ⟨ml_X8_108, mk_X8_learnSetup.1, mk_X8_learnSetup.2.1, mk_X8_learnSetup.2.2⟩ mv_X8_learnSetup ⟨Nat.le_of_ble_eq_true rfl, Nat.le_of_ble_eq_true rfl⟩ rfl (Nat.le_of_ble_eq_true rfl) sc_0 rfl ⟨rfl, rfl⟩ (fun rr m11 hq13 => ?_)
  obtain ⟨hR, r12, rfl, hq13⟩ := hq13
  replace h := h r12 m11 hq13
  refine xs_istore_n [some (.ref 0), some (.int r12)] dX8_read_43 (by decide) rfl ?_
  refine xs_iload_n dX8_read_44 rfl ?_
  refine xs_if_eq 51 dX8_read_45 (by decide) (fun c14 => ?_) (fun c14 => ?_)
  · replace h := h.1 c14
    refine xs_aload_n dX8_read_51 rfl ?_
    refine xs_aload_n dX8_read_52 rfl ?_
    refine xs_getR dX8_read_53 fl_X8_33 rfl sc_0 (rt_0_3 hR) ?_
    refine xs_getI dX8_read_56 fl_X8_112.g rfl sc_9 ?_
    refine xs_putI dX8_read_59 fl_X8_58 rfl rfl rfl sc_0 ?_
    refine xs_nmM (fun m15 e_m15 => ?_)
    replace h := h m15 e_m15
    have hR : xs_RT false m15 := by rw [e_m15]; exact hR
    refine xs_aload_n dX8_read_62 rfl ?_
    obtain ⟨Q16, hQ16, h⟩ := h
    refine xs_callV (j := k_X8_playSounds) (As := []) (S := []) dX8_read_63 (hQ16 hR) ⟨ml_X8_113, mk_X8_playSounds.1, mk_X8_playSounds.2.1, mk_X8_playSounds.2.2⟩ mv_X8_playSounds ⟨Nat.le_of_ble_eq_true rfl, Nat.le_of_ble_eq_true rfl⟩ rfl (Nat.le_of_ble_eq_true rfl) sc_0 rfl ⟨rfl, rfl⟩ (fun rr m17 hq19 => ?_)
    obtain ⟨hR, rfl, hq19⟩ := hq19
    replace h := h m17 hq19
    refine xs_aload_n dX8_read_66 rfl ?_
    refine xs_aload_n dX8_read_67 rfl ?_
    refine xs_iconst (nI 0) dX8_read_68 (by decide) ?_
    refine xs_aload_n dX8_read_69 rfl ?_
    refine xs_getI dX8_read_70 fl_X8_65.g rfl sc_0 ?_
    refine xs_iconst (nI 1) dX8_read_73 (by decide) ?_
    refine xs_isub dX8_read_74 ?_
    refine xs_mmax dX8_read_75 ml_X8_116 (Nat.le_of_ble_eq_true rfl) (Nat.le_of_ble_eq_true rfl) ?_
    refine xs_bipush (nI 16) dX8_read_78 (by decide) ?_
    refine xs_imul dX8_read_80 ?_
    obtain ⟨Q20, hQ20, h⟩ := h
    refine xs_callV (j := k_X8_cutWhereTold) (As := [.int ((if (nI 0) < ((m17.1 0 9) - (nI 1)) then ((m17.1 0 9) - (nI 1)) else (nI 0)) * (nI 16))]) (S := [.ref 0]) dX8_read_81 (hQ20 hR) ⟨ml_X8_121, mk_X8_cutWhereTold.1, mk_X8_cutWhereTold.2.1, mk_X8_cutWhereTold.2.2⟩ mv_X8_cutWhereTold ⟨Nat.le_of_ble_eq_true rfl, Nat.le_of_ble_eq_true rfl⟩ rfl (Nat.le_of_ble_eq_true rfl) sc_0 rfl ⟨rfl, rfl⟩ (fun rr m21 hq23 => ?_)
    obtain ⟨hR, r22, rfl, hq23⟩ := hq23
    replace h := h r22 m21 hq23
    refine xs_putI dX8_read_84 fl_X8_62 rfl rfl rfl sc_0 ?_
    refine xs_nmM (fun m24 e_m24 => ?_)
    replace h := h m24 e_m24
    have hR : xs_RT false m24 := by rw [e_m24]; exact hR
    refine xs_aload_n dX8_read_87 rfl ?_
    refine xs_getI dX8_read_88 fl_X8_62.g rfl sc_0 ?_
    exact xs_ret (some (.int (m24.1 0 8))) dX8_read_91 rfl rfl ⟨hR, _, rfl, h⟩
  · replace h := h.2 c14
    refine xs_iload_n dX8_read_48 rfl ?_
    refine xs_ineg dX8_read_49 ?_
    exact xs_ret (some (.int (-r12))) dX8_read_50 rfl rfl ⟨hR, _, rfl, h⟩
set_option maxHeartbeats 4000000 in
set_option maxRecDepth 100000 in
theorem g_X8_sample {b : Bool} {Q : Int32 → xm_M → Prop} {μ : xm_M} (v1 : Int32) (v2 : Int32) 
    (h : ∃ Q1 : Int32 → xm_M → Prop, xCi b b k_X8_hasVoice μ [.ref 0, .int v1] Q1 ∧
      ∀ (r3 : Int32) (m2 : xm_M), Q1 r3 m2 →
      ((r3 = 0 →
       Q (nI 0) m2) ∧
      (¬ r3 = 0 →
       ((v2 < 0 →
        Q (nI 0) m2) ∧
       (¬ v2 < 0 →
        ((v2 < (m2.1 0 8) →
         vp_in v1 2 ∧
         ∀ V9 : Nat, xs_vo V9 → V9 = 65 + 5 * (v1).toNatClampNeg →
         ∃ Q10 : Int32 → xm_M → Prop, xCi b b k_X7_sampleAt m2 [.ref V9, .int v2] Q10 ∧
         ∀ (r12 : Int32) (m11 : xm_M), Q10 r12 m11 →
         Q r12 m11) ∧
        (¬ v2 < (m2.1 0 8) →
         Q (nI 0) m2))))))) :
    xCi b b k_X8_sample μ [.ref 0, .int v1, .int v2] Q := by
  intro hR
  refine xm_met [some (.ref 0), some (.int v1), some (.int v2)] 0 (by decide) (by simp [lg_sl, Value.category]) rfl ?_
  refine xs_aload_n dX8_sample_0 rfl ?_
  refine xs_iload_n dX8_sample_1 rfl ?_
  obtain ⟨Q1, hQ1, h⟩ := h
  refine xs_callV (j := k_X8_hasVoice) (As := [.int v1]) (S := []) dX8_sample_2 (hQ1 hR) ⟨ml_X8_124, mk_X8_hasVoice.1, mk_X8_hasVoice.2.1, mk_X8_hasVoice.2.2⟩ mv_X8_hasVoice ⟨Nat.le_of_ble_eq_true rfl, Nat.le_of_ble_eq_true rfl⟩ rfl (Nat.le_of_ble_eq_true rfl) sc_0 rfl ⟨rfl, rfl⟩ (fun rr m2 hq4 => ?_)
  obtain ⟨hR, r3, rfl, hq4⟩ := hq4
  replace h := h r3 m2 hq4
  refine xs_if_eq 20 dX8_sample_5 (by decide) (fun c5 => ?_) (fun c5 => ?_)
  · replace h := h.1 c5
    refine xs_iconst (nI 0) dX8_sample_20 (by decide) ?_
    exact xs_ret (some (.int (nI 0))) dX8_sample_21 rfl rfl ⟨hR, _, rfl, h⟩
  · replace h := h.2 c5
    refine xs_iload_n dX8_sample_8 rfl ?_
    refine xs_if_lt 20 dX8_sample_9 (by decide) (fun c6 => ?_) (fun c6 => ?_)
    · replace h := h.1 c6
      refine xs_iconst (nI 0) dX8_sample_20 (by decide) ?_
      exact xs_ret (some (.int (nI 0))) dX8_sample_21 rfl rfl ⟨hR, _, rfl, h⟩
    · replace h := h.2 c6
      refine xs_iload_n dX8_sample_12 rfl ?_
      refine xs_aload_n dX8_sample_13 rfl ?_
      refine xs_getI dX8_sample_14 fl_X8_62.g rfl sc_0 ?_
      refine xs_icmp_lt 22 dX8_sample_17 (by decide) (fun c7 => ?_) (fun c7 => ?_)
      · replace h := h.1 c7
        refine xs_aload_n dX8_sample_22 rfl ?_
        refine xs_getR dX8_sample_23 fl_X8_53 rfl sc_0 (rt_0_6 hR) ?_
        refine xs_iload_n dX8_sample_26 rfl ?_
        obtain ⟨s8, h⟩ := h
        obtain ⟨V9, hV9, eV9, rV9⟩ := xs_pickvo hR s8
        replace h := h V9 hV9 eV9
        refine xs_aldV dX8_sample_27 sc_64 s8 rV9 ?_
        refine xs_iload_n dX8_sample_28 rfl ?_
        obtain ⟨Q10, hQ10, h⟩ := h
        refine xs_callV (j := k_X7_sampleAt) (As := [.int v2]) (S := []) dX8_sample_29 (hQ10 hR) ⟨ml_X8_128, mk_X7_sampleAt.1, mk_X7_sampleAt.2.1, mk_X7_sampleAt.2.2⟩ mv_X7_sampleAt ⟨Nat.le_of_ble_eq_true rfl, Nat.le_of_ble_eq_true rfl⟩ rfl (Nat.le_of_ble_eq_true rfl) (sv_0 hV9) rfl ⟨rfl, rfl⟩ (fun rr m11 hq13 => ?_)
        obtain ⟨hR, r12, rfl, hq13⟩ := hq13
        replace h := h r12 m11 hq13
        exact xs_ret (some (.int r12)) dX8_sample_32 rfl rfl ⟨hR, _, rfl, h⟩
      · replace h := h.2 c7
        refine xs_iconst (nI 0) dX8_sample_20 (by decide) ?_
        exact xs_ret (some (.int (nI 0))) dX8_sample_21 rfl rfl ⟨hR, _, rfl, h⟩
set_option maxHeartbeats 4000000 in
set_option maxRecDepth 100000 in
theorem g_X8_look {b : Bool} {Q : Int32 → xm_M → Prop} {μ : xm_M} (v1 : Int32) 
    (h : ((v1 = 0 →
       Q (μ.1 3 1) μ) ∧
      (v1 = 1 →
       Q (μ.1 3 2) μ) ∧
      (v1 = 2 →
       Q (μ.1 3 0) μ) ∧
      (v1 = 3 →
       Q (μ.1 0 9) μ) ∧
      (v1 = 4 →
       Q (μ.1 0 10) μ) ∧
      (v1 = 5 →
       Q (μ.1 0 7) μ) ∧
      (v1 = 6 →
       Q (μ.1 3 3) μ) ∧
      (v1 = 7 →
       Q (μ.1 3 4) μ) ∧
      (((v1).toInt < 0 ∨ 7 < (v1).toInt) →
       Q (-1 : Int32) μ))) :
    xCi b b k_X8_look μ [.ref 0, .int v1] Q := by
  intro hR
  refine xm_met [some (.ref 0), some (.int v1)] 0 (by decide) (by simp [lg_sl, Value.category]) rfl ?_
  refine xs_iload_n dX8_look_0 rfl ?_
  refine xs_sw7 (x := v1) ?_ ?_ ?_ ?_ ?_ ?_ ?_ ?_ ?_
  · intro c1
    replace h := h.1 c1
    refine xs_tabIn 48 dX8_look_1 (by rw [c1]; decide) (by rw [c1]; decide) (by rw [c1]; rfl) (by decide) ?_
    refine xs_aload_n dX8_look_48 rfl ?_
    refine xs_getR dX8_look_49 fl_X8_19 rfl sc_0 (rt_0_1 hR) ?_
    refine xs_getI dX8_look_52 fl_X8_131.g rfl sc_3 ?_
    exact xs_ret (some (.int (μ.1 3 1))) dX8_look_55 rfl rfl ⟨hR, _, rfl, h⟩
  · intro c2
    replace h := h.2.1 c2
    refine xs_tabIn 56 dX8_look_1 (by rw [c2]; decide) (by rw [c2]; decide) (by rw [c2]; rfl) (by decide) ?_
    refine xs_aload_n dX8_look_56 rfl ?_
    refine xs_getR dX8_look_57 fl_X8_19 rfl sc_0 (rt_0_1 hR) ?_
    refine xs_getI dX8_look_60 fl_X8_134.g rfl sc_3 ?_
    exact xs_ret (some (.int (μ.1 3 2))) dX8_look_63 rfl rfl ⟨hR, _, rfl, h⟩
  · intro c3
    replace h := h.2.2.1 c3
    refine xs_tabIn 64 dX8_look_1 (by rw [c3]; decide) (by rw [c3]; decide) (by rw [c3]; rfl) (by decide) ?_
    refine xs_aload_n dX8_look_64 rfl ?_
    refine xs_getR dX8_look_65 fl_X8_19 rfl sc_0 (rt_0_1 hR) ?_
    refine xs_getI dX8_look_68 fl_X8_137.g rfl sc_3 ?_
    exact xs_ret (some (.int (μ.1 3 0))) dX8_look_71 rfl rfl ⟨hR, _, rfl, h⟩
  · intro c4
    replace h := h.2.2.2.1 c4
    refine xs_tabIn 72 dX8_look_1 (by rw [c4]; decide) (by rw [c4]; decide) (by rw [c4]; rfl) (by decide) ?_
    refine xs_aload_n dX8_look_72 rfl ?_
    refine xs_getI dX8_look_73 fl_X8_65.g rfl sc_0 ?_
    exact xs_ret (some (.int (μ.1 0 9))) dX8_look_76 rfl rfl ⟨hR, _, rfl, h⟩
  · intro c5
    replace h := h.2.2.2.2.1 c5
    refine xs_tabIn 77 dX8_look_1 (by rw [c5]; decide) (by rw [c5]; decide) (by rw [c5]; rfl) (by decide) ?_
    refine xs_aload_n dX8_look_77 rfl ?_
    refine xs_getI dX8_look_78 fl_X8_68.g rfl sc_0 ?_
    exact xs_ret (some (.int (μ.1 0 10))) dX8_look_81 rfl rfl ⟨hR, _, rfl, h⟩
  · intro c6
    replace h := h.2.2.2.2.2.1 c6
    refine xs_tabIn 82 dX8_look_1 (by rw [c6]; decide) (by rw [c6]; decide) (by rw [c6]; rfl) (by decide) ?_
    refine xs_aload_n dX8_look_82 rfl ?_
    refine xs_getI dX8_look_83 fl_X8_58.g rfl sc_0 ?_
    exact xs_ret (some (.int (μ.1 0 7))) dX8_look_86 rfl rfl ⟨hR, _, rfl, h⟩
  · intro c7
    replace h := h.2.2.2.2.2.2.1 c7
    refine xs_tabIn 87 dX8_look_1 (by rw [c7]; decide) (by rw [c7]; decide) (by rw [c7]; rfl) (by decide) ?_
    refine xs_aload_n dX8_look_87 rfl ?_
    refine xs_getR dX8_look_88 fl_X8_19 rfl sc_0 (rt_0_1 hR) ?_
    refine xs_getI dX8_look_91 fl_X8_140.g rfl sc_3 ?_
    exact xs_ret (some (.int (μ.1 3 3))) dX8_look_94 rfl rfl ⟨hR, _, rfl, h⟩
  · intro c8
    replace h := h.2.2.2.2.2.2.2.1 c8
    refine xs_tabIn 95 dX8_look_1 (by rw [c8]; decide) (by rw [c8]; decide) (by rw [c8]; rfl) (by decide) ?_
    refine xs_aload_n dX8_look_95 rfl ?_
    refine xs_getR dX8_look_96 fl_X8_19 rfl sc_0 (rt_0_1 hR) ?_
    refine xs_getI dX8_look_99 fl_X8_143.g rfl sc_3 ?_
    exact xs_ret (some (.int (μ.1 3 4))) dX8_look_102 rfl rfl ⟨hR, _, rfl, h⟩
  · intro c9
    replace h := h.2.2.2.2.2.2.2.2 c9
    refine xs_tabOut 103 dX8_look_1 c9 (by decide) ?_
    refine xs_iconst (-1 : Int32) dX8_look_103 (by decide) ?_
    exact xs_ret (some (.int (-1 : Int32))) dX8_look_104 rfl rfl ⟨hR, _, rfl, h⟩
abbrev hd_X8_sum_14 (b : Bool) (Q : Int32 → xm_M → Prop)  (v1 : Int32) (v2 : Int32) (v3 : Int32) (μ : xm_M) : Prop := xs_RT b μ → xR k_X8_sum none true (fun r _ μ' => xs_RT b μ' ∧ ∃ x : Int32, r = some (.int x) ∧ Q x μ') 14 [some (.ref 0), some (.int v1), some (.int v2), some (.int v3)] [] xs_sh (0, 0) μ
set_option maxHeartbeats 4000000 in
set_option maxRecDepth 100000 in
theorem l_X8_sum_14 {b : Bool} {Q : Int32 → xm_M → Prop} {μ : xm_M}  (v1 : Int32) (v2 : Int32) (v3 : Int32) 
    (h : (((μ.1 0 8) ≤ v3 →
       Q v2 μ) ∧
      (¬ (μ.1 0 8) ≤ v3 →
       vp_in v1 2 ∧
       ∀ V3 : Nat, xs_vo V3 → V3 = 65 + 5 * (v1).toNatClampNeg →
       ∃ Q4 : Int32 → xm_M → Prop, xCi b b k_X7_sampleAt μ [.ref V3, .int v3] Q4 ∧
       ∀ (r6 : Int32) (m5 : xm_M), Q4 r6 m5 →
       ∀ x8 : Int32, x8 = (v2 + (r6 * ((nI 1) + v3))) →
       ∀ x9 : Int32, x9 = v3 + nI 1 →
       hd_X8_sum_14 b Q  v1 x8 x9 m5))) :
    hd_X8_sum_14 b Q  v1 v2 v3 μ := by
  intro hR
  refine xs_iload_n dX8_sum_14 rfl ?_
  refine xs_aload_n dX8_sum_15 rfl ?_
  refine xs_getI dX8_sum_16 fl_X8_62.g rfl sc_0 ?_
  refine xs_icmp_ge 45 dX8_sum_19 (by decide) (fun c1 => ?_) (fun c1 => ?_)
  · replace h := h.1 c1
    refine xs_iload_n dX8_sum_45 rfl ?_
    exact xs_ret (some (.int v2)) dX8_sum_46 rfl rfl ⟨hR, _, rfl, h⟩
  · replace h := h.2 c1
    refine xs_iload_n dX8_sum_22 rfl ?_
    refine xs_aload_n dX8_sum_23 rfl ?_
    refine xs_getR dX8_sum_24 fl_X8_53 rfl sc_0 (rt_0_6 hR) ?_
    refine xs_iload_n dX8_sum_27 rfl ?_
    obtain ⟨s2, h⟩ := h
    obtain ⟨V3, hV3, eV3, rV3⟩ := xs_pickvo hR s2
    replace h := h V3 hV3 eV3
    refine xs_aldV dX8_sum_28 sc_64 s2 rV3 ?_
    refine xs_iload_n dX8_sum_29 rfl ?_
    obtain ⟨Q4, hQ4, h⟩ := h
    refine xs_callV (j := k_X7_sampleAt) (As := [.int v3]) (S := [.int v2]) dX8_sum_30 (hQ4 hR) ⟨ml_X8_128, mk_X7_sampleAt.1, mk_X7_sampleAt.2.1, mk_X7_sampleAt.2.2⟩ mv_X7_sampleAt ⟨Nat.le_of_ble_eq_true rfl, Nat.le_of_ble_eq_true rfl⟩ rfl (Nat.le_of_ble_eq_true rfl) (sv_0 hV3) rfl ⟨rfl, rfl⟩ (fun rr m5 hq7 => ?_)
    obtain ⟨hR, r6, rfl, hq7⟩ := hq7
    replace h := h r6 m5 hq7
    refine xs_iconst (nI 1) dX8_sum_33 (by decide) ?_
    refine xs_iload_n dX8_sum_34 rfl ?_
    refine xs_iadd dX8_sum_35 ?_
    refine xs_imul dX8_sum_36 ?_
    refine xs_iadd dX8_sum_37 ?_
    refine xs_nmI (fun x8 e_x8 => ?_)
    replace h := h x8 e_x8
    refine xs_istore_n [some (.ref 0), some (.int v1), some (.int x8), some (.int v3)] dX8_sum_38 (by decide) rfl ?_
    obtain ⟨x9, e_x9⟩ : ∃ z : Int32, z = v3 + nI 1 := ⟨_, rfl⟩
    replace h := h x9 e_x9
    refine xs_iinc x9 [some (.ref 0), some (.int v1), some (.int x8), some (.int x9)] dX8_sum_39 (by decide) rfl (by rw [e_x9]; rfl) rfl ?_
    refine xs_goto 14 dX8_sum_42 (by decide) ?_
    exact xs_loc [some (.ref 0), some (.int v1), some (.int x8), some (.int x9)] ⟨rfl, ⟨rfl, ⟨rfl, ⟨rfl, trivial⟩⟩⟩⟩ (h hR)
set_option maxHeartbeats 4000000 in
set_option maxRecDepth 100000 in
theorem g_X8_sum {b : Bool} {Q : Int32 → xm_M → Prop} {μ : xm_M} (v1 : Int32) 
    (h : ∃ Q1 : Int32 → xm_M → Prop, xCi b b k_X8_hasVoice μ [.ref 0, .int v1] Q1 ∧
      ∀ (r3 : Int32) (m2 : xm_M), Q1 r3 m2 →
      ((¬ r3 = 0 →
       hd_X8_sum_14 b Q  v1 (nI 0) (nI 0) m2) ∧
      (r3 = 0 →
       Q (nI 0) m2))) :
    xCi b b k_X8_sum μ [.ref 0, .int v1] Q := by
  intro hR
  refine xm_met [some (.ref 0), some (.int v1), none, none] 2 (by decide) (by simp [lg_sl, Value.category]) rfl ?_
  refine xs_aload_n dX8_sum_0 rfl ?_
  refine xs_iload_n dX8_sum_1 rfl ?_
  obtain ⟨Q1, hQ1, h⟩ := h
  refine xs_callV (j := k_X8_hasVoice) (As := [.int v1]) (S := []) dX8_sum_2 (hQ1 hR) ⟨ml_X8_124, mk_X8_hasVoice.1, mk_X8_hasVoice.2.1, mk_X8_hasVoice.2.2⟩ mv_X8_hasVoice ⟨Nat.le_of_ble_eq_true rfl, Nat.le_of_ble_eq_true rfl⟩ rfl (Nat.le_of_ble_eq_true rfl) sc_0 rfl ⟨rfl, rfl⟩ (fun rr m2 hq4 => ?_)
  obtain ⟨hR, r3, rfl, hq4⟩ := hq4
  replace h := h r3 m2 hq4
  refine xs_if_ne 10 dX8_sum_5 (by decide) (fun c5 => ?_) (fun c5 => ?_)
  · replace h := h.1 c5
    refine xs_iconst (nI 0) dX8_sum_10 (by decide) ?_
    refine xs_istore_n [some (.ref 0), some (.int v1), some (.int (nI 0)), none] dX8_sum_11 (by decide) rfl ?_
    refine xs_iconst (nI 0) dX8_sum_12 (by decide) ?_
    refine xs_istore_n [some (.ref 0), some (.int v1), some (.int (nI 0)), some (.int (nI 0))] dX8_sum_13 (by decide) rfl ?_
    exact xs_loc [some (.ref 0), some (.int v1), some (.int (nI 0)), some (.int (nI 0))] ⟨rfl, ⟨rfl, ⟨rfl, ⟨rfl, trivial⟩⟩⟩⟩ (h hR)
  · replace h := h.2 c5
    refine xs_iconst (nI 0) dX8_sum_8 (by decide) ?_
    exact xs_ret (some (.int (nI 0))) dX8_sum_9 rfl rfl ⟨hR, _, rfl, h⟩
set_option maxHeartbeats 4000000 in
set_option maxRecDepth 100000 in
theorem g_X8_taped {b : Bool} {Q : Int32 → xm_M → Prop} {μ : xm_M}  
    (h : Q (μ.1 1 1) μ) :
    xCi b b k_X8_taped μ [.ref 0] Q := by
  intro hR
  refine xm_met [some (.ref 0)] 0 (by decide) (by simp [lg_sl, Value.category]) rfl ?_
  refine xs_aload_n dX8_taped_0 rfl ?_
  refine xs_getR dX8_taped_1 fl_X8_10 rfl sc_0 (rt_0_0 hR) ?_
  refine xs_getI dX8_taped_4 fl_X8_71.g rfl sc_1 ?_
  exact xs_ret (some (.int (μ.1 1 1))) dX8_taped_7 rfl rfl ⟨hR, _, rfl, h⟩
set_option maxHeartbeats 4000000 in
set_option maxRecDepth 100000 in
theorem g_X8_hasVoice {b : Bool} {Q : Int32 → xm_M → Prop} {μ : xm_M} (v1 : Int32) 
    (h : ((v1 < 0 →
       Q (nI 0) μ) ∧
      (¬ v1 < 0 →
       (((μ.1 0 7) ≤ v1 →
        Q (nI 0) μ) ∧
       (¬ (μ.1 0 7) ≤ v1 →
        (((nI 2) ≤ v1 →
         Q (nI 0) μ) ∧
        (¬ (nI 2) ≤ v1 →
         Q (nI 1) μ))))))) :
    xCi b b k_X8_hasVoice μ [.ref 0, .int v1] Q := by
  intro hR
  refine xm_met [some (.ref 0), some (.int v1)] 0 (by decide) (by simp [lg_sl, Value.category]) rfl ?_
  refine xs_iload_n dX8_hasVoice_0 rfl ?_
  refine xs_if_lt 25 dX8_hasVoice_1 (by decide) (fun c1 => ?_) (fun c1 => ?_)
  · replace h := h.1 c1
    refine xs_iconst (nI 0) dX8_hasVoice_25 (by decide) ?_
    exact xs_ret (some (.int (nI 0))) dX8_hasVoice_26 rfl rfl ⟨hR, _, rfl, h⟩
  · replace h := h.2 c1
    refine xs_iload_n dX8_hasVoice_4 rfl ?_
    refine xs_aload_n dX8_hasVoice_5 rfl ?_
    refine xs_getI dX8_hasVoice_6 fl_X8_58.g rfl sc_0 ?_
    refine xs_icmp_ge 25 dX8_hasVoice_9 (by decide) (fun c2 => ?_) (fun c2 => ?_)
    · replace h := h.1 c2
      refine xs_iconst (nI 0) dX8_hasVoice_25 (by decide) ?_
      exact xs_ret (some (.int (nI 0))) dX8_hasVoice_26 rfl rfl ⟨hR, _, rfl, h⟩
    · replace h := h.2 c2
      refine xs_iload_n dX8_hasVoice_12 rfl ?_
      refine xs_aload_n dX8_hasVoice_13 rfl ?_
      refine xs_getR dX8_hasVoice_14 fl_X8_53 rfl sc_0 (rt_0_6 hR) ?_
      refine xs_alen 5 dX8_hasVoice_17 sc_64 (fun _ => rfl) ?_
      refine xs_icmp_ge 25 dX8_hasVoice_18 (by decide) (fun c3 => ?_) (fun c3 => ?_)
      · replace h := h.1 c3
        refine xs_iconst (nI 0) dX8_hasVoice_25 (by decide) ?_
        exact xs_ret (some (.int (nI 0))) dX8_hasVoice_26 rfl rfl ⟨hR, _, rfl, h⟩
      · replace h := h.2 c3
        refine xs_iconst (nI 1) dX8_hasVoice_21 (by decide) ?_
        refine xs_goto 26 dX8_hasVoice_22 (by decide) ?_
        exact xs_ret (some (.int (nI 1))) dX8_hasVoice_26 rfl rfl ⟨hR, _, rfl, h⟩
set_option maxHeartbeats 4000000 in
set_option maxRecDepth 100000 in
theorem g_X8_learnSetup {Q : Int32 → xm_M → Prop} {μ : xm_M}  
    (h : ((¬ (μ.1 3 0) = 0 →
       ∃ Q2 : Int32 → xm_M → Prop, xCi false false k_X3_startOf μ [.ref 3, .int (nI 0)] Q2 ∧
       ∀ (r4 : Int32) (m3 : xm_M), Q2 r4 m3 →
       ∃ Q6 : Int32 → xm_M → Prop, xCi false false k_X3_lengthOf m3 [.ref 3, .int (nI 0)] Q6 ∧
       ∀ (r8 : Int32) (m7 : xm_M), Q6 r8 m7 →
       ∃ Q10 : xm_M → Prop, xCv false true k_X0_open m7 [.ref 7, .ref 2, .int r4, .int r8] Q10 ∧
       ∀ m11 : xm_M, Q10 m11 →
       ∃ Q14 : Int32 → xm_M → Prop, xCi true true k_X4_learn m11 [.ref 9, .ref 7] Q14 ∧
       ∀ (r16 : Int32) (m15 : xm_M), Q14 r16 m15 →
       Q r16 m15) ∧
      ((μ.1 3 0) = 0 →
       Q (nI 1) μ))) :
    xCi false false k_X8_learnSetup μ [.ref 0] Q := by
  intro hR
  refine xm_met [some (.ref 0)] 0 (by decide) (by simp [lg_sl, Value.category]) rfl ?_
  refine xs_aload_n dX8_learnSetup_0 rfl ?_
  refine xs_getR dX8_learnSetup_1 fl_X8_19 rfl sc_0 (rt_0_1 hR) ?_
  refine xs_getI dX8_learnSetup_4 fl_X8_137.g rfl sc_3 ?_
  refine xs_if_ne 12 dX8_learnSetup_7 (by decide) (fun c1 => ?_) (fun c1 => ?_)
  · replace h := h.1 c1
    refine xs_aload_n dX8_learnSetup_12 rfl ?_
    refine xs_getR dX8_learnSetup_13 fl_X8_26 rfl sc_0 (rt_0_2 hR) ?_
    refine xs_aload_n dX8_learnSetup_16 rfl ?_
    refine xs_getR dX8_learnSetup_17 fl_X8_10 rfl sc_0 (rt_0_0 hR) ?_
    refine xs_getR dX8_learnSetup_20 fl_X8_146 rfl sc_1 (rt_1_0 hR) ?_
    refine xs_aload_n dX8_learnSetup_23 rfl ?_
    refine xs_getR dX8_learnSetup_24 fl_X8_19 rfl sc_0 (rt_0_1 hR) ?_
    refine xs_iconst (nI 0) dX8_learnSetup_27 (by decide) ?_
    obtain ⟨Q2, hQ2, h⟩ := h
    refine xs_callV (j := k_X3_startOf) (As := [.int (nI 0)]) (S := [.ref 2, .ref 7]) dX8_learnSetup_28 (hQ2 hR) ⟨ml_X8_150, mk_X3_startOf.1, mk_X3_startOf.2.1, mk_X3_startOf.2.2⟩ mv_X3_startOf ⟨Nat.le_of_ble_eq_true rfl, Nat.le_of_ble_eq_true rfl⟩ rfl (Nat.le_of_ble_eq_true rfl) sc_3 rfl ⟨rfl, rfl⟩ (fun rr m3 hq5 => ?_)
    obtain ⟨hR, r4, rfl, hq5⟩ := hq5
    replace h := h r4 m3 hq5
    refine xs_aload_n dX8_learnSetup_31 rfl ?_
    refine xs_getR dX8_learnSetup_32 fl_X8_19 rfl sc_0 (rt_0_1 hR) ?_
    refine xs_iconst (nI 0) dX8_learnSetup_35 (by decide) ?_
    obtain ⟨Q6, hQ6, h⟩ := h
    refine xs_callV (j := k_X3_lengthOf) (As := [.int (nI 0)]) (S := [.int r4, .ref 2, .ref 7]) dX8_learnSetup_36 (hQ6 hR) ⟨ml_X8_153, mk_X3_lengthOf.1, mk_X3_lengthOf.2.1, mk_X3_lengthOf.2.2⟩ mv_X3_lengthOf ⟨Nat.le_of_ble_eq_true rfl, Nat.le_of_ble_eq_true rfl⟩ rfl (Nat.le_of_ble_eq_true rfl) sc_3 rfl ⟨rfl, rfl⟩ (fun rr m7 hq9 => ?_)
    obtain ⟨hR, r8, rfl, hq9⟩ := hq9
    replace h := h r8 m7 hq9
    obtain ⟨Q10, hQ10, h⟩ := h
    refine xs_callV (j := k_X0_open) (As := [.ref 2, .int r4, .int r8]) (S := []) dX8_learnSetup_39 (hQ10 hR) ⟨ml_X8_156, mk_X0_open.1, mk_X0_open.2.1, mk_X0_open.2.2⟩ mv_X0_open ⟨Nat.le_of_ble_eq_true rfl, Nat.le_of_ble_eq_true rfl⟩ rfl (Nat.le_of_ble_eq_true rfl) sc_7 rfl ⟨rfl, rfl⟩ (fun rr m11 hq13 => ?_)
    obtain ⟨hR, rfl, hq13⟩ := hq13
    replace h := h m11 hq13
    refine xs_aload_n dX8_learnSetup_42 rfl ?_
    refine xs_getR dX8_learnSetup_43 fl_X8_33 rfl sc_0 (rt_0_3 hR) ?_
    refine xs_aload_n dX8_learnSetup_46 rfl ?_
    refine xs_getR dX8_learnSetup_47 fl_X8_26 rfl sc_0 (rt_0_2 hR) ?_
    obtain ⟨Q14, hQ14, h⟩ := h
    refine xs_callV (j := k_X4_learn) (As := [.ref 7]) (S := []) dX8_learnSetup_50 (hQ14 hR) ⟨ml_X8_160, mk_X4_learn.1, mk_X4_learn.2.1, mk_X4_learn.2.2⟩ mv_X4_learn ⟨Nat.le_of_ble_eq_true rfl, Nat.le_of_ble_eq_true rfl⟩ rfl (Nat.le_of_ble_eq_true rfl) sc_9 rfl ⟨rfl, rfl⟩ (fun rr m15 hq17 => ?_)
    obtain ⟨hR, r16, rfl, hq17⟩ := hq17
    replace h := h r16 m15 hq17
    have hR := hR.weak
    exact xs_ret (some (.int r16)) dX8_learnSetup_53 rfl rfl ⟨hR, _, rfl, h⟩
  · replace h := h.2 c1
    refine xs_iconst (nI 1) dX8_learnSetup_10 (by decide) ?_
    exact xs_ret (some (.int (nI 1))) dX8_learnSetup_11 rfl rfl ⟨hR, _, rfl, h⟩
abbrev hd_X8_playSounds_2 (Q : xm_M → Prop)  (v1 : Int32) (μ : xm_M) : Prop := xs_RT false μ → xR k_X8_playSounds none true (fun r _ μ' => xs_RT false μ' ∧ r = none ∧ Q μ') 2 [some (.ref 0), some (.int v1)] [] xs_sh (0, 0) μ
set_option maxHeartbeats 4000000 in
set_option maxRecDepth 100000 in
theorem l_X8_playSounds_2 {Q : xm_M → Prop} {μ : xm_M}  (v1 : Int32) 
    (h : (((μ.1 3 0) ≤ v1 →
       Q μ) ∧
      (¬ (μ.1 3 0) ≤ v1 →
       ∃ Q2 : Int32 → xm_M → Prop, xCi false false k_X3_startOf μ [.ref 3, .int v1] Q2 ∧
       ∀ (r4 : Int32) (m3 : xm_M), Q2 r4 m3 →
       ∃ Q6 : Int32 → xm_M → Prop, xCi false false k_X3_lengthOf m3 [.ref 3, .int v1] Q6 ∧
       ∀ (r8 : Int32) (m7 : xm_M), Q6 r8 m7 →
       ∃ Q10 : xm_M → Prop, xCv false true k_X0_open m7 [.ref 7, .ref 2, .int r4, .int r8] Q10 ∧
       ∀ m11 : xm_M, Q10 m11 →
       ∃ Q14 : Int32 → xm_M → Prop, xCi true true k_X8_learnCurves m11 [.ref 0] Q14 ∧
       ∀ (r16 : Int32) (m15 : xm_M), Q14 r16 m15 →
       ((r16 = 0 →
        ∀ m19 : xm_M, m19 = xu_I m15 0 (upd (m15.1 0) 10 ((m15.1 0 10) + (nI 1))) →
        ∀ x20 : Int32, x20 = v1 + nI 1 →
        hd_X8_playSounds_2 Q  x20 m19) ∧
       (¬ r16 = 0 →
        ∃ Q21 : xm_M → Prop, xCv true true k_X8_learnRests m15 [.ref 0] Q21 ∧
        ∀ m22 : xm_M, Q21 m22 →
        ∃ Q25 : xm_M → Prop, xCv true true k_X8_layHalves m22 [.ref 0] Q25 ∧
        ∀ m26 : xm_M, Q25 m26 →
        ∀ m29 : xm_M, m29 = xu_I m26 0 (upd (m26.1 0) 9 ((m26.1 0 9) + (nI 1))) →
        ∀ x30 : Int32, x30 = v1 + nI 1 →
        hd_X8_playSounds_2 Q  x30 m29))))) :
    hd_X8_playSounds_2 Q  v1 μ := by
  intro hR
  refine xs_iload_n dX8_playSounds_2 rfl ?_
  refine xs_aload_n dX8_playSounds_3 rfl ?_
  refine xs_getR dX8_playSounds_4 fl_X8_19 rfl sc_0 (rt_0_1 hR) ?_
  refine xs_getI dX8_playSounds_7 fl_X8_137.g rfl sc_3 ?_
  refine xs_icmp_ge 87 dX8_playSounds_10 (by decide) (fun c1 => ?_) (fun c1 => ?_)
  · replace h := h.1 c1
    exact xs_ret none dX8_playSounds_87 trivial rfl ⟨hR, rfl, h⟩
  · replace h := h.2 c1
    refine xs_aload_n dX8_playSounds_13 rfl ?_
    refine xs_getR dX8_playSounds_14 fl_X8_26 rfl sc_0 (rt_0_2 hR) ?_
    refine xs_aload_n dX8_playSounds_17 rfl ?_
    refine xs_getR dX8_playSounds_18 fl_X8_10 rfl sc_0 (rt_0_0 hR) ?_
    refine xs_getR dX8_playSounds_21 fl_X8_146 rfl sc_1 (rt_1_0 hR) ?_
    refine xs_aload_n dX8_playSounds_24 rfl ?_
    refine xs_getR dX8_playSounds_25 fl_X8_19 rfl sc_0 (rt_0_1 hR) ?_
    refine xs_iload_n dX8_playSounds_28 rfl ?_
    obtain ⟨Q2, hQ2, h⟩ := h
    refine xs_callV (j := k_X3_startOf) (As := [.int v1]) (S := [.ref 2, .ref 7]) dX8_playSounds_29 (hQ2 hR) ⟨ml_X8_150, mk_X3_startOf.1, mk_X3_startOf.2.1, mk_X3_startOf.2.2⟩ mv_X3_startOf ⟨Nat.le_of_ble_eq_true rfl, Nat.le_of_ble_eq_true rfl⟩ rfl (Nat.le_of_ble_eq_true rfl) sc_3 rfl ⟨rfl, rfl⟩ (fun rr m3 hq5 => ?_)
    obtain ⟨hR, r4, rfl, hq5⟩ := hq5
    replace h := h r4 m3 hq5
    refine xs_aload_n dX8_playSounds_32 rfl ?_
    refine xs_getR dX8_playSounds_33 fl_X8_19 rfl sc_0 (rt_0_1 hR) ?_
    refine xs_iload_n dX8_playSounds_36 rfl ?_
    obtain ⟨Q6, hQ6, h⟩ := h
    refine xs_callV (j := k_X3_lengthOf) (As := [.int v1]) (S := [.int r4, .ref 2, .ref 7]) dX8_playSounds_37 (hQ6 hR) ⟨ml_X8_153, mk_X3_lengthOf.1, mk_X3_lengthOf.2.1, mk_X3_lengthOf.2.2⟩ mv_X3_lengthOf ⟨Nat.le_of_ble_eq_true rfl, Nat.le_of_ble_eq_true rfl⟩ rfl (Nat.le_of_ble_eq_true rfl) sc_3 rfl ⟨rfl, rfl⟩ (fun rr m7 hq9 => ?_)
    obtain ⟨hR, r8, rfl, hq9⟩ := hq9
    replace h := h r8 m7 hq9
    obtain ⟨Q10, hQ10, h⟩ := h
    refine xs_callV (j := k_X0_open) (As := [.ref 2, .int r4, .int r8]) (S := []) dX8_playSounds_40 (hQ10 hR) ⟨ml_X8_156, mk_X0_open.1, mk_X0_open.2.1, mk_X0_open.2.2⟩ mv_X0_open ⟨Nat.le_of_ble_eq_true rfl, Nat.le_of_ble_eq_true rfl⟩ rfl (Nat.le_of_ble_eq_true rfl) sc_7 rfl ⟨rfl, rfl⟩ (fun rr m11 hq13 => ?_)
    obtain ⟨hR, rfl, hq13⟩ := hq13
    replace h := h m11 hq13
    refine xs_aload_n dX8_playSounds_43 rfl ?_
    obtain ⟨Q14, hQ14, h⟩ := h
    refine xs_callV (j := k_X8_learnCurves) (As := []) (S := []) dX8_playSounds_44 (hQ14 hR) ⟨ml_X8_164, mk_X8_learnCurves.1, mk_X8_learnCurves.2.1, mk_X8_learnCurves.2.2⟩ mv_X8_learnCurves ⟨Nat.le_of_ble_eq_true rfl, Nat.le_of_ble_eq_true rfl⟩ rfl (Nat.le_of_ble_eq_true rfl) sc_0 rfl ⟨rfl, rfl⟩ (fun rr m15 hq17 => ?_)
    obtain ⟨hR, r16, rfl, hq17⟩ := hq17
    replace h := h r16 m15 hq17
    refine xs_if_eq 71 dX8_playSounds_47 (by decide) (fun c18 => ?_) (fun c18 => ?_)
    · replace h := h.1 c18
      refine xs_aload_n dX8_playSounds_71 rfl ?_
      refine xs_dup dX8_playSounds_72 rfl ?_
      refine xs_getI dX8_playSounds_73 fl_X8_68.g rfl sc_0 ?_
      refine xs_iconst (nI 1) dX8_playSounds_76 (by decide) ?_
      refine xs_iadd dX8_playSounds_77 ?_
      refine xs_putI dX8_playSounds_78 fl_X8_68 rfl rfl rfl sc_0 ?_
      refine xs_nmM (fun m19 e_m19 => ?_)
      replace h := h m19 e_m19
      have hR : xs_RT true m19 := by rw [e_m19]; exact hR
      obtain ⟨x20, e_x20⟩ : ∃ z : Int32, z = v1 + nI 1 := ⟨_, rfl⟩
      replace h := h x20 e_x20
      refine xs_iinc x20 [some (.ref 0), some (.int x20)] dX8_playSounds_81 (by decide) rfl (by rw [e_x20]; rfl) rfl ?_
      refine xs_goto 2 dX8_playSounds_84 (by decide) ?_
      exact xs_loc [some (.ref 0), some (.int x20)] ⟨rfl, ⟨rfl, trivial⟩⟩ (h hR.weak)
    · replace h := h.2 c18
      refine xs_aload_n dX8_playSounds_50 rfl ?_
      obtain ⟨Q21, hQ21, h⟩ := h
      refine xs_callV (j := k_X8_learnRests) (As := []) (S := []) dX8_playSounds_51 (hQ21 hR) ⟨ml_X8_168, mk_X8_learnRests.1, mk_X8_learnRests.2.1, mk_X8_learnRests.2.2⟩ mv_X8_learnRests ⟨Nat.le_of_ble_eq_true rfl, Nat.le_of_ble_eq_true rfl⟩ rfl (Nat.le_of_ble_eq_true rfl) sc_0 rfl ⟨rfl, rfl⟩ (fun rr m22 hq24 => ?_)
      obtain ⟨hR, rfl, hq24⟩ := hq24
      replace h := h m22 hq24
      refine xs_aload_n dX8_playSounds_54 rfl ?_
      obtain ⟨Q25, hQ25, h⟩ := h
      refine xs_callV (j := k_X8_layHalves) (As := []) (S := []) dX8_playSounds_55 (hQ25 hR) ⟨ml_X8_171, mk_X8_layHalves.1, mk_X8_layHalves.2.1, mk_X8_layHalves.2.2⟩ mv_X8_layHalves ⟨Nat.le_of_ble_eq_true rfl, Nat.le_of_ble_eq_true rfl⟩ rfl (Nat.le_of_ble_eq_true rfl) sc_0 rfl ⟨rfl, rfl⟩ (fun rr m26 hq28 => ?_)
      obtain ⟨hR, rfl, hq28⟩ := hq28
      replace h := h m26 hq28
      refine xs_aload_n dX8_playSounds_58 rfl ?_
      refine xs_dup dX8_playSounds_59 rfl ?_
      refine xs_getI dX8_playSounds_60 fl_X8_65.g rfl sc_0 ?_
      refine xs_iconst (nI 1) dX8_playSounds_63 (by decide) ?_
      refine xs_iadd dX8_playSounds_64 ?_
      refine xs_putI dX8_playSounds_65 fl_X8_65 rfl rfl rfl sc_0 ?_
      refine xs_nmM (fun m29 e_m29 => ?_)
      replace h := h m29 e_m29
      have hR : xs_RT true m29 := by rw [e_m29]; exact hR
      refine xs_goto 81 dX8_playSounds_68 (by decide) ?_
      obtain ⟨x30, e_x30⟩ : ∃ z : Int32, z = v1 + nI 1 := ⟨_, rfl⟩
      replace h := h x30 e_x30
      refine xs_iinc x30 [some (.ref 0), some (.int x30)] dX8_playSounds_81 (by decide) rfl (by rw [e_x30]; rfl) rfl ?_
      refine xs_goto 2 dX8_playSounds_84 (by decide) ?_
      exact xs_loc [some (.ref 0), some (.int x30)] ⟨rfl, ⟨rfl, trivial⟩⟩ (h hR.weak)
set_option maxHeartbeats 4000000 in
set_option maxRecDepth 100000 in
theorem g_X8_playSounds {Q : xm_M → Prop} {μ : xm_M}  
    (h : hd_X8_playSounds_2 Q  (nI 1) μ) :
    xCv false false k_X8_playSounds μ [.ref 0] Q := by
  intro hR
  refine xm_met [some (.ref 0), none] 1 (by decide) (by simp [lg_sl, Value.category]) rfl ?_
  refine xs_iconst (nI 1) dX8_playSounds_0 (by decide) ?_
  refine xs_istore_n [some (.ref 0), some (.int (nI 1))] dX8_playSounds_1 (by decide) rfl ?_
  exact xs_loc [some (.ref 0), some (.int (nI 1))] ⟨rfl, ⟨rfl, trivial⟩⟩ (h hR)
abbrev hd_X8_learnCurves_2 (Q : Int32 → xm_M → Prop)  (v1 : Int32) (μ : xm_M) : Prop := xs_RT true μ → xR k_X8_learnCurves none true (fun r _ μ' => xs_RT true μ' ∧ ∃ x : Int32, r = some (.int x) ∧ Q x μ') 2 [some (.ref 0), some (.int v1), none, none] [] xs_sh (0, 0) μ
set_option maxHeartbeats 4000000 in
set_option maxRecDepth 100000 in
theorem l_X8_learnCurves_2 {Q : Int32 → xm_M → Prop} {μ : xm_M}  (v1 : Int32) 
    (h : (((μ.1 0 7) ≤ v1 →
       Q (nI 1) μ) ∧
      (¬ (μ.1 0 7) ≤ v1 →
       (((nI 2) ≤ v1 →
        Q (nI 1) μ) ∧
       (¬ (nI 2) ≤ v1 →
        vp_in v1 2 ∧
        ∀ V4 : Nat, xs_vo V4 → V4 = 65 + 5 * (v1).toNatClampNeg →
        ∃ Q5 : Int32 → xm_M → Prop, xCi true true k_X0_bit μ [.ref 7] Q5 ∧
        ∀ (r7 : Int32) (m6 : xm_M), Q5 r7 m6 →
        ((0 ≤ r7 →
         ((¬ r7 = 0 →
          ∀ m11 : xm_M, m11 = xu_I m6 V4 (upd (m6.1 V4) 0 (nI 0)) →
          ((¬ (m11.1 V4 0) = 0 →
           ∀ x13 : Int32, x13 = v1 + nI 1 →
           hd_X8_learnCurves_2 Q  x13 m11) ∧
          ((m11.1 V4 0) = 0 →
           ∃ Q14 : Int32 → xm_M → Prop, xCi true true k_X2_learn m11 [.ref 56, .ref 9, .ref 7] Q14 ∧
           ∀ (r16 : Int32) (m15 : xm_M), Q14 r16 m15 →
           ((¬ r16 = 0 →
            ∃ Q19 : xm_M → Prop, xCv true true k_X2_draw m15 [.ref 56, .ref 9, .ref (V4 + 1)] Q19 ∧
            ∀ m20 : xm_M, Q19 m20 →
            ∀ x23 : Int32, x23 = v1 + nI 1 →
            hd_X8_learnCurves_2 Q  x23 m20) ∧
           (r16 = 0 →
            Q (nI 0) m15))))) ∧
         (r7 = 0 →
          ∀ m24 : xm_M, m24 = xu_I m6 V4 (upd (m6.1 V4) 0 (nI 1)) →
          ((¬ (m24.1 V4 0) = 0 →
           ∀ x26 : Int32, x26 = v1 + nI 1 →
           hd_X8_learnCurves_2 Q  x26 m24) ∧
          ((m24.1 V4 0) = 0 →
           ∃ Q27 : Int32 → xm_M → Prop, xCi true true k_X2_learn m24 [.ref 56, .ref 9, .ref 7] Q27 ∧
           ∀ (r29 : Int32) (m28 : xm_M), Q27 r29 m28 →
           ((¬ r29 = 0 →
            ∃ Q32 : xm_M → Prop, xCv true true k_X2_draw m28 [.ref 56, .ref 9, .ref (V4 + 1)] Q32 ∧
            ∀ m33 : xm_M, Q32 m33 →
            ∀ x36 : Int32, x36 = v1 + nI 1 →
            hd_X8_learnCurves_2 Q  x36 m33) ∧
           (r29 = 0 →
            Q (nI 0) m28))))))) ∧
        (¬ 0 ≤ r7 →
         Q (nI 0) m6))))))) :
    hd_X8_learnCurves_2 Q  v1 μ := by
  intro hR
  refine xs_iload_n dX8_learnCurves_2 rfl ?_
  refine xs_aload_n dX8_learnCurves_3 rfl ?_
  refine xs_getI dX8_learnCurves_4 fl_X8_58.g rfl sc_0 ?_
  refine xs_icmp_ge 101 dX8_learnCurves_7 (by decide) (fun c1 => ?_) (fun c1 => ?_)
  · replace h := h.1 c1
    refine xs_iconst (nI 1) dX8_learnCurves_101 (by decide) ?_
    exact xs_ret (some (.int (nI 1))) dX8_learnCurves_102 rfl rfl ⟨hR, _, rfl, h⟩
  · replace h := h.2 c1
    refine xs_iload_n dX8_learnCurves_10 rfl ?_
    refine xs_aload_n dX8_learnCurves_11 rfl ?_
    refine xs_getR dX8_learnCurves_12 fl_X8_53 rfl sc_0 (rt_0_6 hR) ?_
    refine xs_alen 5 dX8_learnCurves_15 sc_64 (fun _ => rfl) ?_
    refine xs_icmp_ge 101 dX8_learnCurves_16 (by decide) (fun c2 => ?_) (fun c2 => ?_)
    · replace h := h.1 c2
      refine xs_iconst (nI 1) dX8_learnCurves_101 (by decide) ?_
      exact xs_ret (some (.int (nI 1))) dX8_learnCurves_102 rfl rfl ⟨hR, _, rfl, h⟩
    · replace h := h.2 c2
      refine xs_aload_n dX8_learnCurves_19 rfl ?_
      refine xs_getR dX8_learnCurves_20 fl_X8_53 rfl sc_0 (rt_0_6 hR) ?_
      refine xs_iload_n dX8_learnCurves_23 rfl ?_
      obtain ⟨s3, h⟩ := h
      obtain ⟨V4, hV4, eV4, rV4⟩ := xs_pickvo hR s3
      replace h := h V4 hV4 eV4
      refine xs_aldV dX8_learnCurves_24 sc_64 s3 rV4 ?_
      refine xs_astore_n [some (.ref 0), some (.int v1), some (.ref V4), none] dX8_learnCurves_25 (by decide) rfl ?_
      refine xs_aload_n dX8_learnCurves_26 rfl ?_
      refine xs_getR dX8_learnCurves_27 fl_X8_26 rfl sc_0 (rt_0_2 hR) ?_
      obtain ⟨Q5, hQ5, h⟩ := h
      refine xs_callV (j := k_X0_bit) (As := []) (S := []) dX8_learnCurves_30 (hQ5 hR) ⟨ml_X8_174, mk_X0_bit.1, mk_X0_bit.2.1, mk_X0_bit.2.2⟩ mv_X0_bit ⟨Nat.le_of_ble_eq_true rfl, Nat.le_of_ble_eq_true rfl⟩ rfl (Nat.le_of_ble_eq_true rfl) sc_7 rfl ⟨rfl, rfl⟩ (fun rr m6 hq8 => ?_)
      obtain ⟨hR, r7, rfl, hq8⟩ := hq8
      replace h := h r7 m6 hq8
      refine xs_istore_n [some (.ref 0), some (.int v1), some (.ref V4), some (.int r7)] dX8_learnCurves_33 (by decide) rfl ?_
      refine xs_iload_n dX8_learnCurves_34 rfl ?_
      refine xs_if_ge 40 dX8_learnCurves_35 (by decide) (fun c9 => ?_) (fun c9 => ?_)
      · replace h := h.1 c9
        refine xs_aload_n dX8_learnCurves_40 rfl ?_
        refine xs_iload_n dX8_learnCurves_41 rfl ?_
        refine xs_if_ne 49 dX8_learnCurves_42 (by decide) (fun c10 => ?_) (fun c10 => ?_)
        · replace h := h.1 c10
          refine xs_iconst (nI 0) dX8_learnCurves_49 (by decide) ?_
          refine xs_putI dX8_learnCurves_50 fl_X8_177 rfl rfl rfl (sv_0 hV4) ?_
          refine xs_nmM (fun m11 e_m11 => ?_)
          replace h := h m11 e_m11
          have hR : xs_RT true m11 := by rw [e_m11]; exact hR
          refine xs_aload_n dX8_learnCurves_53 rfl ?_
          refine xs_getI dX8_learnCurves_54 fl_X8_177.g rfl (sv_0 hV4) ?_
          refine xs_if_ne 95 dX8_learnCurves_57 (by decide) (fun c12 => ?_) (fun c12 => ?_)
          · replace h := h.1 c12
            obtain ⟨x13, e_x13⟩ : ∃ z : Int32, z = v1 + nI 1 := ⟨_, rfl⟩
            replace h := h x13 e_x13
            refine xs_iinc x13 [some (.ref 0), some (.int x13), some (.ref V4), some (.int r7)] dX8_learnCurves_95 (by decide) rfl (by rw [e_x13]; rfl) rfl ?_
            refine xs_goto 2 dX8_learnCurves_98 (by decide) ?_
            exact xs_loc [some (.ref 0), some (.int x13), none, none] ⟨rfl, ⟨rfl, trivial⟩⟩ (h hR)
          · replace h := h.2 c12
            refine xs_aload_n dX8_learnCurves_60 rfl ?_
            refine xs_getR dX8_learnCurves_61 fl_X8_40 rfl sc_0 (rt_0_4 hR) ?_
            refine xs_aload_n dX8_learnCurves_64 rfl ?_
            refine xs_getR dX8_learnCurves_65 fl_X8_33 rfl sc_0 (rt_0_3 hR) ?_
            refine xs_aload_n dX8_learnCurves_68 rfl ?_
            refine xs_getR dX8_learnCurves_69 fl_X8_26 rfl sc_0 (rt_0_2 hR) ?_
            obtain ⟨Q14, hQ14, h⟩ := h
            refine xs_callV (j := k_X2_learn) (As := [.ref 9, .ref 7]) (S := []) dX8_learnCurves_72 (hQ14 hR) ⟨ml_X8_181, mk_X2_learn.1, mk_X2_learn.2.1, mk_X2_learn.2.2⟩ mv_X2_learn ⟨Nat.le_of_ble_eq_true rfl, Nat.le_of_ble_eq_true rfl⟩ rfl (Nat.le_of_ble_eq_true rfl) sc_56 rfl ⟨rfl, rfl⟩ (fun rr m15 hq17 => ?_)
            obtain ⟨hR, r16, rfl, hq17⟩ := hq17
            replace h := h r16 m15 hq17
            refine xs_if_ne 80 dX8_learnCurves_75 (by decide) (fun c18 => ?_) (fun c18 => ?_)
            · replace h := h.1 c18
              refine xs_aload_n dX8_learnCurves_80 rfl ?_
              refine xs_getR dX8_learnCurves_81 fl_X8_40 rfl sc_0 (rt_0_4 hR) ?_
              refine xs_aload_n dX8_learnCurves_84 rfl ?_
              refine xs_getR dX8_learnCurves_85 fl_X8_33 rfl sc_0 (rt_0_3 hR) ?_
              refine xs_aload_n dX8_learnCurves_88 rfl ?_
              refine xs_getR dX8_learnCurves_89 fl_X8_184 rfl (sv_0 hV4) (rv_1 hV4 hR) ?_
              obtain ⟨Q19, hQ19, h⟩ := h
              refine xs_callV (j := k_X2_draw) (As := [.ref 9, .ref (V4 + 1)]) (S := []) dX8_learnCurves_92 (hQ19 hR) ⟨ml_X8_188, mk_X2_draw.1, mk_X2_draw.2.1, mk_X2_draw.2.2⟩ mv_X2_draw ⟨Nat.le_of_ble_eq_true rfl, Nat.le_of_ble_eq_true rfl⟩ rfl (Nat.le_of_ble_eq_true rfl) sc_56 rfl ⟨rfl, rfl⟩ (fun rr m20 hq22 => ?_)
              obtain ⟨hR, rfl, hq22⟩ := hq22
              replace h := h m20 hq22
              obtain ⟨x23, e_x23⟩ : ∃ z : Int32, z = v1 + nI 1 := ⟨_, rfl⟩
              replace h := h x23 e_x23
              refine xs_iinc x23 [some (.ref 0), some (.int x23), some (.ref V4), some (.int r7)] dX8_learnCurves_95 (by decide) rfl (by rw [e_x23]; rfl) rfl ?_
              refine xs_goto 2 dX8_learnCurves_98 (by decide) ?_
              exact xs_loc [some (.ref 0), some (.int x23), none, none] ⟨rfl, ⟨rfl, trivial⟩⟩ (h hR)
            · replace h := h.2 c18
              refine xs_iconst (nI 0) dX8_learnCurves_78 (by decide) ?_
              exact xs_ret (some (.int (nI 0))) dX8_learnCurves_79 rfl rfl ⟨hR, _, rfl, h⟩
        · replace h := h.2 c10
          refine xs_iconst (nI 1) dX8_learnCurves_45 (by decide) ?_
          refine xs_goto 50 dX8_learnCurves_46 (by decide) ?_
          refine xs_putI dX8_learnCurves_50 fl_X8_177 rfl rfl rfl (sv_0 hV4) ?_
          refine xs_nmM (fun m24 e_m24 => ?_)
          replace h := h m24 e_m24
          have hR : xs_RT true m24 := by rw [e_m24]; exact hR
          refine xs_aload_n dX8_learnCurves_53 rfl ?_
          refine xs_getI dX8_learnCurves_54 fl_X8_177.g rfl (sv_0 hV4) ?_
          refine xs_if_ne 95 dX8_learnCurves_57 (by decide) (fun c25 => ?_) (fun c25 => ?_)
          · replace h := h.1 c25
            obtain ⟨x26, e_x26⟩ : ∃ z : Int32, z = v1 + nI 1 := ⟨_, rfl⟩
            replace h := h x26 e_x26
            refine xs_iinc x26 [some (.ref 0), some (.int x26), some (.ref V4), some (.int r7)] dX8_learnCurves_95 (by decide) rfl (by rw [e_x26]; rfl) rfl ?_
            refine xs_goto 2 dX8_learnCurves_98 (by decide) ?_
            exact xs_loc [some (.ref 0), some (.int x26), none, none] ⟨rfl, ⟨rfl, trivial⟩⟩ (h hR)
          · replace h := h.2 c25
            refine xs_aload_n dX8_learnCurves_60 rfl ?_
            refine xs_getR dX8_learnCurves_61 fl_X8_40 rfl sc_0 (rt_0_4 hR) ?_
            refine xs_aload_n dX8_learnCurves_64 rfl ?_
            refine xs_getR dX8_learnCurves_65 fl_X8_33 rfl sc_0 (rt_0_3 hR) ?_
            refine xs_aload_n dX8_learnCurves_68 rfl ?_
            refine xs_getR dX8_learnCurves_69 fl_X8_26 rfl sc_0 (rt_0_2 hR) ?_
            obtain ⟨Q27, hQ27, h⟩ := h
            refine xs_callV (j := k_X2_learn) (As := [.ref 9, .ref 7]) (S := []) dX8_learnCurves_72 (hQ27 hR) ⟨ml_X8_181, mk_X2_learn.1, mk_X2_learn.2.1, mk_X2_learn.2.2⟩ mv_X2_learn ⟨Nat.le_of_ble_eq_true rfl, Nat.le_of_ble_eq_true rfl⟩ rfl (Nat.le_of_ble_eq_true rfl) sc_56 rfl ⟨rfl, rfl⟩ (fun rr m28 hq30 => ?_)
            obtain ⟨hR, r29, rfl, hq30⟩ := hq30
            replace h := h r29 m28 hq30
            refine xs_if_ne 80 dX8_learnCurves_75 (by decide) (fun c31 => ?_) (fun c31 => ?_)
            · replace h := h.1 c31
              refine xs_aload_n dX8_learnCurves_80 rfl ?_
              refine xs_getR dX8_learnCurves_81 fl_X8_40 rfl sc_0 (rt_0_4 hR) ?_
              refine xs_aload_n dX8_learnCurves_84 rfl ?_
              refine xs_getR dX8_learnCurves_85 fl_X8_33 rfl sc_0 (rt_0_3 hR) ?_
              refine xs_aload_n dX8_learnCurves_88 rfl ?_
              refine xs_getR dX8_learnCurves_89 fl_X8_184 rfl (sv_0 hV4) (rv_1 hV4 hR) ?_
              obtain ⟨Q32, hQ32, h⟩ := h
              refine xs_callV (j := k_X2_draw) (As := [.ref 9, .ref (V4 + 1)]) (S := []) dX8_learnCurves_92 (hQ32 hR) ⟨ml_X8_188, mk_X2_draw.1, mk_X2_draw.2.1, mk_X2_draw.2.2⟩ mv_X2_draw ⟨Nat.le_of_ble_eq_true rfl, Nat.le_of_ble_eq_true rfl⟩ rfl (Nat.le_of_ble_eq_true rfl) sc_56 rfl ⟨rfl, rfl⟩ (fun rr m33 hq35 => ?_)
              obtain ⟨hR, rfl, hq35⟩ := hq35
              replace h := h m33 hq35
              obtain ⟨x36, e_x36⟩ : ∃ z : Int32, z = v1 + nI 1 := ⟨_, rfl⟩
              replace h := h x36 e_x36
              refine xs_iinc x36 [some (.ref 0), some (.int x36), some (.ref V4), some (.int r7)] dX8_learnCurves_95 (by decide) rfl (by rw [e_x36]; rfl) rfl ?_
              refine xs_goto 2 dX8_learnCurves_98 (by decide) ?_
              exact xs_loc [some (.ref 0), some (.int x36), none, none] ⟨rfl, ⟨rfl, trivial⟩⟩ (h hR)
            · replace h := h.2 c31
              refine xs_iconst (nI 0) dX8_learnCurves_78 (by decide) ?_
              exact xs_ret (some (.int (nI 0))) dX8_learnCurves_79 rfl rfl ⟨hR, _, rfl, h⟩
      · replace h := h.2 c9
        refine xs_iconst (nI 0) dX8_learnCurves_38 (by decide) ?_
        exact xs_ret (some (.int (nI 0))) dX8_learnCurves_39 rfl rfl ⟨hR, _, rfl, h⟩
set_option maxHeartbeats 4000000 in
set_option maxRecDepth 100000 in
theorem g_X8_learnCurves {Q : Int32 → xm_M → Prop} {μ : xm_M}  
    (h : hd_X8_learnCurves_2 Q  (nI 0) μ) :
    xCi true true k_X8_learnCurves μ [.ref 0] Q := by
  intro hR
  refine xm_met [some (.ref 0), none, none, none] 3 (by decide) (by simp [lg_sl, Value.category]) rfl ?_
  refine xs_iconst (nI 0) dX8_learnCurves_0 (by decide) ?_
  refine xs_istore_n [some (.ref 0), some (.int (nI 0)), none, none] dX8_learnCurves_1 (by decide) rfl ?_
  exact xs_loc [some (.ref 0), some (.int (nI 0)), none, none] ⟨rfl, ⟨rfl, trivial⟩⟩ (h hR)
abbrev hd_X8_learnRests_40 (Q : xm_M → Prop)  (v1 : Int32) (v2 : Int32) (v3 : Int32) (μ : xm_M) : Prop := xs_RT true μ → xR k_X8_learnRests none true (fun r _ μ' => xs_RT true μ' ∧ r = none ∧ Q μ') 40 [some (.ref 0), some (.int v1), some (.int v2), some (.int v3), none] [] xs_sh (0, 0) μ
abbrev hd_X8_learnRests_74 (Q : xm_M → Prop)  (v1 : Int32) (v2 : Int32) (v3 : Int32) (μ : xm_M) : Prop := xs_RT true μ → xR k_X8_learnRests none true (fun r _ μ' => xs_RT true μ' ∧ r = none ∧ Q μ') 74 [some (.ref 0), some (.int v1), some (.int v2), some (.int v3), none] [] xs_sh (0, 0) μ
abbrev hd_X8_learnRests_143 (Q : xm_M → Prop)  (v1 : Int32) (v2 : Int32) (v3 : Int32) (μ : xm_M) : Prop := xs_RT true μ → xR k_X8_learnRests none true (fun r _ μ' => xs_RT true μ' ∧ r = none ∧ Q μ') 143 [some (.ref 0), some (.int v1), some (.int v2), some (.int v3), none] [] xs_sh (0, 0) μ
abbrev hd_X8_learnRests_149 (Q : xm_M → Prop)  (v1 : Int32) (v2 : Int32) (μ : xm_M) : Prop := xs_RT true μ → xR k_X8_learnRests none true (fun r _ μ' => xs_RT true μ' ∧ r = none ∧ Q μ') 149 [some (.ref 0), some (.int v1), some (.int v2), none, none] [] xs_sh (0, 0) μ
set_option maxHeartbeats 4000000 in
set_option maxRecDepth 100000 in
theorem l_X8_learnRests_40 {Q : xm_M → Prop} {μ : xm_M}  (v1 : Int32) (v2 : Int32) (v3 : Int32) 
    (h : (((μ.1 0 7) ≤ v3 →
       hd_X8_learnRests_74 Q  v1 v2 (nI 0) μ) ∧
      (¬ (μ.1 0 7) ≤ v3 →
       (((nI 2) ≤ v3 →
        hd_X8_learnRests_74 Q  v1 v2 (nI 0) μ) ∧
       (¬ (nI 2) ≤ v3 →
        vp_in v3 2 ∧
        ∀ V4 : Nat, xs_vo V4 → V4 = 65 + 5 * (v3).toNatClampNeg →
        ∃ Q5 : xm_M → Prop, xCv true true k_X7_clearNumbers μ [.ref V4] Q5 ∧
        ∀ m6 : xm_M, Q5 m6 →
        ∀ x9 : Int32, x9 = v3 + nI 1 →
        hd_X8_learnRests_40 Q  v1 v2 x9 m6))))) :
    hd_X8_learnRests_40 Q  v1 v2 v3 μ := by
  intro hR
  refine xs_iload_n dX8_learnRests_40 rfl ?_
  refine xs_aload_n dX8_learnRests_41 rfl ?_
  refine xs_getI dX8_learnRests_42 fl_X8_58.g rfl sc_0 ?_
  refine xs_icmp_ge 72 dX8_learnRests_45 (by decide) (fun c1 => ?_) (fun c1 => ?_)
  · replace h := h.1 c1
    refine xs_iconst (nI 0) dX8_learnRests_72 (by decide) ?_
    refine xs_istore_n [some (.ref 0), some (.int v1), some (.int v2), some (.int (nI 0)), none] dX8_learnRests_73 (by decide) rfl ?_
    exact xs_loc [some (.ref 0), some (.int v1), some (.int v2), some (.int (nI 0)), none] ⟨rfl, ⟨rfl, ⟨rfl, ⟨rfl, trivial⟩⟩⟩⟩ (h hR)
  · replace h := h.2 c1
    refine xs_iload_n dX8_learnRests_48 rfl ?_
    refine xs_aload_n dX8_learnRests_49 rfl ?_
    refine xs_getR dX8_learnRests_50 fl_X8_53 rfl sc_0 (rt_0_6 hR) ?_
    refine xs_alen 5 dX8_learnRests_53 sc_64 (fun _ => rfl) ?_
    refine xs_icmp_ge 72 dX8_learnRests_54 (by decide) (fun c2 => ?_) (fun c2 => ?_)
    · replace h := h.1 c2
      refine xs_iconst (nI 0) dX8_learnRests_72 (by decide) ?_
      refine xs_istore_n [some (.ref 0), some (.int v1), some (.int v2), some (.int (nI 0)), none] dX8_learnRests_73 (by decide) rfl ?_
      exact xs_loc [some (.ref 0), some (.int v1), some (.int v2), some (.int (nI 0)), none] ⟨rfl, ⟨rfl, ⟨rfl, ⟨rfl, trivial⟩⟩⟩⟩ (h hR)
    · replace h := h.2 c2
      refine xs_aload_n dX8_learnRests_57 rfl ?_
      refine xs_getR dX8_learnRests_58 fl_X8_53 rfl sc_0 (rt_0_6 hR) ?_
      refine xs_iload_n dX8_learnRests_61 rfl ?_
      obtain ⟨s3, h⟩ := h
      obtain ⟨V4, hV4, eV4, rV4⟩ := xs_pickvo hR s3
      replace h := h V4 hV4 eV4
      refine xs_aldV dX8_learnRests_62 sc_64 s3 rV4 ?_
      obtain ⟨Q5, hQ5, h⟩ := h
      refine xs_callV (j := k_X7_clearNumbers) (As := []) (S := []) dX8_learnRests_63 (hQ5 hR) ⟨ml_X8_195, mk_X7_clearNumbers.1, mk_X7_clearNumbers.2.1, mk_X7_clearNumbers.2.2⟩ mv_X7_clearNumbers ⟨Nat.le_of_ble_eq_true rfl, Nat.le_of_ble_eq_true rfl⟩ rfl (Nat.le_of_ble_eq_true rfl) (sv_0 hV4) rfl ⟨rfl, rfl⟩ (fun rr m6 hq8 => ?_)
      obtain ⟨hR, rfl, hq8⟩ := hq8
      replace h := h m6 hq8
      obtain ⟨x9, e_x9⟩ : ∃ z : Int32, z = v3 + nI 1 := ⟨_, rfl⟩
      replace h := h x9 e_x9
      refine xs_iinc x9 [some (.ref 0), some (.int v1), some (.int v2), some (.int x9), none] dX8_learnRests_66 (by decide) rfl (by rw [e_x9]; rfl) rfl ?_
      refine xs_goto 40 dX8_learnRests_69 (by decide) ?_
      exact xs_loc [some (.ref 0), some (.int v1), some (.int v2), some (.int x9), none] ⟨rfl, ⟨rfl, ⟨rfl, ⟨rfl, trivial⟩⟩⟩⟩ (h hR)
set_option maxHeartbeats 4000000 in
set_option maxRecDepth 100000 in
theorem l_X8_learnRests_74 {Q : xm_M → Prop} {μ : xm_M}  (v1 : Int32) (v2 : Int32) (v3 : Int32) 
    (h : (((μ.1 0 7) ≤ v3 →
       hd_X8_learnRests_149 Q  v1 v2 μ) ∧
      (¬ (μ.1 0 7) ≤ v3 →
       (((nI 2) ≤ v3 →
        hd_X8_learnRests_149 Q  v1 v2 μ) ∧
       (¬ (nI 2) ≤ v3 →
        ((v1 = 0 →
         vp_in v3 2 ∧
         ∀ V5 : Nat, xs_vo V5 → V5 = 65 + 5 * (v3).toNatClampNeg →
         ((¬ (μ.1 V5 0) = 0 →
          hd_X8_learnRests_143 Q  v1 v2 v3 μ) ∧
         ((μ.1 V5 0) = 0 →
          vp_in v3 2 ∧
          ∀ V10 : Nat, xs_vo V10 → V10 = 65 + 5 * (v3).toNatClampNeg →
          ∃ Q11 : xm_M → Prop, xCv true true k_X4_learnNumbers μ [.ref 9, .ref 7, .ref (V10 + 2)] Q11 ∧
          ∀ m12 : xm_M, Q11 m12 →
          hd_X8_learnRests_143 Q  v1 v2 v3 m12))) ∧
        (¬ v1 = 0 →
         ((v2 = 0 →
          hd_X8_learnRests_143 Q  v1 v2 v3 μ) ∧
         (¬ v2 = 0 →
          vp_in v3 2 ∧
          ∀ V17 : Nat, xs_vo V17 → V17 = 65 + 5 * (v3).toNatClampNeg →
          ∃ Q18 : xm_M → Prop, xCv true true k_X4_learnNumbers μ [.ref 9, .ref 7, .ref (V17 + 2)] Q18 ∧
          ∀ m19 : xm_M, Q18 m19 →
          hd_X8_learnRests_143 Q  v1 v2 v3 m19))))))))) :
    hd_X8_learnRests_74 Q  v1 v2 v3 μ := by
  intro hR
  refine xs_iload_n dX8_learnRests_74 rfl ?_
  refine xs_aload_n dX8_learnRests_75 rfl ?_
  refine xs_getI dX8_learnRests_76 fl_X8_58.g rfl sc_0 ?_
  refine xs_icmp_ge 149 dX8_learnRests_79 (by decide) (fun c1 => ?_) (fun c1 => ?_)
  · replace h := h.1 c1
    exact xs_loc [some (.ref 0), some (.int v1), some (.int v2), none, none] ⟨rfl, ⟨rfl, ⟨rfl, trivial⟩⟩⟩ (h hR)
  · replace h := h.2 c1
    refine xs_iload_n dX8_learnRests_82 rfl ?_
    refine xs_aload_n dX8_learnRests_83 rfl ?_
    refine xs_getR dX8_learnRests_84 fl_X8_53 rfl sc_0 (rt_0_6 hR) ?_
    refine xs_alen 5 dX8_learnRests_87 sc_64 (fun _ => rfl) ?_
    refine xs_icmp_ge 149 dX8_learnRests_88 (by decide) (fun c2 => ?_) (fun c2 => ?_)
    · replace h := h.1 c2
      exact xs_loc [some (.ref 0), some (.int v1), some (.int v2), none, none] ⟨rfl, ⟨rfl, ⟨rfl, trivial⟩⟩⟩ (h hR)
    · replace h := h.2 c2
      refine xs_iload_n dX8_learnRests_91 rfl ?_
      refine xs_if_eq 99 dX8_learnRests_92 (by decide) (fun c3 => ?_) (fun c3 => ?_)
      · replace h := h.1 c3
        refine xs_aload_n dX8_learnRests_99 rfl ?_
        refine xs_getR dX8_learnRests_100 fl_X8_53 rfl sc_0 (rt_0_6 hR) ?_
        refine xs_iload_n dX8_learnRests_103 rfl ?_
        obtain ⟨s4, h⟩ := h
        obtain ⟨V5, hV5, eV5, rV5⟩ := xs_pickvo hR s4
        replace h := h V5 hV5 eV5
        refine xs_aldV dX8_learnRests_104 sc_64 s4 rV5 ?_
        refine xs_getI dX8_learnRests_105 fl_X8_177.g rfl (sv_0 hV5) ?_
        refine xs_if_ne 115 dX8_learnRests_108 (by decide) (fun c6 => ?_) (fun c6 => ?_)
        · replace h := h.1 c6
          refine xs_iconst (nI 0) dX8_learnRests_115 (by decide) ?_
          refine xs_istore [some (.ref 0), some (.int v1), some (.int v2), some (.int v3), some (.int (nI 0))] dX8_learnRests_116 (by decide) rfl ?_
          refine xs_iload dX8_learnRests_118 rfl ?_
          refine xs_if_eq 143 dX8_learnRests_120 (by decide) (fun _ => ?_) (fun c7 => absurd c7 (by decide))
          exact xs_loc [some (.ref 0), some (.int v1), some (.int v2), some (.int v3), none] ⟨rfl, ⟨rfl, ⟨rfl, ⟨rfl, trivial⟩⟩⟩⟩ (h hR)
        · replace h := h.2 c6
          refine xs_iconst (nI 1) dX8_learnRests_111 (by decide) ?_
          refine xs_goto 116 dX8_learnRests_112 (by decide) ?_
          refine xs_istore [some (.ref 0), some (.int v1), some (.int v2), some (.int v3), some (.int (nI 1))] dX8_learnRests_116 (by decide) rfl ?_
          refine xs_iload dX8_learnRests_118 rfl ?_
          refine xs_if_eq 143 dX8_learnRests_120 (by decide) (fun c8 => absurd c8 (by decide)) (fun _ => ?_)
          refine xs_aload_n dX8_learnRests_123 rfl ?_
          refine xs_getR dX8_learnRests_124 fl_X8_33 rfl sc_0 (rt_0_3 hR) ?_
          refine xs_aload_n dX8_learnRests_127 rfl ?_
          refine xs_getR dX8_learnRests_128 fl_X8_26 rfl sc_0 (rt_0_2 hR) ?_
          refine xs_aload_n dX8_learnRests_131 rfl ?_
          refine xs_getR dX8_learnRests_132 fl_X8_53 rfl sc_0 (rt_0_6 hR) ?_
          refine xs_iload_n dX8_learnRests_135 rfl ?_
          obtain ⟨s9, h⟩ := h
          obtain ⟨V10, hV10, eV10, rV10⟩ := xs_pickvo hR s9
          replace h := h V10 hV10 eV10
          refine xs_aldV dX8_learnRests_136 sc_64 s9 rV10 ?_
          refine xs_getR dX8_learnRests_137 fl_X8_198 rfl (sv_0 hV10) (rv_2 hV10 hR) ?_
          obtain ⟨Q11, hQ11, h⟩ := h
          refine xs_callV (j := k_X4_learnNumbers) (As := [.ref 7, .ref (V10 + 2)]) (S := []) dX8_learnRests_140 (hQ11 hR) ⟨ml_X8_201, mk_X4_learnNumbers.1, mk_X4_learnNumbers.2.1, mk_X4_learnNumbers.2.2⟩ mv_X4_learnNumbers ⟨Nat.le_of_ble_eq_true rfl, Nat.le_of_ble_eq_true rfl⟩ rfl (Nat.le_of_ble_eq_true rfl) sc_9 rfl ⟨rfl, rfl⟩ (fun rr m12 hq14 => ?_)
          obtain ⟨hR, rfl, hq14⟩ := hq14
          replace h := h m12 hq14
          exact xs_loc [some (.ref 0), some (.int v1), some (.int v2), some (.int v3), none] ⟨rfl, ⟨rfl, ⟨rfl, ⟨rfl, trivial⟩⟩⟩⟩ (h hR)
      · replace h := h.2 c3
        refine xs_iload_n dX8_learnRests_95 rfl ?_
        refine xs_goto 116 dX8_learnRests_96 (by decide) ?_
        refine xs_istore [some (.ref 0), some (.int v1), some (.int v2), some (.int v3), some (.int v2)] dX8_learnRests_116 (by decide) rfl ?_
        refine xs_iload dX8_learnRests_118 rfl ?_
        refine xs_if_eq 143 dX8_learnRests_120 (by decide) (fun c15 => ?_) (fun c15 => ?_)
        · replace h := h.1 c15
          exact xs_loc [some (.ref 0), some (.int v1), some (.int v2), some (.int v3), none] ⟨rfl, ⟨rfl, ⟨rfl, ⟨rfl, trivial⟩⟩⟩⟩ (h hR)
        · replace h := h.2 c15
          refine xs_aload_n dX8_learnRests_123 rfl ?_
          refine xs_getR dX8_learnRests_124 fl_X8_33 rfl sc_0 (rt_0_3 hR) ?_
          refine xs_aload_n dX8_learnRests_127 rfl ?_
          refine xs_getR dX8_learnRests_128 fl_X8_26 rfl sc_0 (rt_0_2 hR) ?_
          refine xs_aload_n dX8_learnRests_131 rfl ?_
          refine xs_getR dX8_learnRests_132 fl_X8_53 rfl sc_0 (rt_0_6 hR) ?_
          refine xs_iload_n dX8_learnRests_135 rfl ?_
          obtain ⟨s16, h⟩ := h
          obtain ⟨V17, hV17, eV17, rV17⟩ := xs_pickvo hR s16
          replace h := h V17 hV17 eV17
          refine xs_aldV dX8_learnRests_136 sc_64 s16 rV17 ?_
          refine xs_getR dX8_learnRests_137 fl_X8_198 rfl (sv_0 hV17) (rv_2 hV17 hR) ?_
          obtain ⟨Q18, hQ18, h⟩ := h
          refine xs_callV (j := k_X4_learnNumbers) (As := [.ref 7, .ref (V17 + 2)]) (S := []) dX8_learnRests_140 (hQ18 hR) ⟨ml_X8_201, mk_X4_learnNumbers.1, mk_X4_learnNumbers.2.1, mk_X4_learnNumbers.2.2⟩ mv_X4_learnNumbers ⟨Nat.le_of_ble_eq_true rfl, Nat.le_of_ble_eq_true rfl⟩ rfl (Nat.le_of_ble_eq_true rfl) sc_9 rfl ⟨rfl, rfl⟩ (fun rr m19 hq21 => ?_)
          obtain ⟨hR, rfl, hq21⟩ := hq21
          replace h := h m19 hq21
          exact xs_loc [some (.ref 0), some (.int v1), some (.int v2), some (.int v3), none] ⟨rfl, ⟨rfl, ⟨rfl, ⟨rfl, trivial⟩⟩⟩⟩ (h hR)
set_option maxHeartbeats 4000000 in
set_option maxRecDepth 100000 in
theorem l_X8_learnRests_143 {Q : xm_M → Prop} {μ : xm_M}  (v1 : Int32) (v2 : Int32) (v3 : Int32) 
    (h : ∀ x1 : Int32, x1 = v3 + nI 1 →
      hd_X8_learnRests_74 Q  v1 v2 x1 μ) :
    hd_X8_learnRests_143 Q  v1 v2 v3 μ := by
  intro hR
  obtain ⟨x1, e_x1⟩ : ∃ z : Int32, z = v3 + nI 1 := ⟨_, rfl⟩
  replace h := h x1 e_x1
  refine xs_iinc x1 [some (.ref 0), some (.int v1), some (.int v2), some (.int x1), none] dX8_learnRests_143 (by decide) rfl (by rw [e_x1]; rfl) rfl ?_
  refine xs_goto 74 dX8_learnRests_146 (by decide) ?_
  exact xs_loc [some (.ref 0), some (.int v1), some (.int v2), some (.int x1), none] ⟨rfl, ⟨rfl, ⟨rfl, ⟨rfl, trivial⟩⟩⟩⟩ (h hR)
set_option maxHeartbeats 4000000 in
set_option maxRecDepth 100000 in
theorem l_X8_learnRests_149 {Q : xm_M → Prop} {μ : xm_M}  (v1 : Int32) (v2 : Int32) 
    (h : ((v1 = 0 →
       Q μ) ∧
      (¬ v1 = 0 →
       ((v2 = 0 →
        Q μ) ∧
       (¬ v2 = 0 →
        vp_in (nI 0) 2 ∧
        ∀ V4 : Nat, xs_vo V4 → V4 = 65 + 5 * ((nI 0)).toNatClampNeg →
        vp_in (nI 1) 2 ∧
        ∀ V6 : Nat, xs_vo V6 → V6 = 65 + 5 * ((nI 1)).toNatClampNeg →
        ∃ Q7 : xm_M → Prop, xCv true true k_X8_straighten μ [.ref (V4 + 2), .ref (V6 + 2)] Q7 ∧
        ∀ m8 : xm_M, Q7 m8 →
        Q m8))))) :
    hd_X8_learnRests_149 Q  v1 v2 μ := by
  intro hR
  refine xs_iload_n dX8_learnRests_149 rfl ?_
  refine xs_if_eq 178 dX8_learnRests_150 (by decide) (fun c1 => ?_) (fun c1 => ?_)
  · replace h := h.1 c1
    exact xs_ret none dX8_learnRests_178 trivial rfl ⟨hR, rfl, h⟩
  · replace h := h.2 c1
    refine xs_iload_n dX8_learnRests_153 rfl ?_
    refine xs_if_eq 178 dX8_learnRests_154 (by decide) (fun c2 => ?_) (fun c2 => ?_)
    · replace h := h.1 c2
      exact xs_ret none dX8_learnRests_178 trivial rfl ⟨hR, rfl, h⟩
    · replace h := h.2 c2
      refine xs_aload_n dX8_learnRests_157 rfl ?_
      refine xs_getR dX8_learnRests_158 fl_X8_53 rfl sc_0 (rt_0_6 hR) ?_
      refine xs_iconst (nI 0) dX8_learnRests_161 (by decide) ?_
      obtain ⟨s3, h⟩ := h
      obtain ⟨V4, hV4, eV4, rV4⟩ := xs_pickvo hR s3
      replace h := h V4 hV4 eV4
      refine xs_aldV dX8_learnRests_162 sc_64 s3 rV4 ?_
      refine xs_getR dX8_learnRests_163 fl_X8_198 rfl (sv_0 hV4) (rv_2 hV4 hR) ?_
      refine xs_aload_n dX8_learnRests_166 rfl ?_
      refine xs_getR dX8_learnRests_167 fl_X8_53 rfl sc_0 (rt_0_6 hR) ?_
      refine xs_iconst (nI 1) dX8_learnRests_170 (by decide) ?_
      obtain ⟨s5, h⟩ := h
      obtain ⟨V6, hV6, eV6, rV6⟩ := xs_pickvo hR s5
      replace h := h V6 hV6 eV6
      refine xs_aldV dX8_learnRests_171 sc_64 s5 rV6 ?_
      refine xs_getR dX8_learnRests_172 fl_X8_198 rfl (sv_0 hV6) (rv_2 hV6 hR) ?_
      obtain ⟨Q7, hQ7, h⟩ := h
      refine xs_callS (j := k_X8_straighten) (As := [.ref (V4 + 2), .ref (V6 + 2)]) (S := []) dX8_learnRests_175 (hQ7 hR) ⟨ml_X8_205, mk_X8_straighten.1, mk_X8_straighten.2.1, mk_X8_straighten.2.2⟩ ms_X8_straighten ⟨Nat.le_of_ble_eq_true rfl, Nat.le_of_ble_eq_true rfl⟩ rfl (Nat.le_of_ble_eq_true rfl) ⟨rfl, rfl⟩ (fun rr m8 hq10 => ?_)
      obtain ⟨hR, rfl, hq10⟩ := hq10
      replace h := h m8 hq10
      exact xs_ret none dX8_learnRests_178 trivial rfl ⟨hR, rfl, h⟩
set_option maxHeartbeats 4000000 in
set_option maxRecDepth 100000 in
theorem g_X8_learnRests {Q : xm_M → Prop} {μ : xm_M}  
    (h : vp_in (nI 0) 2 ∧
      ∀ V2 : Nat, xs_vo V2 → V2 = 65 + 5 * ((nI 0)).toNatClampNeg →
      (((μ.1 V2 0) = 0 →
       hd_X8_learnRests_40 Q  (μ.1 9 2) (nI 1) (nI 0) μ) ∧
      (¬ (μ.1 V2 0) = 0 →
       vp_in (nI 1) 2 ∧
       ∀ V5 : Nat, xs_vo V5 → V5 = 65 + 5 * ((nI 1)).toNatClampNeg →
       ((¬ (μ.1 V5 0) = 0 →
        hd_X8_learnRests_40 Q  (μ.1 9 2) (nI 0) (nI 0) μ) ∧
       ((μ.1 V5 0) = 0 →
        hd_X8_learnRests_40 Q  (μ.1 9 2) (nI 1) (nI 0) μ))))) :
    xCv true true k_X8_learnRests μ [.ref 0] Q := by
  intro hR
  refine xm_met [some (.ref 0), none, none, none, none] 4 (by decide) (by simp [lg_sl, Value.category]) rfl ?_
  refine xs_aload_n dX8_learnRests_0 rfl ?_
  refine xs_getR dX8_learnRests_1 fl_X8_33 rfl sc_0 (rt_0_3 hR) ?_
  refine xs_getI dX8_learnRests_4 fl_X8_192.g rfl sc_9 ?_
  refine xs_istore_n [some (.ref 0), some (.int (μ.1 9 2)), none, none, none] dX8_learnRests_7 (by decide) rfl ?_
  refine xs_aload_n dX8_learnRests_8 rfl ?_
  refine xs_getR dX8_learnRests_9 fl_X8_53 rfl sc_0 (rt_0_6 hR) ?_
  refine xs_iconst (nI 0) dX8_learnRests_12 (by decide) ?_
  obtain ⟨s1, h⟩ := h
  obtain ⟨V2, hV2, eV2, rV2⟩ := xs_pickvo hR s1
  replace h := h V2 hV2 eV2
  refine xs_aldV dX8_learnRests_13 sc_64 s1 rV2 ?_
  refine xs_getI dX8_learnRests_14 fl_X8_177.g rfl (sv_0 hV2) ?_
  refine xs_if_eq 32 dX8_learnRests_17 (by decide) (fun c3 => ?_) (fun c3 => ?_)
  · replace h := h.1 c3
    refine xs_iconst (nI 1) dX8_learnRests_32 (by decide) ?_
    refine xs_goto 37 dX8_learnRests_33 (by decide) ?_
    refine xs_istore_n [some (.ref 0), some (.int (μ.1 9 2)), some (.int (nI 1)), none, none] dX8_learnRests_37 (by decide) rfl ?_
    refine xs_iconst (nI 0) dX8_learnRests_38 (by decide) ?_
    refine xs_istore_n [some (.ref 0), some (.int (μ.1 9 2)), some (.int (nI 1)), some (.int (nI 0)), none] dX8_learnRests_39 (by decide) rfl ?_
    exact xs_loc [some (.ref 0), some (.int (μ.1 9 2)), some (.int (nI 1)), some (.int (nI 0)), none] ⟨rfl, ⟨rfl, ⟨rfl, ⟨rfl, trivial⟩⟩⟩⟩ (h hR)
  · replace h := h.2 c3
    refine xs_aload_n dX8_learnRests_20 rfl ?_
    refine xs_getR dX8_learnRests_21 fl_X8_53 rfl sc_0 (rt_0_6 hR) ?_
    refine xs_iconst (nI 1) dX8_learnRests_24 (by decide) ?_
    obtain ⟨s4, h⟩ := h
    obtain ⟨V5, hV5, eV5, rV5⟩ := xs_pickvo hR s4
    replace h := h V5 hV5 eV5
    refine xs_aldV dX8_learnRests_25 sc_64 s4 rV5 ?_
    refine xs_getI dX8_learnRests_26 fl_X8_177.g rfl (sv_0 hV5) ?_
    refine xs_if_ne 36 dX8_learnRests_29 (by decide) (fun c6 => ?_) (fun c6 => ?_)
    · replace h := h.1 c6
      refine xs_iconst (nI 0) dX8_learnRests_36 (by decide) ?_
      refine xs_istore_n [some (.ref 0), some (.int (μ.1 9 2)), some (.int (nI 0)), none, none] dX8_learnRests_37 (by decide) rfl ?_
      refine xs_iconst (nI 0) dX8_learnRests_38 (by decide) ?_
      refine xs_istore_n [some (.ref 0), some (.int (μ.1 9 2)), some (.int (nI 0)), some (.int (nI 0)), none] dX8_learnRests_39 (by decide) rfl ?_
      exact xs_loc [some (.ref 0), some (.int (μ.1 9 2)), some (.int (nI 0)), some (.int (nI 0)), none] ⟨rfl, ⟨rfl, ⟨rfl, ⟨rfl, trivial⟩⟩⟩⟩ (h hR)
    · replace h := h.2 c6
      refine xs_iconst (nI 1) dX8_learnRests_32 (by decide) ?_
      refine xs_goto 37 dX8_learnRests_33 (by decide) ?_
      refine xs_istore_n [some (.ref 0), some (.int (μ.1 9 2)), some (.int (nI 1)), none, none] dX8_learnRests_37 (by decide) rfl ?_
      refine xs_iconst (nI 0) dX8_learnRests_38 (by decide) ?_
      refine xs_istore_n [some (.ref 0), some (.int (μ.1 9 2)), some (.int (nI 1)), some (.int (nI 0)), none] dX8_learnRests_39 (by decide) rfl ?_
      exact xs_loc [some (.ref 0), some (.int (μ.1 9 2)), some (.int (nI 1)), some (.int (nI 0)), none] ⟨rfl, ⟨rfl, ⟨rfl, ⟨rfl, trivial⟩⟩⟩⟩ (h hR)
abbrev hd_X8_straighten_2 (b : Bool) (Q : xm_M → Prop)  (v2 : Int32) (μ : xm_M) : Prop := xs_RT b μ → xR k_X8_straighten none true (fun r _ μ' => xs_RT b μ' ∧ r = none ∧ Q μ') 2 [some (.ref 67), some (.ref 72), some (.int v2), none, none] [] xs_sh (0, 0) μ
set_option maxHeartbeats 4000000 in
set_option maxRecDepth 100000 in
theorem l_X8_straighten_2 {b : Bool} {Q : xm_M → Prop} {μ : xm_M}  (v2 : Int32) 
    (h : (((nI 16) ≤ v2 →
       Q μ) ∧
      (¬ (nI 16) ≤ v2 →
       (((nI 16) ≤ v2 →
        Q μ) ∧
       (¬ (nI 16) ≤ v2 →
        vp_in v2 16 ∧
        vp_in v2 16 ∧
        (((μ.1 67 (v2).toNatClampNeg) ≤ 0 →
         (((μ.1 72 (v2).toNatClampNeg) ≤ 0 →
          vp_in v2 16 ∧
          ∀ m8 : xm_M, m8 = xu_I μ 67 (upd (μ.1 67) (v2).toNatClampNeg ((μ.1 67 (v2).toNatClampNeg) - (μ.1 72 (v2).toNatClampNeg))) →
          (((μ.1 72 (v2).toNatClampNeg) ≤ 0 →
           vp_in v2 16 ∧
           ∀ m11 : xm_M, m11 = xu_I m8 72 (upd (m8.1 72) (v2).toNatClampNeg (μ.1 67 (v2).toNatClampNeg)) →
           ∀ x12 : Int32, x12 = v2 + nI 1 →
           hd_X8_straighten_2 b Q  x12 m11) ∧
          (¬ (μ.1 72 (v2).toNatClampNeg) ≤ 0 →
           vp_in v2 16 ∧
           ∀ m14 : xm_M, m14 = xu_I m8 72 (upd (m8.1 72) (v2).toNatClampNeg ((μ.1 67 (v2).toNatClampNeg) + (μ.1 72 (v2).toNatClampNeg))) →
           ∀ x15 : Int32, x15 = v2 + nI 1 →
           hd_X8_straighten_2 b Q  x15 m14))) ∧
         (¬ (μ.1 72 (v2).toNatClampNeg) ≤ 0 →
          vp_in v2 16 ∧
          ∀ m17 : xm_M, m17 = xu_I μ 67 (upd (μ.1 67) (v2).toNatClampNeg (μ.1 67 (v2).toNatClampNeg)) →
          (((μ.1 72 (v2).toNatClampNeg) ≤ 0 →
           vp_in v2 16 ∧
           ∀ m20 : xm_M, m20 = xu_I m17 72 (upd (m17.1 72) (v2).toNatClampNeg (μ.1 67 (v2).toNatClampNeg)) →
           ∀ x21 : Int32, x21 = v2 + nI 1 →
           hd_X8_straighten_2 b Q  x21 m20) ∧
          (¬ (μ.1 72 (v2).toNatClampNeg) ≤ 0 →
           vp_in v2 16 ∧
           ∀ m23 : xm_M, m23 = xu_I m17 72 (upd (m17.1 72) (v2).toNatClampNeg ((μ.1 67 (v2).toNatClampNeg) + (μ.1 72 (v2).toNatClampNeg))) →
           ∀ x24 : Int32, x24 = v2 + nI 1 →
           hd_X8_straighten_2 b Q  x24 m23))))) ∧
        (¬ (μ.1 67 (v2).toNatClampNeg) ≤ 0 →
         (((μ.1 72 (v2).toNatClampNeg) ≤ 0 →
          vp_in v2 16 ∧
          ∀ m27 : xm_M, m27 = xu_I μ 67 (upd (μ.1 67) (v2).toNatClampNeg ((μ.1 67 (v2).toNatClampNeg) + (μ.1 72 (v2).toNatClampNeg))) →
          (((μ.1 72 (v2).toNatClampNeg) ≤ 0 →
           vp_in v2 16 ∧
           ∀ m30 : xm_M, m30 = xu_I m27 72 (upd (m27.1 72) (v2).toNatClampNeg (μ.1 67 (v2).toNatClampNeg)) →
           ∀ x31 : Int32, x31 = v2 + nI 1 →
           hd_X8_straighten_2 b Q  x31 m30) ∧
          (¬ (μ.1 72 (v2).toNatClampNeg) ≤ 0 →
           vp_in v2 16 ∧
           ∀ m33 : xm_M, m33 = xu_I m27 72 (upd (m27.1 72) (v2).toNatClampNeg ((μ.1 67 (v2).toNatClampNeg) - (μ.1 72 (v2).toNatClampNeg))) →
           ∀ x34 : Int32, x34 = v2 + nI 1 →
           hd_X8_straighten_2 b Q  x34 m33))) ∧
         (¬ (μ.1 72 (v2).toNatClampNeg) ≤ 0 →
          vp_in v2 16 ∧
          ∀ m36 : xm_M, m36 = xu_I μ 67 (upd (μ.1 67) (v2).toNatClampNeg (μ.1 67 (v2).toNatClampNeg)) →
          (((μ.1 72 (v2).toNatClampNeg) ≤ 0 →
           vp_in v2 16 ∧
           ∀ m39 : xm_M, m39 = xu_I m36 72 (upd (m36.1 72) (v2).toNatClampNeg (μ.1 67 (v2).toNatClampNeg)) →
           ∀ x40 : Int32, x40 = v2 + nI 1 →
           hd_X8_straighten_2 b Q  x40 m39) ∧
          (¬ (μ.1 72 (v2).toNatClampNeg) ≤ 0 →
           vp_in v2 16 ∧
           ∀ m42 : xm_M, m42 = xu_I m36 72 (upd (m36.1 72) (v2).toNatClampNeg ((μ.1 67 (v2).toNatClampNeg) - (μ.1 72 (v2).toNatClampNeg))) →
           ∀ x43 : Int32, x43 = v2 + nI 1 →
           hd_X8_straighten_2 b Q  x43 m42))))))))))) :
    hd_X8_straighten_2 b Q  v2 μ := by
  intro hR
  refine xs_iload_n dX8_straighten_2 rfl ?_
  refine xs_aload_n dX8_straighten_3 rfl ?_
  refine xs_alen 0 dX8_straighten_4 sc_67 (fun _ => rfl) ?_
  refine xs_icmp_ge 100 dX8_straighten_5 (by decide) (fun c1 => ?_) (fun c1 => ?_)
  · replace h := h.1 c1
    exact xs_ret none dX8_straighten_100 trivial rfl ⟨hR, rfl, h⟩
  · replace h := h.2 c1
    refine xs_iload_n dX8_straighten_8 rfl ?_
    refine xs_aload_n dX8_straighten_9 rfl ?_
    refine xs_alen 0 dX8_straighten_10 sc_72 (fun _ => rfl) ?_
    refine xs_icmp_ge 100 dX8_straighten_11 (by decide) (fun c2 => ?_) (fun c2 => ?_)
    · replace h := h.1 c2
      exact xs_ret none dX8_straighten_100 trivial rfl ⟨hR, rfl, h⟩
    · replace h := h.2 c2
      refine xs_aload_n dX8_straighten_14 rfl ?_
      refine xs_iload_n dX8_straighten_15 rfl ?_
      obtain ⟨s3, h⟩ := h
      refine xs_iald dX8_straighten_16 sc_67 s3 ?_
      refine xs_istore_n [some (.ref 67), some (.ref 72), some (.int v2), some (.int (μ.1 67 (v2).toNatClampNeg)), none] dX8_straighten_17 (by decide) rfl ?_
      refine xs_aload_n dX8_straighten_18 rfl ?_
      refine xs_iload_n dX8_straighten_19 rfl ?_
      obtain ⟨s4, h⟩ := h
      refine xs_iald dX8_straighten_20 sc_72 s4 ?_
      refine xs_istore [some (.ref 67), some (.ref 72), some (.int v2), some (.int (μ.1 67 (v2).toNatClampNeg)), some (.int (μ.1 72 (v2).toNatClampNeg))] dX8_straighten_21 (by decide) rfl ?_
      refine xs_iload_n dX8_straighten_23 rfl ?_
      refine xs_if_le 62 dX8_straighten_24 (by decide) (fun c5 => ?_) (fun c5 => ?_)
      · replace h := h.1 c5
        refine xs_aload_n dX8_straighten_62 rfl ?_
        refine xs_iload_n dX8_straighten_63 rfl ?_
        refine xs_iload dX8_straighten_64 rfl ?_
        refine xs_if_le 73 dX8_straighten_66 (by decide) (fun c6 => ?_) (fun c6 => ?_)
        · replace h := h.1 c6
          refine xs_iload_n dX8_straighten_73 rfl ?_
          refine xs_iload dX8_straighten_74 rfl ?_
          refine xs_isub dX8_straighten_76 ?_
          obtain ⟨s7, h⟩ := h
          refine xs_iast dX8_straighten_77 sc_67 s7 ?_
          refine xs_nmM (fun m8 e_m8 => ?_)
          replace h := h m8 e_m8
          have hR : xs_RT b m8 := by rw [e_m8]; exact hR
          refine xs_aload_n dX8_straighten_78 rfl ?_
          refine xs_iload_n dX8_straighten_79 rfl ?_
          refine xs_iload dX8_straighten_80 rfl ?_
          refine xs_if_le 92 dX8_straighten_82 (by decide) (fun c9 => ?_) (fun c9 => ?_)
          · replace h := h.1 c9
            refine xs_iload_n dX8_straighten_92 rfl ?_
            obtain ⟨s10, h⟩ := h
            refine xs_iast dX8_straighten_93 sc_72 s10 ?_
            refine xs_nmM (fun m11 e_m11 => ?_)
            replace h := h m11 e_m11
            have hR : xs_RT b m11 := by rw [e_m11]; exact hR
            obtain ⟨x12, e_x12⟩ : ∃ z : Int32, z = v2 + nI 1 := ⟨_, rfl⟩
            replace h := h x12 e_x12
            refine xs_iinc x12 [some (.ref 67), some (.ref 72), some (.int x12), some (.int (μ.1 67 (v2).toNatClampNeg)), some (.int (μ.1 72 (v2).toNatClampNeg))] dX8_straighten_94 (by decide) rfl (by rw [e_x12]; rfl) rfl ?_
            refine xs_goto 2 dX8_straighten_97 (by decide) ?_
            exact xs_loc [some (.ref 67), some (.ref 72), some (.int x12), none, none] ⟨rfl, ⟨rfl, ⟨rfl, trivial⟩⟩⟩ (h hR)
          · replace h := h.2 c9
            refine xs_iload_n dX8_straighten_85 rfl ?_
            refine xs_iload dX8_straighten_86 rfl ?_
            refine xs_iadd dX8_straighten_88 ?_
            refine xs_goto 93 dX8_straighten_89 (by decide) ?_
            obtain ⟨s13, h⟩ := h
            refine xs_iast dX8_straighten_93 sc_72 s13 ?_
            refine xs_nmM (fun m14 e_m14 => ?_)
            replace h := h m14 e_m14
            have hR : xs_RT b m14 := by rw [e_m14]; exact hR
            obtain ⟨x15, e_x15⟩ : ∃ z : Int32, z = v2 + nI 1 := ⟨_, rfl⟩
            replace h := h x15 e_x15
            refine xs_iinc x15 [some (.ref 67), some (.ref 72), some (.int x15), some (.int (μ.1 67 (v2).toNatClampNeg)), some (.int (μ.1 72 (v2).toNatClampNeg))] dX8_straighten_94 (by decide) rfl (by rw [e_x15]; rfl) rfl ?_
            refine xs_goto 2 dX8_straighten_97 (by decide) ?_
            exact xs_loc [some (.ref 67), some (.ref 72), some (.int x15), none, none] ⟨rfl, ⟨rfl, ⟨rfl, trivial⟩⟩⟩ (h hR)
        · replace h := h.2 c6
          refine xs_iload_n dX8_straighten_69 rfl ?_
          refine xs_goto 77 dX8_straighten_70 (by decide) ?_
          obtain ⟨s16, h⟩ := h
          refine xs_iast dX8_straighten_77 sc_67 s16 ?_
          refine xs_nmM (fun m17 e_m17 => ?_)
          replace h := h m17 e_m17
          have hR : xs_RT b m17 := by rw [e_m17]; exact hR
          refine xs_aload_n dX8_straighten_78 rfl ?_
          refine xs_iload_n dX8_straighten_79 rfl ?_
          refine xs_iload dX8_straighten_80 rfl ?_
          refine xs_if_le 92 dX8_straighten_82 (by decide) (fun c18 => ?_) (fun c18 => ?_)
          · replace h := h.1 c18
            refine xs_iload_n dX8_straighten_92 rfl ?_
            obtain ⟨s19, h⟩ := h
            refine xs_iast dX8_straighten_93 sc_72 s19 ?_
            refine xs_nmM (fun m20 e_m20 => ?_)
            replace h := h m20 e_m20
            have hR : xs_RT b m20 := by rw [e_m20]; exact hR
            obtain ⟨x21, e_x21⟩ : ∃ z : Int32, z = v2 + nI 1 := ⟨_, rfl⟩
            replace h := h x21 e_x21
            refine xs_iinc x21 [some (.ref 67), some (.ref 72), some (.int x21), some (.int (μ.1 67 (v2).toNatClampNeg)), some (.int (μ.1 72 (v2).toNatClampNeg))] dX8_straighten_94 (by decide) rfl (by rw [e_x21]; rfl) rfl ?_
            refine xs_goto 2 dX8_straighten_97 (by decide) ?_
            exact xs_loc [some (.ref 67), some (.ref 72), some (.int x21), none, none] ⟨rfl, ⟨rfl, ⟨rfl, trivial⟩⟩⟩ (h hR)
          · replace h := h.2 c18
            refine xs_iload_n dX8_straighten_85 rfl ?_
            refine xs_iload dX8_straighten_86 rfl ?_
            refine xs_iadd dX8_straighten_88 ?_
            refine xs_goto 93 dX8_straighten_89 (by decide) ?_
            obtain ⟨s22, h⟩ := h
            refine xs_iast dX8_straighten_93 sc_72 s22 ?_
            refine xs_nmM (fun m23 e_m23 => ?_)
            replace h := h m23 e_m23
            have hR : xs_RT b m23 := by rw [e_m23]; exact hR
            obtain ⟨x24, e_x24⟩ : ∃ z : Int32, z = v2 + nI 1 := ⟨_, rfl⟩
            replace h := h x24 e_x24
            refine xs_iinc x24 [some (.ref 67), some (.ref 72), some (.int x24), some (.int (μ.1 67 (v2).toNatClampNeg)), some (.int (μ.1 72 (v2).toNatClampNeg))] dX8_straighten_94 (by decide) rfl (by rw [e_x24]; rfl) rfl ?_
            refine xs_goto 2 dX8_straighten_97 (by decide) ?_
            exact xs_loc [some (.ref 67), some (.ref 72), some (.int x24), none, none] ⟨rfl, ⟨rfl, ⟨rfl, trivial⟩⟩⟩ (h hR)
      · replace h := h.2 c5
        refine xs_aload_n dX8_straighten_27 rfl ?_
        refine xs_iload_n dX8_straighten_28 rfl ?_
        refine xs_iload dX8_straighten_29 rfl ?_
        refine xs_if_le 38 dX8_straighten_31 (by decide) (fun c25 => ?_) (fun c25 => ?_)
        · replace h := h.1 c25
          refine xs_iload_n dX8_straighten_38 rfl ?_
          refine xs_iload dX8_straighten_39 rfl ?_
          refine xs_iadd dX8_straighten_41 ?_
          obtain ⟨s26, h⟩ := h
          refine xs_iast dX8_straighten_42 sc_67 s26 ?_
          refine xs_nmM (fun m27 e_m27 => ?_)
          replace h := h m27 e_m27
          have hR : xs_RT b m27 := by rw [e_m27]; exact hR
          refine xs_aload_n dX8_straighten_43 rfl ?_
          refine xs_iload_n dX8_straighten_44 rfl ?_
          refine xs_iload dX8_straighten_45 rfl ?_
          refine xs_if_le 57 dX8_straighten_47 (by decide) (fun c28 => ?_) (fun c28 => ?_)
          · replace h := h.1 c28
            refine xs_iload_n dX8_straighten_57 rfl ?_
            obtain ⟨s29, h⟩ := h
            refine xs_iast dX8_straighten_58 sc_72 s29 ?_
            refine xs_nmM (fun m30 e_m30 => ?_)
            replace h := h m30 e_m30
            have hR : xs_RT b m30 := by rw [e_m30]; exact hR
            refine xs_goto 94 dX8_straighten_59 (by decide) ?_
            obtain ⟨x31, e_x31⟩ : ∃ z : Int32, z = v2 + nI 1 := ⟨_, rfl⟩
            replace h := h x31 e_x31
            refine xs_iinc x31 [some (.ref 67), some (.ref 72), some (.int x31), some (.int (μ.1 67 (v2).toNatClampNeg)), some (.int (μ.1 72 (v2).toNatClampNeg))] dX8_straighten_94 (by decide) rfl (by rw [e_x31]; rfl) rfl ?_
            refine xs_goto 2 dX8_straighten_97 (by decide) ?_
            exact xs_loc [some (.ref 67), some (.ref 72), some (.int x31), none, none] ⟨rfl, ⟨rfl, ⟨rfl, trivial⟩⟩⟩ (h hR)
          · replace h := h.2 c28
            refine xs_iload_n dX8_straighten_50 rfl ?_
            refine xs_iload dX8_straighten_51 rfl ?_
            refine xs_isub dX8_straighten_53 ?_
            refine xs_goto 58 dX8_straighten_54 (by decide) ?_
            obtain ⟨s32, h⟩ := h
            refine xs_iast dX8_straighten_58 sc_72 s32 ?_
            refine xs_nmM (fun m33 e_m33 => ?_)
            replace h := h m33 e_m33
            have hR : xs_RT b m33 := by rw [e_m33]; exact hR
            refine xs_goto 94 dX8_straighten_59 (by decide) ?_
            obtain ⟨x34, e_x34⟩ : ∃ z : Int32, z = v2 + nI 1 := ⟨_, rfl⟩
            replace h := h x34 e_x34
            refine xs_iinc x34 [some (.ref 67), some (.ref 72), some (.int x34), some (.int (μ.1 67 (v2).toNatClampNeg)), some (.int (μ.1 72 (v2).toNatClampNeg))] dX8_straighten_94 (by decide) rfl (by rw [e_x34]; rfl) rfl ?_
            refine xs_goto 2 dX8_straighten_97 (by decide) ?_
            exact xs_loc [some (.ref 67), some (.ref 72), some (.int x34), none, none] ⟨rfl, ⟨rfl, ⟨rfl, trivial⟩⟩⟩ (h hR)
        · replace h := h.2 c25
          refine xs_iload_n dX8_straighten_34 rfl ?_
          refine xs_goto 42 dX8_straighten_35 (by decide) ?_
          obtain ⟨s35, h⟩ := h
          refine xs_iast dX8_straighten_42 sc_67 s35 ?_
          refine xs_nmM (fun m36 e_m36 => ?_)
          replace h := h m36 e_m36
          have hR : xs_RT b m36 := by rw [e_m36]; exact hR
          refine xs_aload_n dX8_straighten_43 rfl ?_
          refine xs_iload_n dX8_straighten_44 rfl ?_
          refine xs_iload dX8_straighten_45 rfl ?_
          refine xs_if_le 57 dX8_straighten_47 (by decide) (fun c37 => ?_) (fun c37 => ?_)
          · replace h := h.1 c37
            refine xs_iload_n dX8_straighten_57 rfl ?_
            obtain ⟨s38, h⟩ := h
            refine xs_iast dX8_straighten_58 sc_72 s38 ?_
            refine xs_nmM (fun m39 e_m39 => ?_)
            replace h := h m39 e_m39
            have hR : xs_RT b m39 := by rw [e_m39]; exact hR
            refine xs_goto 94 dX8_straighten_59 (by decide) ?_
            obtain ⟨x40, e_x40⟩ : ∃ z : Int32, z = v2 + nI 1 := ⟨_, rfl⟩
            replace h := h x40 e_x40
            refine xs_iinc x40 [some (.ref 67), some (.ref 72), some (.int x40), some (.int (μ.1 67 (v2).toNatClampNeg)), some (.int (μ.1 72 (v2).toNatClampNeg))] dX8_straighten_94 (by decide) rfl (by rw [e_x40]; rfl) rfl ?_
            refine xs_goto 2 dX8_straighten_97 (by decide) ?_
            exact xs_loc [some (.ref 67), some (.ref 72), some (.int x40), none, none] ⟨rfl, ⟨rfl, ⟨rfl, trivial⟩⟩⟩ (h hR)
          · replace h := h.2 c37
            refine xs_iload_n dX8_straighten_50 rfl ?_
            refine xs_iload dX8_straighten_51 rfl ?_
            refine xs_isub dX8_straighten_53 ?_
            refine xs_goto 58 dX8_straighten_54 (by decide) ?_
            obtain ⟨s41, h⟩ := h
            refine xs_iast dX8_straighten_58 sc_72 s41 ?_
            refine xs_nmM (fun m42 e_m42 => ?_)
            replace h := h m42 e_m42
            have hR : xs_RT b m42 := by rw [e_m42]; exact hR
            refine xs_goto 94 dX8_straighten_59 (by decide) ?_
            obtain ⟨x43, e_x43⟩ : ∃ z : Int32, z = v2 + nI 1 := ⟨_, rfl⟩
            replace h := h x43 e_x43
            refine xs_iinc x43 [some (.ref 67), some (.ref 72), some (.int x43), some (.int (μ.1 67 (v2).toNatClampNeg)), some (.int (μ.1 72 (v2).toNatClampNeg))] dX8_straighten_94 (by decide) rfl (by rw [e_x43]; rfl) rfl ?_
            refine xs_goto 2 dX8_straighten_97 (by decide) ?_
            exact xs_loc [some (.ref 67), some (.ref 72), some (.int x43), none, none] ⟨rfl, ⟨rfl, ⟨rfl, trivial⟩⟩⟩ (h hR)
set_option maxHeartbeats 4000000 in
set_option maxRecDepth 100000 in
theorem g_X8_straighten {b : Bool} {Q : xm_M → Prop} {μ : xm_M}  
    (h : hd_X8_straighten_2 b Q  (nI 0) μ) :
    xCv b b k_X8_straighten μ [.ref 67, .ref 72] Q := by
  intro hR
  refine xm_met [some (.ref 67), some (.ref 72), none, none, none] 3 (by decide) (by simp [lg_sl, Value.category]) rfl ?_
  refine xs_iconst (nI 0) dX8_straighten_0 (by decide) ?_
  refine xs_istore_n [some (.ref 67), some (.ref 72), some (.int (nI 0)), none, none] dX8_straighten_1 (by decide) rfl ?_
  exact xs_loc [some (.ref 67), some (.ref 72), some (.int (nI 0)), none, none] ⟨rfl, ⟨rfl, ⟨rfl, trivial⟩⟩⟩ (h hR)
abbrev hd_X8_layHalves_2 (b : Bool) (Q : xm_M → Prop)  (v1 : Int32) (μ : xm_M) : Prop := xs_RT b μ → xR k_X8_layHalves none true (fun r _ μ' => xs_RT b μ' ∧ r = none ∧ Q μ') 2 [some (.ref 0), some (.int v1)] [] xs_sh (0, 0) μ
set_option maxHeartbeats 4000000 in
set_option maxRecDepth 100000 in
theorem l_X8_layHalves_2 {b : Bool} {Q : xm_M → Prop} {μ : xm_M}  (v1 : Int32) 
    (h : (((μ.1 0 7) ≤ v1 →
       Q μ) ∧
      (¬ (μ.1 0 7) ≤ v1 →
       (((nI 2) ≤ v1 →
        Q μ) ∧
       (¬ (nI 2) ≤ v1 →
        vp_in v1 2 ∧
        ∀ V4 : Nat, xs_vo V4 → V4 = 65 + 5 * (v1).toNatClampNeg →
        ∃ Q5 : xm_M → Prop, xCv b b k_X5_add μ [.ref 59, .ref V4] Q5 ∧
        ∀ m6 : xm_M, Q5 m6 →
        (((m6.1 0 9) ≤ 0 →
         vp_in v1 2 ∧
         ∀ V11 : Nat, xs_vo V11 → V11 = 65 + 5 * (v1).toNatClampNeg →
         ∃ Q12 : xm_M → Prop, xCv b b k_X7_keepSecondHalf m6 [.ref V11, .ref 60] Q12 ∧
         ∀ m13 : xm_M, Q12 m13 →
         ∀ x16 : Int32, x16 = v1 + nI 1 →
         hd_X8_layHalves_2 b Q  x16 m13) ∧
        (¬ (m6.1 0 9) ≤ 0 →
         vp_in v1 2 ∧
         ∀ V18 : Nat, xs_vo V18 → V18 = 65 + 5 * (v1).toNatClampNeg →
         ∃ Q19 : xm_M → Prop, xCv b b k_X7_putSamples m6 [.ref V18, .int (((m6.1 0 9) - (nI 1)) * (nI 16)), .ref 60] Q19 ∧
         ∀ m20 : xm_M, Q19 m20 →
         vp_in v1 2 ∧
         ∀ V24 : Nat, xs_vo V24 → V24 = 65 + 5 * (v1).toNatClampNeg →
         ∃ Q25 : xm_M → Prop, xCv b b k_X7_keepSecondHalf m20 [.ref V24, .ref 60] Q25 ∧
         ∀ m26 : xm_M, Q25 m26 →
         ∀ x29 : Int32, x29 = v1 + nI 1 →
         hd_X8_layHalves_2 b Q  x29 m26))))))) :
    hd_X8_layHalves_2 b Q  v1 μ := by
  intro hR
  refine xs_iload_n dX8_layHalves_2 rfl ?_
  refine xs_aload_n dX8_layHalves_3 rfl ?_
  refine xs_getI dX8_layHalves_4 fl_X8_58.g rfl sc_0 ?_
  refine xs_icmp_ge 86 dX8_layHalves_7 (by decide) (fun c1 => ?_) (fun c1 => ?_)
  · replace h := h.1 c1
    exact xs_ret none dX8_layHalves_86 trivial rfl ⟨hR, rfl, h⟩
  · replace h := h.2 c1
    refine xs_iload_n dX8_layHalves_10 rfl ?_
    refine xs_aload_n dX8_layHalves_11 rfl ?_
    refine xs_getR dX8_layHalves_12 fl_X8_53 rfl sc_0 (rt_0_6 hR) ?_
    refine xs_alen 5 dX8_layHalves_15 sc_64 (fun _ => rfl) ?_
    refine xs_icmp_ge 86 dX8_layHalves_16 (by decide) (fun c2 => ?_) (fun c2 => ?_)
    · replace h := h.1 c2
      exact xs_ret none dX8_layHalves_86 trivial rfl ⟨hR, rfl, h⟩
    · replace h := h.2 c2
      refine xs_aload_n dX8_layHalves_19 rfl ?_
      refine xs_getR dX8_layHalves_20 fl_X8_47 rfl sc_0 (rt_0_5 hR) ?_
      refine xs_aload_n dX8_layHalves_23 rfl ?_
      refine xs_getR dX8_layHalves_24 fl_X8_53 rfl sc_0 (rt_0_6 hR) ?_
      refine xs_iload_n dX8_layHalves_27 rfl ?_
      obtain ⟨s3, h⟩ := h
      obtain ⟨V4, hV4, eV4, rV4⟩ := xs_pickvo hR s3
      replace h := h V4 hV4 eV4
      refine xs_aldV dX8_layHalves_28 sc_64 s3 rV4 ?_
      obtain ⟨Q5, hQ5, h⟩ := h
      refine xs_callV (j := k_X5_add) (As := [.ref V4]) (S := []) dX8_layHalves_29 (hQ5 hR) ⟨ml_X8_209, mk_X5_add.1, mk_X5_add.2.1, mk_X5_add.2.2⟩ mv_X5_add ⟨Nat.le_of_ble_eq_true rfl, Nat.le_of_ble_eq_true rfl⟩ rfl (Nat.le_of_ble_eq_true rfl) sc_59 rfl ⟨rfl, rfl⟩ (fun rr m6 hq8 => ?_)
      obtain ⟨hR, rfl, hq8⟩ := hq8
      replace h := h m6 hq8
      refine xs_aload_n dX8_layHalves_32 rfl ?_
      refine xs_getI dX8_layHalves_33 fl_X8_65.g rfl sc_0 ?_
      refine xs_if_le 64 dX8_layHalves_36 (by decide) (fun c9 => ?_) (fun c9 => ?_)
      · replace h := h.1 c9
        refine xs_aload_n dX8_layHalves_64 rfl ?_
        refine xs_getR dX8_layHalves_65 fl_X8_53 rfl sc_0 (rt_0_6 hR) ?_
        refine xs_iload_n dX8_layHalves_68 rfl ?_
        obtain ⟨s10, h⟩ := h
        obtain ⟨V11, hV11, eV11, rV11⟩ := xs_pickvo hR s10
        replace h := h V11 hV11 eV11
        refine xs_aldV dX8_layHalves_69 sc_64 s10 rV11 ?_
        refine xs_aload_n dX8_layHalves_70 rfl ?_
        refine xs_getR dX8_layHalves_71 fl_X8_47 rfl sc_0 (rt_0_5 hR) ?_
        refine xs_getR dX8_layHalves_74 fl_X8_213 rfl sc_59 (rt_59_0 hR) ?_
        obtain ⟨Q12, hQ12, h⟩ := h
        refine xs_callV (j := k_X7_keepSecondHalf) (As := [.ref 60]) (S := []) dX8_layHalves_77 (hQ12 hR) ⟨ml_X8_221, mk_X7_keepSecondHalf.1, mk_X7_keepSecondHalf.2.1, mk_X7_keepSecondHalf.2.2⟩ mv_X7_keepSecondHalf ⟨Nat.le_of_ble_eq_true rfl, Nat.le_of_ble_eq_true rfl⟩ rfl (Nat.le_of_ble_eq_true rfl) (sv_0 hV11) rfl ⟨rfl, rfl⟩ (fun rr m13 hq15 => ?_)
        obtain ⟨hR, rfl, hq15⟩ := hq15
        replace h := h m13 hq15
        obtain ⟨x16, e_x16⟩ : ∃ z : Int32, z = v1 + nI 1 := ⟨_, rfl⟩
        replace h := h x16 e_x16
        refine xs_iinc x16 [some (.ref 0), some (.int x16)] dX8_layHalves_80 (by decide) rfl (by rw [e_x16]; rfl) rfl ?_
        refine xs_goto 2 dX8_layHalves_83 (by decide) ?_
        exact xs_loc [some (.ref 0), some (.int x16)] ⟨rfl, ⟨rfl, trivial⟩⟩ (h hR)
      · replace h := h.2 c9
        refine xs_aload_n dX8_layHalves_39 rfl ?_
        refine xs_getR dX8_layHalves_40 fl_X8_53 rfl sc_0 (rt_0_6 hR) ?_
        refine xs_iload_n dX8_layHalves_43 rfl ?_
        obtain ⟨s17, h⟩ := h
        obtain ⟨V18, hV18, eV18, rV18⟩ := xs_pickvo hR s17
        replace h := h V18 hV18 eV18
        refine xs_aldV dX8_layHalves_44 sc_64 s17 rV18 ?_
        refine xs_aload_n dX8_layHalves_45 rfl ?_
        refine xs_getI dX8_layHalves_46 fl_X8_65.g rfl sc_0 ?_
        refine xs_iconst (nI 1) dX8_layHalves_49 (by decide) ?_
        refine xs_isub dX8_layHalves_50 ?_
        refine xs_bipush (nI 16) dX8_layHalves_51 (by decide) ?_
        refine xs_imul dX8_layHalves_53 ?_
        refine xs_aload_n dX8_layHalves_54 rfl ?_
        refine xs_getR dX8_layHalves_55 fl_X8_47 rfl sc_0 (rt_0_5 hR) ?_
        refine xs_getR dX8_layHalves_58 fl_X8_213 rfl sc_59 (rt_59_0 hR) ?_
        obtain ⟨Q19, hQ19, h⟩ := h
        refine xs_callV (j := k_X7_putSamples) (As := [.int (((m6.1 0 9) - (nI 1)) * (nI 16)), .ref 60]) (S := []) dX8_layHalves_61 (hQ19 hR) ⟨ml_X8_217, mk_X7_putSamples.1, mk_X7_putSamples.2.1, mk_X7_putSamples.2.2⟩ mv_X7_putSamples ⟨Nat.le_of_ble_eq_true rfl, Nat.le_of_ble_eq_true rfl⟩ rfl (Nat.le_of_ble_eq_true rfl) (sv_0 hV18) rfl ⟨rfl, rfl⟩ (fun rr m20 hq22 => ?_)
        obtain ⟨hR, rfl, hq22⟩ := hq22
        replace h := h m20 hq22
        refine xs_aload_n dX8_layHalves_64 rfl ?_
        refine xs_getR dX8_layHalves_65 fl_X8_53 rfl sc_0 (rt_0_6 hR) ?_
        refine xs_iload_n dX8_layHalves_68 rfl ?_
        obtain ⟨s23, h⟩ := h
        obtain ⟨V24, hV24, eV24, rV24⟩ := xs_pickvo hR s23
        replace h := h V24 hV24 eV24
        refine xs_aldV dX8_layHalves_69 sc_64 s23 rV24 ?_
        refine xs_aload_n dX8_layHalves_70 rfl ?_
        refine xs_getR dX8_layHalves_71 fl_X8_47 rfl sc_0 (rt_0_5 hR) ?_
        refine xs_getR dX8_layHalves_74 fl_X8_213 rfl sc_59 (rt_59_0 hR) ?_
        obtain ⟨Q25, hQ25, h⟩ := h
        refine xs_callV (j := k_X7_keepSecondHalf) (As := [.ref 60]) (S := []) dX8_layHalves_77 (hQ25 hR) ⟨ml_X8_221, mk_X7_keepSecondHalf.1, mk_X7_keepSecondHalf.2.1, mk_X7_keepSecondHalf.2.2⟩ mv_X7_keepSecondHalf ⟨Nat.le_of_ble_eq_true rfl, Nat.le_of_ble_eq_true rfl⟩ rfl (Nat.le_of_ble_eq_true rfl) (sv_0 hV24) rfl ⟨rfl, rfl⟩ (fun rr m26 hq28 => ?_)
        obtain ⟨hR, rfl, hq28⟩ := hq28
        replace h := h m26 hq28
        obtain ⟨x29, e_x29⟩ : ∃ z : Int32, z = v1 + nI 1 := ⟨_, rfl⟩
        replace h := h x29 e_x29
        refine xs_iinc x29 [some (.ref 0), some (.int x29)] dX8_layHalves_80 (by decide) rfl (by rw [e_x29]; rfl) rfl ?_
        refine xs_goto 2 dX8_layHalves_83 (by decide) ?_
        exact xs_loc [some (.ref 0), some (.int x29)] ⟨rfl, ⟨rfl, trivial⟩⟩ (h hR)
set_option maxHeartbeats 4000000 in
set_option maxRecDepth 100000 in
theorem g_X8_layHalves {b : Bool} {Q : xm_M → Prop} {μ : xm_M}  
    (h : hd_X8_layHalves_2 b Q  (nI 0) μ) :
    xCv b b k_X8_layHalves μ [.ref 0] Q := by
  intro hR
  refine xm_met [some (.ref 0), none] 1 (by decide) (by simp [lg_sl, Value.category]) rfl ?_
  refine xs_iconst (nI 0) dX8_layHalves_0 (by decide) ?_
  refine xs_istore_n [some (.ref 0), some (.int (nI 0))] dX8_layHalves_1 (by decide) rfl ?_
  exact xs_loc [some (.ref 0), some (.int (nI 0))] ⟨rfl, ⟨rfl, trivial⟩⟩ (h hR)
set_option maxHeartbeats 4000000 in
set_option maxRecDepth 100000 in
theorem g_X8_cutWhereTold {b : Bool} {Q : Int32 → xm_M → Prop} {μ : xm_M} (v1 : Int32) 
    (h : (((μ.1 3 5) = 0 →
       Q v1 μ) ∧
      (¬ (μ.1 3 5) = 0 →
       (((lg_cmp (μ.2.1 3 6) (0 : Int64)) < 0 →
        Q v1 μ) ∧
       (¬ (lg_cmp (μ.2.1 3 6) (0 : Int64)) < 0 →
        ((0 ≤ (lg_cmp (μ.2.1 3 6) (v1).toInt64) →
         Q v1 μ) ∧
        (¬ 0 ≤ (lg_cmp (μ.2.1 3 6) (v1).toInt64) →
         Q ((μ.2.1 3 6)).toInt32 μ))))))) :
    xCi b b k_X8_cutWhereTold μ [.ref 0, .int v1] Q := by
  intro hR
  refine xm_met [some (.ref 0), some (.int v1)] 0 (by decide) (by simp [lg_sl, Value.category]) rfl ?_
  refine xs_aload_n dX8_cutWhereTold_0 rfl ?_
  refine xs_getR dX8_cutWhereTold_1 fl_X8_19 rfl sc_0 (rt_0_1 hR) ?_
  refine xs_getI dX8_cutWhereTold_4 fl_X8_225.g rfl sc_3 ?_
  refine xs_if_eq 44 dX8_cutWhereTold_7 (by decide) (fun c1 => ?_) (fun c1 => ?_)
  · replace h := h.1 c1
    refine xs_iload_n dX8_cutWhereTold_44 rfl ?_
    exact xs_ret (some (.int v1)) dX8_cutWhereTold_45 rfl rfl ⟨hR, _, rfl, h⟩
  · replace h := h.2 c1
    refine xs_aload_n dX8_cutWhereTold_10 rfl ?_
    refine xs_getR dX8_cutWhereTold_11 fl_X8_19 rfl sc_0 (rt_0_1 hR) ?_
    refine xs_getL dX8_cutWhereTold_14 fl_X8_228.g rfl sc_3 ?_
    refine xs_lconst (0 : Int64) dX8_cutWhereTold_17 (by decide) ?_
    refine xs_lcmp dX8_cutWhereTold_18 ?_
    refine xs_if_lt 44 dX8_cutWhereTold_19 (by decide) (fun c2 => ?_) (fun c2 => ?_)
    · replace h := h.1 c2
      refine xs_iload_n dX8_cutWhereTold_44 rfl ?_
      exact xs_ret (some (.int v1)) dX8_cutWhereTold_45 rfl rfl ⟨hR, _, rfl, h⟩
    · replace h := h.2 c2
      refine xs_aload_n dX8_cutWhereTold_22 rfl ?_
      refine xs_getR dX8_cutWhereTold_23 fl_X8_19 rfl sc_0 (rt_0_1 hR) ?_
      refine xs_getL dX8_cutWhereTold_26 fl_X8_228.g rfl sc_3 ?_
      refine xs_iload_n dX8_cutWhereTold_29 rfl ?_
      refine xs_i2l dX8_cutWhereTold_30 ?_
      refine xs_lcmp dX8_cutWhereTold_31 ?_
      refine xs_if_ge 44 dX8_cutWhereTold_32 (by decide) (fun c3 => ?_) (fun c3 => ?_)
      · replace h := h.1 c3
        refine xs_iload_n dX8_cutWhereTold_44 rfl ?_
        exact xs_ret (some (.int v1)) dX8_cutWhereTold_45 rfl rfl ⟨hR, _, rfl, h⟩
      · replace h := h.2 c3
        refine xs_aload_n dX8_cutWhereTold_35 rfl ?_
        refine xs_getR dX8_cutWhereTold_36 fl_X8_19 rfl sc_0 (rt_0_1 hR) ?_
        refine xs_getL dX8_cutWhereTold_39 fl_X8_228.g rfl sc_3 ?_
        refine xs_l2i dX8_cutWhereTold_42 ?_
        exact xs_ret (some (.int ((μ.2.1 3 6)).toInt32)) dX8_cutWhereTold_43 rfl rfl ⟨hR, _, rfl, h⟩
