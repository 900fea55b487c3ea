/-! walks of e.X4, printed by wip/gen/mkwalk.py -/
abbrev hd_X4_learn_57 (Q : Int32 → xm_M → Prop)  (v4 : Int32) (v5 : Int32) (μ : xm_M) : Prop := xs_RT true μ → xR k_X4_learn none true (fun r _ μ' => xs_RT true μ' ∧ ∃ x : Int32, r = some (.int x) ∧ Q x μ') 57 [some (.ref 9), some (.ref 7), none, none, some (.int v4), some (.int v5)] [] xs_sh (0, 0) μ
set_option maxHeartbeats 4000000 in
set_option maxRecDepth 100000 in
theorem l_X4_learn_57 {Q : Int32 → xm_M → Prop} {μ : xm_M}  (v4 : Int32) (v5 : Int32) 
    (h : (((μ.1 9 9) ≤ v5 →
       ((¬ v4 = 0 →
        ((¬ v4 = 0 →
         ((¬ v4 = 0 →
          Q v4 μ) ∧
         (v4 = 0 →
          ∃ Q5 : Int32 → xm_M → Prop, xCi true true k_X4_learnLeaning μ [.ref 9, .ref 7] Q5 ∧
          ∀ (r7 : Int32) (m6 : xm_M), Q5 r7 m6 →
          Q r7 m6))) ∧
        (v4 = 0 →
         ∃ Q9 : Int32 → xm_M → Prop, xCi true true k_X4_learnClasses μ [.ref 9, .ref 7] Q9 ∧
         ∀ (r11 : Int32) (m10 : xm_M), Q9 r11 m10 →
         ((¬ r11 = 0 →
          Q r11 m10) ∧
         (r11 = 0 →
          ∃ Q14 : Int32 → xm_M → Prop, xCi true true k_X4_learnLeaning m10 [.ref 9, .ref 7] Q14 ∧
          ∀ (r16 : Int32) (m15 : xm_M), Q14 r16 m15 →
          Q r16 m15))))) ∧
       (v4 = 0 →
        ∃ Q18 : Int32 → xm_M → Prop, xCi true true k_X4_learnPosts μ [.ref 9, .ref 7] Q18 ∧
        ∀ (r20 : Int32) (m19 : xm_M), Q18 r20 m19 →
        ((¬ r20 = 0 →
         ((¬ r20 = 0 →
          Q r20 m19) ∧
         (r20 = 0 →
          ∃ Q24 : Int32 → xm_M → Prop, xCi true true k_X4_learnLeaning m19 [.ref 9, .ref 7] Q24 ∧
          ∀ (r26 : Int32) (m25 : xm_M), Q24 r26 m25 →
          Q r26 m25))) ∧
        (r20 = 0 →
         ∃ Q28 : Int32 → xm_M → Prop, xCi true true k_X4_learnClasses m19 [.ref 9, .ref 7] Q28 ∧
         ∀ (r30 : Int32) (m29 : xm_M), Q28 r30 m29 →
         ((¬ r30 = 0 →
          Q r30 m29) ∧
         (r30 = 0 →
          ∃ Q33 : Int32 → xm_M → Prop, xCi true true k_X4_learnLeaning m29 [.ref 9, .ref 7] Q33 ∧
          ∀ (r35 : Int32) (m34 : xm_M), Q33 r35 m34 →
          Q r35 m34))))))) ∧
      (¬ (μ.1 9 9) ≤ v5 →
       ((¬ v4 = 0 →
        ((¬ v4 = 0 →
         ((¬ v4 = 0 →
          ((¬ v4 = 0 →
           Q v4 μ) ∧
          (v4 = 0 →
           ∃ Q41 : Int32 → xm_M → Prop, xCi true true k_X4_learnLeaning μ [.ref 9, .ref 7] Q41 ∧
           ∀ (r43 : Int32) (m42 : xm_M), Q41 r43 m42 →
           Q r43 m42))) ∧
         (v4 = 0 →
          ∃ Q45 : Int32 → xm_M → Prop, xCi true true k_X4_learnClasses μ [.ref 9, .ref 7] Q45 ∧
          ∀ (r47 : Int32) (m46 : xm_M), Q45 r47 m46 →
          ((¬ r47 = 0 →
           Q r47 m46) ∧
          (r47 = 0 →
           ∃ Q50 : Int32 → xm_M → Prop, xCi true true k_X4_learnLeaning m46 [.ref 9, .ref 7] Q50 ∧
           ∀ (r52 : Int32) (m51 : xm_M), Q50 r52 m51 →
           Q r52 m51))))) ∧
        (v4 = 0 →
         ∃ Q54 : Int32 → xm_M → Prop, xCi true true k_X4_learnPosts μ [.ref 9, .ref 7] Q54 ∧
         ∀ (r56 : Int32) (m55 : xm_M), Q54 r56 m55 →
         ((¬ r56 = 0 →
          ((¬ r56 = 0 →
           Q r56 m55) ∧
          (r56 = 0 →
           ∃ Q60 : Int32 → xm_M → Prop, xCi true true k_X4_learnLeaning m55 [.ref 9, .ref 7] Q60 ∧
           ∀ (r62 : Int32) (m61 : xm_M), Q60 r62 m61 →
           Q r62 m61))) ∧
         (r56 = 0 →
          ∃ Q64 : Int32 → xm_M → Prop, xCi true true k_X4_learnClasses m55 [.ref 9, .ref 7] Q64 ∧
          ∀ (r66 : Int32) (m65 : xm_M), Q64 r66 m65 →
          ((¬ r66 = 0 →
           Q r66 m65) ∧
          (r66 = 0 →
           ∃ Q69 : Int32 → xm_M → Prop, xCi true true k_X4_learnLeaning m65 [.ref 9, .ref 7] Q69 ∧
           ∀ (r71 : Int32) (m70 : xm_M), Q69 r71 m70 →
           Q r71 m70))))))) ∧
       (v4 = 0 →
        ∃ Q73 : Nat → xm_M → Prop, xCr true true k_X4_bookOf μ [.ref 9, .int v5] Q73 ∧
        ∀ (r75 : Nat) (m74 : xm_M), Q73 r75 m74 →
        xs_bk r75 ∧
        ∃ Q77 : Int32 → xm_M → Prop, xCi true true k_X1_learn m74 [.ref r75, .ref 7] Q77 ∧
        ∀ (r79 : Int32) (m78 : xm_M), Q77 r79 m78 →
        ∀ x81 : Int32, x81 = v5 + nI 1 →
        hd_X4_learn_57 Q  r79 x81 m78))))) :
    hd_X4_learn_57 Q  v4 v5 μ := by
  intro hR
  refine xs_iload dX4_learn_57 rfl ?_
  refine xs_aload_n dX4_learn_59 rfl ?_
  refine xs_getI dX4_learn_60 fl_X4_53.g rfl sc_9 ?_
  refine xs_icmp_ge 89 dX4_learn_63 (by decide) (fun c1 => ?_) (fun c1 => ?_)
  · replace h := h.1 c1
    refine xs_iload dX4_learn_89 rfl ?_
    refine xs_if_ne 101 dX4_learn_91 (by decide) (fun c2 => ?_) (fun c2 => ?_)
    · replace h := h.1 c2
      refine xs_iload dX4_learn_101 rfl ?_
      refine xs_if_ne 113 dX4_learn_103 (by decide) (fun c3 => ?_) (fun c3 => ?_)
      · replace h := h.1 c3
        refine xs_iload dX4_learn_113 rfl ?_
        refine xs_if_ne 126 dX4_learn_115 (by decide) (fun c4 => ?_) (fun c4 => ?_)
        · replace h := h.1 c4
          refine xs_iload dX4_learn_126 rfl ?_
          exact xs_ret (some (.int v4)) dX4_learn_128 rfl rfl ⟨hR, _, rfl, h⟩
        · replace h := h.2 c4
          refine xs_aload_n dX4_learn_118 rfl ?_
          refine xs_aload_n dX4_learn_119 rfl ?_
          obtain ⟨Q5, hQ5, h⟩ := h
          refine xs_callV (j := k_X4_learnLeaning) (As := [.ref 7]) (S := []) dX4_learn_120 (hQ5 hR) ⟨ml_X4_70, mk_X4_learnLeaning.1, mk_X4_learnLeaning.2.1, mk_X4_learnLeaning.2.2⟩ mv_X4_learnLeaning ⟨Nat.le_of_ble_eq_true rfl, Nat.le_of_ble_eq_true rfl⟩ rfl (Nat.le_of_ble_eq_true rfl) sc_9 rfl ⟨rfl, rfl⟩ (fun rr m6 hq8 => ?_)
          obtain ⟨hR, r7, rfl, hq8⟩ := hq8
          replace h := h r7 m6 hq8
          refine xs_goto 128 dX4_learn_123 (by decide) ?_
          exact xs_ret (some (.int r7)) dX4_learn_128 rfl rfl ⟨hR, _, rfl, h⟩
      · replace h := h.2 c3
        refine xs_aload_n dX4_learn_106 rfl ?_
        refine xs_aload_n dX4_learn_107 rfl ?_
        obtain ⟨Q9, hQ9, h⟩ := h
        refine xs_callV (j := k_X4_learnClasses) (As := [.ref 7]) (S := []) dX4_learn_108 (hQ9 hR) ⟨ml_X4_67, mk_X4_learnClasses.1, mk_X4_learnClasses.2.1, mk_X4_learnClasses.2.2⟩ mv_X4_learnClasses ⟨Nat.le_of_ble_eq_true rfl, Nat.le_of_ble_eq_true rfl⟩ rfl (Nat.le_of_ble_eq_true rfl) sc_9 rfl ⟨rfl, rfl⟩ (fun rr m10 hq12 => ?_)
        obtain ⟨hR, r11, rfl, hq12⟩ := hq12
        replace h := h r11 m10 hq12
        refine xs_istore [some (.ref 9), some (.ref 7), none, none, some (.int r11), some (.int v5)] dX4_learn_111 (by decide) rfl ?_
        refine xs_iload dX4_learn_113 rfl ?_
        refine xs_if_ne 126 dX4_learn_115 (by decide) (fun c13 => ?_) (fun c13 => ?_)
        · replace h := h.1 c13
          refine xs_iload dX4_learn_126 rfl ?_
          exact xs_ret (some (.int r11)) dX4_learn_128 rfl rfl ⟨hR, _, rfl, h⟩
        · replace h := h.2 c13
          refine xs_aload_n dX4_learn_118 rfl ?_
          refine xs_aload_n dX4_learn_119 rfl ?_
          obtain ⟨Q14, hQ14, h⟩ := h
          refine xs_callV (j := k_X4_learnLeaning) (As := [.ref 7]) (S := []) dX4_learn_120 (hQ14 hR) ⟨ml_X4_70, mk_X4_learnLeaning.1, mk_X4_learnLeaning.2.1, mk_X4_learnLeaning.2.2⟩ mv_X4_learnLeaning ⟨Nat.le_of_ble_eq_true rfl, Nat.le_of_ble_eq_true rfl⟩ rfl (Nat.le_of_ble_eq_true rfl) sc_9 rfl ⟨rfl, rfl⟩ (fun rr m15 hq17 => ?_)
          obtain ⟨hR, r16, rfl, hq17⟩ := hq17
          replace h := h r16 m15 hq17
          refine xs_goto 128 dX4_learn_123 (by decide) ?_
          exact xs_ret (some (.int r16)) dX4_learn_128 rfl rfl ⟨hR, _, rfl, h⟩
    · replace h := h.2 c2
      refine xs_aload_n dX4_learn_94 rfl ?_
      refine xs_aload_n dX4_learn_95 rfl ?_
      obtain ⟨Q18, hQ18, h⟩ := h
      refine xs_callV (j := k_X4_learnPosts) (As := [.ref 7]) (S := []) dX4_learn_96 (hQ18 hR) ⟨ml_X4_64, mk_X4_learnPosts.1, mk_X4_learnPosts.2.1, mk_X4_learnPosts.2.2⟩ mv_X4_learnPosts ⟨Nat.le_of_ble_eq_true rfl, Nat.le_of_ble_eq_true rfl⟩ rfl (Nat.le_of_ble_eq_true rfl) sc_9 rfl ⟨rfl, rfl⟩ (fun rr m19 hq21 => ?_)
      obtain ⟨hR, r20, rfl, hq21⟩ := hq21
      replace h := h r20 m19 hq21
      refine xs_istore [some (.ref 9), some (.ref 7), none, none, some (.int r20), some (.int v5)] dX4_learn_99 (by decide) rfl ?_
      refine xs_iload dX4_learn_101 rfl ?_
      refine xs_if_ne 113 dX4_learn_103 (by decide) (fun c22 => ?_) (fun c22 => ?_)
      · replace h := h.1 c22
        refine xs_iload dX4_learn_113 rfl ?_
        refine xs_if_ne 126 dX4_learn_115 (by decide) (fun c23 => ?_) (fun c23 => ?_)
        · replace h := h.1 c23
          refine xs_iload dX4_learn_126 rfl ?_
          exact xs_ret (some (.int r20)) dX4_learn_128 rfl rfl ⟨hR, _, rfl, h⟩
        · replace h := h.2 c23
          refine xs_aload_n dX4_learn_118 rfl ?_
          refine xs_aload_n dX4_learn_119 rfl ?_
          obtain ⟨Q24, hQ24, h⟩ := h
          refine xs_callV (j := k_X4_learnLeaning) (As := [.ref 7]) (S := []) dX4_learn_120 (hQ24 hR) ⟨ml_X4_70, mk_X4_learnLeaning.1, mk_X4_learnLeaning.2.1, mk_X4_learnLeaning.2.2⟩ mv_X4_learnLeaning ⟨Nat.le_of_ble_eq_true rfl, Nat.le_of_ble_eq_true rfl⟩ rfl (Nat.le_of_ble_eq_true rfl) sc_9 rfl ⟨rfl, rfl⟩ (fun rr m25 hq27 => ?_)
          obtain ⟨hR, r26, rfl, hq27⟩ := hq27
          replace h := h r26 m25 hq27
          refine xs_goto 128 dX4_learn_123 (by decide) ?_
          exact xs_ret (some (.int r26)) dX4_learn_128 rfl rfl ⟨hR, _, rfl, h⟩
      · replace h := h.2 c22
        refine xs_aload_n dX4_learn_106 rfl ?_
        refine xs_aload_n dX4_learn_107 rfl ?_
        obtain ⟨Q28, hQ28, h⟩ := h
        refine xs_callV (j := k_X4_learnClasses) (As := [.ref 7]) (S := []) dX4_learn_108 (hQ28 hR) ⟨ml_X4_67, mk_X4_learnClasses.1, mk_X4_learnClasses.2.1, mk_X4_learnClasses.2.2⟩ mv_X4_learnClasses ⟨Nat.le_of_ble_eq_true rfl, Nat.le_of_ble_eq_true rfl⟩ rfl (Nat.le_of_ble_eq_true rfl) sc_9 rfl ⟨rfl, rfl⟩ (fun rr m29 hq31 => ?_)
        obtain ⟨hR, r30, rfl, hq31⟩ := hq31
        replace h := h r30 m29 hq31
        refine xs_istore [some (.ref 9), some (.ref 7), none, none, some (.int r30), some (.int v5)] dX4_learn_111 (by decide) rfl ?_
        refine xs_iload dX4_learn_113 rfl ?_
        refine xs_if_ne 126 dX4_learn_115 (by decide) (fun c32 => ?_) (fun c32 => ?_)
        · replace h := h.1 c32
          refine xs_iload dX4_learn_126 rfl ?_
          exact xs_ret (some (.int r30)) dX4_learn_128 rfl rfl ⟨hR, _, rfl, h⟩
        · replace h := h.2 c32
          refine xs_aload_n dX4_learn_118 rfl ?_
          refine xs_aload_n dX4_learn_119 rfl ?_
          obtain ⟨Q33, hQ33, h⟩ := h
          refine xs_callV (j := k_X4_learnLeaning) (As := [.ref 7]) (S := []) dX4_learn_120 (hQ33 hR) ⟨ml_X4_70, mk_X4_learnLeaning.1, mk_X4_learnLeaning.2.1, mk_X4_learnLeaning.2.2⟩ mv_X4_learnLeaning ⟨Nat.le_of_ble_eq_true rfl, Nat.le_of_ble_eq_true rfl⟩ rfl (Nat.le_of_ble_eq_true rfl) sc_9 rfl ⟨rfl, rfl⟩ (fun rr m34 hq36 => ?_)
          obtain ⟨hR, r35, rfl, hq36⟩ := hq36
          replace h := h r35 m34 hq36
          refine xs_goto 128 dX4_learn_123 (by decide) ?_
          exact xs_ret (some (.int r35)) dX4_learn_128 rfl rfl ⟨hR, _, rfl, h⟩
  · replace h := h.2 c1
    refine xs_iload dX4_learn_66 rfl ?_
    refine xs_if_ne 89 dX4_learn_68 (by decide) (fun c37 => ?_) (fun c37 => ?_)
    · replace h := h.1 c37
      refine xs_iload dX4_learn_89 rfl ?_
      refine xs_if_ne 101 dX4_learn_91 (by decide) (fun c38 => ?_) (fun c38 => ?_)
      · replace h := h.1 c38
        refine xs_iload dX4_learn_101 rfl ?_
        refine xs_if_ne 113 dX4_learn_103 (by decide) (fun c39 => ?_) (fun c39 => ?_)
        · replace h := h.1 c39
          refine xs_iload dX4_learn_113 rfl ?_
          refine xs_if_ne 126 dX4_learn_115 (by decide) (fun c40 => ?_) (fun c40 => ?_)
          · replace h := h.1 c40
            refine xs_iload dX4_learn_126 rfl ?_
            exact xs_ret (some (.int v4)) dX4_learn_128 rfl rfl ⟨hR, _, rfl, h⟩
          · replace h := h.2 c40
            refine xs_aload_n dX4_learn_118 rfl ?_
            refine xs_aload_n dX4_learn_119 rfl ?_
            obtain ⟨Q41, hQ41, h⟩ := h
            refine xs_callV (j := k_X4_learnLeaning) (As := [.ref 7]) (S := []) dX4_learn_120 (hQ41 hR) ⟨ml_X4_70, mk_X4_learnLeaning.1, mk_X4_learnLeaning.2.1, mk_X4_learnLeaning.2.2⟩ mv_X4_learnLeaning ⟨Nat.le_of_ble_eq_true rfl, Nat.le_of_ble_eq_true rfl⟩ rfl (Nat.le_of_ble_eq_true rfl) sc_9 rfl ⟨rfl, rfl⟩ (fun rr m42 hq44 => ?_)
            obtain ⟨hR, r43, rfl, hq44⟩ := hq44
            replace h := h r43 m42 hq44
            refine xs_goto 128 dX4_learn_123 (by decide) ?_
            exact xs_ret (some (.int r43)) dX4_learn_128 rfl rfl ⟨hR, _, rfl, h⟩
        · replace h := h.2 c39
          refine xs_aload_n dX4_learn_106 rfl ?_
          refine xs_aload_n dX4_learn_107 rfl ?_
          obtain ⟨Q45, hQ45, h⟩ := h
          refine xs_callV (j := k_X4_learnClasses) (As := [.ref 7]) (S := []) dX4_learn_108 (hQ45 hR) ⟨ml_X4_67, mk_X4_learnClasses.1, mk_X4_learnClasses.2.1, mk_X4_learnClasses.2.2⟩ mv_X4_learnClasses ⟨Nat.le_of_ble_eq_true rfl, Nat.le_of_ble_eq_true rfl⟩ rfl (Nat.le_of_ble_eq_true rfl) sc_9 rfl ⟨rfl, rfl⟩ (fun rr m46 hq48 => ?_)
          obtain ⟨hR, r47, rfl, hq48⟩ := hq48
          replace h := h r47 m46 hq48
          refine xs_istore [some (.ref 9), some (.ref 7), none, none, some (.int r47), some (.int v5)] dX4_learn_111 (by decide) rfl ?_
          refine xs_iload dX4_learn_113 rfl ?_
          refine xs_if_ne 126 dX4_learn_115 (by decide) (fun c49 => ?_) (fun c49 => ?_)
          · replace h := h.1 c49
            refine xs_iload dX4_learn_126 rfl ?_
            exact xs_ret (some (.int r47)) dX4_learn_128 rfl rfl ⟨hR, _, rfl, h⟩
          · replace h := h.2 c49
            refine xs_aload_n dX4_learn_118 rfl ?_
            refine xs_aload_n dX4_learn_119 rfl ?_
            obtain ⟨Q50, hQ50, h⟩ := h
            refine xs_callV (j := k_X4_learnLeaning) (As := [.ref 7]) (S := []) dX4_learn_120 (hQ50 hR) ⟨ml_X4_70, mk_X4_learnLeaning.1, mk_X4_learnLeaning.2.1, mk_X4_learnLeaning.2.2⟩ mv_X4_learnLeaning ⟨Nat.le_of_ble_eq_true rfl, Nat.le_of_ble_eq_true rfl⟩ rfl (Nat.le_of_ble_eq_true rfl) sc_9 rfl ⟨rfl, rfl⟩ (fun rr m51 hq53 => ?_)
            obtain ⟨hR, r52, rfl, hq53⟩ := hq53
            replace h := h r52 m51 hq53
            refine xs_goto 128 dX4_learn_123 (by decide) ?_
            exact xs_ret (some (.int r52)) dX4_learn_128 rfl rfl ⟨hR, _, rfl, h⟩
      · replace h := h.2 c38
        refine xs_aload_n dX4_learn_94 rfl ?_
        refine xs_aload_n dX4_learn_95 rfl ?_
        obtain ⟨Q54, hQ54, h⟩ := h
        refine xs_callV (j := k_X4_learnPosts) (As := [.ref 7]) (S := []) dX4_learn_96 (hQ54 hR) ⟨ml_X4_64, mk_X4_learnPosts.1, mk_X4_learnPosts.2.1, mk_X4_learnPosts.2.2⟩ mv_X4_learnPosts ⟨Nat.le_of_ble_eq_true rfl, Nat.le_of_ble_eq_true rfl⟩ rfl (Nat.le_of_ble_eq_true rfl) sc_9 rfl ⟨rfl, rfl⟩ (fun rr m55 hq57 => ?_)
        obtain ⟨hR, r56, rfl, hq57⟩ := hq57
        replace h := h r56 m55 hq57
        refine xs_istore [some (.ref 9), some (.ref 7), none, none, some (.int r56), some (.int v5)] dX4_learn_99 (by decide) rfl ?_
        refine xs_iload dX4_learn_101 rfl ?_
        refine xs_if_ne 113 dX4_learn_103 (by decide) (fun c58 => ?_) (fun c58 => ?_)
        · replace h := h.1 c58
          refine xs_iload dX4_learn_113 rfl ?_
          refine xs_if_ne 126 dX4_learn_115 (by decide) (fun c59 => ?_) (fun c59 => ?_)
          · replace h := h.1 c59
            refine xs_iload dX4_learn_126 rfl ?_
            exact xs_ret (some (.int r56)) dX4_learn_128 rfl rfl ⟨hR, _, rfl, h⟩
          · replace h := h.2 c59
            refine xs_aload_n dX4_learn_118 rfl ?_
            refine xs_aload_n dX4_learn_119 rfl ?_
            obtain ⟨Q60, hQ60, h⟩ := h
            refine xs_callV (j := k_X4_learnLeaning) (As := [.ref 7]) (S := []) dX4_learn_120 (hQ60 hR) ⟨ml_X4_70, mk_X4_learnLeaning.1, mk_X4_learnLeaning.2.1, mk_X4_learnLeaning.2.2⟩ mv_X4_learnLeaning ⟨Nat.le_of_ble_eq_true rfl, Nat.le_of_ble_eq_true rfl⟩ rfl (Nat.le_of_ble_eq_true rfl) sc_9 rfl ⟨rfl, rfl⟩ (fun rr m61 hq63 => ?_)
            obtain ⟨hR, r62, rfl, hq63⟩ := hq63
            replace h := h r62 m61 hq63
            refine xs_goto 128 dX4_learn_123 (by decide) ?_
            exact xs_ret (some (.int r62)) dX4_learn_128 rfl rfl ⟨hR, _, rfl, h⟩
        · replace h := h.2 c58
          refine xs_aload_n dX4_learn_106 rfl ?_
          refine xs_aload_n dX4_learn_107 rfl ?_
          obtain ⟨Q64, hQ64, h⟩ := h
          refine xs_callV (j := k_X4_learnClasses) (As := [.ref 7]) (S := []) dX4_learn_108 (hQ64 hR) ⟨ml_X4_67, mk_X4_learnClasses.1, mk_X4_learnClasses.2.1, mk_X4_learnClasses.2.2⟩ mv_X4_learnClasses ⟨Nat.le_of_ble_eq_true rfl, Nat.le_of_ble_eq_true rfl⟩ rfl (Nat.le_of_ble_eq_true rfl) sc_9 rfl ⟨rfl, rfl⟩ (fun rr m65 hq67 => ?_)
          obtain ⟨hR, r66, rfl, hq67⟩ := hq67
          replace h := h r66 m65 hq67
          refine xs_istore [some (.ref 9), some (.ref 7), none, none, some (.int r66), some (.int v5)] dX4_learn_111 (by decide) rfl ?_
          refine xs_iload dX4_learn_113 rfl ?_
          refine xs_if_ne 126 dX4_learn_115 (by decide) (fun c68 => ?_) (fun c68 => ?_)
          · replace h := h.1 c68
            refine xs_iload dX4_learn_126 rfl ?_
            exact xs_ret (some (.int r66)) dX4_learn_128 rfl rfl ⟨hR, _, rfl, h⟩
          · replace h := h.2 c68
            refine xs_aload_n dX4_learn_118 rfl ?_
            refine xs_aload_n dX4_learn_119 rfl ?_
            obtain ⟨Q69, hQ69, h⟩ := h
            refine xs_callV (j := k_X4_learnLeaning) (As := [.ref 7]) (S := []) dX4_learn_120 (hQ69 hR) ⟨ml_X4_70, mk_X4_learnLeaning.1, mk_X4_learnLeaning.2.1, mk_X4_learnLeaning.2.2⟩ mv_X4_learnLeaning ⟨Nat.le_of_ble_eq_true rfl, Nat.le_of_ble_eq_true rfl⟩ rfl (Nat.le_of_ble_eq_true rfl) sc_9 rfl ⟨rfl, rfl⟩ (fun rr m70 hq72 => ?_)
            obtain ⟨hR, r71, rfl, hq72⟩ := hq72
            replace h := h r71 m70 hq72
            refine xs_goto 128 dX4_learn_123 (by decide) ?_
            exact xs_ret (some (.int r71)) dX4_learn_128 rfl rfl ⟨hR, _, rfl, h⟩
    · replace h := h.2 c37
      refine xs_aload_n dX4_learn_71 rfl ?_
      refine xs_iload dX4_learn_72 rfl ?_
      obtain ⟨Q73, hQ73, h⟩ := h
      refine xs_callV (j := k_X4_bookOf) (As := [.int v5]) (S := []) dX4_learn_74 (hQ73 hR) ⟨ml_X4_56, mk_X4_bookOf.1, mk_X4_bookOf.2.1, mk_X4_bookOf.2.2⟩ mv_X4_bookOf ⟨Nat.le_of_ble_eq_true rfl, Nat.le_of_ble_eq_true rfl⟩ rfl (Nat.le_of_ble_eq_true rfl) sc_9 rfl ⟨rfl, rfl⟩ (fun rr m74 hq76 => ?_)
      obtain ⟨hR, r75, rfl, hq76⟩ := hq76
      replace h := h r75 m74 hq76
      obtain ⟨hr75, h⟩ := h
      refine xs_aload_n dX4_learn_77 rfl ?_
      obtain ⟨Q77, hQ77, h⟩ := h
      refine xs_callV (j := k_X1_learn) (As := [.ref 7]) (S := []) dX4_learn_78 (hQ77 hR) ⟨ml_X4_60, mk_X1_learn.1, mk_X1_learn.2.1, mk_X1_learn.2.2⟩ mv_X1_learn ⟨Nat.le_of_ble_eq_true rfl, Nat.le_of_ble_eq_true rfl⟩ rfl (Nat.le_of_ble_eq_true rfl) (sb_0 hr75) rfl ⟨rfl, rfl⟩ (fun rr m78 hq80 => ?_)
      obtain ⟨hR, r79, rfl, hq80⟩ := hq80
      replace h := h r79 m78 hq80
      refine xs_istore [some (.ref 9), some (.ref 7), none, none, some (.int r79), some (.int v5)] dX4_learn_81 (by decide) rfl ?_
      obtain ⟨x81, e_x81⟩ : ∃ z : Int32, z = v5 + nI 1 := ⟨_, rfl⟩
      replace h := h x81 e_x81
      refine xs_iinc x81 [some (.ref 9), some (.ref 7), none, none, some (.int r79), some (.int x81)] dX4_learn_83 (by decide) rfl (by rw [e_x81]; rfl) rfl ?_
      refine xs_goto 57 dX4_learn_86 (by decide) ?_
      exact xs_loc [some (.ref 9), some (.ref 7), none, none, some (.int r79), some (.int x81)] ⟨rfl, ⟨rfl, ⟨rfl, ⟨rfl, trivial⟩⟩⟩⟩ (h hR)
set_option maxHeartbeats 4000000 in
set_option maxRecDepth 100000 in
theorem g_X4_learn {Q : Int32 → xm_M → Prop} {μ : xm_M}  
    (h : ∃ Q1 : Int32 → xm_M → Prop, xCi true true k_X0_number μ [.ref 7, .int (nI 8)] Q1 ∧
      ∀ (r3 : Int32) (m2 : xm_M), Q1 r3 m2 →
      ((0 ≤ r3 →
       ((r3 = (nI 86) →
        ∃ Q7 : Int32 → xm_M → Prop, xCi true true k_X0_number m2 [.ref 7, .int (nI 1)] Q7 ∧
        ∀ (r9 : Int32) (m8 : xm_M), Q7 r9 m8 →
        ∀ m11 : xm_M, m11 = xu_I m8 9 (upd (m8.1 9) 0 (r9 + (nI 1))) →
        ∃ Q12 : Int32 → xm_M → Prop, xCi true true k_X0_number m11 [.ref 7, .int (nI 3)] Q12 ∧
        ∀ (r14 : Int32) (m13 : xm_M), Q12 r14 m13 →
        ((0 ≤ r14 →
         ∀ m17 : xm_M, m17 = xu_I m13 9 (upd (m13.1 9) 9 (r14 + (nI 1))) →
         hd_X4_learn_57 Q  (nI 0) (nI 0) m17) ∧
        (¬ 0 ≤ r14 →
         Q (nI 2) m13))) ∧
       (¬ r3 = (nI 86) →
        Q (nI 3) m2))) ∧
      (¬ 0 ≤ r3 →
       Q (nI 2) m2))) :
    xCi true true k_X4_learn μ [.ref 9, .ref 7] Q := by
  intro hR
  refine xm_met [some (.ref 9), some (.ref 7), none, none, none, none] 4 (by decide) (by simp [lg_sl, Value.category]) rfl ?_
  refine xs_aload_n dX4_learn_0 rfl ?_
  refine xs_bipush (nI 8) dX4_learn_1 (by decide) ?_
  obtain ⟨Q1, hQ1, h⟩ := h
  refine xs_callV (j := k_X0_number) (As := [.int (nI 8)]) (S := []) dX4_learn_3 (hQ1 hR) ⟨ml_X4_47, mk_X0_number.1, mk_X0_number.2.1, mk_X0_number.2.2⟩ mv_X0_number ⟨Nat.le_of_ble_eq_true rfl, Nat.le_of_ble_eq_true rfl⟩ rfl (Nat.le_of_ble_eq_true rfl) sc_7 rfl ⟨rfl, rfl⟩ (fun rr m2 hq4 => ?_)
  obtain ⟨hR, r3, rfl, hq4⟩ := hq4
  replace h := h r3 m2 hq4
  refine xs_istore_n [some (.ref 9), some (.ref 7), some (.int r3), none, none, none] dX4_learn_6 (by decide) rfl ?_
  refine xs_iload_n dX4_learn_7 rfl ?_
  refine xs_if_ge 13 dX4_learn_8 (by decide) (fun c5 => ?_) (fun c5 => ?_)
  · replace h := h.1 c5
    refine xs_iload_n dX4_learn_13 rfl ?_
    refine xs_bipush (nI 86) dX4_learn_14 (by decide) ?_
    refine xs_icmp_eq 21 dX4_learn_16 (by decide) (fun c6 => ?_) (fun c6 => ?_)
    · replace h := h.1 c6
      refine xs_aload_n dX4_learn_21 rfl ?_
      refine xs_aload_n dX4_learn_22 rfl ?_
      refine xs_iconst (nI 1) dX4_learn_23 (by decide) ?_
      obtain ⟨Q7, hQ7, h⟩ := h
      refine xs_callV (j := k_X0_number) (As := [.int (nI 1)]) (S := [.ref 9]) dX4_learn_24 (hQ7 hR) ⟨ml_X4_47, mk_X0_number.1, mk_X0_number.2.1, mk_X0_number.2.2⟩ mv_X0_number ⟨Nat.le_of_ble_eq_true rfl, Nat.le_of_ble_eq_true rfl⟩ rfl (Nat.le_of_ble_eq_true rfl) sc_7 rfl ⟨rfl, rfl⟩ (fun rr m8 hq10 => ?_)
      obtain ⟨hR, r9, rfl, hq10⟩ := hq10
      replace h := h r9 m8 hq10
      refine xs_iconst (nI 1) dX4_learn_27 (by decide) ?_
      refine xs_iadd dX4_learn_28 ?_
      refine xs_putI dX4_learn_29 fl_X4_34 rfl rfl rfl sc_9 ?_
      refine xs_nmM (fun m11 e_m11 => ?_)
      replace h := h m11 e_m11
      have hR : xs_RT true m11 := by rw [e_m11]; exact hR
      refine xs_aload_n dX4_learn_32 rfl ?_
      refine xs_iconst (nI 3) dX4_learn_33 (by decide) ?_
      obtain ⟨Q12, hQ12, h⟩ := h
      refine xs_callV (j := k_X0_number) (As := [.int (nI 3)]) (S := []) dX4_learn_34 (hQ12 hR) ⟨ml_X4_47, mk_X0_number.1, mk_X0_number.2.1, mk_X0_number.2.2⟩ mv_X0_number ⟨Nat.le_of_ble_eq_true rfl, Nat.le_of_ble_eq_true rfl⟩ rfl (Nat.le_of_ble_eq_true rfl) sc_7 rfl ⟨rfl, rfl⟩ (fun rr m13 hq15 => ?_)
      obtain ⟨hR, r14, rfl, hq15⟩ := hq15
      replace h := h r14 m13 hq15
      refine xs_istore_n [some (.ref 9), some (.ref 7), some (.int r3), some (.int r14), none, none] dX4_learn_37 (by decide) rfl ?_
      refine xs_iload_n dX4_learn_38 rfl ?_
      refine xs_if_ge 44 dX4_learn_39 (by decide) (fun c16 => ?_) (fun c16 => ?_)
      · replace h := h.1 c16
        refine xs_aload_n dX4_learn_44 rfl ?_
        refine xs_iload_n dX4_learn_45 rfl ?_
        refine xs_iconst (nI 1) dX4_learn_46 (by decide) ?_
        refine xs_iadd dX4_learn_47 ?_
        refine xs_putI dX4_learn_48 fl_X4_53 rfl rfl rfl sc_9 ?_
        refine xs_nmM (fun m17 e_m17 => ?_)
        replace h := h m17 e_m17
        have hR : xs_RT true m17 := by rw [e_m17]; exact hR
        refine xs_iconst (nI 0) dX4_learn_51 (by decide) ?_
        refine xs_istore [some (.ref 9), some (.ref 7), some (.int r3), some (.int r14), some (.int (nI 0)), none] dX4_learn_52 (by decide) rfl ?_
        refine xs_iconst (nI 0) dX4_learn_54 (by decide) ?_
        refine xs_istore [some (.ref 9), some (.ref 7), some (.int r3), some (.int r14), some (.int (nI 0)), some (.int (nI 0))] dX4_learn_55 (by decide) rfl ?_
        exact xs_loc [some (.ref 9), some (.ref 7), none, none, some (.int (nI 0)), some (.int (nI 0))] ⟨rfl, ⟨rfl, ⟨rfl, ⟨rfl, trivial⟩⟩⟩⟩ (h hR)
      · replace h := h.2 c16
        refine xs_iconst (nI 2) dX4_learn_42 (by decide) ?_
        exact xs_ret (some (.int (nI 2))) dX4_learn_43 rfl rfl ⟨hR, _, rfl, h⟩
    · replace h := h.2 c6
      refine xs_iconst (nI 3) dX4_learn_19 (by decide) ?_
      exact xs_ret (some (.int (nI 3))) dX4_learn_20 rfl rfl ⟨hR, _, rfl, h⟩
  · replace h := h.2 c5
    refine xs_iconst (nI 2) dX4_learn_11 (by decide) ?_
    exact xs_ret (some (.int (nI 2))) dX4_learn_12 rfl rfl ⟨hR, _, rfl, h⟩
set_option maxHeartbeats 4000000 in
set_option maxRecDepth 100000 in
theorem g_X4_bookOf {b : Bool} {Q : Nat → xm_M → Prop} {μ : xm_M} (v1 : Int32) 
    (h : vp_in (v1 &&& (nI 7)) 8 ∧
      ∀ B2 : Nat, xs_bk B2 → B2 = 16 + 5 * ((v1 &&& (nI 7))).toNatClampNeg →
      Q B2 μ) :
    xCr b b k_X4_bookOf μ [.ref 9, .int v1] Q := by
  intro hR
  refine xm_met [some (.ref 9), some (.int v1)] 0 (by decide) (by simp [lg_sl, Value.category]) rfl ?_
  refine xs_aload_n dX4_bookOf_0 rfl ?_
  refine xs_getR dX4_bookOf_1 fl_X4_29 rfl sc_9 (rt_9_8 hR) ?_
  refine xs_iload_n dX4_bookOf_4 rfl ?_
  refine xs_bipush (nI 7) dX4_bookOf_5 (by decide) ?_
  refine xs_iand dX4_bookOf_7 ?_
  obtain ⟨s1, h⟩ := h
  obtain ⟨B2, hB2, eB2, rB2⟩ := xs_pickbk hR s1
  replace h := h B2 hB2 eB2
  refine xs_aldB dX4_bookOf_8 sc_15 s1 rB2 ?_
  exact xs_ret (some (.ref B2)) dX4_bookOf_9 trivial rfl ⟨hR, _, rfl, h⟩
abbrev hd_X4_learnPosts_55 (Q : Int32 → xm_M → Prop)  (v2 : Int32) (v3 : Int32) (μ : xm_M) : Prop := xs_RT true μ → xR k_X4_learnPosts none true (fun r _ μ' => xs_RT true μ' ∧ ∃ x : Int32, r = some (.int x) ∧ Q x μ') 55 [some (.ref 9), some (.ref 7), some (.int v2), some (.int v3), none] [] xs_sh (0, 0) μ
abbrev hd_X4_learnPosts_90 (Q : Int32 → xm_M → Prop)  (v2 : Int32) (v3 : Int32) (μ : xm_M) : Prop := xs_RT true μ → xR k_X4_learnPosts none true (fun r _ μ' => xs_RT true μ' ∧ ∃ x : Int32, r = some (.int x) ∧ Q x μ') 90 [some (.ref 9), some (.ref 7), some (.int v2), some (.int v3), none] [] xs_sh (0, 0) μ
set_option maxHeartbeats 4000000 in
set_option maxRecDepth 100000 in
theorem l_X4_learnPosts_55 {Q : Int32 → xm_M → Prop} {μ : xm_M}  (v2 : Int32) (v3 : Int32) 
    (h : (((nI 17) ≤ v3 →
       ∃ Q2 : xm_M → Prop, xCv true true k_X4_addPoint μ [.ref 9, .int (nI 0)] Q2 ∧
       ∀ m3 : xm_M, Q2 m3 →
       ∃ Q6 : xm_M → Prop, xCv true true k_X4_addPoint m3 [.ref 9, .int (nI 16)] Q6 ∧
       ∀ m7 : xm_M, Q6 m7 →
       hd_X4_learnPosts_90 Q  v2 (nI 0) m7) ∧
      (¬ (nI 17) ≤ v3 →
       vp_in v3 17 ∧
       ∀ m11 : xm_M, m11 = xu_I μ 13 (upd (μ.1 13) (v3).toNatClampNeg (-1 : Int32)) →
       ∀ x12 : Int32, x12 = v3 + nI 1 →
       hd_X4_learnPosts_55 Q  v2 x12 m11))) :
    hd_X4_learnPosts_55 Q  v2 v3 μ := by
  intro hR
  refine xs_iload_n dX4_learnPosts_55 rfl ?_
  refine xs_aload_n dX4_learnPosts_56 rfl ?_
  refine xs_getR dX4_learnPosts_57 fl_X4_21 rfl sc_9 (rt_9_7 hR) ?_
  refine xs_alen 0 dX4_learnPosts_60 sc_13 (fun _ => rfl) ?_
  refine xs_icmp_ge 77 dX4_learnPosts_61 (by decide) (fun c1 => ?_) (fun c1 => ?_)
  · replace h := h.1 c1
    refine xs_aload_n dX4_learnPosts_77 rfl ?_
    refine xs_iconst (nI 0) dX4_learnPosts_78 (by decide) ?_
    obtain ⟨Q2, hQ2, h⟩ := h
    refine xs_callV (j := k_X4_addPoint) (As := [.int (nI 0)]) (S := []) dX4_learnPosts_79 (hQ2 hR) ⟨ml_X4_79, mk_X4_addPoint.1, mk_X4_addPoint.2.1, mk_X4_addPoint.2.2⟩ mv_X4_addPoint ⟨Nat.le_of_ble_eq_true rfl, Nat.le_of_ble_eq_true rfl⟩ rfl (Nat.le_of_ble_eq_true rfl) sc_9 rfl ⟨rfl, rfl⟩ (fun rr m3 hq5 => ?_)
    obtain ⟨hR, rfl, hq5⟩ := hq5
    replace h := h m3 hq5
    refine xs_aload_n dX4_learnPosts_82 rfl ?_
    refine xs_bipush (nI 16) dX4_learnPosts_83 (by decide) ?_
    obtain ⟨Q6, hQ6, h⟩ := h
    refine xs_callV (j := k_X4_addPoint) (As := [.int (nI 16)]) (S := []) dX4_learnPosts_85 (hQ6 hR) ⟨ml_X4_79, mk_X4_addPoint.1, mk_X4_addPoint.2.1, mk_X4_addPoint.2.2⟩ mv_X4_addPoint ⟨Nat.le_of_ble_eq_true rfl, Nat.le_of_ble_eq_true rfl⟩ rfl (Nat.le_of_ble_eq_true rfl) sc_9 rfl ⟨rfl, rfl⟩ (fun rr m7 hq9 => ?_)
    obtain ⟨hR, rfl, hq9⟩ := hq9
    replace h := h m7 hq9
    refine xs_iconst (nI 0) dX4_learnPosts_88 (by decide) ?_
    refine xs_istore_n [some (.ref 9), some (.ref 7), some (.int v2), some (.int (nI 0)), none] dX4_learnPosts_89 (by decide) rfl ?_
    exact xs_loc [some (.ref 9), some (.ref 7), some (.int v2), some (.int (nI 0)), none] ⟨rfl, ⟨rfl, ⟨rfl, ⟨rfl, trivial⟩⟩⟩⟩ (h hR)
  · replace h := h.2 c1
    refine xs_aload_n dX4_learnPosts_64 rfl ?_
    refine xs_getR dX4_learnPosts_65 fl_X4_21 rfl sc_9 (rt_9_7 hR) ?_
    refine xs_iload_n dX4_learnPosts_68 rfl ?_
    refine xs_iconst (-1 : Int32) dX4_learnPosts_69 (by decide) ?_
    obtain ⟨s10, h⟩ := h
    refine xs_iast dX4_learnPosts_70 sc_13 s10 ?_
    refine xs_nmM (fun m11 e_m11 => ?_)
    replace h := h m11 e_m11
    have hR : xs_RT true m11 := by rw [e_m11]; exact hR
    obtain ⟨x12, e_x12⟩ : ∃ z : Int32, z = v3 + nI 1 := ⟨_, rfl⟩
    replace h := h x12 e_x12
    refine xs_iinc x12 [some (.ref 9), some (.ref 7), some (.int v2), some (.int x12), none] dX4_learnPosts_71 (by decide) rfl (by rw [e_x12]; rfl) rfl ?_
    refine xs_goto 55 dX4_learnPosts_74 (by decide) ?_
    exact xs_loc [some (.ref 9), some (.ref 7), some (.int v2), some (.int x12), none] ⟨rfl, ⟨rfl, ⟨rfl, ⟨rfl, trivial⟩⟩⟩⟩ (h hR)
set_option maxHeartbeats 4000000 in
set_option maxRecDepth 100000 in
theorem l_X4_learnPosts_90 {Q : Int32 → xm_M → Prop} {μ : xm_M}  (v2 : Int32) (v3 : Int32) 
    (h : ((v2 ≤ v3 →
       Q (nI 0) μ) ∧
      (¬ v2 ≤ v3 →
       ∃ Q2 : Int32 → xm_M → Prop, xCi true true k_X0_number μ [.ref 7, .int (nI 5)] Q2 ∧
       ∀ (r4 : Int32) (m3 : xm_M), Q2 r4 m3 →
       ((0 ≤ r4 →
        ((r4 = 0 →
         Q (nI 6) m3) ∧
        (¬ r4 = 0 →
         (((nI 16) ≤ r4 →
          Q (nI 6) m3) ∧
         (¬ (nI 16) ≤ r4 →
          vp_in r4 17 ∧
          (((m3.1 13 (r4).toNatClampNeg) = (-1 : Int32) →
           ∃ Q11 : xm_M → Prop, xCv true true k_X4_addPoint m3 [.ref 9, .int r4] Q11 ∧
           ∀ m12 : xm_M, Q11 m12 →
           ∀ x15 : Int32, x15 = v3 + nI 1 →
           hd_X4_learnPosts_90 Q  v2 x15 m12) ∧
          (¬ (m3.1 13 (r4).toNatClampNeg) = (-1 : Int32) →
           Q (nI 6) m3))))))) ∧
       (¬ 0 ≤ r4 →
        Q (nI 2) m3))))) :
    hd_X4_learnPosts_90 Q  v2 v3 μ := by
  intro hR
  refine xs_iload_n dX4_learnPosts_90 rfl ?_
  refine xs_iload_n dX4_learnPosts_91 rfl ?_
  refine xs_icmp_ge 147 dX4_learnPosts_92 (by decide) (fun c1 => ?_) (fun c1 => ?_)
  · replace h := h.1 c1
    refine xs_iconst (nI 0) dX4_learnPosts_147 (by decide) ?_
    exact xs_ret (some (.int (nI 0))) dX4_learnPosts_148 rfl rfl ⟨hR, _, rfl, h⟩
  · replace h := h.2 c1
    refine xs_aload_n dX4_learnPosts_95 rfl ?_
    refine xs_iconst (nI 5) dX4_learnPosts_96 (by decide) ?_
    obtain ⟨Q2, hQ2, h⟩ := h
    refine xs_callV (j := k_X0_number) (As := [.int (nI 5)]) (S := []) dX4_learnPosts_97 (hQ2 hR) ⟨ml_X4_47, mk_X0_number.1, mk_X0_number.2.1, mk_X0_number.2.2⟩ mv_X0_number ⟨Nat.le_of_ble_eq_true rfl, Nat.le_of_ble_eq_true rfl⟩ rfl (Nat.le_of_ble_eq_true rfl) sc_7 rfl ⟨rfl, rfl⟩ (fun rr m3 hq5 => ?_)
    obtain ⟨hR, r4, rfl, hq5⟩ := hq5
    replace h := h r4 m3 hq5
    refine xs_istore [some (.ref 9), some (.ref 7), some (.int v2), some (.int v3), some (.int r4)] dX4_learnPosts_100 (by decide) rfl ?_
    refine xs_iload dX4_learnPosts_102 rfl ?_
    refine xs_if_ge 109 dX4_learnPosts_104 (by decide) (fun c6 => ?_) (fun c6 => ?_)
    · replace h := h.1 c6
      refine xs_iload dX4_learnPosts_109 rfl ?_
      refine xs_if_eq 132 dX4_learnPosts_111 (by decide) (fun c7 => ?_) (fun c7 => ?_)
      · replace h := h.1 c7
        refine xs_bipush (nI 6) dX4_learnPosts_132 (by decide) ?_
        exact xs_ret (some (.int (nI 6))) dX4_learnPosts_134 rfl rfl ⟨hR, _, rfl, h⟩
      · replace h := h.2 c7
        refine xs_iload dX4_learnPosts_114 rfl ?_
        refine xs_bipush (nI 16) dX4_learnPosts_116 (by decide) ?_
        refine xs_icmp_ge 132 dX4_learnPosts_118 (by decide) (fun c8 => ?_) (fun c8 => ?_)
        · replace h := h.1 c8
          refine xs_bipush (nI 6) dX4_learnPosts_132 (by decide) ?_
          exact xs_ret (some (.int (nI 6))) dX4_learnPosts_134 rfl rfl ⟨hR, _, rfl, h⟩
        · replace h := h.2 c8
          refine xs_aload_n dX4_learnPosts_121 rfl ?_
          refine xs_getR dX4_learnPosts_122 fl_X4_21 rfl sc_9 (rt_9_7 hR) ?_
          refine xs_iload dX4_learnPosts_125 rfl ?_
          obtain ⟨s9, h⟩ := h
          refine xs_iald dX4_learnPosts_127 sc_13 s9 ?_
          refine xs_iconst (-1 : Int32) dX4_learnPosts_128 (by decide) ?_
          refine xs_icmp_eq 135 dX4_learnPosts_129 (by decide) (fun c10 => ?_) (fun c10 => ?_)
          · replace h := h.1 c10
            refine xs_aload_n dX4_learnPosts_135 rfl ?_
            refine xs_iload dX4_learnPosts_136 rfl ?_
            obtain ⟨Q11, hQ11, h⟩ := h
            refine xs_callV (j := k_X4_addPoint) (As := [.int r4]) (S := []) dX4_learnPosts_138 (hQ11 hR) ⟨ml_X4_79, mk_X4_addPoint.1, mk_X4_addPoint.2.1, mk_X4_addPoint.2.2⟩ mv_X4_addPoint ⟨Nat.le_of_ble_eq_true rfl, Nat.le_of_ble_eq_true rfl⟩ rfl (Nat.le_of_ble_eq_true rfl) sc_9 rfl ⟨rfl, rfl⟩ (fun rr m12 hq14 => ?_)
            obtain ⟨hR, rfl, hq14⟩ := hq14
            replace h := h m12 hq14
            obtain ⟨x15, e_x15⟩ : ∃ z : Int32, z = v3 + nI 1 := ⟨_, rfl⟩
            replace h := h x15 e_x15
            refine xs_iinc x15 [some (.ref 9), some (.ref 7), some (.int v2), some (.int x15), some (.int r4)] dX4_learnPosts_141 (by decide) rfl (by rw [e_x15]; rfl) rfl ?_
            refine xs_goto 90 dX4_learnPosts_144 (by decide) ?_
            exact xs_loc [some (.ref 9), some (.ref 7), some (.int v2), some (.int x15), none] ⟨rfl, ⟨rfl, ⟨rfl, ⟨rfl, trivial⟩⟩⟩⟩ (h hR)
          · replace h := h.2 c10
            refine xs_bipush (nI 6) dX4_learnPosts_132 (by decide) ?_
            exact xs_ret (some (.int (nI 6))) dX4_learnPosts_134 rfl rfl ⟨hR, _, rfl, h⟩
    · replace h := h.2 c6
      refine xs_iconst (nI 2) dX4_learnPosts_107 (by decide) ?_
      exact xs_ret (some (.int (nI 2))) dX4_learnPosts_108 rfl rfl ⟨hR, _, rfl, h⟩
set_option maxHeartbeats 4000000 in
set_option maxRecDepth 100000 in
theorem g_X4_learnPosts {Q : Int32 → xm_M → Prop} {μ : xm_M}  
    (h : ∃ Q1 : Int32 → xm_M → Prop, xCi true true k_X0_number μ [.ref 7, .int (nI 2)] Q1 ∧
      ∀ (r3 : Int32) (m2 : xm_M), Q1 r3 m2 →
      ∀ m5 : xm_M, m5 = xu_I m2 9 (upd (m2.1 9) 1 (r3 + (nI 1))) →
      ∃ Q6 : Int32 → xm_M → Prop, xCi true true k_X0_number m5 [.ref 7, .int (nI 4)] Q6 ∧
      ∀ (r8 : Int32) (m7 : xm_M), Q6 r8 m7 →
      ∃ Q10 : Int32 → xm_M → Prop, xCi true true k_X0_number m7 [.ref 7, .int (nI 3)] Q10 ∧
      ∀ (r12 : Int32) (m11 : xm_M), Q10 r12 m11 →
      ∀ m14 : xm_M, m14 = xu_I m11 9 (upd (m11.1 9) 10 r12) →
      ((0 ≤ (m14.1 9 10) →
       (((m14.1 9 10) < (m14.1 9 9) →
        ∀ m17 : xm_M, m17 = xu_I m14 9 (upd (m14.1 9) 3 (nI 0)) →
        hd_X4_learnPosts_55 Q  r8 (nI 0) m17) ∧
       (¬ (m14.1 9 10) < (m14.1 9 9) →
        Q (nI 5) m14))) ∧
      (¬ 0 ≤ (m14.1 9 10) →
       Q (nI 2) m14))) :
    xCi true true k_X4_learnPosts μ [.ref 9, .ref 7] Q := by
  intro hR
  refine xm_met [some (.ref 9), some (.ref 7), none, none, none] 3 (by decide) (by simp [lg_sl, Value.category]) rfl ?_
  refine xs_aload_n dX4_learnPosts_0 rfl ?_
  refine xs_aload_n dX4_learnPosts_1 rfl ?_
  refine xs_iconst (nI 2) dX4_learnPosts_2 (by decide) ?_
  obtain ⟨Q1, hQ1, h⟩ := h
  refine xs_callV (j := k_X0_number) (As := [.int (nI 2)]) (S := [.ref 9]) dX4_learnPosts_3 (hQ1 hR) ⟨ml_X4_47, mk_X0_number.1, mk_X0_number.2.1, mk_X0_number.2.2⟩ mv_X0_number ⟨Nat.le_of_ble_eq_true rfl, Nat.le_of_ble_eq_true rfl⟩ rfl (Nat.le_of_ble_eq_true rfl) sc_7 rfl ⟨rfl, rfl⟩ (fun rr m2 hq4 => ?_)
  obtain ⟨hR, r3, rfl, hq4⟩ := hq4
  replace h := h r3 m2 hq4
  refine xs_iconst (nI 1) dX4_learnPosts_6 (by decide) ?_
  refine xs_iadd dX4_learnPosts_7 ?_
  refine xs_putI dX4_learnPosts_8 fl_X4_38 rfl rfl rfl sc_9 ?_
  refine xs_nmM (fun m5 e_m5 => ?_)
  replace h := h m5 e_m5
  have hR : xs_RT true m5 := by rw [e_m5]; exact hR
  refine xs_aload_n dX4_learnPosts_11 rfl ?_
  refine xs_iconst (nI 4) dX4_learnPosts_12 (by decide) ?_
  obtain ⟨Q6, hQ6, h⟩ := h
  refine xs_callV (j := k_X0_number) (As := [.int (nI 4)]) (S := []) dX4_learnPosts_13 (hQ6 hR) ⟨ml_X4_47, mk_X0_number.1, mk_X0_number.2.1, mk_X0_number.2.2⟩ mv_X0_number ⟨Nat.le_of_ble_eq_true rfl, Nat.le_of_ble_eq_true rfl⟩ rfl (Nat.le_of_ble_eq_true rfl) sc_7 rfl ⟨rfl, rfl⟩ (fun rr m7 hq9 => ?_)
  obtain ⟨hR, r8, rfl, hq9⟩ := hq9
  replace h := h r8 m7 hq9
  refine xs_istore_n [some (.ref 9), some (.ref 7), some (.int r8), none, none] dX4_learnPosts_16 (by decide) rfl ?_
  refine xs_aload_n dX4_learnPosts_17 rfl ?_
  refine xs_aload_n dX4_learnPosts_18 rfl ?_
  refine xs_iconst (nI 3) dX4_learnPosts_19 (by decide) ?_
  obtain ⟨Q10, hQ10, h⟩ := h
  refine xs_callV (j := k_X0_number) (As := [.int (nI 3)]) (S := [.ref 9]) dX4_learnPosts_20 (hQ10 hR) ⟨ml_X4_47, mk_X0_number.1, mk_X0_number.2.1, mk_X0_number.2.2⟩ mv_X0_number ⟨Nat.le_of_ble_eq_true rfl, Nat.le_of_ble_eq_true rfl⟩ rfl (Nat.le_of_ble_eq_true rfl) sc_7 rfl ⟨rfl, rfl⟩ (fun rr m11 hq13 => ?_)
  obtain ⟨hR, r12, rfl, hq13⟩ := hq13
  replace h := h r12 m11 hq13
  refine xs_putI dX4_learnPosts_23 fl_X4_73 rfl rfl rfl sc_9 ?_
  refine xs_nmM (fun m14 e_m14 => ?_)
  replace h := h m14 e_m14
  have hR : xs_RT true m14 := by rw [e_m14]; exact hR
  refine xs_aload_n dX4_learnPosts_26 rfl ?_
  refine xs_getI dX4_learnPosts_27 fl_X4_73.g rfl sc_9 ?_
  refine xs_if_ge 35 dX4_learnPosts_30 (by decide) (fun c15 => ?_) (fun c15 => ?_)
  · replace h := h.1 c15
    refine xs_aload_n dX4_learnPosts_35 rfl ?_
    refine xs_getI dX4_learnPosts_36 fl_X4_73.g rfl sc_9 ?_
    refine xs_aload_n dX4_learnPosts_39 rfl ?_
    refine xs_getI dX4_learnPosts_40 fl_X4_53.g rfl sc_9 ?_
    refine xs_icmp_lt 48 dX4_learnPosts_43 (by decide) (fun c16 => ?_) (fun c16 => ?_)
    · replace h := h.1 c16
      refine xs_aload_n dX4_learnPosts_48 rfl ?_
      refine xs_iconst (nI 0) dX4_learnPosts_49 (by decide) ?_
      refine xs_putI dX4_learnPosts_50 fl_X4_76 rfl rfl rfl sc_9 ?_
      refine xs_nmM (fun m17 e_m17 => ?_)
      replace h := h m17 e_m17
      have hR : xs_RT true m17 := by rw [e_m17]; exact hR
      refine xs_iconst (nI 0) dX4_learnPosts_53 (by decide) ?_
      refine xs_istore_n [some (.ref 9), some (.ref 7), some (.int r8), some (.int (nI 0)), none] dX4_learnPosts_54 (by decide) rfl ?_
      exact xs_loc [some (.ref 9), some (.ref 7), some (.int r8), some (.int (nI 0)), none] ⟨rfl, ⟨rfl, ⟨rfl, ⟨rfl, trivial⟩⟩⟩⟩ (h hR)
    · replace h := h.2 c16
      refine xs_iconst (nI 5) dX4_learnPosts_46 (by decide) ?_
      exact xs_ret (some (.int (nI 5))) dX4_learnPosts_47 rfl rfl ⟨hR, _, rfl, h⟩
  · replace h := h.2 c15
    refine xs_iconst (nI 2) dX4_learnPosts_33 (by decide) ?_
    exact xs_ret (some (.int (nI 2))) dX4_learnPosts_34 rfl rfl ⟨hR, _, rfl, h⟩
abbrev hd_X4_addPoint_34 (b : Bool) (Q : xm_M → Prop)  (v1 : Int32) (v2 : Int32) (v3 : Int32) (v4 : Int32) (μ : xm_M) : Prop := xs_RT b μ → xR k_X4_addPoint none true (fun r _ μ' => xs_RT b μ' ∧ r = none ∧ Q μ') 34 [some (.ref 9), some (.int v1), some (.int v2), some (.int v3), some (.int v4)] [] xs_sh (0, 0) μ
abbrev hd_X4_addPoint_73 (b : Bool) (Q : xm_M → Prop)  (v1 : Int32) (v2 : Int32) (v3 : Int32) (v4 : Int32) (μ : xm_M) : Prop := xs_RT b μ → xR k_X4_addPoint none true (fun r _ μ' => xs_RT b μ' ∧ r = none ∧ Q μ') 73 [some (.ref 9), some (.int v1), some (.int v2), some (.int v3), some (.int v4)] [] xs_sh (0, 0) μ
abbrev hd_X4_addPoint_103 (b : Bool) (Q : xm_M → Prop)  (v1 : Int32) (v2 : Int32) (v3 : Int32) (v4 : Int32) (μ : xm_M) : Prop := xs_RT b μ → xR k_X4_addPoint none true (fun r _ μ' => xs_RT b μ' ∧ r = none ∧ Q μ') 103 [some (.ref 9), some (.int v1), some (.int v2), some (.int v3), some (.int v4)] [] xs_sh (0, 0) μ
set_option maxHeartbeats 4000000 in
set_option maxRecDepth 100000 in
theorem l_X4_addPoint_34 {b : Bool} {Q : xm_M → Prop} {μ : xm_M}  (v1 : Int32) (v2 : Int32) (v3 : Int32) (v4 : Int32) 
    (h : (((μ.1 9 3) ≤ v4 →
       vp_in (μ.1 9 3) 17 ∧
       ∀ m3 : xm_M, m3 = xu_I μ 10 (upd (μ.1 10) ((μ.1 9 3)).toNatClampNeg v1) →
       vp_in (m3.1 9 3) 17 ∧
       ∀ m5 : xm_M, m5 = xu_I m3 11 (upd (m3.1 11) ((m3.1 9 3)).toNatClampNeg v2) →
       vp_in (m5.1 9 3) 17 ∧
       ∀ m7 : xm_M, m7 = xu_I m5 12 (upd (m5.1 12) ((m5.1 9 3)).toNatClampNeg v3) →
       vp_in v1 17 ∧
       ∀ m9 : xm_M, m9 = xu_I m7 13 (upd (m7.1 13) (v1).toNatClampNeg (m7.1 9 3)) →
       ∀ m10 : xm_M, m10 = xu_I m9 9 (upd (m9.1 9) 3 ((m9.1 9 3) + (nI 1))) →
       Q m10) ∧
      (¬ (μ.1 9 3) ≤ v4 →
       vp_in v4 17 ∧
       ((v1 ≤ (μ.1 10 (v4).toNatClampNeg) →
        hd_X4_addPoint_73 b Q  v1 v2 v3 v4 μ) ∧
       (¬ v1 ≤ (μ.1 10 (v4).toNatClampNeg) →
        vp_in v4 17 ∧
        vp_in v2 17 ∧
        (((μ.1 10 (v4).toNatClampNeg) ≤ (μ.1 10 (v2).toNatClampNeg) →
         hd_X4_addPoint_73 b Q  v1 v2 v3 v4 μ) ∧
        (¬ (μ.1 10 (v4).toNatClampNeg) ≤ (μ.1 10 (v2).toNatClampNeg) →
         hd_X4_addPoint_73 b Q  v1 v4 v3 v4 μ))))))) :
    hd_X4_addPoint_34 b Q  v1 v2 v3 v4 μ := by
  intro hR
  refine xs_iload dX4_addPoint_34 rfl ?_
  refine xs_aload_n dX4_addPoint_36 rfl ?_
  refine xs_getI dX4_addPoint_37 fl_X4_76.g rfl sc_9 ?_
  refine xs_icmp_ge 109 dX4_addPoint_40 (by decide) (fun c1 => ?_) (fun c1 => ?_)
  · replace h := h.1 c1
    refine xs_aload_n dX4_addPoint_109 rfl ?_
    refine xs_getR dX4_addPoint_110 fl_X4_11 rfl sc_9 (rt_9_4 hR) ?_
    refine xs_aload_n dX4_addPoint_113 rfl ?_
    refine xs_getI dX4_addPoint_114 fl_X4_76.g rfl sc_9 ?_
    refine xs_iload_n dX4_addPoint_117 rfl ?_
    obtain ⟨s2, h⟩ := h
    refine xs_iast dX4_addPoint_118 sc_10 s2 ?_
    refine xs_nmM (fun m3 e_m3 => ?_)
    replace h := h m3 e_m3
    have hR : xs_RT b m3 := by rw [e_m3]; exact hR
    refine xs_aload_n dX4_addPoint_119 rfl ?_
    refine xs_getR dX4_addPoint_120 fl_X4_15 rfl sc_9 (rt_9_5 hR) ?_
    refine xs_aload_n dX4_addPoint_123 rfl ?_
    refine xs_getI dX4_addPoint_124 fl_X4_76.g rfl sc_9 ?_
    refine xs_iload_n dX4_addPoint_127 rfl ?_
    obtain ⟨s4, h⟩ := h
    refine xs_iast dX4_addPoint_128 sc_11 s4 ?_
    refine xs_nmM (fun m5 e_m5 => ?_)
    replace h := h m5 e_m5
    have hR : xs_RT b m5 := by rw [e_m5]; exact hR
    refine xs_aload_n dX4_addPoint_129 rfl ?_
    refine xs_getR dX4_addPoint_130 fl_X4_18 rfl sc_9 (rt_9_6 hR) ?_
    refine xs_aload_n dX4_addPoint_133 rfl ?_
    refine xs_getI dX4_addPoint_134 fl_X4_76.g rfl sc_9 ?_
    refine xs_iload_n dX4_addPoint_137 rfl ?_
    obtain ⟨s6, h⟩ := h
    refine xs_iast dX4_addPoint_138 sc_12 s6 ?_
    refine xs_nmM (fun m7 e_m7 => ?_)
    replace h := h m7 e_m7
    have hR : xs_RT b m7 := by rw [e_m7]; exact hR
    refine xs_aload_n dX4_addPoint_139 rfl ?_
    refine xs_getR dX4_addPoint_140 fl_X4_21 rfl sc_9 (rt_9_7 hR) ?_
    refine xs_iload_n dX4_addPoint_143 rfl ?_
    refine xs_aload_n dX4_addPoint_144 rfl ?_
    refine xs_getI dX4_addPoint_145 fl_X4_76.g rfl sc_9 ?_
    obtain ⟨s8, h⟩ := h
    refine xs_iast dX4_addPoint_148 sc_13 s8 ?_
    refine xs_nmM (fun m9 e_m9 => ?_)
    replace h := h m9 e_m9
    have hR : xs_RT b m9 := by rw [e_m9]; exact hR
    refine xs_aload_n dX4_addPoint_149 rfl ?_
    refine xs_dup dX4_addPoint_150 rfl ?_
    refine xs_getI dX4_addPoint_151 fl_X4_76.g rfl sc_9 ?_
    refine xs_iconst (nI 1) dX4_addPoint_154 (by decide) ?_
    refine xs_iadd dX4_addPoint_155 ?_
    refine xs_putI dX4_addPoint_156 fl_X4_76 rfl rfl rfl sc_9 ?_
    refine xs_nmM (fun m10 e_m10 => ?_)
    replace h := h m10 e_m10
    have hR : xs_RT b m10 := by rw [e_m10]; exact hR
    exact xs_ret none dX4_addPoint_159 trivial rfl ⟨hR, rfl, h⟩
  · replace h := h.2 c1
    refine xs_aload_n dX4_addPoint_43 rfl ?_
    refine xs_getR dX4_addPoint_44 fl_X4_11 rfl sc_9 (rt_9_4 hR) ?_
    refine xs_iload dX4_addPoint_47 rfl ?_
    obtain ⟨s11, h⟩ := h
    refine xs_iald dX4_addPoint_49 sc_10 s11 ?_
    refine xs_iload_n dX4_addPoint_50 rfl ?_
    refine xs_icmp_ge 73 dX4_addPoint_51 (by decide) (fun c12 => ?_) (fun c12 => ?_)
    · replace h := h.1 c12
      exact xs_loc [some (.ref 9), some (.int v1), some (.int v2), some (.int v3), some (.int v4)] ⟨rfl, ⟨rfl, ⟨rfl, ⟨rfl, ⟨rfl, trivial⟩⟩⟩⟩⟩ (h hR)
    · replace h := h.2 c12
      refine xs_aload_n dX4_addPoint_54 rfl ?_
      refine xs_getR dX4_addPoint_55 fl_X4_11 rfl sc_9 (rt_9_4 hR) ?_
      refine xs_iload dX4_addPoint_58 rfl ?_
      obtain ⟨s13, h⟩ := h
      refine xs_iald dX4_addPoint_60 sc_10 s13 ?_
      refine xs_aload_n dX4_addPoint_61 rfl ?_
      refine xs_getR dX4_addPoint_62 fl_X4_11 rfl sc_9 (rt_9_4 hR) ?_
      refine xs_iload_n dX4_addPoint_65 rfl ?_
      obtain ⟨s14, h⟩ := h
      refine xs_iald dX4_addPoint_66 sc_10 s14 ?_
      refine xs_icmp_le 73 dX4_addPoint_67 (by decide) (fun c15 => ?_) (fun c15 => ?_)
      · replace h := h.1 c15
        exact xs_loc [some (.ref 9), some (.int v1), some (.int v2), some (.int v3), some (.int v4)] ⟨rfl, ⟨rfl, ⟨rfl, ⟨rfl, ⟨rfl, trivial⟩⟩⟩⟩⟩ (h hR)
      · replace h := h.2 c15
        refine xs_iload dX4_addPoint_70 rfl ?_
        refine xs_istore_n [some (.ref 9), some (.int v1), some (.int v4), some (.int v3), some (.int v4)] dX4_addPoint_72 (by decide) rfl ?_
        exact xs_loc [some (.ref 9), some (.int v1), some (.int v4), some (.int v3), some (.int v4)] ⟨rfl, ⟨rfl, ⟨rfl, ⟨rfl, ⟨rfl, trivial⟩⟩⟩⟩⟩ (h hR)
set_option maxHeartbeats 4000000 in
set_option maxRecDepth 100000 in
theorem l_X4_addPoint_73 {b : Bool} {Q : xm_M → Prop} {μ : xm_M}  (v1 : Int32) (v2 : Int32) (v3 : Int32) (v4 : Int32) 
    (h : vp_in v4 17 ∧
      (((μ.1 10 (v4).toNatClampNeg) ≤ v1 →
       hd_X4_addPoint_103 b Q  v1 v2 v3 v4 μ) ∧
      (¬ (μ.1 10 (v4).toNatClampNeg) ≤ v1 →
       vp_in v4 17 ∧
       vp_in v3 17 ∧
       (((μ.1 10 (v3).toNatClampNeg) ≤ (μ.1 10 (v4).toNatClampNeg) →
        hd_X4_addPoint_103 b Q  v1 v2 v3 v4 μ) ∧
       (¬ (μ.1 10 (v3).toNatClampNeg) ≤ (μ.1 10 (v4).toNatClampNeg) →
        hd_X4_addPoint_103 b Q  v1 v2 v4 v4 μ))))) :
    hd_X4_addPoint_73 b Q  v1 v2 v3 v4 μ := by
  intro hR
  refine xs_aload_n dX4_addPoint_73 rfl ?_
  refine xs_getR dX4_addPoint_74 fl_X4_11 rfl sc_9 (rt_9_4 hR) ?_
  refine xs_iload dX4_addPoint_77 rfl ?_
  obtain ⟨s1, h⟩ := h
  refine xs_iald dX4_addPoint_79 sc_10 s1 ?_
  refine xs_iload_n dX4_addPoint_80 rfl ?_
  refine xs_icmp_le 103 dX4_addPoint_81 (by decide) (fun c2 => ?_) (fun c2 => ?_)
  · replace h := h.1 c2
    exact xs_loc [some (.ref 9), some (.int v1), some (.int v2), some (.int v3), some (.int v4)] ⟨rfl, ⟨rfl, ⟨rfl, ⟨rfl, ⟨rfl, trivial⟩⟩⟩⟩⟩ (h hR)
  · replace h := h.2 c2
    refine xs_aload_n dX4_addPoint_84 rfl ?_
    refine xs_getR dX4_addPoint_85 fl_X4_11 rfl sc_9 (rt_9_4 hR) ?_
    refine xs_iload dX4_addPoint_88 rfl ?_
    obtain ⟨s3, h⟩ := h
    refine xs_iald dX4_addPoint_90 sc_10 s3 ?_
    refine xs_aload_n dX4_addPoint_91 rfl ?_
    refine xs_getR dX4_addPoint_92 fl_X4_11 rfl sc_9 (rt_9_4 hR) ?_
    refine xs_iload_n dX4_addPoint_95 rfl ?_
    obtain ⟨s4, h⟩ := h
    refine xs_iald dX4_addPoint_96 sc_10 s4 ?_
    refine xs_icmp_ge 103 dX4_addPoint_97 (by decide) (fun c5 => ?_) (fun c5 => ?_)
    · replace h := h.1 c5
      exact xs_loc [some (.ref 9), some (.int v1), some (.int v2), some (.int v3), some (.int v4)] ⟨rfl, ⟨rfl, ⟨rfl, ⟨rfl, ⟨rfl, trivial⟩⟩⟩⟩⟩ (h hR)
    · replace h := h.2 c5
      refine xs_iload dX4_addPoint_100 rfl ?_
      refine xs_istore_n [some (.ref 9), some (.int v1), some (.int v2), some (.int v4), some (.int v4)] dX4_addPoint_102 (by decide) rfl ?_
      exact xs_loc [some (.ref 9), some (.int v1), some (.int v2), some (.int v4), some (.int v4)] ⟨rfl, ⟨rfl, ⟨rfl, ⟨rfl, ⟨rfl, trivial⟩⟩⟩⟩⟩ (h hR)
set_option maxHeartbeats 4000000 in
set_option maxRecDepth 100000 in
theorem l_X4_addPoint_103 {b : Bool} {Q : xm_M → Prop} {μ : xm_M}  (v1 : Int32) (v2 : Int32) (v3 : Int32) (v4 : Int32) 
    (h : ∀ x1 : Int32, x1 = v4 + nI 1 →
      hd_X4_addPoint_34 b Q  v1 v2 v3 x1 μ) :
    hd_X4_addPoint_103 b Q  v1 v2 v3 v4 μ := by
  intro hR
  obtain ⟨x1, e_x1⟩ : ∃ z : Int32, z = v4 + nI 1 := ⟨_, rfl⟩
  replace h := h x1 e_x1
  refine xs_iinc x1 [some (.ref 9), some (.int v1), some (.int v2), some (.int v3), some (.int x1)] dX4_addPoint_103 (by decide) rfl (by rw [e_x1]; rfl) rfl ?_
  refine xs_goto 34 dX4_addPoint_106 (by decide) ?_
  exact xs_loc [some (.ref 9), some (.int v1), some (.int v2), some (.int v3), some (.int x1)] ⟨rfl, ⟨rfl, ⟨rfl, ⟨rfl, ⟨rfl, trivial⟩⟩⟩⟩⟩ (h hR)
set_option maxHeartbeats 4000000 in
set_option maxRecDepth 100000 in
theorem g_X4_addPoint {b : Bool} {Q : xm_M → Prop} {μ : xm_M} (v1 : Int32) 
    (h : ((v1 < 0 →
       Q μ) ∧
      (¬ v1 < 0 →
       (((nI 16) < v1 →
        Q μ) ∧
       (¬ (nI 16) < v1 →
        (((μ.1 9 3) < 0 →
         Q μ) ∧
        (¬ (μ.1 9 3) < 0 →
         (((μ.1 9 3) < (nI 17) →
          hd_X4_addPoint_34 b Q  v1 (nI 0) (nI 1) (nI 0) μ) ∧
         (¬ (μ.1 9 3) < (nI 17) →
          Q μ))))))))) :
    xCv b b k_X4_addPoint μ [.ref 9, .int v1] Q := by
  intro hR
  refine xm_met [some (.ref 9), some (.int v1), none, none, none] 3 (by decide) (by simp [lg_sl, Value.category]) rfl ?_
  refine xs_iload_n dX4_addPoint_0 rfl ?_
  refine xs_if_lt 26 dX4_addPoint_1 (by decide) (fun c1 => ?_) (fun c1 => ?_)
  · replace h := h.1 c1
    exact xs_ret none dX4_addPoint_26 trivial rfl ⟨hR, rfl, h⟩
  · replace h := h.2 c1
    refine xs_iload_n dX4_addPoint_4 rfl ?_
    refine xs_bipush (nI 16) dX4_addPoint_5 (by decide) ?_
    refine xs_icmp_gt 26 dX4_addPoint_7 (by decide) (fun c2 => ?_) (fun c2 => ?_)
    · replace h := h.1 c2
      exact xs_ret none dX4_addPoint_26 trivial rfl ⟨hR, rfl, h⟩
    · replace h := h.2 c2
      refine xs_aload_n dX4_addPoint_10 rfl ?_
      refine xs_getI dX4_addPoint_11 fl_X4_76.g rfl sc_9 ?_
      refine xs_if_lt 26 dX4_addPoint_14 (by decide) (fun c3 => ?_) (fun c3 => ?_)
      · replace h := h.1 c3
        exact xs_ret none dX4_addPoint_26 trivial rfl ⟨hR, rfl, h⟩
      · replace h := h.2 c3
        refine xs_aload_n dX4_addPoint_17 rfl ?_
        refine xs_getI dX4_addPoint_18 fl_X4_76.g rfl sc_9 ?_
        refine xs_bipush (nI 17) dX4_addPoint_21 (by decide) ?_
        refine xs_icmp_lt 27 dX4_addPoint_23 (by decide) (fun c4 => ?_) (fun c4 => ?_)
        · replace h := h.1 c4
          refine xs_iconst (nI 0) dX4_addPoint_27 (by decide) ?_
          refine xs_istore_n [some (.ref 9), some (.int v1), some (.int (nI 0)), none, none] dX4_addPoint_28 (by decide) rfl ?_
          refine xs_iconst (nI 1) dX4_addPoint_29 (by decide) ?_
          refine xs_istore_n [some (.ref 9), some (.int v1), some (.int (nI 0)), some (.int (nI 1)), none] dX4_addPoint_30 (by decide) rfl ?_
          refine xs_iconst (nI 0) dX4_addPoint_31 (by decide) ?_
          refine xs_istore [some (.ref 9), some (.int v1), some (.int (nI 0)), some (.int (nI 1)), some (.int (nI 0))] dX4_addPoint_32 (by decide) rfl ?_
          exact xs_loc [some (.ref 9), some (.int v1), some (.int (nI 0)), some (.int (nI 1)), some (.int (nI 0))] ⟨rfl, ⟨rfl, ⟨rfl, ⟨rfl, ⟨rfl, trivial⟩⟩⟩⟩⟩ (h hR)
        · replace h := h.2 c4
          exact xs_ret none dX4_addPoint_26 trivial rfl ⟨hR, rfl, h⟩
abbrev hd_X4_learnClasses_60 (Q : Int32 → xm_M → Prop)  (v3 : Int32) (v4 : Int32) (μ : xm_M) : Prop := xs_RT true μ → xR k_X4_learnClasses none true (fun r _ μ' => xs_RT true μ' ∧ ∃ x : Int32, r = some (.int x) ∧ Q x μ') 60 [some (.ref 9), some (.ref 7), none, some (.int v3), some (.int v4)] [] xs_sh (0, 0) μ
set_option maxHeartbeats 4000000 in
set_option maxRecDepth 100000 in
theorem l_X4_learnClasses_60 {Q : Int32 → xm_M → Prop} {μ : xm_M}  (v3 : Int32) (v4 : Int32) 
    (h : (((μ.1 9 12) ≤ v4 →
       Q v3 μ) ∧
      (¬ (μ.1 9 12) ≤ v4 →
       (((nI 4) ≤ v4 →
        Q v3 μ) ∧
       (¬ (nI 4) ≤ v4 →
        ((¬ v3 = 0 →
         Q v3 μ) ∧
        (v3 = 0 →
         ∃ Q4 : Int32 → xm_M → Prop, xCi true true k_X0_number μ [.ref 7, .int (nI 4)] Q4 ∧
         ∀ (r6 : Int32) (m5 : xm_M), Q4 r6 m5 →
         vp_in v4 4 ∧
         ∀ m9 : xm_M, m9 = xu_I m5 14 (upd (m5.1 14) (v4).toNatClampNeg r6) →
         vp_in v4 4 ∧
         ∃ Q11 : Int32 → xm_M → Prop, xCi true true k_X4_faultOfClassBook m9 [.ref 9, .int (m9.1 14 (v4).toNatClampNeg)] Q11 ∧
         ∀ (r13 : Int32) (m12 : xm_M), Q11 r13 m12 →
         ∀ x15 : Int32, x15 = v4 + nI 1 →
         hd_X4_learnClasses_60 Q  r13 x15 m12))))))) :
    hd_X4_learnClasses_60 Q  v3 v4 μ := by
  intro hR
  refine xs_iload dX4_learnClasses_60 rfl ?_
  refine xs_aload_n dX4_learnClasses_62 rfl ?_
  refine xs_getI dX4_learnClasses_63 fl_X4_44.g rfl sc_9 ?_
  refine xs_icmp_ge 113 dX4_learnClasses_66 (by decide) (fun c1 => ?_) (fun c1 => ?_)
  · replace h := h.1 c1
    refine xs_iload_n dX4_learnClasses_113 rfl ?_
    exact xs_ret (some (.int v3)) dX4_learnClasses_114 rfl rfl ⟨hR, _, rfl, h⟩
  · replace h := h.2 c1
    refine xs_iload dX4_learnClasses_69 rfl ?_
    refine xs_aload_n dX4_learnClasses_71 rfl ?_
    refine xs_getR dX4_learnClasses_72 fl_X4_24 rfl sc_9 (rt_9_14 hR) ?_
    refine xs_alen 0 dX4_learnClasses_75 sc_14 (fun _ => rfl) ?_
    refine xs_icmp_ge 113 dX4_learnClasses_76 (by decide) (fun c2 => ?_) (fun c2 => ?_)
    · replace h := h.1 c2
      refine xs_iload_n dX4_learnClasses_113 rfl ?_
      exact xs_ret (some (.int v3)) dX4_learnClasses_114 rfl rfl ⟨hR, _, rfl, h⟩
    · replace h := h.2 c2
      refine xs_iload_n dX4_learnClasses_79 rfl ?_
      refine xs_if_ne 113 dX4_learnClasses_80 (by decide) (fun c3 => ?_) (fun c3 => ?_)
      · replace h := h.1 c3
        refine xs_iload_n dX4_learnClasses_113 rfl ?_
        exact xs_ret (some (.int v3)) dX4_learnClasses_114 rfl rfl ⟨hR, _, rfl, h⟩
      · replace h := h.2 c3
        refine xs_aload_n dX4_learnClasses_83 rfl ?_
        refine xs_getR dX4_learnClasses_84 fl_X4_24 rfl sc_9 (rt_9_14 hR) ?_
        refine xs_iload dX4_learnClasses_87 rfl ?_
        refine xs_aload_n dX4_learnClasses_89 rfl ?_
        refine xs_iconst (nI 4) dX4_learnClasses_90 (by decide) ?_
        obtain ⟨Q4, hQ4, h⟩ := h
        refine xs_callV (j := k_X0_number) (As := [.int (nI 4)]) (S := [.int v4, .ref 14]) dX4_learnClasses_91 (hQ4 hR) ⟨ml_X4_47, mk_X0_number.1, mk_X0_number.2.1, mk_X0_number.2.2⟩ mv_X0_number ⟨Nat.le_of_ble_eq_true rfl, Nat.le_of_ble_eq_true rfl⟩ rfl (Nat.le_of_ble_eq_true rfl) sc_7 rfl ⟨rfl, rfl⟩ (fun rr m5 hq7 => ?_)
        obtain ⟨hR, r6, rfl, hq7⟩ := hq7
        replace h := h r6 m5 hq7
        obtain ⟨s8, h⟩ := h
        refine xs_iast dX4_learnClasses_94 sc_14 s8 ?_
        refine xs_nmM (fun m9 e_m9 => ?_)
        replace h := h m9 e_m9
        have hR : xs_RT true m9 := by rw [e_m9]; exact hR
        refine xs_aload_n dX4_learnClasses_95 rfl ?_
        refine xs_aload_n dX4_learnClasses_96 rfl ?_
        refine xs_getR dX4_learnClasses_97 fl_X4_24 rfl sc_9 (rt_9_14 hR) ?_
        refine xs_iload dX4_learnClasses_100 rfl ?_
        obtain ⟨s10, h⟩ := h
        refine xs_iald dX4_learnClasses_102 sc_14 s10 ?_
        obtain ⟨Q11, hQ11, h⟩ := h
        refine xs_callV (j := k_X4_faultOfClassBook) (As := [.int (m9.1 14 (v4).toNatClampNeg)]) (S := []) dX4_learnClasses_103 (hQ11 hR) ⟨ml_X4_86, mk_X4_faultOfClassBook.1, mk_X4_faultOfClassBook.2.1, mk_X4_faultOfClassBook.2.2⟩ mv_X4_faultOfClassBook ⟨Nat.le_of_ble_eq_true rfl, Nat.le_of_ble_eq_true rfl⟩ rfl (Nat.le_of_ble_eq_true rfl) sc_9 rfl ⟨rfl, rfl⟩ (fun rr m12 hq14 => ?_)
        obtain ⟨hR, r13, rfl, hq14⟩ := hq14
        replace h := h r13 m12 hq14
        refine xs_istore_n [some (.ref 9), some (.ref 7), none, some (.int r13), some (.int v4)] dX4_learnClasses_106 (by decide) rfl ?_
        obtain ⟨x15, e_x15⟩ : ∃ z : Int32, z = v4 + nI 1 := ⟨_, rfl⟩
        replace h := h x15 e_x15
        refine xs_iinc x15 [some (.ref 9), some (.ref 7), none, some (.int r13), some (.int x15)] dX4_learnClasses_107 (by decide) rfl (by rw [e_x15]; rfl) rfl ?_
        refine xs_goto 60 dX4_learnClasses_110 (by decide) ?_
        exact xs_loc [some (.ref 9), some (.ref 7), none, some (.int r13), some (.int x15)] ⟨rfl, ⟨rfl, ⟨rfl, ⟨rfl, trivial⟩⟩⟩⟩ (h hR)
set_option maxHeartbeats 4000000 in
set_option maxRecDepth 100000 in
theorem g_X4_learnClasses {Q : Int32 → xm_M → Prop} {μ : xm_M}  
    (h : ∃ Q1 : Int32 → xm_M → Prop, xCi true true k_X0_number μ [.ref 7, .int (nI 2)] Q1 ∧
      ∀ (r3 : Int32) (m2 : xm_M), Q1 r3 m2 →
      ∃ Q5 : Int32 → xm_M → Prop, xCi true true k_X0_number m2 [.ref 7, .int (nI 2)] Q5 ∧
      ∀ (r7 : Int32) (m6 : xm_M), Q5 r7 m6 →
      ∀ m9 : xm_M, m9 = xu_I m6 9 (upd (m6.1 9) 12 (r7 + (nI 1))) →
      ∃ Q10 : Int32 → xm_M → Prop, xCi true true k_X0_number m9 [.ref 7, .int (nI 3)] Q10 ∧
      ∀ (r12 : Int32) (m11 : xm_M), Q10 r12 m11 →
      ∀ m14 : xm_M, m14 = xu_I m11 9 (upd (m11.1 9) 13 r12) →
      ((0 ≤ (m14.1 9 13) →
       ∀ m16 : xm_M, m16 = xu_I m14 9 (upd (m14.1 9) 11 ((nI 1) <<< (r3 &&& 31))) →
       (((m16.1 9 13) < (m16.1 9 9) →
        hd_X4_learnClasses_60 Q  (nI 0) (nI 0) m16) ∧
       (¬ (m16.1 9 13) < (m16.1 9 9) →
        Q (nI 5) m16))) ∧
      (¬ 0 ≤ (m14.1 9 13) →
       Q (nI 2) m14))) :
    xCi true true k_X4_learnClasses μ [.ref 9, .ref 7] Q := by
  intro hR
  refine xm_met [some (.ref 9), some (.ref 7), none, none, none] 3 (by decide) (by simp [lg_sl, Value.category]) rfl ?_
  refine xs_aload_n dX4_learnClasses_0 rfl ?_
  refine xs_iconst (nI 2) dX4_learnClasses_1 (by decide) ?_
  obtain ⟨Q1, hQ1, h⟩ := h
  refine xs_callV (j := k_X0_number) (As := [.int (nI 2)]) (S := []) dX4_learnClasses_2 (hQ1 hR) ⟨ml_X4_47, mk_X0_number.1, mk_X0_number.2.1, mk_X0_number.2.2⟩ mv_X0_number ⟨Nat.le_of_ble_eq_true rfl, Nat.le_of_ble_eq_true rfl⟩ rfl (Nat.le_of_ble_eq_true rfl) sc_7 rfl ⟨rfl, rfl⟩ (fun rr m2 hq4 => ?_)
  obtain ⟨hR, r3, rfl, hq4⟩ := hq4
  replace h := h r3 m2 hq4
  refine xs_istore_n [some (.ref 9), some (.ref 7), some (.int r3), none, none] dX4_learnClasses_5 (by decide) rfl ?_
  refine xs_aload_n dX4_learnClasses_6 rfl ?_
  refine xs_aload_n dX4_learnClasses_7 rfl ?_
  refine xs_iconst (nI 2) dX4_learnClasses_8 (by decide) ?_
  obtain ⟨Q5, hQ5, h⟩ := h
  refine xs_callV (j := k_X0_number) (As := [.int (nI 2)]) (S := [.ref 9]) dX4_learnClasses_9 (hQ5 hR) ⟨ml_X4_47, mk_X0_number.1, mk_X0_number.2.1, mk_X0_number.2.2⟩ mv_X0_number ⟨Nat.le_of_ble_eq_true rfl, Nat.le_of_ble_eq_true rfl⟩ rfl (Nat.le_of_ble_eq_true rfl) sc_7 rfl ⟨rfl, rfl⟩ (fun rr m6 hq8 => ?_)
  obtain ⟨hR, r7, rfl, hq8⟩ := hq8
  replace h := h r7 m6 hq8
  refine xs_iconst (nI 1) dX4_learnClasses_12 (by decide) ?_
  refine xs_iadd dX4_learnClasses_13 ?_
  refine xs_putI dX4_learnClasses_14 fl_X4_44 rfl rfl rfl sc_9 ?_
  refine xs_nmM (fun m9 e_m9 => ?_)
  replace h := h m9 e_m9
  have hR : xs_RT true m9 := by rw [e_m9]; exact hR
  refine xs_aload_n dX4_learnClasses_17 rfl ?_
  refine xs_aload_n dX4_learnClasses_18 rfl ?_
  refine xs_iconst (nI 3) dX4_learnClasses_19 (by decide) ?_
  obtain ⟨Q10, hQ10, h⟩ := h
  refine xs_callV (j := k_X0_number) (As := [.int (nI 3)]) (S := [.ref 9]) dX4_learnClasses_20 (hQ10 hR) ⟨ml_X4_47, mk_X0_number.1, mk_X0_number.2.1, mk_X0_number.2.2⟩ mv_X0_number ⟨Nat.le_of_ble_eq_true rfl, Nat.le_of_ble_eq_true rfl⟩ rfl (Nat.le_of_ble_eq_true rfl) sc_7 rfl ⟨rfl, rfl⟩ (fun rr m11 hq13 => ?_)
  obtain ⟨hR, r12, rfl, hq13⟩ := hq13
  replace h := h r12 m11 hq13
  refine xs_putI dX4_learnClasses_23 fl_X4_83 rfl rfl rfl sc_9 ?_
  refine xs_nmM (fun m14 e_m14 => ?_)
  replace h := h m14 e_m14
  have hR : xs_RT true m14 := by rw [e_m14]; exact hR
  refine xs_aload_n dX4_learnClasses_26 rfl ?_
  refine xs_getI dX4_learnClasses_27 fl_X4_83.g rfl sc_9 ?_
  refine xs_if_ge 35 dX4_learnClasses_30 (by decide) (fun c15 => ?_) (fun c15 => ?_)
  · replace h := h.1 c15
    refine xs_aload_n dX4_learnClasses_35 rfl ?_
    refine xs_iconst (nI 1) dX4_learnClasses_36 (by decide) ?_
    refine xs_iload_n dX4_learnClasses_37 rfl ?_
    refine xs_ishl dX4_learnClasses_38 ?_
    refine xs_putI dX4_learnClasses_39 fl_X4_41 rfl rfl rfl sc_9 ?_
    refine xs_nmM (fun m16 e_m16 => ?_)
    replace h := h m16 e_m16
    have hR : xs_RT true m16 := by rw [e_m16]; exact hR
    refine xs_aload_n dX4_learnClasses_42 rfl ?_
    refine xs_getI dX4_learnClasses_43 fl_X4_83.g rfl sc_9 ?_
    refine xs_aload_n dX4_learnClasses_46 rfl ?_
    refine xs_getI dX4_learnClasses_47 fl_X4_53.g rfl sc_9 ?_
    refine xs_icmp_lt 55 dX4_learnClasses_50 (by decide) (fun c17 => ?_) (fun c17 => ?_)
    · replace h := h.1 c17
      refine xs_iconst (nI 0) dX4_learnClasses_55 (by decide) ?_
      refine xs_istore_n [some (.ref 9), some (.ref 7), some (.int r3), some (.int (nI 0)), none] dX4_learnClasses_56 (by decide) rfl ?_
      refine xs_iconst (nI 0) dX4_learnClasses_57 (by decide) ?_
      refine xs_istore [some (.ref 9), some (.ref 7), some (.int r3), some (.int (nI 0)), some (.int (nI 0))] dX4_learnClasses_58 (by decide) rfl ?_
      exact xs_loc [some (.ref 9), some (.ref 7), none, some (.int (nI 0)), some (.int (nI 0))] ⟨rfl, ⟨rfl, ⟨rfl, ⟨rfl, trivial⟩⟩⟩⟩ (h hR)
    · replace h := h.2 c17
      refine xs_iconst (nI 5) dX4_learnClasses_53 (by decide) ?_
      exact xs_ret (some (.int (nI 5))) dX4_learnClasses_54 rfl rfl ⟨hR, _, rfl, h⟩
  · replace h := h.2 c15
    refine xs_iconst (nI 2) dX4_learnClasses_33 (by decide) ?_
    exact xs_ret (some (.int (nI 2))) dX4_learnClasses_34 rfl rfl ⟨hR, _, rfl, h⟩
set_option maxHeartbeats 4000000 in
set_option maxRecDepth 100000 in
theorem g_X4_faultOfClassBook {b : Bool} {Q : Int32 → xm_M → Prop} {μ : xm_M} (v1 : Int32) 
    (h : ((0 ≤ v1 →
       ((v1 < (nI 8) →
        ((v1 < (μ.1 9 9) →
         ∃ Q4 : Nat → xm_M → Prop, xCr b b k_X4_bookOf μ [.ref 9, .int v1] Q4 ∧
         ∀ (r6 : Nat) (m5 : xm_M), Q4 r6 m5 →
         xs_bk r6 ∧
         (((m5.1 r6 1) = 0 →
          Q (nI 7) m5) ∧
         (¬ (m5.1 r6 1) = 0 →
          (((m5.1 r6 0) < (nI 1) →
           Q (nI 7) m5) ∧
          (¬ (m5.1 r6 0) < (nI 1) →
           ¬ (m5.1 r6 0) = 0 ∧
           ((((m5.1 9 11) - (m5.1 9 11) / (m5.1 r6 0) * (m5.1 r6 0)) = 0 →
            Q (nI 0) m5) ∧
           (¬ ((m5.1 9 11) - (m5.1 9 11) / (m5.1 r6 0) * (m5.1 r6 0)) = 0 →
            Q (nI 7) m5))))))) ∧
        (¬ v1 < (μ.1 9 9) →
         Q (nI 5) μ))) ∧
       (¬ v1 < (nI 8) →
        Q (nI 0) μ))) ∧
      (¬ 0 ≤ v1 →
       Q (nI 2) μ))) :
    xCi b b k_X4_faultOfClassBook μ [.ref 9, .int v1] Q := by
  intro hR
  refine xm_met [some (.ref 9), some (.int v1), none] 1 (by decide) (by simp [lg_sl, Value.category]) rfl ?_
  refine xs_iload_n dX4_faultOfClassBook_0 rfl ?_
  refine xs_if_ge 6 dX4_faultOfClassBook_1 (by decide) (fun c1 => ?_) (fun c1 => ?_)
  · replace h := h.1 c1
    refine xs_iload_n dX4_faultOfClassBook_6 rfl ?_
    refine xs_bipush (nI 8) dX4_faultOfClassBook_7 (by decide) ?_
    refine xs_icmp_lt 14 dX4_faultOfClassBook_9 (by decide) (fun c2 => ?_) (fun c2 => ?_)
    · replace h := h.1 c2
      refine xs_iload_n dX4_faultOfClassBook_14 rfl ?_
      refine xs_aload_n dX4_faultOfClassBook_15 rfl ?_
      refine xs_getI dX4_faultOfClassBook_16 fl_X4_53.g rfl sc_9 ?_
      refine xs_icmp_lt 24 dX4_faultOfClassBook_19 (by decide) (fun c3 => ?_) (fun c3 => ?_)
      · replace h := h.1 c3
        refine xs_aload_n dX4_faultOfClassBook_24 rfl ?_
        refine xs_iload_n dX4_faultOfClassBook_25 rfl ?_
        obtain ⟨Q4, hQ4, h⟩ := h
        refine xs_callV (j := k_X4_bookOf) (As := [.int v1]) (S := []) dX4_faultOfClassBook_26 (hQ4 hR) ⟨ml_X4_56, mk_X4_bookOf.1, mk_X4_bookOf.2.1, mk_X4_bookOf.2.2⟩ mv_X4_bookOf ⟨Nat.le_of_ble_eq_true rfl, Nat.le_of_ble_eq_true rfl⟩ rfl (Nat.le_of_ble_eq_true rfl) sc_9 rfl ⟨rfl, rfl⟩ (fun rr m5 hq7 => ?_)
        obtain ⟨hR, r6, rfl, hq7⟩ := hq7
        replace h := h r6 m5 hq7
        obtain ⟨hr6, h⟩ := h
        refine xs_astore_n [some (.ref 9), some (.int v1), some (.ref r6)] dX4_faultOfClassBook_29 (by decide) rfl ?_
        refine xs_aload_n dX4_faultOfClassBook_30 rfl ?_
        refine xs_getI dX4_faultOfClassBook_31 fl_X4_89.g rfl (sb_0 hr6) ?_
        refine xs_if_eq 57 dX4_faultOfClassBook_34 (by decide) (fun c8 => ?_) (fun c8 => ?_)
        · replace h := h.1 c8
          refine xs_bipush (nI 7) dX4_faultOfClassBook_57 (by decide) ?_
          exact xs_ret (some (.int (nI 7))) dX4_faultOfClassBook_59 rfl rfl ⟨hR, _, rfl, h⟩
        · replace h := h.2 c8
          refine xs_aload_n dX4_faultOfClassBook_37 rfl ?_
          refine xs_getI dX4_faultOfClassBook_38 fl_X4_93.g rfl (sb_0 hr6) ?_
          refine xs_iconst (nI 1) dX4_faultOfClassBook_41 (by decide) ?_
          refine xs_icmp_lt 57 dX4_faultOfClassBook_42 (by decide) (fun c9 => ?_) (fun c9 => ?_)
          · replace h := h.1 c9
            refine xs_bipush (nI 7) dX4_faultOfClassBook_57 (by decide) ?_
            exact xs_ret (some (.int (nI 7))) dX4_faultOfClassBook_59 rfl rfl ⟨hR, _, rfl, h⟩
          · replace h := h.2 c9
            refine xs_aload_n dX4_faultOfClassBook_45 rfl ?_
            refine xs_getI dX4_faultOfClassBook_46 fl_X4_41.g rfl sc_9 ?_
            refine xs_aload_n dX4_faultOfClassBook_49 rfl ?_
            refine xs_getI dX4_faultOfClassBook_50 fl_X4_93.g rfl (sb_0 hr6) ?_
            obtain ⟨s10, h⟩ := h
            refine xs_irem dX4_faultOfClassBook_53 s10 ?_
            refine xs_if_eq 60 dX4_faultOfClassBook_54 (by decide) (fun c11 => ?_) (fun c11 => ?_)
            · replace h := h.1 c11
              refine xs_iconst (nI 0) dX4_faultOfClassBook_60 (by decide) ?_
              exact xs_ret (some (.int (nI 0))) dX4_faultOfClassBook_61 rfl rfl ⟨hR, _, rfl, h⟩
            · replace h := h.2 c11
              refine xs_bipush (nI 7) dX4_faultOfClassBook_57 (by decide) ?_
              exact xs_ret (some (.int (nI 7))) dX4_faultOfClassBook_59 rfl rfl ⟨hR, _, rfl, h⟩
      · replace h := h.2 c3
        refine xs_iconst (nI 5) dX4_faultOfClassBook_22 (by decide) ?_
        exact xs_ret (some (.int (nI 5))) dX4_faultOfClassBook_23 rfl rfl ⟨hR, _, rfl, h⟩
    · replace h := h.2 c2
      refine xs_iconst (nI 0) dX4_faultOfClassBook_12 (by decide) ?_
      exact xs_ret (some (.int (nI 0))) dX4_faultOfClassBook_13 rfl rfl ⟨hR, _, rfl, h⟩
  · replace h := h.2 c1
    refine xs_iconst (nI 2) dX4_faultOfClassBook_4 (by decide) ?_
    exact xs_ret (some (.int (nI 2))) dX4_faultOfClassBook_5 rfl rfl ⟨hR, _, rfl, h⟩
set_option maxHeartbeats 4000000 in
set_option maxRecDepth 100000 in
theorem g_X4_learnLeaning {Q : Int32 → xm_M → Prop} {μ : xm_M}  
    (h : ∀ m1 : xm_M, m1 = xu_I μ 9 (upd (μ.1 9) 2 (nI 0)) →
      ((¬ (m1.1 9 0) = (nI 2) →
       Q (nI 0) m1) ∧
      ((m1.1 9 0) = (nI 2) →
       ∃ Q3 : Int32 → xm_M → Prop, xCi true true k_X0_number m1 [.ref 7, .int (nI 1)] Q3 ∧
       ∀ (r5 : Int32) (m4 : xm_M), Q3 r5 m4 →
       ((0 ≤ r5 →
        ((¬ r5 = (nI 1) →
         ∀ m9 : xm_M, m9 = xu_I m4 9 (upd (m4.1 9) 2 (nI 0)) →
         Q (nI 0) m9) ∧
        (r5 = (nI 1) →
         ∀ m10 : xm_M, m10 = xu_I m4 9 (upd (m4.1 9) 2 (nI 1)) →
         Q (nI 0) m10))) ∧
       (¬ 0 ≤ r5 →
        Q (nI 2) m4))))) :
    xCi true true k_X4_learnLeaning μ [.ref 9, .ref 7] Q := by
  intro hR
  refine xm_met [some (.ref 9), some (.ref 7), none] 1 (by decide) (by simp [lg_sl, Value.category]) rfl ?_
  refine xs_aload_n dX4_learnLeaning_0 rfl ?_
  refine xs_iconst (nI 0) dX4_learnLeaning_1 (by decide) ?_
  refine xs_putI dX4_learnLeaning_2 fl_X4_96 rfl rfl rfl sc_9 ?_
  refine xs_nmM (fun m1 e_m1 => ?_)
  replace h := h m1 e_m1
  have hR : xs_RT true m1 := by rw [e_m1]; exact hR
  refine xs_aload_n dX4_learnLeaning_5 rfl ?_
  refine xs_getI dX4_learnLeaning_6 fl_X4_34.g rfl sc_9 ?_
  refine xs_iconst (nI 2) dX4_learnLeaning_9 (by decide) ?_
  refine xs_icmp_ne 39 dX4_learnLeaning_10 (by decide) (fun c2 => ?_) (fun c2 => ?_)
  · replace h := h.1 c2
    refine xs_iconst (nI 0) dX4_learnLeaning_39 (by decide) ?_
    exact xs_ret (some (.int (nI 0))) dX4_learnLeaning_40 rfl rfl ⟨hR, _, rfl, h⟩
  · replace h := h.2 c2
    refine xs_aload_n dX4_learnLeaning_13 rfl ?_
    refine xs_iconst (nI 1) dX4_learnLeaning_14 (by decide) ?_
    obtain ⟨Q3, hQ3, h⟩ := h
    refine xs_callV (j := k_X0_number) (As := [.int (nI 1)]) (S := []) dX4_learnLeaning_15 (hQ3 hR) ⟨ml_X4_47, mk_X0_number.1, mk_X0_number.2.1, mk_X0_number.2.2⟩ mv_X0_number ⟨Nat.le_of_ble_eq_true rfl, Nat.le_of_ble_eq_true rfl⟩ rfl (Nat.le_of_ble_eq_true rfl) sc_7 rfl ⟨rfl, rfl⟩ (fun rr m4 hq6 => ?_)
    obtain ⟨hR, r5, rfl, hq6⟩ := hq6
    replace h := h r5 m4 hq6
    refine xs_istore_n [some (.ref 9), some (.ref 7), some (.int r5)] dX4_learnLeaning_18 (by decide) rfl ?_
    refine xs_iload_n dX4_learnLeaning_19 rfl ?_
    refine xs_if_ge 25 dX4_learnLeaning_20 (by decide) (fun c7 => ?_) (fun c7 => ?_)
    · replace h := h.1 c7
      refine xs_aload_n dX4_learnLeaning_25 rfl ?_
      refine xs_iload_n dX4_learnLeaning_26 rfl ?_
      refine xs_iconst (nI 1) dX4_learnLeaning_27 (by decide) ?_
      refine xs_icmp_ne 35 dX4_learnLeaning_28 (by decide) (fun c8 => ?_) (fun c8 => ?_)
      · replace h := h.1 c8
        refine xs_iconst (nI 0) dX4_learnLeaning_35 (by decide) ?_
        refine xs_putI dX4_learnLeaning_36 fl_X4_96 rfl rfl rfl sc_9 ?_
        refine xs_nmM (fun m9 e_m9 => ?_)
        replace h := h m9 e_m9
        have hR : xs_RT true m9 := by rw [e_m9]; exact hR
        refine xs_iconst (nI 0) dX4_learnLeaning_39 (by decide) ?_
        exact xs_ret (some (.int (nI 0))) dX4_learnLeaning_40 rfl rfl ⟨hR, _, rfl, h⟩
      · replace h := h.2 c8
        refine xs_iconst (nI 1) dX4_learnLeaning_31 (by decide) ?_
        refine xs_goto 36 dX4_learnLeaning_32 (by decide) ?_
        refine xs_putI dX4_learnLeaning_36 fl_X4_96 rfl rfl rfl sc_9 ?_
        refine xs_nmM (fun m10 e_m10 => ?_)
        replace h := h m10 e_m10
        have hR : xs_RT true m10 := by rw [e_m10]; exact hR
        refine xs_iconst (nI 0) dX4_learnLeaning_39 (by decide) ?_
        exact xs_ret (some (.int (nI 0))) dX4_learnLeaning_40 rfl rfl ⟨hR, _, rfl, h⟩
    · replace h := h.2 c7
      refine xs_iconst (nI 2) dX4_learnLeaning_23 (by decide) ?_
      exact xs_ret (some (.int (nI 2))) dX4_learnLeaning_24 rfl rfl ⟨hR, _, rfl, h⟩
set_option maxHeartbeats 4000000 in
set_option maxRecDepth 100000 in
theorem g_X4_nextPost {Q : Int32 → xm_M → Prop} {μ : xm_M}  
    (h : ∃ Q1 : Nat → xm_M → Prop, xCr true true k_X4_bookOf μ [.ref 9, .int (μ.1 9 10)] Q1 ∧
      ∀ (r3 : Nat) (m2 : xm_M), Q1 r3 m2 →
      xs_bk r3 ∧
      ∃ Q5 : Int32 → xm_M → Prop, xCi true true k_X1_nextEntry m2 [.ref r3, .ref 7] Q5 ∧
      ∀ (r7 : Int32) (m6 : xm_M), Q5 r7 m6 →
      Q r7 m6) :
    xCi true true k_X4_nextPost μ [.ref 9, .ref 7] Q := by
  intro hR
  refine xm_met [some (.ref 9), some (.ref 7)] 0 (by decide) (by simp [lg_sl, Value.category]) rfl ?_
  refine xs_aload_n dX4_nextPost_0 rfl ?_
  refine xs_aload_n dX4_nextPost_1 rfl ?_
  refine xs_getI dX4_nextPost_2 fl_X4_73.g rfl sc_9 ?_
  obtain ⟨Q1, hQ1, h⟩ := h
  refine xs_callV (j := k_X4_bookOf) (As := [.int (μ.1 9 10)]) (S := []) dX4_nextPost_5 (hQ1 hR) ⟨ml_X4_56, mk_X4_bookOf.1, mk_X4_bookOf.2.1, mk_X4_bookOf.2.2⟩ mv_X4_bookOf ⟨Nat.le_of_ble_eq_true rfl, Nat.le_of_ble_eq_true rfl⟩ rfl (Nat.le_of_ble_eq_true rfl) sc_9 rfl ⟨rfl, rfl⟩ (fun rr m2 hq4 => ?_)
  obtain ⟨hR, r3, rfl, hq4⟩ := hq4
  replace h := h r3 m2 hq4
  obtain ⟨hr3, h⟩ := h
  refine xs_aload_n dX4_nextPost_8 rfl ?_
  obtain ⟨Q5, hQ5, h⟩ := h
  refine xs_callV (j := k_X1_nextEntry) (As := [.ref 7]) (S := []) dX4_nextPost_9 (hQ5 hR) ⟨ml_X4_99, mk_X1_nextEntry.1, mk_X1_nextEntry.2.1, mk_X1_nextEntry.2.2⟩ mv_X1_nextEntry ⟨Nat.le_of_ble_eq_true rfl, Nat.le_of_ble_eq_true rfl⟩ rfl (Nat.le_of_ble_eq_true rfl) (sb_0 hr3) rfl ⟨rfl, rfl⟩ (fun rr m6 hq8 => ?_)
  obtain ⟨hR, r7, rfl, hq8⟩ := hq8
  replace h := h r7 m6 hq8
  exact xs_ret (some (.int r7)) dX4_nextPost_12 rfl rfl ⟨hR, _, rfl, h⟩
abbrev hd_X4_learnNumbers_2 (Q : xm_M → Prop) (N : Nat) (v3 : Int32) (μ : xm_M) : Prop := xs_RT true μ → xR k_X4_learnNumbers none true (fun r _ μ' => xs_RT true μ' ∧ r = none ∧ Q μ') 2 [some (.ref 9), some (.ref 7), some (.ref N), some (.int v3), none, none, none] [] xs_sh (0, 0) μ
set_option maxHeartbeats 4000000 in
set_option maxRecDepth 100000 in
theorem l_X4_learnNumbers_2 {Q : xm_M → Prop} {μ : xm_M} {N : Nat} (v3 : Int32) (hN : xs_sh[N]? = some (.inr (.int, 16)))
    (h : (((nI 16) ≤ v3 →
       Q μ) ∧
      (¬ (nI 16) ≤ v3 →
       ∃ Q2 : Nat → xm_M → Prop, xCr true true k_X4_bookOf μ [.ref 9, .int (μ.1 9 13)] Q2 ∧
       ∀ (r4 : Nat) (m3 : xm_M), Q2 r4 m3 →
       xs_bk r4 ∧
       ∃ Q6 : Int32 → xm_M → Prop, xCi true true k_X1_nextEntry m3 [.ref r4, .ref 7] Q6 ∧
       ∀ (r8 : Int32) (m7 : xm_M), Q6 r8 m7 →
       ((r8 < 0 →
        Q m7) ∧
       (¬ r8 < 0 →
        (((nI 1) ≤ (m7.1 9 12) →
         ¬ (m7.1 9 12) = 0 ∧
         ∀ x13 : Int32, x13 = (r8 - r8 / (m7.1 9 12) * (m7.1 9 12)) →
         (((nI 4) ≤ x13 →
          ∀ x16 : Int32, x16 = (v3 + (if (nI 1) < (m7.1 9 11) then (m7.1 9 11) else (nI 1))) →
          hd_X4_learnNumbers_2 Q N x16 m7) ∧
         (¬ (nI 4) ≤ x13 →
          vp_in x13 4 ∧
          (((nI 8) ≤ (m7.1 14 (x13).toNatClampNeg) →
           ∀ x19 : Int32, x19 = (v3 + (if (nI 1) < (m7.1 9 11) then (m7.1 9 11) else (nI 1))) →
           hd_X4_learnNumbers_2 Q N x19 m7) ∧
          (¬ (nI 8) ≤ (m7.1 14 (x13).toNatClampNeg) →
           ∃ Q20 : Nat → xm_M → Prop, xCr true true k_X4_bookOf m7 [.ref 9, .int (m7.1 14 (x13).toNatClampNeg)] Q20 ∧
           ∀ (r22 : Nat) (m21 : xm_M), Q20 r22 m21 →
           xs_bk r22 ∧
           ∃ Q24 : xm_M → Prop, xCv true true k_X4_learnPart m21 [.ref 9, .ref 7, .ref r22, .ref N, .int v3] Q24 ∧
           ∀ m25 : xm_M, Q24 m25 →
           ∀ x28 : Int32, x28 = (v3 + (if (nI 1) < (m25.1 9 11) then (m25.1 9 11) else (nI 1))) →
           hd_X4_learnNumbers_2 Q N x28 m25))))) ∧
        (¬ (nI 1) ≤ (m7.1 9 12) →
         Q m7))))))) :
    hd_X4_learnNumbers_2 Q N v3 μ := by
  intro hR
  refine xs_iload_n dX4_learnNumbers_2 rfl ?_
  refine xs_bipush (nI 16) dX4_learnNumbers_3 (by decide) ?_
  refine xs_icmp_ge 103 dX4_learnNumbers_5 (by decide) (fun c1 => ?_) (fun c1 => ?_)
  · replace h := h.1 c1
    exact xs_ret none dX4_learnNumbers_103 trivial rfl ⟨hR, rfl, h⟩
  · replace h := h.2 c1
    refine xs_aload_n dX4_learnNumbers_8 rfl ?_
    refine xs_aload_n dX4_learnNumbers_9 rfl ?_
    refine xs_getI dX4_learnNumbers_10 fl_X4_83.g rfl sc_9 ?_
    obtain ⟨Q2, hQ2, h⟩ := h
    refine xs_callV (j := k_X4_bookOf) (As := [.int (μ.1 9 13)]) (S := []) dX4_learnNumbers_13 (hQ2 hR) ⟨ml_X4_56, mk_X4_bookOf.1, mk_X4_bookOf.2.1, mk_X4_bookOf.2.2⟩ mv_X4_bookOf ⟨Nat.le_of_ble_eq_true rfl, Nat.le_of_ble_eq_true rfl⟩ rfl (Nat.le_of_ble_eq_true rfl) sc_9 rfl ⟨rfl, rfl⟩ (fun rr m3 hq5 => ?_)
    obtain ⟨hR, r4, rfl, hq5⟩ := hq5
    replace h := h r4 m3 hq5
    obtain ⟨hr4, h⟩ := h
    refine xs_aload_n dX4_learnNumbers_16 rfl ?_
    obtain ⟨Q6, hQ6, h⟩ := h
    refine xs_callV (j := k_X1_nextEntry) (As := [.ref 7]) (S := []) dX4_learnNumbers_17 (hQ6 hR) ⟨ml_X4_99, mk_X1_nextEntry.1, mk_X1_nextEntry.2.1, mk_X1_nextEntry.2.2⟩ mv_X1_nextEntry ⟨Nat.le_of_ble_eq_true rfl, Nat.le_of_ble_eq_true rfl⟩ rfl (Nat.le_of_ble_eq_true rfl) (sb_0 hr4) rfl ⟨rfl, rfl⟩ (fun rr m7 hq9 => ?_)
    obtain ⟨hR, r8, rfl, hq9⟩ := hq9
    replace h := h r8 m7 hq9
    refine xs_istore [some (.ref 9), some (.ref 7), some (.ref N), some (.int v3), some (.int r8), none, none] dX4_learnNumbers_20 (by decide) rfl ?_
    refine xs_iload dX4_learnNumbers_22 rfl ?_
    refine xs_if_lt 35 dX4_learnNumbers_24 (by decide) (fun c10 => ?_) (fun c10 => ?_)
    · replace h := h.1 c10
      exact xs_ret none dX4_learnNumbers_35 trivial rfl ⟨hR, rfl, h⟩
    · replace h := h.2 c10
      refine xs_aload_n dX4_learnNumbers_27 rfl ?_
      refine xs_getI dX4_learnNumbers_28 fl_X4_44.g rfl sc_9 ?_
      refine xs_iconst (nI 1) dX4_learnNumbers_31 (by decide) ?_
      refine xs_icmp_ge 36 dX4_learnNumbers_32 (by decide) (fun c11 => ?_) (fun c11 => ?_)
      · replace h := h.1 c11
        refine xs_iload dX4_learnNumbers_36 rfl ?_
        refine xs_aload_n dX4_learnNumbers_38 rfl ?_
        refine xs_getI dX4_learnNumbers_39 fl_X4_44.g rfl sc_9 ?_
        obtain ⟨s12, h⟩ := h
        refine xs_irem dX4_learnNumbers_42 s12 ?_
        refine xs_nmI (fun x13 e_x13 => ?_)
        replace h := h x13 e_x13
        refine xs_istore [some (.ref 9), some (.ref 7), some (.ref N), some (.int v3), some (.int r8), some (.int x13), none] dX4_learnNumbers_43 (by decide) rfl ?_
        refine xs_iload dX4_learnNumbers_45 rfl ?_
        refine xs_aload_n dX4_learnNumbers_47 rfl ?_
        refine xs_getR dX4_learnNumbers_48 fl_X4_24 rfl sc_9 (rt_9_14 hR) ?_
        refine xs_alen 0 dX4_learnNumbers_51 sc_14 (fun _ => rfl) ?_
        refine xs_icmp_ge 65 dX4_learnNumbers_52 (by decide) (fun c14 => ?_) (fun c14 => ?_)
        · replace h := h.1 c14
          refine xs_bipush (nI 8) dX4_learnNumbers_65 (by decide) ?_
          refine xs_istore [some (.ref 9), some (.ref 7), some (.ref N), some (.int v3), some (.int r8), some (.int x13), some (.int (nI 8))] dX4_learnNumbers_67 (by decide) rfl ?_
          refine xs_iload dX4_learnNumbers_69 rfl ?_
          refine xs_bipush (nI 8) dX4_learnNumbers_71 (by decide) ?_
          refine xs_icmp_ge 89 dX4_learnNumbers_73 (by decide) (fun _ => ?_) (fun c15 => absurd c15 (by decide))
          refine xs_iload_n dX4_learnNumbers_89 rfl ?_
          refine xs_iconst (nI 1) dX4_learnNumbers_90 (by decide) ?_
          refine xs_aload_n dX4_learnNumbers_91 rfl ?_
          refine xs_getI dX4_learnNumbers_92 fl_X4_41.g rfl sc_9 ?_
          refine xs_mmax dX4_learnNumbers_95 ml_X4_106 (Nat.le_of_ble_eq_true rfl) (Nat.le_of_ble_eq_true rfl) ?_
          refine xs_iadd dX4_learnNumbers_98 ?_
          refine xs_nmI (fun x16 e_x16 => ?_)
          replace h := h x16 e_x16
          refine xs_istore_n [some (.ref 9), some (.ref 7), some (.ref N), some (.int x16), some (.int r8), some (.int x13), some (.int (nI 8))] dX4_learnNumbers_99 (by decide) rfl ?_
          refine xs_goto 2 dX4_learnNumbers_100 (by decide) ?_
          exact xs_loc [some (.ref 9), some (.ref 7), some (.ref N), some (.int x16), none, none, none] ⟨rfl, ⟨rfl, ⟨rfl, ⟨rfl, trivial⟩⟩⟩⟩ (h hR)
        · replace h := h.2 c14
          refine xs_aload_n dX4_learnNumbers_55 rfl ?_
          refine xs_getR dX4_learnNumbers_56 fl_X4_24 rfl sc_9 (rt_9_14 hR) ?_
          refine xs_iload dX4_learnNumbers_59 rfl ?_
          obtain ⟨s17, h⟩ := h
          refine xs_iald dX4_learnNumbers_61 sc_14 s17 ?_
          refine xs_goto 67 dX4_learnNumbers_62 (by decide) ?_
          refine xs_istore [some (.ref 9), some (.ref 7), some (.ref N), some (.int v3), some (.int r8), some (.int x13), some (.int (m7.1 14 (x13).toNatClampNeg))] dX4_learnNumbers_67 (by decide) rfl ?_
          refine xs_iload dX4_learnNumbers_69 rfl ?_
          refine xs_bipush (nI 8) dX4_learnNumbers_71 (by decide) ?_
          refine xs_icmp_ge 89 dX4_learnNumbers_73 (by decide) (fun c18 => ?_) (fun c18 => ?_)
          · replace h := h.1 c18
            refine xs_iload_n dX4_learnNumbers_89 rfl ?_
            refine xs_iconst (nI 1) dX4_learnNumbers_90 (by decide) ?_
            refine xs_aload_n dX4_learnNumbers_91 rfl ?_
            refine xs_getI dX4_learnNumbers_92 fl_X4_41.g rfl sc_9 ?_
            refine xs_mmax dX4_learnNumbers_95 ml_X4_106 (Nat.le_of_ble_eq_true rfl) (Nat.le_of_ble_eq_true rfl) ?_
            refine xs_iadd dX4_learnNumbers_98 ?_
            refine xs_nmI (fun x19 e_x19 => ?_)
            replace h := h x19 e_x19
            refine xs_istore_n [some (.ref 9), some (.ref 7), some (.ref N), some (.int x19), some (.int r8), some (.int x13), some (.int (m7.1 14 (x13).toNatClampNeg))] dX4_learnNumbers_99 (by decide) rfl ?_
            refine xs_goto 2 dX4_learnNumbers_100 (by decide) ?_
            exact xs_loc [some (.ref 9), some (.ref 7), some (.ref N), some (.int x19), none, none, none] ⟨rfl, ⟨rfl, ⟨rfl, ⟨rfl, trivial⟩⟩⟩⟩ (h hR)
          · replace h := h.2 c18
            refine xs_aload_n dX4_learnNumbers_76 rfl ?_
            refine xs_aload_n dX4_learnNumbers_77 rfl ?_
            refine xs_aload_n dX4_learnNumbers_78 rfl ?_
            refine xs_iload dX4_learnNumbers_79 rfl ?_
            obtain ⟨Q20, hQ20, h⟩ := h
            refine xs_callV (j := k_X4_bookOf) (As := [.int (m7.1 14 (x13).toNatClampNeg)]) (S := [.ref 7, .ref 9]) dX4_learnNumbers_81 (hQ20 hR) ⟨ml_X4_56, mk_X4_bookOf.1, mk_X4_bookOf.2.1, mk_X4_bookOf.2.2⟩ mv_X4_bookOf ⟨Nat.le_of_ble_eq_true rfl, Nat.le_of_ble_eq_true rfl⟩ rfl (Nat.le_of_ble_eq_true rfl) sc_9 rfl ⟨rfl, rfl⟩ (fun rr m21 hq23 => ?_)
            obtain ⟨hR, r22, rfl, hq23⟩ := hq23
            replace h := h r22 m21 hq23
            obtain ⟨hr22, h⟩ := h
            refine xs_aload_n dX4_learnNumbers_84 rfl ?_
            refine xs_iload_n dX4_learnNumbers_85 rfl ?_
            obtain ⟨Q24, hQ24, h⟩ := h
            refine xs_callV (j := k_X4_learnPart) (As := [.ref 7, .ref r22, .ref N, .int v3]) (S := []) dX4_learnNumbers_86 (hQ24 hR) ⟨ml_X4_102, mk_X4_learnPart.1, mk_X4_learnPart.2.1, mk_X4_learnPart.2.2⟩ mv_X4_learnPart ⟨Nat.le_of_ble_eq_true rfl, Nat.le_of_ble_eq_true rfl⟩ rfl (Nat.le_of_ble_eq_true rfl) sc_9 rfl ⟨rfl, rfl⟩ (fun rr m25 hq27 => ?_)
            obtain ⟨hR, rfl, hq27⟩ := hq27
            replace h := h m25 hq27
            refine xs_iload_n dX4_learnNumbers_89 rfl ?_
            refine xs_iconst (nI 1) dX4_learnNumbers_90 (by decide) ?_
            refine xs_aload_n dX4_learnNumbers_91 rfl ?_
            refine xs_getI dX4_learnNumbers_92 fl_X4_41.g rfl sc_9 ?_
            refine xs_mmax dX4_learnNumbers_95 ml_X4_106 (Nat.le_of_ble_eq_true rfl) (Nat.le_of_ble_eq_true rfl) ?_
            refine xs_iadd dX4_learnNumbers_98 ?_
            refine xs_nmI (fun x28 e_x28 => ?_)
            replace h := h x28 e_x28
            refine xs_istore_n [some (.ref 9), some (.ref 7), some (.ref N), some (.int x28), some (.int r8), some (.int x13), some (.int (m7.1 14 (x13).toNatClampNeg))] dX4_learnNumbers_99 (by decide) rfl ?_
            refine xs_goto 2 dX4_learnNumbers_100 (by decide) ?_
            exact xs_loc [some (.ref 9), some (.ref 7), some (.ref N), some (.int x28), none, none, none] ⟨rfl, ⟨rfl, ⟨rfl, ⟨rfl, trivial⟩⟩⟩⟩ (h hR)
      · replace h := h.2 c11
        exact xs_ret none dX4_learnNumbers_35 trivial rfl ⟨hR, rfl, h⟩
set_option maxHeartbeats 4000000 in
set_option maxRecDepth 100000 in
theorem g_X4_learnNumbers {Q : xm_M → Prop} {μ : xm_M} {N : Nat} (hN : xs_sh[N]? = some (.inr (.int, 16)))
    (h : hd_X4_learnNumbers_2 Q N (nI 0) μ) :
    xCv true true k_X4_learnNumbers μ [.ref 9, .ref 7, .ref N] Q := by
  intro hR
  refine xm_met [some (.ref 9), some (.ref 7), some (.ref N), none, none, none, none] 4 (by decide) (by simp [lg_sl, Value.category]) rfl ?_
  refine xs_iconst (nI 0) dX4_learnNumbers_0 (by decide) ?_
  refine xs_istore_n [some (.ref 9), some (.ref 7), some (.ref N), some (.int (nI 0)), none, none, none] dX4_learnNumbers_1 (by decide) rfl ?_
  exact xs_loc [some (.ref 9), some (.ref 7), some (.ref N), some (.int (nI 0)), none, none, none] ⟨rfl, ⟨rfl, ⟨rfl, ⟨rfl, trivial⟩⟩⟩⟩ (h hR)
abbrev hd_X4_learnPart_3 (Q : xm_M → Prop) (B : Nat) (N : Nat) (v4 : Int32) (v5 : Int32) (μ : xm_M) : Prop := xs_RT true μ → xR k_X4_learnPart none true (fun r _ μ' => xs_RT true μ' ∧ r = none ∧ Q μ') 3 [some (.ref 9), some (.ref 7), some (.ref B), some (.ref N), some (.int v4), some (.int v5), none] [] xs_sh (0, 0) μ
set_option maxHeartbeats 4000000 in
set_option maxRecDepth 100000 in
theorem l_X4_learnPart_3 {Q : xm_M → Prop} {μ : xm_M} {B : Nat} {N : Nat} (v4 : Int32) (v5 : Int32) (hB : xs_bk B) (hN : xs_sh[N]? = some (.inr (.int, 16)))
    (h : (((μ.1 9 11) ≤ v5 →
       Q μ) ∧
      (¬ (μ.1 9 11) ≤ v5 →
       ∃ Q2 : Int32 → xm_M → Prop, xCi true true k_X1_nextEntry μ [.ref B, .ref 7] Q2 ∧
       ∀ (r4 : Int32) (m3 : xm_M), Q2 r4 m3 →
       ((0 ≤ r4 →
        ∃ Q7 : xm_M → Prop, xCv true true k_X1_putValues m3 [.ref B, .int r4, .ref N, .int (v4 + v5)] Q7 ∧
        ∀ m8 : xm_M, Q7 m8 →
        ∀ x11 : Int32, x11 = (v5 + (if (nI 1) < (m8.1 B 0) then (m8.1 B 0) else (nI 1))) →
        hd_X4_learnPart_3 Q B N v4 x11 m8) ∧
       (¬ 0 ≤ r4 →
        Q m3))))) :
    hd_X4_learnPart_3 Q B N v4 v5 μ := by
  intro hR
  refine xs_iload dX4_learnPart_3 rfl ?_
  refine xs_aload_n dX4_learnPart_5 rfl ?_
  refine xs_getI dX4_learnPart_6 fl_X4_41.g rfl sc_9 ?_
  refine xs_icmp_ge 53 dX4_learnPart_9 (by decide) (fun c1 => ?_) (fun c1 => ?_)
  · replace h := h.1 c1
    exact xs_ret none dX4_learnPart_53 trivial rfl ⟨hR, rfl, h⟩
  · replace h := h.2 c1
    refine xs_aload_n dX4_learnPart_12 rfl ?_
    refine xs_aload_n dX4_learnPart_13 rfl ?_
    obtain ⟨Q2, hQ2, h⟩ := h
    refine xs_callV (j := k_X1_nextEntry) (As := [.ref 7]) (S := []) dX4_learnPart_14 (hQ2 hR) ⟨ml_X4_99, mk_X1_nextEntry.1, mk_X1_nextEntry.2.1, mk_X1_nextEntry.2.2⟩ mv_X1_nextEntry ⟨Nat.le_of_ble_eq_true rfl, Nat.le_of_ble_eq_true rfl⟩ rfl (Nat.le_of_ble_eq_true rfl) (sb_0 hB) rfl ⟨rfl, rfl⟩ (fun rr m3 hq5 => ?_)
    obtain ⟨hR, r4, rfl, hq5⟩ := hq5
    replace h := h r4 m3 hq5
    refine xs_istore [some (.ref 9), some (.ref 7), some (.ref B), some (.ref N), some (.int v4), some (.int v5), some (.int r4)] dX4_learnPart_17 (by decide) rfl ?_
    refine xs_iload dX4_learnPart_19 rfl ?_
    refine xs_if_ge 25 dX4_learnPart_21 (by decide) (fun c6 => ?_) (fun c6 => ?_)
    · replace h := h.1 c6
      refine xs_aload_n dX4_learnPart_25 rfl ?_
      refine xs_iload dX4_learnPart_26 rfl ?_
      refine xs_aload_n dX4_learnPart_28 rfl ?_
      refine xs_iload dX4_learnPart_29 rfl ?_
      refine xs_iload dX4_learnPart_31 rfl ?_
      refine xs_iadd dX4_learnPart_33 ?_
      obtain ⟨Q7, hQ7, h⟩ := h
      refine xs_callV (j := k_X1_putValues) (As := [.int r4, .ref N, .int (v4 + v5)]) (S := []) dX4_learnPart_34 (hQ7 hR) ⟨ml_X4_112, mk_X1_putValues.1, mk_X1_putValues.2.1, mk_X1_putValues.2.2⟩ mv_X1_putValues ⟨Nat.le_of_ble_eq_true rfl, Nat.le_of_ble_eq_true rfl⟩ rfl (Nat.le_of_ble_eq_true rfl) (sb_0 hB) rfl ⟨rfl, rfl⟩ (fun rr m8 hq10 => ?_)
      obtain ⟨hR, rfl, hq10⟩ := hq10
      replace h := h m8 hq10
      refine xs_iload dX4_learnPart_37 rfl ?_
      refine xs_iconst (nI 1) dX4_learnPart_39 (by decide) ?_
      refine xs_aload_n dX4_learnPart_40 rfl ?_
      refine xs_getI dX4_learnPart_41 fl_X4_93.g rfl (sb_0 hB) ?_
      refine xs_mmax dX4_learnPart_44 ml_X4_106 (Nat.le_of_ble_eq_true rfl) (Nat.le_of_ble_eq_true rfl) ?_
      refine xs_iadd dX4_learnPart_47 ?_
      refine xs_nmI (fun x11 e_x11 => ?_)
      replace h := h x11 e_x11
      refine xs_istore [some (.ref 9), some (.ref 7), some (.ref B), some (.ref N), some (.int v4), some (.int x11), some (.int r4)] dX4_learnPart_48 (by decide) rfl ?_
      refine xs_goto 3 dX4_learnPart_50 (by decide) ?_
      exact xs_loc [some (.ref 9), some (.ref 7), some (.ref B), some (.ref N), some (.int v4), some (.int x11), none] ⟨rfl, ⟨rfl, ⟨rfl, ⟨rfl, ⟨rfl, ⟨rfl, trivial⟩⟩⟩⟩⟩⟩ (h hR)
    · replace h := h.2 c6
      exact xs_ret none dX4_learnPart_24 trivial rfl ⟨hR, rfl, h⟩
set_option maxHeartbeats 4000000 in
set_option maxRecDepth 100000 in
theorem g_X4_learnPart {Q : xm_M → Prop} {μ : xm_M} {B : Nat} {N : Nat} (v4 : Int32) (hB : xs_bk B) (hN : xs_sh[N]? = some (.inr (.int, 16)))
    (h : hd_X4_learnPart_3 Q B N v4 (nI 0) μ) :
    xCv true true k_X4_learnPart μ [.ref 9, .ref 7, .ref B, .ref N, .int v4] Q := by
  intro hR
  refine xm_met [some (.ref 9), some (.ref 7), some (.ref B), some (.ref N), some (.int v4), none, none] 2 (by decide) (by simp [lg_sl, Value.category]) rfl ?_
  refine xs_iconst (nI 0) dX4_learnPart_0 (by decide) ?_
  refine xs_istore [some (.ref 9), some (.ref 7), some (.ref B), some (.ref N), some (.int v4), some (.int (nI 0)), none] dX4_learnPart_1 (by decide) rfl ?_
  exact xs_loc [some (.ref 9), some (.ref 7), some (.ref B), some (.ref N), some (.int v4), some (.int (nI 0)), none] ⟨rfl, ⟨rfl, ⟨rfl, ⟨rfl, ⟨rfl, ⟨rfl, trivial⟩⟩⟩⟩⟩⟩ (h hR)
