/-! ===== the law (printed by wip/gen/law.py) ===== -/
theorem cA_keep {μ m : xm_M} {A : AS} (h : cA μ A) (hk : loK μ m) : cA m A := by
  have g : ∀ c, c < 75 → m.1 c = μ.1 c := fun c hc => (hk c hc).1
  obtain ⟨⟨a1, a2, a3, a4⟩, ⟨b1, b2, b3, b4, b5⟩, ⟨l0, l1, l2, l3, l4, l5, l6, l7⟩, hT⟩ := h
  refine ⟨⟨by rw [g 1 (by decide)]; exact a1, a2, fun j hj => by rw [g 2 (by decide)]; exact a3 j hj, fun j => by rw [g 2 (by decide)]; exact a4 j⟩, ⟨by rw [g 0 (by decide)]; exact b1, b2, by rw [g 0 (by decide)]; exact b3, b4, fun c hc i hi => by rw [g (65 + 5 * c + 4) (by omega)]; exact b5 c hc i hi⟩, ?_, fun k hk => by rw [g 62 (by decide)]; exact hT.1 k hk, fun k hk => by rw [g 63 (by decide)]; exact hT.2 k hk⟩
  rw [g 0 (by decide), g 3 (by decide)]
  exact ⟨l0, l1, l2, l3, l4, l5, l6, l7⟩
theorem mA_keep {μ m : xm_M} {A : AS} (h : mA μ A) (hk : upK μ m) : mA m A := by
  have g : ∀ c, 75 ≤ c → m.1 c = μ.1 c := fun c hc => (hk c hc).1
  obtain ⟨⟨a1, a2, a3, a4⟩, ⟨b1, b2, b3, b4, b5⟩, hl, hT⟩ := h
  exact ⟨⟨by rw [g 75 (by decide)]; exact a1, a2, fun j hj => by rw [g 76 (by decide)]; exact a3 j hj, a4⟩, ⟨by rw [g 75 (by decide)]; exact b1, b2, by rw [g 75 (by decide)]; exact b3, b4, fun c hc i hi => by rw [g 105 (by decide)]; exact b5 c hc i hi⟩, fun k hk' => by rw [g 82 (by decide)]; exact hl k hk', fun k hk' => by rw [(hk 77 (by decide)).2]; exact hT k hk'⟩
theorem xs_sc {κ : xm_Meth} {fz : Bool} {P : Option Value → xm_Sh → xm_M → Prop} {pc : Nat} {Lc : List (Option Value)} {S : List Value} {sh : xm_Sh} {al : Nat × Nat} {μ : xm_M} {L i k : Nat} {xs : Nat → Int32} (hd : decode κ.2.1 pc = .ok (.iaload, 1)) (hi : i + k < L) (hL : L ≤ 4096) (kk : xR κ (some (L, xs)) fz P (pc + 1) Lc (.int (xs (i + k)) :: S) sh al μ) : xR κ (some (L, xs)) fz P pc Lc (.int (nI i + nI k) :: .ref 999 :: S) sh al μ := by
  rw [nI_add]
  refine xs_xald (q := (L, xs)) hd rfl (vin hi (by omega)) ?_
  show xR κ (some (L, xs)) fz P (pc + 1) Lc (.int (xs (nI (i + k)).toNatClampNeg) :: S) sh al μ
  rw [cl (by omega)]
  exact kk
theorem xs_sc0 {κ : xm_Meth} {fz : Bool} {P : Option Value → xm_Sh → xm_M → Prop} {pc : Nat} {Lc : List (Option Value)} {S : List Value} {sh : xm_Sh} {al : Nat × Nat} {μ : xm_M} {L i : Nat} {xs : Nat → Int32} (hd : decode κ.2.1 pc = .ok (.iaload, 1)) (hi : i < L) (hL : L ≤ 4096) (kk : xR κ (some (L, xs)) fz P (pc + 1) Lc (.int (xs i) :: S) sh al μ) : xR κ (some (L, xs)) fz P pc Lc (.int (nI i) :: .ref 999 :: S) sh al μ := by
  refine xs_xald (q := (L, xs)) hd rfl (vin hi (by omega)) ?_
  show xR κ (some (L, xs)) fz P (pc + 1) Lc (.int (xs (nI i).toNatClampNeg) :: S) sh al μ
  rw [cl (by omega)]
  exact kk
theorem xs_sw8 {x : Int32} {G : Prop} (h0 : x = 0 → G) (h1 : x = 1 → G) (h2 : x = 2 → G) (h3 : x = 3 → G) (h4 : x = 4 → G) (h5 : x = 5 → G) (h6 : x = 6 → G) (h7 : x = 7 → G) (h8 : x = 8 → G) (hd : (x.toInt < 0 ∨ 8 < x.toInt) → G) : G := by
  by_cases hc : x.toInt = 8
  · exact h8 (xs_sw_eq _ hc)
  · exact xs_sw7 h0 h1 h2 h3 h4 h5 h6 h7 (fun z => hd (by omega))
abbrev LR (L : Nat) (xs : Nat → Int32) (pc i : Nat) (S : List Value) (μ : xm_M) : Prop := xR k_L_law (some (L, xs)) false (fun r _ _ => r = some (.int 1)) pc [some (.ref 999), some (.ref 0), some (.ref 75), some (.int (nI i))] S xs_sh (106, 405314) μ
def opB (x : Int32) : Int32 := if x = 0 then nI 0 else nI 1
theorem opB_0 {x : Int32} (h : x = 0) : opB x = nI 0 := if_pos h
theorem opB_1 {x : Int32} (h : ¬ x = 0) : opB x = nI 1 := if_neg h
set_option maxHeartbeats 4000000 in
set_option maxRecDepth 100000 in
theorem law_feed {L i : Nat} {xs : Nat → Int32} {μ : xm_M} {A : AS} (hL : L ≤ 4096) (hi : i + 8 ≤ L) (hc : cA μ A) (hm : mA μ A) (hR : xs_RT false μ) (K : ∀ (m : xm_M) (A' : AS), cA m A' → mA m A' → xs_RT false m → LR L xs 431 i [] m) : LR L xs 84 i [] μ := by
  refine xs_aload_n dL_law_84 rfl ?_
  refine xs_aload_n dL_law_85 rfl ?_
  refine xs_iload_n dL_law_86 rfl ?_
  refine xs_iconst (nI 1) dL_law_87 (by decide) ?_
  refine xs_iadd dL_law_88 ?_
  refine xs_sc dL_law_89 (by omega) hL ?_
  refine xs_aload_n dL_law_90 rfl ?_
  refine xs_iload_n dL_law_91 rfl ?_
  refine xs_iconst (nI 2) dL_law_92 (by decide) ?_
  refine xs_iadd dL_law_93 ?_
  refine xs_sc dL_law_94 (by omega) hL ?_
  refine xs_aload_n dL_law_95 rfl ?_
  refine xs_iload_n dL_law_96 rfl ?_
  refine xs_iconst (nI 3) dL_law_97 (by decide) ?_
  refine xs_iadd dL_law_98 ?_
  refine xs_sc dL_law_99 (by omega) hL ?_
  refine xs_aload_n dL_law_100 rfl ?_
  refine xs_iload_n dL_law_101 rfl ?_
  refine xs_iconst (nI 4) dL_law_102 (by decide) ?_
  refine xs_iadd dL_law_103 ?_
  refine xs_sc dL_law_104 (by omega) hL ?_
  refine xs_aload_n dL_law_105 rfl ?_
  refine xs_iload_n dL_law_106 rfl ?_
  refine xs_iconst (nI 5) dL_law_107 (by decide) ?_
  refine xs_iadd dL_law_108 ?_
  refine xs_sc dL_law_109 (by omega) hL ?_
  refine xs_callV (j := k_X8_feed) (As := [.int (xs (i + 1)), .int (xs (i + 2)), .int (xs (i + 3)), .int (xs (i + 4)), .int (xs (i + 5))]) (S := []) dL_law_110 (c_feed (xs (i + 1)) (xs (i + 2)) (xs (i + 3)) (xs (i + 4)) (xs (i + 5)) hc hR) ⟨ml_L_13, mk_X8_feed.1, mk_X8_feed.2.1, mk_X8_feed.2.2⟩ mv_X8_feed ⟨Nat.le_of_ble_eq_true rfl, Nat.le_of_ble_eq_true rfl⟩ rfl (Nat.le_of_ble_eq_true rfl) sc_0 rfl ⟨rfl, rfl⟩ (fun rr m1 hq => ?_)
  obtain ⟨hR, r_m1, rfl, e_m1, hc, k_m1⟩ := hq
  replace hm := mA_keep hm k_m1
  refine xs_aload_n dL_law_113 rfl ?_
  refine xs_aload_n dL_law_114 rfl ?_
  refine xs_iload_n dL_law_115 rfl ?_
  refine xs_iconst (nI 1) dL_law_116 (by decide) ?_
  refine xs_iadd dL_law_117 ?_
  refine xs_sc dL_law_118 (by omega) hL ?_
  refine xs_aload_n dL_law_119 rfl ?_
  refine xs_iload_n dL_law_120 rfl ?_
  refine xs_iconst (nI 2) dL_law_121 (by decide) ?_
  refine xs_iadd dL_law_122 ?_
  refine xs_sc dL_law_123 (by omega) hL ?_
  refine xs_aload_n dL_law_124 rfl ?_
  refine xs_iload_n dL_law_125 rfl ?_
  refine xs_iconst (nI 3) dL_law_126 (by decide) ?_
  refine xs_iadd dL_law_127 ?_
  refine xs_sc dL_law_128 (by omega) hL ?_
  refine xs_aload_n dL_law_129 rfl ?_
  refine xs_iload_n dL_law_130 rfl ?_
  refine xs_iconst (nI 4) dL_law_131 (by decide) ?_
  refine xs_iadd dL_law_132 ?_
  refine xs_sc dL_law_133 (by omega) hL ?_
  refine xs_aload_n dL_law_134 rfl ?_
  refine xs_iload_n dL_law_135 rfl ?_
  refine xs_iconst (nI 5) dL_law_136 (by decide) ?_
  refine xs_iadd dL_law_137 ?_
  refine xs_sc dL_law_138 (by omega) hL ?_
  refine xs_callV (j := k_X9_feed) (As := [.int (xs (i + 1)), .int (xs (i + 2)), .int (xs (i + 3)), .int (xs (i + 4)), .int (xs (i + 5))]) (S := [.int r_m1]) dL_law_139 (c_mfeed (xs (i + 1)) (xs (i + 2)) (xs (i + 3)) (xs (i + 4)) (xs (i + 5)) hm hR) ⟨ml_L_17, mk_X9_feed.1, mk_X9_feed.2.1, mk_X9_feed.2.2⟩ mv_X9_feed ⟨Nat.le_of_ble_eq_true rfl, Nat.le_of_ble_eq_true rfl⟩ rfl (Nat.le_of_ble_eq_true rfl) sc_75 rfl ⟨rfl, rfl⟩ (fun rr m2 hq => ?_)
  obtain ⟨hR, r_m2, rfl, e_m2, hm, k_m2⟩ := hq
  replace hc := cA_keep hc k_m2
  refine xs_icmp_eq 431 dL_law_142 (by decide) (fun _ => K m2 _ hc hm hR) (fun q => absurd (e_m1.trans e_m2.symm) q)
set_option maxHeartbeats 4000000 in
set_option maxRecDepth 100000 in
theorem law_end {L i : Nat} {xs : Nat → Int32} {μ : xm_M} {A : AS} (hL : L ≤ 4096) (hi : i + 8 ≤ L) (hc : cA μ A) (hm : mA μ A) (hR : xs_RT false μ) (K : ∀ (m : xm_M) (A' : AS), cA m A' → mA m A' → xs_RT false m → LR L xs 431 i [] m) : LR L xs 147 i [] μ := by
  refine xs_aload_n dL_law_147 rfl ?_
  refine xs_aload_n dL_law_148 rfl ?_
  refine xs_iload_n dL_law_149 rfl ?_
  refine xs_iconst (nI 1) dL_law_150 (by decide) ?_
  refine xs_iadd dL_law_151 ?_
  refine xs_sc dL_law_152 (by omega) hL ?_
  refine xs_callV (j := k_X8_end) (As := [.int (xs (i + 1))]) (S := []) dL_law_153 (c_end (xs (i + 1)) hc hR) ⟨ml_L_18, mk_X8_end.1, mk_X8_end.2.1, mk_X8_end.2.2⟩ mv_X8_end ⟨Nat.le_of_ble_eq_true rfl, Nat.le_of_ble_eq_true rfl⟩ rfl (Nat.le_of_ble_eq_true rfl) sc_0 rfl ⟨rfl, rfl⟩ (fun rr m1 hq => ?_)
  obtain ⟨hR, r_m1, rfl, e_m1, hc, k_m1⟩ := hq
  replace hm := mA_keep hm k_m1
  refine xs_aload_n dL_law_156 rfl ?_
  refine xs_aload_n dL_law_157 rfl ?_
  refine xs_iload_n dL_law_158 rfl ?_
  refine xs_iconst (nI 1) dL_law_159 (by decide) ?_
  refine xs_iadd dL_law_160 ?_
  refine xs_sc dL_law_161 (by omega) hL ?_
  refine xs_callV (j := k_X9_end) (As := [.int (xs (i + 1))]) (S := [.int r_m1]) dL_law_162 (c_mend (xs (i + 1)) hm hR) ⟨ml_L_22, mk_X9_end.1, mk_X9_end.2.1, mk_X9_end.2.2⟩ mv_X9_end ⟨Nat.le_of_ble_eq_true rfl, Nat.le_of_ble_eq_true rfl⟩ rfl (Nat.le_of_ble_eq_true rfl) sc_75 rfl ⟨rfl, rfl⟩ (fun rr m2 hq => ?_)
  obtain ⟨hR, r_m2, rfl, e_m2, hm, k_m2⟩ := hq
  replace hc := cA_keep hc k_m2
  refine xs_icmp_eq 431 dL_law_165 (by decide) (fun _ => K m2 _ hc hm hR) (fun q => absurd (e_m1.trans e_m2.symm) q)
set_option maxHeartbeats 4000000 in
set_option maxRecDepth 100000 in
theorem law_harm {L i : Nat} {xs : Nat → Int32} {μ : xm_M} {A : AS} (hL : L ≤ 4096) (hi : i + 8 ≤ L) (hc : cA μ A) (hm : mA μ A) (hR : xs_RT false μ) (K : ∀ (m : xm_M) (A' : AS), cA m A' → mA m A' → xs_RT false m → LR L xs 431 i [] m) : LR L xs 170 i [] μ := by
  refine xs_aload_n dL_law_170 rfl ?_
  refine xs_aload_n dL_law_171 rfl ?_
  refine xs_iload_n dL_law_172 rfl ?_
  refine xs_iconst (nI 1) dL_law_173 (by decide) ?_
  refine xs_iadd dL_law_174 ?_
  refine xs_sc dL_law_175 (by omega) hL ?_
  refine xs_aload_n dL_law_176 rfl ?_
  refine xs_iload_n dL_law_177 rfl ?_
  refine xs_iconst (nI 2) dL_law_178 (by decide) ?_
  refine xs_iadd dL_law_179 ?_
  refine xs_sc dL_law_180 (by omega) hL ?_
  refine xs_callV (j := k_X8_harm) (As := [.int (xs (i + 1)), .int (xs (i + 2))]) (S := []) dL_law_181 (c_harm (xs (i + 1)) (xs (i + 2)) hc hR) ⟨ml_L_23, mk_X8_harm.1, mk_X8_harm.2.1, mk_X8_harm.2.2⟩ mv_X8_harm ⟨Nat.le_of_ble_eq_true rfl, Nat.le_of_ble_eq_true rfl⟩ rfl (Nat.le_of_ble_eq_true rfl) sc_0 rfl ⟨rfl, rfl⟩ (fun rr m1 hq => ?_)
  obtain ⟨hR, r_m1, rfl, e_m1, hc, k_m1⟩ := hq
  replace hm := mA_keep hm k_m1
  refine xs_aload_n dL_law_184 rfl ?_
  refine xs_aload_n dL_law_185 rfl ?_
  refine xs_iload_n dL_law_186 rfl ?_
  refine xs_iconst (nI 1) dL_law_187 (by decide) ?_
  refine xs_iadd dL_law_188 ?_
  refine xs_sc dL_law_189 (by omega) hL ?_
  refine xs_aload_n dL_law_190 rfl ?_
  refine xs_iload_n dL_law_191 rfl ?_
  refine xs_iconst (nI 2) dL_law_192 (by decide) ?_
  refine xs_iadd dL_law_193 ?_
  refine xs_sc dL_law_194 (by omega) hL ?_
  refine xs_callV (j := k_X9_harm) (As := [.int (xs (i + 1)), .int (xs (i + 2))]) (S := [.int r_m1]) dL_law_195 (c_mharm (xs (i + 1)) (xs (i + 2)) hm hR) ⟨ml_L_27, mk_X9_harm.1, mk_X9_harm.2.1, mk_X9_harm.2.2⟩ mv_X9_harm ⟨Nat.le_of_ble_eq_true rfl, Nat.le_of_ble_eq_true rfl⟩ rfl (Nat.le_of_ble_eq_true rfl) sc_75 rfl ⟨rfl, rfl⟩ (fun rr m2 hq => ?_)
  obtain ⟨hR, r_m2, rfl, e_m2, hm, k_m2⟩ := hq
  replace hc := cA_keep hc k_m2
  refine xs_icmp_eq 431 dL_law_198 (by decide) (fun _ => K m2 _ hc hm hR) (fun q => absurd (e_m1.trans e_m2.symm) q)
set_option maxHeartbeats 4000000 in
set_option maxRecDepth 100000 in
theorem law_page {L i : Nat} {xs : Nat → Int32} {μ : xm_M} {A : AS} (hL : L ≤ 4096) (hi : i + 8 ≤ L) (hc : cA μ A) (hm : mA μ A) (hR : xs_RT false μ) (K : ∀ (m : xm_M) (A' : AS), cA m A' → mA m A' → xs_RT false m → LR L xs 431 i [] m) : LR L xs 203 i [] μ := by
  refine xs_aload_n dL_law_203 rfl ?_
  refine xs_aload_n dL_law_204 rfl ?_
  refine xs_iload_n dL_law_205 rfl ?_
  refine xs_iconst (nI 1) dL_law_206 (by decide) ?_
  refine xs_iadd dL_law_207 ?_
  refine xs_sc dL_law_208 (by omega) hL ?_
  refine xs_aload_n dL_law_209 rfl ?_
  refine xs_iload_n dL_law_210 rfl ?_
  refine xs_iconst (nI 2) dL_law_211 (by decide) ?_
  refine xs_iadd dL_law_212 ?_
  refine xs_sc dL_law_213 (by omega) hL ?_
  refine xs_aload_n dL_law_214 rfl ?_
  refine xs_iload_n dL_law_215 rfl ?_
  refine xs_iconst (nI 3) dL_law_216 (by decide) ?_
  refine xs_iadd dL_law_217 ?_
  refine xs_sc dL_law_218 (by omega) hL ?_
  refine xs_i2l dL_law_219 ?_
  refine xs_bipush (nI 32) dL_law_220 (by decide) ?_
  refine xs_lshl dL_law_222 ?_
  refine xs_aload_n dL_law_223 rfl ?_
  refine xs_iload_n dL_law_224 rfl ?_
  refine xs_iconst (nI 4) dL_law_225 (by decide) ?_
  refine xs_iadd dL_law_226 ?_
  refine xs_sc dL_law_227 (by omega) hL ?_
  refine xs_i2l dL_law_228 ?_
  refine xs_ldc2 dL_law_229 cn_L_28 ?_
  refine xs_land dL_law_232 ?_
  refine xs_lor dL_law_233 ?_
  refine xs_aload_n dL_law_234 rfl ?_
  refine xs_iload_n dL_law_235 rfl ?_
  refine xs_iconst (nI 5) dL_law_236 (by decide) ?_
  refine xs_iadd dL_law_237 ?_
  refine xs_sc dL_law_238 (by omega) hL ?_
  refine xs_aload_n dL_law_239 rfl ?_
  refine xs_iload_n dL_law_240 rfl ?_
  refine xs_bipush (nI 6) dL_law_241 (by decide) ?_
  refine xs_iadd dL_law_243 ?_
  refine xs_sc dL_law_244 (by omega) hL ?_
  refine xs_aload_n dL_law_245 rfl ?_
  refine xs_iload_n dL_law_246 rfl ?_
  refine xs_bipush (nI 7) dL_law_247 (by decide) ?_
  refine xs_iadd dL_law_249 ?_
  refine xs_sc dL_law_250 (by omega) hL ?_
  suffices hK : LR L xs 259 i [.int (opB (xs (i + 7))), .int (xs (i + 6)), .int (xs (i + 5)), .long (((xs (i + 3)).toInt64 <<< ((nI 32).toInt64 &&& 63)) ||| ((xs (i + 4)).toInt64 &&& (4294967295 : Int64))), .int (xs (i + 2)), .int (xs (i + 1)), .ref 0] μ from by
    refine xs_if_eq 258 dL_law_251 (by decide) (fun q => ?_) (fun q => ?_)
    · refine xs_iconst (nI 0) dL_law_258 (by decide) ?_
      rw [opB_0 q] at hK
      exact hK
    · refine xs_iconst (nI 1) dL_law_254 (by decide) ?_
      refine xs_goto 259 dL_law_255 (by decide) ?_
      rw [opB_1 q] at hK
      exact hK
  refine xs_callV (j := k_X8_page) (As := [.int (xs (i + 1)), .int (xs (i + 2)), .long (((xs (i + 3)).toInt64 <<< ((nI 32).toInt64 &&& 63)) ||| ((xs (i + 4)).toInt64 &&& (4294967295 : Int64))), .int (xs (i + 5)), .int (xs (i + 6)), .int (opB (xs (i + 7)))]) (S := []) dL_law_259 (c_page (xs (i + 1)) (xs (i + 2)) (((xs (i + 3)).toInt64 <<< ((nI 32).toInt64 &&& 63)) ||| ((xs (i + 4)).toInt64 &&& (4294967295 : Int64))) (xs (i + 5)) (xs (i + 6)) (opB (xs (i + 7))) hc hR) ⟨ml_L_30, mk_X8_page.1, mk_X8_page.2.1, mk_X8_page.2.2⟩ mv_X8_page ⟨Nat.le_of_ble_eq_true rfl, Nat.le_of_ble_eq_true rfl⟩ rfl (Nat.le_of_ble_eq_true rfl) sc_0 rfl ⟨rfl, rfl⟩ (fun rr m1 hq => ?_)
  obtain ⟨hR, r_m1, rfl, e_m1, hc, k_m1⟩ := hq
  replace hm := mA_keep hm k_m1
  refine xs_aload_n dL_law_262 rfl ?_
  refine xs_aload_n dL_law_263 rfl ?_
  refine xs_iload_n dL_law_264 rfl ?_
  refine xs_iconst (nI 1) dL_law_265 (by decide) ?_
  refine xs_iadd dL_law_266 ?_
  refine xs_sc dL_law_267 (by omega) hL ?_
  refine xs_aload_n dL_law_268 rfl ?_
  refine xs_iload_n dL_law_269 rfl ?_
  refine xs_iconst (nI 2) dL_law_270 (by decide) ?_
  refine xs_iadd dL_law_271 ?_
  refine xs_sc dL_law_272 (by omega) hL ?_
  refine xs_aload_n dL_law_273 rfl ?_
  refine xs_iload_n dL_law_274 rfl ?_
  refine xs_iconst (nI 3) dL_law_275 (by decide) ?_
  refine xs_iadd dL_law_276 ?_
  refine xs_sc dL_law_277 (by omega) hL ?_
  refine xs_i2l dL_law_278 ?_
  refine xs_bipush (nI 32) dL_law_279 (by decide) ?_
  refine xs_lshl dL_law_281 ?_
  refine xs_aload_n dL_law_282 rfl ?_
  refine xs_iload_n dL_law_283 rfl ?_
  refine xs_iconst (nI 4) dL_law_284 (by decide) ?_
  refine xs_iadd dL_law_285 ?_
  refine xs_sc dL_law_286 (by omega) hL ?_
  refine xs_i2l dL_law_287 ?_
  refine xs_ldc2 dL_law_288 cn_L_28 ?_
  refine xs_land dL_law_291 ?_
  refine xs_lor dL_law_292 ?_
  refine xs_aload_n dL_law_293 rfl ?_
  refine xs_iload_n dL_law_294 rfl ?_
  refine xs_iconst (nI 5) dL_law_295 (by decide) ?_
  refine xs_iadd dL_law_296 ?_
  refine xs_sc dL_law_297 (by omega) hL ?_
  refine xs_aload_n dL_law_298 rfl ?_
  refine xs_iload_n dL_law_299 rfl ?_
  refine xs_bipush (nI 6) dL_law_300 (by decide) ?_
  refine xs_iadd dL_law_302 ?_
  refine xs_sc dL_law_303 (by omega) hL ?_
  refine xs_aload_n dL_law_304 rfl ?_
  refine xs_iload_n dL_law_305 rfl ?_
  refine xs_bipush (nI 7) dL_law_306 (by decide) ?_
  refine xs_iadd dL_law_308 ?_
  refine xs_sc dL_law_309 (by omega) hL ?_
  suffices hK : LR L xs 318 i [.int (opB (xs (i + 7))), .int (xs (i + 6)), .int (xs (i + 5)), .long (((xs (i + 3)).toInt64 <<< ((nI 32).toInt64 &&& 63)) ||| ((xs (i + 4)).toInt64 &&& (4294967295 : Int64))), .int (xs (i + 2)), .int (xs (i + 1)), .ref 75, .int r_m1] m1 from by
    refine xs_if_eq 317 dL_law_310 (by decide) (fun q => ?_) (fun q => ?_)
    · refine xs_iconst (nI 0) dL_law_317 (by decide) ?_
      rw [opB_0 q] at hK
      exact hK
    · refine xs_iconst (nI 1) dL_law_313 (by decide) ?_
      refine xs_goto 318 dL_law_314 (by decide) ?_
      rw [opB_1 q] at hK
      exact hK
  refine xs_callV (j := k_X9_page) (As := [.int (xs (i + 1)), .int (xs (i + 2)), .long (((xs (i + 3)).toInt64 <<< ((nI 32).toInt64 &&& 63)) ||| ((xs (i + 4)).toInt64 &&& (4294967295 : Int64))), .int (xs (i + 5)), .int (xs (i + 6)), .int (opB (xs (i + 7)))]) (S := [.int r_m1]) dL_law_318 (c_mpage (xs (i + 1)) (xs (i + 2)) (((xs (i + 3)).toInt64 <<< ((nI 32).toInt64 &&& 63)) ||| ((xs (i + 4)).toInt64 &&& (4294967295 : Int64))) (xs (i + 5)) (xs (i + 6)) (opB (xs (i + 7))) hm hR) ⟨ml_L_34, mk_X9_page.1, mk_X9_page.2.1, mk_X9_page.2.2⟩ mv_X9_page ⟨Nat.le_of_ble_eq_true rfl, Nat.le_of_ble_eq_true rfl⟩ rfl (Nat.le_of_ble_eq_true rfl) sc_75 rfl ⟨rfl, rfl⟩ (fun rr m2 hq => ?_)
  obtain ⟨hR, r_m2, rfl, e_m2, hm, k_m2⟩ := hq
  replace hc := cA_keep hc k_m2
  refine xs_icmp_eq 431 dL_law_321 (by decide) (fun _ => K m2 _ hc hm hR) (fun q => absurd (e_m1.trans e_m2.symm) q)
set_option maxHeartbeats 4000000 in
set_option maxRecDepth 100000 in
theorem law_read {L i : Nat} {xs : Nat → Int32} {μ : xm_M} {A : AS} (hL : L ≤ 4096) (hi : i + 8 ≤ L) (hc : cA μ A) (hm : mA μ A) (hR : xs_RT false μ) (K : ∀ (m : xm_M) (A' : AS), cA m A' → mA m A' → xs_RT false m → LR L xs 431 i [] m) : LR L xs 326 i [] μ := by
  refine xs_aload_n dL_law_326 rfl ?_
  refine xs_callV (j := k_X8_read) (As := []) (S := []) dL_law_327 (c_read  hc hR) ⟨ml_L_35, mk_X8_read.1, mk_X8_read.2.1, mk_X8_read.2.2⟩ mv_X8_read ⟨Nat.le_of_ble_eq_true rfl, Nat.le_of_ble_eq_true rfl⟩ rfl (Nat.le_of_ble_eq_true rfl) sc_0 rfl ⟨rfl, rfl⟩ (fun rr m1 hq => ?_)
  obtain ⟨hR, r_m1, rfl, e_m1, hc, k_m1⟩ := hq
  replace hm := mA_keep hm k_m1
  refine xs_aload_n dL_law_330 rfl ?_
  refine xs_callV (j := k_X9_read) (As := []) (S := [.int r_m1]) dL_law_331 (c_mread  hm hR) ⟨ml_L_39, mk_X9_read.1, mk_X9_read.2.1, mk_X9_read.2.2⟩ mv_X9_read ⟨Nat.le_of_ble_eq_true rfl, Nat.le_of_ble_eq_true rfl⟩ rfl (Nat.le_of_ble_eq_true rfl) sc_75 rfl ⟨rfl, rfl⟩ (fun rr m2 hq => ?_)
  obtain ⟨hR, r_m2, rfl, e_m2, hm, k_m2⟩ := hq
  replace hc := cA_keep hc k_m2
  refine xs_icmp_eq 431 dL_law_334 (by decide) (fun _ => K m2 _ hc hm hR) (fun q => absurd (e_m1.trans e_m2.symm) q)
set_option maxHeartbeats 4000000 in
set_option maxRecDepth 100000 in
theorem law_sample {L i : Nat} {xs : Nat → Int32} {μ : xm_M} {A : AS} (hL : L ≤ 4096) (hi : i + 8 ≤ L) (hc : cA μ A) (hm : mA μ A) (hR : xs_RT false μ) (K : ∀ (m : xm_M) (A' : AS), cA m A' → mA m A' → xs_RT false m → LR L xs 431 i [] m) : LR L xs 339 i [] μ := by
  refine xs_aload_n dL_law_339 rfl ?_
  refine xs_aload_n dL_law_340 rfl ?_
  refine xs_iload_n dL_law_341 rfl ?_
  refine xs_iconst (nI 1) dL_law_342 (by decide) ?_
  refine xs_iadd dL_law_343 ?_
  refine xs_sc dL_law_344 (by omega) hL ?_
  refine xs_aload_n dL_law_345 rfl ?_
  refine xs_iload_n dL_law_346 rfl ?_
  refine xs_iconst (nI 2) dL_law_347 (by decide) ?_
  refine xs_iadd dL_law_348 ?_
  refine xs_sc dL_law_349 (by omega) hL ?_
  refine xs_callV (j := k_X8_sample) (As := [.int (xs (i + 1)), .int (xs (i + 2))]) (S := []) dL_law_350 (c_sample (xs (i + 1)) (xs (i + 2)) hc hR) ⟨ml_L_40, mk_X8_sample.1, mk_X8_sample.2.1, mk_X8_sample.2.2⟩ mv_X8_sample ⟨Nat.le_of_ble_eq_true rfl, Nat.le_of_ble_eq_true rfl⟩ rfl (Nat.le_of_ble_eq_true rfl) sc_0 rfl ⟨rfl, rfl⟩ (fun rr m1 hq => ?_)
  obtain ⟨hR, r_m1, rfl, e_m1, hc, k_m1⟩ := hq
  replace hm := mA_keep hm k_m1
  refine xs_aload_n dL_law_353 rfl ?_
  refine xs_aload_n dL_law_354 rfl ?_
  refine xs_iload_n dL_law_355 rfl ?_
  refine xs_iconst (nI 1) dL_law_356 (by decide) ?_
  refine xs_iadd dL_law_357 ?_
  refine xs_sc dL_law_358 (by omega) hL ?_
  refine xs_aload_n dL_law_359 rfl ?_
  refine xs_iload_n dL_law_360 rfl ?_
  refine xs_iconst (nI 2) dL_law_361 (by decide) ?_
  refine xs_iadd dL_law_362 ?_
  refine xs_sc dL_law_363 (by omega) hL ?_
  refine xs_callV (j := k_X9_sample) (As := [.int (xs (i + 1)), .int (xs (i + 2))]) (S := [.int r_m1]) dL_law_364 (c_msample (xs (i + 1)) (xs (i + 2)) hm hR) ⟨ml_L_44, mk_X9_sample.1, mk_X9_sample.2.1, mk_X9_sample.2.2⟩ mv_X9_sample ⟨Nat.le_of_ble_eq_true rfl, Nat.le_of_ble_eq_true rfl⟩ rfl (Nat.le_of_ble_eq_true rfl) sc_75 rfl ⟨rfl, rfl⟩ (fun rr m2 hq => ?_)
  obtain ⟨hR, r_m2, rfl, e_m2, hm, k_m2⟩ := hq
  replace hc := cA_keep hc k_m2
  refine xs_icmp_eq 431 dL_law_367 (by decide) (fun _ => K m2 _ hc hm hR) (fun q => absurd (e_m1.trans e_m2.symm) q)
set_option maxHeartbeats 4000000 in
set_option maxRecDepth 100000 in
theorem law_look {L i : Nat} {xs : Nat → Int32} {μ : xm_M} {A : AS} (hL : L ≤ 4096) (hi : i + 8 ≤ L) (hc : cA μ A) (hm : mA μ A) (hR : xs_RT false μ) (K : ∀ (m : xm_M) (A' : AS), cA m A' → mA m A' → xs_RT false m → LR L xs 431 i [] m) : LR L xs 372 i [] μ := by
  refine xs_aload_n dL_law_372 rfl ?_
  refine xs_aload_n dL_law_373 rfl ?_
  refine xs_iload_n dL_law_374 rfl ?_
  refine xs_iconst (nI 1) dL_law_375 (by decide) ?_
  refine xs_iadd dL_law_376 ?_
  refine xs_sc dL_law_377 (by omega) hL ?_
  refine xs_callV (j := k_X8_look) (As := [.int (xs (i + 1))]) (S := []) dL_law_378 (c_look (xs (i + 1)) hc hR) ⟨ml_L_45, mk_X8_look.1, mk_X8_look.2.1, mk_X8_look.2.2⟩ mv_X8_look ⟨Nat.le_of_ble_eq_true rfl, Nat.le_of_ble_eq_true rfl⟩ rfl (Nat.le_of_ble_eq_true rfl) sc_0 rfl ⟨rfl, rfl⟩ (fun rr m1 hq => ?_)
  obtain ⟨hR, r_m1, rfl, e_m1, hc, k_m1⟩ := hq
  replace hm := mA_keep hm k_m1
  refine xs_aload_n dL_law_381 rfl ?_
  refine xs_aload_n dL_law_382 rfl ?_
  refine xs_iload_n dL_law_383 rfl ?_
  refine xs_iconst (nI 1) dL_law_384 (by decide) ?_
  refine xs_iadd dL_law_385 ?_
  refine xs_sc dL_law_386 (by omega) hL ?_
  refine xs_callV (j := k_X9_look) (As := [.int (xs (i + 1))]) (S := [.int r_m1]) dL_law_387 (c_mlook (xs (i + 1)) hm hR) ⟨ml_L_49, mk_X9_look.1, mk_X9_look.2.1, mk_X9_look.2.2⟩ mv_X9_look ⟨Nat.le_of_ble_eq_true rfl, Nat.le_of_ble_eq_true rfl⟩ rfl (Nat.le_of_ble_eq_true rfl) sc_75 rfl ⟨rfl, rfl⟩ (fun rr m2 hq => ?_)
  obtain ⟨hR, r_m2, rfl, e_m2, hm, k_m2⟩ := hq
  replace hc := cA_keep hc k_m2
  refine xs_icmp_eq 431 dL_law_390 (by decide) (fun _ => K m2 _ hc hm hR) (fun q => absurd (e_m1.trans e_m2.symm) q)
set_option maxHeartbeats 4000000 in
set_option maxRecDepth 100000 in
theorem law_sum {L i : Nat} {xs : Nat → Int32} {μ : xm_M} {A : AS} (hL : L ≤ 4096) (hi : i + 8 ≤ L) (hc : cA μ A) (hm : mA μ A) (hR : xs_RT false μ) (K : ∀ (m : xm_M) (A' : AS), cA m A' → mA m A' → xs_RT false m → LR L xs 431 i [] m) : LR L xs 395 i [] μ := by
  refine xs_aload_n dL_law_395 rfl ?_
  refine xs_aload_n dL_law_396 rfl ?_
  refine xs_iload_n dL_law_397 rfl ?_
  refine xs_iconst (nI 1) dL_law_398 (by decide) ?_
  refine xs_iadd dL_law_399 ?_
  refine xs_sc dL_law_400 (by omega) hL ?_
  refine xs_callV (j := k_X8_sum) (As := [.int (xs (i + 1))]) (S := []) dL_law_401 (c_sum (xs (i + 1)) hc hR) ⟨ml_L_50, mk_X8_sum.1, mk_X8_sum.2.1, mk_X8_sum.2.2⟩ mv_X8_sum ⟨Nat.le_of_ble_eq_true rfl, Nat.le_of_ble_eq_true rfl⟩ rfl (Nat.le_of_ble_eq_true rfl) sc_0 rfl ⟨rfl, rfl⟩ (fun rr m1 hq => ?_)
  obtain ⟨hR, r_m1, rfl, e_m1, hc, k_m1⟩ := hq
  replace hm := mA_keep hm k_m1
  refine xs_aload_n dL_law_404 rfl ?_
  refine xs_aload_n dL_law_405 rfl ?_
  refine xs_iload_n dL_law_406 rfl ?_
  refine xs_iconst (nI 1) dL_law_407 (by decide) ?_
  refine xs_iadd dL_law_408 ?_
  refine xs_sc dL_law_409 (by omega) hL ?_
  refine xs_callV (j := k_X9_sum) (As := [.int (xs (i + 1))]) (S := [.int r_m1]) dL_law_410 (c_msum (xs (i + 1)) hm hR) ⟨ml_L_53, mk_X9_sum.1, mk_X9_sum.2.1, mk_X9_sum.2.2⟩ mv_X9_sum ⟨Nat.le_of_ble_eq_true rfl, Nat.le_of_ble_eq_true rfl⟩ rfl (Nat.le_of_ble_eq_true rfl) sc_75 rfl ⟨rfl, rfl⟩ (fun rr m2 hq => ?_)
  obtain ⟨hR, r_m2, rfl, e_m2, hm, k_m2⟩ := hq
  replace hc := cA_keep hc k_m2
  refine xs_icmp_eq 431 dL_law_413 (by decide) (fun _ => K m2 _ hc hm hR) (fun q => absurd (e_m1.trans e_m2.symm) q)
set_option maxHeartbeats 4000000 in
set_option maxRecDepth 100000 in
theorem law_taped {L i : Nat} {xs : Nat → Int32} {μ : xm_M} {A : AS} (hL : L ≤ 4096) (hi : i + 8 ≤ L) (hc : cA μ A) (hm : mA μ A) (hR : xs_RT false μ) (K : ∀ (m : xm_M) (A' : AS), cA m A' → mA m A' → xs_RT false m → LR L xs 431 i [] m) : LR L xs 418 i [] μ := by
  refine xs_aload_n dL_law_418 rfl ?_
  refine xs_callV (j := k_X8_taped) (As := []) (S := []) dL_law_419 (c_taped  hc hR) ⟨ml_L_54, mk_X8_taped.1, mk_X8_taped.2.1, mk_X8_taped.2.2⟩ mv_X8_taped ⟨Nat.le_of_ble_eq_true rfl, Nat.le_of_ble_eq_true rfl⟩ rfl (Nat.le_of_ble_eq_true rfl) sc_0 rfl ⟨rfl, rfl⟩ (fun rr m1 hq => ?_)
  obtain ⟨hR, r_m1, rfl, e_m1, hc, k_m1⟩ := hq
  replace hm := mA_keep hm k_m1
  refine xs_aload_n dL_law_422 rfl ?_
  refine xs_callV (j := k_X9_taped) (As := []) (S := [.int r_m1]) dL_law_423 (c_mtaped  hm hR) ⟨ml_L_57, mk_X9_taped.1, mk_X9_taped.2.1, mk_X9_taped.2.2⟩ mv_X9_taped ⟨Nat.le_of_ble_eq_true rfl, Nat.le_of_ble_eq_true rfl⟩ rfl (Nat.le_of_ble_eq_true rfl) sc_75 rfl ⟨rfl, rfl⟩ (fun rr m2 hq => ?_)
  obtain ⟨hR, r_m2, rfl, e_m2, hm, k_m2⟩ := hq
  replace hc := cA_keep hc k_m2
  refine xs_icmp_eq 431 dL_law_426 (by decide) (fun _ => K m2 _ hc hm hR) (fun q => absurd (e_m1.trans e_m2.symm) q)
theorem lw_lt {L t : Nat} (hL : L ≤ 4096) (ht : t < 2 ^ 30) (h : L < t + 8) : nI L - nI 8 < nI t := by
  rw [Int32.lt_iff_toInt_lt, pk_sub_toInt (by omega) (by decide), nI_toInt (by omega)]
  omega
set_option maxHeartbeats 4000000 in
theorem law_loop {L : Nat} {xs : Nat → Int32} (hL : L ≤ 4096) : ∀ (d t : Nat) (μ : xm_M) (A : AS), L < t + d → t ≤ 4096 + 8 → cA μ A → mA μ A → xs_RT false μ → LR L xs 18 t [] μ := by
  intro d
  induction d with
  | zero =>
    intro t μ A hd ht hc hm hR
    refine xs_iload_n dL_law_18 rfl ?_
    refine xs_aload_n dL_law_19 rfl ?_
    refine xs_xlen (q := (L, xs)) dL_law_20 rfl ?_
    refine xs_bipush (nI 8) dL_law_21 (by decide) ?_
    refine xs_isub dL_law_23 ?_
    refine xs_icmp_gt 437 dL_law_24 (by decide) (fun _ => ?_) (fun q => absurd (lw_lt (by omega) (by omega) (by omega)) q)
    refine xs_iconst 1 dL_law_437 (by decide) ?_
    exact xs_ret (some (.int 1)) dL_law_438 rfl rfl rfl
  | succ d ih =>
    intro t μ A hd ht hc hm hR
    refine xs_iload_n dL_law_18 rfl ?_
    refine xs_aload_n dL_law_19 rfl ?_
    refine xs_xlen (q := (L, xs)) dL_law_20 rfl ?_
    refine xs_bipush (nI 8) dL_law_21 (by decide) ?_
    refine xs_isub dL_law_23 ?_
    by_cases h8 : t + 8 ≤ L
    · refine xs_icmp_gt 437 dL_law_24 (by decide) (fun q => absurd q (by
        show ¬ nI L - nI 8 < nI t
        rw [pk_sub (by omega)]
        exact nI_nlt (by omega) (by omega))) (fun _ => ?_)
      refine xs_aload_n dL_law_27 rfl ?_
      refine xs_iload_n dL_law_28 rfl ?_
      refine xs_sc0 dL_law_29 (by omega) hL ?_
      refine xs_bipush (nI 15) dL_law_30 (by decide) ?_
      refine xs_iand dL_law_32 ?_
      have K : ∀ (m : xm_M) (A' : AS), cA m A' → mA m A' → xs_RT false m → LR L xs 431 t [] m := by
        intro m A' hc hm hR
        refine xs_iinc (nI (t + 8)) [some (.ref 999), some (.ref 0), some (.ref 75), some (.int (nI (t + 8)))] dL_law_431 (by decide) rfl (by rw [← nI_add]; rfl) rfl ?_
        refine xs_goto 18 dL_law_434 (by decide) ?_
        exact ih (t + 8) m A' (by omega) (by omega) hc hm hR
      generalize xs t &&& nI 15 = w
      refine xs_sw8 (x := w) ?_ ?_ ?_ ?_ ?_ ?_ ?_ ?_ ?_ ?_
      · intro e
        exact xs_tabIn 84 dL_law_33 (by rw [e]; decide) (by rw [e]; decide) (by rw [e]; rfl) (by decide) (law_feed hL h8 hc hm hR K)
      · intro e
        exact xs_tabIn 147 dL_law_33 (by rw [e]; decide) (by rw [e]; decide) (by rw [e]; rfl) (by decide) (law_end hL h8 hc hm hR K)
      · intro e
        exact xs_tabIn 170 dL_law_33 (by rw [e]; decide) (by rw [e]; decide) (by rw [e]; rfl) (by decide) (law_harm hL h8 hc hm hR K)
      · intro e
        exact xs_tabIn 203 dL_law_33 (by rw [e]; decide) (by rw [e]; decide) (by rw [e]; rfl) (by decide) (law_page hL h8 hc hm hR K)
      · intro e
        exact xs_tabIn 326 dL_law_33 (by rw [e]; decide) (by rw [e]; decide) (by rw [e]; rfl) (by decide) (law_read hL h8 hc hm hR K)
      · intro e
        exact xs_tabIn 339 dL_law_33 (by rw [e]; decide) (by rw [e]; decide) (by rw [e]; rfl) (by decide) (law_sample hL h8 hc hm hR K)
      · intro e
        exact xs_tabIn 372 dL_law_33 (by rw [e]; decide) (by rw [e]; decide) (by rw [e]; rfl) (by decide) (law_look hL h8 hc hm hR K)
      · intro e
        exact xs_tabIn 395 dL_law_33 (by rw [e]; decide) (by rw [e]; decide) (by rw [e]; rfl) (by decide) (law_sum hL h8 hc hm hR K)
      · intro e
        exact xs_tabIn 418 dL_law_33 (by rw [e]; decide) (by rw [e]; decide) (by rw [e]; rfl) (by decide) (law_taped hL h8 hc hm hR K)
      · intro e
        exact xs_tabOut 431 dL_law_33 e (by decide) (K μ A hc hm hR)
    · refine xs_icmp_gt 437 dL_law_24 (by decide) (fun _ => ?_) (fun q => absurd (lw_lt (by omega) (by omega) (by omega)) q)
      refine xs_iconst 1 dL_law_437 (by decide) ?_
      exact xs_ret (some (.int 1)) dL_law_438 rfl rfl rfl
set_option maxHeartbeats 4000000 in
theorem law_all {L : Nat} {xs : Nat → Int32} {μ : xm_M} (hL : L ≤ 4096) : xR k_L_law (some (L, xs)) false (fun r _ _ => r = some (.int 1)) 0 [some (.ref 999), none, none, none] [] (xs_sh.take 0) (0, 0) μ := by
  refine xs_new (n := 0) (ci := 8) (xs_sh.take 1) 11 dL_law_0 nl_L_7 (by decide) (tk_len (by decide)) ⟨rfl, rfl⟩ (by decide) ⟨Nat.le_of_ble_eq_true rfl, Nat.le_of_ble_eq_true rfl⟩ (tk_push sc_0) ?_
  refine xs_dup dL_law_3 rfl ?_
  refine xs_callI (j := k_X8_init) (n := 1) dL_law_4 a_X8 ⟨ml_L_9, mk_X8_init.1, mk_X8_init.2.1, mk_X8_init.2.2⟩ mi_X8_init rfl rfl ⟨Nat.le_of_ble_eq_true rfl, Nat.le_of_ble_eq_true rfl⟩ (Nat.le_of_ble_eq_true rfl) (tk_len (by decide)) ⟨rfl, rfl⟩ ⟨Nat.le_of_ble_eq_true rfl, Nat.le_of_ble_eq_true rfl⟩ ?_
  rintro rr sh2 m1 ⟨rfl, rfl, r1, z1⟩
  refine ⟨rfl, ?_⟩
  refine xs_astore_n [some (.ref 999), some (.ref 0), none, none] dL_law_7 (by decide) rfl ?_
  refine xs_new (n := 75) (ci := 9) (xs_sh.take 76) 52 dL_law_8 nl_L_10 (by decide) (tk_len (by decide)) ⟨rfl, rfl⟩ (by decide) ⟨Nat.le_of_ble_eq_true rfl, Nat.le_of_ble_eq_true rfl⟩ (tk_push sc_75) ?_
  refine xs_nmM (fun m2 e2 => ?_)
  refine xs_dup dL_law_11 rfl ?_
  refine xs_callI (j := k_X9_init) (n := 76) dL_law_12 a_X9 ⟨ml_L_12, mk_X9_init.1, mk_X9_init.2.1, mk_X9_init.2.2⟩ mi_X9_init rfl rfl ⟨Nat.le_of_ble_eq_true rfl, Nat.le_of_ble_eq_true rfl⟩ (Nat.le_of_ble_eq_true rfl) (tk_len (by decide)) ⟨rfl, rfl⟩ ⟨Nat.le_of_ble_eq_true rfl, Nat.le_of_ble_eq_true rfl⟩ ?_
  rintro rr sh2 m3 ⟨rfl, rfl, f3, r3, z3⟩
  refine ⟨rfl, ?_⟩
  refine xs_astore_n [some (.ref 999), some (.ref 0), some (.ref 75), none] dL_law_15 (by decide) rfl ?_
  refine xs_iconst (nI 0) dL_law_16 (by decide) ?_
  refine xs_istore_n [some (.ref 999), some (.ref 0), some (.ref 75), some (.int (nI 0))] dL_law_17 (by decide) rfl ?_
  have f2 : Fr 75 m1 m2 := Fr.rf.nw e2 (Nat.le_refl _)
  have r2 : KR rX8 m2 := r1.nw e2 (by decide +kernel)
  have rc : KR rX8 m3 := fun q hq => by
    have hlt : ∀ q ∈ rX8, q.1 < 75 := by decide +kernel
    rw [(f3 q.1 (hlt q hq)).2.2]
    exact r2 q hq
  exact law_loop hL (L + 1) 0 m3 A0 (by omega) (by omega) (cA_0 (cZ_fr (cZ_fr z1 f2) f3)) (mA_0 z3 (fun j => by rw [e2, nw_z])) (rt_all rc r3)
