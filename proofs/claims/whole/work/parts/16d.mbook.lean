/-! ===== the reference's book ===== -/
theorem nb0 : vp_nar .boolean (nI 0) = nI 0 := by decide +kernel
theorem nb1 : vp_nar .boolean (nI 1) = nI 1 := by decide +kernel
theorem c_mwrong {b : Bool} {μ : xm_M} (f : Nat) (h : μ.1 75 19 = nI 0) : xCv b b k_X9_wrong μ [.ref 75, .int (nI f)] (fun μ' => μ' = xu_I μ 75 (upd (μ.1 75) 19 (nI f))) := by
  apply g_X9_wrong
  exact ⟨fun c => absurd (h.trans nI_0) c, fun _ m e => e⟩
theorem c_mwrong1 {b : Bool} {μ : xm_M} {f : Nat} (v : Int32) (h : μ.1 75 19 = nI f) (h0 : 0 < f) (h8 : f < 8) : xCv b b k_X9_wrong μ [.ref 75, .int v] (fun μ' => μ' = μ) := by
  apply g_X9_wrong
  exact ⟨fun _ => rfl, fun c => absurd (h.symm.trans c) (nI_ne0 h0 (by omega))⟩
theorem c_mended {b : Bool} {μ : xm_M} {pk : List Int32} {a : Nat} (hI : mP μ pk a) (h : μ.1 75 19 = nI 0) : xCv b b k_X9_ended μ [.ref 75] (fun μ' => (a ≤ 8 * pk.length ∧ μ' = μ) ∨ (8 * pk.length < a ∧ μ' = xu_I μ 75 (upd (μ.1 75) 19 (nI 2)))) := by
  apply g_X9_ended
  rw [hI.ov]
  by_cases hc : 8 * pk.length < a
  · rw [if_pos hc]
    exact ⟨fun c => absurd c (by decide), fun _ => ⟨_, c_mwrong 2 h, fun m3 e => Or.inr ⟨hc, e⟩⟩⟩
  · rw [if_neg hc]
    exact ⟨fun _ => Or.inl ⟨by omega, rfl⟩, fun c => absurd nI_0 c⟩
theorem c_mended1 {b : Bool} {μ : xm_M} {f : Nat} (h : μ.1 75 19 = nI f) (h0 : 0 < f) (h8 : f < 8) : xCv b b k_X9_ended μ [.ref 75] (fun μ' => μ' = μ) := by
  apply g_X9_ended
  exact ⟨fun _ => rfl, fun _ => ⟨_, c_mwrong1 _ h h0 h8, fun m3 e => e⟩⟩
theorem mP.u {μ : xm_M} {pk : List Int32} {a c : Nat} {f : Nat → Int32} (h : mP μ pk a) (h1 : c ≠ 75) (h2 : c ≠ 79) : mP (xu_I μ c f) pk a := h.fr (by rw [ri_n (Ne.symm h1)]) (by rw [ri_n (Ne.symm h1)]) (by rw [ri_n (Ne.symm h1)]) (by rw [ri_n (Ne.symm h1)]) (by rw [ri_n (Ne.symm h2)])
theorem mP.v {μ : xm_M} {pk : List Int32} {a k : Nat} {v : Int32} (h : mP μ pk a) (h1 : 18 ≤ k) : mP (xu_I μ 75 (upd (μ.1 75) k v)) pk a := h.fr (by rw [ri_e, upd_n (by omega)]) (by rw [ri_e, upd_n (by omega)]) (by rw [ri_e, upd_n (by omega)]) (by rw [ri_e, upd_n (by omega)]) (by rw [ri_n (by decide)])
theorem c_mpower {b : Bool} {μ : xm_M} {r w : Nat} (hw : w ≤ 4) : xCi b b k_X9_power μ [.ref 75, .int (nI r), .int (nI w)] (fun x μ' => x = nI (r ^ w) ∧ μ' = μ) := by
  have loop : ∀ d i, i + d = w → hd_X9_power_5 b (fun x μ' => x = nI (r ^ w) ∧ μ' = μ) (nI r) (nI w) (nI (r ^ i)) (nI i) μ := by
    intro d
    induction d with
    | zero =>
      intro i hi
      have : i = w := by omega
      subst this
      apply l_X9_power_5
      exact pk_le i i (fun _ => ⟨rfl, rfl⟩) (fun c => by omega)
    | succ d ih =>
      intro i hi
      apply l_X9_power_5
      refine pk_le w i (fun c => by omega) (fun _ x2 e2 x3 e3 => ?_)
      rw [e2, e3, pk_mul, nI_add, ← Nat.pow_succ]
      exact ih (i + 1) (by omega)
  apply g_X9_power
  exact loop w 0 (by omega)
def k5 (μ μ' : xm_M) : Prop := ∀ c, c = 83 ∨ c = 84 ∨ c = 85 ∨ c = 92 ∨ c = 93 → μ'.1 c = μ.1 c
theorem c_mbook {b : Bool} {μ : xm_M} {pk : List Int32} {a j : Nat} (hj : j < 8) (hI : mP μ pk a) (h19 : μ.1 75 19 = nI 0) : xCv b b k_X9_book μ [.ref 75, .int (nI j)] (fun μ' => kb μ μ' j ∧ μ'.1 75 19 = nI (bkF pk a) ∧ (bkF pk a = 0 → mP μ' pk (bkE pk a) ∧ mB μ' j pk a)) := by
  generalize hQ : (fun (μ' : xm_M) => kb μ μ' j ∧ μ'.1 75 19 = nI (bkF pk a) ∧ (bkF pk a = 0 → mP μ' pk (bkE pk a) ∧ mB μ' j pk a)) = Q
  have hw := bkW_b pk a
  have hn := bkN_b pk a
  have hq := bkQ_b pk a
  have hnb := bkB_b pk a
  have hP : bkP pk a = a + 8 + 4 * bkN pk a := rfl
  have hE := bkE_gt pk a
  have cj := cl (show j < 2 ^ 31 by omega)
  have vj : vp_in (nI j) 8 := vin hj (by decide)
  -- behind the tree
  have whole : ∀ m9 : xm_M, kb μ m9 j → m9.1 75 19 = nI 0 → m9.1 83 j = nI (bkW pk a) → m9.1 84 j = nI (bkN pk a) → WH (bkL pk a) (bkN pk a) → mT m9 j (bkL pk a) (bkN pk a) → bkP pk a ≤ 8 * pk.length →
      ∀ m : xm_M, kb μ m j → k5 m9 m → m.1 75 19 = nI 0 → m.1 86 j = nI (bkH pk a) → m.1 90 j = nI 1 → mP m pk (bkP pk a + 1) → hd_X9_book_114 b Q (nI j) m := by
    intro m9 hk9 h9 h83 h84 hWH hT hle
    have S_fb : ∀ {m m' : xm_M}, (kb μ m j ∧ k5 m9 m ∧ m.1 75 19 = nI 0) → fb m m' → (kb μ m' j ∧ k5 m9 m' ∧ m'.1 75 19 = nI 0) := by
      rintro m m' ⟨s1, s2, s3⟩ hf
      exact ⟨s1.tr hf.kb, fun c hc => (hf.1 c (by omega)).trans (s2 c hc), (hf.2.2 19 (by decide) (by decide)).trans s3⟩
    have S_s : ∀ {m : xm_M} {c : Nat} {v : Int32}, (kb μ m j ∧ k5 m9 m ∧ m.1 75 19 = nI 0) → (86 ≤ c ∧ c ≤ 90) → (kb μ (xu_I m c (upd (m.1 c) j v)) j ∧ k5 m9 (xu_I m c (upd (m.1 c) j v)) ∧ (xu_I m c (upd (m.1 c) j v)).1 75 19 = nI 0) := by
      rintro m c v ⟨s1, s2, s3⟩ hc
      exact ⟨s1.tr (kb.s (by omega) (by omega)), fun d hd => by rw [ri_n (by omega)]; exact s2 d hd, by rw [ri_n (by omega)]; exact s3⟩
    have S_n : ∀ {m : xm_M} {i : Nat} {v : Int32}, (kb μ m j ∧ k5 m9 m ∧ m.1 75 19 = nI 0) → i < 64 → (kb μ (xu_I m 91 (upd (m.1 91) (64 * j + i) v)) j ∧ k5 m9 (xu_I m 91 (upd (m.1 91) (64 * j + i) v)) ∧ (xu_I m 91 (upd (m.1 91) (64 * j + i) v)).1 75 19 = nI 0) := by
      rintro m i v ⟨s1, s2, s3⟩ hi
      exact ⟨s1.tr (kb.s2 (Or.inl rfl) hi), fun d hd => by rw [ri_n (by omega)]; exact s2 d hd, by rw [ri_n (by decide)]; exact s3⟩
    have fin : ∀ m : xm_M, (kb μ m j ∧ k5 m9 m ∧ m.1 75 19 = nI 0) → m.1 86 j = nI (bkH pk a) → (bkH pk a = 1 → mV m j pk a) → mP m pk (bkE pk a) → hd_X9_book_267 b Q m := by
      rintro m ⟨s1, s2, s3⟩ h86 hv hp
      apply l_X9_book_267
      refine ⟨_, c_mended hp s3, ?_⟩
      rintro m2 (⟨g1, rfl⟩ | ⟨g1, g2⟩)
      · rw [← hQ]
        have hz := bkF_0 hWH (show ¬ 8 * pk.length < bkE pk a by omega)
        refine ⟨s1, by rw [hz]; exact s3, fun _ => ⟨hp, hWH, ?_, by rw [s2 83 (by decide)]; exact h83, h86, hv⟩⟩
        obtain ⟨t1, s, t2, t3, t4⟩ := hT
        exact ⟨fun e he => by rw [s2 93 (by decide)]; exact t1 e he, s, t2, by rw [s2 92 (by decide)]; exact t3, by rw [s2 85 (by decide)]; exact t4⟩
      · rw [← hQ]
        have hz := bkF_3 (show ¬ 8 * pk.length < bkP pk a by omega) hWH g1
        refine ⟨by rw [g2]; exact s1.tr kb.f, by rw [g2, ri_e, upd_e, hz], fun h => ?_⟩
        rw [hz] at h
        omega
    have nums : bkH pk a = 1 → ∀ (d i : Nat) (m : xm_M), i + d = bkQ pk a → (kb μ m j ∧ k5 m9 m ∧ m.1 75 19 = nI 0) → m.1 86 j = nI (bkH pk a) → m.1 87 j = sgn8 (nv pk (bkP pk a + 1) 8) → m.1 88 j = nI (nv pk (bkP pk a + 9) 8) → m.1 89 j = nI (bb pk (bkP pk a + 17)) → m.1 90 j = nI (bkQ pk a) → (∀ k, k < i → m.1 91 (64 * j + k) = nI (bkM pk a k)) → mP m pk (bkP pk a + 21 + bkB pk a * i) → hd_X9_book_233 b Q (nI j) (nI (bkB pk a)) (nI i) m := by
      intro hH d
      induction d with
      | zero =>
        intro i m hi hS h86 h87 h88 h89 h90 hk hp
        apply l_X9_book_233
        rw [cj]
        refine ⟨vj, pk_le (bkQ pk a) i (fun _ => ?_) (fun c => by omega) h90⟩
        refine fin m hS h86 (fun _ => ⟨h87, h88, h89, h90, fun k hk2 => hk k (by omega)⟩) ?_
        have he : bkE pk a = bkP pk a + 21 + bkB pk a * i := by
          unfold bkE
          rw [if_pos hH, show bkQ pk a = i by omega]
        rw [he]
        exact hp
      | succ d ih =>
        intro i m hi hS h86 h87 h88 h89 h90 hk hp
        apply l_X9_book_233
        rw [cj]
        refine ⟨vj, pk_le (bkQ pk a) i (fun c => by omega) (fun _ => ⟨_, v_mbits (bkB pk a) hnb.2 hp, ?_⟩) h90⟩
        rintro r5 m4 ⟨f, e, p⟩
        rw [show nI 64 * nI j + nI i = nI (64 * j + i) by rw [pk_mul, nI_add], cl (by omega)]
        refine ⟨vin (by omega) (by decide), fun m8 e8 x9 e9 => ?_⟩
        rw [e9, nI_add]
        have S8 : kb μ m8 j ∧ k5 m9 m8 ∧ m8.1 75 19 = nI 0 := by rw [e8]; exact S_n (S_fb hS f) (by omega)
        have h8 : ∀ c, c ≠ 75 → c ≠ 91 → m8.1 c = m.1 c := fun c h1 h2 => by rw [e8, ri_n h2]; exact f.1 c h1
        refine ih (i + 1) m8 (by omega) S8 (by rw [h8 86 (by decide) (by decide)]; exact h86) (by rw [h8 87 (by decide) (by decide)]; exact h87) (by rw [h8 88 (by decide) (by decide)]; exact h88) (by rw [h8 89 (by decide) (by decide)]; exact h89) (by rw [h8 90 (by decide) (by decide)]; exact h90) ?_ ?_
        · intro k hk2
          by_cases hki : k = i
          · subst hki
            rw [e8, ri_e, upd_e, e]
            rfl
          · rw [e8, ri_e, upd_n (by omega), f.1 91 (by decide)]
            exact hk k (by omega)
        · rw [Nat.mul_add, Nat.mul_one, ← Nat.add_assoc, e8]
          exact p.u (by decide) (by decide)
    have exitL : ∀ m4 : xm_M, (kb μ m4 j ∧ k5 m9 m4 ∧ m4.1 75 19 = nI 0) → m4.1 86 j = nI (bkH pk a) → m4.1 90 j = nI (bkQ pk a) → mP m4 pk (bkP pk a + 1) → vp_in (nI j) 8 ∧
       (((m4.1 86 j) = 0 →
        hd_X9_book_267 b Q   m4) ∧
       (¬ (m4.1 86 j) = 0 →
        ∃ Q11 : Int32 → xm_M → Prop, xCi b b k_X9_bits m4 [.ref 75, .int (nI 8)] Q11 ∧
        ∀ (r13 : Int32) (m12 : xm_M), Q11 r13 m12 →
        ((r13 ≤ (nI 127) →
         vp_in (nI j) 8 ∧
         ∀ m17 : xm_M, m17 = xu_I m12 87 (upd (m12.1 87) j r13) →
         ∃ Q18 : Int32 → xm_M → Prop, xCi b b k_X9_bits m17 [.ref 75, .int (nI 8)] Q18 ∧
         ∀ (r20 : Int32) (m19 : xm_M), Q18 r20 m19 →
         vp_in (nI j) 8 ∧
         ∀ m23 : xm_M, m23 = xu_I m19 88 (upd (m19.1 88) j r20) →
         ∃ Q24 : Int32 → xm_M → Prop, xCi b b k_X9_bit m23 [.ref 75] Q24 ∧
         ∀ (r26 : Int32) (m25 : xm_M), Q24 r26 m25 →
         ((¬ r26 = (nI 1) →
          vp_in (nI j) 8 ∧
          ∀ m30 : xm_M, m30 = xu_I m25 89 (upd (m25.1 89) j (vp_nar .boolean (nI 0))) →
          ∃ Q31 : Int32 → xm_M → Prop, xCi b b k_X9_bits m30 [.ref 75, .int (nI 3)] Q31 ∧
          ∀ (r33 : Int32) (m32 : xm_M), Q31 r33 m32 →
          ∀ x35 : Int32, x35 = ((nI 1) + r33) →
          hd_X9_book_233 b Q  (nI j) x35 (nI 0) m32) ∧
         (r26 = (nI 1) →
          vp_in (nI j) 8 ∧
          ∀ m37 : xm_M, m37 = xu_I m25 89 (upd (m25.1 89) j (vp_nar .boolean (nI 1))) →
          ∃ Q38 : Int32 → xm_M → Prop, xCi b b k_X9_bits m37 [.ref 75, .int (nI 3)] Q38 ∧
          ∀ (r40 : Int32) (m39 : xm_M), Q38 r40 m39 →
          ∀ x42 : Int32, x42 = ((nI 1) + r40) →
          hd_X9_book_233 b Q  (nI j) x42 (nI 0) m39))) ∧
        (¬ r13 ≤ (nI 127) →
         vp_in (nI j) 8 ∧
         ∀ m44 : xm_M, m44 = xu_I m12 87 (upd (m12.1 87) j (r13 - (nI 256))) →
         ∃ Q45 : Int32 → xm_M → Prop, xCi b b k_X9_bits m44 [.ref 75, .int (nI 8)] Q45 ∧
         ∀ (r47 : Int32) (m46 : xm_M), Q45 r47 m46 →
         vp_in (nI j) 8 ∧
         ∀ m50 : xm_M, m50 = xu_I m46 88 (upd (m46.1 88) j r47) →
         ∃ Q51 : Int32 → xm_M → Prop, xCi b b k_X9_bit m50 [.ref 75] Q51 ∧
         ∀ (r53 : Int32) (m52 : xm_M), Q51 r53 m52 →
         ((¬ r53 = (nI 1) →
          vp_in (nI j) 8 ∧
          ∀ m57 : xm_M, m57 = xu_I m52 89 (upd (m52.1 89) j (vp_nar .boolean (nI 0))) →
          ∃ Q58 : Int32 → xm_M → Prop, xCi b b k_X9_bits m57 [.ref 75, .int (nI 3)] Q58 ∧
          ∀ (r60 : Int32) (m59 : xm_M), Q58 r60 m59 →
          ∀ x62 : Int32, x62 = ((nI 1) + r60) →
          hd_X9_book_233 b Q  (nI j) x62 (nI 0) m59) ∧
         (r53 = (nI 1) →
          vp_in (nI j) 8 ∧
          ∀ m64 : xm_M, m64 = xu_I m52 89 (upd (m52.1 89) j (vp_nar .boolean (nI 1))) →
          ∃ Q65 : Int32 → xm_M → Prop, xCi b b k_X9_bits m64 [.ref 75, .int (nI 3)] Q65 ∧
          ∀ (r67 : Int32) (m66 : xm_M), Q65 r67 m66 →
          ∀ x69 : Int32, x69 = ((nI 1) + r67) →
          hd_X9_book_233 b Q  (nI j) x69 (nI 0) m66)))))) := by
      intro m4 hS h86 h90 hp
      have hb2 := bb_lt pk (bkP pk a)
      refine ⟨vj, fun c => ?_, fun c => ?_⟩
      · have hH : bkH pk a = 0 := (neq0 (show bkH pk a < 2 ^ 32 from Nat.lt_trans hb2 (by decide))).mp (h86.symm.trans c)
        refine fin m4 hS h86 (fun h => by omega) ?_
        have he : bkE pk a = bkP pk a + 1 := by
          unfold bkE
          rw [if_neg (by omega)]
        rw [he]
        exact hp
      · have hH : bkH pk a = 1 := by
          have h2 : bkH pk a < 2 := hb2
          have : bkH pk a ≠ 0 := fun h => c (by rw [h86, h]; exact nI_0)
          omega
        refine ⟨_, v_mbits 8 (by decide) hp, ?_⟩
        rintro r13 m12 ⟨f12, e12, p12⟩
        have S12 := S_fb hS f12
        have hv8 := nv_lt pk (bkP pk a + 1) 8
        have tail : ∀ (le : Int32) (m17 : xm_M), m17 = xu_I m12 87 (upd (m12.1 87) j le) → le = sgn8 (nv pk (bkP pk a + 1) 8) → ∃ Q18 : Int32 → xm_M → Prop, xCi b b k_X9_bits m17 [.ref 75, .int (nI 8)] Q18 ∧
         ∀ (r20 : Int32) (m19 : xm_M), Q18 r20 m19 →
         vp_in (nI j) 8 ∧
         ∀ m23 : xm_M, m23 = xu_I m19 88 (upd (m19.1 88) j r20) →
         ∃ Q24 : Int32 → xm_M → Prop, xCi b b k_X9_bit m23 [.ref 75] Q24 ∧
         ∀ (r26 : Int32) (m25 : xm_M), Q24 r26 m25 →
         ((¬ r26 = (nI 1) →
          vp_in (nI j) 8 ∧
          ∀ m30 : xm_M, m30 = xu_I m25 89 (upd (m25.1 89) j (vp_nar .boolean (nI 0))) →
          ∃ Q31 : Int32 → xm_M → Prop, xCi b b k_X9_bits m30 [.ref 75, .int (nI 3)] Q31 ∧
          ∀ (r33 : Int32) (m32 : xm_M), Q31 r33 m32 →
          ∀ x35 : Int32, x35 = ((nI 1) + r33) →
          hd_X9_book_233 b Q  (nI j) x35 (nI 0) m32) ∧
         (r26 = (nI 1) →
          vp_in (nI j) 8 ∧
          ∀ m37 : xm_M, m37 = xu_I m25 89 (upd (m25.1 89) j (vp_nar .boolean (nI 1))) →
          ∃ Q38 : Int32 → xm_M → Prop, xCi b b k_X9_bits m37 [.ref 75, .int (nI 3)] Q38 ∧
          ∀ (r40 : Int32) (m39 : xm_M), Q38 r40 m39 →
          ∀ x42 : Int32, x42 = ((nI 1) + r40) →
          hd_X9_book_233 b Q  (nI j) x42 (nI 0) m39)) := by
          intro le m17 e17 hle
          have S17 : kb μ m17 j ∧ k5 m9 m17 ∧ m17.1 75 19 = nI 0 := by rw [e17]; exact S_s S12 (by decide)
          have p17 : mP m17 pk (bkP pk a + 1 + 8) := by rw [e17]; exact p12.u (by decide) (by decide)
          refine ⟨_, v_mbits 8 (by decide) p17, ?_⟩
          rintro r20 m19 ⟨f19, e19, p19⟩
          refine ⟨vj, fun m23 e23 => ?_⟩
          have S23 : kb μ m23 j ∧ k5 m9 m23 ∧ m23.1 75 19 = nI 0 := by rw [e23]; exact S_s (S_fb S17 f19) (by decide)
          have p23 : mP m23 pk (bkP pk a + 1 + 8 + 8) := by rw [e23]; exact p19.u (by decide) (by decide)
          refine ⟨_, v_mbit p23, ?_⟩
          rintro r26 m25 ⟨f25, e25, p25⟩
          have hb17 := bb_lt pk (bkP pk a + 17)
          rw [show bkP pk a + 1 + 8 + 8 = bkP pk a + 17 by omega] at e25 p25
          have S25 := S_fb S23 f25
          have g25 : m25.1 86 j = nI (bkH pk a) ∧ m25.1 87 j = sgn8 (nv pk (bkP pk a + 1) 8) ∧ m25.1 88 j = nI (nv pk (bkP pk a + 9) 8) ∧ m25.1 90 j = nI (bkQ pk a) := by
            refine ⟨?_, ?_, ?_, ?_⟩
            · rw [f25.1 86 (by decide), e23, ri_n (by decide), f19.1 86 (by decide), e17, ri_n (by decide), f12.1 86 (by decide)]; exact h86
            · rw [f25.1 87 (by decide), e23, ri_n (by decide), f19.1 87 (by decide), e17, ri_e, upd_e]; exact hle
            · rw [f25.1 88 (by decide), e23, ri_e, upd_e, e19]
            · rw [f25.1 90 (by decide), e23, ri_n (by decide), f19.1 90 (by decide), e17, ri_n (by decide), f12.1 90 (by decide)]; exact h90
          have tail2 : ∀ (x : Nat) (m30 : xm_M), m30 = xu_I m25 89 (upd (m25.1 89) j (nI x)) → x = bb pk (bkP pk a + 17) → ∃ Q31 : Int32 → xm_M → Prop, xCi b b k_X9_bits m30 [.ref 75, .int (nI 3)] Q31 ∧
              ∀ (r33 : Int32) (m32 : xm_M), Q31 r33 m32 →
              ∀ x35 : Int32, x35 = ((nI 1) + r33) →
              hd_X9_book_233 b Q  (nI j) x35 (nI 0) m32 := by
            intro x m30 e30 hx
            have S30 : kb μ m30 j ∧ k5 m9 m30 ∧ m30.1 75 19 = nI 0 := by rw [e30]; exact S_s S25 (by decide)
            have p30 : mP m30 pk (bkP pk a + 17 + 1) := by rw [e30]; exact p25.u (by decide) (by decide)
            refine ⟨_, v_mbits 3 (by decide) p30, ?_⟩
            rintro r33 m32 ⟨f32, e32, p32⟩ x35 e35
            rw [e32, nI_add, Nat.add_comm] at e35
            rw [e35]
            refine nums hH (bkQ pk a) 0 m32 (by omega) (S_fb S30 f32) ?_ ?_ ?_ ?_ ?_ (fun k hk => by omega) ?_
            · rw [f32.1 86 (by decide), e30, ri_n (by decide)]; exact g25.1
            · rw [f32.1 87 (by decide), e30, ri_n (by decide)]; exact g25.2.1
            · rw [f32.1 88 (by decide), e30, ri_n (by decide)]; exact g25.2.2.1
            · rw [f32.1 89 (by decide), e30, ri_e, upd_e, hx]
            · rw [f32.1 90 (by decide), e30, ri_n (by decide)]; exact g25.2.2.2
            · rw [Nat.mul_zero, show bkP pk a + 21 + 0 = bkP pk a + 17 + 1 + 3 by omega]; exact p32
          rw [nb0, nb1, e25]
          refine ⟨fun c2 => ⟨vj, fun m30 e30 => tail2 0 m30 e30 ?_⟩, fun c2 => ⟨vj, fun m30 e30 => tail2 1 m30 e30 ?_⟩⟩
          · have : ¬ bb pk (bkP pk a + 17) = 1 := fun h => c2 (by rw [h])
            omega
          · exact (nI_inj (by omega) (by decide) c2).symm
        rw [e12]
        refine pk_le (nv pk (bkP pk a + 1) 8) 127 (fun c2 => ⟨vj, fun m17 e17 => tail _ m17 e17 ?_⟩) (fun c2 => ⟨vj, fun m17 e17 => tail _ m17 e17 ?_⟩)
        · unfold sgn8
          rw [if_pos (by omega)]
        · unfold sgn8
          rw [if_neg (by omega)]
    have root : ∀ (d r : Nat) (m : xm_M), d + r = 64 → 1 ≤ r → rtF (bkN pk a) (bkW pk a) d r = bkQ pk a → (kb μ m j ∧ k5 m9 m ∧ m.1 75 19 = nI 0) → m.1 86 j = nI (bkH pk a) → m.1 90 j = nI r → mP m pk (bkP pk a + 1) → hd_X9_book_114 b Q (nI j) m := by
      intro d
      induction d with
      | zero =>
        intro r m hr h1 hrt hS h86 h90 hp
        have hr' : r = bkQ pk a := by rw [← hrt]; rfl
        have hpw := pw_lt (r := r + 1) (w := bkW pk a) (by omega) hw.2
        have h65 : bkN pk a < (r + 1) ^ bkW pk a := by
          have : (r + 1) ^ 1 ≤ (r + 1) ^ bkW pk a := Nat.pow_le_pow_right (by omega) hw.1
          rw [Nat.pow_one] at this
          omega
        apply l_X9_book_114
        rw [cj, h90, hS.2.1 83 (by decide), h83, nI_add]
        refine ⟨vj, vj, _, c_mpower hw.2, ?_⟩
        rintro r5 m4 ⟨e5, rfl⟩
        refine ⟨vj, pk_lt (bkN pk a) ((r + 1) ^ bkW pk a) (fun _ => ?_) (fun c => by omega) (by rw [hS.2.1 84 (by decide)]; exact h84) e5⟩
        exact exitL m4 hS h86 (by rw [← hr']; exact h90) hp
      | succ d ih =>
        intro r m hr h1 hrt hS h86 h90 hp
        have hpw := pw_lt (r := r + 1) (w := bkW pk a) (by omega) hw.2
        apply l_X9_book_114
        rw [cj, h90, hS.2.1 83 (by decide), h83, nI_add]
        refine ⟨vj, vj, _, c_mpower hw.2, ?_⟩
        rintro r5 m4 ⟨e5, rfl⟩
        refine ⟨vj, pk_lt (bkN pk a) ((r + 1) ^ bkW pk a) (fun c => ?_) (fun c => ?_) (by rw [hS.2.1 84 (by decide)]; exact h84) e5⟩
        · refine exitL m4 hS h86 ?_ hp
          rw [← hrt]
          unfold rtF
          rw [if_neg (by omega)]
          exact h90
        · refine ⟨vj, vj, fun m72 e72 => ?_⟩
          rw [h90, nI_add] at e72
          refine ih (r + 1) m72 (by omega) (by omega) ?_ (by rw [e72]; exact S_s hS (by decide)) ?_ ?_ ?_
          · rw [← hrt]
            conv => rhs; unfold rtF
            rw [if_pos c]
          · rw [e72, ri_n (by decide)]; exact h86
          · rw [e72, ri_e, upd_e]
          · rw [e72]; exact hp.u (by decide) (by decide)
    intro m hk hk5 hm19 h86 h90 hp
    exact root 63 1 m rfl (by decide) rfl ⟨hk, hk5, hm19⟩ h86 h90 hp
  have lens : ∀ (d i : Nat) (m : xm_M), i + d = bkN pk a → kb μ m j → m.1 75 19 = nI 0 → m.1 83 j = nI (bkW pk a) → m.1 84 j = nI (bkN pk a) → (∀ k, k < i → m.1 93 (64 * j + k) = nI (bkL pk a k)) → mP m pk (a + 8 + 4 * i) → hd_X9_book_29 b Q (nI j) (nI i) m := by
    intro d
    induction d with
    | zero =>
      intro i m hi hk h19 h83 h84 hl hp
      apply l_X9_book_29
      rw [cj]
      have hin : i = bkN pk a := by omega
      rw [hin, ← hP] at hp
      refine ⟨vj, pk_le (bkN pk a) i (fun _ => ⟨_, c_mended hp h19, ?_⟩) (fun c => by omega) h84⟩
      rintro m4 (⟨g1, rfl⟩ | ⟨g1, g2⟩)
      · refine ⟨fun _ => ⟨_, c_isWhole hj hn (bkL_le pk a) h84 (by rw [← hin]; exact hl), ?_⟩, fun c => absurd (by rw [h19]; decide) c⟩
        rintro r10 m9 ⟨k9, h9⟩
        have hk9 : kb μ m9 j := hk.tr k9.kb
        have h9c : ∀ c, c ≠ 85 → c ≠ 92 → m9.1 c = m4.1 c := k9.1
        have h919 : m9.1 75 19 = nI 0 := by rw [h9c 75 (by decide) (by decide)]; exact h19
        rcases h9 with ⟨e10, hWH, s, t1, t2, t3⟩ | ⟨e10, hWH⟩
        · refine ⟨fun _ => ?_, fun c => absurd (e10.symm.trans c) (by decide)⟩
          have p9 : mP m9 pk (bkP pk a) := hp.fr (by rw [h9c 75 (by decide) (by decide)]) (by rw [h9c 75 (by decide) (by decide)]) (by rw [h9c 75 (by decide) (by decide)]) (by rw [h9c 75 (by decide) (by decide)]) (h9c 79 (by decide) (by decide))
          refine ⟨_, v_mbit p9, ?_⟩
          rintro r15 m14 ⟨f14, e14, p14⟩
          rw [nb0, nb1]
          have hb2 := bb_lt pk (bkP pk a)
          have go : ∀ (x : Nat) (m19 m21 : xm_M), m19 = xu_I m14 86 (upd (m14.1 86) j (nI x)) → m21 = xu_I m19 90 (upd (m19.1 90) j (nI 1)) → x = bkH pk a → hd_X9_book_114 b Q (nI j) m21 := by
            intro x m19 m21 e19 e21 hx
            refine whole m9 hk9 h919 (by rw [h9c 83 (by decide) (by decide)]; exact h83) (by rw [h9c 84 (by decide) (by decide)]; exact h84) hWH ⟨fun e he => by rw [h9c 93 (by decide) (by decide)]; exact hl e (by omega), s, t1, t2, t3⟩ g1 m21 ?_ ?_ ?_ ?_ ?_ ?_
            · rw [e21, e19]
              exact ((hk9.tr f14.kb).tr (kb.s (by decide) (by decide))).tr (kb.s (by decide) (by decide))
            · intro c hc
              rw [e21, ri_n (by omega), e19, ri_n (by omega)]
              exact f14.1 c (by omega)
            · rw [e21, ri_n (by decide), e19, ri_n (by decide), f14.2.2 19 (by decide) (by decide)]; exact h919
            · rw [e21, ri_n (by decide), e19, ri_e, upd_e, hx]
            · rw [e21, ri_e, upd_e]
            · rw [e21, e19]
              exact (p14.u (by decide) (by decide)).u (by decide) (by decide)
          rw [e14]
          refine ⟨fun c => ⟨vj, fun m19 e19 => ⟨vj, fun m21 e21 => go 0 m19 m21 e19 e21 ?_⟩⟩, fun c => ⟨vj, fun m19 e19 => ⟨vj, fun m21 e21 => go 1 m19 m21 e19 e21 ?_⟩⟩⟩
          · have : ¬ bb pk (bkP pk a) = 1 := fun h => c (by rw [h])
            have h2 : bkH pk a = bb pk (bkP pk a) := rfl
            omega
          · exact (nI_inj (show bb pk (bkP pk a) < 2 ^ 32 by omega) (by decide) c).symm
        · refine ⟨fun c => absurd (e10.trans nI_0) c, fun _ => ⟨_, c_mwrong 4 h919, fun m27 e27 => ?_⟩⟩
          have hz := bkF_2 (show ¬ 8 * pk.length < bkP pk a by omega) hWH
          rw [← hQ]
          refine ⟨by rw [e27]; exact hk9.tr kb.f, by rw [e27, ri_e, upd_e, hz], fun h => ?_⟩
          rw [hz] at h
          omega
      · have h2 : m4.1 75 19 = nI 2 := by rw [g2, ri_e, upd_e]
        refine ⟨fun c => absurd c (by rw [h2]; decide), fun _ => ?_⟩
        rw [← hQ]
        have hz := bkF_1 g1
        refine ⟨by rw [g2]; exact hk.tr kb.f, by rw [h2, hz], fun h => ?_⟩
        rw [hz] at h
        omega
    | succ d ih =>
      intro i m hi hk h19 h83 h84 hl hp
      apply l_X9_book_29
      rw [cj]
      refine ⟨vj, pk_le (bkN pk a) i (fun c => by omega) (fun _ => ⟨_, v_mbits 4 (by decide) hp, ?_⟩) h84⟩
      rintro r32 m31 ⟨f, e, p⟩
      have hv := nv_lt pk (a + 8 + 4 * i) 4
      rw [show nI 64 * nI j + nI i = nI (64 * j + i) by rw [pk_mul, nI_add], cl (show 64 * j + i < 2 ^ 31 by omega), vn8, e, by8_s (show nv pk (a + 8 + 4 * i) 4 < 128 by omega)]
      refine ⟨vin (by omega) (by decide), fun m35 e35 x36 e36 => ?_⟩
      rw [e36, nI_add]
      refine ih (i + 1) m35 (by omega) (by rw [e35]; exact (hk.tr f.kb).tr (kb.s2 (Or.inr rfl) (by omega))) ?_ ?_ ?_ ?_ ?_
      · rw [e35, ri_n (by decide), f.2.2 19 (by decide) (by decide)]; exact h19
      · rw [e35, ri_n (by decide), f.1 83 (by decide)]; exact h83
      · rw [e35, ri_n (by decide), f.1 84 (by decide)]; exact h84
      · intro k hk2
        by_cases hki : k = i
        · subst hki
          rw [e35, ri_e, upd_e]
          rfl
        · rw [e35, ri_e, upd_n (by omega), f.1 93 (by decide)]
          exact hl k (by omega)
      · rw [e35, show a + 8 + 4 * (i + 1) = a + 8 + 4 * i + 4 by omega]
        exact p.u (by decide) (by decide)
  apply g_X9_book
  rw [cj]
  refine ⟨_, v_mbits 2 (by decide) hI, ?_⟩
  rintro r3 m2 ⟨f2, e2, p2⟩
  refine ⟨vj, fun m6 e6 => ?_⟩
  rw [e2, nI_add, Nat.add_comm] at e6
  have p6 : mP m6 pk (a + 2) := by rw [e6]; exact p2.u (by decide) (by decide)
  refine ⟨_, v_mbits 6 (by decide) p6, ?_⟩
  rintro r9 m8 ⟨f8, e8, p8⟩
  refine ⟨vj, fun m12 e12 => ?_⟩
  rw [e8, nI_add, Nat.add_comm] at e12
  refine lens (bkN pk a) 0 m12 (by omega) ?_ ?_ ?_ ?_ (fun k hk => by omega) ?_
  · rw [e12]
    refine kb.tr (kb.tr (kb.tr f2.kb ?_) f8.kb) (kb.s (by decide) (by decide))
    rw [e6]
    exact kb.s (by decide) (by decide)
  · rw [e12, ri_n (by decide), f8.2.2 19 (by decide) (by decide), e6, ri_n (by decide), f2.2.2 19 (by decide) (by decide)]; exact h19
  · rw [e12, ri_n (by decide), f8.1 83 (by decide), e6, ri_e, upd_e]; rfl
  · rw [e12, ri_e, upd_e]; rfl
  · rw [e12, show a + 8 + 4 * 0 = a + 2 + 6 by omega]
    exact p8.u (by decide) (by decide)
