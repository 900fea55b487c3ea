/-! ===== the class's book ===== -/
theorem c_power {b : Bool} {μ : xm_M} {B r w : Nat} (hB : xs_bk B) (hw : 1 ≤ w ∧ w ≤ 4) (h0 : μ.1 B 0 = nI w) : xCi b b k_X1_power μ [.ref B, .int (nI r)] (fun x μ' => x = nI (r ^ w) ∧ μ' = μ) := by
  have loop : ∀ d i, i + d = w → hd_X1_power_4 b (fun x μ' => x = nI (r ^ w) ∧ μ' = μ) B (nI r) (nI (r ^ i)) (nI i) μ := by
    intro d
    induction d with
    | zero =>
      intro i hi
      have : i = w := by omega
      subst this
      refine l_X1_power_4 _ _ _ hB ?_
      exact pk_le i i (fun _ => ⟨rfl, rfl⟩) (fun c => by omega) h0
    | succ d ih =>
      intro i hi
      refine l_X1_power_4 _ _ _ hB ?_
      refine pk_le w i (fun c => by omega) (fun _ => pk_le 4 i (fun c => by omega) (fun _ x3 e3 x4 e4 => ?_)) h0
      rw [e3, e4, pk_mul, nI_add, ← Nat.pow_succ]
      exact ih (i + 1) (by omega)
  refine g_X1_power _ hB ?_
  exact loop w 0 (by omega)
theorem pw_lt {r w : Nat} (hr : r ≤ 65) (hw : w ≤ 4) : r ^ w < 2 ^ 31 := by
  have h : r ^ w ≤ 65 ^ 4 := Nat.le_trans (Nat.pow_le_pow_left hr w) (Nat.pow_le_pow_right (by decide) hw)
  have e : (65 : Nat) ^ 4 = 17850625 := by decide
  omega
theorem c_greatestRoot {b : Bool} {μ : xm_M} {B n w : Nat} (hB : xs_bk B) (hw : 1 ≤ w ∧ w ≤ 4) (hn : n ≤ 64) (h0 : μ.1 B 0 = nI w) (h2 : μ.1 B 2 = nI n) : xCi b b k_X1_greatestRoot μ [.ref B] (fun x μ' => x = nI (rtF n w 63 1) ∧ μ' = μ) := by
  have loop : ∀ d r, d + r = 64 → 1 ≤ r → rtF n w d r = rtF n w 63 1 → hd_X1_greatestRoot_2 b (fun x μ' => x = nI (rtF n w 63 1) ∧ μ' = μ) B (nI r) μ := by
    intro d
    induction d with
    | zero =>
      intro r hr h1 e
      refine l_X1_greatestRoot_2 _ hB ?_
      exact pk_le 64 r (fun _ => ⟨by rw [← e]; rfl, rfl⟩) (fun c => by omega)
    | succ d ih =>
      intro r hr h1 e
      have hp := pw_lt (r := r + 1) (w := w) (by omega) hw.2
      refine l_X1_greatestRoot_2 _ hB ?_
      refine pk_le 64 r (fun c => by omega) (fun _ => ⟨_, by rw [nI_add]; exact c_power hB hw h0, ?_⟩)
      rintro r4 m3 ⟨e3, rfl⟩
      rw [e3]
      refine pk_lt n ((r + 1) ^ w) (fun c => ⟨?_, rfl⟩) (fun c x7 e7 => ?_) h2
      · rw [← e]
        unfold rtF
        rw [if_neg (by omega)]
      · rw [e7, nI_add]
        refine ih (r + 1) (by omega) (by omega) ?_
        rw [← e]
        conv => rhs; unfold rtF
        rw [if_pos c]
  refine g_X1_greatestRoot hB ?_
  exact loop 63 1 rfl (by decide) rfl
theorem bk_lo {B : Nat} (hB : xs_bk B) : 16 ≤ B ∧ B + 4 < 56 := by
  obtain ⟨j, h1, h2⟩ := hB
  omega
theorem c_learnValues {μ : xm_M} {pk : List Int32} {a B : Nat} (hB : xs_bk B) (h0 : μ.1 B 0 = nI (bkW pk a)) (h2 : μ.1 B 2 = nI (bkN pk a)) (hI : bP μ pk (bkP pk a)) : xCi true true k_X1_learnValues μ [.ref B, .ref 7] (fun r μ' => fm [7, B, B + 1] μ μ' ∧ (∀ k, k ≠ 1 → k ≠ 3 → k ≠ 4 → k ≠ 5 → k ≠ 6 → μ'.1 B k = μ.1 B k) ∧ ((8 * pk.length < bkE pk a ∧ r = nI 2) ∨ (bkE pk a ≤ 8 * pk.length ∧ r = nI 0 ∧ bP μ' pk (bkE pk a) ∧ μ'.1 B 1 = nI (bkH pk a) ∧ (bkH pk a = 1 → cV μ' B pk a)))) := by
  generalize hQ : (fun (r : Int32) (μ' : xm_M) => fm [7, B, B + 1] μ μ' ∧ (∀ k, k ≠ 1 → k ≠ 3 → k ≠ 4 → k ≠ 5 → k ≠ 6 → μ'.1 B k = μ.1 B k) ∧ ((8 * pk.length < bkE pk a ∧ r = nI 2) ∨ (bkE pk a ≤ 8 * pk.length ∧ r = nI 0 ∧ bP μ' pk (bkE pk a) ∧ μ'.1 B 1 = nI (bkH pk a) ∧ (bkH pk a = 1 → cV μ' B pk a)))) = Q
  have hB16 := bk_lo hB
  have hE := bkE_gt pk a
  have hq := bkQ_b pk a
  have hnb := bkB_b pk a
  have m7 : (7 : Nat) ∈ [7, B, B + 1] := by simp
  have mB0 : B ∈ [7, B, B + 1] := by simp
  have mB1 : B + 1 ∈ [7, B, B + 1] := by simp
  have mn : ∀ {m m' : xm_M}, fm [7] m m' → fm [7, B, B + 1] m m' := fun h => h.mono (fun c hc => by simp at hc; simp [hc])
  have loop : ∀ (F : Nat → Int32), bkH pk a = 1 → F 1 = nI 1 → F 3 = sgn8 (nv pk (bkP pk a + 1) 8) → F 4 = nI (nv pk (bkP pk a + 9) 8) → F 5 = nI (bb pk (bkP pk a + 17)) → F 6 = nI (bkQ pk a) → (∀ k, k ≠ 1 → k ≠ 3 → k ≠ 4 → k ≠ 5 → k ≠ 6 → F k = μ.1 B k) →
      ∀ (d i : Nat) (m : xm_M), i + d = bkQ pk a → bP m pk (bkP pk a + 21 + bkB pk a * i) → bkP pk a + 21 + bkB pk a * i ≤ 8 * pk.length → m.1 B = F → (∀ k, k < i → m.1 (B + 1) k = nI (bkM pk a k)) → fm [7, B, B + 1] μ m → hd_X1_learnValues_115 Q B (nI (nv pk (bkP pk a + 18) 3)) (nI i) m := by
    intro F hH f1 f3 f4 f5 f6 fo d
    induction d with
    | zero =>
      intro i m hi hp hl hF hk hf
      refine l_X1_learnValues_115 _ _ hB ?_
      have he : bkE pk a = bkP pk a + 21 + bkB pk a * i := by
        unfold bkE
        rw [if_pos hH, show bkQ pk a = i by omega]
      refine pk_le (bkQ pk a) i (fun _ => ?_) (fun c => by omega) (by rw [hF]; exact f6)
      rw [← hQ]
      refine ⟨hf, fun k a1 a2 a3 a4 a5 => by rw [hF]; exact fo k a1 a2 a3 a4 a5, Or.inr ⟨by omega, rfl, by rw [he]; exact hp, by rw [hF, hH]; exact f1, fun _ => ⟨by rw [hF]; exact f3, by rw [hF]; exact f4, by rw [hF]; exact f5, by rw [hF]; exact f6, fun k hk2 => hk k (by omega)⟩⟩⟩
    | succ d ih =>
      intro i m hi hp hl hF hk hf
      have he : bkP pk a + 21 + bkB pk a * i + bkB pk a ≤ bkE pk a := by
        have : bkB pk a * (i + 1) ≤ bkB pk a * bkQ pk a := Nat.mul_le_mul_left _ (by omega)
        unfold bkE
        rw [if_pos hH]
        rw [Nat.mul_add] at this
        omega
      refine l_X1_learnValues_115 _ _ hB ?_
      refine pk_le (bkQ pk a) i (fun c => by omega) (fun _ => pk_le 64 i (fun c => by omega) (fun _ => ⟨_, by rw [nI_add]; exact v_number (bkB pk a) hnb.2 (by omega) hp, ?_⟩)) (by rw [hF]; exact f6)
      rintro r5 m4 ⟨f, e, p⟩
      refine ⟨vin (by omega) (by decide), fun m8 e8 => ⟨vin (by omega) (by decide), ?_⟩⟩
      rw [cl (by omega)] at e8 ⊢
      have h8 : m8.1 (B + 1) i = rdv pk (bkP pk a + 21 + bkB pk a * i) (bkB pk a) := by rw [e8, ri_e, upd_e, e]
      have hB8 : m8.1 B = F := by rw [e8, ri_n (by omega), (f B (by simp; omega)).1, hF]
      have hf8 : fm [7, B, B + 1] μ m8 := by rw [e8]; exact (hf.tr (mn f)).I mB1
      rw [h8]
      refine rdv_br hnb.2 (fun c x11 e11 => ?_) (fun c => ?_)
      · rw [e11, nI_add]
        refine ih (i + 1) m8 (by omega) ?_ (by rw [Nat.mul_add]; omega) hB8 ?_ hf8
        · rw [Nat.mul_add, Nat.mul_one, ← Nat.add_assoc]
          exact p.fr (by rw [e8, ri_n (by omega)]) (by rw [e8, ri_n (by omega)])
        · intro k hk2
          by_cases hki : k = i
          · subst hki
            rw [h8, rdv_ok c]
            rfl
          · rw [e8, ri_e, upd_n hki, (f (B + 1) (by simp; omega)).1]
            exact hk k (by omega)
      · rw [← hQ]
        exact ⟨hf8, fun k a1 a2 a3 a4 a5 => by rw [hB8]; exact fo k a1 a2 a3 a4 a5, Or.inl ⟨by omega, rfl⟩⟩
  refine g_X1_learnValues hB ⟨_, v_number 1 (by decide) (by decide) hI, ?_⟩
  rintro r3 m2 ⟨f2, e2, p2⟩
  have hB2 : m2.1 B = μ.1 B := (f2 B (by simp; omega)).1
  rw [e2]
  refine rdv_br (by decide) (fun c1 => ?_) (fun c1 => ?_)
  · rw [rdv_ok c1, nv_1]
    have hb2 := bb_lt pk (bkP pk a)
    refine ⟨fun c m7 e7 => ?_, fun c m61 e61 => ?_⟩
    · have hH : ¬ bkH pk a = 1 := fun h => c (by rw [show bb pk (bkP pk a) = 1 from h])
      have hH0 : bkH pk a = 0 := by
        have : bkH pk a < 2 := hb2
        omega
      have hee : bkE pk a = bkP pk a + 1 := by unfold bkE; rw [if_neg hH]
      refine ⟨fun c2 => absurd (by rw [e7, ri_e, upd_e]; exact nI_0) c2, fun _ => ?_⟩
      rw [← hQ]
      refine ⟨by rw [e7]; exact (mn f2).I mB0, fun k a1 _ _ _ _ => by rw [e7, ri_e, upd_n a1, hB2], Or.inr ⟨by omega, rfl, ?_, by rw [e7, ri_e, upd_e, hH0], fun h => absurd h hH⟩⟩
      rw [hee]
      exact p2.fr (by rw [e7, ri_n (by omega)]) (by rw [e7, ri_n (by omega)])
    · have hH : bkH pk a = 1 := nI_inj (show bb pk (bkP pk a) < 2 ^ 32 by omega) (by decide) c
      have hee : bkP pk a + 21 + bkB pk a ≤ bkE pk a := by
        have : bkB pk a * 1 ≤ bkB pk a * bkQ pk a := Nat.mul_le_mul_left _ hq.1
        unfold bkE
        rw [if_pos hH]
        omega
      refine ⟨fun _ => ?_, fun c2 => absurd c2 (by rw [e61, ri_e, upd_e]; decide)⟩
      have hB61 : m61.1 B = upd (μ.1 B) 1 (nI 1) := by rw [e61, ri_e, hB2]
      have f61 : fm [7, B, B + 1] μ m61 := by rw [e61]; exact (mn f2).I mB0
      have p61 : bP m61 pk (bkP pk a + 1) := p2.fr (by rw [e61, ri_n (by omega)]) (by rw [e61, ri_n (by omega)])
      refine ⟨_, v_number 8 (by decide) (by decide) p61, ?_⟩
      rintro r11 m10 ⟨f10, e10, p10⟩
      refine ⟨_, v_number 8 (by decide) (by decide) p10, ?_⟩
      rintro r15 m14 ⟨f14, e14, p14⟩ m17 e17
      have hB17 : m17.1 B = upd (upd (μ.1 B) 1 (nI 1)) 4 r15 := by rw [e17, ri_e, (f14 B (by simp; omega)).1, (f10 B (by simp; omega)).1, hB61]
      have f17 : fm [7, B, B + 1] μ m17 := by rw [e17]; exact ((f61.tr (mn f10)).tr (mn f14)).I mB0
      have p17 : bP m17 pk (bkP pk a + 1 + 8 + 8) := p14.fr (by rw [e17, ri_n (by omega)]) (by rw [e17, ri_n (by omega)])
      refine ⟨_, v_number 1 (by decide) (by decide) p17, ?_⟩
      rintro r20 m19 ⟨f19, e19, p19⟩
      have hB19 : m19.1 B = upd (upd (μ.1 B) 1 (nI 1)) 4 r15 := by rw [(f19 B (by simp; omega)).1, hB17]
      have f19' : fm [7, B, B + 1] μ m19 := f17.tr (mn f19)
      have tail : ∀ (x : Nat) (m23 : xm_M), m23 = xu_I m19 B (upd (m19.1 B) 5 (nI x)) → (bkP pk a + 18 ≤ 8 * pk.length → x = bb pk (bkP pk a + 17)) → (∃ Q24 : Int32 → xm_M → Prop, xCi true true k_X0_number m23 [.ref 7, .int (nI 3)] Q24 ∧
          ∀ (r26 : Int32) (m25 : xm_M), Q24 r26 m25 →
          ((0 ≤ r26 →
           (((nI 128) ≤ r11 →
            ∀ m30 : xm_M, m30 = xu_I m25 B (upd (m25.1 B) 3 (r11 - (nI 256))) →
            ∃ Q31 : Int32 → xm_M → Prop, xCi true true k_X1_greatestRoot m30 [.ref B] Q31 ∧
            ∀ (r33 : Int32) (m32 : xm_M), Q31 r33 m32 →
            ∀ m35 : xm_M, m35 = xu_I m32 B (upd (m32.1 B) 6 r33) →
            hd_X1_learnValues_115 Q B r26 (nI 0) m35) ∧
           (¬ (nI 128) ≤ r11 →
            ∀ m36 : xm_M, m36 = xu_I m25 B (upd (m25.1 B) 3 r11) →
            ∃ Q37 : Int32 → xm_M → Prop, xCi true true k_X1_greatestRoot m36 [.ref B] Q37 ∧
            ∀ (r39 : Int32) (m38 : xm_M), Q37 r39 m38 →
            ∀ m41 : xm_M, m41 = xu_I m38 B (upd (m38.1 B) 6 r39) →
            hd_X1_learnValues_115 Q B r26 (nI 0) m41))) ∧
          (¬ 0 ≤ r26 →
           Q (nI 2) m25))) := by
        intro x m23 e23 hx
        have hB23 : m23.1 B = upd (upd (upd (μ.1 B) 1 (nI 1)) 4 r15) 5 (nI x) := by rw [e23, ri_e, hB19]
        have f23 : fm [7, B, B + 1] μ m23 := by rw [e23]; exact f19'.I mB0
        have p23 : bP m23 pk (bkP pk a + 1 + 8 + 8 + 1) := p19.fr (by rw [e23, ri_n (by omega)]) (by rw [e23, ri_n (by omega)])
        refine ⟨_, v_number 3 (by decide) (by decide) p23, ?_⟩
        rintro r26 m25 ⟨f25, e25, p25⟩
        have hB25 : m25.1 B = upd (upd (upd (μ.1 B) 1 (nI 1)) 4 r15) 5 (nI x) := by rw [(f25 B (by simp; omega)).1, hB23]
        have f25' : fm [7, B, B + 1] μ m25 := f23.tr (mn f25)
        rw [e25]
        refine rdv_br (by decide) (fun c3 => ?_) (fun c3 => ?_)
        · have x1 := hx (by omega)
          have s1 : r15 = nI (nv pk (bkP pk a + 9) 8) := by rw [e14, rdv_ok (by omega)]
          have l1 : r11 = nI (nv pk (bkP pk a + 1) 8) := by rw [e10, rdv_ok (by omega)]
          have hv8 := nv_lt pk (bkP pk a + 1) 8
          rw [rdv_ok c3, show bkP pk a + 1 + 8 + 8 + 1 = bkP pk a + 18 by omega]
          have tail2 : ∀ (le : Int32) (m30 : xm_M), m30 = xu_I m25 B (upd (m25.1 B) 3 le) → le = sgn8 (nv pk (bkP pk a + 1) 8) → ∃ Q31 : Int32 → xm_M → Prop, xCi true true k_X1_greatestRoot m30 [.ref B] Q31 ∧
            ∀ (r33 : Int32) (m32 : xm_M), Q31 r33 m32 →
            ∀ m35 : xm_M, m35 = xu_I m32 B (upd (m32.1 B) 6 r33) →
            hd_X1_learnValues_115 Q B (nI (nv pk (bkP pk a + 18) 3)) (nI 0) m35 := by
            intro le m30 e30 hle
            have hB30 : m30.1 B = upd (upd (upd (upd (μ.1 B) 1 (nI 1)) 4 r15) 5 (nI x)) 3 le := by rw [e30, ri_e, hB25]
            refine ⟨_, c_greatestRoot hB (bkW_b pk a) (bkN_b pk a).2 (by rw [hB30, upd_n (by decide), upd_n (by decide), upd_n (by decide), upd_n (by decide)]; exact h0) (by rw [hB30, upd_n (by decide), upd_n (by decide), upd_n (by decide), upd_n (by decide)]; exact h2), ?_⟩
            rintro r33 m32 ⟨e33, rfl⟩ m35 e35
            have hB35 : m35.1 B = upd (upd (upd (upd (upd (μ.1 B) 1 (nI 1)) 4 r15) 5 (nI x)) 3 le) 6 r33 := by rw [e35, ri_e, hB30]
            refine loop _ hH ?_ ?_ ?_ ?_ ?_ ?_ (bkQ pk a) 0 m35 (by omega) ?_ (by omega) hB35 (fun k hk => by omega) ?_
            · rw [upd_n (by decide), upd_n (by decide), upd_n (by decide), upd_n (by decide), upd_e]
            · rw [upd_n (by decide), upd_e]; exact hle
            · rw [upd_n (by decide), upd_n (by decide), upd_n (by decide), upd_e]; exact s1
            · rw [upd_n (by decide), upd_n (by decide), upd_e, x1]
            · rw [upd_e]; exact e33
            · intro k a1 a2 a3 a4 a5
              rw [upd_n a5, upd_n a2, upd_n a4, upd_n a3, upd_n a1]
            · rw [Nat.mul_zero, Nat.add_zero, show bkP pk a + 21 = bkP pk a + 1 + 8 + 8 + 1 + 3 by omega]
              exact p25.fr (by rw [e35, ri_n (by omega), e30, ri_n (by omega)]) (by rw [e35, ri_n (by omega), e30, ri_n (by omega)])
            · rw [e35, e30]
              exact (f25'.I mB0).I mB0
          rw [l1]
          refine pk_le 128 (nv pk (bkP pk a + 1) 8) (fun c4 m30 e30 => tail2 _ m30 e30 ?_) (fun c4 m36 e36 => tail2 _ m36 e36 ?_)
          · unfold sgn8
            rw [if_neg (by omega)]
          · unfold sgn8
            rw [if_pos (by omega)]
        · rw [← hQ]
          refine ⟨f25', fun k a1 a2 a3 a4 a5 => ?_, Or.inl ⟨by omega, rfl⟩⟩
          rw [hB25, upd_n a4, upd_n a3, upd_n a1]
      refine ⟨fun c2 m23 e23 => tail 0 m23 e23 ?_, fun c2 m42 e42 => tail 1 m42 e42 ?_⟩
      · intro hl
        rw [e19, rdv_ok (by omega), nv_1, show bkP pk a + 1 + 8 + 8 = bkP pk a + 17 by omega] at c2
        have := bb_lt pk (bkP pk a + 17)
        have h1 : ¬ bb pk (bkP pk a + 17) = 1 := fun h => c2 (by rw [h])
        omega
      · intro hl
        rw [e19, rdv_ok (by omega), nv_1, show bkP pk a + 1 + 8 + 8 = bkP pk a + 17 by omega] at c2
        have := bb_lt pk (bkP pk a + 17)
        exact (nI_inj (by omega) (by decide) c2).symm
  · rw [← hQ]
    exact ⟨mn f2, fun k _ _ _ _ _ => by rw [hB2], Or.inl ⟨by omega, rfl⟩⟩
/-- learn: the fault, and the book -/
theorem c_blearn {μ : xm_M} {pk : List Int32} {a B : Nat} (hB : xs_bk B) (hI : bP μ pk a) : xCi true true k_X1_learn μ [.ref B, .ref 7] (fun r μ' => fm [7, B, B + 1, B + 2, B + 3, B + 4] μ μ' ∧ r = nI (bkF pk a) ∧ (bkF pk a = 0 → bP μ' pk (bkE pk a) ∧ cB μ' B pk a)) := by
  generalize hQ : (fun (r : Int32) (μ' : xm_M) => fm [7, B, B + 1, B + 2, B + 3, B + 4] μ μ' ∧ r = nI (bkF pk a) ∧ (bkF pk a = 0 → bP μ' pk (bkE pk a) ∧ cB μ' B pk a)) = Q
  have hB16 := bk_lo hB
  have hw := bkW_b pk a
  have hn := bkN_b pk a
  have hP : bkP pk a = a + 8 + 4 * bkN pk a := rfl
  have hE := bkE_gt pk a
  have mn : ∀ {m m' : xm_M}, fm [7] m m' → fm [7, B, B + 1, B + 2, B + 3, B + 4] m m' := fun h => h.mono (fun c hc => by simp at hc; simp [hc])
  have bad : ∀ (m : xm_M), fm [7, B, B + 1, B + 2, B + 3, B + 4] μ m → 8 * pk.length < bkP pk a → Q (nI 2) m := by
    intro m hm h
    rw [← hQ]
    refine ⟨hm, by rw [bkF_1 h], fun h2 => ?_⟩
    rw [bkF_1 h] at h2
    omega
  have grow : ∀ (m : xm_M), m.1 B 0 = nI (bkW pk a) → m.1 B 2 = nI (bkN pk a) → (∀ k, k < bkN pk a → m.1 (B + 2) k = nI (bkL pk a k)) → fm [7, B, B + 1, B + 2, B + 3, B + 4] μ m → bkP pk a ≤ 8 * pk.length → bP m pk (bkP pk a) → (∃ Q2 : Int32 → xm_M → Prop, xCi true true k_X1_growTree m [.ref B] Q2 ∧
       ∀ (r4 : Int32) (m3 : xm_M), Q2 r4 m3 →
       ((¬ r4 = 0 →
        ∃ Q7 : Int32 → xm_M → Prop, xCi true true k_X1_learnValues m3 [.ref B, .ref 7] Q7 ∧
        ∀ (r9 : Int32) (m8 : xm_M), Q7 r9 m8 →
        Q r9 m8) ∧
       (r4 = 0 →
        Q (nI 4) m3))) := by
    intro m g0 g2 gl gf gp gb
    refine ⟨_, c_growTree hB hn (bkL_le pk a) g2 gl, ?_⟩
    rintro r4 m3 ⟨⟨k1, k2, k3⟩, hr⟩
    have f3 : fm [7, B, B + 1, B + 2, B + 3, B + 4] μ m3 := gf.tr (fun c hc => by
      simp only [List.mem_cons, List.not_mem_nil, or_false, not_or] at hc
      exact ⟨k1 c hc.2.1 hc.2.2.2.2.1 hc.2.2.2.2.2, by rw [k2]⟩)
    rcases hr with ⟨hr, hW, s, F, t1, t2, t3⟩ | ⟨hr, hW⟩
    · refine ⟨fun _ => ?_, fun c => absurd (hr.symm.trans c) (by decide)⟩
      refine ⟨_, c_learnValues hB (by rw [k3 0 (by decide)]; exact g0) (by rw [k3 2 (by decide)]; exact g2) (gb.fr (k1 7 (by omega) (by omega) (by omega)) (k1 2 (by omega) (by omega) (by omega))), ?_⟩
      rintro r9 m8 ⟨v1, v2, hv⟩
      have f8 : fm [7, B, B + 1, B + 2, B + 3, B + 4] μ m8 := f3.tr (v1.mono (fun c hc => by simp at hc; simp; omega))
      rw [← hQ]
      rcases hv with ⟨hv1, hv2⟩ | ⟨hv1, hv2, hv3, hv4, hv5⟩
      · refine ⟨f8, by rw [hv2, bkF_3 (by omega) hW hv1], fun h => ?_⟩
        rw [bkF_3 (by omega) hW hv1] at h
        omega
      · refine ⟨f8, by rw [hv2, bkF_0 hW (by omega)], fun _ => ⟨hv3, hW, ⟨s, F, t1, ?_, t3⟩, ?_, hv4, hv5⟩⟩
        · rw [(v1 (B + 3) (by simp; omega)).1]
          exact t2
        · rw [v2 0 (by decide) (by decide) (by decide) (by decide) (by decide), k3 0 (by decide)]
          exact g0
    · refine ⟨fun c => absurd (hr.trans nI_0) c, fun _ => ?_⟩
      rw [← hQ]
      refine ⟨f3, by rw [bkF_2 (by omega) hW], fun h => ?_⟩
      rw [bkF_2 (by omega) hW] at h
      omega
  have loop : ∀ (d i : Nat) (m : xm_M), i + d = bkN pk a → bP m pk (a + 8 + 4 * i) → a + 8 + 4 * i ≤ 8 * pk.length → m.1 B 0 = nI (bkW pk a) → m.1 B 2 = nI (bkN pk a) → (∀ k, k < i → m.1 (B + 2) k = nI (bkL pk a k)) → fm [7, B, B + 1, B + 2, B + 3, B + 4] μ m → hd_X1_learn_36 Q B (nI i) m := by
    intro d
    induction d with
    | zero =>
      intro i m hi hp hl g0 g2 hk hf
      have hin : i = bkN pk a := by omega
      refine l_X1_learn_36 _ hB ?_
      refine pk_le (bkN pk a) i (fun _ => ?_) (fun c => by omega) g2
      exact grow m g0 g2 (by rw [← hin]; exact hk) hf (by omega) (by rw [hP, ← hin]; exact hp)
    | succ d ih =>
      intro i m hi hp hl g0 g2 hk hf
      refine l_X1_learn_36 _ hB ?_
      refine pk_le (bkN pk a) i (fun c => by omega) (fun _ => pk_le 64 i (fun c => by omega) (fun _ => ⟨_, v_number 4 (by decide) (by decide) hp, ?_⟩)) g2
      rintro r23 m22 ⟨f, e, p⟩
      refine ⟨vin (by omega) (by decide), fun m26 e26 => ⟨vin (by omega) (by decide), ?_⟩⟩
      rw [cl (by omega)] at e26 ⊢
      have h26 : m26.1 (B + 2) i = rdv pk (a + 8 + 4 * i) 4 := by rw [e26, ri_e, upd_e, e]
      have hB26 : m26.1 B = m.1 B := by rw [e26, ri_n (by omega), (f B (by simp; omega)).1]
      have hf26 : fm [7, B, B + 1, B + 2, B + 3, B + 4] μ m26 := by rw [e26]; exact (hf.tr (mn f)).I (by simp)
      rw [h26]
      refine rdv_br (by decide) (fun c x29 e29 => ?_) (fun c => bad m26 hf26 (by omega))
      rw [e29, nI_add]
      refine ih (i + 1) m26 (by omega) ?_ (by omega) (by rw [hB26]; exact g0) (by rw [hB26]; exact g2) ?_ hf26
      · rw [show a + 8 + 4 * (i + 1) = a + 8 + 4 * i + 4 by omega]
        exact p.fr (by rw [e26, ri_n (by omega)]) (by rw [e26, ri_n (by omega)])
      · intro k hk2
        by_cases hki : k = i
        · subst hki
          rw [h26, rdv_ok c]
          rfl
        · rw [e26, ri_e, upd_n hki, (f (B + 2) (by simp; omega)).1]
          exact hk k (by omega)
  refine g_X1_learn hB ⟨_, v_number 2 (by decide) (by decide) hI, ?_⟩
  rintro r3 m2 ⟨f2, e2, p2⟩
  refine ⟨_, v_number 6 (by decide) (by decide) p2, ?_⟩
  rintro r7 m6 ⟨f6, e6, p6⟩
  have hf6 := (mn f2).tr (mn f6)
  rw [e6]
  refine rdv_br (by decide) (fun c m10 e10 m11 e11 => ?_) (fun c => bad m6 hf6 (by omega))
  have hw2 : r3 + nI 1 = nI (bkW pk a) := by rw [e2, rdv_ok (by omega), nI_add]; rfl
  have hn2 : rdv pk (a + 2) 6 + nI 1 = nI (bkN pk a) := by rw [rdv_ok (by omega), nI_add]; rfl
  refine loop (bkN pk a) 0 m11 (by omega) ?_ (by omega) ?_ ?_ (fun k hk => by omega) ?_
  · rw [show a + 8 + 4 * 0 = a + 2 + 6 by omega]
    exact p6.fr (by rw [e11, ri_n (by omega), e10, ri_n (by omega)]) (by rw [e11, ri_n (by omega), e10, ri_n (by omega)])
  · rw [e11, ri_e, upd_n (by decide), e10, ri_e, upd_e]; exact hw2
  · rw [e11, ri_e, upd_e]; exact hn2
  · rw [e11, e10]; exact (hf6.I (by simp)).I (by simp)
