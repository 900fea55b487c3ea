/-! ===== the reference puts samples, and reads ===== -/
def mLf (m : xm_M) (sp : List Int32) (s : SS) : Prop := (0 < s.1 → ∀ c, c < sC sp → ∀ n, n < 16 → m.2.1 104 (32 * c + 16 + n) = s.2.2.1 c n) ∧ ∀ c, c < sC sp → ∀ i, i < 16 * (s.1 - 1) → m.1 105 (960 * c + i) = s.2.2.2 c i
def mSS (m : xm_M) (sp : List Int32) (s : SS) : Prop := m.1 82 3 = nI s.1 ∧ m.1 82 4 = nI s.2.1 ∧ m.1 75 51 = nI (16 * (s.1 - 1)) ∧ mLf m sp s
def kU (μ m : xm_M) : Prop := (∀ c, c ≠ 75 → c ≠ 82 → c ≠ 105 → m.1 c = μ.1 c) ∧ (∀ k, k ≠ 51 → m.1 75 k = μ.1 75 k) ∧ (∀ k, k ≠ 3 → m.1 82 k = μ.1 82 k) ∧ ∀ c, c ≠ 104 → m.2.1 c = μ.2.1 c
theorem clS_m {x : Int64} {P : Int32 → Prop} (h : P (clS x)) : ((0 ≤ lg_cmp x (-32768) → ((lg_cmp x 32767 ≤ 0 → P x.toInt32) ∧ (¬ lg_cmp x 32767 ≤ 0 → P (32767 : Int64).toInt32))) ∧ (¬ 0 ≤ lg_cmp x (-32768) → P (-32768 : Int64).toInt32)) := by
  have h1 : (32767 : Int64).toInt = 32767 := by decide
  have h2 : (-32768 : Int64).toInt = -32768 := by decide
  rw [lg_cmp_ge, lg_cmp_le]
  unfold clS at h
  refine ⟨fun c => ⟨fun c2 => ?_, fun c2 => ?_⟩, fun c => ?_⟩
  · rw [if_neg, if_neg] at h
    · exact h
    · rw [Int64.lt_iff_toInt_lt]
      rw [Int64.le_iff_toInt_le] at c2
      omega
    · rw [Int64.lt_iff_toInt_lt]
      rw [Int64.le_iff_toInt_le] at c
      omega
  · rw [if_neg, if_pos] at h
    · exact h
    · rw [Int64.lt_iff_toInt_lt]
      rw [Int64.le_iff_toInt_le] at c2
      omega
    · rw [Int64.lt_iff_toInt_lt]
      rw [Int64.le_iff_toInt_le] at c
      omega
  · rw [if_pos] at h
    · exact h
    · rw [Int64.lt_iff_toInt_lt]
      rw [Int64.le_iff_toInt_le] at c
      omega
theorem c_mputs {b : Bool} {μ : xm_M} {sp pk : List Int32} {s : SS} (h31 : μ.1 75 31 = nI (sC sp)) (hs : mSS μ sp s) (hs58 : s.1 ≤ 58) (hnow : ∀ c, c < sC sp → ∀ n, n < 32 → μ.2.1 103 (32 * c + n) = hlv (fc sp pk c) n) : xCv b b k_X9_puts μ [.ref 75] (fun m => kU μ m ∧ mSS m sp (s.1 + 1, s.2.1, fun c n => hlv (fc sp pk c) (16 + n), sSm sp pk s)) := by
  have hC := sC_b sp
  obtain ⟨s1, s2', s3', s4⟩ := hs
  generalize hQ : (fun (m : xm_M) => kU μ m ∧ mSS m sp (s.1 + 1, s.2.1, fun c n => hlv (fc sp pk c) (16 + n), sSm sp pk s)) = Q
  have e129 : ∀ (d k : Nat) (m : xm_M), k + d = 64 → (∀ c, c ≠ 75 → c ≠ 105 → m.1 c = μ.1 c) → (∀ k, k ≠ 51 → m.1 75 k = μ.1 75 k) → (∀ c, c ≠ 104 → m.2.1 c = μ.2.1 c) → m.1 75 51 = nI (16 * s.1) → (∀ c, c < sC sp → ∀ i, i < 16 * s.1 → m.1 105 (960 * c + i) = sSm sp pk s c i) → (∀ i, i < k → m.2.1 104 i = μ.2.1 103 i) → hd_X9_puts_129 b Q (nI k) m := by
    intro d
    induction d with
    | zero =>
      intro k m hk f1 f2 f3 h51 h105 h104
      apply l_X9_puts_129
      rw [cl (show 3 < 2 ^ 31 by decide), f1 82 (by decide) (by decide), s1, nI_add]
      refine pk_le 64 k (fun _ => ⟨vin (by decide) (by decide), vin (by decide) (by decide), fun m4 e4 => ?_⟩) (fun c => by omega)
      rw [← hQ]
      have o4 : ∀ c, c ≠ 82 → m4.1 c = m.1 c := fun c hc => by rw [e4, ri_n hc]
      refine ⟨⟨fun c a1 a2 a3 => by rw [o4 c a2]; exact f1 c a1 a3, fun k hk2 => by rw [o4 75 (by decide)]; exact f2 k hk2, fun k hk2 => by rw [e4, ri_e, upd_n hk2], fun c hc => by rw [e4, ri_l]; exact f3 c hc⟩, ?_, ?_, ?_, fun _ c hc n hn => ?_, fun c hc i hi => ?_⟩
      · rw [e4, ri_e, upd_e]
      · rw [e4, ri_e, upd_n (by decide)]; exact s2'
      · rw [o4 75 (by decide)]; exact h51
      · rw [e4, ri_l, h104 _ (by omega), show 32 * c + 16 + n = 32 * c + (16 + n) by omega]
        exact hnow c hc (16 + n) (by omega)
      · rw [o4 105 (by decide)]; exact h105 c hc i hi
    | succ d ih =>
      intro k m hk f1 f2 f3 h51 h105 h104
      apply l_X9_puts_129
      rw [cl (show k < 2 ^ 31 by omega), f3 103 (by decide)]
      refine pk_le 64 k (fun c => by omega) (fun _ => ⟨vin (by omega) (by decide), vin (by omega) (by decide), fun m7 e7 x8 e8 => ?_⟩)
      rw [e8, nI_add]
      refine ih (k + 1) m7 (by omega) (by rw [e7]; exact f1) (by rw [e7]; exact f2) (fun c hc => by rw [e7, rl_n hc]; exact f3 c hc) (by rw [e7]; exact h51) (by rw [e7]; exact h105) (lt_s (fun i hi => ?_) (by rw [e7, rl_e, updL_e]))
      rw [e7, rl_e, updL_n (by omega)]
      exact h104 i hi
  apply g_X9_puts
  rw [cl (show 3 < 2 ^ 31 by decide), s1]
  refine ⟨vin (by decide) (by decide), pk_le s.1 0 (fun c0 => ?_) (fun c0 => ?_) rfl nI_0.symm⟩
  · refine e129 64 0 μ rfl (fun _ _ _ => rfl) (fun _ _ => rfl) (fun _ _ => rfl) (by rw [s3']; congr 1; omega) (fun c hc i hi => by omega) (fun i hi => by omega)
  · have e11 : ∀ (d c : Nat) (f : Nat → Int32), c + d = sC sp → (∀ i j, i < c → j < 16 * s.1 → f (960 * i + j) = sSm sp pk s i j) → (∀ i j, c ≤ i → i < sC sp → j < 960 → f (960 * i + j) = μ.1 105 (960 * i + j)) → hd_X9_puts_11 b Q (nI c) (xu_I μ 105 f) := by
      intro d
      induction d with
      | zero =>
        intro c f hc hd hu
        have hcC : c = sC sp := by omega
        apply l_X9_puts_11
        refine pk_le (sC sp) c (fun _ m2 e2 => ?_) (fun c => by omega) (by rw [ri_n (by decide)]; exact h31)
        rw [ri_n (show 75 ≠ 105 by decide), s3', nI_add, show 16 * (s.1 - 1) + 16 = 16 * s.1 by omega] at e2
        have g2 : m2.1 105 = f := by rw [e2, ri_n (by decide), ri_e]
        refine e129 64 0 m2 rfl (fun c a1 a2 => by rw [e2, ri_n a1, ri_n a2]) (fun k hk => by rw [e2, ri_e, upd_n hk]) (fun c _ => by rw [e2]; rfl) (by rw [e2, ri_e, upd_e]) (fun i hi j hj => by rw [g2]; exact hd i j (by omega) hj) (fun i hi => by omega)
      | succ d ih =>
        intro c f hc hd hu
        have e21 : ∀ (d2 k : Nat) (f2 : Nat → Int32), k + d2 = 16 → (∀ j, j < 960 → f2 (960 * c + j) = if 16 * (s.1 - 1) ≤ j ∧ j < 16 * (s.1 - 1) + k then sSm sp pk s c j else μ.1 105 (960 * c + j)) → (∀ i j, i ≠ c → j < 960 → f2 (960 * i + j) = f (960 * i + j)) → hd_X9_puts_21 b Q (nI c) (nI k) (xu_I μ 105 f2) := by
          intro d2
          induction d2 with
          | zero =>
            intro k f2 hk h1 h2
            have hk16 : k = 16 := by omega
            apply l_X9_puts_21
            refine pk_le 16 k (fun _ x2 e2 => ?_) (fun c => by omega)
            rw [e2, nI_add]
            refine ih (c + 1) f2 (by omega) (fun i j hi hj => ?_) (fun i j h3 h4 hj => ?_)
            · by_cases hic : i = c
              · rw [hic, h1 j (by omega)]
                by_cases hj2 : 16 * (s.1 - 1) ≤ j ∧ j < 16 * (s.1 - 1) + k
                · rw [if_pos hj2]
                · rw [if_neg hj2, s4.2 c (by omega) j (by omega)]
                  unfold sSm
                  rw [if_neg (by omega)]
              · rw [h2 i j hic (by omega)]
                exact hd i j (by omega) hj
            · rw [h2 i j (by omega) hj]
              exact hu i j (by omega) h4 hj
          | succ d2 ih2 =>
            intro k f2 hk h1 h2
            apply l_X9_puts_21
            have i1 : nI 32 * nI c + nI 16 + nI k = nI (32 * c + 16 + k) := by rw [pk_mul, nI_add, nI_add]
            have i2 : nI 32 * nI c + nI k = nI (32 * c + k) := by rw [pk_mul, nI_add]
            have i3 : nI 960 * nI c + nI (16 * (s.1 - 1)) + nI k = nI (960 * c + 16 * (s.1 - 1) + k) := by rw [pk_mul, nI_add, nI_add]
            rw [i1, i2, cl (show 32 * c + 16 + k < 2 ^ 31 by omega), cl (show 32 * c + k < 2 ^ 31 by omega), ri_l, ri_n (show 75 ≠ 105 by decide), s3', i3, cl (show 960 * c + 16 * (s.1 - 1) + k < 2 ^ 31 by omega), s4.1 c0 c (by omega) k (by omega), hnow c (by omega) k (by omega)]
            refine pk_le 16 k (fun c => by omega) (fun _ => ⟨vin (by omega) (by decide), vin (by omega) (by decide), fun x5 e5 => ?_⟩)
            refine clS_m (x := x5) (P := fun v => vp_in (nI (960 * c + 16 * (s.1 - 1) + k)) 1920 ∧ ∀ m9 : xm_M, m9 = xu_I (xu_I μ 105 f2) 105 (upd ((xu_I μ 105 f2).1 105) (960 * c + 16 * (s.1 - 1) + k) v) → ∀ x10 : Int32, x10 = nI k + nI 1 → hd_X9_puts_21 b Q (nI c) x10 m9) ⟨vin (by omega) (by decide), fun m9 e9 x10 e10 => ?_⟩
            rw [xu_II, ri_e] at e9
            rw [e10, nI_add, e9]
            refine ih2 (k + 1) _ (by omega) (fun j hj => ?_) (fun i j hic hj => ?_)
            · by_cases hjk : j = 16 * (s.1 - 1) + k
              · rw [show 960 * c + j = 960 * c + 16 * (s.1 - 1) + k by omega, upd_e, if_pos (by omega), e5]
                unfold sSm
                rw [if_pos (by omega), show j - 16 * (s.1 - 1) = k by omega]
              · rw [upd_n (by omega), h1 j hj]
                by_cases hj2 : 16 * (s.1 - 1) ≤ j ∧ j < 16 * (s.1 - 1) + k
                · rw [if_pos hj2, if_pos (by omega)]
                · rw [if_neg hj2, if_neg (by omega)]
            · rw [upd_n (by omega)]
              exact h2 i j hic hj
        apply l_X9_puts_11
        refine pk_le (sC sp) c (fun c => by omega) (fun _ => ?_) (by rw [ri_n (by decide)]; exact h31)
        exact e21 16 0 f rfl (fun j hj => by rw [if_neg (by omega)]; exact hu c j (Nat.le_refl _) (by omega) hj) (fun i j _ _ => rfl)
    have hid : xu_I μ 105 (μ.1 105) = μ := by
      unfold xu_I
      have : va_up μ.1 105 (μ.1 105) = μ.1 := by
        funext k
        by_cases h : k = 105
        · rw [h]; simp [va_up]
        · simp [va_up, h]
      rw [this]
    have := e11 (sC sp) 0 (μ.1 105) (by omega) (fun i j hi => by omega) (fun i j _ _ _ => rfl)
    rw [hid] at this
    exact this
