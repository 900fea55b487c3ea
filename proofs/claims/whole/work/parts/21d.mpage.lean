/-! ===== the reference's page ===== -/
theorem c_mputLow {b : Bool} {μ : xm_M} {at' n : Nat} (G : Int64) (h : at' + n ≤ 6300) (hn : n ≤ 8) : xCv b b k_X9_putLow μ [.ref 76, .int (nI at'), .long G, .int (nI n)] (fun m => ∃ F, m = xu_I μ 76 F ∧ ∀ j, F j = if at' ≤ j ∧ j < at' + n then by8 (G >>> ((nI (8 * (j - at'))).toInt64 &&& 63)).toInt32 else μ.1 76 j) := by
  have loop : ∀ (d k : Nat) (F : Nat → Int32), k + d = n → (∀ j, F j = if at' ≤ j ∧ j < at' + k then by8 (G >>> ((nI (8 * (j - at'))).toInt64 &&& 63)).toInt32 else μ.1 76 j) → hd_X9_putLow_3 b (fun m => ∃ F, m = xu_I μ 76 F ∧ ∀ j, F j = if at' ≤ j ∧ j < at' + n then by8 (G >>> ((nI (8 * (j - at'))).toInt64 &&& 63)).toInt32 else μ.1 76 j) (nI at') G (nI n) (nI k) (xu_I μ 76 F) := by
    intro d
    induction d with
    | zero =>
      intro k F hk hF
      have : k = n := by omega
      subst this
      apply l_X9_putLow_3
      exact pk_le k k (fun _ => ⟨F, rfl, hF⟩) (fun c => by omega)
    | succ d ih =>
      intro k F hk hF
      apply l_X9_putLow_3
      rw [nI_add at' k, pk_mul, cl (show at' + k < 2 ^ 31 by omega), vn8]
      refine pk_le n k (fun c => by omega) (fun _ => ⟨vin (by omega) (by decide), fun m3 e3 x4 e4 => ?_⟩)
      rw [xu_II, ri_e] at e3
      rw [e4, nI_add, e3]
      refine ih (k + 1) _ (by omega) (fun j => ?_)
      by_cases hj : j = at' + k
      · rw [hj, upd_e, if_pos (by omega), show at' + k - at' = k by omega]
      · rw [upd_n hj, hF j]
        by_cases h2 : at' ≤ j ∧ j < at' + k
        · rw [if_pos h2, if_pos (by omega)]
        · rw [if_neg h2, if_neg (by omega)]
  have hid : xu_I μ 76 (μ.1 76) = μ := by
    unfold xu_I
    have : va_up μ.1 76 (μ.1 76) = μ.1 := by
      funext k
      by_cases h : k = 76
      · rw [h]; simp [va_up]
      · simp [va_up, h]
    rw [this]
  apply g_X9_putLow
  have := loop n 0 (μ.1 76) (by omega) (fun j => by rw [if_neg (by omega)])
  rw [hid] at this
  exact this
theorem nb79 : vp_nar .byte (nI 79) = by8 (nI 79) := by decide +kernel
theorem nb103 : vp_nar .byte (nI 103) = by8 (nI 103) := by decide +kernel
theorem nb83 : vp_nar .byte (nI 83) = by8 (nI 83) := by decide +kernel
theorem nb00 : vp_nar .byte (nI 0) = by8 (nI 0) := by decide +kernel
theorem xu_id {μ : xm_M} (c : Nat) : xu_I μ c (μ.1 c) = μ := by
  unfold xu_I
  have : va_up μ.1 c (μ.1 c) = μ.1 := by
    funext k
    by_cases h : k = c
    · rw [h]; simp [va_up]
    · simp [va_up, h]
  rw [this]
theorem nI_sub1 (n : Nat) : nI n - nI 1 = nI n + (-1) := by
  rw [Int32.sub_eq_add_neg]
  rfl
theorem c_mpage {b : Bool} {μ : xm_M} {A : AS} (v fl : Int32) (G : Int64) (se nu op : Int32) (h : mA μ A) : xCi b b k_X9_page μ [.ref 75, .int v, .int fl, .long G, .int se, .int nu, .int op] (fun r m => r = pgR A v op ∧ mA m (pgA A v fl G se nu op) ∧ loK μ m) := by
  generalize hQ : (fun (r : Int32) (m : xm_M) => r = pgR A v op ∧ mA m (pgA A v fl G se nu op) ∧ loK μ m) = Q
  apply g_X9_page
  intro m1 e1
  obtain ⟨g1, g2⟩ := h.thr e1
  obtain ⟨t1, t2, t3, t4⟩ := g1.1
  have no : ¬ (¬ v < 0 ∧ pgK A.1 v.toNatClampNeg op) → Q (-1) m1 := by
    intro hn
    obtain ⟨p1, p2⟩ := pg_n (fl := fl) (G := G) (se := se) (nu := nu) hn
    rw [← hQ]
    exact ⟨p1.symm, by rw [p2]; exact g1, g2⟩
  rw [t1]
  refine ⟨fun c => no (fun hn => hn.1 c), fun c => ?_⟩
  obtain ⟨f, hf, rfl⟩ := nI_of c
  rw [cl hf] at no
  refine pk_le f A.1 (fun c1 => ?_) (fun c1 => no (fun hn => by have := hn.2.1; omega))
  intro x4 e4
  rw [pk_sub c1] at e4
  rw [e4]
  generalize hsz : A.1 - f = size at *
  have main : ∀ L : Nat, L = pgLc size op → (¬ op = 0 → size % 255 = 0) → L ≤ 255 → A.1 + 27 + L ≤ 6000 → ∀ x10 : Int32, x10 = nI A.1 - nI 1 → hd_X9_page_94 b Q (nI f) fl G se nu (nI size) (nI L) x10 m1 := by
    intro L hL hop c2 c3 x10 e10
    have hok : pgK A.1 f op := ⟨c1, by rw [hsz]; exact hop, by rw [hsz, ← hL]; exact c2, by rw [hsz, ← hL]; exact c3⟩
    obtain ⟨y1, y2⟩ := pg_y (fl := fl) (G := G) (se := se) (nu := nu) hf hok
    rw [hsz, ← hL] at y1 y2
    -- the laces and the check
    have e242 : ∀ (d i : Nat) (F : Nat → Int32), i + d = L → (∀ j, j < A.1 + 27 + L → ¬ (f + 22 ≤ j ∧ j < f + 26) → ¬ (f + 27 + i ≤ j ∧ j < f + 27 + L) → F j = pgU A.2.1 f size L fl G se nu j) → hd_X9_page_242 b Q (nI f) (nI size) (nI L) (nI i) (xu_I m1 76 F) := by
      intro d
      induction d with
      | zero =>
        intro i F hi hF
        apply l_X9_page_242
        refine pk_le L i (fun _ m2 e2 => ?_) (fun c => by omega)
        rw [nI_add 27 L, ri_n (show 75 ≠ 76 by decide), t1, nI_add] at e2
        have h22 : m2.1 75 2 = nI (A.1 + (27 + L)) := by rw [e2, ri_e, upd_e]
        have h276 : m2.1 76 = F := by rw [e2, ri_n (by decide), ri_e]
        rw [h22, pk_sub (show f ≤ A.1 + (27 + L) by omega), show A.1 + (27 + L) - f = size + 27 + L by omega]
        refine ⟨_, c_mcrc (n := A.1 + 27 + L) (t := F) f (size + 27 + L) c3 (by omega) (fun j _ => by rw [h276]), ?_⟩
        rintro r5 m4 ⟨e5, rfl⟩
        have hcr : r5 = pgC A.2.1 f size L fl G se nu := by
          rw [e5]
          unfold pgC
          exact crcF_congr2 (fun j hj hc => hF (f + j) (by omega) (by omega) (by omega)) _ (Nat.le_refl _)
        refine ⟨_, by rw [nI_add]; exact c_mputLow (at' := f + 22) (n := 4) r5.toInt64 (by omega) (by decide), ?_⟩
        rintro m8 ⟨F8, e8, b8⟩
        have h82 : m8.1 75 2 = nI (A.1 + 27 + L) := by
          rw [e8, ri_n (by decide), h22]
          congr 1
          omega
        have := g1.tape (m := m8) (n := A.1 + 27 + L) (t := pgT A.2.1 f size L fl G se nu) (fun c q1 q2 _ => by rw [e8, ri_n q2, e2, ri_n q1, ri_n q2]) (by rw [e8, e2]; rfl) (fun k _ q => by rw [e8, ri_n (by decide), e2, ri_e, upd_n q]) h82 c3 (fun j hj => ?_) (by rw [← hsz]; exact pgT_fit t4 c1)
        · rw [← hQ]
          refine ⟨by rw [h82, y1], ?_, g2.tr this.2⟩
          rw [y2]
          exact this.1
        · rw [e8, ri_e, b8 j]
          unfold pgT
          by_cases hc : f + 22 ≤ j ∧ j < f + 26
          · rw [if_pos (by omega), if_pos hc, hcr, by8_in _ (by omega)]
          · rw [if_neg (by omega), if_neg hc, h276]
            exact hF j hj hc (by omega)
      | succ d ih =>
        intro i F hi hF
        have go : ∀ (x : Nat), x = (if 255 * (i + 1) ≤ size then 255 else size % 255) → ∀ m13 : xm_M, m13 = xu_I (xu_I m1 76 F) 76 (upd ((xu_I m1 76 F).1 76) (f + 27 + i) (by8 (nI x))) → ∀ x14 : Int32, x14 = nI i + nI 1 → hd_X9_page_242 b Q (nI f) (nI size) (nI L) x14 m13 := by
          intro x hx m13 e13 x14 e14
          rw [xu_II, ri_e] at e13
          rw [e14, nI_add, e13]
          refine ih (i + 1) _ (by omega) (fun j hj hc hl => ?_)
          by_cases hji : j = f + 27 + i
          · rw [hji, upd_e]
            unfold pgU
            rw [if_neg (by omega), if_neg (by omega), if_neg (by omega), if_neg (by omega), if_pos (show f + 27 + i < f + 27 + L by omega)]
            unfold laB
            rw [show f + 27 + i - f - 27 = i by omega, hx]
          · rw [upd_n hji]
            exact hF j hj hc (by omega)
        apply l_X9_page_242
        rw [nI_add f 27, nI_add (f + 27) i, nI_add i 1, pk_mul, cl (show f + 27 + i < 2 ^ 31 by omega), pk_rem (show size < 2 ^ 31 by omega) (by decide) (by decide), vn8, vn8]
        refine pk_le L i (fun c => by omega) (fun _ => pk_lt size (255 * (i + 1)) (fun c4 => ⟨vin (by omega) (by decide), ?_⟩) (fun c4 => ⟨vin (by omega) (by decide), ?_⟩))
        · intro m13 e13 x14 e14
          rw [← nI_add] at e14
          exact go (size % 255) (by rw [if_neg (by omega)]) m13 e13 x14 e14
        · intro m13 e13 x14 e14
          rw [← nI_add] at e14
          exact go 255 (by rw [if_pos (by omega)]) m13 e13 x14 e14
    -- moving the bytes
    have e94 : ∀ (d k : Nat) (F : Nat → Int32), k = f + d → k ≤ A.1 → (∀ j, F j = if k + 27 + L ≤ j ∧ j < A.1 + 27 + L then A.2.1 (j - 27 - L) else m1.1 76 j) → hd_X9_page_94 b Q (nI f) fl G se nu (nI size) (nI L) (nI k + (-1)) (xu_I m1 76 F) := by
      intro d
      induction d with
      | zero =>
        intro k F hk hkA hF
        have hkf : k = f := by omega
        have hlt : nI k + (-1) < nI f := by
          rw [hkf]
          rcases Nat.eq_zero_or_pos f with h0 | h0
          · rw [h0]; decide
          · obtain ⟨f', rfl⟩ : ∃ f', f = f' + 1 := ⟨f - 1, by omega⟩
            rw [pk_m1]
            exact nI_lt (by omega) hf
        apply l_X9_page_94
        rw [nI_add f 1, nI_add f 2, nI_add f 3, nI_add f 4, nI_add f 5, nI_add f 6, nI_add f 14, nI_add f 18, nI_add f 26, cl (show f < 2 ^ 31 by omega), cl (show f + 1 < 2 ^ 31 by omega), cl (show f + 2 < 2 ^ 31 by omega), cl (show f + 3 < 2 ^ 31 by omega), cl (show f + 4 < 2 ^ 31 by omega), cl (show f + 5 < 2 ^ 31 by omega), cl (show f + 26 < 2 ^ 31 by omega), nb79, nb103, nb83, nb00, vn8, vn8]
        refine ⟨fun _ => ⟨vin (by omega) (by decide), fun m3 e3 => ⟨vin (by omega) (by decide), fun m5 e5 => ⟨vin (by omega) (by decide), fun m7 e7 => ⟨vin (by omega) (by decide), fun m9 e9 => ⟨vin (by omega) (by decide), fun m11 e11 => ⟨vin (by omega) (by decide), fun m13 e13 => ⟨_, c_mputLow G (by omega) (by decide), ?_⟩⟩⟩⟩⟩⟩⟩, fun cx => absurd hlt cx⟩
        rintro m15 ⟨F1, e15, h1⟩
        refine ⟨_, c_mputLow se.toInt64 (by omega) (by decide), ?_⟩
        rintro m19 ⟨F2, e19, h2⟩
        refine ⟨_, c_mputLow nu.toInt64 (by omega) (by decide), ?_⟩
        rintro m23 ⟨F3, e23, h3⟩
        refine ⟨vin (by omega) (by decide), fun m27 e27 => ?_⟩
        have d13 : m13.1 76 = upd (upd (upd (upd (upd (upd F f (by8 (nI 79))) (f + 1) (by8 (nI 103))) (f + 2) (by8 (nI 103))) (f + 3) (by8 (nI 83))) (f + 4) (by8 (nI 0))) (f + 5) (by8 fl) := by
          rw [e13, ri_e, e11, ri_e, e9, ri_e, e7, ri_e, e5, ri_e, e3, ri_e, ri_e]
        have e27' : m27 = xu_I m1 76 (upd F3 (f + 26) (by8 (nI L))) := by
          rw [e27, e23, e19, e15, e13, e11, e9, e7, e5, e3]
          simp only [xu_II, ri_e]
        rw [e27']
        refine e242 L 0 _ (by omega) (fun j hj hc hl => ?_)
        unfold pgU
        by_cases q26 : j = f + 26
        · rw [q26, upd_e, if_neg (by omega), if_neg (by omega), if_neg (by omega), if_pos (by omega)]
        · rw [upd_n q26, h3 j]
          by_cases c18 : f + 18 ≤ j ∧ j < f + 18 + 4
          · rw [if_pos c18, if_neg (by omega), if_pos (show j < f + 22 by omega), by8_in _ (by omega)]
            unfold hdB
            rw [if_neg (by omega), if_neg (by omega), if_neg (by omega), if_neg (by omega), if_neg (by omega), show j - f - 18 = j - (f + 18) by omega]
          · rw [if_neg c18, e19, ri_e, h2 j]
            by_cases c14 : f + 14 ≤ j ∧ j < f + 14 + 4
            · rw [if_pos c14, if_neg (show ¬ j < f by omega), if_pos (show j < f + 22 by omega), by8_in _ (by omega)]
              unfold hdB
              rw [if_neg (by omega), if_neg (by omega), if_neg (by omega), if_neg (by omega), if_pos (by omega), show j - f - 14 = j - (f + 14) by omega]
            · rw [if_neg c14, e15, ri_e, h1 j]
              by_cases c6 : f + 6 ≤ j ∧ j < f + 6 + 8
              · rw [if_pos c6, if_neg (show ¬ j < f by omega), if_pos (show j < f + 22 by omega)]
                unfold hdB
                rw [if_neg (show ¬ j - f < 5 by omega), if_neg (show ¬ j - f = 5 by omega)]
                by_cases c10 : j - f < 10
                · rw [if_pos c10, by8_lo _ (by omega), show j - f - 6 = j - (f + 6) by omega]
                · rw [if_neg c10, if_pos (show j - f < 14 by omega), show 8 * (j - (f + 6)) = 32 + 8 * (j - f - 10) by omega, by8_hi _ (by omega)]
              · rw [if_neg c6, d13]
                by_cases q5 : j = f + 5
                · rw [q5, upd_e, if_neg (by omega), if_pos (by omega), show f + 5 - f = 5 by omega]
                  rfl
                · rw [upd_n q5]
                  by_cases q4 : j = f + 4
                  · rw [q4, upd_e, if_neg (by omega), if_pos (by omega), show f + 4 - f = 4 by omega]
                    rfl
                  · rw [upd_n q4]
                    by_cases q3 : j = f + 3
                    · rw [q3, upd_e, if_neg (by omega), if_pos (by omega), show f + 3 - f = 3 by omega]
                      rfl
                    · rw [upd_n q3]
                      by_cases q2 : j = f + 2
                      · rw [q2, upd_e, if_neg (by omega), if_pos (by omega), show f + 2 - f = 2 by omega]
                        rfl
                      · rw [upd_n q2]
                        by_cases q1 : j = f + 1
                        · rw [q1, upd_e, if_neg (by omega), if_pos (by omega), show f + 1 - f = 1 by omega]
                          rfl
                        · rw [upd_n q1]
                          by_cases q0 : j = f
                          · rw [q0, upd_e, if_neg (by omega), if_pos (by omega), show f - f = 0 by omega]
                            rfl
                          · rw [upd_n q0, hF j]
                            by_cases jf : j < f
                            · rw [if_neg (by omega), if_pos jf]
                              exact t3 j (by omega)
                            · rw [if_pos (by omega), if_neg jf, if_neg (by omega), if_neg (by omega), if_neg (by omega), if_neg (by omega)]
      | succ d ih =>
        intro k F hk hkA hF
        obtain ⟨k', rfl⟩ : ∃ k', k = k' + 1 := ⟨k - 1, by omega⟩
        apply l_X9_page_94
        rw [pk_m1, nI_add k' 27, nI_add (k' + 27) L, cl (show k' < 2 ^ 31 by omega), cl (show k' + 27 + L < 2 ^ 31 by omega)]
        have hFk : F k' = A.2.1 k' := by
          rw [hF k', if_neg (by omega)]
          exact t3 k' (by omega)
        rw [ri_e, hFk, by_nar (t4 k' (by omega))]
        refine pk_lt k' f (fun c => by omega) (fun _ => ⟨vin (by omega) (by decide), vin (by omega) (by decide), fun m30 e30 x31 e31 => ?_⟩)
        rw [xu_II] at e30
        rw [e31, e30]
        refine ih k' _ (by omega) (by omega) (fun j => ?_)
        by_cases hj : j = k' + 27 + L
        · rw [hj, upd_e, if_pos (by omega), show k' + 27 + L - 27 - L = k' by omega]
        · rw [upd_n hj, hF j]
          by_cases h2 : k' + 1 + 27 + L ≤ j ∧ j < A.1 + 27 + L
          · rw [if_pos h2, if_pos (by omega)]
          · rw [if_neg h2, if_neg (by omega)]
    rw [e10, nI_sub1]
    have := e94 size A.1 (m1.1 76) (by omega) (Nat.le_refl _) (fun j => by rw [if_neg (by omega)])
    rw [xu_id] at this
    exact this
  rw [pk_div (show size < 2 ^ 31 by omega) (by decide) (by decide), nI_add (size / 255) 1, nI_add (size / 255) 0, pk_mul, pk_sub (Nat.div_mul_le_self _ _), show size - size / 255 * 255 = size % 255 by omega]
  have hm255 : size % 255 < 2 ^ 32 := Nat.lt_of_lt_of_le (Nat.mod_lt _ (by decide)) (by decide)
  have tail : ∀ L : Nat, L = pgLc size op → ((nI 255 < nI L → Q (-1) m1) ∧ (¬ nI 255 < nI L → ((op = 0 → (((nI A.1 + nI 27 + nI L) ≤ nI 6000 → ∀ x10 : Int32, x10 = nI A.1 - nI 1 → hd_X9_page_94 b Q (nI f) fl G se nu (nI size) (nI L) x10 m1) ∧ (¬ (nI A.1 + nI 27 + nI L) ≤ nI 6000 → Q (-1) m1))) ∧ (¬ op = 0 → ((¬ nI (size % 255) = 0 → Q (-1) m1) ∧ (nI (size % 255) = 0 → (((nI A.1 + nI 27 + nI L) ≤ nI 6000 → ∀ x13 : Int32, x13 = nI A.1 - nI 1 → hd_X9_page_94 b Q (nI f) fl G se nu (nI size) (nI L) x13 m1) ∧ (¬ (nI A.1 + nI 27 + nI L) ≤ nI 6000 → Q (-1) m1)))))))) := by
    intro L hL
    have hLb : L ≤ size / 255 + 1 := by
      rw [hL]; unfold pgLc; split <;> omega
    rw [nI_add, nI_add]
    refine pk_lt 255 L (fun c2 => no (fun hn => by have := hn.2.2.2.1; rw [hsz, ← hL] at this; omega)) (fun c2 => ⟨fun c4 => ?_, fun c4 => ⟨fun c5 => no (fun hn => ?_), fun c5 => ?_⟩⟩)
    · exact pk_le (A.1 + 27 + L) 6000 (fun c3 => main L hL (fun h0 => absurd c4 h0) c2 c3) (fun c3 => no (fun hn => by have := hn.2.2.2.2; rw [hsz, ← hL] at this; omega))
    · have := hn.2.2.1 c4
      rw [hsz] at this
      exact c5 (by rw [this]; exact nI_0)
    · exact pk_le (A.1 + 27 + L) 6000 (fun c3 => main L hL (fun _ => (neq0 hm255).mp c5) c2 c3) (fun c3 => no (fun hn => by have := hn.2.2.2.2; rw [hsz, ← hL] at this; omega))
  refine ⟨fun c2 x6 e6 => ?_, fun c2 x14 e14 => ?_⟩
  · rw [e6]
    exact tail (size / 255 + 1) (by unfold pgLc; rw [if_pos c2])
  · rw [e14]
    exact tail (size / 255 + 0) (by unfold pgLc; rw [if_neg c2])
