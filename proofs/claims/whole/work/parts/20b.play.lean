/-! ===== halves laid over one another: the class ===== -/
def clS (x : Int64) : Int32 := (if x < -32768 then (-32768 : Int64) else if 32767 < x then 32767 else x).toInt32
theorem clS_c (x : Int64) : (if (if x < (32767 : Int64) then x else (32767 : Int64)) < (-32768 : Int64) then (-32768 : Int64) else (if x < (32767 : Int64) then x else (32767 : Int64))).toInt32 = clS x := by
  unfold clS
  congr 1
  have h1 : (32767 : Int64).toInt = 32767 := by decide
  have h2 : (-32768 : Int64).toInt = -32768 := by decide
  by_cases a : x < 32767
  · rw [if_pos a]
    by_cases b : x < -32768
    · rw [if_pos b, if_pos b]
    · rw [if_neg b, if_neg b, if_neg]
      rw [Int64.lt_iff_toInt_lt] at a ⊢
      omega
  · rw [if_neg a, if_neg (by decide), if_neg]
    · by_cases b : 32767 < x
      · rw [if_pos b]
      · rw [if_neg b]
        apply Int64.toInt_inj.mp
        rw [Int64.lt_iff_toInt_lt] at a b
        omega
    · rw [Int64.lt_iff_toInt_lt] at a ⊢
      omega
theorem c_putSamples {b : Bool} {μ : xm_M} {V at' : Nat} (hV : xs_vo V) (hat : at' + 16 ≤ 928) : xCv b b k_X7_putSamples μ [.ref V, .int (nI at'), .ref 60] (fun m => fm [V + 4] μ m ∧ ∀ i, m.1 (V + 4) i = if at' ≤ i ∧ i < at' + 16 then clS ((μ.2.1 (V + 3) (i - at') + μ.2.1 60 (i - at')) >>> ((nI 8).toInt64 &&& 63)) else μ.1 (V + 4) i) := by
  have loop : ∀ (d n : Nat) (f : Nat → Int32), n + d = 16 → (∀ i, f i = if at' ≤ i ∧ i < at' + n then clS ((μ.2.1 (V + 3) (i - at') + μ.2.1 60 (i - at')) >>> ((nI 8).toInt64 &&& 63)) else μ.1 (V + 4) i) → hd_X7_putSamples_2 b (fun m => fm [V + 4] μ m ∧ ∀ i, m.1 (V + 4) i = if at' ≤ i ∧ i < at' + 16 then clS ((μ.2.1 (V + 3) (i - at') + μ.2.1 60 (i - at')) >>> ((nI 8).toInt64 &&& 63)) else μ.1 (V + 4) i) V (nI at') (nI n) (xu_I μ (V + 4) f) := by
    intro d
    induction d with
    | zero =>
      intro n f hn hf
      have : n = 16 := by omega
      subst this
      refine l_X7_putSamples_2 _ _ hV ?_
      refine pk_le 16 16 (fun _ => ⟨fm.rf.I (by simp), fun i => by rw [ri_e]; exact hf i⟩) (fun c => by omega)
    | succ d ih =>
      intro n f hn hf
      refine l_X7_putSamples_2 _ _ hV ?_
      rw [cl (show n < 2 ^ 31 by omega), ri_l]
      refine pk_le 16 n (fun c => by omega) (fun _ => pk_le 32 n (fun c => by omega) (fun _ => ⟨vin (by omega) (by decide), vin (by omega) (by decide), fun x5 e5 x6 e6 => ?_⟩))
      rw [nI_add] at e6
      rw [e6, cl (show at' + n < 2 ^ 31 by omega)]
      refine ⟨fun c => absurd c (n0 (by omega)), fun _ => pk_le 928 (at' + n) (fun c => by omega) (fun _ => ⟨vin (by omega) (by decide), fun m12 e12 x13 e13 => ?_⟩)⟩
      rw [clS_c, xu_II, ri_e] at e12
      rw [e13, nI_add, e12]
      refine ih (n + 1) _ (by omega) (fun i => ?_)
      by_cases hi : i = at' + n
      · rw [hi, upd_e, if_pos (by omega), e5, show at' + n - at' = n by omega]
      · rw [upd_n hi, hf i]
        by_cases h : at' ≤ i ∧ i < at' + n
        · rw [if_pos h, if_pos (by omega)]
        · rw [if_neg h, if_neg (by omega)]
  have hid : xu_I μ (V + 4) (μ.1 (V + 4)) = μ := by
    unfold xu_I
    have : va_up μ.1 (V + 4) (μ.1 (V + 4)) = μ.1 := by
      funext k
      by_cases h : k = V + 4
      · rw [h]; simp [va_up]
      · simp [va_up, h]
    rw [this]
  refine g_X7_putSamples _ hV ?_
  have := loop 16 0 (μ.1 (V + 4)) rfl (fun i => by rw [if_neg (by omega)])
  rw [hid] at this
  exact this
theorem c_keep {b : Bool} {μ : xm_M} {V : Nat} (hV : xs_vo V) : xCv b b k_X7_keepSecondHalf μ [.ref V, .ref 60] (fun m => fm [V + 3] μ m ∧ ∀ n, n < 16 → m.2.1 (V + 3) n = μ.2.1 60 (16 + n)) := by
  have hVb : 65 ≤ V := by rcases hV with rfl | rfl <;> decide
  have loop : ∀ (d n : Nat) (m : xm_M), n + d = 16 → fm [V + 3] μ m → (∀ i, i < n → m.2.1 (V + 3) i = μ.2.1 60 (16 + i)) → hd_X7_keepSecondHalf_2 b (fun m => fm [V + 3] μ m ∧ ∀ n, n < 16 → m.2.1 (V + 3) n = μ.2.1 60 (16 + n)) V (nI n) m := by
    intro d
    induction d with
    | zero =>
      intro n m hn hf hx
      refine l_X7_keepSecondHalf_2 _ hV ?_
      exact pk_le 16 n (fun _ => ⟨hf, fun i hi => hx i (by omega)⟩) (fun c => by omega)
    | succ d ih =>
      intro n m hn hf hx
      refine l_X7_keepSecondHalf_2 _ hV ?_
      rw [nI_add, cl (show 16 + n < 2 ^ 31 by omega), cl (show n < 2 ^ 31 by omega), (hf 60 (by simp; omega)).2]
      refine pk_le 16 n (fun c => by omega) (fun _ => pk_le 32 (16 + n) (fun c => by omega) (fun _ => ⟨vin (by omega) (by decide), vin (by omega) (by decide), fun m5 e5 x6 e6 => ?_⟩))
      rw [e6, nI_add]
      refine ih (n + 1) m5 (by omega) (by rw [e5]; exact hf.L (by simp)) (lt_s (fun i hi => ?_) (by rw [e5, rl_e, updL_e]))
      rw [e5, rl_e, updL_n (by omega)]
      exact hx i hi
  refine g_X7_keepSecondHalf hV ?_
  exact loop 16 0 μ rfl fm.rf (fun i hi => by omega)
/-- sounds counted, passed over, halves that are left, samples -/
abbrev SS : Type := Nat × Nat × (Nat → Nat → Int64) × (Nat → Nat → Int32)
noncomputable def sSm (sp pk : List Int32) (s : SS) : Nat → Nat → Int32 := fun c i => if 0 < s.1 ∧ 16 * (s.1 - 1) ≤ i ∧ i < 16 * (s.1 - 1) + 16 then clS ((s.2.2.1 c (i - 16 * (s.1 - 1)) + hlv (fc sp pk c) (i - 16 * (s.1 - 1))) >>> ((nI 8).toInt64 &&& 63)) else s.2.2.2 c i
noncomputable def sStep (sp pk : List Int32) (s : SS) : SS := if cvP sp pk (sC sp) = none then (s.1, s.2.1 + 1, s.2.2) else (s.1 + 1, s.2.1, fun c n => hlv (fc sp pk c) (16 + n), sSm sp pk s)
noncomputable def sSt (pks : List (List Int32)) : Nat → SS
  | 0 => (0, 0, fun _ _ => 0, fun _ _ => 0)
  | j + 1 => sStep (pks.getD 0 []) (pks.getD (j + 1) []) (sSt pks j)
theorem sSt_b (pks : List (List Int32)) : ∀ j, (sSt pks j).1 ≤ j ∧ (sSt pks j).2.1 ≤ j
  | 0 => ⟨Nat.le_refl _, Nat.le_refl _⟩
  | j + 1 => by
    have := sSt_b pks j
    show (sStep _ _ (sSt pks j)).1 ≤ _ ∧ (sStep _ _ (sSt pks j)).2.1 ≤ _
    unfold sStep
    split
    · exact ⟨by show (sSt pks j).1 ≤ j + 1; omega, by show (sSt pks j).2.1 + 1 ≤ j + 1; omega⟩
    · exact ⟨by show (sSt pks j).1 + 1 ≤ j + 1; omega, by show (sSt pks j).2.1 ≤ j + 1; omega⟩
def cLf (m : xm_M) (sp : List Int32) (s : SS) : Prop := (0 < s.1 → ∀ c, c < sC sp → ∀ n, n < 16 → m.2.1 (65 + 5 * c + 3) n = s.2.2.1 c n) ∧ ∀ c, c < sC sp → ∀ i, i < 16 * (s.1 - 1) → m.1 (65 + 5 * c + 4) i = s.2.2.2 c i
def cSS (m : xm_M) (sp : List Int32) (s : SS) : Prop := m.1 0 9 = nI s.1 ∧ m.1 0 10 = nI s.2.1 ∧ cLf m sp s
theorem c_layHalves {b : Bool} {μ : xm_M} {sp pk : List Int32} {s : SS} (hT : tabC μ) (h07 : μ.1 0 7 = nI (sC sp)) (h09 : μ.1 0 9 = nI s.1) (hs58 : s.1 ≤ 58) (hL : cLf μ sp s) (hv : ∀ c, c < sC sp → cVo μ sp pk c) (hn : ∀ c, c < sC sp → ∀ x, x < 16 → μ.1 (65 + 5 * c + 2) x = iI (nF sp pk c x)) : xCv b b k_X8_layHalves μ [.ref 0] (fun m => fm [60, 61, 68, 69, 73, 74] μ m ∧ cLf m sp (s.1 + 1, s.2.1, fun c n => hlv (fc sp pk c) (16 + n), sSm sp pk s)) := by
  have hC := sC_b sp
  generalize hQ : (fun (m : xm_M) => fm [60, 61, 68, 69, 73, 74] μ m ∧ cLf m sp (s.1 + 1, s.2.1, fun c n => hlv (fc sp pk c) (16 + n), sSm sp pk s)) = Q
  have loop : ∀ (d c : Nat) (m : xm_M), c + d = sC sp → fm [60, 61, 68, 69, 73, 74] μ m → (∀ i, i < c → (∀ n, n < 16 → m.2.1 (65 + 5 * i + 3) n = hlv (fc sp pk i) (16 + n)) ∧ ∀ j, j < 16 * s.1 → m.1 (65 + 5 * i + 4) j = sSm sp pk s i j) → (∀ i, c ≤ i → i < sC sp → m.2.1 (65 + 5 * i + 3) = μ.2.1 (65 + 5 * i + 3) ∧ m.1 (65 + 5 * i + 4) = μ.1 (65 + 5 * i + 4)) → hd_X8_layHalves_2 b Q (nI c) m := by
    intro d
    induction d with
    | zero =>
      intro c m hc hf hd hu
      have hcC : c = sC sp := by omega
      apply l_X8_layHalves_2
      refine pk_le (sC sp) c (fun _ => ?_) (fun c => by omega) (by rw [(hf 0 (by decide)).1]; exact h07)
      rw [← hQ]
      rw [hcC] at hd
      exact ⟨hf, fun _ c hc n hn => (hd c hc).1 n hn, fun c hc i hi => (hd c hc).2 i hi⟩
    | succ d ih =>
      intro c m hc hf hd hu
      have hTm : tabC m := ⟨fun k hk => by rw [(hf 62 (by decide)).1]; exact hT.1 k hk, fun j hj => by rw [(hf 63 (by decide)).1]; exact hT.2 j hj⟩
      apply l_X8_layHalves_2
      refine pk_le (sC sp) c (fun c => by omega) (fun _ => pk_le 2 c (fun c => by omega) (fun _ => ⟨vin (by omega) (by decide), fun V hV eV => ?_⟩)) (by rw [(hf 0 (by decide)).1]; exact h07)
      rw [cl (show c < 2 ^ 31 by omega)] at eV
      have hVb : 65 ≤ V ∧ V ≤ 70 := by rcases hV with rfl | rfl <;> decide
      have hV3 : V + 3 ∈ [60, 61, 68, 69, 73, 74] := by rcases hV with rfl | rfl <;> decide
      have hV4 : V + 4 ∈ [60, 61, 68, 69, 73, 74] := by rcases hV with rfl | rfl <;> decide
      have hvm : cVo m sp pk c := by
        obtain ⟨g1, g2⟩ := hv c (by omega)
        unfold cVo
        rw [← eV] at g1 g2 ⊢
        exact ⟨by rw [(hf V (by rcases hV with rfl | rfl <;> decide)).1]; exact g1, fun h x hx => by rw [(hf (V + 1) (by rcases hV with rfl | rfl <;> decide)).1]; exact g2 h x hx⟩
      have hnm : ∀ x, x < 16 → m.1 (V + 2) x = iI (nF sp pk c x) := fun x hx => by
        rw [(hf (V + 2) (by rcases hV with rfl | rfl <;> decide)).1, eV]
        exact hn c (by omega) x hx
      refine ⟨_, c_add hV eV hTm hvm hnm, ?_⟩
      rintro m6 ⟨f6, h6⟩
      have hf6 : fm [60, 61, 68, 69, 73, 74] μ m6 := hf.tr (f6.mono (by decide))
      have u6 := hu c (Nat.le_refl _) (by omega)
      rw [← eV] at u6
      have g63 : m6.2.1 (V + 3) = μ.2.1 (V + 3) := by rw [(f6 _ (by simp; omega)).2]; exact u6.1
      have g64 : m6.1 (V + 4) = μ.1 (V + 4) := by rw [(f6 _ (by simp; omega)).1]; exact u6.2
      -- behind the samples
      have keep : ∀ m20 : xm_M, fm [60, 61, 68, 69, 73, 74] μ m20 → (∀ k, k ≠ V + 4 → m20.1 k = m6.1 k ∧ m20.2.1 k = m6.2.1 k) → (∀ j, j < 16 * s.1 → m20.1 (V + 4) j = sSm sp pk s c j) → vp_in (nI c) 2 ∧ ∀ V24 : Nat, xs_vo V24 → V24 = 65 + 5 * (nI c).toNatClampNeg → ∃ Q25 : xm_M → Prop, xCv b b k_X7_keepSecondHalf m20 [.ref V24, .ref 60] Q25 ∧ ∀ m26 : xm_M, Q25 m26 → ∀ x29 : Int32, x29 = nI c + nI 1 → hd_X8_layHalves_2 b Q x29 m26 := by
        intro m20 hf20 h20 hs20
        refine ⟨vin (by omega) (by decide), fun V24 hV24 e24 => ?_⟩
        rw [cl (show c < 2 ^ 31 by omega), ← eV] at e24
        rw [e24]
        refine ⟨_, c_keep hV, ?_⟩
        rintro m26 ⟨f26, h26⟩ x29 e29
        rw [e29, nI_add]
        have ot : ∀ k, k ≠ V + 3 → k ≠ V + 4 → k ≠ 60 → k ≠ 61 → m26.1 k = m.1 k ∧ m26.2.1 k = m.2.1 k := fun k a1 a2 a3 a4 => by
          refine ⟨?_, ?_⟩
          · rw [(f26 k (by simp; omega)).1, (h20 k a2).1, (f6 k (by simp; omega)).1]
          · rw [(f26 k (by simp; omega)).2, (h20 k a2).2, (f6 k (by simp; omega)).2]
        refine ih (c + 1) m26 (by omega) (hf20.tr (f26.mono (fun k hk => by rw [List.mem_singleton] at hk; rw [hk]; exact hV3))) (lt_s (fun i hi => ?_) ?_) (fun i h1 h2 => ?_)
        · obtain ⟨q1, q2⟩ := hd i hi
          exact ⟨fun n hn => by rw [(ot _ (by omega) (by omega) (by omega) (by omega)).2]; exact q1 n hn, fun j hj => by rw [(ot _ (by omega) (by omega) (by omega) (by omega)).1]; exact q2 j hj⟩
        · rw [← eV]
          refine ⟨fun n hn => ?_, fun j hj => ?_⟩
          · rw [h26 n hn, (h20 60 (by omega)).2]
            exact h6 (16 + n) (by omega)
          · rw [(f26 _ (by simp)).1]
            exact hs20 j hj
        · rw [(ot _ (by omega) (by omega) (by omega) (by omega)).1, (ot _ (by omega) (by omega) (by omega) (by omega)).2]
          exact hu i (by omega) h2
      have h69 : m6.1 0 9 = nI s.1 := by rw [(hf6 0 (by decide)).1]; exact h09
      rw [h69]
      refine pk_le s.1 0 (fun c0 => ?_) (fun c0 => ⟨vin (by omega) (by decide), fun V18 hV18 e18 => ?_⟩) rfl nI_0.symm
      · exact keep m6 hf6 (fun k _ => ⟨rfl, rfl⟩) (fun j hj => by omega)
      · rw [cl (show c < 2 ^ 31 by omega), ← eV] at e18
        rw [e18, pk_sub (by omega), pk_mul]
        refine ⟨_, c_putSamples hV (show (s.1 - 1) * 16 + 16 ≤ 928 by omega), ?_⟩
        rintro m20 ⟨f20, h20⟩
        refine keep m20 (hf6.tr (f20.mono (fun k hk => by rw [List.mem_singleton] at hk; rw [hk]; exact hV4))) (fun k hk => f20 k (by simpa using hk)) (fun j hj => ?_)
        rw [h20 j, g63, g64, Nat.mul_comm (s.1 - 1) 16]
        unfold sSm
        by_cases hj2 : 16 * (s.1 - 1) ≤ j ∧ j < 16 * (s.1 - 1) + 16
        · rw [if_pos hj2, if_pos ⟨c0, hj2⟩, h6 _ (by omega), eV, hL.1 c0 c (by omega) _ (by omega)]
        · rw [if_neg hj2, if_neg (fun h => hj2 h.2), eV]
          exact hL.2 c (by omega) j (by omega)
  apply g_X8_layHalves
  exact loop (sC sp) 0 μ (by omega) fm.rf (fun i hi => by omega) (fun i _ _ => ⟨rfl, rfl⟩)
