/-! ===== the sums of cosines ===== -/
def tR : Nat → Nat
  | 0 => 65536
  | d + 1 => (15391 * tR d + 8192) / 16384
theorem tR_b : ∀ d, tR d ≤ 65536
  | 0 => Nat.le_refl _
  | d + 1 => by
    have := tR_b d
    show (15391 * tR d + 8192) / 16384 ≤ 65536
    omega
def cosI (j : Nat) : Int32 := if 32 < min j (128 - j) then -((xs_tab 0).getD (64 - min j (128 - j)) 0) else (xs_tab 0).getD (min j (128 - j)) 0
def tabC (μ : xm_M) : Prop := (∀ k, k < 256 → μ.1 62 k = nI (tR (255 - k))) ∧ ∀ j, j < 128 → μ.1 63 j = cosI j
def tabM (μ : xm_M) : Prop := ∀ k, k < 256 → μ.2.1 77 k = lN (tR (255 - k))
noncomputable def fc (sp pk : List Int32) (c k : Nat) : Int64 := if bb pk (cvA sp pk c) = 0 then 0 else (lI (nF sp pk c k) * lN (tR (255 - crH sp pk (cvA sp pk c) k))) >>> ((nI 8).toInt64 &&& 63)
def csS (f : Nat → Int64) (n : Nat) : Nat → Int64
  | 0 => 2048
  | k + 1 => csS f n k + f k * (cosI ((2 * n + 17) * (2 * k + 1) % 128)).toInt64
def winI (n : Nat) : Int32 := (xs_tab 1).getD (if n < 16 then n else 31 - n) 0
def hlv (f : Nat → Int64) (n : Nat) : Int64 := ((csS f n 16 >>> ((nI 12).toInt64 &&& 63)) * (winI n).toInt64) >>> ((nI 12).toInt64 &&& 63)
theorem arg_n (n k : Nat) : (nI 2 * nI n + nI 17) * (nI 2 * nI k + nI 1) = nI ((2 * n + 17) * (2 * k + 1)) := by
  rw [pk_mul, pk_mul, nI_add, nI_add, pk_mul]
theorem arg_b {n k : Nat} (hn : n < 32) (hk : k < 16) : (2 * n + 17) * (2 * k + 1) < 2 ^ 31 := by
  have : (2 * n + 17) * (2 * k + 1) ≤ 100 * 40 := Nat.mul_le_mul (by omega) (by omega)
  omega
theorem c_cosineSum {b : Bool} {μ : xm_M} {f : Nat → Int64} {n : Nat} (hn : n < 32) (h61 : ∀ k, k < 16 → μ.2.1 61 k = f k) (h63 : ∀ j, j < 128 → μ.1 63 j = cosI j) : xCl b b k_X5_cosineSum μ [.ref 59, .int (nI n)] (fun r m => r = csS f n 16 >>> ((nI 12).toInt64 &&& 63) ∧ m = μ) := by
  have loop : ∀ (d k : Nat), k + d = 16 → hd_X5_cosineSum_7 b (fun r m => r = csS f n 16 >>> ((nI 12).toInt64 &&& 63) ∧ m = μ) (nI n) (csS f n k) (nI k) μ := by
    intro d
    induction d with
    | zero =>
      intro k hk
      have : k = 16 := by omega
      subst this
      apply l_X5_cosineSum_7
      exact pk_le 16 16 (fun _ => ⟨rfl, rfl⟩) (fun c => by omega)
    | succ d ih =>
      intro k hk
      apply l_X5_cosineSum_7
      refine pk_le 16 k (fun c => by omega) (fun _ x2 e2 => ?_)
      have hb := arg_b hn (show k < 16 by omega)
      have hm : (2 * n + 17) * (2 * k + 1) % 2 ^ 7 < 128 := Nat.mod_lt _ (by decide)
      rw [arg_n] at e2
      rw [e2, pk_andN (by omega) 7 (by decide +kernel), cl (show k < 2 ^ 31 by omega), cl (show (2 * n + 17) * (2 * k + 1) % 2 ^ 7 < 2 ^ 31 by omega), h61 k (by omega), h63 _ hm]
      refine ⟨vin (by omega) (by decide), vin hm (by decide), fun x5 e5 x6 e6 => ?_⟩
      rw [e6, nI_add, e5]
      exact ih (k + 1) (by omega)
  apply g_X5_cosineSum
  exact loop 16 0 rfl
theorem bn_n {h : Nat} (hh : h ≤ 255) : bn (nI h) = h := by
  unfold bn
  rw [nI_toNat (by omega)]
  omega
theorem c_add {b : Bool} {μ : xm_M} {sp pk : List Int32} {c V : Nat} (hV : xs_vo V) (eV : V = 65 + 5 * c) (hT : tabC μ) (hv : cVo μ sp pk c) (hn : ∀ x, x < 16 → μ.1 (V + 2) x = iI (nF sp pk c x)) : xCv b b k_X5_add μ [.ref 59, .ref V] (fun m => fm [60, 61] μ m ∧ ∀ n, n < 32 → m.2.1 60 n = hlv (fc sp pk c) n) := by
  have hVb : 65 ≤ V := by rcases hV with rfl | rfl <;> decide
  obtain ⟨v1, v2⟩ := hv
  rw [← eV] at v1 v2
  have w1 : ∀ p, p < 16 → vp_in (nI p) 16 := fun p hp => vin hp (by decide)
  have e83 : ∀ (d n : Nat) (m : xm_M), n + d = 32 → fm [60, 61] μ m → (∀ k, k < 16 → m.2.1 61 k = fc sp pk c k) → (∀ i, i < n → m.2.1 60 i = hlv (fc sp pk c) i) → hd_X5_add_83 b (fun m => fm [60, 61] μ m ∧ ∀ n, n < 32 → m.2.1 60 n = hlv (fc sp pk c) n) V (nI n) m := by
    intro d
    induction d with
    | zero =>
      intro n m hn hf h61 h60
      refine l_X5_add_83 _ hV ?_
      exact pk_le 32 n (fun _ => ⟨hf, fun i hi => h60 i (by omega)⟩) (fun c => by omega)
    | succ d ih =>
      intro n m hnd hf h61 h60
      have h63 : ∀ j, j < 128 → m.1 63 j = cosI j := fun j hj => by rw [(hf 63 (by decide)).1]; exact hT.2 j hj
      have go : ∀ (p : Nat), p < 16 → (xs_tab 1).getD p 0 = winI n → ∃ Q8 : Int64 → xm_M → Prop, xCl b b k_X5_cosineSum m [.ref 59, .int (nI n)] Q8 ∧
          ∀ (r10 : Int64) (m9 : xm_M), Q8 r10 m9 →
          vp_in (nI p) 16 ∧
          vp_in (nI n) 32 ∧
          ∀ m14 : xm_M, m14 = xu_L m9 60 (vp_updL (m9.2.1 60) (nI n).toNatClampNeg ((r10 * (((xs_tab 1).getD (nI p).toNatClampNeg 0)).toInt64) >>> (((nI 12)).toInt64 &&& 63))) →
          ∀ x15 : Int32, x15 = nI n + nI 1 →
          hd_X5_add_83 b (fun m => fm [60, 61] μ m ∧ ∀ n, n < 32 → m.2.1 60 n = hlv (fc sp pk c) n) V x15 m14 := by
        intro p hp hw
        refine ⟨_, c_cosineSum (f := fc sp pk c) (by omega) h61 h63, ?_⟩
        rintro r10 m9 ⟨e10, rfl⟩
        refine ⟨w1 p hp, vin (by omega) (by decide), fun m14 e14 x15 e15 => ?_⟩
        rw [cl (show n < 2 ^ 31 by omega), cl (show p < 2 ^ 31 by omega), hw, e10] at e14
        rw [e15, nI_add]
        refine ih (n + 1) m14 (by omega) (by rw [e14]; exact hf.L (by decide)) (fun k hk => by rw [e14, rl_n (by decide)]; exact h61 k hk) (lt_s (fun i hi => ?_) (by rw [e14, rl_e, updL_e]; rfl))
        rw [e14, rl_e, updL_n (by omega)]
        exact h60 i hi
      refine l_X5_add_83 _ hV ?_
      refine pk_le 32 n (fun c => by omega) (fun _ => pk_le 16 n (fun c16 x3 e3 => ?_) (fun c16 => ⟨fun c => absurd c (n0 (by omega)), fun _ => pk_le 16 n (fun c => by omega) (fun _ => go n (by omega) (by unfold winI; rw [if_pos (by omega)]))⟩))
      rw [pk_sub (by omega)] at e3
      rw [e3]
      exact ⟨fun c => absurd c (n0 (by omega)), fun _ => pk_le 16 (31 - n) (fun c => by omega) (fun _ => go (31 - n) (by omega) (by unfold winI; rw [if_neg (by omega)]))⟩
  have e2 : ∀ (d k : Nat) (m : xm_M), k + d = 16 → fm [60, 61] μ m → (∀ i, i < k → m.2.1 61 i = fc sp pk c i) → hd_X5_add_2 b (fun m => fm [60, 61] μ m ∧ ∀ n, n < 32 → m.2.1 60 n = hlv (fc sp pk c) n) V (nI k) m := by
    intro d
    induction d with
    | zero =>
      intro k m hk hf h61
      refine l_X5_add_2 _ hV ?_
      exact pk_le 16 k (fun _ => e83 32 0 m rfl hf (fun i hi => h61 i (by omega)) (fun i hi => by omega)) (fun c => by omega)
    | succ d ih =>
      intro k m hk hf h61
      have g0 : m.1 V 0 = nI (if bb pk (cvA sp pk c) = 0 then 1 else 0) := by rw [(hf V (by simp; omega)).1]; exact v1
      have g2 : m.1 (V + 2) k = iI (nF sp pk c k) := by rw [(hf _ (by simp; omega)).1]; exact hn k (by omega)
      have hnb := nF_b sp pk c k
      have go : ∀ (x : Int64) (m10 : xm_M), m10 = xu_L m 61 (vp_updL (m.2.1 61) k x) → x = fc sp pk c k → ∀ x11 : Int32, x11 = nI k + nI 1 → hd_X5_add_2 b (fun m => fm [60, 61] μ m ∧ ∀ n, n < 32 → m.2.1 60 n = hlv (fc sp pk c) n) V x11 m10 := by
        intro x m10 e10 hx x11 e11
        rw [e11, nI_add]
        refine ih (k + 1) m10 (by omega) (by rw [e10]; exact hf.L (by decide)) (lt_s (fun i hi => ?_) (by rw [e10, rl_e, updL_e, hx]))
        rw [e10, rl_e, updL_n (by omega)]
        exact h61 i hi
      refine l_X5_add_2 _ hV ?_
      rw [cl (show k < 2 ^ 31 by omega), g0, g2, iI_l (by omega) (by omega)]
      refine pk_le 16 k (fun c => by omega) (fun _ => pk_le 16 k (fun c => by omega) (fun _ => pk_le 16 k (fun c => by omega) (fun _ => ⟨fun cs => ⟨w1 k (by omega), ?_⟩, fun cs => ⟨w1 k (by omega), w1 k (by omega), fun m14 e14 => go _ m14 e14 ?_⟩⟩)))
      · have hs : ¬ bb pk (cvA sp pk c) = 0 := fun h => by rw [if_pos h] at cs; exact absurd cs (by decide)
        have hh := hF_le sp (cFin sp pk (cvA sp pk c + 1)) k
        have hcr : crH sp pk (cvA sp pk c) k ≤ 255 := hh
        have g1 : m.1 (V + 1) k = nI (crH sp pk (cvA sp pk c) k) := by rw [(hf _ (by simp; omega)).1]; exact v2 hs k (by omega)
        rw [g1, bn_and, bn_n hcr, cl (by omega), (hf 62 (by decide)).1, hT.1 _ (by omega)]
        refine ⟨vin (by omega) (by decide), fun x7 e7 => ⟨w1 k (by omega), w1 k (by omega), fun m10 e10 => go _ m10 e10 ?_⟩⟩
        have := tR_b (255 - crH sp pk (cvA sp pk c) k)
        rw [e7, nI_l (by omega)]
        unfold fc
        rw [if_neg hs]
      · have hs : bb pk (cvA sp pk c) = 0 := by
          by_cases h : bb pk (cvA sp pk c) = 0
          · exact h
          · rw [if_neg h] at cs
            exact absurd nI_0 cs
        unfold fc
        rw [if_pos hs, Int64.mul_zero]
        decide
  refine g_X5_add hV ?_
  exact e2 16 0 μ rfl fm.rf (fun i hi => by omega)
-- the reference
theorem tab05 (j : Nat) : (xs_tab 5).getD j 0 = (xs_tab 0).getD j 0 := rfl
theorem tab16 (j : Nat) : (xs_tab 6).getD j 0 = (xs_tab 1).getD j 0 := rfl
theorem c_mcosine {b : Bool} {μ : xm_M} {j : Nat} (hj : j < 2 ^ 31) : xCl b b k_X9_cosine μ [.int (nI j)] (fun r m => r = (cosI (j % 128)).toInt64 ∧ m = μ) := by
  apply g_X9_cosine
  intro x1 e1
  have hm : j % 128 < 128 := Nat.mod_lt _ (by decide)
  rw [pk_rem hj (by decide) (by decide)] at e1
  rw [e1]
  generalize j % 128 = k at *
  refine pk_le k 64 (fun c => pk_le k 32 (fun c2 => ⟨vin (by omega) (by decide), ?_, rfl⟩) (fun c2 => ?_)) (fun c x6 e6 => ?_)
  · rw [cl (by omega), tab05]
    unfold cosI
    rw [Nat.min_eq_left (by omega), if_neg (by omega)]
  · rw [pk_sub (by omega), cl (by omega), tab05]
    refine ⟨vin (by omega) (by decide), ?_, rfl⟩
    unfold cosI
    rw [Nat.min_eq_left (by omega), if_pos (by omega)]
  · rw [pk_sub (by omega)] at e6
    rw [e6]
    refine pk_le (128 - k) 32 (fun c2 => ⟨vin (by omega) (by decide), ?_, rfl⟩) (fun c2 => ?_)
    · rw [cl (by omega), tab05]
      unfold cosI
      rw [Nat.min_eq_right (by omega), if_neg (by omega)]
    · rw [pk_sub (by omega), cl (by omega), tab05]
      refine ⟨vin (by omega) (by decide), ?_, rfl⟩
      unfold cosI
      rw [Nat.min_eq_right (by omega), if_pos (by omega)]
theorem c_mwindow {b : Bool} {μ : xm_M} {n : Nat} (hn : n < 32) : xCl b b k_X9_window μ [.int (nI n)] (fun r m => r = (winI n).toInt64 ∧ m = μ) := by
  apply g_X9_window
  refine pk_le 16 n (fun c => ?_) (fun c => ?_)
  · rw [pk_sub (by omega), cl (by omega), tab16]
    refine ⟨vin (by omega) (by decide), ?_, rfl⟩
    unfold winI
    rw [if_neg (by omega)]
  · rw [cl (by omega), tab16]
    refine ⟨vin (by omega) (by decide), ?_, rfl⟩
    unfold winI
    rw [if_pos (by omega)]
theorem c_msums {b : Bool} {μ : xm_M} {sp pk : List Int32} {c : Nat} (hc : c < 2) (hT : tabM μ) (h99 : μ.1 99 c = nI (if bb pk (cvA sp pk c) = 0 then 1 else 0)) (h98 : ¬ bb pk (cvA sp pk c) = 0 → ∀ x, x < 16 → μ.2.1 98 (16 * c + x) = μ.2.1 77 (crH sp pk (cvA sp pk c) x)) (h101 : ∀ x, x < 16 → μ.2.1 101 (16 * c + x) = lI (nF sp pk c x)) : xCv b b k_X9_sums μ [.ref 75, .int (nI c)] (fun m => ∃ F, m = xu_L μ 103 F ∧ ∀ i, F i = if 32 * c ≤ i ∧ i < 32 * c + 32 then hlv (fc sp pk c) (i - 32 * c) else μ.2.1 103 i) := by
  have cc := cl (show c < 2 ^ 31 by omega)
  have vc : vp_in (nI c) 2 := vin hc (by decide)
  have outer : ∀ (d n : Nat) (F : Nat → Int64), n + d = 32 → (∀ i, F i = if 32 * c ≤ i ∧ i < 32 * c + n then hlv (fc sp pk c) (i - 32 * c) else μ.2.1 103 i) → hd_X9_sums_2 b (fun m => ∃ F, m = xu_L μ 103 F ∧ ∀ i, F i = if 32 * c ≤ i ∧ i < 32 * c + 32 then hlv (fc sp pk c) (i - 32 * c) else μ.2.1 103 i) (nI c) (nI n) (xu_L μ 103 F) := by
    intro d
    induction d with
    | zero =>
      intro n F hn hF
      have : n = 32 := by omega
      subst this
      apply l_X9_sums_2
      exact pk_le 32 32 (fun _ => ⟨F, rfl, hF⟩) (fun c => by omega)
    | succ d ih =>
      intro n F hn hF
      have inner : ∀ (d2 k : Nat), k + d2 = 16 → hd_X9_sums_15 b (fun m => ∃ F, m = xu_L μ 103 F ∧ ∀ i, F i = if 32 * c ≤ i ∧ i < 32 * c + 32 then hlv (fc sp pk c) (i - 32 * c) else μ.2.1 103 i) (nI c) (nI n) (csS (fc sp pk c) n k) (nI k) (xu_L μ 103 F) := by
        intro d2
        induction d2 with
        | zero =>
          intro k hk
          have : k = 16 := by omega
          subst this
          apply l_X9_sums_15
          refine pk_le 16 16 (fun _ => ⟨_, c_mwindow (by omega), ?_⟩) (fun c => by omega)
          rintro r4 m3 ⟨e4, rfl⟩
          rw [pk_mul, nI_add, cl (by omega)]
          refine ⟨vin (by omega) (by decide), fun m7 e7 x8 e8 => ?_⟩
          rw [xu_LL, rl_e, e4] at e7
          rw [e8, nI_add, e7]
          refine ih (n + 1) _ (by omega) (fun i => ?_)
          by_cases hi : i = 32 * c + n
          · rw [hi, updL_e, if_pos (by omega), show 32 * c + n - 32 * c = n by omega]
            rfl
          · rw [updL_n hi, hF i]
            by_cases h : 32 * c ≤ i ∧ i < 32 * c + n
            · rw [if_pos h, if_pos (by omega)]
            · rw [if_neg h, if_neg (by omega)]
        | succ d2 ih2 =>
          intro k hk
          have hb := arg_b (show n < 32 by omega) (show k < 16 by omega)
          apply l_X9_sums_15
          rw [cc, rl_i, h99, arg_n, show nI 16 * nI c + nI k = nI (16 * c + k) by rw [pk_mul, nI_add], cl (show 16 * c + k < 2 ^ 31 by omega), rl_n (show 101 ≠ 103 by decide), rl_n (show 98 ≠ 103 by decide), h101 k (by omega)]
          refine pk_le 16 k (fun c => by omega) (fun _ => ⟨vc, fun cs => ⟨vin (by omega) (by decide), vin (by omega) (by decide), fun x13 e13 => ⟨_, c_mcosine hb, ?_⟩⟩, fun cs => ⟨_, c_mcosine hb, ?_⟩⟩)
          · have hs : ¬ bb pk (cvA sp pk c) = 0 := fun h => by rw [if_pos h] at cs; exact absurd cs (by decide)
            have hh := hF_le sp (cFin sp pk (cvA sp pk c + 1)) k
            have hcr : crH sp pk (cvA sp pk c) k ≤ 255 := hh
            rw [h98 hs k (by omega), hT _ (by omega)] at e13
            have hfc : x13 = fc sp pk c k := by
              rw [e13]
              unfold fc
              rw [if_neg hs]
            rintro r16 m15 ⟨e16, rfl⟩ x18 e18 x19 e19
            rw [e19, nI_add, e18, e16, hfc]
            exact ih2 (k + 1) (by omega)
          · have hs : bb pk (cvA sp pk c) = 0 := by
              by_cases h : bb pk (cvA sp pk c) = 0
              · exact h
              · rw [if_neg h] at cs
                exact absurd nI_0 cs
            have hfc : (0 : Int64) = fc sp pk c k := by
              unfold fc
              rw [if_pos hs]
            rintro r22 m21 ⟨e22, rfl⟩ x24 e24 x25 e25
            rw [e25, nI_add, e24, e22, hfc]
            exact ih2 (k + 1) (by omega)
      apply l_X9_sums_2
      exact pk_le 32 n (fun c => by omega) (fun _ => inner 16 0 rfl)
  apply g_X9_sums
  have hid : xu_L μ 103 (μ.2.1 103) = μ := by
    unfold xu_L
    have : va_up μ.2.1 103 (μ.2.1 103) = μ.2.1 := by
      funext k
      by_cases h : k = 103
      · rw [h]; simp [va_up]
      · simp [va_up, h]
    rw [this]
  have := outer 32 0 (μ.2.1 103) rfl (fun i => by rw [if_neg (by omega)])
  rw [hid] at this
  exact this
