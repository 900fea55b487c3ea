def sR (sp : List Int32) : Nat := if sMu sp = 1 then 256 else if sMu sp = 2 then 128 else if sMu sp = 3 then 86 else 64
def sRb (sp : List Int32) : Nat := if sMu sp = 1 then 8 else if sMu sp = 4 then 6 else 7
theorem sMu_4 (sp : List Int32) : sMu sp = 1 ∨ sMu sp = 2 ∨ sMu sp = 3 ∨ sMu sp = 4 := by
  have := sMu_b sp
  omega
theorem sR_b (sp : List Int32) : 64 ≤ sR sp ∧ sR sp ≤ 256 := by
  unfold sR
  split
  · decide
  · split
    · decide
    · split <;> decide
theorem sRb_b (sp : List Int32) : 6 ≤ sRb sp ∧ sRb sp ≤ 8 := by
  unfold sRb
  split
  · decide
  · split <;> decide
theorem c_mrange {b : Bool} {μ : xm_M} {sp : List Int32} (h : μ.1 75 32 = nI (sMu sp)) : xCi b b k_X9_range μ [.ref 75] (fun r m => r = nI (sR sp) ∧ m = μ) := by
  apply g_X9_range
  rw [h]
  unfold sR
  have hb := sMu_b sp
  refine ⟨fun c => ?_, fun c => ?_⟩
  · have c' : ¬ sMu sp = 1 := fun z => c (by rw [z])
    rw [if_neg c']
    refine ⟨fun c2 => ?_, fun c2 => ?_⟩
    · have c2' : ¬ sMu sp = 2 := fun z => c2 (by rw [z])
      rw [if_neg c2']
      refine ⟨fun c3 => ?_, fun c3 => ?_⟩
      · have c3' : ¬ sMu sp = 3 := fun z => c3 (by rw [z])
        rw [if_neg c3']
        exact ⟨rfl, rfl⟩
      · rw [if_pos (nI_inj (by omega) (by decide) c3)]
        exact ⟨rfl, rfl⟩
    · rw [if_pos (nI_inj (by omega) (by decide) c2)]
      exact ⟨rfl, rfl⟩
  · rw [if_pos (nI_inj (by omega) (by decide) c)]
    exact ⟨rfl, rfl⟩
theorem c_mtold {b : Bool} {μ : xm_M} {sp : List Int32} {f v : Nat} (w : Int32) (h : μ.1 75 32 = nI (sMu sp)) (hf : f < sR sp) (hv : v < 64) : xCi b b k_X9_told μ [.ref 75, .int w, .int (nI f), .int (nI v)] (fun r m => r = nI (tolN (sR sp) f v) ∧ m = μ) := by
  have hR := sR_b sp
  have ht := tolI_b hR.2 hf hv
  have t88 : ∀ x : Int32, x.toInt = tolI (sR sp) f v → hd_X9_told_88 b (fun r m => r = nI (tolN (sR sp) f v) ∧ m = μ) x μ := by
    intro x hx
    have h0 : (0 : Int32).toInt = 0 := by decide
    apply l_X9_told_88
    refine ⟨fun c => ⟨_, c_mrange h, ?_⟩, fun c => ⟨?_, rfl⟩⟩
    · rintro r4 m3 ⟨e4, rfl⟩
      rw [Int32.le_iff_toInt_le, h0, hx] at c
      rw [e4]
      refine ⟨fun c2 => ⟨?_, rfl⟩, fun c2 => ⟨_, c_mrange h, ?_⟩⟩
      · rw [Int32.lt_iff_toInt_lt, hx, nI_toInt (by omega)] at c2
        unfold tolN
        rw [if_neg (by omega), if_neg (by omega)]
        exact nI_ex hx c (by omega)
      · rintro r9 m8 ⟨e9, rfl⟩
        rw [Int32.lt_iff_toInt_lt, hx, nI_toInt (by omega)] at c2
        refine ⟨?_, rfl⟩
        unfold tolN
        rw [if_neg (by omega), if_pos (by omega), e9, pk_sub (by omega)]
    · rw [Int32.le_iff_toInt_le, h0, hx] at c
      unfold tolN
      rw [if_pos (by omega)]
  refine g_X9_told _ _ _ ⟨_, c_mrange h, ?_⟩
  rintro r3 m2 ⟨e3, rfl⟩ x5 e5
  rw [e3, pk_sub (by omega)] at e5
  rw [e5, pk_rem (by omega) (by decide) (by decide)]
  have low : v < 2 * min (sR sp - f) f → (¬ nI (v % 2) = nI 1 → ∀ x10 : Int32, x10 = nI f + nI v / nI 2 → hd_X9_told_88 b (fun r m => r = nI (tolN (sR sp) f v) ∧ m = m2) x10 m2) ∧ (nI (v % 2) = nI 1 → ∀ x11 : Int32, x11 = nI f - (nI v + nI 1) / nI 2 → hd_X9_told_88 b (fun r m => r = nI (tolN (sR sp) f v) ∧ m = m2) x11 m2) := by
    intro c
    refine ⟨fun c2 x10 e10 => t88 _ ?_, fun c2 x11 e11 => t88 _ ?_⟩
    · have : ¬ v % 2 = 1 := fun h => c2 (by rw [h])
      rw [e10, pk_div (by omega) (by decide) (by decide), nI_add, nI_toInt (by omega)]
      unfold tolI
      rw [if_neg (by omega), if_neg this]
      omega
    · have : v % 2 = 1 := nI_inj (by omega) (by decide) c2
      rw [e11, nI_add, pk_div (by omega) (by decide) (by decide), pk_sub_toInt (by omega) (by omega)]
      unfold tolI
      rw [if_neg (by omega), if_pos this]
  have high : 2 * min (sR sp - f) f ≤ v → (nI (sR sp - f) ≤ nI f → ∀ x13 : Int32, x13 = nI f + nI (sR sp - f) - nI v - nI 1 → hd_X9_told_88 b (fun r m => r = nI (tolN (sR sp) f v) ∧ m = m2) x13 m2) ∧ (¬ nI (sR sp - f) ≤ nI f → ∀ x14 : Int32, x14 = nI f + nI v - nI f → hd_X9_told_88 b (fun r m => r = nI (tolN (sR sp) f v) ∧ m = m2) x14 m2) := by
    intro c
    refine pk_le (sR sp - f) f (fun c2 x13 e13 => t88 _ ?_) (fun c2 x14 e14 => t88 _ ?_)
    · rw [e13, nI_add, show f + (sR sp - f) = sR sp by omega, pk_sub (by omega), pk_sub (by omega), nI_toInt (by omega)]
      unfold tolI
      rw [if_pos c, if_neg (by omega)]
      omega
    · rw [e14, nI_add, pk_sub (by omega), nI_toInt (by omega)]
      unfold tolI
      rw [if_pos c, if_pos (by omega)]
      omega
  refine pk_le f (sR sp - f) (fun c x7 e7 => ?_) (fun c x15 e15 => ?_)
  · rw [e7, pk_mul]
    exact pk_lt v (2 * f) (fun c2 => low (by omega)) (fun c2 => high (by omega))
  · rw [e15, pk_mul]
    exact pk_lt v (2 * (sR sp - f)) (fun c2 => low (by omega)) (fun c2 => high (by omega))
-- neighbours
theorem LH_fn {X : Nat → Nat} {k lo hi lo' hi' : Nat} (hinj : ∀ i j, i < k → j < k → X i = X j → i = j) (h : LH X k lo hi) (h' : LH X k lo' hi') : lo = lo' ∧ hi = hi' := by
  obtain ⟨a1, a2, a3, a4, a5, a6⟩ := h
  obtain ⟨b1, b2, b3, b4, b5, b6⟩ := h'
  have := a5 lo' b1 b3
  have := b5 lo a1 a3
  have := a6 hi' b2 b4
  have := b6 hi a2 a4
  exact ⟨hinj lo lo' a1 b1 (by omega), hinj hi hi' a2 b2 (by omega)⟩
theorem exmax (X : Nat → Nat) (P : Nat → Prop) : ∀ k, (∃ i, i < k ∧ P i) → ∃ m, m < k ∧ P m ∧ ∀ i, i < k → P i → X i ≤ X m
  | 0, ⟨i, h, _⟩ => by omega
  | k + 1, ⟨i, h, hp⟩ => by
    by_cases hex : ∃ i, i < k ∧ P i
    · obtain ⟨m, m1, m2, m3⟩ := exmax X P k hex
      by_cases hk : P k ∧ X m < X k
      · refine ⟨k, by omega, hk.1, lt_s (fun i hi hp => ?_) (fun _ => Nat.le_refl _)⟩
        have := m3 i hi hp
        omega
      · refine ⟨m, by omega, m2, lt_s m3 (fun hpk => ?_)⟩
        exact Nat.le_of_not_lt (fun hlt => hk ⟨hpk, hlt⟩)
    · have hik : i = k := by
        by_cases hik : i = k
        · exact hik
        · exact absurd ⟨i, by omega, hp⟩ hex
      subst hik
      exact ⟨i, by omega, hp, lt_s (fun j hj hpj => absurd ⟨j, hj, hpj⟩ hex) (fun _ => Nat.le_refl _)⟩
theorem exmin (X : Nat → Nat) (hX : ∀ i, X i < 32) (P : Nat → Prop) (k : Nat) (h : ∃ i, i < k ∧ P i) : ∃ m, m < k ∧ P m ∧ ∀ i, i < k → P i → X m ≤ X i := by
  obtain ⟨m, m1, m2, m3⟩ := exmax (fun i => 32 - X i) P k h
  refine ⟨m, m1, m2, fun i hi hp => ?_⟩
  have := m3 i hi hp
  have := hX i
  have := hX m
  omega
theorem LH_ex {sp : List Int32} {k : Nat} (hk : 2 ≤ k) (h : okX sp k) : ∃ lo hi, LH (sX sp) k lo hi := by
  obtain ⟨lo, l1, l2, l3⟩ := exmax (sX sp) (fun i => sX sp i < sX sp k) k ⟨0, by omega, h.1⟩
  obtain ⟨hi, h1, h2, h3⟩ := exmin (sX sp) (sX_b sp) (fun i => sX sp k < sX sp i) k ⟨1, by omega, h.2.1⟩
  exact ⟨lo, hi, l1, h1, l2, h2, l3, h3⟩
theorem sInj {sp : List Int32} (hok : sOK sp) : ∀ i j, i < sPn sp + 2 → j < sPn sp + 2 → sX sp i = sX sp j → i = j := by
  have key : ∀ i j, i < j → j < sPn sp + 2 → sX sp i ≠ sX sp j := by
    intro i j hij hj
    match j, hij, hj with
    | 0, h, _ => omega
    | 1, h, _ =>
      have : i = 0 := by omega
      rw [this]
      show (0 : Nat) ≠ 16
      decide
    | j + 2, h, hj => exact (hok.2.2.1 j (by omega)).2.2 i h
  intro i j hi hj he
  rcases Nat.lt_trichotomy i j with h | h | h
  · exact absurd he (key i j h hj)
  · exact h
  · exact absurd he.symm (key j i h hi)
noncomputable def sLH (sp : List Int32) (k : Nat) : Nat × Nat := by
  classical
  exact if h : ∃ q : Nat × Nat, LH (sX sp) k q.1 q.2 then h.choose else (0, 0)
theorem sLH_eq {sp : List Int32} (hok : sOK sp) {k lo hi : Nat} (hk : k < sPn sp + 2) (h : LH (sX sp) k lo hi) : sLH sp k = (lo, hi) := by
  have hx : ∃ q : Nat × Nat, LH (sX sp) k q.1 q.2 := ⟨(lo, hi), h⟩
  unfold sLH
  simp only [dif_pos hx]
  have := LH_fn (fun i j hi hj => sInj hok i j (by omega) (by omega)) hx.choose_spec h
  exact Prod.ext this.1 this.2
theorem sLH_ok {sp : List Int32} (hok : sOK sp) {j : Nat} (hj : j < sPn sp) : LH (sX sp) (j + 2) (sLH sp (j + 2)).1 (sLH sp (j + 2)).2 := by
  obtain ⟨lo, hi, h⟩ := LH_ex (by omega) (hok.2.2.1 j hj)
  rw [sLH_eq hok (by omega) h]
  exact h
noncomputable def cSt (sp : List Int32) (y0 y1 : Nat) (v : Nat → Nat) : Nat → (Nat → Nat) × (Nat → Bool)
  | 0 => (fun i => if i = 0 then y0 else y1, fun i => decide (i < 2))
  | j + 1 =>
    let s := cSt sp y0 y1 v j
    let q := sLH sp (j + 2)
    let f := lnN (sX sp q.1) (s.1 q.1) (sX sp q.2) (s.1 q.2) (sX sp (j + 2))
    if v j = 0 then (fun i => if i = j + 2 then f else s.1 i, fun i => if i = j + 2 then false else s.2 i)
    else (fun i => if i = j + 2 then tolN (sR sp) f (v j) else s.1 i, fun i => if i = j + 2 ∨ i = q.1 ∨ i = q.2 then true else s.2 i)
/-- what is foretold of post j -/
noncomputable def fT (sp : List Int32) (s : (Nat → Nat) × (Nat → Bool)) (j : Nat) : Nat := lnN (sX sp (sLH sp (j + 2)).1) (s.1 (sLH sp (j + 2)).1) (sX sp (sLH sp (j + 2)).2) (s.1 (sLH sp (j + 2)).2) (sX sp (j + 2))
theorem cSt_0 {sp : List Int32} {y0 y1 : Nat} {v : Nat → Nat} {j : Nat} (h : v j = 0) : cSt sp y0 y1 v (j + 1) = (fun i => if i = j + 2 then fT sp (cSt sp y0 y1 v j) j else (cSt sp y0 y1 v j).1 i, fun i => if i = j + 2 then false else (cSt sp y0 y1 v j).2 i) := by
  show (if v j = 0 then _ else _) = _
  rw [if_pos h]
  rfl
theorem cSt_1 {sp : List Int32} {y0 y1 : Nat} {v : Nat → Nat} {j : Nat} (h : ¬ v j = 0) : cSt sp y0 y1 v (j + 1) = (fun i => if i = j + 2 then tolN (sR sp) (fT sp (cSt sp y0 y1 v j) j) (v j) else (cSt sp y0 y1 v j).1 i, fun i => if i = j + 2 ∨ i = (sLH sp (j + 2)).1 ∨ i = (sLH sp (j + 2)).2 then true else (cSt sp y0 y1 v j).2 i) := by
  show (if v j = 0 then _ else _) = _
  rw [if_neg h]
  rfl
theorem cSt_lt {sp : List Int32} (hok : sOK sp) {y0 y1 : Nat} {v : Nat → Nat} (h0 : y0 < sR sp) (h1 : y1 < sR sp) : ∀ j, j ≤ sPn sp → ∀ i, (cSt sp y0 y1 v j).1 i < sR sp
  | 0, _, i => by
    show (if i = 0 then y0 else y1) < _
    split <;> assumption
  | j + 1, hj, i => by
    have ih := cSt_lt hok (v := v) h0 h1 j (by omega)
    have hl := sLH_ok hok (show j < sPn sp by omega)
    have hf : fT sp (cSt sp y0 y1 v j) j < sR sp := lnN_lt (Nat.le_of_lt hl.2.2.1) (Nat.le_of_lt hl.2.2.2.1) (ih _) (ih _)
    have hR := sR_b sp
    by_cases h : v j = 0
    · rw [cSt_0 h]
      show (if i = j + 2 then _ else _) < _
      split
      · exact hf
      · exact ih i
    · rw [cSt_1 h]
      show (if i = j + 2 then _ else _) < _
      split
      · exact tolN_lt (by omega)
      · exact ih i
theorem fT_lt {sp : List Int32} (hok : sOK sp) {y0 y1 : Nat} {v : Nat → Nat} (h0 : y0 < sR sp) (h1 : y1 < sR sp) {j : Nat} (hj : j < sPn sp) : fT sp (cSt sp y0 y1 v j) j < sR sp := by
  have hl := sLH_ok hok hj
  exact lnN_lt (Nat.le_of_lt hl.2.2.1) (Nat.le_of_lt hl.2.2.2.1) (cSt_lt hok h0 h1 j (by omega) _) (cSt_lt hok h0 h1 j (by omega) _)
def cYD (μ : xm_M) (P : Nat) (s : (Nat → Nat) × (Nat → Bool)) : Prop := ∀ k, k < P → μ.1 57 k = nI (s.1 k) ∧ μ.1 58 k = nI (if s.2 k = true then 1 else 0)
def mYD (μ : xm_M) (P : Nat) (s : (Nat → Nat) × (Nat → Bool)) : Prop := ∀ k, k < P → μ.1 96 k = nI (s.1 k) ∧ μ.1 97 k = nI (if s.2 k = true then 1 else 0)
theorem clampC {x : Int32} {R f v : Nat} (hR0 : 64 ≤ R) (hR : R ≤ 256) (hf : f < R) (hv : v < 64) (hx : x.toInt = tolI R f v) : (if nI 0 < (if x < nI R - nI 1 then x else nI R - nI 1) then (if x < nI R - nI 1 then x else nI R - nI 1) else nI 0) = nI (tolN R f v) := by
  have ht := tolI_b hR hf hv
  rw [pk_sub (by omega)]
  by_cases h1 : x < nI (R - 1)
  · rw [if_pos h1]
    rw [Int32.lt_iff_toInt_lt, hx, nI_toInt (by omega)] at h1
    by_cases h2 : nI 0 < x
    · rw [if_pos h2]
      rw [Int32.lt_iff_toInt_lt, hx, nI_toInt (by decide)] at h2
      unfold tolN
      rw [if_neg (by omega), if_neg (by omega)]
      exact nI_ex hx (by omega) (by omega)
    · rw [if_neg h2]
      rw [Int32.lt_iff_toInt_lt, hx, nI_toInt (by decide)] at h2
      unfold tolN
      by_cases h3 : tolI R f v < 0
      · rw [if_pos h3]
      · rw [if_neg h3, if_neg (by omega), show (tolI R f v).toNat = 0 by omega]
  · rw [if_neg h1, if_pos (nI_lt (by omega) (by omega))]
    rw [Int32.lt_iff_toInt_lt, hx, nI_toInt (by omega)] at h1
    unfold tolN
    by_cases h3 : (R : Int) ≤ tolI R f v
    · rw [if_neg (by omega), if_pos h3]
    · rw [if_neg (by omega), if_neg h3, show (tolI R f v).toNat = R - 1 by omega]
theorem c_placePost {b : Bool} {μ : xm_M} {sp : List Int32} {y0 y1 j : Nat} {v : Nat → Nat} (hok : sOK sp) (hS : cPt μ sp (sPn sp + 2)) (hj : j < sPn sp) (h0 : y0 < sR sp) (h1 : y1 < sR sp) (hv : v j < 64) (hY : cYD μ (j + 2) (cSt sp y0 y1 v j)) : xCv b b k_X2_placePost μ [.ref 56, .ref 9, .int (nI (j + 2)), .int (nI (v j)), .int (nI (sR sp))] (fun m => fm [57, 58] μ m ∧ cYD m (j + 3) (cSt sp y0 y1 v (j + 1))) := by
  have hR := sR_b sp
  have hPn := sPn_b sp
  obtain ⟨lo, hi, e11, e12, hlh⟩ := hS.2.2.1 (j + 2) (by omega) (by omega)
  have hsl := sLH_eq hok (by omega) hlh
  have hlo := hlh.1
  have hhi := hlh.2.1
  have yl := cSt_lt hok (v := v) h0 h1 j (by omega) lo
  have yh := cSt_lt hok (v := v) h0 h1 j (by omega) hi
  have hf := fT_lt hok (v := v) h0 h1 hj
  have xb := sX_b sp hi
  have vj : vp_in (nI (j + 2)) 17 := vin (by omega) (by decide)
  have vl : vp_in (nI lo) 17 := vin (by omega) (by decide)
  have vh : vp_in (nI hi) 17 := vin (by omega) (by decide)
  apply g_X2_placePost
  rw [cl (show j + 2 < 2 ^ 31 by omega), e11, e12, cl (show lo < 2 ^ 31 by omega), cl (show hi < 2 ^ 31 by omega), hS.2.1 lo (by omega), hS.2.1 hi (by omega), hS.2.1 (j + 2) (by omega), (hY lo hlo).1, (hY hi hhi).1]
  refine ⟨vj, vj, fun c => absurd c (n0 (by omega)), fun _ => pk_le (j + 2) lo (fun c => by omega) (fun _ => ⟨fun c => absurd c (n0 (by omega)), fun _ => pk_lt hi (j + 2) (fun _ => ⟨vl, vl, vh, vh, vj, _, c_line (by have := hlh.2.2; omega) (Nat.le_of_lt hlh.2.2.1) (Nat.le_of_lt hlh.2.2.2.1) xb (by omega) (by omega), ?_⟩) (fun c => by omega)⟩)⟩
  rintro r14 m13 ⟨e14, rfl⟩
  have hft : lnN (sX sp lo) ((cSt sp y0 y1 v j).1 lo) (sX sp hi) ((cSt sp y0 y1 v j).1 hi) (sX sp (j + 2)) = fT sp (cSt sp y0 y1 v j) j := by
    unfold fT
    rw [hsl]
  rw [hft] at e14
  rw [e14, nb0, nb1]
  refine ⟨fun c => ⟨vj, fun m18 e18 => ⟨vj, fun m20 e20 => ⟨fun _ => ?_, fun c2 => absurd c c2⟩⟩⟩, fun c => ⟨vj, fun m33 e33 => ⟨vj, fun m35 e35 => ⟨fun c2 => absurd c2 c, fun _ => ⟨vl, fun m38 e38 => ⟨vh, fun m40 e40 => ⟨_, c_unfold hR.1 hR.2 hf hv, ?_⟩⟩⟩⟩⟩⟩⟩
  · have hz : v j = 0 := (neq0 (by omega)).mp c
    refine ⟨by rw [e20, e18]; exact (fm.rf.I (by decide)).I (by decide), fun k hk => ?_⟩
    rw [cSt_0 hz, e20, ri_e, ri_n (by decide), e18, ri_n (by decide), ri_e]
    by_cases hkj : k = j + 2
    · rw [hkj, upd_e, upd_e]
      show _ = nI (if j + 2 = j + 2 then _ else _) ∧ _ = nI (if (if j + 2 = j + 2 then false else _) = true then 1 else 0)
      rw [if_pos rfl, if_pos rfl]
      exact ⟨rfl, rfl⟩
    · rw [upd_n hkj, upd_n hkj]
      show _ = nI (if k = j + 2 then _ else _) ∧ _ = nI (if (if k = j + 2 then false else _) = true then 1 else 0)
      rw [if_neg hkj, if_neg hkj]
      exact hY k (by omega)
  · have hz : ¬ v j = 0 := fun h => c (by rw [h]; exact nI_0)
    rintro r43 m42 ⟨e43, rfl⟩
    refine ⟨vj, fun m46 e46 => ?_⟩
    rw [clampC hR.1 hR.2 hf hv e43] at e46
    refine ⟨by rw [e46, e40, e38, e35, e33]; exact ((((fm.rf.I (by decide)).I (by decide)).I (by decide)).I (by decide)).I (by decide), fun k hk => ?_⟩
    have d57 : m46.1 57 = upd (upd (m13.1 57) (j + 2) (nI (fT sp (cSt sp y0 y1 v j) j))) (j + 2) (nI (tolN (sR sp) (fT sp (cSt sp y0 y1 v j) j) (v j))) := by
      rw [e46, ri_e, e40, ri_n (by decide), e38, ri_n (by decide), e35, ri_e, e33, ri_n (by decide)]
    have d58 : m46.1 58 = upd (upd (upd (m13.1 58) (j + 2) (nI 1)) lo (nI 1)) hi (nI 1) := by
      rw [e46, ri_n (by decide), e40, ri_e, e38, ri_e, e35, ri_n (by decide), e33, ri_e]
    rw [cSt_1 hz, d57, d58, hsl]
    show _ = nI (if k = j + 2 then _ else _) ∧ _ = nI (if (if k = j + 2 ∨ k = lo ∨ k = hi then true else _) = true then 1 else 0)
    constructor
    · by_cases hkj : k = j + 2
      · rw [hkj, upd_e, if_pos rfl]
      · rw [upd_n hkj, upd_n hkj, if_neg hkj]
        exact (hY k (by omega)).1
    · by_cases hkh : k = hi
      · rw [hkh, upd_e, if_pos (Or.inr (Or.inr rfl)), if_pos rfl]
      · rw [upd_n hkh]
        by_cases hkl : k = lo
        · rw [hkl, upd_e, if_pos (Or.inr (Or.inl rfl)), if_pos rfl]
        · rw [upd_n hkl]
          by_cases hkj : k = j + 2
          · rw [hkj, upd_e, if_pos (Or.inl rfl), if_pos rfl]
          · rw [upd_n hkj, if_neg (by omega : ¬ (k = j + 2 ∨ k = lo ∨ k = hi))]
            exact (hY k (by omega)).2
