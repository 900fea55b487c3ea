/-! ===== curves, pure ===== -/
noncomputable def nE (ln : Nat → Nat) (n : Nat) (pk : List Int32) (a : Nat) : Option (Nat × Nat) := by
  classical
  exact if h : ∃ q : Nat × Nat, okE ln n pk a q.1 q.2 then some h.choose else none
theorem nE_some {ln : Nat → Nat} {n : Nat} {pk : List Int32} {a e d : Nat} (hl : ∀ e, ln e ≤ 15) (hW : WH ln n) (h : okE ln n pk a e d) : nE ln n pk a = some (e, d) := by
  have hx : ∃ q : Nat × Nat, okE ln n pk a q.1 q.2 := ⟨(e, d), h⟩
  unfold nE
  simp only [dif_pos hx]
  have := okE_fn hl hW hx.choose_spec h
  congr 1
  exact Prod.ext this.1 this.2
theorem nE_none {ln : Nat → Nat} {n : Nat} {pk : List Int32} {a : Nat} (h : ∀ e d, ¬ okE ln n pk a e d) : nE ln n pk a = none := by
  have hx : ¬ ∃ q : Nat × Nat, okE ln n pk a q.1 q.2 := fun ⟨q, hq⟩ => h _ _ hq
  unfold nE
  simp only [dif_neg hx]
theorem nE_ok {ln : Nat → Nat} {n : Nat} {pk : List Int32} {a e d : Nat} (h : nE ln n pk a = some (e, d)) : okE ln n pk a e d := by
  by_cases hx : ∃ q : Nat × Nat, okE ln n pk a q.1 q.2
  · unfold nE at h
    simp only [dif_pos hx] at h
    have := Option.some.inj h
    have hs := hx.choose_spec
    rw [this] at hs
    exact hs
  · unfold nE at h
    simp only [dif_neg hx] at h
    cases h
/-- the next entry of book j of the setup sp -/
noncomputable def nx (sp : List Int32) (j : Nat) (pk : List Int32) (a : Nat) : Option (Nat × Nat) := nE (bkL sp (bp sp j)) (bkN sp (bp sp j)) pk a
theorem nx_b {sp pk : List Int32} {j a e d : Nat} (h : nx sp j pk a = some (e, d)) : e < 64 ∧ 1 ≤ d ∧ a + d ≤ 8 * pk.length := by
  obtain ⟨h1, h2, h3, h4, h5⟩ := nE_ok h
  have := (bkN_b sp (bp sp j)).2
  exact ⟨by omega, h2, h5⟩
theorem c_nxt {μ : xm_M} {sp pk : List Int32} {a j : Nat} (hj : j < 8) (hB : cB μ (16 + 5 * j) sp (bp sp j)) (hI : bR μ pk a) : xCi true true k_X1_nextEntry μ [.ref (16 + 5 * j), .ref 7] (fun r μ' => fm [7] μ μ' ∧ ((∃ e d, nx sp j pk a = some (e, d) ∧ r = nI e ∧ bR μ' pk (a + d)) ∨ (nx sp j pk a = none ∧ r = -1 ∧ bR μ' pk (8 * pk.length)))) := by
  refine xCi_mono (c_nextEntry (bk_j hj) (bkN_b sp (bp sp j)) (bkL_le sp (bp sp j)) hB.1 hB.2.1 hI) ?_
  rintro r m ⟨h1, ⟨e, d, h2, h3, h4⟩ | ⟨h2, h3⟩⟩
  · exact ⟨h1, Or.inl ⟨e, d, nE_some (bkL_le sp (bp sp j)) hB.1 h2, h3, h4⟩⟩
  · exact ⟨h1, Or.inr ⟨nE_none h2, h3⟩⟩
theorem c_mnxt {b : Bool} {μ : xm_M} {sp pk : List Int32} {a j : Nat} (hj : j < 8) (hB : mB μ j sp (bp sp j)) (hI : mR μ pk a false) : xCi b b k_X9_entry μ [.ref 75, .int (nI j)] (fun r μ' => fb μ μ' ∧ ((∃ e d, nx sp j pk a = some (e, d) ∧ r = nI e ∧ mR μ' pk (a + d) false) ∨ (nx sp j pk a = none ∧ r = -1 ∧ ∃ a', mR μ' pk a' true))) := by
  refine xCi_mono (c_entry hj (bkN_b sp (bp sp j)) (bkL_le sp (bp sp j)) hB.1 hB.2.1 hI) ?_
  rintro r m ⟨h1, ⟨e, d, h2, h3, h4⟩ | ⟨h2, h3⟩⟩
  · exact ⟨h1, Or.inl ⟨e, d, nE_some (bkL_le sp (bp sp j)) hB.1 h2, h3, h4⟩⟩
  · exact ⟨h1, Or.inr ⟨nE_none h2, h3⟩⟩
-- lines
def lnN (x0 y0 x1 y1 x : Nat) : Nat := if y0 ≤ y1 then y0 + (y1 - y0) * (x - x0) / (x1 - x0) else y0 - (y0 - y1) * (x - x0) / (x1 - x0)
theorem part_le {d p w : Nat} (hp : p ≤ w) : d * p / w ≤ d := by
  rcases Nat.eq_zero_or_pos w with h | h
  · rw [h, Nat.div_zero]; exact Nat.zero_le _
  · exact Nat.div_le_of_le_mul (by rw [Nat.mul_comm]; exact Nat.mul_le_mul_right _ hp)
theorem lnN_lt {x0 y0 x1 y1 x R : Nat} (h0 : x0 ≤ x) (h1 : x ≤ x1) (hy0 : y0 < R) (hy1 : y1 < R) : lnN x0 y0 x1 y1 x < R := by
  unfold lnN
  split
  · have := part_le (d := y1 - y0) (show x - x0 ≤ x1 - x0 by omega)
    omega
  · exact Nat.lt_of_le_of_lt (Nat.sub_le _ _) hy0
theorem nI_rs {a b : Nat} (h : a ≤ b) : 0 - (nI a - nI b) = nI (b - a) := by
  rw [Int32.zero_sub, Int32.neg_sub, pk_sub h]
theorem nI_ng {a b : Nat} (h : a ≤ b) : -(nI a - nI b) = nI (b - a) := by
  rw [Int32.neg_sub, pk_sub h]
theorem c_line {b : Bool} {μ : xm_M} {x0 y0 x1 y1 x : Nat} (h01 : x0 < x1) (h0 : x0 ≤ x) (h1 : x ≤ x1) (hx : x1 < 32) (hy0 : y0 < 256) (hy1 : y1 < 256) : xCi b b k_X2_line μ [.int (nI x0), .int (nI y0), .int (nI x1), .int (nI y1), .int (nI x)] (fun r m => r = nI (lnN x0 y0 x1 y1 x) ∧ m = μ) := by
  apply g_X2_line
  intro x1' e1
  rw [pk_sub (by omega)] at e1
  rw [e1, pk_sub h0]
  have hm : ∀ d, d < 256 → d * (x - x0) < 2 ^ 31 := fun d hd => by
    have : d * (x - x0) ≤ 256 * 32 := Nat.mul_le_mul (by omega) (by omega)
    omega
  refine ⟨fun _ => ⟨nI_ne0 (by omega) (by omega), fun x4 e4 => ?_⟩, fun c => absurd (by rw [← nI_0]; exact nI_lt (by omega) (by omega)) c⟩
  rcases Nat.lt_or_ge y1 y0 with hy | hy
  · have hneg : ¬ 0 ≤ nI y1 - nI y0 := by rw [Int32.not_le]; exact pk_sneg (by omega) hy
    rw [if_neg hneg, nI_rs (by omega), pk_mul, pk_div (hm _ (by omega)) (by omega) (by omega)] at e4
    refine pk_le y1 y0 (fun _ => ⟨?_, rfl⟩) (fun c => by omega)
    have := part_le (d := y0 - y1) (show x - x0 ≤ x1 - x0 by omega)
    rw [e4, pk_sub (by omega)]
    unfold lnN
    rw [if_neg (by omega)]
  · have hpos : 0 ≤ nI y1 - nI y0 := by rw [pk_sub hy]; exact n0' (by omega)
    rw [if_pos hpos, pk_sub hy, pk_mul, pk_div (hm _ (by omega)) (by omega) (by omega)] at e4
    refine pk_le y1 y0 (fun c => ⟨?_, rfl⟩) (fun c => ⟨?_, rfl⟩)
    · have h : y1 = y0 := by omega
      rw [e4, h]
      unfold lnN
      rw [if_pos (Nat.le_refl _), Nat.sub_self, Nat.zero_mul, Nat.zero_div, pk_sub (Nat.zero_le _)]
      rfl
    · rw [e4, nI_add]
      unfold lnN
      rw [if_pos hy]
theorem c_mline {b : Bool} {μ : xm_M} {X Y : Nat → Nat} {p q x : Nat} (hp : p < 18) (hq : q < 18) (hX : μ.1 94 p = nI (X p) ∧ μ.1 94 q = nI (X q)) (hY : μ.1 96 p = nI (Y p) ∧ μ.1 96 q = nI (Y q)) (h01 : X p < X q) (h0 : X p ≤ x) (h1 : x ≤ X q) (hx : X q < 32) (hy0 : Y p < 256) (hy1 : Y q < 256) : xCi b b k_X9_line μ [.ref 75, .int (nI p), .int (nI q), .int (nI x)] (fun r m => r = nI (lnN (X p) (Y p) (X q) (Y q) x) ∧ m = μ) := by
  apply g_X9_line
  rw [cl (show p < 2 ^ 31 by omega), cl (show q < 2 ^ 31 by omega), hX.1, hX.2, hY.1, hY.2, pk_sub h0, pk_sub (show X p ≤ X q by omega)]
  have vp : vp_in (nI p) 18 := vin hp (by decide)
  have vq : vp_in (nI q) 18 := vin hq (by decide)
  have hm : ∀ d, d < 256 → d * (x - X p) < 2 ^ 31 := fun d hd => by
    have : d * (x - X p) ≤ 256 * 32 := Nat.mul_le_mul (by omega) (by omega)
    omega
  refine ⟨vq, vp, fun x3 e3 => ?_⟩
  rcases Nat.lt_or_ge (Y q) (Y p) with hy | hy
  · have hneg : ¬ 0 ≤ nI (Y q) - nI (Y p) := by rw [Int32.not_le]; exact pk_sneg (by omega) hy
    rw [e3]
    refine ⟨fun c => absurd c hneg, fun _ => ⟨vp, vq, vp, nI_ne0 (by omega) (by omega), fun x17 e17 => ⟨fun c => absurd c hneg, fun _ => ⟨vp, ?_, rfl⟩⟩⟩⟩
    have := part_le (d := Y p - Y q) (show x - X p ≤ X q - X p by omega)
    rw [e17, nI_ng (by omega), pk_mul, pk_div (hm _ (by omega)) (by omega) (by omega), pk_sub (by omega)]
    unfold lnN
    rw [if_neg (by omega)]
  · have hpos : 0 ≤ nI (Y q - Y p) := n0' (by omega)
    rw [e3, pk_sub hy]
    refine ⟨fun _ => ⟨vp, vq, vp, nI_ne0 (by omega) (by omega), fun x9 e9 => ⟨fun _ => ⟨vp, ?_, rfl⟩, fun c => absurd hpos c⟩⟩, fun c => absurd hpos c⟩
    rw [e9, pk_mul, pk_div (hm _ (by omega)) (by omega) (by omega), nI_add]
    unfold lnN
    rw [if_pos hy]
-- what a post tells
def tolI (R f v : Nat) : Int := if 2 * min (R - f) f ≤ v then (if f < R - f then (v : Int) else (R : Int) - v - 1) else if v % 2 = 1 then (f : Int) - ((v + 1) / 2 : Nat) else (f : Int) + (v / 2 : Nat)
def tolN (R f v : Nat) : Nat := if tolI R f v < 0 then 0 else if (R : Int) ≤ tolI R f v then R - 1 else (tolI R f v).toNat
theorem tolN_lt {R f v : Nat} (hR : 0 < R) : tolN R f v < R := by
  unfold tolN
  split
  · exact hR
  · split <;> omega
theorem tolI_b {R f v : Nat} (hR : R ≤ 256) (hf : f < R) (hv : v < 64) : -100 ≤ tolI R f v ∧ tolI R f v ≤ 400 := by
  unfold tolI
  split
  · split <;> omega
  · split <;> omega
theorem nI_ex {x : Int32} {z : Int} (h : x.toInt = z) (h0 : 0 ≤ z) (h1 : z < 2 ^ 31) : x = nI z.toNat := by
  apply Int32.toInt_inj.mp
  rw [h, nI_toInt (by omega)]
  omega
theorem c_unfold {b : Bool} {μ : xm_M} {R f v : Nat} (hR0 : 64 ≤ R) (hR : R ≤ 256) (hf : f < R) (hv : v < 64) : xCi b b k_X2_unfold μ [.int (nI v), .int (nI f), .int (nI R)] (fun r m => r.toInt = tolI R f v ∧ m = μ) := by
  apply g_X2_unfold
  intro x1 e1 x2 e2
  rw [pk_sub (by omega)] at e1
  have hmin : x2 = nI (2 * min (R - f) f) := by
    rw [e2, e1]
    rcases Nat.lt_or_ge f (R - f) with h | h
    · rw [if_pos (nI_lt h (by omega)), pk_mul, Nat.min_eq_right (by omega)]
    · rw [if_neg (nI_nlt h (by omega)), pk_mul, Nat.min_eq_left h]
  rw [hmin, e1]
  have ht := nI_toInt (show v < 2 ^ 31 by omega)
  refine pk_lt v (2 * min (R - f) f) (fun c => ?_) (fun c => pk_le (R - f) f (fun c2 => ⟨?_, rfl⟩) (fun c2 => ⟨?_, rfl⟩))
  · rw [pk_andN (by omega) 1 (by decide +kernel)]
    refine ⟨fun c2 => ⟨?_, rfl⟩, fun c2 => ⟨?_, rfl⟩⟩
    · have : ¬ v % 2 = 1 := fun h => c2 (by rw [show v % 2 ^ 1 = v % 2 from rfl, h])
      rw [pk_div (by omega) (by decide) (by decide), nI_add, nI_toInt (by omega)]
      unfold tolI
      rw [if_neg (by omega), if_neg this]
      omega
    · have : v % 2 = 1 := nI_inj (show v % 2 ^ 1 < 2 ^ 32 by omega) (by decide) c2
      rw [nI_add, pk_div (by omega) (by decide) (by decide), pk_sub_toInt (by omega) (by omega)]
      unfold tolI
      rw [if_neg (by omega), if_pos this]
  · rw [nI_add, show f + (R - f) = R by omega]
    unfold tolI
    rw [if_pos c, if_neg (by omega)]
    rw [pk_sub (by omega), pk_sub (by omega), nI_toInt (by omega)]
    omega
  · rw [nI_add, pk_sub (by omega), nI_toInt (by omega)]
    unfold tolI
    rw [if_pos c, if_pos (by omega)]
    omega
