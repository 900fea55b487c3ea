/-! ===== the setup: what the first packet says ===== -/
def sC (pk : List Int32) : Nat := bb pk 8 + 1
def sBn (pk : List Int32) : Nat := nv pk 9 3 + 1
def bp (pk : List Int32) : Nat → Nat
  | 0 => 12
  | i + 1 => bkE pk (bp pk i)
noncomputable def bfl (pk : List Int32) : Nat → Nat
  | 0 => 0
  | k + 1 => if bfl pk k = 0 then bkF pk (bp pk k) else bfl pk k
def s2 (pk : List Int32) : Nat := bp pk (sBn pk)
def sMu (pk : List Int32) : Nat := nv pk (s2 pk) 2 + 1
def sPn (pk : List Int32) : Nat := nv pk (s2 pk + 2) 4
def sPb (pk : List Int32) : Nat := nv pk (s2 pk + 6) 3
def sX (pk : List Int32) : Nat → Nat
  | 0 => 0
  | 1 => 16
  | k + 2 => nv pk (s2 pk + 9 + 5 * k) 5
def okX (pk : List Int32) (k : Nat) : Prop := 1 ≤ sX pk k ∧ sX pk k < 16 ∧ ∀ i, i < k → sX pk i ≠ sX pk k
noncomputable def pfl (pk : List Int32) : Nat → Nat
  | 0 => 0
  | k + 1 => by
    classical
    exact if pfl pk k = 0 then (if 8 * pk.length < s2 pk + 9 + 5 * (k + 1) then 2 else if okX pk (k + 2) then 0 else 6) else pfl pk k
noncomputable def pF (pk : List Int32) : Nat := if 8 * pk.length < s2 pk + 9 then 2 else if sBn pk ≤ sPb pk then 5 else pfl pk (sPn pk)
def s3 (pk : List Int32) : Nat := s2 pk + 9 + 5 * sPn pk
def sSz (pk : List Int32) : Nat := 2 ^ nv pk (s3 pk) 2
def sCn (pk : List Int32) : Nat := nv pk (s3 pk + 2) 2 + 1
def sCb (pk : List Int32) : Nat := nv pk (s3 pk + 4) 3
def sCl (pk : List Int32) (k : Nat) : Nat := nv pk (s3 pk + 7 + 4 * k) 4
def clF (pk : List Int32) (v : Nat) : Nat := if 8 ≤ v then 0 else if sBn pk ≤ v then 5 else if bkH pk (bp pk v) = 0 then 7 else if sSz pk % bkW pk (bp pk v) = 0 then 0 else 7
def cfl (pk : List Int32) : Nat → Nat
  | 0 => 0
  | k + 1 => if cfl pk k = 0 then (if 8 * pk.length < s3 pk + 7 + 4 * (k + 1) then 2 else clF pk (sCl pk k)) else cfl pk k
def cF (pk : List Int32) : Nat := if 8 * pk.length < s3 pk + 7 then 2 else if sBn pk ≤ sCb pk then 5 else cfl pk (sCn pk)
def s4 (pk : List Int32) : Nat := s3 pk + 7 + 4 * sCn pk
def sLe (pk : List Int32) : Nat := if sC pk = 2 then bb pk (s4 pk) else 0
def lF (pk : List Int32) : Nat := if sC pk = 2 then (if 8 * pk.length < s4 pk + 1 then 2 else 0) else 0
noncomputable def sF (pk : List Int32) : Nat := if 8 * pk.length < 8 then 2 else if nv pk 0 8 = 86 then (if 8 * pk.length < 12 then 2 else if bfl pk (sBn pk) = 0 then (if pF pk = 0 then (if cF pk = 0 then lF pk else cF pk) else pF pk) else bfl pk (sBn pk)) else 3
theorem sBn_b (pk : List Int32) : 1 ≤ sBn pk ∧ sBn pk ≤ 8 := by
  have := nv_lt pk 9 3
  unfold sBn
  omega
theorem sC_b (pk : List Int32) : 1 ≤ sC pk ∧ sC pk ≤ 2 := by
  have := bb_lt pk 8
  unfold sC
  omega
theorem sMu_b (pk : List Int32) : 1 ≤ sMu pk ∧ sMu pk ≤ 4 := by
  have := nv_lt pk (s2 pk) 2
  unfold sMu
  omega
theorem sPn_b (pk : List Int32) : sPn pk ≤ 15 := by
  have := nv_lt pk (s2 pk + 2) 4
  unfold sPn
  omega
theorem sCn_b (pk : List Int32) : 1 ≤ sCn pk ∧ sCn pk ≤ 4 := by
  have := nv_lt pk (s3 pk + 2) 2
  unfold sCn
  omega
theorem sSz_b (pk : List Int32) : sSz pk = 1 ∨ sSz pk = 2 ∨ sSz pk = 4 ∨ sSz pk = 8 := by
  have := nv_lt pk (s3 pk) 2
  unfold sSz
  rcases (by omega : nv pk (s3 pk) 2 = 0 ∨ nv pk (s3 pk) 2 = 1 ∨ nv pk (s3 pk) 2 = 2 ∨ nv pk (s3 pk) 2 = 3) with h | h | h | h <;> rw [h] <;> decide
theorem sX_b (pk : List Int32) (k : Nat) : sX pk k < 32 := by
  match k with
  | 0 => exact (by decide : (0 : Nat) < 32)
  | 1 => exact (by decide : (16 : Nat) < 32)
  | k + 2 => exact nv_lt pk _ 5
theorem bfl_s (pk : List Int32) (k : Nat) : bfl pk (k + 1) = if bfl pk k = 0 then bkF pk (bp pk k) else bfl pk k := rfl
theorem bkF_8 (pk : List Int32) (a : Nat) : bkF pk a < 8 := by
  by_cases h1 : 8 * pk.length < bkP pk a
  · rw [bkF_1 h1]; decide
  · by_cases h2 : WH (bkL pk a) (bkN pk a)
    · by_cases h3 : 8 * pk.length < bkE pk a
      · rw [bkF_3 h1 h2 h3]; decide
      · rw [bkF_0 h2 h3]; decide
    · rw [bkF_2 h1 h2]; decide
theorem bfl_8 (pk : List Int32) : ∀ k, bfl pk k < 8
  | 0 => show 0 < 8 by decide
  | k + 1 => by
    rw [bfl_s]
    split
    · exact bkF_8 pk _
    · exact bfl_8 pk k
theorem bfl_up {pk : List Int32} {k : Nat} (h : bfl pk k ≠ 0) : ∀ j, k ≤ j → bfl pk j = bfl pk k := by
  intro j hj
  induction hj with
  | refl => rfl
  | step h2 ih =>
    rw [bfl_s, if_neg (by rw [ih]; exact h), ih]
theorem pfl_sn {pk : List Int32} {k : Nat} (h : pfl pk k ≠ 0) : pfl pk (k + 1) = pfl pk k := by
  conv => lhs; unfold pfl
  simp only [if_neg h]
theorem pfl_s2 {pk : List Int32} {k : Nat} (h : pfl pk k = 0) (h1 : 8 * pk.length < s2 pk + 9 + 5 * (k + 1)) : pfl pk (k + 1) = 2 := by
  unfold pfl
  simp only [if_pos h, if_pos h1]
theorem pfl_s6 {pk : List Int32} {k : Nat} (h : pfl pk k = 0) (h1 : ¬ 8 * pk.length < s2 pk + 9 + 5 * (k + 1)) (h2 : ¬ okX pk (k + 2)) : pfl pk (k + 1) = 6 := by
  unfold pfl
  simp only [if_pos h, if_neg h1, if_neg h2]
theorem pfl_s0 {pk : List Int32} {k : Nat} (h : pfl pk k = 0) (h1 : ¬ 8 * pk.length < s2 pk + 9 + 5 * (k + 1)) (h2 : okX pk (k + 2)) : pfl pk (k + 1) = 0 := by
  unfold pfl
  simp only [if_pos h, if_neg h1, if_pos h2]
theorem pfl_8 (pk : List Int32) : ∀ k, pfl pk k < 8
  | 0 => show 0 < 8 by decide
  | k + 1 => by
    by_cases h : pfl pk k = 0
    · by_cases h1 : 8 * pk.length < s2 pk + 9 + 5 * (k + 1)
      · rw [pfl_s2 h h1]; decide
      · by_cases h2 : okX pk (k + 2)
        · rw [pfl_s0 h h1 h2]; decide
        · rw [pfl_s6 h h1 h2]; decide
    · rw [pfl_sn h]
      exact pfl_8 pk k
theorem pfl_up {pk : List Int32} {k : Nat} (h : pfl pk k ≠ 0) : ∀ j, k ≤ j → pfl pk j = pfl pk k := by
  intro j hj
  induction hj with
  | refl => rfl
  | step h2 ih =>
    rw [pfl_sn (by rw [ih]; exact h), ih]
theorem pfl_0 {pk : List Int32} : ∀ {k : Nat}, pfl pk k = 0 → ∀ i, i < k → okX pk (i + 2)
  | 0, _, i, hi => by omega
  | k + 1, h, i, hi => by
    have hk : pfl pk k = 0 := by
      by_cases hc : pfl pk k = 0
      · exact hc
      · have := pfl_up hc (k + 1) (by omega)
        omega
    by_cases hik : i = k
    · subst hik
      by_cases hc : okX pk (i + 2)
      · exact hc
      · by_cases h1 : 8 * pk.length < s2 pk + 9 + 5 * (i + 1)
        · rw [pfl_s2 hk h1] at h
          omega
        · rw [pfl_s6 hk h1 hc] at h
          omega
    · exact pfl_0 hk i (by omega)
theorem clF_8 (pk : List Int32) (v : Nat) : clF pk v < 8 := by
  unfold clF
  split
  · decide
  · split
    · decide
    · split
      · decide
      · split <;> decide
theorem cfl_s (pk : List Int32) (k : Nat) : cfl pk (k + 1) = if cfl pk k = 0 then (if 8 * pk.length < s3 pk + 7 + 4 * (k + 1) then 2 else clF pk (sCl pk k)) else cfl pk k := rfl
theorem cfl_8 (pk : List Int32) : ∀ k, cfl pk k < 8
  | 0 => show 0 < 8 by decide
  | k + 1 => by
    rw [cfl_s]
    split
    · split
      · decide
      · exact clF_8 pk _
    · exact cfl_8 pk k
theorem cfl_up {pk : List Int32} {k : Nat} (h : cfl pk k ≠ 0) : ∀ j, k ≤ j → cfl pk j = cfl pk k := by
  intro j hj
  induction hj with
  | refl => rfl
  | step h2 ih =>
    rw [cfl_s, if_neg (by rw [ih]; exact h), ih]
theorem cfl_0 {pk : List Int32} : ∀ {k : Nat}, cfl pk k = 0 → ∀ i, i < k → clF pk (sCl pk i) = 0
  | 0, _, i, hi => by omega
  | k + 1, h, i, hi => by
    have hk : cfl pk k = 0 := by
      by_cases hc : cfl pk k = 0
      · exact hc
      · have := cfl_up hc (k + 1) (by omega)
        omega
    by_cases hik : i = k
    · subst hik
      rw [cfl_s, if_pos hk] at h
      split at h
      · omega
      · exact h
    · exact cfl_0 hk i (by omega)
/-- the neighbours of point k among those ahead of it -/
def LH (X : Nat → Nat) (k lo hi : Nat) : Prop := lo < k ∧ hi < k ∧ X lo < X k ∧ X k < X hi ∧ (∀ i, i < k → X i < X k → X i ≤ X lo) ∧ ∀ i, i < k → X k < X i → X hi ≤ X i
def cPt (μ : xm_M) (pk : List Int32) (P : Nat) : Prop := μ.1 9 3 = nI P ∧ (∀ k, k < P → μ.1 10 k = nI (sX pk k)) ∧ (∀ k, 2 ≤ k → k < P → ∃ lo hi, μ.1 11 k = nI lo ∧ μ.1 12 k = nI hi ∧ LH (sX pk) k lo hi) ∧ ∀ x, x ≤ 16 → (∃ k, k < P ∧ sX pk k = x ∧ μ.1 13 x = nI k) ∨ ((∀ k, k < P → sX pk k ≠ x) ∧ μ.1 13 x = -1)
def cS (μ : xm_M) (pk : List Int32) : Prop := μ.1 9 0 = nI (sC pk) ∧ μ.1 9 1 = nI (sMu pk) ∧ μ.1 9 2 = nI (sLe pk) ∧ cPt μ pk (sPn pk + 2) ∧ μ.1 9 10 = nI (sPb pk) ∧ μ.1 9 11 = nI (sSz pk) ∧ μ.1 9 12 = nI (sCn pk) ∧ μ.1 9 13 = nI (sCb pk) ∧ (∀ k, k < sCn pk → μ.1 14 k = nI (sCl pk k)) ∧ ∀ j, j < sBn pk → cB μ (16 + 5 * j) pk (bp pk j)
def mS (μ : xm_M) (pk : List Int32) : Prop := μ.1 75 31 = nI (sC pk) ∧ μ.1 75 32 = nI (sMu pk) ∧ μ.1 75 38 = nI (sLe pk) ∧ μ.1 75 33 = nI (sPn pk) ∧ (∀ k, k < sPn pk + 2 → μ.1 94 k = nI (sX pk k)) ∧ μ.1 75 34 = nI (sPb pk) ∧ μ.1 75 35 = nI (sSz pk) ∧ μ.1 75 36 = nI (sCn pk) ∧ μ.1 75 37 = nI (sCb pk) ∧ (∀ k, k < sCn pk → μ.1 95 k = if sCl pk k < 8 then nI (sCl pk k) else -1) ∧ ∀ j, j < sBn pk → mB μ j pk (bp pk j)
def sOK (pk : List Int32) : Prop := sPb pk < sBn pk ∧ sCb pk < sBn pk ∧ (∀ i, i < sPn pk → okX pk (i + 2)) ∧ (∀ k, k < sCn pk → clF pk (sCl pk k) = 0)
theorem sF_0 {pk : List Int32} (h : sF pk = 0) : sOK pk := by
  unfold sF at h
  split at h
  · omega
  split at h
  · split at h
    · omega
    split at h
    · split at h
      · rename_i h1 h2 h3 h4 h5
        split at h
        · rename_i h6
          have a1 : sPb pk < sBn pk ∧ pfl pk (sPn pk) = 0 := by
            unfold pF at h5
            split at h5
            · omega
            · split at h5
              · omega
              · exact ⟨by omega, h5⟩
          have a2 : sCb pk < sBn pk ∧ cfl pk (sCn pk) = 0 := by
            unfold cF at h6
            split at h6
            · omega
            · split at h6
              · omega
              · exact ⟨by omega, h6⟩
          exact ⟨a1.1, a2.1, pfl_0 a1.2, cfl_0 a2.2⟩
        · omega
      · omega
    · omega
  · omega
theorem sF_8 (pk : List Int32) : sF pk < 8 := by
  have h1 := bfl_8 pk (sBn pk)
  have h2 : pF pk < 8 := by
    unfold pF
    split
    · decide
    · split
      · decide
      · exact pfl_8 pk _
  have h3 : cF pk < 8 := by
    unfold cF
    split
    · decide
    · split
      · decide
      · exact cfl_8 pk _
  have h4 : lF pk < 8 := by
    unfold lF
    split
    · split <;> decide
    · decide
  unfold sF
  split
  · decide
  split
  · split
    · decide
    · split
      · split
        · split <;> assumption
        · assumption
      · assumption
  · decide
