/-! ===== the class's free words ===== -/
def ofr (o : Option Nat) : Int32 := match o with
  | none => -1
  | some w => nI w
theorem ofr_none {o : Option Nat} (hb : ∀ w, o = some w → w < 2 ^ 31) : ofr o = -1 ↔ o = none := by
  cases o with
  | none => exact ⟨fun _ => rfl, fun _ => rfl⟩
  | some w =>
    refine ⟨fun h => ?_, fun h => by cases h⟩
    have h : nI w = -1 := h
    exact absurd (n0' (hb w rfl)) (by rw [h]; decide)
def fsR (f : Nat → Int32) (fs : Nat → Option Nat) : Prop := ∀ i, i < 16 → f i = ofr (fs i)
theorem ftake_p {fs : Nat → Option Nat} {p w : Nat} : ftake fs p w p = fun i => if i = p then none else fs i := by
  funext i
  unfold ftake
  split
  · rfl
  · rw [if_neg (by omega)]
theorem ftake_s {fs : Nat → Option Nat} {p w L : Nat} (hp : p ≤ L) : ftake fs p w (L + 1) = fun i => if i = L + 1 then some (w * 2 ^ (L + 1 - p) + 1) else ftake fs p w L i := by
  funext i
  unfold ftake
  by_cases h1 : i = L + 1
  · subst h1
    rw [if_neg (by omega), if_pos (by omega), if_pos rfl]
  · rw [if_neg h1]
    split
    · rfl
    · by_cases h2 : p < i ∧ i ≤ L
      · rw [if_pos h2, if_pos (by omega)]
      · rw [if_neg h2, if_neg (by omega)]
theorem or1 {n : Nat} (h : n * 2 < 2 ^ 31) : nI (n * 2 ^ 1) ||| nI 1 = nI (n * 2 + 1) := by
  apply Int32.toBitVec_inj.mp
  rw [Int32.toBitVec_or]
  apply BitVec.eq_of_toNat_eq
  rw [BitVec.toNat_or, nI_toNat (by omega), nI_toNat (by decide), nI_toNat (by omega), show n * 2 ^ 1 = 2 ^ 1 * n by omega, ← Nat.two_pow_add_eq_or_of_lt (show 1 < 2 ^ 1 by decide)]
theorem c_takeLeastWord {b : Bool} {μ : xm_M} {B L : Nat} {fs : Nat → Option Nat} (hB : xs_bk B) (h1 : 1 ≤ L) (hL : L ≤ 15) (hw : ∀ i w, fs i = some w → i ≤ 15 ∧ w < 2 ^ i) (hf : fsR (μ.1 (B + 4)) fs) : xCi b b k_X1_takeLeastWord μ [.ref B, .int (nI L)] (fun r μ' => (fpart fs L = none ∧ r = -1 ∧ μ' = μ) ∨ ∃ p w f, fpart fs L = some p ∧ fs p = some w ∧ r = nI (w * 2 ^ (L - p)) ∧ μ' = xu_I μ (B + 4) f ∧ fsR f (ftake fs p w L)) := by
  have hwb : ∀ i w, fs i = some w → w < 2 ^ 31 := by
    intro i w h
    obtain ⟨a1, a2⟩ := hw i w h
    have : 2 ^ i ≤ 2 ^ 15 := Nat.pow_le_pow_right (by decide) a1
    omega
  -- the word is found in part p
  have give : ∀ (p w : Nat) (m : xm_M), p ≤ L → fs p = some w → fpart fs L = some p → m = xu_I μ (B + 4) (upd (μ.1 (B + 4)) p (-1)) → hd_X1_takeLeastWord_75 b (fun r μ' => (fpart fs L = none ∧ r = -1 ∧ μ' = μ) ∨ ∃ p w f, fpart fs L = some p ∧ fs p = some w ∧ r = nI (w * 2 ^ (L - p)) ∧ μ' = xu_I μ (B + 4) f ∧ fsR f (ftake fs p w L)) B (nI L) (nI w) (nI (p + 1)) m := by
    intro p w m hpL hp hfp hm
    have hwl := (hw p w hp).2
    have loop : ∀ (d i : Nat) (f : Nat → Int32) (m : xm_M), i + d = L → p ≤ i → m = xu_I μ (B + 4) f → fsR f (ftake fs p w i) → hd_X1_takeLeastWord_75 b (fun r μ' => (fpart fs L = none ∧ r = -1 ∧ μ' = μ) ∨ ∃ p w f, fpart fs L = some p ∧ fs p = some w ∧ r = nI (w * 2 ^ (L - p)) ∧ μ' = xu_I μ (B + 4) f ∧ fsR f (ftake fs p w L)) B (nI L) (nI (w * 2 ^ (i - p))) (nI (i + 1)) m := by
      intro d
      induction d with
      | zero =>
        intro i f m hi hpi hm hfr
        have : i = L := by omega
        subst this
        refine l_X1_takeLeastWord_75 _ _ _ hB ?_
        exact ⟨fun _ => Or.inr ⟨p, w, f, hfp, hp, rfl, hm, hfr⟩, fun c => absurd (nI_lt (by omega) (by omega)) c⟩
      | succ d ih =>
        intro i f m hi hpi hm hfr
        have hb1 : w * 2 ^ (i - p) < 2 ^ 15 := by
          have h5 : w * 2 ^ (i - p) < 2 ^ p * 2 ^ (i - p) := Nat.mul_lt_mul_of_pos_right hwl (p2pos _)
          rw [← Nat.pow_add, show p + (i - p) = i by omega] at h5
          have : 2 ^ i ≤ 2 ^ 15 := Nat.pow_le_pow_right (by decide) (by omega)
          omega
        have hpw : w * 2 ^ (i + 1 - p) = w * 2 ^ (i - p) * 2 := by rw [show i + 1 - p = (i - p) + 1 by omega, Nat.pow_succ, Nat.mul_assoc]
        refine l_X1_takeLeastWord_75 _ _ _ hB ?_
        refine ⟨fun c => ?_, fun _ x2 e2 => ⟨vin (by omega) (by decide), fun m4 e4 x5 e5 => ?_⟩⟩
        · rw [nI_ltI (by omega) (by omega)] at c
          omega
        rw [pk_shlN (nI 1 &&& 31) 1 (by decide +kernel) (by omega)] at e2
        rw [e2, or1 (by omega), cl (by omega), hm, xu_II, ri_e] at e4
        rw [e2, e5, nI_add]
        have := ih (i + 1) (upd f (i + 1) (nI (w * 2 ^ (i - p) * 2 + 1))) m4 (by omega) (by omega) e4 ?_
        · rw [hpw] at this
          exact this
        · rw [ftake_s hpi]
          intro j hj
          show _ = ofr (if j = i + 1 then _ else _)
          by_cases hji : j = i + 1
          · subst hji
            rw [upd_e, if_pos rfl, hpw]
            rfl
          · rw [upd_n hji, if_neg hji]
            exact hfr j hj
    have := loop (L - p) p (upd (μ.1 (B + 4)) p (-1)) m (by omega) (Nat.le_refl _) hm ?_
    · rw [Nat.sub_self, Nat.pow_zero, Nat.mul_one] at this
      exact this
    · rw [ftake_p]
      intro j hj
      show _ = ofr (if j = p then _ else _)
      by_cases hji : j = p
      · subst hji
        rw [upd_e, if_pos rfl]
        rfl
      · rw [upd_n hji, if_neg hji]
        exact hf j hj
  have loop : ∀ p, p ≤ L → fpart fs L = fpart fs p → hd_X1_takeLeastWord_2 b (fun r μ' => (fpart fs L = none ∧ r = -1 ∧ μ' = μ) ∨ ∃ p w f, fpart fs L = some p ∧ fs p = some w ∧ r = nI (w * 2 ^ (L - p)) ∧ μ' = xu_I μ (B + 4) f ∧ fsR f (ftake fs p w L)) B (nI L) (nI p) μ := by
    intro p
    induction p with
    | zero =>
      intro hp he
      have h0 := hf 0 (by decide)
      refine l_X1_takeLeastWord_2 _ _ hB ?_
      refine ⟨fun _ => ⟨fun c => absurd c (n0 (by decide)), fun _ => ⟨fun c => ?_, fun _ => ⟨vin (by decide) (by decide), ?_⟩⟩⟩, fun c => absurd (by decide) c⟩
      · rw [nI_leI (by decide) (by omega)] at c
        omega
      rw [cl (show 0 < 2 ^ 31 by decide), h0]
      refine ⟨fun c => ⟨vin (by decide) (by decide), vin (by decide) (by decide), fun m8 e8' x9 e9 => ?_⟩, fun c => ?_⟩
      · cases hz : fs 0 with
        | none => rw [hz] at c; exact absurd rfl c
        | some w =>
          have hfp : fpart fs L = some 0 := by rw [he]; unfold fpart; rw [hz]; rfl
          rw [e9, nI_add]
          exact give 0 w m8 (by omega) hz hfp e8'
      · have hz : fs 0 = none := (ofr_none (hwb 0)).mp c
        refine Or.inl ⟨?_, rfl, rfl⟩
        rw [he]
        unfold fpart
        rw [hz]
        rfl
    | succ p ih =>
      intro hp he
      have h0 := hf (p + 1) (by omega)
      refine l_X1_takeLeastWord_2 _ _ hB ?_
      refine ⟨fun c => absurd c (nI_nle (by omega) (by omega)), fun _ => ⟨fun c => ?_, fun _ => ⟨vin (by omega) (by decide), ?_⟩⟩⟩
      · rw [nI_leI (by decide) (by omega)] at c
        omega
      rw [cl (show p + 1 < 2 ^ 31 by omega), h0]
      refine ⟨fun c => ⟨fun c2 => absurd c2 (n0 (by omega)), fun _ => ⟨fun c2 => ?_, fun _ => ⟨vin (by omega) (by decide), fun _ => ⟨vin (by omega) (by decide), vin (by omega) (by decide), fun m27 e27 x28 e28 => ?_⟩, fun c2 => absurd c2 c⟩⟩⟩, fun c x29 e29 => ?_⟩
      · rw [nI_leI (by decide) (by omega)] at c2
        omega
      · cases hz : fs (p + 1) with
        | none => rw [hz] at c; exact absurd rfl c
        | some w =>
          have hfp : fpart fs L = some (p + 1) := by rw [he]; unfold fpart; rw [hz]; rfl
          rw [e28, nI_add]
          exact give (p + 1) w m27 (by omega) hz hfp e27
      · have hz : fs (p + 1) = none := (ofr_none (hwb (p + 1))).mp c
        rw [e29, pk_m1]
        refine ih (by omega) ?_
        rw [he]
        show (if _ then _ else _) = _
        rw [hz]
        rfl
  refine g_X1_takeLeastWord _ hB ?_
  exact loop L (Nat.le_refl _) rfl
theorem c_nothingIsFree {b : Bool} {μ : xm_M} {B : Nat} {fs : Nat → Option Nat} (hB : xs_bk B) (hw : ∀ i w, fs i = some w → i ≤ 15 ∧ w < 2 ^ i) (hf : fsR (μ.1 (B + 4)) fs) : xCi b b k_X1_nothingIsFree μ [.ref B] (fun r μ' => μ' = μ ∧ ((r = nI 1 ∧ ∀ i, i < 16 → fs i = none) ∨ (r = nI 0 ∧ ¬ ∀ i, i < 16 → fs i = none))) := by
  have hwb : ∀ i w, fs i = some w → w < 2 ^ 31 := by
    intro i w h
    obtain ⟨a1, a2⟩ := hw i w h
    have : 2 ^ i ≤ 2 ^ 15 := Nat.pow_le_pow_right (by decide) a1
    omega
  have loop : ∀ (d i : Nat), i + d = 16 → (∀ j, j < i → fs j = none) → hd_X1_nothingIsFree_2 b (fun r μ' => μ' = μ ∧ ((r = nI 1 ∧ ∀ i, i < 16 → fs i = none) ∨ (r = nI 0 ∧ ¬ ∀ i, i < 16 → fs i = none))) B (nI i) μ := by
    intro d
    induction d with
    | zero =>
      intro i hi hn
      have : i = 16 := by omega
      subst this
      refine l_X1_nothingIsFree_2 _ hB ?_
      exact ⟨fun _ => ⟨rfl, Or.inl ⟨rfl, hn⟩⟩, fun c => absurd (nI_le (by decide) (by decide)) c⟩
    | succ d ih =>
      intro i hi hn
      refine l_X1_nothingIsFree_2 _ hB ?_
      refine ⟨fun c => ?_, fun _ => ⟨vin (by omega) (by decide), ?_⟩⟩
      · rw [nI_leI (by decide) (by omega)] at c
        omega
      rw [cl (show i < 2 ^ 31 by omega), hf i (by omega)]
      refine ⟨fun c x4 e4 => ?_, fun c => ⟨rfl, Or.inr ⟨rfl, fun h => c (by rw [h i (by omega)]; rfl)⟩⟩⟩
      rw [e4, nI_add]
      refine ih (i + 1) (by omega) ?_
      intro j hj
      by_cases hji : j = i
      · subst hji
        exact (ofr_none (hwb j)).mp c
      · exact hn j (by omega)
  refine g_X1_nothingIsFree hB ?_
  exact loop 16 0 rfl (fun j hj => absurd hj (Nat.not_lt_zero _))
