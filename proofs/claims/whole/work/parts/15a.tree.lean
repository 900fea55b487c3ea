/-! ===== code words: the free parts of the tree, the words given, who owns a place of 32768 ===== -/
def yy (x i : Nat) : Nat := x / 2 ^ (15 - i)
theorem yy_up {x i j : Nat} (h : i ≤ j) (hj : j ≤ 15) : yy x i = yy x j / 2 ^ (j - i) := by
  unfold yy
  rw [Nat.div_div_eq_div_mul, ← Nat.pow_add, show 15 - j + (j - i) = 15 - i by omega]
theorem yy_s {x i : Nat} (h : i < 15) : yy x (i + 1) = 2 * yy x i ∨ yy x (i + 1) = 2 * yy x i + 1 := by
  have := yy_up (x := x) (show i ≤ i + 1 by omega) (by omega)
  rw [show i + 1 - i = 1 by omega] at this
  omega
theorem yy_lt {x i : Nat} (hx : x < 32768) (hi : i ≤ 15) : yy x i < 2 ^ i := by
  unfold yy
  rw [Nat.div_lt_iff_lt_mul (Nat.pos_of_ne_zero (by simp)), ← Nat.pow_add, show i + (15 - i) = 15 by omega]
  exact hx
abbrev TSt : Type := (Nat → Option Nat) × (Nat → Nat) × Nat × Nat
def fpart (fs : Nat → Option Nat) : Nat → Option Nat
  | 0 => if (fs 0).isSome = true then some 0 else none
  | L + 1 => if (fs (L + 1)).isSome = true then some (L + 1) else fpart fs L
theorem fpart_some {fs : Nat → Option Nat} : ∀ {L p : Nat}, fpart fs L = some p → p ≤ L ∧ (∃ w, fs p = some w) ∧ ∀ i, p < i → i ≤ L → fs i = none
  | 0, p, h => by
    unfold fpart at h
    split at h
    · rename_i hs
      cases h
      exact ⟨Nat.le_refl _, Option.isSome_iff_exists.mp hs, fun i h1 h2 => by omega⟩
    · cases h
  | L + 1, p, h => by
    unfold fpart at h
    split at h
    · rename_i hs
      cases h
      exact ⟨Nat.le_refl _, Option.isSome_iff_exists.mp hs, fun i h1 h2 => by omega⟩
    · rename_i hs
      obtain ⟨h1, h2, h3⟩ := fpart_some h
      refine ⟨by omega, h2, fun i hi1 hi2 => ?_⟩
      by_cases hi : i = L + 1
      · subst hi
        cases hf : fs (L + 1) with
        | none => rfl
        | some w => rw [hf] at hs; exact absurd rfl hs
      · exact h3 i hi1 (by omega)
theorem fpart_none {fs : Nat → Option Nat} : ∀ {L : Nat}, fpart fs L = none → ∀ i, i ≤ L → fs i = none
  | 0, h, i, hi => by
    unfold fpart at h
    split at h
    · cases h
    · rename_i hs
      have : i = 0 := by omega
      subst this
      cases hf : fs 0 with
      | none => rfl
      | some w => rw [hf] at hs; exact absurd rfl hs
  | L + 1, h, i, hi => by
    unfold fpart at h
    split at h
    · cases h
    · rename_i hs
      by_cases h1 : i = L + 1
      · subst h1
        cases hf : fs (L + 1) with
        | none => rfl
        | some w => rw [hf] at hs; exact absurd rfl hs
      · exact fpart_none h i (by omega)
def ftake (fs : Nat → Option Nat) (p w L : Nat) : Nat → Option Nat := fun i => if i = p then none else if p < i ∧ i ≤ L then some (w * 2 ^ (i - p) + 1) else fs i
def wup (W : Nat → Nat) (k v : Nat) : Nat → Nat := fun j => if j = k then v else W j
/-- the words given to the first entries: free parts, words, forks, how many -/
def GT (ln : Nat → Nat) : Nat → Option TSt
  | 0 => some (fun i => if i = 0 then some 0 else none, fun _ => 0, 1, 0)
  | k + 1 => match GT ln k with
    | none => none
    | some s => if ln k = 0 then some s else match fpart s.1 (ln k) with
      | none => none
      | some p => some (ftake s.1 p ((s.1 p).getD 0) (ln k), wup s.2.1 k ((s.1 p).getD 0 * 2 ^ (ln k - p)), s.2.2.1 + (if s.2.2.2 = 0 then ln k - 1 else ln k - p), s.2.2.2 + 1)
def frX (fs : Nat → Option Nat) (x : Nat) : Prop := ∃ i w, fs i = some w ∧ yy x i = w
def usX (ln W : Nat → Nat) (k x e : Nat) : Prop := e < k ∧ ln e ≠ 0 ∧ yy x (ln e) = W e
def RI (ln : Nat → Nat) (k : Nat) (s : TSt) : Prop :=
  (∀ i w, s.1 i = some w → i ≤ 15 ∧ w < 2 ^ i) ∧
  (∀ i j w v, i < j → s.1 i = some w → s.1 j = some v → (v + 1) * 2 ^ (15 - j) ≤ w * 2 ^ (15 - i)) ∧
  (∀ e, e < k → ln e ≠ 0 → s.2.1 e < 2 ^ ln e) ∧
  (∀ x, x < 32768 → frX s.1 x ∨ ∃ e, usX ln s.2.1 k x e) ∧
  (∀ x e, x < 32768 → frX s.1 x → ¬ usX ln s.2.1 k x e) ∧
  (∀ x e e', x < 32768 → usX ln s.2.1 k x e → usX ln s.2.1 k x e' → e = e')
/-- a part of the tree: its first word of a longer length, and what is left -/
theorem ysplit {x p w : Nat} (L : Nat) (hp : p ≤ L) (hL : L ≤ 15) : yy x p = w ↔ (yy x L = w * 2 ^ (L - p) ∨ ∃ i, p < i ∧ i ≤ L ∧ yy x i = w * 2 ^ (i - p) + 1) := by
  induction hp with
  | refl => simp; omega
  | @step L hp ih =>
    have hp' : p ≤ L := hp
    have ih := ih (by omega)
    have hs := yy_s (x := x) (i := L) (by omega)
    have hpw : 2 ^ (L + 1 - p) = 2 * 2 ^ (L - p) := by rw [show L + 1 - p = (L - p) + 1 by omega, Nat.pow_succ]; omega
    have hpw2 : w * 2 ^ (L + 1 - p) = 2 * (w * 2 ^ (L - p)) := by rw [hpw, ← Nat.mul_assoc, Nat.mul_comm w 2, Nat.mul_assoc]
    rw [ih]
    constructor
    · rintro (h | ⟨i, h1, h2, h3⟩)
      · rcases hs with hs | hs
        · left
          show yy x (L + 1) = _
          rw [hpw2, hs, h]
        · right
          exact ⟨L + 1, by omega, Nat.le_refl _, by rw [hpw2, hs, h]⟩
      · right
        exact ⟨i, h1, by omega, h3⟩
    · rintro (h | ⟨i, h1, h2, h3⟩)
      · left
        have h : yy x (L + 1) = w * 2 ^ (L + 1 - p) := h
        rw [hpw2] at h
        omega
      · by_cases hi : i = L + 1
        · subst hi
          left
          rw [hpw2] at h3
          omega
        · right
          exact ⟨i, h1, by omega, h3⟩
/-- the parts that are left are apart from the word and from one another -/
theorem yapart1 {x p w i L : Nat} (h1 : p < i) (h2 : i ≤ L) (hL : L ≤ 15) (ha : yy x i = w * 2 ^ (i - p) + 1) : yy x L ≠ w * 2 ^ (L - p) := by
  intro hb
  rw [yy_up h2 hL, hb, show L - p = (i - p) + (L - i) by omega, Nat.pow_add, ← Nat.mul_assoc, Nat.mul_div_cancel _ (Nat.pos_of_ne_zero (by simp))] at ha
  omega
theorem yapart2 {x p w i j : Nat} (h1 : p < i) (h2 : i < j) (hj : j ≤ 15) (ha : yy x i = w * 2 ^ (i - p) + 1) : yy x j ≠ w * 2 ^ (j - p) + 1 := by
  intro hb
  have hp : 2 ≤ 2 ^ (j - i) := by
    have : 2 ^ 1 ≤ 2 ^ (j - i) := Nat.pow_le_pow_right (by decide) (by omega)
    omega
  rw [yy_up (Nat.le_of_lt h2) hj, hb, show j - p = (i - p) + (j - i) by omega, Nat.pow_add, ← Nat.mul_assoc, Nat.mul_comm (w * 2 ^ (i - p)) (2 ^ (j - i)), Nat.mul_add_div (by omega), Nat.div_eq_of_lt (by omega)] at ha
  omega
/-- a place within a part -/
theorem yy_in {x i w : Nat} : yy x i = w ↔ w * 2 ^ (15 - i) ≤ x ∧ x < (w + 1) * 2 ^ (15 - i) := by
  unfold yy
  rw [Nat.div_eq_iff (Nat.pos_of_ne_zero (by simp))]
  rw [Nat.add_mul, Nat.one_mul]
  have : 0 < 2 ^ (15 - i) := Nat.pos_of_ne_zero (by simp)
  omega
theorem RI0 (ln : Nat → Nat) : RI ln 0 (fun i => if i = 0 then some 0 else none, fun _ => 0, 1, 0) := by
  refine ⟨?_, ?_, ?_, ?_, ?_, ?_⟩
  · intro i w h
    simp only at h
    split at h
    · rename_i hi
      cases h
      subst hi
      exact ⟨by decide, by decide⟩
    · cases h
  · intro i j w v hij h1 h2
    simp only at h1 h2
    split at h2
    · omega
    · cases h2
  · intro e he; omega
  · intro x hx
    left
    refine ⟨0, 0, rfl, ?_⟩
    unfold yy
    exact Nat.div_eq_of_lt hx
  · intro x e hx _ h; exact absurd h.1 (Nat.not_lt_zero _)
  · intro x e e' hx h; exact absurd h.1 (Nat.not_lt_zero _)
theorem RI_skip {ln : Nat → Nat} {k : Nat} {s : TSt} (h : RI ln k s) (h0 : ln k = 0) : RI ln (k + 1) s := by
  obtain ⟨r1, r2, r3, r4, r5, r6⟩ := h
  have hu : ∀ x e, usX ln s.2.1 (k + 1) x e ↔ usX ln s.2.1 k x e := by
    intro x e
    unfold usX
    constructor
    · rintro ⟨h1, h2, h3⟩
      refine ⟨?_, h2, h3⟩
      by_cases he : e = k
      · subst he; exact absurd h0 h2
      · omega
    · rintro ⟨h1, h2, h3⟩
      exact ⟨by omega, h2, h3⟩
  refine ⟨r1, r2, ?_, ?_, ?_, ?_⟩
  · intro e he hl
    refine r3 e ?_ hl
    by_cases h : e = k
    · subst h; exact absurd h0 hl
    · omega
  · intro x hx
    rcases r4 x hx with h | ⟨e, h⟩
    · exact Or.inl h
    · exact Or.inr ⟨e, (hu x e).mpr h⟩
  · intro x e hx h1 h2; exact r5 x e hx h1 ((hu x e).mp h2)
  · intro x e e' hx h1 h2; exact r6 x e e' hx ((hu x e).mp h1) ((hu x e').mp h2)
theorem RI_take {ln : Nat → Nat} {k : Nat} {s : TSt} {p w F : Nat} (h : RI ln k s) (h0 : ln k ≠ 0) (hL : ln k ≤ 15) (hp : fpart s.1 (ln k) = some p) (hw : s.1 p = some w) : RI ln (k + 1) (ftake s.1 p w (ln k), wup s.2.1 k (w * 2 ^ (ln k - p)), F, s.2.2.2 + 1) := by
  obtain ⟨r1, r2, r3, r4, r5, r6⟩ := h
  obtain ⟨p1, -, p3⟩ := fpart_some hp
  have hwl := (r1 p w hw).2
  -- who owns a place now
  have hfr : ∀ x, frX (ftake s.1 p w (ln k)) x ↔ ((∃ i, p < i ∧ i ≤ ln k ∧ yy x i = w * 2 ^ (i - p) + 1) ∨ ∃ i v, i ≠ p ∧ s.1 i = some v ∧ yy x i = v) := by
    intro x
    unfold frX ftake
    constructor
    · rintro ⟨i, v, h1, h2⟩
      by_cases hi : i = p
      · rw [if_pos hi] at h1; cases h1
      · rw [if_neg hi] at h1
        split at h1
        · rename_i h3
          cases h1
          exact Or.inl ⟨i, h3.1, h3.2, h2⟩
        · exact Or.inr ⟨i, v, hi, h1, h2⟩
    · rintro (⟨i, h1, h2, h3⟩ | ⟨i, v, h1, h2, h3⟩)
      · exact ⟨i, _, by rw [if_neg (by omega), if_pos ⟨h1, h2⟩], h3⟩
      · refine ⟨i, v, ?_, h3⟩
        rw [if_neg h1, if_neg, h2]
        intro h4
        rw [p3 i h4.1 h4.2] at h2
        cases h2
  have hus : ∀ x e, usX ln (wup s.2.1 k (w * 2 ^ (ln k - p))) (k + 1) x e ↔ (usX ln s.2.1 k x e ∨ (e = k ∧ yy x (ln k) = w * 2 ^ (ln k - p))) := by
    intro x e
    unfold usX wup
    constructor
    · rintro ⟨h1, h2, h3⟩
      by_cases he : e = k
      · subst he
        rw [if_pos rfl] at h3
        exact Or.inr ⟨rfl, h3⟩
      · rw [if_neg he] at h3
        exact Or.inl ⟨by omega, h2, h3⟩
    · rintro (⟨h1, h2, h3⟩ | ⟨rfl, h3⟩)
      · exact ⟨by omega, h2, by rw [if_neg (by omega)]; exact h3⟩
      · exact ⟨by omega, h0, by rw [if_pos rfl]; exact h3⟩
  have hsp : ∀ x, yy x p = w ↔ _ := fun x => ysplit (x := x) (p := p) (w := w) (ln k) p1 hL
  -- a place in the part p is in no other free part
  have only : ∀ x i v, x < 32768 → yy x p = w → s.1 i = some v → yy x i = v → i = p := by
    intro x i v hx h1 h2 h3
    rw [yy_in] at h1 h3
    rcases Nat.lt_trichotomy i p with h | h | h
    · have := r2 i p v w h h2 hw
      omega
    · exact h
    · have := r2 p i w v h hw h2
      omega
  refine ⟨?_, ?_, ?_, ?_, ?_, ?_⟩
  · intro i v h
    simp only [ftake] at h
    split at h
    · cases h
    · split at h
      · rename_i h3
        cases h
        refine ⟨by omega, ?_⟩
        have h5 : (w + 1) * 2 ^ (i - p) ≤ 2 ^ p * 2 ^ (i - p) := Nat.mul_le_mul_right _ hwl
        rw [← Nat.pow_add, show p + (i - p) = i by omega, Nat.add_mul, Nat.one_mul] at h5
        have : 2 ^ 1 ≤ 2 ^ (i - p) := Nat.pow_le_pow_right (by decide) (by omega)
        omega
      · exact r1 i v h
  · -- the order
    have bl : ∀ i, p < i → i ≤ 15 → w * 2 ^ (15 - p) = w * 2 ^ (i - p) * 2 ^ (15 - i) ∧ (w * 2 ^ (i - p) + 1 + 1) * 2 ^ (15 - i) ≤ (w + 1) * 2 ^ (15 - p) ∧ 2 * 2 ^ (15 - i) ≤ 2 ^ (15 - p) := by
      intro i hi hi2
      have e1 : 2 ^ (15 - p) = 2 ^ (i - p) * 2 ^ (15 - i) := by rw [← Nat.pow_add, show i - p + (15 - i) = 15 - p by omega]
      have e2 : 2 * 2 ^ (15 - i) ≤ 2 ^ (15 - p) := by
        have : 2 ^ (15 - i + 1) ≤ 2 ^ (15 - p) := Nat.pow_le_pow_right (by decide) (by omega)
        rw [Nat.pow_succ] at this
        omega
      refine ⟨by rw [e1, Nat.mul_assoc], ?_, e2⟩
      have e3 : (w + 1) * 2 ^ (15 - p) = w * 2 ^ (15 - p) + 2 ^ (15 - p) := by rw [Nat.add_mul, Nat.one_mul]
      have e4 : (w * 2 ^ (i - p) + 1 + 1) * 2 ^ (15 - i) = w * 2 ^ (15 - p) + 2 * 2 ^ (15 - i) := by rw [Nat.add_assoc, Nat.add_mul, Nat.mul_assoc, ← e1]
      omega
    intro i j v u hij h1 h2
    simp only [ftake] at h1 h2
    split at h1
    · cases h1
    · rename_i hip
      split at h2
      · cases h2
      · rename_i hjp
        split at h1
        · rename_i hi
          cases h1
          obtain ⟨b1, b2, b3⟩ := bl i hi.1 (by omega)
          split at h2
          · rename_i hj
            cases h2
            obtain ⟨c1, c2, c3⟩ := bl j hj.1 (by omega)
            have e3 : 2 * 2 ^ (15 - j) ≤ 2 ^ (15 - i) := by
              have : 2 ^ (15 - j + 1) ≤ 2 ^ (15 - i) := Nat.pow_le_pow_right (by decide) (by omega)
              rw [Nat.pow_succ] at this
              omega
            have g1 : (w * 2 ^ (j - p) + 1 + 1) * 2 ^ (15 - j) = w * 2 ^ (15 - p) + 2 * 2 ^ (15 - j) := by
              rw [Nat.add_assoc, Nat.add_mul, ← c1]
            have g2 : (w * 2 ^ (i - p) + 1) * 2 ^ (15 - i) = w * 2 ^ (15 - p) + 2 ^ (15 - i) := by
              rw [Nat.add_mul, ← b1, Nat.one_mul]
            omega
          · have := r2 p j w u (by omega) hw h2
            have g2 : (w * 2 ^ (i - p) + 1) * 2 ^ (15 - i) = w * 2 ^ (15 - p) + 2 ^ (15 - i) := by
              rw [Nat.add_mul, ← b1, Nat.one_mul]
            omega
        · rename_i hi
          split at h2
          · rename_i hj
            cases h2
            obtain ⟨c1, c2, c3⟩ := bl j hj.1 (by omega)
            by_cases hip2 : i < p
            · have := r2 i p v w hip2 h1 hw
              omega
            · have : s.1 i = none := p3 i (by omega) (by omega)
              rw [this] at h1
              cases h1
          · exact r2 i j v u hij h1 h2
  · intro e he hl
    simp only [wup]
    split
    · rename_i h
      subst h
      have h5 : w * 2 ^ (ln e - p) < 2 ^ p * 2 ^ (ln e - p) := Nat.mul_lt_mul_of_pos_right hwl (Nat.pos_of_ne_zero (by simp))
      rw [← Nat.pow_add, show p + (ln e - p) = ln e by omega] at h5
      exact h5
    · exact r3 e (by omega) hl
  · intro x hx
    rw [hfr]
    rcases r4 x hx with ⟨i, v, h1, h2⟩ | ⟨e, h⟩
    · by_cases hi : i = p
      · subst hi
        rw [hw] at h1
        cases h1
        rcases (hsp x).mp h2 with h | h
        · exact Or.inr ⟨k, (hus x k).mpr (Or.inr ⟨rfl, h⟩)⟩
        · exact Or.inl (Or.inl h)
      · exact Or.inl (Or.inr ⟨i, v, hi, h1, h2⟩)
    · exact Or.inr ⟨e, (hus x e).mpr (Or.inl h)⟩
  · intro x e hx h1 h2
    rw [hfr] at h1
    rw [hus] at h2
    rcases h1 with ⟨i, h3, h4, h5⟩ | ⟨i, v, h3, h4, h5⟩
    · have hin : yy x p = w := (hsp x).mpr (Or.inr ⟨i, h3, h4, h5⟩)
      rcases h2 with h2 | ⟨-, h2⟩
      · exact r5 x e hx ⟨p, w, hw, hin⟩ h2
      · exact yapart1 h3 h4 hL h5 h2
    · rcases h2 with h2 | ⟨-, h2⟩
      · exact r5 x e hx ⟨i, v, h4, h5⟩ h2
      · exact h3 (only x i v hx ((hsp x).mpr (Or.inl h2)) h4 h5)
  · intro x e e' hx h1 h2
    rw [hus] at h1 h2
    rcases h1 with h1 | ⟨rfl, h1⟩ <;> rcases h2 with h2 | ⟨rfl, h2⟩
    · exact r6 x e e' hx h1 h2
    · exact absurd h1 (r5 x e hx ⟨p, w, hw, (hsp x).mpr (Or.inl h2)⟩)
    · exact absurd h2 (r5 x e' hx ⟨p, w, hw, (hsp x).mpr (Or.inl h1)⟩)
    · rfl
