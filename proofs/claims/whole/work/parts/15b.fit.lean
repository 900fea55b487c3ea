theorem p2pos (n : Nat) : 0 < 2 ^ n := Nat.pos_of_ne_zero (by simp)
/-- the first word that fits lies in the smallest free part that is large enough -/
theorem ff_key {ln : Nat → Nat} {k : Nat} {s : TSt} (h : RI ln k s) {L q : Nat} (hL : L ≤ 15) (hq : q < 2 ^ L) (hfree : ∀ x, x < 32768 → yy x L = q → frX s.1 x) : ∃ i v, i ≤ L ∧ s.1 i = some v ∧ yy (q * 2 ^ (15 - L)) i = v := by
  obtain ⟨r1, r2, -, -, -, -⟩ := h
  have hM := p2pos (15 - L)
  have hx0 : q * 2 ^ (15 - L) < 32768 := by
    have : (q + 1) * 2 ^ (15 - L) ≤ 2 ^ L * 2 ^ (15 - L) := Nat.mul_le_mul_right _ hq
    rw [← Nat.pow_add, show L + (15 - L) = 15 by omega, Nat.add_mul, Nat.one_mul] at this
    have e : (2 : Nat) ^ 15 = 32768 := rfl
    omega
  have hy0 : yy (q * 2 ^ (15 - L)) L = q := Nat.mul_div_cancel _ hM
  obtain ⟨i, v, hi, hv⟩ := hfree _ hx0 hy0
  by_cases hiL : i ≤ L
  · exact ⟨i, v, hiL, hi, hv⟩
  exfalso
  have hi15 := (r1 i v hi).1
  have hvl := (r1 i v hi).2
  have hP := p2pos (15 - i)
  -- the part begins at the place
  have hdiv : 2 ^ (15 - L) = 2 ^ (i - L) * 2 ^ (15 - i) := by rw [← Nat.pow_add, show i - L + (15 - i) = 15 - L by omega]
  have hbeg : q * 2 ^ (15 - L) = v * 2 ^ (15 - i) := by
    have h1 : yy (q * 2 ^ (15 - L)) i = q * 2 ^ (i - L) := by
      unfold yy
      rw [hdiv, ← Nat.mul_assoc, Nat.mul_div_cancel _ hP]
    rw [h1] at hv
    rw [← hv, hdiv, Nat.mul_assoc]
  have hsm : 2 * 2 ^ (15 - i) ≤ 2 ^ (15 - L) := by
    have : 2 ^ (15 - i + 1) ≤ 2 ^ (15 - L) := Nat.pow_le_pow_right (by decide) (by omega)
    rw [Nat.pow_succ] at this
    omega
  have hx1 : q * 2 ^ (15 - L) + 2 ^ (15 - i) < 32768 := by
    have : (q + 1) * 2 ^ (15 - L) ≤ 2 ^ L * 2 ^ (15 - L) := Nat.mul_le_mul_right _ hq
    rw [← Nat.pow_add, show L + (15 - L) = 15 by omega, Nat.add_mul, Nat.one_mul] at this
    have e : (2 : Nat) ^ 15 = 32768 := rfl
    omega
  have hy1 : yy (q * 2 ^ (15 - L) + 2 ^ (15 - i)) L = q := by
    rw [yy_in, Nat.add_mul, Nat.one_mul]
    omega
  obtain ⟨j, u, hj, hu⟩ := hfree _ hx1 hy1
  rw [yy_in] at hu
  rcases Nat.lt_trichotomy j i with hji | hji | hji
  · have h2 := r2 j i u v hji hj hi
    rw [Nat.add_mul, Nat.one_mul] at h2
    have he : q * 2 ^ (15 - L) + 2 ^ (15 - i) = u * 2 ^ (15 - j) := by omega
    -- both are multiples of a greater power
    have key : ∀ t, t < i → t ≤ 15 → L ≤ t → j ≤ t → False := by
      intro t ht ht15 hLt hjt
      have d1 : 2 ^ (15 - t) ∣ q * 2 ^ (15 - L) := Nat.dvd_trans (Nat.pow_dvd_pow 2 (by omega)) (Nat.dvd_mul_left _ _)
      have d2 : 2 ^ (15 - t) ∣ u * 2 ^ (15 - j) := Nat.dvd_trans (Nat.pow_dvd_pow 2 (by omega)) (Nat.dvd_mul_left _ _)
      rw [← he] at d2
      have d3 : 2 ^ (15 - t) ∣ 2 ^ (15 - i) := (Nat.dvd_add_right d1).mp d2
      have d4 := Nat.le_of_dvd hP d3
      have d5 : 2 ^ (15 - i + 1) ≤ 2 ^ (15 - t) := Nat.pow_le_pow_right (by decide) (by omega)
      rw [Nat.pow_succ] at d5
      omega
    rcases Nat.le_total j L with hjL | hjL
    · exact key L (by omega) (by omega) (Nat.le_refl _) hjL
    · exact key j hji (by omega) hjL (Nat.le_refl _)
  · subst hji
    rw [hi] at hj
    cases hj
    rw [Nat.add_mul, Nat.one_mul] at hu
    omega
  · have h2 := r2 i j v u hji hi hj
    omega
theorem ff_free {ln : Nat → Nat} {k : Nat} {s : TSt} {L p w : Nat} (hL : L ≤ 15) (hp : fpart s.1 L = some p) (hw : s.1 p = some w) {x : Nat} (hx : yy x L = w * 2 ^ (L - p)) : frX s.1 x :=
  ⟨p, w, hw, (ysplit L (fpart_some hp).1 hL).mpr (Or.inl hx)⟩
theorem ff_least {ln : Nat → Nat} {k : Nat} {s : TSt} (h : RI ln k s) {L p w q : Nat} (hL : L ≤ 15) (hp : fpart s.1 L = some p) (hw : s.1 p = some w) (hq : q < 2 ^ L) (hfree : ∀ x, x < 32768 → yy x L = q → frX s.1 x) : w * 2 ^ (L - p) ≤ q := by
  obtain ⟨p1, -, p3⟩ := fpart_some hp
  obtain ⟨i, v, hi, hv, hy⟩ := ff_key h hL hq hfree
  have hM := p2pos (15 - L)
  have hip : i ≤ p := by
    rcases Nat.lt_or_ge p i with h1 | h1
    · rw [p3 i h1 hi] at hv
      cases hv
    · exact h1
  have hd : 2 ^ (15 - p) = 2 ^ (L - p) * 2 ^ (15 - L) := by rw [← Nat.pow_add, show L - p + (15 - L) = 15 - p by omega]
  have key : w * 2 ^ (15 - p) ≤ q * 2 ^ (15 - L) := by
    rw [yy_in] at hy
    by_cases he : i = p
    · subst he
      rw [hw] at hv
      cases hv
      exact hy.1
    · have := h.2.1 i p v w (by omega) hv hw
      rw [Nat.add_mul] at this
      omega
  rw [hd, ← Nat.mul_assoc] at key
  exact Nat.le_of_mul_le_mul_right key hM
theorem ff_none {ln : Nat → Nat} {k : Nat} {s : TSt} (h : RI ln k s) {L q : Nat} (hL : L ≤ 15) (hp : fpart s.1 L = none) (hq : q < 2 ^ L) : ¬ ∀ x, x < 32768 → yy x L = q → frX s.1 x := by
  intro hfree
  obtain ⟨i, v, hi, hv, -⟩ := ff_key h hL hq hfree
  rw [fpart_none hp i hi] at hv
  cases hv
/-- how many parts are free -/
def cf (fs : Nat → Option Nat) : Nat → Nat
  | 0 => 0
  | n + 1 => cf fs n + (if (fs n).isSome = true then 1 else 0)
theorem cf_le (fs : Nat → Option Nat) : ∀ n, cf fs n ≤ n
  | 0 => Nat.le_refl _
  | n + 1 => by
    have := cf_le fs n
    unfold cf
    split <;> omega
theorem cf_zero {fs : Nat → Option Nat} : ∀ n, cf fs n = 0 → ∀ i, i < n → fs i = none
  | 0, _, i, hi => by omega
  | n + 1, h, i, hi => by
    unfold cf at h
    split at h
    · omega
    · rename_i hs
      by_cases hin : i = n
      · subst hin
        cases hf : fs i with
        | none => rfl
        | some w => rw [hf] at hs; exact absurd rfl hs
      · exact cf_zero n (by omega) i (by omega)
theorem cf_none {fs : Nat → Option Nat} : ∀ n, (∀ i, i < n → fs i = none) → cf fs n = 0
  | 0, _ => rfl
  | n + 1, h => by
    unfold cf
    rw [cf_none n (fun i hi => h i (by omega)), h n (by omega)]
    rfl
theorem cf_take {fs : Nat → Option Nat} {p w L : Nat} (hw : fs p = some w) (hp : p ≤ L) (hn : ∀ i, p < i → i ≤ L → fs i = none) : ∀ n, (n ≤ p → cf (ftake fs p w L) n = cf fs n) ∧ (p < n → cf (ftake fs p w L) n + 1 = cf fs n + (min (n - 1) L - p)) := by
  intro n
  induction n with
  | zero => exact ⟨fun _ => rfl, fun h => by omega⟩
  | succ n ih =>
    have he : ∀ g : Nat → Option Nat, cf g (n + 1) = cf g n + (if (g n).isSome = true then 1 else 0) := fun _ => rfl
    rw [he, he]
    refine ⟨fun h => ?_, fun h => ?_⟩
    · rw [ih.1 (by omega)]
      have : ftake fs p w L n = fs n := by
        unfold ftake
        rw [if_neg (by omega), if_neg (by omega)]
      rw [this]
    · by_cases h1 : n = p
      · subst h1
        rw [ih.1 (Nat.le_refl _)]
        have : ftake fs n w L n = none := by unfold ftake; rw [if_pos rfl]
        rw [this, hw]
        simp
        omega
      · have ih2 := ih.2 (by omega)
        by_cases h2 : n ≤ L
        · have : ftake fs p w L n = some (w * 2 ^ (n - p) + 1) := by
            unfold ftake
            rw [if_neg h1, if_pos (by omega)]
          rw [this, hn n (by omega) h2]
          simp
          omega
        · have : ftake fs p w L n = fs n := by
            unfold ftake
            rw [if_neg h1, if_neg (by omega)]
          rw [this]
          omega
/-- what holds of the words given -/
def GI (ln : Nat → Nat) (k : Nat) (s : TSt) : Prop := RI ln k s ∧ s.2.2.2 ≤ k ∧ 1 ≤ s.2.2.1 ∧ (s.2.2.2 = 0 → s.2.2.1 = 1 ∧ s.1 = (fun i => if i = 0 then some 0 else none)) ∧ (s.2.2.2 ≠ 0 → cf s.1 16 + s.2.2.2 = s.2.2.1 + 1) ∧ (s.2.2.2 = 0 → ∀ e, e < k → ln e = 0)
theorem GT_s {ln : Nat → Nat} {k : Nat} {s : TSt} (h : GT ln k = some s) : GT ln (k + 1) = if ln k = 0 then some s else match fpart s.1 (ln k) with
      | none => none
      | some p => some (ftake s.1 p ((s.1 p).getD 0) (ln k), wup s.2.1 k ((s.1 p).getD 0 * 2 ^ (ln k - p)), s.2.2.1 + (if s.2.2.2 = 0 then ln k - 1 else ln k - p), s.2.2.2 + 1) := by
  show (match GT ln k with
    | none => none
    | some s => _) = _
  rw [h] <;> rfl
theorem GT_n {ln : Nat → Nat} {k : Nat} (h : GT ln k = none) : GT ln (k + 1) = none := by
  show (match GT ln k with
    | none => none
    | some s => _) = _
  rw [h]
theorem GT_none {ln : Nat → Nat} {k : Nat} (h : GT ln k = none) : ∀ j, k ≤ j → GT ln j = none := by
  intro j hj
  induction hj with
  | refl => exact h
  | step _ ih => exact GT_n ih
theorem GT_I {ln : Nat → Nat} (hl : ∀ e, ln e ≤ 15) : ∀ (k : Nat) (s : TSt), GT ln k = some s → GI ln k s := by
  intro k
  induction k with
  | zero =>
    intro s h
    cases h
    exact ⟨RI0 ln, Nat.le_refl _, Nat.le_refl _, fun _ => ⟨rfl, rfl⟩, fun h => absurd rfl h, fun _ e he => absurd he (Nat.not_lt_zero _)⟩
  | succ k ih =>
    intro s' h
    cases hk : GT ln k with
    | none => rw [GT_n hk] at h; cases h
    | some s =>
      obtain ⟨i1, i2, i3, i4, i5, i6⟩ := ih s hk
      rw [GT_s hk] at h
      by_cases h0 : ln k = 0
      · rw [if_pos h0] at h
        cases h
        refine ⟨RI_skip i1 h0, by omega, i3, i4, i5, fun hu e he => ?_⟩
        by_cases hek : e = k
        · subst hek; exact h0
        · exact i6 hu e (by omega)
      · rw [if_neg h0] at h
        cases hp : fpart s.1 (ln k) with
        | none => rw [hp] at h; cases h
        | some p =>
          rw [hp] at h
          obtain ⟨p1, ⟨w, hw⟩, p3⟩ := fpart_some hp
          have hg : (s.1 p).getD 0 = w := by rw [hw]; rfl
          simp only [hg] at h
          have h := Option.some.inj h
          subst h
          have hc := (cf_take hw p1 p3 16).2 (by have := (i1.1 p w hw).1; omega)
          rw [show min (16 - 1) (ln k) = ln k by have := hl k; omega] at hc
          refine ⟨RI_take i1 h0 (hl k) hp hw, by show s.2.2.2 + 1 ≤ k + 1; omega, by show 1 ≤ s.2.2.1 + _; omega, fun hu => by simp at hu, fun _ => ?_, fun hu => by simp at hu⟩
          show cf (ftake s.1 p w (ln k)) 16 + (s.2.2.2 + 1) = s.2.2.1 + (if s.2.2.2 = 0 then ln k - 1 else ln k - p) + 1
          by_cases hu : s.2.2.2 = 0
          · rw [if_pos hu]
            obtain ⟨f1, f2⟩ := i4 hu
            have hp0 : p = 0 := by
              rw [f2] at hw
              by_cases hz : p = 0
              · exact hz
              · simp [hz] at hw
            subst hp0
            have hc1 : cf s.1 16 = 1 := by rw [f2]; decide
            omega
          · rw [if_neg hu]
            have := i5 hu
            omega
/-- the lengths make a whole tree -/
def WH (ln : Nat → Nat) (n : Nat) : Prop := ∃ s, GT ln n = some s ∧ ((∀ i, i < 16 → s.1 i = none) ∨ (s.2.2.2 = 1 ∧ ∃ e, e < n ∧ ln e = 1))
/-- forks never become fewer -/
theorem GT_mono {ln : Nat → Nat} : ∀ {k j : Nat}, k ≤ j → ∀ {s s' : TSt}, GT ln k = some s → GT ln j = some s' → s.2.2.1 ≤ s'.2.2.1 ∧ s.2.2.2 ≤ s'.2.2.2 := by
  intro k j hj
  induction hj with
  | refl => intro s s' h1 h2; rw [h1] at h2; cases h2; exact ⟨Nat.le_refl _, Nat.le_refl _⟩
  | @step j hj ih =>
    intro s s' h1 h2
    cases hk : GT ln j with
    | none => rw [GT_n hk] at h2; cases h2
    | some s2 =>
      have i := ih h1 hk
      rw [GT_s hk] at h2
      by_cases h0 : ln j = 0
      · rw [if_pos h0] at h2
        cases h2
        exact i
      · rw [if_neg h0] at h2
        cases hp : fpart s2.1 (ln j) with
        | none => rw [hp] at h2; cases h2
        | some p =>
          rw [hp] at h2
          have h2 := Option.some.inj h2
          subst h2
          refine ⟨?_, ?_⟩
          · show s.2.2.1 ≤ s2.2.2.1 + _
            omega
          · show s.2.2.2 ≤ s2.2.2.2 + 1
            omega
/-- a tree with too many forks is not whole -/
theorem big_not {ln : Nat → Nat} {k n : Nat} {s : TSt} (hl : ∀ e, ln e ≤ 15) (hn : n ≤ 64) (hk : k ≤ n) (hs : GT ln k = some s) (hF : 65 ≤ s.2.2.1) : ¬ WH ln n := by
  rintro ⟨s', h1, h2⟩
  obtain ⟨m1, m2⟩ := GT_mono hk hs h1
  obtain ⟨i1, i2, i3, i4, i5, i6⟩ := GT_I hl n s' h1
  have hu : s'.2.2.2 ≠ 0 := fun h => by have := (i4 h).1; omega
  have h5 := i5 hu
  have hc := cf_le s'.1 16
  rcases h2 with h2 | ⟨h2, -⟩
  · have := cf_none 16 h2
    omega
  · omega
