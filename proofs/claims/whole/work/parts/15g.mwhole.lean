/-! ===== the reference: the lengths make a whole tree ===== -/
theorem noFree {ln : Nat → Nat} {k : Nat} {s : TSt} (hR : RI ln k s) : (∀ i, i < 16 → s.1 i = none) ↔ ∀ x, x < 32768 → ¬ frX s.1 x := by
  constructor
  · intro h x hx hf
    obtain ⟨i, w, h1, h2⟩ := hf
    rw [h i (by have := (hR.1 i w h1).1; omega)] at h1
    cases h1
  · intro h i hi
    cases hs : s.1 i with
    | none => rfl
    | some w =>
      exfalso
      have hwl := (hR.1 i w hs).2
      have hx : w * 2 ^ (15 - i) < 32768 := by
        have : (w + 1) * 2 ^ (15 - i) ≤ 2 ^ i * 2 ^ (15 - i) := Nat.mul_le_mul_right _ hwl
        rw [← Nat.pow_add, show i + (15 - i) = 15 by omega, Nat.add_mul, Nat.one_mul] at this
        have e : (2 : Nat) ^ 15 = 32768 := rfl
        have := p2pos (15 - i)
        omega
      exact h _ hx ⟨i, w, hs, Nat.mul_div_cancel _ (p2pos _)⟩
/-- one word alone -/
theorem GT_one {ln : Nat → Nat} (hl : ∀ e, ln e ≤ 15) {k : Nat} {s : TSt} (hs : GT ln k = some s) (hu : s.2.2.2 = 1) : (∀ e e', e < k → e' < k → ln e ≠ 0 → ln e' ≠ 0 → e = e') ∧ ¬ ∀ i, i < 16 → s.1 i = none := by
  obtain ⟨i1, i2, i3, i4, i5, i6⟩ := GT_I hl k s hs
  refine ⟨fun e e' h1 h2 h3 h4 => ?_, fun h => ?_⟩
  · have w1 := GT_W1 hl k s hs hu e h1 h3
    have w2 := GT_W1 hl k s hs hu e' h2 h4
    exact i1.2.2.2.2.2 0 e e' (by decide) ⟨h1, h3, by rw [w1]; unfold yy; simp⟩ ⟨h2, h4, by rw [w2]; unfold yy; simp⟩
  · have := cf_none 16 h
    have := i5 (by omega)
    omega
theorem WH_one {ln : Nat → Nat} (hl : ∀ e, ln e ≤ 15) {n : Nat} {s : TSt} (hs : GT ln n = some s) (hu : s.2.2.2 = 1) {e : Nat} (he : e < n) (hle : ln e ≠ 0) : WH ln n ↔ ln e = 1 := by
  obtain ⟨o1, o2⟩ := GT_one hl hs hu
  constructor
  · rintro ⟨s', h1, h2⟩
    rw [hs] at h1
    cases h1
    rcases h2 with h2 | ⟨-, e', h3, h4⟩
    · exact absurd h2 o2
    · rw [o1 e e' he h3 hle (by omega)]
      exact h4
  · intro h
    exact ⟨s, hs, Or.inr ⟨hu, e, he, h⟩⟩
/-- what a book's cells of the reference keep -/
def kM (μ μ' : xm_M) (j : Nat) : Prop := (∀ c, c ≠ 85 → c ≠ 92 → μ'.1 c = μ.1 c) ∧ μ'.2.1 = μ.2.1 ∧ (∀ i, i ≠ j → μ'.1 85 i = μ.1 85 i) ∧ ∀ i, i < 32768 * j ∨ 32768 * (j + 1) ≤ i → μ'.1 92 i = μ.1 92 i
theorem c_isWhole {b : Bool} {μ : xm_M} {j n : Nat} {ln : Nat → Nat} (hj : j < 8) (hn : 1 ≤ n ∧ n ≤ 64) (hl : ∀ e, ln e ≤ 15) (hN : μ.1 84 j = nI n) (hln : ∀ e, e < n → μ.1 93 (64 * j + e) = nI (ln e)) : xCi b b k_X9_isWhole μ [.ref 75, .int (nI j)] (fun r μ' => kM μ μ' j ∧ ((r = nI 1 ∧ WH ln n ∧ ∃ s, GT ln n = some s ∧ OW (μ'.1 92) j ln n s ∧ μ'.1 85 j = nI s.2.2.2) ∨ (r = nI 0 ∧ ¬ WH ln n))) := by
  generalize hQ : (fun (r : Int32) (μ' : xm_M) => kM μ μ' j ∧ ((r = nI 1 ∧ WH ln n ∧ ∃ s, GT ln n = some s ∧ OW (μ'.1 92) j ln n s ∧ μ'.1 85 j = nI s.2.2.2) ∨ (r = nI 0 ∧ ¬ WH ln n))) = Q
  -- the last look at all places
  have last0 : ∀ (v : Int32) (m : xm_M), kM μ m j → ¬ WH ln n → hd_X9_isWhole_130 b Q (nI j) (nI 0) v m := by
    intro v m hk hw
    have : Q (nI 0) m := by rw [← hQ]; exact ⟨hk, Or.inr ⟨rfl, hw⟩⟩
    apply l_X9_isWhole_130
    exact ⟨fun _ => ⟨Or.inl rfl, this⟩, fun _ => ⟨fun _ => ⟨Or.inl rfl, this⟩, fun c => absurd rfl c⟩⟩
  have last : ∀ (d i : Nat) (s : TSt) (m : xm_M), i + d = 32768 → GT ln n = some s → s.2.2.2 ≠ 1 → OW (m.1 92) j ln n s → m.1 85 j = nI s.2.2.2 → kM μ m j → (∀ x, x < i → ¬ frX s.1 x) → hd_X9_isWhole_130 b Q (nI j) (nI 1) (nI i) m := by
    intro d
    induction d with
    | zero =>
      intro i s m hi hs hu hO h85 hk hx
      have : i = 32768 := by omega
      subst this
      apply l_X9_isWhole_130
      refine pk_le 32768 32768 (fun _ => ⟨Or.inr rfl, ?_⟩) (fun c => by omega)
      rw [← hQ]
      exact ⟨hk, Or.inl ⟨rfl, ⟨s, hs, Or.inl ((noFree (GT_I hl n s hs).1).mpr hx)⟩, s, hs, hO, h85⟩⟩
    | succ d ih =>
      intro i s m hi hs hu hO h85 hk hx
      have hR := (GT_I hl n s hs).1
      apply l_X9_isWhole_130
      refine pk_le 32768 i (fun c => by omega) (fun c => ⟨fun c1 => absurd c1 (by decide), fun _ => ?_⟩)
      rw [show nI 32768 * nI j + nI i = nI (32768 * j + i) by rw [pk_mul, nI_add], cl (by omega)]
      refine ⟨vin (by omega) (by decide), fun c1 x7 e7 => ?_, fun c1 x8 e8 => ?_⟩
      · refine last0 _ m hk ?_
        have hfr := (hO.neg hR hn.2 (x := i) (by omega)).mp (fun h => by
          rw [← Int32.not_le] at c1
          exact c1 h)
        rintro ⟨s', h1, h2⟩
        rw [hs] at h1
        cases h1
        rcases h2 with h2 | ⟨h2, -⟩
        · exact (noFree hR).mp h2 i (by omega) hfr
        · exact hu h2
      · rw [e8, nI_add]
        refine ih (i + 1) s m (by omega) hs hu hO h85 hk (fun x hxi => ?_)
        by_cases hxe : x = i
        · subst hxe
          intro hfr
          have := (hO.neg hR hn.2 (x := x) (by omega)).mpr hfr
          rw [Int32.not_lt] at c1
          exact this c1
        · exact hx x (by omega)
  -- all entries have their words
  have main : ∀ (d k : Nat) (s : TSt) (m : xm_M) (one : Nat), k + d = n → GT ln k = some s → OW (m.1 92) j ln k s → m.1 85 j = nI s.2.2.2 → kM μ m j → one ≤ 15 → (s.2.2.2 = 1 → ∃ e, e < k ∧ ln e = one ∧ ln e ≠ 0) → hd_X9_isWhole_40 b Q (nI j) (nI 1) (nI one) (nI k) m := by
    intro d
    induction d with
    | zero =>
      intro k s m one hk hs hO h85 hkM ho hone
      have : k = n := by omega
      subst this
      have hm84 : m.1 84 j = nI k := by rw [hkM.1 84 (by decide) (by decide)]; exact hN
      obtain ⟨i1, i2, i3, i4, i5, i6⟩ := GT_I hl k s hs
      apply l_X9_isWhole_40
      rw [cl (show j < 2 ^ 31 by omega), hm84, h85]
      refine ⟨vin hj (by decide), pk_le k k (fun _ => ⟨vin hj (by decide), ?_⟩) (fun c => by omega)⟩
      refine ⟨fun c => ?_, fun c => ⟨fun c1 => ?_, fun c1 => ?_⟩⟩
      · exact last 32768 0 s m (by omega) hs (nIq (by omega) (by decide) c) hO h85 hkM (fun x hx => absurd hx (Nat.not_lt_zero _))
      · have hu : s.2.2.2 = 1 := nI_inj (by omega) (by decide) c
        obtain ⟨e, e1, e2, e3⟩ := hone hu
        rw [← hQ]
        refine ⟨hkM, Or.inr ⟨rfl, fun hw => c1 ?_⟩⟩
        rw [← e2, (WH_one hl hs hu e1 e3).mp hw]
      · have hu : s.2.2.2 = 1 := nI_inj (by omega) (by decide) c
        obtain ⟨e, e1, e2, e3⟩ := hone hu
        rw [← hQ]
        refine ⟨hkM, Or.inl ⟨rfl, (WH_one hl hs hu e1 e3).mpr ?_, s, hs, hO, h85⟩⟩
        rw [e2]
        exact nI_inj (by omega) (by decide) c1
    | succ d ih =>
      intro k s m one hk hs hO h85 hkM ho hone
      obtain ⟨i1, i2, i3, i4, i5, i6⟩ := GT_I hl k s hs
      have hm84 : m.1 84 j = nI n := by rw [hkM.1 84 (by decide) (by decide)]; exact hN
      have hm93 : m.1 93 (64 * j + k) = nI (ln k) := by rw [hkM.1 93 (by decide) (by decide)]; exact hln k (by omega)
      have hlk := hl k
      apply l_X9_isWhole_40
      rw [cl (show j < 2 ^ 31 by omega), hm84, h85, show nI 64 * nI j + nI k = nI (64 * j + k) by rw [pk_mul, nI_add], cl (show 64 * j + k < 2 ^ 31 by omega), hm93]
      refine ⟨vin hj (by decide), pk_le n k (fun c => by omega) (fun _ => ⟨fun c => absurd c (by decide), fun _ => ⟨vin (by omega) (by decide), fun c => ?_, fun c x20 e20 => ?_⟩⟩)⟩
      · have h0 : ln k ≠ 0 := fun h => c (by rw [h]; exact nI_0)
        refine ⟨vin hj (by decide), vin hj (by decide), fun m14 e14 => ?_⟩
        rw [nI_add] at e14
        have h92 : m14.1 92 = m.1 92 := by rw [e14, ri_n (by decide)]
        have h85' : m14.1 85 = upd (m.1 85) j (nI (s.2.2.2 + 1)) := by rw [e14, ri_e]
        have hkM14 : kM μ m14 j := ⟨fun c h1 h2 => by rw [e14, ri_n h1]; exact hkM.1 c h1 h2, by rw [e14]; exact hkM.2.1, fun i hi => by rw [h85', upd_n hi]; exact hkM.2.2.1 i hi, fun i hi => by rw [h92]; exact hkM.2.2.2 i hi⟩
        refine ⟨_, c_gives hj (by omega) hl h0 i1 (by rw [h92]; exact hO), fun r17 m16 e16 x19 e19 => ?_⟩
        rw [e19, nI_add]
        rcases e16 with ⟨g1, g2, g3⟩ | ⟨p, w, f, g1, g2, g3, g4, g5, g6⟩
        · -- no word is left
          rw [g2, g3]
          have hnW : ¬ WH ln n := by
            rintro ⟨s', h1, -⟩
            have : GT ln (k + 1) = none := by rw [GT_s hs, if_neg h0, g1]
            rw [GT_none this n (by omega)] at h1
            cases h1
          have hu : s.2.2.2 ≠ 0 := by
            intro hu
            have hf := (i4 hu).2
            have := fpart_none g1 0 (by omega)
            rw [hf] at this
            cases this
          have h85j : m14.1 85 j = nI (s.2.2.2 + 1) := by rw [h85', upd_e]
          have hm84' : m14.1 84 j = nI n := by rw [hkM14.1 84 (by decide) (by decide)]; exact hN
          apply l_X9_isWhole_40
          rw [cl (show j < 2 ^ 31 by omega), hm84', h85j]
          have hne : ¬ nI (s.2.2.2 + 1) = nI 1 := fun e => hu (by have := nI_inj (by omega) (by decide) e; omega)
          exact ⟨vin hj (by decide), fun _ => ⟨vin hj (by decide), fun _ => last0 _ m14 hkM14 hnW, fun c => absurd c hne⟩, fun _ => ⟨fun _ => ⟨vin hj (by decide), fun _ => last0 _ m14 hkM14 hnW, fun c => absurd c hne⟩, fun c => absurd rfl c⟩⟩
        · rw [g3]
          have hgt : GT ln (k + 1) = some (ftake s.1 p w (ln k), wup s.2.1 k (w * 2 ^ (ln k - p)), s.2.2.1 + (if s.2.2.2 = 0 then ln k - 1 else ln k - p), s.2.2.2 + 1) := by
            rw [GT_s hs, if_neg h0, g1]
            simp only [g2, Option.getD_some]
          have h92' : m16.1 92 = f := by rw [g4, ri_e]
          refine ih (k + 1) _ m16 (ln k) (by omega) hgt (by rw [h92']; exact g6 _ _) ?_ ?_ hlk ?_
          · rw [g4, ri_n (by decide), h85', upd_e]
          · refine ⟨fun c h1 h2 => by rw [g4, ri_n h2]; exact hkM14.1 c h1 h2, by rw [g4]; exact hkM14.2.1, fun i hi => by rw [g4, ri_n (by decide)]; exact hkM14.2.2.1 i hi, fun i hi => ?_⟩
            rw [h92', g5 i hi, h92]
            exact hkM.2.2.2 i hi
          · intro _
            exact ⟨k, by omega, rfl, h0⟩
      · have h0 : ln k = 0 := by
          have := nI_inj (a := ln k) (b := 0) (by omega) (by decide) (c.trans nI_0.symm)
          exact this
        rw [e20, nI_add]
        refine ih (k + 1) s m one (by omega) (by rw [GT_s hs, if_pos h0]) ⟨hO.1, fun x e hx hu => hO.2 x e hx ⟨?_, hu.2⟩⟩ h85 hkM ho (fun hu => ?_)
        · have hek : e ≠ k := fun z => hu.2.1 (by rw [z]; exact h0)
          have := hu.1
          omega
        · obtain ⟨e, e1, e2⟩ := hone hu
          exact ⟨e, by omega, e2⟩
  have clear : ∀ (d i : Nat) (m : xm_M), i + d = 32768 → (∀ x, x < i → m.1 92 (32768 * j + x) = -1) → kM μ m j → hd_X9_isWhole_4 b Q (nI j) (nI 1) (nI i) m := by
    intro d
    induction d with
    | zero =>
      intro i m hi hx hkM
      have : i = 32768 := by omega
      subst this
      apply l_X9_isWhole_4
      refine pk_le 32768 32768 (fun _ => ⟨vin hj (by decide), fun m3 e3 => ?_⟩) (fun c => by omega)
      rw [cl (show j < 2 ^ 31 by omega)] at e3
      have h92 : m3.1 92 = m.1 92 := by rw [e3, ri_n (by decide)]
      refine main n 0 _ m3 0 (by omega) rfl ?_ (by rw [e3, ri_e, upd_e]) ?_ (by decide) (fun h => by simp at h)
      · rw [h92]
        exact ⟨fun x hx2 _ => hx x hx2, fun x e _ hu => absurd hu.1 (Nat.not_lt_zero _)⟩
      · exact ⟨fun c h1 h2 => by rw [e3, ri_n h1]; exact hkM.1 c h1 h2, by rw [e3]; exact hkM.2.1, fun i hi => by rw [e3, ri_e, upd_n hi]; exact hkM.2.2.1 i hi, fun i hi => by rw [h92]; exact hkM.2.2.2 i hi⟩
    | succ d ih =>
      intro i m hi hx hkM
      apply l_X9_isWhole_4
      refine pk_le 32768 i (fun c => by omega) (fun c => ?_)
      rw [show nI 32768 * nI j + nI i = nI (32768 * j + i) by rw [pk_mul, nI_add], cl (by omega), show vp_nar .byte (-1) = (-1 : Int32) by decide]
      refine ⟨vin (by omega) (by decide), fun m5 e5 x6 e6 => ?_⟩
      rw [e6, nI_add]
      refine ih (i + 1) m5 (by omega) (fun x hxi => ?_) ⟨fun c h1 h2 => by rw [e5, ri_n h2]; exact hkM.1 c h1 h2, by rw [e5]; exact hkM.2.1, fun i hi => by rw [e5, ri_n (by decide)]; exact hkM.2.2.1 i hi, fun y hy => by rw [e5, ri_e, upd_n (by omega)]; exact hkM.2.2.2 y hy⟩
      rw [e5, ri_e]
      by_cases hxe : x = i
      · subst hxe; rw [upd_e]
      · rw [upd_n (by omega)]
        exact hx x (by omega)
  apply g_X9_isWhole
  exact clear 32768 0 μ (by omega) (fun x hx => absurd hx (Nat.not_lt_zero _)) ⟨fun _ _ _ => rfl, rfl, fun _ _ => rfl, fun _ _ => rfl⟩
