theorem pre_used {ln : Nat → Nat} {k : Nat} {s : TSt} (h : RI ln k s) (hl : ∀ e, ln e ≤ 15) {L p w0 : Nat} (hL : L ≤ 15) (hp : fpart s.1 L = some p) (hw : s.1 p = some w0) (j : Nat) (hj : 1 ≤ j) (hjp : j < p) : ∃ e, e < k ∧ j < ln e ∧ s.2.1 e / 2 ^ (ln e - j) = w0 * 2 ^ (L - p) / 2 ^ (L - j) := by
  obtain ⟨p1, -, -⟩ := fpart_some hp
  have hwl := (h.1 p w0 hw).2
  have hq : w0 * 2 ^ (L - p) / 2 ^ (L - j) = w0 / 2 ^ (p - j) := by
    rw [show L - j = (L - p) + (p - j) by omega, Nat.pow_add, ← Nat.div_div_eq_div_mul, Nat.mul_div_cancel _ (p2pos _)]
  rw [hq]
  have hqj : w0 / 2 ^ (p - j) < 2 ^ j := by
    rw [Nat.div_lt_iff_lt_mul (p2pos _), ← Nat.pow_add, show j + (p - j) = p by omega]
    exact hwl
  -- the first place of the free part
  have hxp : w0 * 2 ^ (15 - p) < 32768 := by
    have : (w0 + 1) * 2 ^ (15 - p) ≤ 2 ^ p * 2 ^ (15 - p) := Nat.mul_le_mul_right _ hwl
    rw [← Nat.pow_add, show p + (15 - p) = 15 by omega, Nat.add_mul, Nat.one_mul] at this
    have e : (2 : Nat) ^ 15 = 32768 := rfl
    have := p2pos (15 - p)
    omega
  have hyp : yy (w0 * 2 ^ (15 - p)) p = w0 := Nat.mul_div_cancel _ (p2pos _)
  have hyj : yy (w0 * 2 ^ (15 - p)) j = w0 / 2 ^ (p - j) := by rw [yy_up (Nat.le_of_lt hjp) (by omega), hyp]
  have hnf : ¬ ∀ x, x < 32768 → yy x j = w0 / 2 ^ (p - j) → frX s.1 x := by
    intro hfree
    obtain ⟨i, v, hi, hv, hy⟩ := ff_key h (show j ≤ 15 by omega) hqj hfree
    have hyi : yy (w0 * 2 ^ (15 - p)) i = v := by
      rw [yy_up hi (by omega), hyj, ← hy, yy_up hi (by omega)]
      congr 1
      exact (Nat.mul_div_cancel _ (p2pos _)).symm
    have h2 := h.2.1 i p v w0 (by omega) hv hw
    rw [yy_in] at hyi
    rw [Nat.add_mul, Nat.one_mul] at h2
    have := p2pos (15 - p)
    omega
  have hx : ∃ x, x < 32768 ∧ yy x j = w0 / 2 ^ (p - j) ∧ ¬ frX s.1 x := by
    apply Classical.byContradiction
    intro hno
    refine hnf (fun x h1 h2 => Classical.byContradiction (fun h3 => hno ⟨x, h1, h2, h3⟩))
  obtain ⟨x, hx1, hx2, hx3⟩ := hx
  rcases h.2.2.2.1 x hx1 with hf | ⟨e, e1, e2, e3⟩
  · exact absurd hf hx3
  · refine ⟨e, e1, ?_, ?_⟩
    · rcases Nat.lt_or_ge j (ln e) with h4 | h4
      · exact h4
      · exfalso
        refine h.2.2.2.2.1 (w0 * 2 ^ (15 - p)) e hxp ⟨p, w0, hw, hyp⟩ ⟨e1, e2, ?_⟩
        rw [yy_up h4 (by omega), hyj, ← hx2, ← yy_up h4 (by omega)]
        exact e3
    · rcases Nat.lt_or_ge j (ln e) with h4 | h4
      · rw [← e3, ← yy_up (Nat.le_of_lt h4) (hl e), hx2]
      · exfalso
        refine h.2.2.2.2.1 (w0 * 2 ^ (15 - p)) e hxp ⟨p, w0, hw, hyp⟩ ⟨e1, e2, ?_⟩
        rw [yy_up h4 (by omega), hyj, ← hx2, ← yy_up h4 (by omega)]
        exact e3
theorem word_lt {ln : Nat → Nat} {k : Nat} {s : TSt} (h : RI ln k s) {L p w0 : Nat} (hp : fpart s.1 L = some p) (hw : s.1 p = some w0) : w0 * 2 ^ (L - p) < 2 ^ L := by
  obtain ⟨p1, -, -⟩ := fpart_some hp
  have h5 : w0 * 2 ^ (L - p) < 2 ^ p * 2 ^ (L - p) := Nat.mul_lt_mul_of_pos_right (h.1 p w0 hw).2 (p2pos _)
  rwa [← Nat.pow_add, show p + (L - p) = L by omega] at h5
theorem no_prefix {ln : Nat → Nat} {k : Nat} {s : TSt} (h : RI ln k s) {L p w0 : Nat} (hL : L ≤ 15) (hp : fpart s.1 L = some p) (hw : s.1 p = some w0) : ∀ e, e < k → ln e ≠ 0 → ln e ≤ L → w0 * 2 ^ (L - p) / 2 ^ (L - ln e) ≠ s.2.1 e := by
  intro e e1 e2 e3 e4
  have hwl := word_lt h hp hw
  have hx : w0 * 2 ^ (L - p) * 2 ^ (15 - L) < 32768 := by
    have : (w0 * 2 ^ (L - p) + 1) * 2 ^ (15 - L) ≤ 2 ^ L * 2 ^ (15 - L) := Nat.mul_le_mul_right _ hwl
    rw [← Nat.pow_add, show L + (15 - L) = 15 by omega, Nat.add_mul, Nat.one_mul] at this
    have e : (2 : Nat) ^ 15 = 32768 := rfl
    have := p2pos (15 - L)
    omega
  have hy : yy (w0 * 2 ^ (L - p) * 2 ^ (15 - L)) L = w0 * 2 ^ (L - p) := Nat.mul_div_cancel _ (p2pos _)
  refine h.2.2.2.2.1 _ e hx (ff_free (ln := ln) (k := k) hL hp hw hy) ⟨e1, e2, ?_⟩
  rw [yy_up e3 hL, hy, e4]
theorem GT_W1 {ln : Nat → Nat} (hl : ∀ e, ln e ≤ 15) : ∀ (k : Nat) (s : TSt), GT ln k = some s → s.2.2.2 = 1 → ∀ e, e < k → ln e ≠ 0 → s.2.1 e = 0 := by
  intro k
  induction k with
  | zero => intro s _ _ e he; omega
  | succ k ih =>
    intro s' h hu e he hle
    cases hk : GT ln k with
    | none => rw [GT_n hk] at h; cases h
    | some s =>
      obtain ⟨i1, i2, i3, i4, i5, i6⟩ := GT_I hl k s hk
      rw [GT_s hk] at h
      by_cases h0 : ln k = 0
      · rw [if_pos h0] at h
        cases h
        have hek : e ≠ k := fun z => hle (by rw [z]; exact h0)
        exact ih _ hk hu e (by omega) hle
      · rw [if_neg h0] at h
        cases hp : fpart s.1 (ln k) with
        | none => rw [hp] at h; cases h
        | some p =>
          rw [hp] at h
          have h := Option.some.inj h
          subst h
          have hu0 : s.2.2.2 = 0 := by
            have : s.2.2.2 + 1 = 1 := hu
            omega
          obtain ⟨-, f2⟩ := i4 hu0
          obtain ⟨-, ⟨w, hw⟩, -⟩ := fpart_some hp
          have hw0 : (s.1 p).getD 0 = 0 := by
            rw [f2]
            by_cases hz : p = 0
            · simp [hz]
            · simp [hz]
          show wup s.2.1 k ((s.1 p).getD 0 * 2 ^ (ln k - p)) e = 0
          rw [hw0, Nat.zero_mul]
          unfold wup
          split
          · rfl
          · exact absurd (i6 hu0 e (by omega)) hle
def kB (μ μ' : xm_M) (B : Nat) : Prop := (∀ c, c ≠ B → c ≠ B + 3 → c ≠ B + 4 → μ'.1 c = μ.1 c) ∧ μ'.2.1 = μ.2.1 ∧ ∀ k, k ≠ 10 → μ'.1 B k = μ.1 B k
theorem c_growTree {b : Bool} {μ : xm_M} {B n : Nat} {ln : Nat → Nat} (hB : xs_bk B) (hn : 1 ≤ n ∧ n ≤ 64) (hl : ∀ e, ln e ≤ 15) (hN : μ.1 B 2 = nI n) (hln : ∀ j, j < n → μ.1 (B + 2) j = nI (ln j)) : xCi b b k_X1_growTree μ [.ref B] (fun r μ' => kB μ μ' B ∧ ((r = nI 1 ∧ WH ln n ∧ ∃ s F, GT ln n = some s ∧ TI (μ'.1 (B + 3)) ln s.2.1 n F ∧ F ≤ s.2.2.1) ∨ (r = nI 0 ∧ ¬ WH ln n))) := by
  generalize hQ : (fun (r : Int32) (μ' : xm_M) => kB μ μ' B ∧ ((r = nI 1 ∧ WH ln n ∧ ∃ s F, GT ln n = some s ∧ TI (μ'.1 (B + 3)) ln s.2.1 n F ∧ F ≤ s.2.2.1) ∨ (r = nI 0 ∧ ¬ WH ln n))) = Q
  have main : ∀ (d k : Nat) (s : TSt) (F : Nat) (m : xm_M), k + d = n → GT ln k = some s → fsR (m.1 (B + 4)) s.1 → TI (m.1 (B + 3)) ln s.2.1 k F → m.1 B 10 = nI F → F ≤ s.2.2.1 → kB μ m B → hd_X1_growTree_64 b Q B (nI s.2.2.2) (nI k) m := by
    intro d
    induction d with
    | zero =>
      intro k s F m hk hs hfs hT hF hFs hkB
      have : k = n := by omega
      subst this
      obtain ⟨i1, i2, i3, i4, i5, i6⟩ := GT_I hl k s hs
      have hmN : m.1 B 2 = nI k := by rw [hkB.2.2 2 (by decide)]; exact hN
      have fin : ∃ Q2 : Int32 → xm_M → Prop, xCi b b k_X1_nothingIsFree m [.ref B] Q2 ∧ ∀ (r4 : Int32) (m3 : xm_M), Q2 r4 m3 → ((¬ r4 = 0 → Q (nI 1) m3) ∧ (r4 = 0 → ((¬ nI s.2.2.2 = (nI 1) → Q (nI 0) m3) ∧ (nI s.2.2.2 = (nI 1) → vp_in (nI 0) 128 ∧ ((0 ≤ (m3.1 (B + 3) ((nI 0)).toNatClampNeg) → Q (nI 0) m3) ∧ (¬ 0 ≤ (m3.1 (B + 3) ((nI 0)).toNatClampNeg) → Q (nI 1) m3)))))) := by
        refine ⟨_, c_nothingIsFree hB i1.1 hfs, ?_⟩
        intro r4 m3 e
        obtain ⟨e1, e2⟩ := e
        subst e1
        rw [← hQ]
        refine ⟨fun c => ⟨hkB, Or.inl ⟨rfl, ?_, s, F, hs, hT, hFs⟩⟩, fun c => ⟨fun c2 => ⟨hkB, Or.inr ⟨rfl, ?_⟩⟩, fun c2 => ⟨vin (by decide) (by decide), ?_⟩⟩⟩
        · rcases e2 with ⟨-, e2⟩ | ⟨e2, -⟩
          · exact ⟨s, hs, Or.inl e2⟩
          · rw [e2] at c; exact absurd rfl c
        · rintro ⟨s', h1, h2⟩
          rw [hs] at h1
          cases h1
          rcases e2 with ⟨e2, -⟩ | ⟨-, e2⟩
          · rw [e2] at c; exact absurd c (by decide)
          · rcases h2 with h2 | ⟨h2, -⟩
            · exact e2 h2
            · exact c2 (by rw [h2])
        · have hu : s.2.2.2 = 1 := nI_inj (by omega) (by decide) c2
          have hnf : ¬ ∀ i, i < 16 → s.1 i = none := by
            rcases e2 with ⟨e2, -⟩ | ⟨-, e2⟩
            · rw [e2] at c; exact absurd c (by decide)
            · exact e2
          rw [cl (show 0 < 2 ^ 31 by decide)]
          have hT0 := hT
          obtain ⟨D, Pf, ⟨t1, t2, t3, t4, t5, t6⟩, td⟩ := hT
          have hb := t4 0 0 (by omega) (by decide) (by decide)
          unfold brn at hb
          rw [t1, t2] at hb
          refine ⟨fun c3 => ⟨hkB, Or.inr ⟨rfl, ?_⟩⟩, fun c3 => ⟨hkB, Or.inl ⟨rfl, ?_, s, F, hs, hT0, hFs⟩⟩⟩
          · rintro ⟨s', h1, h2⟩
            rw [hs] at h1
            cases h1
            rcases h2 with h2 | ⟨-, e, h3, h4⟩
            · exact hnf h2
            · have hW := GT_W1 hl k s hs hu e h3 (by omega)
              rcases hb with ⟨z1, z2⟩ | ⟨h, g1, g2, g3, g4, g5⟩ | ⟨e', g1, g2, g3, g4⟩
              · refine z2 e h3 (by omega) (by omega) ?_
                rw [hW]
                simp
              · -- a fork has a longer word below it: but there is one word alone
                obtain ⟨e', q1, q2, q3⟩ := td h g1 g2
                have hW' := GT_W1 hl k s hs hu e' q1 (by omega)
                have := i1.2.2.2.2.2 0 e e' (by decide) ⟨h3, by omega, by rw [hW]; unfold yy; simp⟩ ⟨q1, by omega, by rw [hW']; unfold yy; simp⟩
                subst this
                omega
              · rw [show 2 * 0 + 0 = 0 from rfl] at g4
                rw [g4] at c3
                exact absurd (lf_neg (e := e') (by omega)) (by rw [Int32.not_lt]; exact c3)
          · rcases hb with ⟨z1, z2⟩ | ⟨h, g1, g2, g3, g4, g5⟩ | ⟨e', g1, g2, g3, g4⟩
            · rw [show 2 * 0 + 0 = 0 from rfl] at z1
              rw [z1] at c3
              exact absurd (by decide) c3
            · rw [show 2 * 0 + 0 = 0 from rfl] at g3
              rw [g3] at c3
              exact absurd (n0' (by have := cf_le s.1 16; have := i5 (by omega); omega)) c3
            · exact ⟨s, hs, Or.inr ⟨hu, e', g1, by omega⟩⟩
      refine l_X1_growTree_64 _ _ hB ?_
      rw [hmN]
      refine ⟨fun _ => fin, fun c => absurd (nI_le (Nat.le_refl _) (by omega)) c⟩
    | succ d ih =>
      intro k s F m hk hs hfs hT hF hFs hkB
      obtain ⟨i1, i2, i3, i4, i5, i6⟩ := GT_I hl k s hs
      have hmN : m.1 B 2 = nI n := by rw [hkB.2.2 2 (by decide)]; exact hN
      have hml : m.1 (B + 2) k = nI (ln k) := by rw [hkB.1 (B + 2) (by omega) (by omega) (by omega)]; exact hln k (by omega)
      have hlk := hl k
      have hFs2 : s.2.2.1 ≤ 1000 := by
        by_cases hu : s.2.2.2 = 0
        · rw [(i4 hu).1]; decide
        · have := i5 hu
          have := cf_le s.1 16
          omega
      refine l_X1_growTree_64 _ _ hB ?_
      rw [hmN]
      refine ⟨fun c => ?_, fun _ => ⟨fun c => ?_, fun _ => ⟨vin (by omega) (by decide), ?_⟩⟩⟩
      · rw [nI_leI (by omega) (by omega)] at c
        omega
      · rw [nI_leI (by decide) (by omega)] at c
        omega
      rw [cl (show k < 2 ^ 31 by omega), hml]
      refine ⟨fun c x21 e21 => ?_, fun c x22 e22 => ⟨vin (by omega) (by decide), ?_⟩⟩
      · have h0 : ln k = 0 := by
          rcases Nat.eq_zero_or_pos (ln k) with h | h
          · exact h
          · exact absurd c (nI_nle h (by omega))
        rw [e21, nI_add]
        refine ih (k + 1) s F m (by omega) (by rw [GT_s hs, if_pos h0]) hfs ?_ hF hFs hkB
        obtain ⟨D, Pf, ⟨t1, t2, t3, t4, t5, t6⟩, td⟩ := hT
        refine ⟨D, Pf, ⟨t1, t2, t3, ?_, t5, t6⟩, fun g g1 g2 => ?_⟩
        · intro g c hg hg64 hc
          rcases t4 g c hg hg64 hc with ⟨z1, z2⟩ | z | ⟨e, g1, g2, g3, g4⟩
          · refine Or.inl ⟨z1, fun e e1 e2 e3 => ?_⟩
            by_cases hek : e = k
            · subst hek; exact absurd h0 e2
            · exact z2 e (by omega) e2 e3
          · exact Or.inr (Or.inl z)
          · exact Or.inr (Or.inr ⟨e, by omega, g2, g3, g4⟩)
        · obtain ⟨e, e1, e2⟩ := td g g1 g2
          exact ⟨e, by omega, e2⟩
      · have h0 : ln k ≠ 0 := fun h => c (by rw [h]; decide)
        rw [nI_add] at e22
        refine ⟨_, c_takeLeastWord hB (by omega) hlk i1.1 hfs, ?_⟩
        intro r26 m25 e25
        refine ⟨fun c4 => ?_, fun c4 => ⟨vin (by omega) (by decide), ?_⟩⟩
        · rcases e25 with ⟨g1, g2, g3⟩ | ⟨p, w, f, g1, g2, g3, -⟩
          · subst g3
            rw [← hQ]
            refine ⟨hkB, Or.inr ⟨rfl, ?_⟩⟩
            rintro ⟨s', h1, -⟩
            have : GT ln (k + 1) = none := by rw [GT_s hs, if_neg h0, g1]
            rw [GT_none this n (by omega)] at h1
            cases h1
          · rw [g3] at c4
            have hwl := word_lt i1 g1 g2
            have : 2 ^ ln k ≤ 2 ^ 15 := Nat.pow_le_pow_right (by decide) hlk
            exact absurd c4 (n0 (by omega))
        · rcases e25 with ⟨g1, g2, g3⟩ | ⟨p, w, f, g1, g2, g3, g4, g5⟩
          · rw [g2] at c4
            exact absurd (by decide) c4
          obtain ⟨p1, -, -⟩ := fpart_some g1
          have hwl := word_lt i1 g1 g2
          have hm2 : m25.1 (B + 2) k = nI (ln k) := by rw [g4, ri_n (by omega)]; exact hml
          have hm3 : m25.1 (B + 3) = m.1 (B + 3) := by rw [g4, ri_n (by omega)]
          have hmB : m25.1 B = m.1 B := by rw [g4, ri_n (by omega)]
          have hkB25 : kB μ m25 B := ⟨fun c h1 h2 h3 => by rw [g4, ri_n h3]; exact hkB.1 c h1 h2 h3, by rw [g4]; exact hkB.2.1, fun j hj => by rw [hmB]; exact hkB.2.2 j hj⟩
          have hgt : GT ln (k + 1) = some (ftake s.1 p w (ln k), wup s.2.1 k (w * 2 ^ (ln k - p)), s.2.2.1 + (if s.2.2.2 = 0 then ln k - 1 else ln k - p), s.2.2.2 + 1) := by
            rw [GT_s hs, if_neg h0, g1]
            simp only [g2, Option.getD_some]
          have hFle : s.2.2.1 + (ln k - max p 1) ≤ s.2.2.1 + (if s.2.2.2 = 0 then ln k - 1 else ln k - p) := by
            split <;> omega
          rw [hm2, g3]
          refine ⟨_, c_plant (p := p) (Fs := s.2.2.1) hB (by omega) (by omega) hlk rfl hwl p1 (by rw [hm3]; exact hT) (by rw [hmB]; exact hF) hFs hFs2 (no_prefix i1 hlk g1 g2) (pre_used i1 hl hlk g1 g2), ?_⟩
          intro r32 m31 e31
          refine ⟨fun c5 x35 e35 => ?_, fun c5 => ?_⟩
          · rcases e31 with ⟨-, f', F', q1, q2, q3⟩ | ⟨q1, -⟩
            · rw [e22, e35, nI_add]
              refine ih (k + 1) _ F' m31 (by omega) hgt ?_ (by rw [q1.1]; exact q2) (by rw [q1.2.1, upd_e]) (by show F' ≤ s.2.2.1 + _; omega) ?_
              · rw [q1.2.2.1 (B + 4) (by omega) (by omega), g4, ri_e]
                exact g5
              · refine ⟨fun c h1 h2 h3 => ?_, ?_, fun j hj => ?_⟩
                · rw [q1.2.2.1 c h1 h2]; exact hkB25.1 c h1 h2 h3
                · rw [q1.2.2.2]; exact hkB25.2.1
                · rw [q1.2.1, upd_n hj]; exact hkB25.2.2 j hj
            · rw [q1] at c5; exact absurd rfl c5
          · rcases e31 with ⟨q1, -⟩ | ⟨-, q2, f', F', q3⟩
            · rw [q1] at c5; exact absurd c5 (by decide)
            · rw [← hQ]
              refine ⟨⟨fun c h1 h2 h3 => ?_, ?_, fun j hj => ?_⟩, Or.inr ⟨rfl, big_not hl hn.2 (by omega) hgt (by show 65 ≤ s.2.2.1 + _; omega)⟩⟩
              · rw [q3.2.2.1 c h1 h2]; exact hkB25.1 c h1 h2 h3
              · rw [q3.2.2.2]; exact hkB25.2.1
              · rw [q3.2.1, upd_n hj]; exact hkB25.2.2 j hj
  have fill2 : ∀ (d i : Nat) (m : xm_M), i + d = 16 → (∀ j, j < 128 → m.1 (B + 3) j = 0) → (∀ j, j < i → m.1 (B + 4) j = -1) → kB μ m B → hd_X1_growTree_26 b Q B (nI i) m := by
    intro d
    induction d with
    | zero =>
      intro i m hi h3 h4 hkB
      have : i = 16 := by omega
      subst this
      refine l_X1_growTree_26 _ hB ?_
      refine ⟨fun _ => ⟨vin (by decide) (by decide), fun m3 e3 m4 e4 => ?_⟩, fun c => absurd (nI_le (by decide) (by decide)) c⟩
      rw [cl (show 0 < 2 ^ 31 by decide)] at e3
      have hb3 : m3.1 B = m.1 B := by rw [e3, ri_n (by omega)]
      rw [hb3] at e4
      have g3 : m4.1 (B + 3) = m.1 (B + 3) := by rw [e4, ri_n (by omega), e3, ri_n (by omega)]
      have g4 : m4.1 (B + 4) = upd (m.1 (B + 4)) 0 (nI 0) := by rw [e4, ri_n (by omega), e3, ri_e]
      refine main n 0 _ 1 m4 (by omega) rfl ?_ ?_ (by rw [e4, ri_e, upd_e]) (Nat.le_refl _) ⟨fun c h1 h2 h3' => by rw [e4, ri_n h1, e3, ri_n h3']; exact hkB.1 c h1 h2 h3', by rw [e4, e3]; exact hkB.2.1, fun j hj => by rw [e4, ri_e, upd_n hj]; exact hkB.2.2 j hj⟩
      · rw [g4]
        intro j hj
        by_cases hj0 : j = 0
        · subst hj0
          rw [upd_e]; rfl
        · rw [upd_n hj0, h4 j hj]
          show _ = ofr (if j = 0 then _ else _)
          rw [if_neg hj0]; rfl
      · rw [g3]
        refine ⟨fun _ => 0, fun _ => 0, ⟨rfl, rfl, Nat.le_refl _, ?_, fun j hj1 hj2 => h3 j hj2, fun g h hg hh _ _ => by omega⟩, fun g hg1 hg2 => by omega⟩
        intro g c hg _ hc
        exact Or.inl ⟨h3 _ (by omega), fun e he => absurd he (Nat.not_lt_zero _)⟩
    | succ d ih =>
      intro i m hi h3 h4 hkB
      refine l_X1_growTree_26 _ hB ?_
      refine ⟨fun c => ?_, fun _ => ⟨vin (by omega) (by decide), fun m6 e6 x7 e7 => ?_⟩⟩
      · rw [nI_leI (by decide) (by omega)] at c
        omega
      rw [cl (by omega)] at e6
      rw [e7, nI_add]
      refine ih (i + 1) m6 (by omega) (fun j hj => by rw [e6, ri_n (by omega)]; exact h3 j hj) ?_ ⟨fun c h1 h2 h3' => by rw [e6, ri_n h3']; exact hkB.1 c h1 h2 h3', by rw [e6]; exact hkB.2.1, fun j hj => by rw [e6, ri_n (by omega)]; exact hkB.2.2 j hj⟩
      intro j hj
      rw [e6, ri_e]
      by_cases hji : j = i
      · subst hji; rw [upd_e]
      · rw [upd_n hji]; exact h4 j (by omega)
  have fill1 : ∀ (d i : Nat) (m : xm_M), i + d = 128 → (∀ j, j < i → m.1 (B + 3) j = 0) → kB μ m B → hd_X1_growTree_2 b Q B (nI i) m := by
    intro d
    induction d with
    | zero =>
      intro i m hi h3 hkB
      have : i = 128 := by omega
      subst this
      refine l_X1_growTree_2 _ hB ?_
      exact ⟨fun _ => fill2 16 0 m (by omega) h3 (fun j hj => absurd hj (Nat.not_lt_zero _)) hkB, fun c => absurd (nI_le (by decide) (by decide)) c⟩
    | succ d ih =>
      intro i m hi h3 hkB
      refine l_X1_growTree_2 _ hB ?_
      refine ⟨fun c => ?_, fun _ => ⟨vin (by omega) (by decide), fun m3 e3 x4 e4 => ?_⟩⟩
      · rw [nI_leI (by decide) (by omega)] at c
        omega
      rw [cl (by omega)] at e3
      rw [e4, nI_add]
      refine ih (i + 1) m3 (by omega) ?_ ⟨fun c h1 h2 h3' => by rw [e3, ri_n h2]; exact hkB.1 c h1 h2 h3', by rw [e3]; exact hkB.2.1, fun j hj => by rw [e3, ri_n (by omega)]; exact hkB.2.2 j hj⟩
      intro j hj
      rw [e3, ri_e]
      by_cases hji : j = i
      · subst hji; rw [upd_e]; rfl
      · rw [upd_n hji]; exact h3 j (by omega)
  refine g_X1_growTree hB ?_
  exact fill1 128 0 μ (by omega) (fun j hj => absurd hj (Nat.not_lt_zero _)) ⟨fun _ _ _ _ => rfl, rfl, fun _ _ => rfl⟩
