/-! ===== the reference's words: who owns a place ===== -/
def OW (f : Nat → Int32) (j : Nat) (ln : Nat → Nat) (k : Nat) (s : TSt) : Prop := (∀ x, x < 32768 → frX s.1 x → f (32768 * j + x) = -1) ∧ ∀ x e, x < 32768 → usX ln s.2.1 k x e → f (32768 * j + x) = nI e
theorem OW.neg {f : Nat → Int32} {j k : Nat} {ln : Nat → Nat} {s : TSt} (h : OW f j ln k s) (hR : RI ln k s) (hk : k ≤ 64) {x : Nat} (hx : x < 32768) : (¬ 0 ≤ f (32768 * j + x)) ↔ frX s.1 x := by
  constructor
  · intro h1
    rcases hR.2.2.2.1 x hx with h2 | ⟨e, h2⟩
    · exact h2
    · rw [h.2 x e hx h2] at h1
      exact absurd (n0' (by have := h2.1; omega)) h1
  · intro h2
    rw [h.1 x hx h2]
    decide
theorem sh15 {L : Nat} (h : L ≤ 15) : nI 32768 >>> (nI L &&& 31) = nI (2 ^ (15 - L)) := by
  have hs : ∀ k, k < 16 → ((nI k &&& 31).toBitVec.smod 32).toNat = k := by decide +kernel
  rw [pk_shrN (by decide) (nI L &&& 31) L (hs L (by omega))]
  congr 1
  show 2 ^ 15 / 2 ^ L = _
  exact Nat.pow_div h (by decide)
theorem by8_s {k : Nat} (h : k < 128) : by8 (nI k) = nI k := by
  have : ∀ k, k < 128 → by8 (nI k) = nI k := by decide +kernel
  exact this k h
theorem c_gives {b : Bool} {μ : xm_M} {j k : Nat} {ln : Nat → Nat} {s : TSt} (hj : j < 8) (hk : k < 64) (hl : ∀ e, ln e ≤ 15) (h0 : ln k ≠ 0) (hR : RI ln k s) (hO : OW (μ.1 92) j ln k s) : xCi b b k_X9_gives μ [.ref 75, .int (nI j), .int (nI k), .int (nI (ln k))] (fun r μ' => (fpart s.1 (ln k) = none ∧ r = nI 0 ∧ μ' = μ) ∨ ∃ p w f, fpart s.1 (ln k) = some p ∧ s.1 p = some w ∧ r = nI 1 ∧ μ' = xu_I μ 92 f ∧ (∀ i, i < 32768 * j ∨ 32768 * (j + 1) ≤ i → f i = μ.1 92 i) ∧ ∀ F U, OW f j ln (k + 1) (ftake s.1 p w (ln k), wup s.2.1 k (w * 2 ^ (ln k - p)), F, U)) := by
  generalize hQ : (fun (r : Int32) (μ' : xm_M) => (fpart s.1 (ln k) = none ∧ r = nI 0 ∧ μ' = μ) ∨ ∃ p w f, fpart s.1 (ln k) = some p ∧ s.1 p = some w ∧ r = nI 1 ∧ μ' = xu_I μ 92 f ∧ (∀ i, i < 32768 * j ∨ 32768 * (j + 1) ≤ i → f i = μ.1 92 i) ∧ ∀ F U, OW f j ln (k + 1) (ftake s.1 p w (ln k), wup s.2.1 k (w * 2 ^ (ln k - p)), F, U)) = Q
  have hL := hl k
  have hS := p2pos (15 - ln k)
  have hSS : 2 ^ ln k * 2 ^ (15 - ln k) = 32768 := by
    rw [← Nat.pow_add, show ln k + (15 - ln k) = 15 by omega]
  have hyin : ∀ x q, yy x (ln k) = q ↔ q * 2 ^ (15 - ln k) ≤ x ∧ x < (q + 1) * 2 ^ (15 - ln k) := fun x q => yy_in
  generalize hSe : 2 ^ (15 - ln k) = S at hS hSS hyin
  have qb : ∀ q, q < 2 ^ ln k → q * S + S ≤ 32768 := by
    intro q hq
    have : (q + 1) * S ≤ 2 ^ ln k * S := Nat.mul_le_mul_right _ hq
    rw [hSS, Nat.add_mul, Nat.one_mul] at this
    exact this
  have flag0 : ∀ (q : Nat) (v : Int32), hd_X9_gives_9 b Q (nI j) (nI k) (nI S) (nI (q * S + S)) μ → hd_X9_gives_23 b Q (nI j) (nI k) (nI S) (nI (q * S)) (nI 0) v μ := by
    intro q v h
    apply l_X9_gives_23
    refine ⟨fun _ => ⟨fun c => absurd rfl c, fun _ x3 e3 => ?_⟩, fun _ => ⟨fun _ => ⟨fun c => absurd rfl c, fun _ x6 e6 => ?_⟩, fun c => absurd rfl c⟩⟩
    · rw [e3, nI_add]; exact h
    · rw [e6, nI_add]; exact h
  have used : ∀ (d i q : Nat), q < 2 ^ ln k → i + d = q * S + S → q * S ≤ i → (∃ x, i ≤ x ∧ x < q * S + S ∧ ¬ frX s.1 x) → hd_X9_gives_9 b Q (nI j) (nI k) (nI S) (nI (q * S + S)) μ → hd_X9_gives_23 b Q (nI j) (nI k) (nI S) (nI (q * S)) (nI 1) (nI i) μ := by
    intro d
    induction d with
    | zero =>
      intro i q hq hi hqi hx h
      obtain ⟨x, x1, x2, -⟩ := hx
      omega
    | succ d ih =>
      intro i q hq hi hqi hx h
      have hb := qb q hq
      apply l_X9_gives_23
      rw [nI_add]
      refine pk_le (q * S + S) i (fun c => by omega) (fun c => ⟨fun c1 => absurd c1 (by decide), fun _ => ?_⟩)
      rw [show nI 32768 * nI j + nI i = nI (32768 * j + i) by rw [pk_mul, nI_add], cl (by omega)]
      refine ⟨vin (by omega) (by decide), fun c1 x9 e9 => ?_, fun c1 x10 e10 => ?_⟩
      · exact flag0 q x9 h
      · rw [e10, nI_add]
        rw [hO.neg hR (by omega) (by omega)] at c1
        obtain ⟨x, x1, x2, x3⟩ := hx
        have : x ≠ i := fun e => x3 (by rw [e]; exact c1)
        exact ih (i + 1) q hq (by omega) (by omega) ⟨x, by omega, x2, x3⟩ h
  have free : ∀ (d i q : Nat), q < 2 ^ ln k → i + d = q * S + S → q * S ≤ i → (∀ x, i ≤ x → x < q * S + S → frX s.1 x) → hd_X9_gives_78 b Q (nI j) (nI k) (nI S) (nI (q * S)) (nI (q * S)) μ → hd_X9_gives_23 b Q (nI j) (nI k) (nI S) (nI (q * S)) (nI 1) (nI i) μ := by
    intro d
    induction d with
    | zero =>
      intro i q hq hi hqi hx h
      have hb := qb q hq
      apply l_X9_gives_23
      rw [nI_add]
      refine pk_le (q * S + S) i (fun c => ⟨fun _ => h, fun c1 => absurd c1 (by decide)⟩) (fun c => by omega)
    | succ d ih =>
      intro i q hq hi hqi hx h
      have hb := qb q hq
      apply l_X9_gives_23
      rw [nI_add]
      refine pk_le (q * S + S) i (fun c => by omega) (fun c => ⟨fun c1 => absurd c1 (by decide), fun _ => ?_⟩)
      rw [show nI 32768 * nI j + nI i = nI (32768 * j + i) by rw [pk_mul, nI_add], cl (by omega)]
      refine ⟨vin (by omega) (by decide), fun c1 x9 e9 => ?_, fun c1 x10 e10 => ?_⟩
      · exact absurd c1 ((hO.neg hR (by omega) (by omega)).mpr (hx i (Nat.le_refl _) (by omega)))
      · rw [e10, nI_add]
        exact ih (i + 1) q hq (by omega) (by omega) (fun x x1 x2 => hx x (by omega) x2) h
  have fill : ∀ (d i q : Nat) (m : xm_M) (f : Nat → Int32), q < 2 ^ ln k → i + d = q * S + S → q * S ≤ i → m = xu_I μ 92 f → (∀ x, f x = if 32768 * j + q * S ≤ x ∧ x < 32768 * j + i then nI k else μ.1 92 x) → (∀ f, (∀ x, f x = if 32768 * j + q * S ≤ x ∧ x < 32768 * j + (q * S + S) then nI k else μ.1 92 x) → Q (nI 1) (xu_I μ 92 f)) → hd_X9_gives_78 b Q (nI j) (nI k) (nI S) (nI (q * S)) (nI i) m := by
    intro d
    induction d with
    | zero =>
      intro i q m f hq hi hqi hm hf h
      have hb := qb q hq
      apply l_X9_gives_78
      rw [nI_add]
      have : i = q * S + S := by omega
      subst this
      refine pk_le (q * S + S) (q * S + S) (fun c => by rw [hm]; exact h f hf) (fun c => by omega)
    | succ d ih =>
      intro i q m f hq hi hqi hm hf h
      have hb := qb q hq
      apply l_X9_gives_78
      rw [nI_add]
      refine pk_le (q * S + S) i (fun c => by omega) (fun c => ?_)
      rw [show nI 32768 * nI j + nI i = nI (32768 * j + i) by rw [pk_mul, nI_add], cl (by omega), vn8, by8_s (by omega)]
      refine ⟨vin (by omega) (by decide), fun m3 e3 x4 e4 => ?_⟩
      rw [e4, nI_add]
      refine ih (i + 1) q m3 (upd f (32768 * j + i) (nI k)) hq (by omega) (by omega) (by rw [e3, hm, ri_e, xu_II]) ?_ h
      intro x
      by_cases hx : x = 32768 * j + i
      · subst hx
        rw [upd_e, if_pos (by omega)]
      · rw [upd_n hx, hf]
        by_cases h2 : 32768 * j + q * S ≤ x ∧ x < 32768 * j + i
        · rw [if_pos h2, if_pos (by omega)]
        · rw [if_neg h2, if_neg (by omega)]
  apply g_X9_gives
  intro x1 e1
  rw [sh15 hL, hSe] at e1
  rw [e1]
  cases hp : fpart s.1 (ln k) with
  | none =>
    have outer : ∀ (d q : Nat), q + d = 2 ^ ln k → hd_X9_gives_9 b Q (nI j) (nI k) (nI S) (nI (q * S)) μ := by
      intro d
      induction d with
      | zero =>
        intro q hq
        have : q = 2 ^ ln k := by omega
        apply l_X9_gives_9
        rw [this, hSS]
        refine pk_le 32768 32768 (fun _ => ?_) (fun c => by omega)
        rw [← hQ]
        exact Or.inl ⟨hp, rfl, rfl⟩
      | succ d ih =>
        intro q hq
        have hq2 : q < 2 ^ ln k := by omega
        have hb := qb q hq2
        apply l_X9_gives_9
        refine pk_le 32768 (q * S) (fun c => by omega) (fun c => ?_)
        refine used S (q * S) q hq2 (by omega) (Nat.le_refl _) ?_ ?_
        · apply Classical.byContradiction
          intro hno
          refine ff_none hR hL hp hq2 (fun x hx hy => Classical.byContradiction (fun hn => hno ⟨x, ?_, ?_, hn⟩))
          · exact ((hyin x q).mp hy).1
          · have := ((hyin x q).mp hy).2
            rw [Nat.add_mul, Nat.one_mul] at this
            exact this
        · have := ih (q + 1) (by omega)
          rw [Nat.add_mul, Nat.one_mul] at this
          exact this
    have := outer (2 ^ ln k) 0 (by omega)
    rw [Nat.zero_mul] at this
    exact this
  | some p =>
    obtain ⟨p1, ⟨w, hw⟩, p3⟩ := fpart_some hp
    have hwl := word_lt hR hp hw
    have outer : ∀ (d q : Nat), q + d = w * 2 ^ (ln k - p) → hd_X9_gives_9 b Q (nI j) (nI k) (nI S) (nI (q * S)) μ := by
      intro d
      induction d with
      | zero =>
        intro q hq
        have hqe : q = w * 2 ^ (ln k - p) := by omega
        have hq2 : q < 2 ^ ln k := by omega
        have hb := qb q hq2
        apply l_X9_gives_9
        refine pk_le 32768 (q * S) (fun c => by omega) (fun c => ?_)
        refine free S (q * S) q hq2 (by omega) (Nat.le_refl _) ?_ ?_
        · intro x x1 x2
          refine ff_free (ln := ln) (k := k) hL hp hw ((hyin x _).mpr ?_)
          rw [← hqe, Nat.add_mul, Nat.one_mul]
          exact ⟨x1, x2⟩
        · refine fill S (q * S) q μ (μ.1 92) hq2 (by omega) (Nat.le_refl _) ?_ ?_ ?_
          · unfold xu_I
            refine Prod.ext ?_ rfl
            funext c
            by_cases hc : c = 92
            · subst hc; simp [va_up]
            · simp [va_up, hc]
          · intro x
            rw [if_neg (by omega)]
          · intro f hf
            rw [← hQ]
            refine Or.inr ⟨p, w, f, hp, hw, rfl, rfl, fun i hi => by rw [hf, if_neg (by omega)], fun F U => ⟨?_, ?_⟩⟩
            · -- a place that is free now was free
              intro x hx hfr
              have hR2 := RI_take (F := F) hR h0 hL hp hw
              have hnu : ¬ (32768 * j + q * S ≤ 32768 * j + x ∧ 32768 * j + x < 32768 * j + (q * S + S)) := by
                intro hin
                refine hR2.2.2.2.2.1 x k hx hfr ⟨by omega, h0, ?_⟩
                show _ = wup s.2.1 k _ k
                unfold wup
                rw [if_pos rfl, ← hqe, hyin, Nat.add_mul, Nat.one_mul]
                omega
              rw [hf, if_neg hnu]
              refine hO.1 x hx ?_
              rcases hR.2.2.2.1 x hx with h2 | ⟨e, h2⟩
              · exact h2
              · exfalso
                refine hR2.2.2.2.2.1 x e hx hfr ⟨by have := h2.1; omega, h2.2.1, ?_⟩
                show _ = wup s.2.1 k _ e
                unfold wup
                rw [if_neg (by have := h2.1; omega)]
                exact h2.2.2
            · intro x e hx hu
              obtain ⟨u1, u2, u3⟩ := hu
              have u3 : yy x (ln e) = wup s.2.1 k (w * 2 ^ (ln k - p)) e := u3
              by_cases hek : e = k
              · subst hek
                unfold wup at u3
                rw [if_pos rfl, ← hqe, hyin, Nat.add_mul, Nat.one_mul] at u3
                rw [hf, if_pos (by omega)]
              · unfold wup at u3
                rw [if_neg hek] at u3
                have hue : usX ln s.2.1 k x e := ⟨by omega, u2, u3⟩
                have hnu : ¬ (32768 * j + q * S ≤ 32768 * j + x ∧ 32768 * j + x < 32768 * j + (q * S + S)) := by
                  intro hin
                  refine hR.2.2.2.2.1 x e hx (ff_free (ln := ln) (k := k) hL hp hw ?_) hue
                  rw [← hqe, hyin, Nat.add_mul, Nat.one_mul]
                  omega
                rw [hf, if_neg hnu]
                exact hO.2 x e hx hue
      | succ d ih =>
        intro q hq
        have hq2 : q < 2 ^ ln k := by omega
        have hb := qb q hq2
        apply l_X9_gives_9
        refine pk_le 32768 (q * S) (fun c => by omega) (fun c => ?_)
        refine used S (q * S) q hq2 (by omega) (Nat.le_refl _) ?_ ?_
        · apply Classical.byContradiction
          intro hno
          have := ff_least hR hL hp hw hq2 (fun x hx hy => Classical.byContradiction (fun hn => hno ⟨x, ((hyin x q).mp hy).1, by
            have := ((hyin x q).mp hy).2
            rw [Nat.add_mul, Nat.one_mul] at this
            exact this, hn⟩))
          omega
        · have := ih (q + 1) (by omega)
          rw [Nat.add_mul, Nat.one_mul] at this
          exact this
    have := outer (w * 2 ^ (ln k - p)) 0 (by omega)
    rw [Nat.zero_mul] at this
    exact this
