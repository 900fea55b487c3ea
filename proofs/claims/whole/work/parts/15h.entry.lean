/-! ===== the next entry ===== -/
def wv (pk : List Int32) (a : Nat) : Nat → Nat
  | 0 => 0
  | d + 1 => 2 * wv pk a d + bb pk (a + d)
theorem wv_lt (pk : List Int32) (a : Nat) : ∀ d, wv pk a d < 2 ^ d
  | 0 => Nat.lt_succ_self 0
  | d + 1 => by
    have h1 := wv_lt pk a d
    have h2 := bb_lt pk (a + d)
    unfold wv
    rw [Nat.pow_succ]
    omega
theorem wv_up (pk : List Int32) (a : Nat) {d d' : Nat} (h : d ≤ d') : wv pk a d' / 2 ^ (d' - d) = wv pk a d := by
  induction h with
  | refl => rw [Nat.sub_self, Nat.pow_zero, Nat.div_one]
  | @step d' h ih =>
    have h2 := bb_lt pk (a + d')
    have hd : d ≤ d' := h
    rw [show d'.succ - d = (d' - d) + 1 by omega, Nat.pow_succ, Nat.mul_comm, ← Nat.div_div_eq_div_mul]
    show (2 * wv pk a d' + bb pk (a + d')) / 2 / 2 ^ (d' - d) = _
    rw [show (2 * wv pk a d' + bb pk (a + d')) / 2 = wv pk a d' by omega]
    exact ih
def GW (ln : Nat → Nat) (n : Nat) : Nat → Nat := match GT ln n with
  | some s => s.2.1
  | none => fun _ => 0
theorem GW_eq {ln : Nat → Nat} {n : Nat} {s : TSt} (h : GT ln n = some s) : GW ln n = s.2.1 := by
  unfold GW
  rw [h]
/-- the entry whose word stands next -/
def okE (ln : Nat → Nat) (n : Nat) (pk : List Int32) (a e d : Nat) : Prop := e < n ∧ 1 ≤ d ∧ ln e = d ∧ GW ln n e = wv pk a d ∧ a + d ≤ 8 * pk.length
theorem okE_fn {ln : Nat → Nat} (hl : ∀ e, ln e ≤ 15) {n : Nat} (hW : WH ln n) {pk : List Int32} {a e d e' d' : Nat} (h : okE ln n pk a e d) (h' : okE ln n pk a e' d') : e = e' ∧ d = d' := by
  obtain ⟨s, hs, -⟩ := hW
  obtain ⟨a1, a2, a3, a4, a5⟩ := h
  obtain ⟨b1, b2, b3, b4, b5⟩ := h'
  rw [GW_eq hs] at a4 b4
  have hR := (GT_I hl n s hs).1
  have key : ∀ e d e' d', e < n → 1 ≤ d → ln e = d → s.2.1 e = wv pk a d → e' < n → 1 ≤ d' → ln e' = d' → s.2.1 e' = wv pk a d' → d ≤ d' → e = e' := by
    intro e d e' d' a1 a2 a3 a4 b1 b2 b3 b4 hd
    have h15 := hl e'
    have hx : wv pk a d' * 2 ^ (15 - d') < 32768 := by
      have : (wv pk a d' + 1) * 2 ^ (15 - d') ≤ 2 ^ d' * 2 ^ (15 - d') := Nat.mul_le_mul_right _ (wv_lt pk a d')
      rw [← Nat.pow_add, show d' + (15 - d') = 15 by omega, Nat.add_mul, Nat.one_mul] at this
      have e : (2 : Nat) ^ 15 = 32768 := rfl
      have := p2pos (15 - d')
      omega
    have hy : yy (wv pk a d' * 2 ^ (15 - d')) d' = wv pk a d' := Nat.mul_div_cancel _ (p2pos _)
    refine hR.2.2.2.2.2 _ e e' hx ⟨a1, by omega, ?_⟩ ⟨b1, by omega, by rw [b3, hy, b4]⟩
    rw [a3, yy_up hd (by omega), hy, wv_up pk a hd, a4]
  rcases Nat.le_total d d' with h | h
  · have := key e d e' d' a1 a2 a3 a4 b1 b2 b3 b4 h
    subst this
    exact ⟨rfl, by omega⟩
  · have := key e' d' e d b1 b2 b3 b4 a1 a2 a3 a4 h
    subst this
    exact ⟨rfl, by omega⟩
def cT (μ : xm_M) (B : Nat) (ln : Nat → Nat) (n : Nat) : Prop := ∃ s F, GT ln n = some s ∧ TI (μ.1 (B + 3)) ln s.2.1 n F ∧ F ≤ s.2.2.1
def mT (μ : xm_M) (j : Nat) (ln : Nat → Nat) (n : Nat) : Prop := (∀ e, e < n → μ.1 93 (64 * j + e) = nI (ln e)) ∧ ∃ s, GT ln n = some s ∧ OW (μ.1 92) j ln n s ∧ μ.1 85 j = nI s.2.2.2
theorem c_nextEntry {μ : xm_M} {pk : List Int32} {a B n : Nat} {ln : Nat → Nat} (hB : xs_bk B) (hn : 1 ≤ n ∧ n ≤ 64) (hl : ∀ e, ln e ≤ 15) (hW : WH ln n) (hT : cT μ B ln n) (hI : bR μ pk a) : xCi true true k_X1_nextEntry μ [.ref B, .ref 7] (fun r μ' => fm [7] μ μ' ∧ ((∃ e d, okE ln n pk a e d ∧ r = nI e ∧ bR μ' pk (a + d)) ∨ ((∀ e d, ¬ okE ln n pk a e d) ∧ r = -1 ∧ bR μ' pk (8 * pk.length)))) := by
  generalize hQ : (fun (r : Int32) (μ' : xm_M) => fm [7] μ μ' ∧ ((∃ e d, okE ln n pk a e d ∧ r = nI e ∧ bR μ' pk (a + d)) ∨ ((∀ e d, ¬ okE ln n pk a e d) ∧ r = -1 ∧ bR μ' pk (8 * pk.length)))) = Q
  obtain ⟨s, F, hs, ⟨D, Pf, ⟨t1, t2, t3, t4, t5, t6⟩, td⟩, hF⟩ := hT
  have hF64 : F ≤ 64 := by
    rcases Nat.lt_or_ge 64 s.2.2.1 with h | h
    · exact absurd hW (big_not hl hn.2 (Nat.le_refl _) hs h)
    · omega
  have hR := (GT_I hl n s hs).1
  have hB16 : 16 ≤ B := by obtain ⟨j, -, hj⟩ := hB; omega
  have hGW := GW_eq hs
  have main : ∀ (t d g : Nat) (m : xm_M), d + t = 15 → g < F → D g = d → Pf g = wv pk a d → (∀ e d', d' ≤ d → ¬ okE ln n pk a e d') → a + d ≤ 8 * pk.length → bR m pk (a + d) → fm [7] μ m → hd_X1_nextEntry_4 Q B (nI g) (nI d) m := by
    intro t
    induction t with
    | zero =>
      intro d g m hd hg hD hP hno ha hm hf
      have : d = 15 := by omega
      subst this
      refine l_X1_nextEntry_4 _ _ hB ?_
      refine pk_le 15 15 (fun _ => ⟨_, c_close hm, fun m3 e3 => ?_⟩) (fun c => by omega)
      rw [← hQ]
      exact ⟨hf.tr e3.1, Or.inr ⟨fun e d h => hno e d (by have := hl e; have := h.2.2.1; omega) h, rfl, e3.2⟩⟩
    | succ t ih =>
      intro d g m hd hg hD hP hno ha hm hf
      refine l_X1_nextEntry_4 _ _ hB ?_
      refine pk_le 15 d (fun c => by omega) (fun _ => ⟨_, c_bit hm, fun r8 m7 e7 x10 e10 => ?_⟩)
      obtain ⟨f1, e7⟩ := e7
      have hf7 := hf.tr f1
      rcases e7 with ⟨q1, q2, q3⟩ | ⟨q1, q2, q3⟩
      · have hc2 := bb_lt pk (a + d)
        have hpw : 2 * Pf g + bb pk (a + d) = wv pk a (d + 1) := by rw [hP]; rfl
        rw [q2, pk_mul, nI_add] at e10
        rw [e10, q2, cl (by omega)]
        have h3 : m7.1 (B + 3) = μ.1 (B + 3) := (hf7 (B + 3) (by simp; omega)).1
        rw [h3]
        refine ⟨fun c => absurd c (n0 (by omega)), fun _ => ⟨fun c => absurd c (n0 (by omega)), fun _ => pk_lt _ 128 (fun _ => ⟨vin (by omega) (by decide), ?_⟩) (fun c => by omega)⟩⟩
        rcases t4 g (bb pk (a + d)) hg (by omega) hc2 with ⟨z1, z2⟩ | ⟨h, g1, g2, g3, g4, g5⟩ | ⟨e, g1, g2, g3, g4⟩
        · -- no word begins so
          rw [z1]
          refine ⟨fun _ => ⟨fun c => absurd rfl c, fun _ => ⟨_, c_close q3, fun m19 e19 => ?_⟩⟩, fun c => absurd (by decide) c⟩
          rw [← hQ]
          refine ⟨hf7.tr e19.1, Or.inr ⟨fun e d' h => ?_, rfl, e19.2⟩⟩
          rcases Nat.lt_or_ge d d' with hlt | hge
          · obtain ⟨o1, o2, o3, o4, o5⟩ := h
            refine z2 e o1 (by omega) (by omega) ?_
            rw [hpw, hD, o3, ← hGW, o4, wv_up pk a (by omega)]
          · exact hno e d' hge h
        · rw [g3]
          have h0 : ¬ nI h = 0 := nI_ne0 g1 (by omega)
          refine ⟨fun _ => ⟨fun _ x17 e17 => ?_, fun c => absurd c h0⟩, fun c => absurd (n0' (by omega)) c⟩
          rw [e17, nI_add]
          refine ih (d + 1) h m7 (by omega) g2 (by omega) (by rw [g5, hpw]) ?_ (by omega) q3 hf7
          intro e d' hd' ho
          rcases Nat.lt_or_ge d d' with hlt | hge
          · have : d' = d + 1 := by omega
            subst this
            obtain ⟨o1, o2, o3, o4, o5⟩ := ho
            obtain ⟨e', p1, p2, p3⟩ := td h g1 g2
            rw [g4, hD] at p2 p3
            have h15 := hl e'
            have hwl := hR.2.2.1 e' p1 (by omega)
            have hx : s.2.1 e' * 2 ^ (15 - ln e') < 32768 := by
              have : (s.2.1 e' + 1) * 2 ^ (15 - ln e') ≤ 2 ^ ln e' * 2 ^ (15 - ln e') := Nat.mul_le_mul_right _ hwl
              rw [← Nat.pow_add, show ln e' + (15 - ln e') = 15 by omega, Nat.add_mul, Nat.one_mul] at this
              have e : (2 : Nat) ^ 15 = 32768 := rfl
              have := p2pos (15 - ln e')
              omega
            have hy : yy (s.2.1 e' * 2 ^ (15 - ln e')) (ln e') = s.2.1 e' := Nat.mul_div_cancel _ (p2pos _)
            have := hR.2.2.2.2.2 _ e e' hx ⟨o1, by omega, by
              rw [o3, yy_up (show d + 1 ≤ ln e' by omega) (by omega), hy, p3, g5, hpw, ← hGW, o4]⟩ ⟨p1, by omega, hy⟩
            subst this
            omega
          · exact hno e d' hge ho
        · rw [g4]
          refine ⟨fun c => absurd (lf_neg (e := e) (by omega)) (by rw [Int32.not_lt]; exact c), fun _ => ?_⟩
          rw [lf_back (by omega), ← hQ]
          exact ⟨hf7, Or.inl ⟨e, d + 1, ⟨g1, by omega, by omega, by rw [hGW, g3, hpw], by omega⟩, rfl, q3⟩⟩
      · rw [q2]
        refine ⟨fun _ => ?_, fun c => absurd (by decide) c⟩
        rw [← hQ]
        refine ⟨hf7, Or.inr ⟨fun e d' h => ?_, rfl, by rw [← q1]; exact q3⟩⟩
        rcases Nat.lt_or_ge d d' with hlt | hge
        · have := h.2.2.2.2
          omega
        · exact hno e d' hge h
  refine g_X1_nextEntry hB ?_
  exact main 15 0 0 μ (by omega) (by omega) t1 t2 (fun e d' h ho => by have := ho.2.1; omega) (by obtain ⟨st, b1, b2, b3, b4, b5⟩ := hI; omega) hI fm.rf
theorem mR.over {μ m2 : xm_M} {pk : List Int32} {a : Nat} {ov : Bool} (hI : mR μ pk a ov) (e2 : m2 = xu_I μ 75 (upd (μ.1 75) 17 (nI 1))) : fb μ m2 ∧ mR m2 pk a true := by
  obtain ⟨K, b1, b2, b3, b4, b5, b6, b7, b8⟩ := hI
  refine ⟨⟨fun c hc => by rw [e2, ri_n hc], by rw [e2]; rfl, fun k _ k17 => by rw [e2, ri_e, upd_n k17]⟩, K, b1, b2, ?_, ?_, ?_, ?_, b7, ?_⟩
  · rw [e2, ri_e, upd_n (by decide)]; exact b3
  · rw [e2, ri_e, upd_n (by decide)]; exact b4
  · rw [e2, ri_e, upd_n (by decide)]; exact b5
  · rw [e2, ri_e, upd_e]; rfl
  · intro i v hi; rw [e2, ri_n (by decide)]; exact b8 i v hi
theorem mR.ov17 {μ : xm_M} {pk : List Int32} {a : Nat} {ov : Bool} (hI : mR μ pk a ov) : μ.1 75 17 = nI (if ov = true then 1 else 0) := by
  obtain ⟨K, b1, b2, b3, b4, b5, b6, b7, b8⟩ := hI
  exact b6
theorem or_up {w c t : Nat} (hc : c < 2) (ht : t < 15) (hw : w * 2 ^ (t + 1) + c * 2 ^ t < 2 ^ 31) : nI (w * 2 ^ (t + 1)) ||| (nI c <<< (nI t &&& 31)) = nI ((2 * w + c) * 2 ^ t) := by
  have hs : ∀ k, k < 31 → ((nI k &&& 31).toBitVec.smod 32).toNat = k := by decide +kernel
  have hp : 2 ^ t ≤ 2 ^ 14 := Nat.pow_le_pow_right (by decide) (by omega)
  have hyk : c * 2 ^ t ≤ 1 * 2 ^ t := Nat.mul_le_mul_right _ (by omega)
  have hpos := p2pos t
  have h2 : c * 2 ^ t < 2 ^ (t + 1) := by rw [Nat.pow_succ]; omega
  rw [pk_shlN (nI t &&& 31) t (hs t (by omega)) (by omega)]
  apply Int32.toBitVec_inj.mp
  rw [Int32.toBitVec_or]
  apply BitVec.eq_of_toNat_eq
  have he : (2 * w + c) * 2 ^ t = 2 ^ (t + 1) * w + c * 2 ^ t := by
    rw [Nat.add_mul, Nat.pow_succ, Nat.mul_comm 2 w, Nat.mul_assoc, Nat.mul_comm (2 ^ t) 2, Nat.mul_comm _ w]
  rw [BitVec.toNat_or, nI_toNat (by omega), nI_toNat (by omega), nI_toNat (by rw [he, Nat.mul_comm _ w]; omega), he, Nat.mul_comm w, ← Nat.two_pow_add_eq_or_of_lt h2]
theorem c_entry {b : Bool} {μ : xm_M} {pk : List Int32} {a j n : Nat} {ln : Nat → Nat} (hj : j < 8) (hn : 1 ≤ n ∧ n ≤ 64) (hl : ∀ e, ln e ≤ 15) (hW : WH ln n) (hT : mT μ j ln n) (hI : mR μ pk a false) : xCi b b k_X9_entry μ [.ref 75, .int (nI j)] (fun r μ' => fb μ μ' ∧ ((∃ e d, okE ln n pk a e d ∧ r = nI e ∧ mR μ' pk (a + d) false) ∨ ((∀ e d, ¬ okE ln n pk a e d) ∧ r = -1 ∧ ∃ a', mR μ' pk a' true))) := by
  generalize hQ : (fun (r : Int32) (μ' : xm_M) => fb μ μ' ∧ ((∃ e d, okE ln n pk a e d ∧ r = nI e ∧ mR μ' pk (a + d) false) ∨ ((∀ e d, ¬ okE ln n pk a e d) ∧ r = -1 ∧ ∃ a', mR μ' pk a' true))) = Q
  obtain ⟨hT1, s, hs, hO, hU⟩ := hT
  have hR := (GT_I hl n s hs).1
  have hUb := (GT_I hl n s hs).2.1
  have hGW := GW_eq hs
  have main : ∀ (t d : Nat) (m : xm_M), d + t = 15 → (∀ e d', d' ≤ d → ¬ okE ln n pk a e d') → mR m pk (a + d) false → fb μ m → hd_X9_entry_5 b Q (nI j) (nI (wv pk a d * 2 ^ t)) (nI t + (-1)) m := by
    intro t
    induction t with
    | zero =>
      intro d m hd hno hm hf
      apply l_X9_entry_5
      refine ⟨fun _ m2 e2 => ?_, fun c => absurd (by decide) c⟩
      obtain ⟨o1, o2⟩ := hm.over e2
      rw [← hQ]
      exact ⟨hf.tr o1, Or.inr ⟨fun e d' h => hno e d' (by have := hl e; have := h.2.2.1; omega) h, rfl, _, o2⟩⟩
    | succ t ih =>
      intro d m hd hno hm hf
      have hc2 := bb_lt pk (a + d)
      have hpw : 2 * wv pk a d + bb pk (a + d) = wv pk a (d + 1) := rfl
      have hx : wv pk a (d + 1) * 2 ^ t < 32768 := by
        have : (wv pk a (d + 1) + 1) * 2 ^ t ≤ 2 ^ (d + 1) * 2 ^ t := Nat.mul_le_mul_right _ (wv_lt pk a (d + 1))
        rw [← Nat.pow_add, show d + 1 + t = 15 by omega, Nat.add_mul, Nat.one_mul] at this
        have e : (2 : Nat) ^ 15 = 32768 := rfl
        have := p2pos t
        omega
      have hy : yy (wv pk a (d + 1) * 2 ^ t) (d + 1) = wv pk a (d + 1) := by
        unfold yy
        rw [show 15 - (d + 1) = t by omega]
        exact Nat.mul_div_cancel _ (p2pos _)
      apply l_X9_entry_5
      rw [pk_m1]
      refine ⟨fun c => absurd c (n0 (by omega)), fun _ => ⟨_, c_mbit hm, fun r5 m4 e4 x7 e7 => ?_⟩⟩
      obtain ⟨f1, e4⟩ := e4
      have hf4 := hf.tr f1
      have h92 : m4.1 92 = μ.1 92 := hf4.1 92 (by decide)
      have h93 : m4.1 93 = μ.1 93 := hf4.1 93 (by decide)
      have h85 : m4.1 85 = μ.1 85 := hf4.1 85 (by decide)
      rcases e4 with ⟨-, q1, q2, q3⟩ | ⟨q0, q2, q3⟩
      · have h17 := q3.ov17
        have hx7 : x7 = nI (wv pk a (d + 1) * 2 ^ t) := by
          rw [e7, q2, or_up hc2 (by omega), hpw]
          have : (2 * wv pk a d + bb pk (a + d)) * 2 ^ t < 32768 := by rw [hpw]; exact hx
          have he : (2 * wv pk a d + bb pk (a + d)) * 2 ^ t = wv pk a d * 2 ^ (t + 1) + bb pk (a + d) * 2 ^ t := by
            rw [Nat.add_mul, Nat.pow_succ, Nat.mul_comm 2 (wv pk a d), Nat.mul_assoc, Nat.mul_comm (2 ^ t) 2]
          omega
        rw [hx7, h17, h92, h93, h85, cl (show j < 2 ^ 31 by omega), show nI 32768 * nI j + nI (wv pk a (d + 1) * 2 ^ t) = nI (32768 * j + wv pk a (d + 1) * 2 ^ t) by rw [pk_mul, nI_add], cl (show 32768 * j + wv pk a (d + 1) * 2 ^ t < 2 ^ 31 by omega), hU, pk_sub (show t ≤ 15 by omega)]
        refine ⟨fun _ => ⟨vin (by omega) (by decide), ?_⟩, fun c => absurd rfl c⟩
        -- what follows where the word isn't one
        have cont : (∀ e, ¬ okE ln n pk a e (d + 1)) → vp_in (nI j) 8 ∧ ((¬ nI s.2.2.2 = nI 1 → ∀ x13 : Int32, x13 = nI t + (-1) → hd_X9_entry_5 b Q (nI j) (nI (wv pk a (d + 1) * 2 ^ t)) x13 m4) ∧ (nI s.2.2.2 = nI 1 → ∀ m14 : xm_M, m14 = xu_I m4 75 (upd (m4.1 75) 17 (nI 1)) → Q (-1) m14)) := by
          intro hno1
          have hno2 : ∀ e d', d' ≤ d + 1 → ¬ okE ln n pk a e d' := by
            intro e d' hd' ho
            by_cases h : d' = d + 1
            · rw [h] at ho; exact hno1 e ho
            · exact hno e d' (by omega) ho
          refine ⟨vin hj (by decide), fun c x13 e13 => ?_, fun c m14 e14 => ?_⟩
          · rw [e13]
            exact ih (d + 1) m4 (by omega) hno2 q3 hf4
          · obtain ⟨o1, o2⟩ := q3.over e14
            rw [← hQ]
            refine ⟨hf4.tr o1, Or.inr ⟨fun e d' ho => ?_, rfl, _, o2⟩⟩
            have hu : s.2.2.2 = 1 := nI_inj (by omega) (by decide) c
            have h1 := (WH_one hl hs hu ho.1 (by have := ho.2.1; have := ho.2.2.1; omega)).mp hW
            exact hno2 e d' (by have := ho.2.2.1; omega) ho
        have own : ∀ e, okE ln n pk a e (d + 1) → usX ln s.2.1 n (wv pk a (d + 1) * 2 ^ t) e := by
          intro e ho
          obtain ⟨o1, o2, o3, o4, o5⟩ := ho
          exact ⟨o1, by omega, by rw [o3, hy, ← hGW, o4]⟩
        rcases hR.2.2.2.1 _ hx with hfr | ⟨e, hu⟩
        · rw [hO.1 _ hx hfr]
          exact ⟨fun _ => cont (fun e ho => hR.2.2.2.2.1 _ e hx hfr (own e ho)), fun c => absurd (by decide) c⟩
        · have hen := hu.1
          rw [hO.2 _ e hx hu, show nI 64 * nI j + nI e = nI (64 * j + e) by rw [pk_mul, nI_add], cl (show 64 * j + e < 2 ^ 31 by omega), hT1 e hu.1]
          have hle := hl e
          refine ⟨fun c => absurd c (n0 (by omega)), fun _ => ⟨vin (by omega) (by decide), fun c => cont (fun e' ho => ?_), fun c => ?_⟩⟩
          · have := hR.2.2.2.2.2 _ e e' hx hu (own e' ho)
            subst this
            exact c (by rw [ho.2.2.1]; congr 1; omega)
          · have hd1 := nI_inj (by omega) (by omega) c
            rw [← hQ]
            refine ⟨hf4, Or.inl ⟨e, d + 1, ⟨hu.1, by omega, by omega, ?_, by omega⟩, rfl, q3⟩⟩
            have hu3 := hu.2.2
            rw [hd1, show 15 - t = d + 1 by omega, hy] at hu3
            rw [hGW, hu3]
      · have h17 := q3.ov17
        rw [h17]
        refine ⟨fun c => absurd c (by decide), fun _ => ?_⟩
        rw [← hQ]
        refine ⟨hf4, Or.inr ⟨fun e d' ho => ?_, rfl, _, q3⟩⟩
        rcases q0 with q0 | q0
        · cases q0
        · rcases Nat.lt_or_ge d d' with hlt | hge
          · have := ho.2.2.2.2
            omega
          · exact hno e d' hge ho
  apply g_X9_entry
  have := main 15 0 μ (by omega) (fun e d' h ho => by have := ho.2.1; omega) hI fb.rf
  rw [show wv pk a 0 = 0 from rfl, Nat.zero_mul, pk_m1] at this
  exact this
