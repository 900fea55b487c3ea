theorem c_takeLace {b : Bool} {μ : xm_M} {n p : Nat} {t : Nat → Int32} {s : PSt} (l : Nat) (h6 : n ≤ 6000) (hl : l < 256) (hp : p + l ≤ n) (hI : kpR μ n t p s) : xCv b b k_X3_takeLace μ [.ref 3, .ref 1, .int (nI p), .int (nI l)] (fun μ' => kpR μ' n t (p + l) (lcS t p l s) ∧ fm [2, 3, 4, 5] μ μ' ∧ k3 μ μ') := by
  have hI0 := hI
  obtain ⟨a1, a2, a3, a4, a5, a6, a7, a8, a9, a10, a11, a12, a13, a14, a15⟩ := hI
  -- behind the bytes, ahead of an end
  have fin : ∀ m : xm_M, kpR m n t (p + l) (adS t p l s) → fm [2, 3, 4, 5] μ m → k3 μ m → ((nI 255 ≤ nI l → (kpR m n t (p + l) (lcS t p l s) ∧ fm [2, 3, 4, 5] μ m ∧ k3 μ m)) ∧ (¬ nI 255 ≤ nI l → ∃ Q4 : xm_M → Prop, xCv b b k_X3_endPacket m [.ref 3] Q4 ∧ ∀ m5 : xm_M, Q4 m5 → (kpR m5 n t (p + l) (lcS t p l s) ∧ fm [2, 3, 4, 5] μ m5 ∧ k3 μ m5))) := by
    intro m hm hf hk
    refine ⟨fun c => ⟨?_, hf, hk⟩, fun c => ⟨_, c_endPacket h6 hm, ?_⟩⟩
    · rw [nI_leI (by decide) (by omega)] at c
      rw [lcS, if_neg (by omega)]
      exact hm
    · intro m5 e
      rw [nI_leI (by decide) (by omega)] at c
      rw [lcS, if_pos (by omega)]
      exact ⟨e.1, hf.tr (e.2.1.mono (by intro c hc; revert hc; simp; omega)), hk.tr e.2.2⟩
  have hseg := seg_len t p l
  apply g_X3_takeLace
  rw [a7, nI_add, a6, nI_add]
  refine ⟨fun c => ?_, fun c => ⟨_, c_moveBack p (s.1.flatten.length + s.2.1.length) l (by omega) (by omega) a14, ?_⟩⟩
  · rw [nI_ltI (by decide) (by omega)] at c
    intro m2 e2
    refine fin m2 ?_ (by rw [e2]; exact fm.rf.I (by decide)) ⟨by rw [e2]; rfl, fun k h0 h3 h4 h12 h13 => by rw [e2, ri_e, upd_n h13]⟩
    have h2 : m2.1 2 = μ.1 2 := by rw [e2, ri_n (by decide)]
    refine ⟨?_, a2, ?_, ?_, a5, ?_, ?_, ?_, hp, ?_, ?_, ?_, ?_, ?_, a15⟩
    · rw [e2, ri_e, upd_n (by decide), a1]; rfl
    · rw [e2, ri_e, upd_n (by decide), a3]; rfl
    · rw [e2, ri_e, upd_n (by decide), a4]; rfl
    · rw [e2, ri_e, upd_n (by decide), a6]; rfl
    · rw [e2, ri_e, upd_e]; simp only [adS, List.length_append, hseg]
    · simp only [adS, List.length_append, hseg]; omega
    · intro k hk; rw [e2, ri_n (by decide), ri_n (by decide)]; exact a10 k hk
    · intro i v h; rw [h2]; exact a11 i v h
    · intro hle; simp only [adS, List.length_append, hseg] at hle; omega
    · intro j h1 h3; rw [h2]; exact a13 j (by omega) h3
    · intro j; rw [h2]; exact a14 j
  · rw [nI_ltI (by decide) (by omega)] at c
    intro m9 e9 m12 e12
    have h93 : m9.1 3 = μ.1 3 := by rw [e9, ri_n (by decide)]
    rw [h93, a7, nI_add] at e12
    have h2 : m12.1 2 = va_cpy (μ.1 2) (μ.1 2) p (s.1.flatten.length + s.2.1.length) l := by rw [e12, ri_n (by decide), e9, ri_e]
    refine fin m12 ?_ (by rw [e12, e9]; exact (fm.rf.I (by decide)).I (by decide)) ⟨by rw [e12, e9]; rfl, fun k h0 h3 h4 h12 h13 => by rw [e12, ri_e, upd_n h13]⟩
    refine ⟨?_, a2, ?_, ?_, a5, ?_, ?_, ?_, hp, ?_, ?_, ?_, ?_, ?_, a15⟩
    · rw [e12, ri_e, upd_n (by decide), a1]; rfl
    · rw [e12, ri_e, upd_n (by decide), a3]; rfl
    · rw [e12, ri_e, upd_n (by decide), a4]; rfl
    · rw [e12, ri_e, upd_n (by decide), a6]; rfl
    · rw [e12, ri_e, upd_e]; simp only [adS, List.length_append, hseg]
    · simp only [adS, List.length_append, hseg]; omega
    · intro k hk; rw [e12, ri_n (by decide), ri_n (by decide), e9, ri_n (by decide), ri_n (by decide)]; exact a10 k hk
    · intro i v h
      have hi : i < s.1.flatten.length := (List.getElem?_eq_some_iff.mp h).1
      rw [h2, pk_cpy_out (by omega)]
      exact a11 i v h
    · intro hle j v h
      simp only [adS] at h ⊢
      rw [List.getElem?_append] at h
      rw [h2]
      split at h
      · rename_i hj
        rw [pk_cpy_out (by omega)]
        exact a12 (by omega) j v h
      · rename_i hj
        obtain ⟨g1, g2⟩ := seg_get h
        rw [pk_cpy_in (by omega) (by omega), g2, show s.1.flatten.length + j - (s.1.flatten.length + s.2.1.length) = j - s.2.1.length by omega]
        exact a13 _ (by omega) (by omega)
    · intro j h1 h3; rw [h2, pk_cpy_out (by omega)]; exact a13 j (by omega) h3
    · intro j
      rw [h2]
      unfold va_cpy
      split
      · exact a14 _
      · exact a14 _
/-- the laces of a page, one after the other: thrown away still?, and the packets -/
def lcL (t : Nat → Int32) (a : Nat) (k0 : Bool) (s0 : PSt) : Nat → Bool × PSt
  | 0 => (k0, s0)
  | i + 1 => if (lcL t a k0 s0 i).1 = true then (decide (255 ≤ bn (t (a + 27 + i))), (lcL t a k0 s0 i).2) else (false, lcS t (a + 27 + pgL t a + lsum t a i) (bn (t (a + 27 + i))) (lcL t a k0 s0 i).2)
theorem kpR.mv {μ : xm_M} {n p p' : Nat} {t : Nat → Int32} {s : PSt} (h : kpR μ n t p s) (h1 : p ≤ p') (h2 : p' ≤ n) : kpR μ n t p' s := by
  obtain ⟨a1, a2, a3, a4, a5, a6, a7, a8, a9, a10, a11, a12, a13, a14, a15⟩ := h
  exact ⟨a1, a2, a3, a4, a5, a6, a7, by omega, h2, a10, a11, a12, fun j h3 h4 => a13 j (by omega) h4, a14, a15⟩
/-- what the packets' keeping needs of the memory -/
theorem kpR.cong {μ μ' : xm_M} {n p : Nat} {t : Nat → Int32} {s : PSt} (h : kpR μ n t p s) (e2 : μ'.1 2 = μ.1 2) (e4 : μ'.1 4 = μ.1 4) (e5 : μ'.1 5 = μ.1 5) (e0 : μ'.1 3 0 = μ.1 3 0) (e3 : μ'.1 3 3 = μ.1 3 3) (e34 : μ'.1 3 4 = μ.1 3 4) (e12 : μ'.1 3 12 = μ.1 3 12) (e13 : μ'.1 3 13 = μ.1 3 13) : kpR μ' n t p s := by
  obtain ⟨a1, a2, a3, a4, a5, a6, a7, a8, a9, a10, a11, a12, a13, a14, a15⟩ := h
  exact ⟨e0.trans a1, a2, e3.trans a3, e34.trans a4, a5, e12.trans a6, e13.trans a7, a8, a9, fun k hk => by rw [e4, e5]; exact a10 k hk, fun i v h => by rw [e2]; exact a11 i v h, fun h j v hj => by rw [e2]; exact a12 h j v hj, fun j h1 h2 => by rw [e2]; exact a13 j h1 h2, fun j => by rw [e2]; exact a14 j, a15⟩
theorem lsum_mono (t : Nat → Int32) (a : Nat) : ∀ {i j : Nat}, i ≤ j → lsum t a i ≤ lsum t a j := by
  intro i j h
  induction h with
  | refl => exact Nat.le_refl _
  | step h ih => exact Nat.le_trans ih (Nat.le_add_right _ _)
theorem c_takeLaces {b : Bool} {μ : xm_M} {n a : Nat} {t : Nat → Int32} {s : PSt} (k0 : Bool) (hn : μ.1 1 1 = nI n) (h6 : n ≤ 6000) (hW : a + pgW0 t a ≤ n) (hI : kpR μ n t a s) : xCv b b k_X3_takeLaces μ [.ref 3, .ref 1, .int (nI a), .int (nI (if k0 = true then 1 else 0))] (fun μ' => kpR μ' n t (a + pgW0 t a) (lcL t a k0 s (pgL t a)).2 ∧ fm [2, 3, 4, 5, 6] μ μ' ∧ k3 μ μ') := by
  have hL : pgL t a < 256 := bn_lt _
  have hW1 : 27 + pgL t a + lsum t a (pgL t a) = pgW0 t a := rfl
  have hT := hI.2.2.2.2.2.2.2.2.2.2.2.2.1
  have hbt : ∀ (m : xm_M), m.1 2 = μ.1 2 → ∀ j, a ≤ j → j < n → tb (m.1 2) n j = bn (t j) := by
    intro m hm j h1 h2
    rw [hm, tb, if_pos h2, hT j h1 h2]
  apply g_X3_takeLaces
  refine ⟨_, by rw [nI_add]; exact c_byteAt (a + 26) hn h6 (by omega), ?_⟩
  intro r m e x5 e5
  obtain ⟨q1, q2⟩ := e
  subst q2
  rw [hbt m rfl _ (by omega) (by omega)] at q1
  have e5 : x5 = nI (pgL t a) := by
    rw [e5, q1]
    split
    · rename_i h
      rw [nI_ltI (by decide) (by have := bn_lt (t (a + 26)); omega)] at h
      have := bn_lt (t (a + 26))
      omega
    · rfl
  rw [e5]
  have second : ∀ (d i : Nat) (m2 : xm_M), i + d = pgL t a → (∀ j, j < pgL t a → m2.1 6 j = nI (bn (t (a + 27 + j)))) → kpR m2 n t (a + 27 + pgL t a + lsum t a i) (lcL t a k0 s i).2 → fm [2, 3, 4, 5, 6] m m2 → k3 m m2 → hd_X3_takeLaces_67 b (fun μ' => kpR μ' n t (a + pgW0 t a) (lcL t a k0 s (pgL t a)).2 ∧ fm [2, 3, 4, 5, 6] m μ' ∧ k3 m μ') (nI (pgL t a)) (nI (if (lcL t a k0 s i).1 = true then 1 else 0)) (nI (a + 27 + pgL t a + lsum t a i)) (nI i) m2 := by
    intro d
    induction d with
    | zero =>
      intro i m2 hi h6' hk hf h3
      have : i = pgL t a := by omega
      subst this
      apply l_X3_takeLaces_67
      refine ⟨fun _ => ⟨?_, hf, h3⟩, fun c => absurd (nI_le (Nat.le_refl _) (by omega)) c⟩
      rw [show a + pgW0 t a = a + 27 + pgL t a + lsum t a (pgL t a) by omega]
      exact hk
    | succ d ih =>
      intro i m2 hi h6' hk hf h3
      have hb := bn_lt (t (a + 27 + i))
      have hls : lsum t a (i + 1) = lsum t a i + bn (t (a + 27 + i)) := rfl
      have hlm := lsum_mono t a (show i + 1 ≤ pgL t a by omega)
      have hic : (nI i).toNatClampNeg = i := cl (by omega)
      apply l_X3_takeLaces_67
      rw [hic, h6' i (by omega)]
      refine ⟨fun c => ?_, fun _ => ⟨fun c => ⟨vin (by omega) (by decide), fun c2 => ⟨vin (by omega) (by decide), ?_⟩, fun c2 => ⟨vin (by omega) (by decide), ?_⟩⟩, fun c => ⟨vin (by omega) (by decide), _, c_takeLace (bn (t (a + 27 + i))) h6 hb (by omega) hk, ?_⟩⟩⟩
      · rw [nI_leI (by omega) (by omega)] at c
        omega
      · intro x6 e6 x7 e7
        have hk0 : (lcL t a k0 s i).1 = true := by
          cases h : (lcL t a k0 s i).1 with
          | true => rfl
          | false => rw [h] at c; exact absurd rfl c
        rw [nI_leI (by decide) (by omega)] at c2
        have hst : lcL t a k0 s (i + 1) = (true, (lcL t a k0 s i).2) := by
          show (if _ then _ else _) = _
          rw [if_pos hk0, decide_eq_true c2]
        rw [e6, e7, nI_add, nI_add]
        have := ih (i + 1) m2 (by omega) h6' (by rw [hst]; exact hk.mv (by omega) (by omega)) hf h3
        rw [hst, hls, ← Nat.add_assoc] at this
        rw [hk0]
        exact this
      · intro x9 e9 x10 e10
        have hk0 : (lcL t a k0 s i).1 = true := by
          cases h : (lcL t a k0 s i).1 with
          | true => rfl
          | false => rw [h] at c; exact absurd rfl c
        rw [nI_leI (by decide) (by omega)] at c2
        have hst : lcL t a k0 s (i + 1) = (false, (lcL t a k0 s i).2) := by
          show (if _ then _ else _) = _
          rw [if_pos hk0, decide_eq_false c2]
        rw [e9, e10, nI_add, nI_add]
        have := ih (i + 1) m2 (by omega) h6' (by rw [hst]; exact hk.mv (by omega) (by omega)) hf h3
        rw [hst, hls, ← Nat.add_assoc] at this
        exact this
      · intro m13 e13
        have hk0 : (lcL t a k0 s i).1 = false := by
          cases h : (lcL t a k0 s i).1 with
          | false => rfl
          | true => rw [h] at c; revert c; decide
        have h66 : m13.1 6 = m2.1 6 := (e13.2.1 6 (by decide)).1
        refine ⟨vin (by omega) (by decide), ?_⟩
        intro x17 e17 x18 e18
        have hst : lcL t a k0 s (i + 1) = (false, lcS t (a + 27 + pgL t a + lsum t a i) (bn (t (a + 27 + i))) (lcL t a k0 s i).2) := by
          show (if _ then _ else _) = _
          rw [if_neg (by rw [hk0]; decide)]
        rw [h66, h6' i (by omega)] at e17
        rw [e17, e18, nI_add, nI_add]
        have := ih (i + 1) m13 (by omega) (by rw [h66]; exact h6') (by rw [hst, hls, ← Nat.add_assoc]; exact e13.1) (hf.tr (e13.2.1.mono (by intro c hc; revert hc; simp; omega))) (h3.tr e13.2.2)
        rw [hst, hls, ← Nat.add_assoc] at this
        rw [hk0]
        exact this
  have first : ∀ (d i : Nat) (m2 : xm_M), i + d = pgL t a → (∀ j, j < i → m2.1 6 j = nI (bn (t (a + 27 + j)))) → m2.1 1 1 = nI n → m2.1 2 = m.1 2 → fm [6] m m2 → m2.2.1 = m.2.1 → hd_X3_takeLaces_21 b (fun μ' => kpR μ' n t (a + pgW0 t a) (lcL t a k0 s (pgL t a)).2 ∧ fm [2, 3, 4, 5, 6] m μ' ∧ k3 m μ') (nI a) (nI (if k0 = true then 1 else 0)) (nI (pgL t a)) (nI i) m2 := by
    intro d
    induction d with
    | zero =>
      intro i m2 hi h6' hn2 h22 hf hl
      have : i = pgL t a := by omega
      subst this
      have c3 : m2.1 3 = m.1 3 := (hf 3 (by decide)).1
      apply l_X3_takeLaces_21
      refine ⟨fun _ => ?_, fun c => absurd (nI_le (Nat.le_refl _) (by omega)) c⟩
      intro x2 e2
      rw [e2, nI_add, nI_add]
      exact second (pgL t a) 0 m2 (by omega) h6' ((hI.cong h22 (hf 4 (by decide)).1 (hf 5 (by decide)).1 (by rw [c3]) (by rw [c3]) (by rw [c3]) (by rw [c3]) (by rw [c3])).mv (by omega) (by have : lsum t a 0 = 0 := rfl; omega)) (hf.mono (by intro c hc; revert hc; simp; omega)) ⟨hl, fun k _ _ _ _ _ => by rw [c3]⟩
    | succ d ih =>
      intro i m2 hi h6' hn2 h22 hf hl
      have hls : 0 ≤ lsum t a (pgL t a) := Nat.zero_le _
      apply l_X3_takeLaces_21
      refine ⟨fun c => ?_, fun _ => ⟨_, by rw [nI_add, nI_add]; exact c_byteAt (a + 27 + i) hn2 h6 (by omega), ?_⟩⟩
      · rw [nI_leI (by omega) (by omega)] at c
        omega
      intro r5 m4 e4
      obtain ⟨q1, q2⟩ := e4
      subst q2
      rw [hbt m4 h22 _ (by omega) (by omega)] at q1
      refine ⟨vin (by omega) (by decide), ?_⟩
      intro m8 e8' x9 e9
      rw [cl (by omega)] at e8'
      rw [e9, nI_add]
      refine ih (i + 1) m8 (by omega) ?_ (by rw [e8', ri_n (by decide)]; exact hn2) (by rw [e8', ri_n (by decide)]; exact h22) (by rw [e8']; exact hf.I (by decide)) (by rw [e8']; exact hl)
      intro j hj
      rw [e8', ri_e]
      by_cases hji : j = i
      · subst hji
        rw [upd_e, q1]
      · rw [upd_n hji]
        exact h6' j (by omega)
  exact first (pgL t a) 0 m (by omega) (fun j hj => absurd hj (Nat.not_lt_zero _)) hn rfl fm.rf rfl
