def bgOK (s : PSt) (p : Nat) : Prop := s.2.1.length ≤ p ∧ ∀ v ∈ s.2.1, fits .byte (.int v) = true
theorem bgOK.lc {t : Nat → Int32} {s : PSt} {p l n : Nat} (h : bgOK s p) (hp : p + l ≤ n) (hF : ∀ j, j < n → fits .byte (.int (t j)) = true) : bgOK (lcS t p l s) (p + l) := by
  have key : bgOK (adS t p l s) (p + l) := by
    refine ⟨?_, ?_⟩
    · simp only [adS, List.length_append, seg_len]
      have := h.1
      omega
    · intro v hv
      rcases List.mem_append.mp hv with hv | hv
      · exact h.2 v hv
      · simp only [seg, List.mem_map, List.mem_range] at hv
        obtain ⟨j, hj, rfl⟩ := hv
        exact hF _ (by omega)
  unfold lcS
  split
  · unfold fnS
    split
    · exact ⟨Nat.zero_le _, fun v hv => by simp at hv⟩
    · split
      · exact ⟨Nat.zero_le _, fun v hv => by simp at hv⟩
      · exact ⟨Nat.zero_le _, fun v hv => by simp at hv⟩
  · exact key
theorem bgOK.mv {s : PSt} {p q : Nat} (h : bgOK s p) (hq : p ≤ q) : bgOK s q := ⟨Nat.le_trans h.1 hq, h.2⟩
theorem bgOK.lcL {t : Nat → Int32} {s : PSt} {a n : Nat} {k0 : Bool} (h : bgOK s a) (hW : a + pgW0 t a ≤ n) (hF : ∀ j, j < n → fits .byte (.int (t j)) = true) : ∀ i, i ≤ pgL t a → bgOK (lcL t a k0 s i).2 (a + 27 + pgL t a + lsum t a i) := by
  intro i
  induction i with
  | zero => intro _; exact h.mv (by omega)
  | succ i ih =>
    intro hi
    have hls : lsum t a (i + 1) = lsum t a i + bn (t (a + 27 + i)) := rfl
    have hlm := lsum_mono t a hi
    have hW1 : 27 + pgL t a + lsum t a (pgL t a) = pgW0 t a := rfl
    have ih := ih (by omega)
    show bgOK (if _ then _ else _ : Bool × PSt).2 _
    split
    · exact ih.mv (by omega)
    · rw [hls, ← Nat.add_assoc]
      exact ih.lc (by omega) hF
/-- a page is taken in the reference -/
theorem c_takesPage {b : Bool} {μ : xm_M} {n a : Nat} {t : Nat → Int32} {s ps : PSt} (fo : Bool) (h6 : n ≤ 6000) (hW : a + pgW0 t a ≤ n) (hT : ∀ j, j < n → μ.1 76 j = t j) (hF : ∀ j, j < n → fits .byte (.int (t j)) = true) (hI : kmR μ s) (hbg : bgOK s a) (h10 : μ.1 75 10 = nI (if s.2.1.length = 0 then 0 else 1)) (hps : ps = if fo = true ∧ bn (t (a + 5)) &&& 1 ≠ 0 then s else (s.1, [], s.2.2)) :
    xCv b b k_X9_takesPage μ [.ref 75, .int (nI a), .int (nI (if fo = true then 1 else 0))] (fun μ' => kmR μ' (lcL t a (decide (bn (t (a + 5)) &&& 1 ≠ 0 ∧ ps.2.1.length = 0)) ps (pgL t a)).2 ∧ fm [75, 79, 80, 81, 82] μ μ' ∧ μ'.1 75 12 = nI (if decide (bn (t (a + 5)) &&& 4 ≠ 0) = true then 1 else 0) ∧ μ'.2.1 75 13 = lN (e8 t n (a + 6)) ∧ μ'.1 75 10 = nI (if (lcL t a (decide (bn (t (a + 5)) &&& 1 ≠ 0 ∧ ps.2.1.length = 0)) ps (pgL t a)).2.2.1.length = 0 then 0 else 1) ∧ (∀ k, k ≠ 7 → k ≠ 9 → k ≠ 10 → k ≠ 12 → μ'.1 75 k = μ.1 75 k) ∧ (∀ k, k ≠ 6 → k ≠ 7 → μ'.1 82 k = μ.1 82 k)) := by
  have hW1 : 27 + pgL t a + lsum t a (pgL t a) = pgW0 t a := rfl
  have hL : pgL t a < 256 := bn_lt _
  have hf5 : bn (t (a + 5)) < 256 := bn_lt _
  have hle1 := Nat.and_le_left (n := bn (t (a + 5))) (m := 1)
  have hle4 := Nat.and_le_left (n := bn (t (a + 5))) (m := 4)
  have hpb : bgOK ps a := by
    rw [hps]
    split
    · exact hbg
    · exact ⟨Nat.zero_le _, fun v hv => by simp at hv⟩
  generalize hk0 : decide (bn (t (a + 5)) &&& 1 ≠ 0 ∧ ps.2.1.length = 0) = k0
  generalize hQ : (fun μ' : xm_M => kmR μ' (lcL t a k0 ps (pgL t a)).2 ∧ fm [75, 79, 80, 81, 82] μ μ' ∧ μ'.1 75 12 = nI (if decide (bn (t (a + 5)) &&& 4 ≠ 0) = true then 1 else 0) ∧ μ'.2.1 75 13 = lN (e8 t n (a + 6)) ∧ μ'.1 75 10 = nI (if (lcL t a k0 ps (pgL t a)).2.2.1.length = 0 then 0 else 1) ∧ (∀ k, k ≠ 7 → k ≠ 9 → k ≠ 10 → k ≠ 12 → μ'.1 75 k = μ.1 75 k) ∧ (∀ k, k ≠ 6 → k ≠ 7 → μ'.1 82 k = μ.1 82 k)) = Q
  have loop : ∀ (d i : Nat) (m : xm_M), i + d = pgL t a → kmR m (lcL t a k0 ps i).2 → m.1 75 10 = nI (if (lcL t a k0 ps i).2.2.1.length = 0 then 0 else 1) → k75 μ m → fm [75, 79, 80, 81, 82] μ m → hd_X9_takesPage_70 b Q (nI a) (t (a + 5)) (nI (if (lcL t a k0 ps i).1 = true then 1 else 0)) (nI (pgL t a)) (nI (a + 27 + pgL t a + lsum t a i)) (nI i) m := by
    intro d
    induction d with
    | zero =>
      intro i m hi hm hm10 hk hf
      have : i = pgL t a := by omega
      subst this
      have hmT : ∀ j, j < n → m.1 76 j = t j := fun j hj => by rw [(hf 76 (by decide)).1]; exact hT j hj
      have fin : ∀ (la : Bool) (m3 : xm_M), la = decide (bn (t (a + 5)) &&& 4 ≠ 0) → m3 = xu_I m 75 (upd (m.1 75) 12 (nI (if la = true then 1 else 0))) → ∃ Q4 : Int64 → xm_M → Prop, xCl b b k_X9_low m3 [.ref 76, .int (nI a + nI 6), .int (nI 8)] Q4 ∧ ∀ (r6 : Int64) (m5 : xm_M), Q4 r6 m5 → ∀ m8 : xm_M, m8 = xu_L m5 75 (vp_updL (m5.2.1 75) 13 r6) → Q m8 := by
        intro la m3 hla e3
        refine ⟨_, by rw [nI_add]; exact c_mlow (t := t) (a + 6) 8 (by decide) h6 (by omega) (fun j hj => by rw [e3, ri_n (by decide)]; exact hmT j hj), ?_⟩
        intro r6 m5 e m8 e8'
        obtain ⟨q6, q2⟩ := e
        subst q2
        have h75 : m8.1 75 = upd (m.1 75) 12 (nI (if la = true then 1 else 0)) := by rw [e8', rl_i, e3, ri_e]
        have ho : ∀ c, c ≠ 75 → m8.1 c = m.1 c := fun c hc => by rw [e8', rl_i, e3, ri_n hc]
        rw [← hQ]
        refine ⟨?_, ?_, ?_, ?_, ?_, ?_, ?_⟩
        · obtain ⟨a1, a2, a3, a4, a5, a6, a7, a8⟩ := hm
          refine ⟨by rw [h75, upd_n (by decide)]; exact a1, a2, by rw [ho _ (by decide)]; exact a3, by rw [ho _ (by decide)]; exact a4, a5, by rw [h75, upd_n (by decide)]; exact a6, ?_, ?_⟩
          · intro k q hq; rw [ho _ (by decide), ho _ (by decide)]; exact a7 k q hq
          · intro j v h1 h3; rw [ho _ (by decide)]; exact a8 j v h1 h3
        · rw [e8', e3]; exact (hf.I (by decide)).L (by decide)
        · rw [h75, upd_e, hla]
        · rw [e8', rl_e, updL_e, q6, lo8_8 (n := n) (by omega)]
        · rw [h75, upd_n (by decide)]; exact hm10
        · intro k k7 k9 k10 k12; rw [h75, upd_n k12]; exact hk.2.1 k k7 k9 k10
        · intro k k6 k7; rw [ho _ (by decide)]; exact hk.2.2 k k6 k7
      apply l_X9_takesPage_70
      rw [and_bn _ (show 4 < 256 by decide)]
      refine ⟨fun _ => ⟨fun c m3 e3 => ?_, fun c m9 e9 => ?_⟩, fun c => absurd (nI_le (Nat.le_refl _) (by omega)) c⟩
      · rw [neq0 (by omega)] at c
        exact fin false m3 (by symm; exact decide_eq_false (fun h => h c)) e3
      · rw [neq0 (by omega)] at c
        exact fin true m9 (by symm; exact decide_eq_true c) e9
    | succ d ih =>
      intro i m hi hm hm10 hk hf
      have hmT : ∀ j, j < n → m.1 76 j = t j := fun j hj => by rw [(hf 76 (by decide)).1]; exact hT j hj
      have hb := bn_lt (t (a + 27 + i))
      have hls : lsum t a (i + 1) = lsum t a i + bn (t (a + 27 + i)) := rfl
      have hlm := lsum_mono t a (show i + 1 ≤ pgL t a by omega)
      apply l_X9_takesPage_70
      rw [nI_add a 27, nI_add (a + 27) i, cl (a := a + 27 + i) (by omega), hmT _ (by omega), bn_and]
      refine ⟨fun c => ?_, fun _ => ⟨vin (by omega) (by decide), fun x16 e16 => ?_⟩⟩
      · rw [nI_leI (by omega) (by omega)] at c
        omega
      rw [e16]
      refine ⟨fun c => ?_, fun c => ?_⟩
      · have hk1 : (lcL t a k0 ps i).1 = true := by
          cases h : (lcL t a k0 ps i).1 with
          | true => rfl
          | false => rw [h] at c; exact absurd rfl c
        refine ⟨fun c2 => ?_, fun c2 => ?_⟩
        · rw [nI_leI (by decide) (by omega)] at c2
          have hst : lcL t a k0 ps (i + 1) = (true, (lcL t a k0 ps i).2) := by
            show (if _ then _ else _) = _
            rw [if_pos hk1, decide_eq_true c2]
          apply l_X9_takesPage_122
          intro x1 e1 x2 e2
          rw [e1, e2, nI_add, nI_add]
          have := ih (i + 1) m (by omega) (by rw [hst]; exact hm) (by rw [hst]; exact hm10) hk hf
          rw [hst, hls, ← Nat.add_assoc] at this
          rw [hk1]
          exact this
        · rw [nI_leI (by decide) (by omega)] at c2
          have hst : lcL t a k0 ps (i + 1) = (false, (lcL t a k0 ps i).2) := by
            show (if _ then _ else _) = _
            rw [if_pos hk1, decide_eq_false c2]
          apply l_X9_takesPage_122
          intro x1 e1 x2 e2
          rw [e1, e2, nI_add, nI_add]
          have := ih (i + 1) m (by omega) (by rw [hst]; exact hm) (by rw [hst]; exact hm10) hk hf
          rw [hst, hls, ← Nat.add_assoc] at this
          exact this
      · have hk1 : (lcL t a k0 ps i).1 = false := by
          cases h : (lcL t a k0 ps i).1 with
          | false => rfl
          | true => rw [h] at c; revert c; decide
        have hbi := hpb.lcL (k0 := k0) hW hF i (by omega)
        refine ⟨_, c_mlaces (a + 27 + pgL t a + lsum t a i) (bn (t (a + 27 + i))) h6 hb (by omega) hbi.1 hmT hF hbi.2 hm, ?_⟩
        intro m20 e20
        have hst : lcL t a k0 ps (i + 1) = (false, lcS t (a + 27 + pgL t a + lsum t a i) (bn (t (a + 27 + i))) (lcL t a k0 ps i).2) := by
          show (if _ then _ else _) = _
          rw [if_neg (by rw [hk1]; decide)]
        apply l_X9_takesPage_122
        intro x1 e1 x2 e2
        rw [e1, e2, nI_add, nI_add]
        have := ih (i + 1) m20 (by omega) (by rw [hst]; exact e20.1) (by rw [hst]; exact e20.2.2.2) (hk.tr e20.2.1) (hf.tr e20.2.2.1)
        rw [hst, hls, ← Nat.add_assoc] at this
        rw [hk1]
        exact this
  -- behind the throwing away
  have rest : ∀ m : xm_M, kmR m ps → m.1 75 10 = nI (if ps.2.1.length = 0 then 0 else 1) → k75 μ m → fm [75, 79, 80, 81, 82] μ m → hd_X9_takesPage_23 b Q (nI a) (t (a + 5)) m := by
    intro m hm hm10 hk hf
    have hmT : ∀ j, j < n → m.1 76 j = t j := fun j hj => by rw [(hf 76 (by decide)).1]; exact hT j hj
    have go : ∀ (z : Nat), z = (if k0 = true then 1 else 0) → ∀ x3 : Int32, x3 = m.1 76 ((nI a + nI 26)).toNatClampNeg &&& nI 255 → ∀ x4 : Int32, x4 = (nI a + nI 27) + x3 → hd_X9_takesPage_70 b Q (nI a) (t (a + 5)) (nI z) x3 x4 (nI 0) m := by
      intro z hz x3 e3 x4 e4
      rw [nI_add, cl (by omega), hmT _ (by omega), bn_and] at e3
      have e3 : x3 = nI (pgL t a) := e3
      rw [e3, nI_add, nI_add] at e4
      rw [e3, e4, hz]
      exact loop (pgL t a) 0 m (by omega) hm hm10 hk hf
    apply l_X9_takesPage_23
    rw [and_bn _ (show 1 < 256 by decide), hm10]
    refine ⟨fun c => ⟨by rw [nI_add]; exact vin (by omega) (by decide), go 0 ?_⟩, fun c => ⟨fun c2 => ⟨by rw [nI_add]; exact vin (by omega) (by decide), go 0 ?_⟩, fun c2 => ⟨by rw [nI_add]; exact vin (by omega) (by decide), go 1 ?_⟩⟩⟩
    · rw [neq0 (by omega)] at c
      rw [← hk0, if_neg (by simp [c])]
    · have c2 : ¬ ps.2.1.length = 0 := fun h => c2 (by rw [if_pos h]; rfl)
      rw [← hk0, if_neg (by simp [c2])]
    · rw [neq0 (by omega)] at c
      have c2 : ps.2.1.length = 0 := by
        by_cases h : ps.2.1.length = 0
        · exact h
        · rw [if_neg h] at c2; exact absurd c2 (by decide)
      rw [← hk0, if_pos (decide_eq_true ⟨c, c2⟩)]
  apply g_X9_takesPage
  rw [nI_add, cl (by omega), hT _ (by omega), and_bn _ (show 1 < 256 by decide)]
  refine ⟨vin (by omega) (by decide), fun c => ⟨_, c_begins, fun m4 e4 => ?_⟩, fun c => ⟨fun c2 => ?_, fun c2 => ⟨_, c_begins, fun m9 e9 => ?_⟩⟩⟩
  · have hfo : ¬ fo = true := fun h => by rw [if_pos h] at c; revert c; decide
    rw [if_neg (fun h => hfo h.1)] at hps
    obtain ⟨k1, k2, k3', k4⟩ := hI.cut e4
    exact rest m4 (by rw [hps]; exact k1) (by rw [hps]; exact k3') k2 (k4.mono (by intro c hc; revert hc; simp; omega))
  · rw [neq0 (by omega)] at c2
    have hfo : fo = true := by
      cases fo with
      | true => rfl
      | false => exact absurd rfl c
    rw [if_pos ⟨hfo, c2⟩] at hps
    exact rest μ (by rw [hps]; exact hI) (by rw [hps]; exact h10) k75.rf fm.rf
  · rw [neq0 (by omega)] at c2
    rw [if_neg (fun h => h.2 c2)] at hps
    obtain ⟨k1, k2, k3', k4⟩ := hI.cut e9
    exact rest m9 (by rw [hps]; exact k1) (by rw [hps]; exact k3') k2 (k4.mono (by intro c hc; revert hc; simp; omega))
