theorem and_bn (x : Int32) {k : Nat} (hk : k < 256) : x &&& nI k = nI (bn x &&& k) := by
  apply Int32.toBitVec_inj.mp
  apply BitVec.eq_of_toNat_eq
  have hl : bn x &&& k < 2 ^ 32 := Nat.lt_of_le_of_lt Nat.and_le_right (by omega)
  rw [Int32.toBitVec_and, BitVec.toNat_and, nI_toNat (by omega), nI_toNat hl]
  unfold bn
  apply Nat.eq_of_testBit_eq
  intro i
  rw [Nat.testBit_and, Nat.testBit_and, show (256 : Nat) = 2 ^ 8 from rfl, Nat.testBit_mod_two_pow]
  by_cases hi : i < 8
  · simp [hi]
  · have : k.testBit i = false := Nat.testBit_lt_two_pow (Nat.lt_of_lt_of_le hk (Nat.pow_le_pow_right (n := 2) (by decide) (show 8 ≤ i by omega)))
    simp [this]
/-- the reference's keeping of the packets -/
def kmR (μ : xm_M) (s : PSt) : Prop :=
  μ.1 75 7 = nI s.1.length ∧ s.1.length ≤ 60 ∧ μ.1 82 6 = nI s.2.2.1 ∧ μ.1 82 7 = nI s.2.2.2 ∧ s.2.2.2 ≤ 2000 ∧ μ.1 75 9 = nI s.2.1.length ∧
  (∀ k q, s.1[k]? = some q → q.length ≤ 2000 ∧ μ.1 80 k = nI q.length ∧ ∀ j v, q[j]? = some v → μ.1 79 (2000 * k + j) = v) ∧
  (∀ j v, j < 2000 → s.2.1[j]? = some v → μ.1 81 j = v)
/-- what else of the reference's own cells stays -/
def k75 (μ μ' : xm_M) : Prop := μ'.2.1 = μ.2.1 ∧ (∀ k, k ≠ 7 → k ≠ 9 → k ≠ 10 → μ'.1 75 k = μ.1 75 k) ∧ (∀ k, k ≠ 6 → k ≠ 7 → μ'.1 82 k = μ.1 82 k)
theorem k75.tr {μ μ1 μ2 : xm_M} (h1 : k75 μ μ1) (h2 : k75 μ1 μ2) : k75 μ μ2 := ⟨h2.1.trans h1.1, fun k a b c => (h2.2.1 k a b c).trans (h1.2.1 k a b c), fun k a b => (h2.2.2 k a b).trans (h1.2.2 k a b)⟩
theorem k75.rf {μ : xm_M} : k75 μ μ := ⟨rfl, fun _ _ _ _ => rfl, fun _ _ _ => rfl⟩
theorem c_begins {b : Bool} {μ : xm_M} : xCv b b k_X9_begins μ [.ref 75] (fun μ' => μ' = xu_I μ 75 (upd (upd (μ.1 75) 9 (nI 0)) 10 (nI 0))) := by
  apply g_X9_begins
  intro m1 e1 m2 e2
  rw [e2, e1, xu_II, ri_e]
theorem kmR.cut {μ μ' : xm_M} {s : PSt} (h : kmR μ s) (e : μ' = xu_I μ 75 (upd (upd (μ.1 75) 9 (nI 0)) 10 (nI 0))) : kmR μ' (s.1, [], s.2.2) ∧ k75 μ μ' ∧ μ'.1 75 10 = nI 0 ∧ fm [75] μ μ' := by
  obtain ⟨a1, a2, a3, a4, a5, a6, a7, a8⟩ := h
  have h75 : μ'.1 75 = upd (upd (μ.1 75) 9 (nI 0)) 10 (nI 0) := by rw [e, ri_e]
  refine ⟨⟨?_, a2, ?_, ?_, a5, ?_, ?_, ?_⟩, ⟨by rw [e]; rfl, ?_, ?_⟩, by rw [h75, upd_e], by rw [e]; exact fm.rf.I (by decide)⟩
  · rw [h75, upd_n (by decide), upd_n (by decide)]; exact a1
  · rw [e, ri_n (by decide)]; exact a3
  · rw [e, ri_n (by decide)]; exact a4
  · rw [h75, upd_n (by decide), upd_e]; rfl
  · intro k q hq; rw [e, ri_n (by decide), ri_n (by decide)]; exact a7 k q hq
  · intro j v _ h; simp at h
  · intro k h7 h9 h10; rw [h75, upd_n h10, upd_n h9]
  · intro k _ _; rw [e, ri_n (by decide)]
theorem seg_s (t : Nat → Int32) (p i : Nat) : seg t p (i + 1) = seg t p i ++ [t (p + i)] := by
  simp [seg, List.range_succ]
theorem c_mlaces {b : Bool} {μ : xm_M} {n : Nat} {t : Nat → Int32} {s : PSt} (p l : Nat) (h6 : n ≤ 6000) (hl : l < 256) (hp : p + l ≤ n) (hb : s.2.1.length ≤ p) (hT : ∀ j, j < n → μ.1 76 j = t j) (hF : ∀ j, j < n → fits .byte (.int (t j)) = true) (hB : ∀ v ∈ s.2.1, fits .byte (.int v) = true) (hI : kmR μ s) : xCv b b k_X9_laces μ [.ref 75, .int (nI p), .int (nI l)] (fun μ' => kmR μ' (lcS t p l s) ∧ k75 μ μ' ∧ fm [75, 79, 80, 81, 82] μ μ' ∧ μ'.1 75 10 = nI (if (lcS t p l s).2.1.length = 0 then 0 else 1)) := by
  have hBs : ∀ v ∈ s.2.1 ++ seg t p l, fits .byte (.int v) = true := by
    intro v hv
    rcases List.mem_append.mp hv with hv | hv
    · exact hB v hv
    · simp only [seg, List.mem_map, List.mem_range] at hv
      obtain ⟨j, hj, rfl⟩ := hv
      exact hF _ (by omega)
  have hlen : (s.2.1 ++ seg t p l).length = s.2.1.length + l := by rw [List.length_append, seg_len]
  have had : adS t p l s = (s.1, s.2.1 ++ seg t p l, s.2.2) := rfl
  -- the end of a packet: its bytes go to its place
  have copy : ∀ (d i : Nat) (m : xm_M), i + d = s.2.1.length + l → s.2.1.length + l ≤ 2000 → s.1.length < 60 → l < 255 → kmR m (adS t p l s) → (∀ j v, j < i → (s.2.1 ++ seg t p l)[j]? = some v → m.1 79 (2000 * s.1.length + j) = v) → k75 μ m → fm [75, 79, 80, 81, 82] μ m → hd_X9_laces_98 b (fun μ' => kmR μ' (lcS t p l s) ∧ k75 μ μ' ∧ fm [75, 79, 80, 81, 82] μ μ' ∧ μ'.1 75 10 = nI (if (lcS t p l s).2.1.length = 0 then 0 else 1)) (nI i) m := by
    intro d
    induction d with
    | zero =>
      intro i m hi h2 h60 h255 hm hcp hk hf
      obtain ⟨a1, a2, a3, a4, a5, a6, a7, a8⟩ := hm
      have a6 : m.1 75 9 = nI (s.2.1.length + l) := by rw [a6, had]; exact congrArg nI hlen
      have a1 : m.1 75 7 = nI s.1.length := a1
      have a4 : m.1 82 7 = nI s.2.2.2 := a4
      have a5 : s.2.2.2 ≤ 2000 := a5
      have hls : lcS t p l s = (s.1 ++ [s.2.1 ++ seg t p l], [], s.2.2.1, max s.2.2.2 (s.2.1.length + l)) := by
        rw [lcS, if_pos h255, fnS, had]
        simp only
        rw [if_neg (by rw [hlen]; omega), if_pos h60, hlen]
      apply l_X9_laces_98
      rw [a6, a1]
      refine ⟨fun _ => ⟨vin (by omega) (by decide), ?_⟩, fun c => absurd (nI_le (by omega) (by omega)) c⟩
      intro m3 e3
      rw [cl (by omega)] at e3
      have h75 : m3.1 75 = m.1 75 := by rw [e3, ri_n (by decide)]
      have h82 : m3.1 82 = m.1 82 := by rw [e3, ri_n (by decide)]
      rw [h75, h82, a6, cl (show 7 < 2 ^ 31 by decide), a4]
      -- the longest, then the count, then nothing is begun
      have fin : ∀ (m9 : xm_M), m9 = xu_I (xu_I m3 82 (upd (m.1 82) 7 (nI (max s.2.2.2 (s.2.1.length + l))))) 75 (upd (m.1 75) 7 (nI (s.1.length + 1))) → ∀ m11 : xm_M, m11 = xu_I m9 75 (upd (upd (m9.1 75) 9 (nI 0)) 10 (nI 0)) → (kmR m11 (lcS t p l s) ∧ k75 μ m11 ∧ fm [75, 79, 80, 81, 82] μ m11 ∧ m11.1 75 10 = nI (if (lcS t p l s).2.1.length = 0 then 0 else 1)) := by
        intro m9 e9 m11 e11
        have g75 : m11.1 75 = upd (upd (upd (m.1 75) 7 (nI (s.1.length + 1))) 9 (nI 0)) 10 (nI 0) := by rw [e11, ri_e, e9, ri_e]
        have g82 : m11.1 82 = upd (m.1 82) 7 (nI (max s.2.2.2 (s.2.1.length + l))) := by rw [e11, ri_n (by decide), e9, ri_n (by decide), ri_e]
        have g80 : m11.1 80 = upd (m.1 80) s.1.length (nI (s.2.1.length + l)) := by rw [e11, ri_n (by decide), e9, ri_n (by decide), ri_n (by decide), e3, ri_e]
        have g79 : m11.1 79 = m.1 79 := by rw [e11, ri_n (by decide), e9, ri_n (by decide), ri_n (by decide), e3, ri_n (by decide)]
        rw [hls]
        refine ⟨⟨?_, ?_, ?_, ?_, ?_, ?_, ?_, ?_⟩, ⟨?_, ?_, ?_⟩, ?_, ?_⟩
        · rw [g75, upd_n (by decide), upd_n (by decide), upd_e]; simp
        · simp; omega
        · rw [g82, upd_n (by decide)]; exact a3
        · rw [g82, upd_e]
        · show max s.2.2.2 (s.2.1.length + l) ≤ 2000
          have : s.2.2.2 ≤ 2000 := a5
          omega
        · rw [g75, upd_n (by decide), upd_e]; rfl
        · intro k q hq
          rw [g80, g79]
          rw [List.getElem?_append] at hq
          split at hq
          · rename_i hk2
            obtain ⟨c1, c2, c3⟩ := a7 k q hq
            rw [upd_n (by omega)]
            exact ⟨c1, c2, c3⟩
          · rename_i hk2
            have hz : k - s.1.length < 1 := (List.getElem?_eq_some_iff.mp hq).1
            have hk3 : k = s.1.length := by omega
            subst hk3
            rw [Nat.sub_self] at hq
            cases hq
            rw [upd_e]
            refine ⟨by rw [hlen]; exact h2, by rw [hlen], fun j v hj => hcp j v ?_ hj⟩
            have := (List.getElem?_eq_some_iff.mp hj).1
            rw [hlen] at this
            omega
        · intro j v _ h; simp at h
        · rw [e11, e9, e3]; exact hk.1
        · intro k h7 h9 h10; rw [g75, upd_n h10, upd_n h9, upd_n h7]; exact hk.2.1 k h7 h9 h10
        · intro k h6' h7; rw [g82, upd_n h7]; exact hk.2.2 k h6' h7
        · rw [e11, e9, e3]; exact (((hf.I (by decide)).I (by decide)).I (by decide)).I (by decide)
        · rw [g75, upd_e]; rfl
      refine ⟨vin (by decide) (by decide), fun c => ⟨vin (by decide) (by decide), vin (by decide) (by decide), ?_⟩, fun c => ⟨vin (by decide) (by decide), ?_⟩⟩
      · intro m8 e8' m9 e9
        rw [nI_leI (by omega) (by omega)] at c
        refine ⟨_, c_begins, fun m11 e11 => fin m9 ?_ m11 e11⟩
        have : m8.1 75 = m.1 75 := by rw [e8', ri_n (by decide), h75]
        rw [e9, this, a1, nI_add, e8', Nat.max_eq_left (by omega)]
      · intro m15 e15 m16 e16
        rw [nI_leI (by omega) (by omega)] at c
        refine ⟨_, c_begins, fun m11 e11 => fin m16 ?_ m11 e11⟩
        have : m15.1 75 = m.1 75 := by rw [e15, ri_n (by decide), h75]
        rw [e16, this, a1, nI_add, e15, Nat.max_eq_right (by omega)]
    | succ d ih =>
      intro i m hi h2 h60 h255 hm hcp hk hf
      have hm0 := hm
      obtain ⟨a1, a2, a3, a4, a5, a6, a7, a8⟩ := hm
      have a6 : m.1 75 9 = nI (s.2.1.length + l) := by rw [a6, had]; exact congrArg nI hlen
      have a1 : m.1 75 7 = nI s.1.length := a1
      have hil : i < (s.2.1 ++ seg t p l).length := by rw [hlen]; omega
      have hg : (s.2.1 ++ seg t p l)[i]? = some (s.2.1 ++ seg t p l)[i] := List.getElem?_eq_getElem hil
      have hv : m.1 81 i = (s.2.1 ++ seg t p l)[i] := a8 i _ (by omega) hg
      have hvf : fits .byte (.int (m.1 81 i)) = true := by rw [hv]; exact hBs _ (List.getElem_mem hil)
      apply l_X9_laces_98
      rw [a6, a1, pk_mul, nI_add, cl (a := 2000 * s.1.length + i) (by omega), cl (a := i) (by omega), by_nar hvf]
      refine ⟨fun c => ?_, fun _ => ⟨vin (by omega) (by decide), vin (by omega) (by decide), ?_⟩⟩
      · rw [nI_leI (by omega) (by omega)] at c
        omega
      intro m23 e23 x24 e24
      rw [e24, nI_add]
      refine ih (i + 1) m23 (by omega) h2 h60 h255 ?_ ?_ ⟨by rw [e23]; exact hk.1, fun k h7 h9 h10 => by rw [e23, ri_n (by decide)]; exact hk.2.1 k h7 h9 h10, fun k h6' h7 => by rw [e23, ri_n (by decide)]; exact hk.2.2 k h6' h7⟩ (by rw [e23]; exact hf.I (by decide))
      · obtain ⟨a1, a2, a3, a4, a5, a6, a7, a8⟩ := hm0
        refine ⟨by rw [e23, ri_n (by decide)]; exact a1, a2, by rw [e23, ri_n (by decide)]; exact a3, by rw [e23, ri_n (by decide)]; exact a4, a5, by rw [e23, ri_n (by decide)]; exact a6, ?_, ?_⟩
        · intro k q hq
          obtain ⟨c1, c2, c3⟩ := a7 k q hq
          have hkl : k < s.1.length := (List.getElem?_eq_some_iff.mp hq).1
          refine ⟨c1, by rw [e23, ri_n (by decide)]; exact c2, fun j v hj => ?_⟩
          have hjl := (List.getElem?_eq_some_iff.mp hj).1
          rw [e23, ri_e, upd_n (by omega)]
          exact c3 j v hj
        · intro j v h1 h3; rw [e23, ri_n (by decide)]; exact a8 j v h1 h3
      · intro j v hj hjv
        rw [e23, ri_e]
        by_cases hji : j = i
        · subst hji
          rw [upd_e, hv]
          rw [hg] at hjv
          exact Option.some.inj hjv
        · rw [upd_n (by omega)]
          exact hcp j v (by omega) hjv
  -- the bytes come behind what is begun
  have first : ∀ (d i : Nat) (m : xm_M), i + d = l → kmR m (adS t p i s) → m.1 75 10 = nI 1 → (∀ j, j < n → m.1 76 j = t j) → k75 μ m → fm [75, 79, 80, 81, 82] μ m → hd_X9_laces_7 b (fun μ' => kmR μ' (lcS t p l s) ∧ k75 μ μ' ∧ fm [75, 79, 80, 81, 82] μ μ' ∧ μ'.1 75 10 = nI (if (lcS t p l s).2.1.length = 0 then 0 else 1)) (nI p) (nI l) (nI i) m := by
    intro d
    induction d with
    | zero =>
      intro i m hi hm hm10 hmT hk hf
      have : i = l := by omega
      subst this
      have hm0 := hm
      obtain ⟨a1, a2, a3, a4, a5, a6, a7, a8⟩ := hm
      have a6 : m.1 75 9 = nI (s.2.1.length + i) := by rw [a6, had]; exact congrArg nI hlen
      have a1 : m.1 75 7 = nI s.1.length := a1
      have a3 : m.1 82 6 = nI s.2.2.1 := a3
      have a2 : s.1.length ≤ 60 := a2
      apply l_X9_laces_7
      rw [a6, a1, cl (show 6 < 2 ^ 31 by decide), a3, nI_add]
      refine ⟨fun _ => ⟨fun c => ⟨fun c2 => ⟨fun c3 => ⟨_, c_begins, fun m6 e6 => ?_⟩, fun c3 => ?_⟩, fun c2 => ⟨vin (by decide) (by decide), vin (by decide) (by decide), fun m11 e11 => ⟨_, c_begins, fun m13 e13 => ?_⟩⟩⟩, fun c => ?_⟩, fun c => absurd (nI_le (Nat.le_refl _) (by omega)) c⟩
      · rw [nI_leI (by omega) (by decide)] at c2
        rw [nI_leI (by decide) (by omega)] at c3
        have hne := nIq (by omega) (by decide) c
        have hls : lcS t p i s = ((adS t p i s).1, [], (adS t p i s).2.2) := by
          rw [lcS, if_pos (by omega), fnS, had]
          simp only
          rw [if_neg (by rw [hlen]; omega), if_neg (by omega)]
        rw [hls]
        obtain ⟨k1, k2, k3', k4⟩ := hm0.cut e6
        exact ⟨k1, hk.tr k2, hf.tr (k4.mono (by intro c hc; revert hc; simp; omega)), k3'⟩
      · rw [nI_leI (by omega) (by decide)] at c2
        rw [nI_leI (by decide) (by omega)] at c3
        have hne := nIq (by omega) (by decide) c
        exact copy (s.2.1.length + i) 0 m (by omega) c2 (by omega) (by omega) hm0 (fun j v hj => absurd hj (Nat.not_lt_zero _)) hk hf
      · rw [nI_leI (by omega) (by decide)] at c2
        have hne := nIq (by omega) (by decide) c
        have hls : lcS t p i s = (s.1, [], s.2.2.1 + 1, s.2.2.2) := by
          rw [lcS, if_pos (by omega), fnS, had]
          simp only
          rw [if_pos (by rw [hlen]; omega)]
        rw [hls]
        have hm11 : kmR m11 (s.1, s.2.1 ++ seg t p i, s.2.2.1 + 1, s.2.2.2) := by
          obtain ⟨a1, a2, a3, a4, a5, a6, a7, a8⟩ := hm0
          refine ⟨by rw [e11, ri_n (by decide)]; exact a1, a2, by rw [e11, ri_e, upd_e], by rw [e11, ri_e, upd_n (by decide)]; exact a4, a5, by rw [e11, ri_n (by decide)]; exact a6, ?_, ?_⟩
          · intro k q hq; rw [e11, ri_n (by decide), ri_n (by decide)]; exact a7 k q hq
          · intro j v h1 h3; rw [e11, ri_n (by decide)]; exact a8 j v h1 h3
        obtain ⟨k1, k2, k3', k4⟩ := hm11.cut e13
        have hk11 : k75 m m11 := ⟨by rw [e11]; rfl, fun k _ _ _ => by rw [e11, ri_n (by decide)], fun k h6' _ => by rw [e11, ri_e, upd_n h6']⟩
        exact ⟨k1, (hk.tr hk11).tr k2, (hf.tr (by rw [e11]; exact fm.rf.I (by decide))).tr (k4.mono (by intro c hc; revert hc; simp; omega)), k3'⟩
      · have c : i = 255 := nI_inj (by omega) (by decide) c
        have hls : lcS t p i s = adS t p i s := by rw [lcS, if_neg (by omega)]
        rw [hls]
        refine ⟨hm0, hk, hf, ?_⟩
        rw [hm10, had]
        simp only [hlen]
        rw [if_neg (by omega)]
    | succ d ih =>
      intro i m hi hm hm10 hmT hk hf
      have hm0 := hm
      obtain ⟨a1, a2, a3, a4, a5, a6, a7, a8⟩ := hm
      have hlen2 : (s.2.1 ++ seg t p i).length = s.2.1.length + i := by rw [List.length_append, seg_len]
      have a6 : m.1 75 9 = nI (s.2.1.length + i) := by rw [a6]; exact congrArg nI hlen2
      have hap : s.2.1 ++ seg t p (i + 1) = (s.2.1 ++ seg t p i) ++ [t (p + i)] := by rw [seg_s, List.append_assoc]
      apply l_X9_laces_7
      rw [a6, nI_add]
      refine ⟨fun c => ?_, fun _ => ⟨fun c2 => fun m17 e17 x18 e18 => ?_, fun c2 => ⟨by rw [nI_add]; exact vin (by omega) (by decide), ?_, ?_⟩⟩⟩
      · rw [nI_leI (by omega) (by omega)] at c
        omega
      · rw [nI_leI (by decide) (by omega)] at c2
        rw [e18, nI_add]
        have h75 : m17.1 75 = upd (m.1 75) 9 (nI (s.2.1.length + i + 1)) := by rw [e17, ri_e]
        refine ih (i + 1) m17 (by omega) ?_ (by rw [h75, upd_n (by decide)]; exact hm10) (fun j hj => by rw [e17, ri_n (by decide)]; exact hmT j hj) ⟨by rw [e17]; exact hk.1, fun k h7 h9 h10 => by rw [h75, upd_n h9]; exact hk.2.1 k h7 h9 h10, fun k h6' h7 => by rw [e17, ri_n (by decide)]; exact hk.2.2 k h6' h7⟩ (by rw [e17]; exact hf.I (by decide))
        refine ⟨by rw [h75, upd_n (by decide)]; exact a1, a2, by rw [e17, ri_n (by decide)]; exact a3, by rw [e17, ri_n (by decide)]; exact a4, a5, ?_, ?_, ?_⟩
        · rw [h75, upd_e]
          simp only [adS, hap, List.length_append, seg_len, List.length_singleton]
        · intro k q hq; rw [e17, ri_n (by decide), ri_n (by decide)]; exact a7 k q hq
        · intro j v h1 h3
          rw [e17, ri_n (by decide)]
          refine a8 j v h1 ?_
          simp only [adS, hap] at h3
          rw [List.getElem?_append_left (by rw [hlen2]; omega)] at h3
          exact h3
      · rw [nI_leI (by decide) (by omega)] at c2
        exact vin (by omega) (by decide)
      · rw [nI_leI (by decide) (by omega)] at c2
        rw [nI_add, cl (by omega), cl (by omega), hmT _ (by omega), by_nar (hF _ (by omega))]
        intro m21 e21 m22 e22 x23 e23
        rw [e23, nI_add]
        have g75 : m21.1 75 = m.1 75 := by rw [e21, ri_n (by decide)]
        rw [g75, a6, nI_add] at e22
        have h75 : m22.1 75 = upd (m.1 75) 9 (nI (s.2.1.length + i + 1)) := by rw [e22, ri_e]
        have h81 : m22.1 81 = upd (m.1 81) (s.2.1.length + i) (t (p + i)) := by rw [e22, ri_n (by decide), e21, ri_e]
        refine ih (i + 1) m22 (by omega) ?_ (by rw [h75, upd_n (by decide)]; exact hm10) (fun j hj => by rw [e22, ri_n (by decide), e21, ri_n (by decide)]; exact hmT j hj) ⟨by rw [e22, e21]; exact hk.1, fun k h7 h9 h10 => by rw [h75, upd_n h9]; exact hk.2.1 k h7 h9 h10, fun k h6' h7 => by rw [e22, ri_n (by decide), e21, ri_n (by decide)]; exact hk.2.2 k h6' h7⟩ (by rw [e22, e21]; exact (hf.I (by decide)).I (by decide))
        refine ⟨by rw [h75, upd_n (by decide)]; exact a1, a2, by rw [e22, ri_n (by decide), e21, ri_n (by decide)]; exact a3, by rw [e22, ri_n (by decide), e21, ri_n (by decide)]; exact a4, a5, ?_, ?_, ?_⟩
        · rw [h75, upd_e]
          simp only [adS, hap, List.length_append, seg_len, List.length_singleton]
        · intro k q hq
          rw [e22, ri_n (by decide), ri_n (by decide), e21, ri_n (by decide), ri_n (by decide)]
          exact a7 k q hq
        · intro j v h1 h3
          simp only [adS, hap] at h3
          rw [h81]
          rw [List.getElem?_append] at h3
          split at h3
          · rename_i hj
            rw [hlen2] at hj
            rw [upd_n (by omega)]
            exact a8 j v h1 h3
          · rename_i hj
            rw [hlen2] at hj h3
            have hz : j - (s.2.1.length + i) < 1 := (List.getElem?_eq_some_iff.mp h3).1
            have hj2 : j = s.2.1.length + i := by omega
            subst hj2
            rw [Nat.sub_self] at h3
            cases h3
            rw [upd_e]
  apply g_X9_laces
  intro m1 e1
  have h0 : adS t p 0 s = s := by simp [adS, seg]
  refine first l 0 m1 (by omega) ?_ (by rw [e1, ri_e, upd_e]) (fun j hj => by rw [e1, ri_n (by decide)]; exact hT j hj) ⟨by rw [e1]; rfl, fun k h7 h9 h10 => by rw [e1, ri_e, upd_n h10], fun k _ _ => by rw [e1, ri_n (by decide)]⟩ (by rw [e1]; exact fm.rf.I (by decide))
  rw [h0]
  obtain ⟨a1, a2, a3, a4, a5, a6, a7, a8⟩ := hI
  refine ⟨by rw [e1, ri_e, upd_n (by decide)]; exact a1, a2, by rw [e1, ri_n (by decide)]; exact a3, by rw [e1, ri_n (by decide)]; exact a4, a5, by rw [e1, ri_e, upd_n (by decide)]; exact a6, ?_, ?_⟩
  · intro k q hq; rw [e1, ri_n (by decide), ri_n (by decide)]; exact a7 k q hq
  · intro j v h1 h3; rw [e1, ri_n (by decide)]; exact a8 j v h1 h3
