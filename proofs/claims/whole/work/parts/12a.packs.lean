/-! ===== packets: what they are, and the class's keeping of them at the tape's front ===== -/
def seg (t : Nat → Int32) (p l : Nat) : List Int32 := (List.range l).map (fun j => t (p + j))
theorem seg_len (t : Nat → Int32) (p l : Nat) : (seg t p l).length = l := by simp [seg]
theorem seg_get {t : Nat → Int32} {p l i : Nat} {v : Int32} (h : (seg t p l)[i]? = some v) : i < l ∧ v = t (p + i) := by
  have hi : i < l := by
    have := (List.getElem?_eq_some_iff.mp h).1
    rwa [seg_len] at this
  refine ⟨hi, ?_⟩
  simp [seg, hi] at h
  exact h.symm
/-- the packets that count, what is begun, how many were too long, the longest -/
abbrev PSt : Type := List (List Int32) × List Int32 × Nat × Nat
def fnS (s : PSt) : PSt := if 2000 < s.2.1.length then (s.1, [], s.2.2.1 + 1, s.2.2.2) else if s.1.length < 60 then (s.1 ++ [s.2.1], [], s.2.2.1, max s.2.2.2 s.2.1.length) else (s.1, [], s.2.2.1, s.2.2.2)
def adS (t : Nat → Int32) (p l : Nat) (s : PSt) : PSt := (s.1, s.2.1 ++ seg t p l, s.2.2.1, s.2.2.2)
def lcS (t : Nat → Int32) (p l : Nat) (s : PSt) : PSt := if l < 255 then fnS (adS t p l s) else adS t p l s
def kpR (μ : xm_M) (n : Nat) (t : Nat → Int32) (p : Nat) (s : PSt) : Prop :=
  μ.1 3 0 = nI s.1.length ∧ s.1.length ≤ 60 ∧ μ.1 3 3 = nI s.2.2.1 ∧ μ.1 3 4 = nI s.2.2.2 ∧ s.2.2.2 ≤ 2000 ∧ μ.1 3 12 = nI s.1.flatten.length ∧ μ.1 3 13 = nI s.2.1.length ∧
  s.1.flatten.length + s.2.1.length ≤ p ∧ p ≤ n ∧
  (∀ k, k < s.1.length → μ.1 4 k = nI (s.1.take k).flatten.length ∧ μ.1 5 k = nI (s.1.getD k []).length) ∧
  (∀ i v, s.1.flatten[i]? = some v → μ.1 2 i = v) ∧
  (s.2.1.length ≤ 2000 → ∀ j v, s.2.1[j]? = some v → μ.1 2 (s.1.flatten.length + j) = v) ∧
  (∀ j, p ≤ j → j < n → μ.1 2 j = t j) ∧ (∀ j, fits .byte (.int (μ.1 2 j)) = true) ∧ (∀ q ∈ s.1, q.length ≤ 2000)
/-- of the packets' own cell only what tells them has changed -/
def k3 (μ μ' : xm_M) : Prop := μ'.2.1 = μ.2.1 ∧ ∀ k, k ≠ 0 → k ≠ 3 → k ≠ 4 → k ≠ 12 → k ≠ 13 → μ'.1 3 k = μ.1 3 k
theorem k3.tr {μ μ1 μ2 : xm_M} (h1 : k3 μ μ1) (h2 : k3 μ1 μ2) : k3 μ μ2 := ⟨h2.1.trans h1.1, fun k a b c d e => (h2.2 k a b c d e).trans (h1.2 k a b c d e)⟩
theorem c_moveBack {b : Bool} {μ : xm_M} (p d l : Nat) (hp : p + l ≤ 6000) (hd : d + l ≤ 6000) (hf : ∀ j, fits .byte (.int (μ.1 2 j)) = true) : xCv b b k_X6_moveBack μ [.ref 1, .int (nI p), .int (nI d), .int (nI l)] (fun μ' => μ' = xu_I μ 2 (va_cpy (μ.1 2) (μ.1 2) p d l)) := by
  apply g_X6_moveBack
  refine ⟨fun c => absurd c (n0 (by omega)), fun _ => ⟨fun c => absurd c (n0 (by omega)), fun _ => ⟨fun c => absurd c (n0 (by omega)), fun _ => ⟨fun c => ?_, fun _ => ⟨fun _ => ?_, fun c => ?_⟩⟩⟩⟩⟩
  · rw [nI_add, nI_ltI (by decide) (by omega)] at c
    omega
  · rw [cl (by omega), cl (by omega), cl (by omega)]
    refine ⟨⟨n0 (by omega), n0 (by omega), n0 (by omega), hp, hd, fun i _ => hf _⟩, ?_⟩
    intro m e
    exact e
  · rw [nI_add, nI_leI (by omega) (by decide)] at c
    exact absurd hd c
theorem c_endPacket {b : Bool} {μ : xm_M} {n p : Nat} {t : Nat → Int32} {s : PSt} (h6 : n ≤ 6000) (hI : kpR μ n t p s) : xCv b b k_X3_endPacket μ [.ref 3] (fun μ' => kpR μ' n t p (fnS s) ∧ fm [3, 4, 5] μ μ' ∧ k3 μ μ') := by
  obtain ⟨a1, a2, a3, a4, a5, a6, a7, a8, a9, a10, a11, a12, a13, a14, a15⟩ := hI
  apply g_X3_endPacket
  rw [a7, a1]
  refine ⟨fun c => ⟨fun c2 => absurd c2 (n0 (by omega)), fun _ => ⟨fun c2 => ?_, fun c2 => ⟨?_, ?_⟩⟩⟩, fun c => ?_⟩
  · intro m e
    subst e
    rw [nI_leI (by omega) (by decide)] at c
    rw [nI_leI (by decide) (by omega)] at c2
    have hs : fnS s = (s.1, [], s.2.2.1, s.2.2.2) := by
      unfold fnS
      rw [if_neg (by omega), if_neg (by omega)]
    rw [hs]
    refine ⟨⟨?_, a2, ?_, ?_, a5, ?_, ?_, ?_, a9, ?_, ?_, ?_, ?_, ?_, a15⟩, fm.rf.I (by decide), rfl, ?_⟩
    · simp [ri_e, upd_n, a1]
    · simp [ri_e, upd_n, a3]
    · simp [ri_e, upd_n, a4]
    · simp [ri_e, upd_n, a6]
    · simp [ri_e, upd_e]
    · simp only [List.length_nil]; omega
    · intro k hk; rw [ri_n (by decide), ri_n (by decide)]; exact a10 k hk
    · intro i v h; rw [ri_n (by decide)]; exact a11 i v h
    · intro _ j v h; simp at h
    · intro j h1 h2; rw [ri_n (by decide)]; exact a13 j h1 h2
    · intro j; rw [ri_n (by decide)]; exact a14 j
    · intro k h0 h3 h4 h12 h13; rw [ri_e, upd_n h13]
  · rw [nI_leI (by decide) (by omega)] at c2
    exact vin (by omega) (by decide)
  · rw [nI_leI (by omega) (by decide)] at c
    rw [nI_leI (by decide) (by omega)] at c2
    intro m7 e7
    have hm3 : m7.1 3 = μ.1 3 := by rw [e7, ri_n (by decide)]
    rw [hm3, a1]
    refine ⟨vin (by omega) (by decide), ?_⟩
    rw [cl (by omega)] at e7 ⊢
    intro m9 e9 m10 e10 m11 e11 m12 e12 m13 e13
    rw [a6] at e7
    rw [a7] at e9
    have hm9 : m9.1 3 = μ.1 3 := by rw [e9, ri_n (by decide), hm3]
    rw [hm9, a1, nI_add] at e10
    have e11 : m11 = xu_I m9 3 (upd (upd (μ.1 3) 0 (nI (s.1.length + 1))) 12 (nI (s.1.flatten.length + s.2.1.length))) := by
      rw [e11, e10, xu_II, ri_e, upd_n (by decide), upd_n (by decide), a6, a7, nI_add]
    have e12 : m12 = xu_I m9 3 (upd (upd (upd (μ.1 3) 0 (nI (s.1.length + 1))) 12 (nI (s.1.flatten.length + s.2.1.length))) 4 (nI (max s.2.2.2 s.2.1.length))) := by
      rw [e12, e11, xu_II, ri_e, upd_n (by decide), upd_n (by decide), upd_n (by decide), upd_n (by decide), a4, a7]
      congr 3
      split
      · rename_i h
        rw [nI_ltI (by omega) (by omega)] at h
        rw [Nat.max_eq_right (by omega)]
      · rename_i h
        rw [nI_ltI (by omega) (by omega)] at h
        rw [Nat.max_eq_left (by omega)]
    have e13 : m13 = xu_I m9 3 (upd (upd (upd (upd (μ.1 3) 0 (nI (s.1.length + 1))) 12 (nI (s.1.flatten.length + s.2.1.length))) 4 (nI (max s.2.2.2 s.2.1.length))) 13 (nI 0)) := by
      rw [e13, e12, xu_II, ri_e]
    have hs : fnS s = (s.1 ++ [s.2.1], [], s.2.2.1, max s.2.2.2 s.2.1.length) := by
      unfold fnS
      rw [if_neg (by omega), if_pos (by omega)]
    have h2 : m13.1 2 = μ.1 2 := by rw [e13, ri_n (by decide), e9, ri_n (by decide), e7, ri_n (by decide)]
    have h4 : m13.1 4 = upd (μ.1 4) s.1.length (nI s.1.flatten.length) := by rw [e13, ri_n (by decide), e9, ri_n (by decide), e7, ri_e]
    have h5 : m13.1 5 = upd (μ.1 5) s.1.length (nI s.2.1.length) := by rw [e13, ri_n (by decide), e9, ri_e, e7, ri_n (by decide)]
    have hfl : (s.1 ++ [s.2.1]).flatten = s.1.flatten ++ s.2.1 := by simp
    rw [hs]
    refine ⟨⟨?_, ?_, ?_, ?_, ?_, ?_, ?_, ?_, a9, ?_, ?_, ?_, ?_, ?_, ?_⟩, ?_, ?_, ?_⟩
    · rw [e13, ri_e, upd_n (by decide), upd_n (by decide), upd_n (by decide), upd_e]; simp
    · simp; omega
    · rw [e13, ri_e, upd_n (by decide), upd_n (by decide), upd_n (by decide), upd_n (by decide), a3]
    · rw [e13, ri_e, upd_n (by decide), upd_e]
    · show max s.2.2.2 s.2.1.length ≤ 2000; omega
    · rw [e13, ri_e, upd_n (by decide), upd_n (by decide), upd_e]; simp
    · rw [e13, ri_e, upd_e]; rfl
    · rw [hfl, List.length_append]; simp only [List.length_nil]; omega
    · intro k hk
      rw [h4, h5]
      have hk : k < s.1.length + 1 := by simpa using hk
      by_cases hk2 : k = s.1.length
      · subst hk2
        rw [upd_e, upd_e]
        simp
      · rw [upd_n hk2, upd_n hk2]
        have hk3 : k < s.1.length := by omega
        have := a10 k hk3
        rw [this.1, this.2]
        refine ⟨?_, ?_⟩
        · rw [List.take_append_of_le_length (by omega)]
        · simp [List.getElem?_append_left hk3]
    · intro i v h
      rw [h2]
      rw [hfl, List.getElem?_append] at h
      split at h
      · exact a11 i v h
      · rename_i hi
        have := a12 (by omega) _ v h
        rwa [show s.1.flatten.length + (i - s.1.flatten.length) = i by omega] at this
    · intro _ j v h; simp at h
    · intro j h1 h3; rw [h2]; exact a13 j h1 h3
    · intro j; rw [h2]; exact a14 j
    · intro q hq
      rcases List.mem_append.mp hq with hq | hq
      · exact a15 q hq
      · rw [List.mem_singleton.mp hq]; omega
    · rw [e13, e9, e7]
      exact ((fm.rf.I (by decide)).I (by decide)).I (by decide)
    · rw [e13, e9, e7]; rfl
    · intro k h0 h3 h4' h12 h13; rw [e13, ri_e, upd_n h13, upd_n h4', upd_n h12, upd_n h0]
  · rw [nI_leI (by omega) (by decide)] at c
    intro m14 e14 m15 e15
    have e15 : m15 = xu_I μ 3 (upd (upd (μ.1 3) 3 (nI (s.2.2.1 + 1))) 13 (nI 0)) := by
      rw [e15, e14, xu_II, ri_e, a3, nI_add]
    have hs : fnS s = (s.1, [], s.2.2.1 + 1, s.2.2.2) := by
      unfold fnS
      rw [if_pos (by omega)]
    rw [hs]
    refine ⟨⟨?_, a2, ?_, ?_, a5, ?_, ?_, ?_, a9, ?_, ?_, ?_, ?_, ?_, a15⟩, ?_, ?_, ?_⟩
    · rw [e15, ri_e, upd_n (by decide), upd_n (by decide), a1]
    · rw [e15, ri_e, upd_n (by decide), upd_e]
    · rw [e15, ri_e, upd_n (by decide), upd_n (by decide), a4]
    · rw [e15, ri_e, upd_n (by decide), upd_n (by decide), a6]
    · rw [e15, ri_e, upd_e]; rfl
    · simp only [List.length_nil]; omega
    · intro k hk; rw [e15, ri_n (by decide), ri_n (by decide)]; exact a10 k hk
    · intro i v h; rw [e15, ri_n (by decide)]; exact a11 i v h
    · intro _ j v h; simp at h
    · intro j h1 h2; rw [e15, ri_n (by decide)]; exact a13 j h1 h2
    · intro j; rw [e15, ri_n (by decide)]; exact a14 j
    · rw [e15]; exact fm.rf.I (by decide)
    · rw [e15]; rfl
    · intro k h0 h3 h4' h12 h13; rw [e15, ri_e, upd_n h13, upd_n h3]
