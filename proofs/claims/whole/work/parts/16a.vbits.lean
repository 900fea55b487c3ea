/-! ===== bits, with the place going on behind the end ===== -/
theorem xC_mono {κ : xm_Meth} {fz : Bool} {sh : xm_Sh} {μ : xm_M} {As : List Value} {P P' : Option Value → xm_Sh → xm_M → Prop} (h : xC κ fz sh μ As P) (hP : ∀ r sh' μ', P r sh' μ' → P' r sh' μ') : xC κ fz sh μ As P' := by
  intro l D aC ad sz
  refine Jvm.Free.MetFree.mono (h l D aC ad sz) (fun _ _ h => h) (fun _ _ _ _ _ h => h) ?_
  rintro a s o t - ⟨⟨⟨r, sh', μ', ad', h1, h2, h3⟩, h5⟩, h4⟩
  exact ⟨⟨⟨r, sh', μ', ad', h1, hP _ _ _ h2, h3⟩, h5⟩, h4⟩
theorem xCi_mono {b b' : Bool} {κ : xm_Meth} {μ : xm_M} {As : List Value} {Q Q' : Int32 → xm_M → Prop} (h : xCi b b' κ μ As Q) (hQ : ∀ r m, Q r m → Q' r m) : xCi b b' κ μ As Q' := fun hR => xC_mono (h hR) (fun _ _ _ z => ⟨z.1, z.2.imp (fun _ w => ⟨w.1, hQ _ _ w.2⟩)⟩)
theorem xCl_mono {b b' : Bool} {κ : xm_Meth} {μ : xm_M} {As : List Value} {Q Q' : Int64 → xm_M → Prop} (h : xCl b b' κ μ As Q) (hQ : ∀ r m, Q r m → Q' r m) : xCl b b' κ μ As Q' := fun hR => xC_mono (h hR) (fun _ _ _ z => ⟨z.1, z.2.imp (fun _ w => ⟨w.1, hQ _ _ w.2⟩)⟩)
theorem xCv_mono {b b' : Bool} {κ : xm_Meth} {μ : xm_M} {As : List Value} {Q Q' : xm_M → Prop} (h : xCv b b' κ μ As Q) (hQ : ∀ m, Q m → Q' m) : xCv b b' κ μ As Q' := fun hR => xC_mono (h hR) (fun _ _ _ z => ⟨z.1, z.2.1, hQ _ z.2.2⟩)
theorem bb_end {pk : List Int32} {a : Nat} (h : 8 * pk.length ≤ a) : bb pk a = 0 := by
  unfold bb
  rw [show pk.getD (a / 8) 0 = 0 by simp [List.getD, List.getElem?_eq_none (show pk.length ≤ a / 8 by omega)]]
  rw [show bn 0 = 0 by decide +kernel]
  simp
theorem nv_1 (pk : List Int32) (a : Nat) : nv pk a 1 = bb pk a := by simp [nv]
/-- what the class's number answers -/
def rdv (pk : List Int32) (a k : Nat) : Int32 := if a + k ≤ 8 * pk.length then nI (nv pk a k) else -1
theorem nv_31 (pk : List Int32) (a : Nat) {k : Nat} (hk : k ≤ 8) : nv pk a k < 256 := Nat.lt_of_lt_of_le (nv_lt pk a k) (Nat.pow_le_pow_right (by decide) hk : 2 ^ k ≤ 2 ^ 8)
theorem rdv_ok {pk : List Int32} {a k : Nat} (h : a + k ≤ 8 * pk.length) : rdv pk a k = nI (nv pk a k) := if_pos h
theorem rdv_no {pk : List Int32} {a k : Nat} (h : 8 * pk.length < a + k) : rdv pk a k = -1 := if_neg (by omega)
theorem rdv_br {pk : List Int32} {a k : Nat} {A B : Prop} (hk : k ≤ 8) (f : a + k ≤ 8 * pk.length → A) (g : 8 * pk.length < a + k → B) : (0 ≤ rdv pk a k → A) ∧ (¬ 0 ≤ rdv pk a k → B) := by
  rcases Nat.lt_or_ge (8 * pk.length) (a + k) with h | h
  · rw [rdv_no h]
    exact ⟨fun c => absurd c (by decide), fun _ => g h⟩
  · rw [rdv_ok h]
    exact ⟨fun _ => f h, fun c => absurd (n0' (by have := nv_31 pk a hk; omega)) c⟩
def bP (μ : xm_M) (pk : List Int32) (a : Nat) : Prop := bR μ pk (min a (8 * pk.length))
theorem bP.fr {μ μ' : xm_M} {pk : List Int32} {a : Nat} (h : bP μ pk a) (h7 : μ'.1 7 = μ.1 7) (h2 : μ'.1 2 = μ.1 2) : bP μ' pk a := bR.fr h h7 h2
theorem bP.R {μ : xm_M} {pk : List Int32} {a : Nat} (h : bP μ pk a) (ha : a ≤ 8 * pk.length) : bR μ pk a := by
  unfold bP at h
  rwa [Nat.min_eq_left ha] at h
theorem bR.P {μ : xm_M} {pk : List Int32} {a : Nat} (h : bR μ pk a) : bP μ pk a := by
  obtain ⟨st, b1, b2, b3, b4, b5⟩ := id h
  unfold bP
  rwa [Nat.min_eq_left b4]
theorem v_number {μ : xm_M} {pk : List Int32} {a : Nat} (k : Nat) (hk : k ≤ 8) (hk1 : 0 < k) (hI : bP μ pk a) : xCi true true k_X0_number μ [.ref 7, .int (nI k)] (fun r μ' => fm [7] μ μ' ∧ r = rdv pk a k ∧ bP μ' pk (a + k)) := by
  have e : (fun (r : Int32) (μ' : xm_M) => fm [7] μ μ' ∧ ((min a (8 * pk.length) + k ≤ 8 * pk.length ∧ r = nI (nv pk (min a (8 * pk.length)) k) ∧ bR μ' pk (min a (8 * pk.length) + k)) ∨ (8 * pk.length < min a (8 * pk.length) + k ∧ r = -1 ∧ bR μ' pk (8 * pk.length)))) = (fun r μ' => fm [7] μ μ' ∧ r = rdv pk a k ∧ bP μ' pk (a + k)) := by
    funext r μ'
    apply propext
    apply and_congr_right
    intro _
    rcases Nat.lt_or_ge (8 * pk.length) (a + k) with h | h
    · rw [rdv_no h]
      unfold bP
      rw [Nat.min_eq_right (show 8 * pk.length ≤ a + k by omega)]
      constructor
      · rintro (⟨h1, -⟩ | ⟨-, h2⟩)
        · omega
        · exact h2
      · exact fun h2 => Or.inr ⟨by omega, h2⟩
    · rw [rdv_ok h]
      unfold bP
      rw [Nat.min_eq_left h, Nat.min_eq_left (show a ≤ 8 * pk.length by omega)]
      constructor
      · rintro (⟨-, h2⟩ | ⟨h1, -⟩)
        · exact h2
        · omega
      · exact fun h2 => Or.inl ⟨by omega, h2⟩
  rw [← e]
  exact c_number k hk hk1 hI
theorem v_bit {μ : xm_M} {pk : List Int32} {a : Nat} (hI : bP μ pk a) : xCi true true k_X0_bit μ [.ref 7] (fun r μ' => fm [7] μ μ' ∧ r = rdv pk a 1 ∧ bP μ' pk (a + 1)) := by
  have e : (fun (r : Int32) (μ' : xm_M) => fm [7] μ μ' ∧ ((min a (8 * pk.length) < 8 * pk.length ∧ r = nI (bb pk (min a (8 * pk.length))) ∧ bR μ' pk (min a (8 * pk.length) + 1)) ∨ (min a (8 * pk.length) = 8 * pk.length ∧ r = -1 ∧ bR μ' pk (min a (8 * pk.length))))) = (fun r μ' => fm [7] μ μ' ∧ r = rdv pk a 1 ∧ bP μ' pk (a + 1)) := by
    funext r μ'
    apply propext
    apply and_congr_right
    intro _
    rcases Nat.lt_or_ge (8 * pk.length) (a + 1) with h | h
    · rw [rdv_no h]
      unfold bP
      rw [Nat.min_eq_right (show 8 * pk.length ≤ a + 1 by omega), Nat.min_eq_right (show 8 * pk.length ≤ a by omega)]
      constructor
      · rintro (⟨h1, -⟩ | ⟨-, h2⟩)
        · omega
        · exact h2
      · exact fun h2 => Or.inr ⟨by omega, h2⟩
    · rw [rdv_ok h]
      unfold bP
      rw [Nat.min_eq_left h, Nat.min_eq_left (show a ≤ 8 * pk.length by omega), nv_1]
      constructor
      · rintro (⟨-, h2⟩ | ⟨h1, -⟩)
        · exact h2
        · omega
      · exact fun h2 => Or.inl ⟨by omega, h2⟩
  rw [← e]
  exact c_bit hI
/-- the reference's: behind the end it is over -/
def mP (μ : xm_M) (pk : List Int32) (a : Nat) : Prop := ∃ a', mR μ pk a' (decide (8 * pk.length < a)) ∧ (a ≤ 8 * pk.length → a' = a)
theorem mP.ov {μ : xm_M} {pk : List Int32} {a : Nat} (h : mP μ pk a) : μ.1 75 17 = nI (if 8 * pk.length < a then 1 else 0) := by
  obtain ⟨a', h1, -⟩ := h
  have := h1.ov17
  simpa using this
theorem mP.fr {μ μ' : xm_M} {pk : List Int32} {a : Nat} (h : mP μ pk a) (h14 : μ'.1 75 14 = μ.1 75 14) (h15 : μ'.1 75 15 = μ.1 75 15) (h16 : μ'.1 75 16 = μ.1 75 16) (h17 : μ'.1 75 17 = μ.1 75 17) (h79 : μ'.1 79 = μ.1 79) : mP μ' pk a := by
  obtain ⟨a', h1, h2⟩ := h
  exact ⟨a', h1.fr h14 h15 h16 h17 h79, h2⟩
theorem mP.R {μ : xm_M} {pk : List Int32} {a : Nat} (h : mP μ pk a) (ha : a ≤ 8 * pk.length) : mR μ pk a false := by
  obtain ⟨a', h1, h2⟩ := h
  rw [h2 ha, decide_eq_false (by omega)] at h1
  exact h1
theorem mR.P {μ : xm_M} {pk : List Int32} {a : Nat} (h : mR μ pk a false) : mP μ pk a := by
  obtain ⟨K, b1, b2, b3, b4, b5, b6, b7, b8⟩ := id h
  exact ⟨a, by rw [decide_eq_false (by omega)]; exact h, fun _ => rfl⟩
theorem v_mbit {b : Bool} {μ : xm_M} {pk : List Int32} {a : Nat} (hI : mP μ pk a) : xCi b b k_X9_bit μ [.ref 75] (fun r μ' => fb μ μ' ∧ r = nI (bb pk a) ∧ mP μ' pk (a + 1)) := by
  obtain ⟨a', h1, h2⟩ := hI
  have h7 : a' ≤ 8 * pk.length := by
    obtain ⟨K, b1, b2, b3, b4, b5, b6, b7, b8⟩ := h1
    exact b7
  refine xCi_mono (c_mbit h1) ?_
  rintro r m ⟨g0, ⟨g1, g2, g3, g4⟩ | ⟨g1, g2, g3⟩⟩
  · have hd : ¬ 8 * pk.length < a := by simpa using g1
    have := h2 (by omega)
    subst this
    exact ⟨g0, g3, g4.P⟩
  · have hge : 8 * pk.length ≤ a := by
      rcases g1 with g1 | g1
      · have : 8 * pk.length < a := by simpa using g1
        omega
      · rcases Nat.lt_or_ge (8 * pk.length) a with h | h
        · omega
        · have := h2 h
          omega
    exact ⟨g0, by rw [bb_end hge]; exact g2, a', by rw [decide_eq_true (by omega)]; exact g3, fun h => by omega⟩
theorem v_mbits {b : Bool} {μ : xm_M} {pk : List Int32} {a : Nat} (k : Nat) (hk : k ≤ 8) (hI : mP μ pk a) : xCi b b k_X9_bits μ [.ref 75, .int (nI k)] (fun r μ' => fb μ μ' ∧ r = nI (nv pk a k) ∧ mP μ' pk (a + k)) := by
  have loop : ∀ (d i : Nat) (m : xm_M), i + d = k → mP m pk (a + i) → fb μ m → hd_X9_bits_4 b (fun r μ' => fb μ μ' ∧ r = nI (nv pk a k) ∧ mP μ' pk (a + k)) (nI k) (nI (nv pk a i)) (nI i) m := by
    intro d
    induction d with
    | zero =>
      intro i m hi hm hf
      have : i = k := by omega
      subst this
      apply l_X9_bits_4
      exact ⟨fun _ => ⟨hf, rfl, hm⟩, fun c => absurd (nI_le (Nat.le_refl _) (by omega)) c⟩
    | succ d ih =>
      intro i m hi hm hf
      apply l_X9_bits_4
      refine pk_le k i (fun c => by omega) (fun _ => ⟨_, v_mbit hm, ?_⟩)
      rintro r4 m3 ⟨e1, e2, e3⟩ x6 e6 x7 e7
      rw [e2, or_sh (by omega) (nv_lt _ _ _) (bb_lt _ _)] at e6
      rw [e6, e7, nI_add]
      exact ih (i + 1) m3 (by omega) e3 (hf.tr e1)
  apply g_X9_bits
  exact loop k 0 μ (by omega) hI fb.rf
