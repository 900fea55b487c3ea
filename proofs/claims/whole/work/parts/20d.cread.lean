/-! ===== what is shown: bytes on the tape, the bytes, channels, samples, looks, samples ===== -/
abbrev AS : Type := Nat × (Nat → Int32) × Nat × Nat × (Nat → Int32) × (Nat → Nat → Int32)
def cA (m : xm_M) (A : AS) : Prop :=
  (m.1 1 1 = nI A.1 ∧ A.1 ≤ 6000 ∧ (∀ j, j < A.1 → m.1 2 j = A.2.1 j) ∧ ∀ j, fits .byte (.int (m.1 2 j)) = true) ∧
  (m.1 0 7 = nI A.2.2.1 ∧ A.2.2.1 ≤ 2 ∧ m.1 0 8 = nI A.2.2.2.1 ∧ A.2.2.2.1 ≤ 928 ∧ ∀ c, c < A.2.2.1 → ∀ i, i < A.2.2.2.1 → m.1 (65 + 5 * c + 4) i = A.2.2.2.2.2 c i) ∧
  (m.1 3 1 = A.2.2.2.2.1 0 ∧ m.1 3 2 = A.2.2.2.2.1 1 ∧ m.1 3 0 = A.2.2.2.2.1 2 ∧ m.1 0 9 = A.2.2.2.2.1 3 ∧ m.1 0 10 = A.2.2.2.2.1 4 ∧ m.1 0 7 = A.2.2.2.2.1 5 ∧ m.1 3 3 = A.2.2.2.2.1 6 ∧ m.1 3 4 = A.2.2.2.2.1 7) ∧ tabC m
def mA (m : xm_M) (A : AS) : Prop :=
  (m.1 75 2 = nI A.1 ∧ A.1 ≤ 6000 ∧ (∀ j, j < A.1 → m.1 76 j = A.2.1 j) ∧ ∀ j, j < A.1 → fits .byte (.int (A.2.1 j)) = true) ∧
  (m.1 75 31 = nI A.2.2.1 ∧ A.2.2.1 ≤ 2 ∧ m.1 75 51 = nI A.2.2.2.1 ∧ A.2.2.2.1 ≤ 928 ∧ ∀ c, c < A.2.2.1 → ∀ i, i < A.2.2.2.1 → m.1 105 (960 * c + i) = A.2.2.2.2.2 c i) ∧
  (∀ k, k < 8 → m.1 82 k = A.2.2.2.2.1 k) ∧ tabM m
noncomputable def rdG (A : AS) : GSt := gaS A.2.1 A.1 (A.1 + 1) 0 g00
noncomputable def rdP (A : AS) : List (List Int32) := (rdG A).1.1
noncomputable def rdS (A : AS) : SS := if pkF (rdP A) = 0 then sSt (rdP A) ((rdP A).length - 1) else (0, 0, fun _ _ => 0, fun _ _ => 0)
noncomputable def rdC (A : AS) : Nat := if pkF (rdP A) = 0 then sC ((rdP A).getD 0 []) else 0
noncomputable def rdN (A : AS) : Nat := cutW (rdG A).2.2.2.1 (lN (rdG A).2.2.2.2.1) (16 * ((rdS A).1 - 1))
noncomputable def rdL (A : AS) : Nat → Int32 := fun k => match k with
  | 0 => nI (rdG A).2.1
  | 1 => nI (rdG A).2.2.1
  | 2 => nI (rdP A).length
  | 3 => nI (rdS A).1
  | 4 => nI (rdS A).2.1
  | 5 => nI (rdC A)
  | 6 => nI (rdG A).1.2.2.1
  | 7 => nI (rdG A).1.2.2.2
  | _ => 0
noncomputable def rdA (A : AS) : AS := (0, A.2.1, rdC A, rdN A, rdL A, (rdS A).2.2.2)
noncomputable def rdR (A : AS) : Int32 := if pkF (rdP A) = 0 then nI (rdN A) else -(nI (pkF (rdP A)))
theorem gR_pk {μ : xm_M} {n : Nat} {t : Nat → Int32} {g : GSt} (h : gR μ n t n g) (h6 : n ≤ 6000) : cPk μ g.1.1 := by
  obtain ⟨⟨a1, a2, a3, a4, a5, a6, a7, a8, a9, a10, a11, a12, a13, a14, a15⟩, b1⟩ := h
  exact ⟨a1, a2, by omega, a10, a11⟩
theorem rdS_b (A : AS) (h : (rdP A).length ≤ 60) : (rdS A).1 ≤ 59 ∧ (rdS A).2.1 ≤ 59 := by
  unfold rdS
  split
  · have := sSt_b (rdP A) ((rdP A).length - 1)
    omega
  · exact ⟨Nat.zero_le _, Nat.zero_le _⟩
theorem max16 {s : Nat} (h : s < 2 ^ 30) : (if nI 0 < nI s - nI 1 then nI s - nI 1 else nI 0) * nI 16 = nI (16 * (s - 1)) := by
  rcases Nat.eq_zero_or_pos s with h0 | h0
  · rw [h0, if_neg (by decide)]
    decide
  · rw [pk_sub h0]
    rcases Nat.eq_zero_or_pos (s - 1) with h1 | h1
    · rw [h1, if_neg (by decide)]
      decide
    · rw [if_pos (nI_lt h1 (by omega)), pk_mul, Nat.mul_comm]
theorem c_read {μ : xm_M} {A : AS} (hA : cA μ A) : xCi false false k_X8_read μ [.ref 0] (fun r m => r = rdR A ∧ cA m (rdA A) ∧ ∀ c, 75 ≤ c → m.1 c = μ.1 c ∧ m.2.1 c = μ.2.1 c) := by
  obtain ⟨⟨t1, t2, t3, t4⟩, -, -, hT⟩ := hA
  apply g_X8_read
  intro m1 e1 m2 e2 m3 e3 m4 e4
  have o4 : ∀ c, c ≠ 0 → m4.1 c = μ.1 c := fun c hc => by rw [e4, ri_n hc, e3, ri_n hc, e2, ri_n hc, e1, ri_n hc]
  have l4 : m4.2.1 = μ.2.1 := by rw [e4, e3, e2, e1]; rfl
  have d4 : m4.1 0 = upd (upd (upd (upd (μ.1 0) 7 (nI 0)) 8 (nI 0)) 9 (nI 0)) 10 (nI 0) := by rw [e4, ri_e, e3, ri_e, e2, ri_e, e1, ri_e]
  refine ⟨_, c_gather (n := A.1) (t := A.2.1) (by rw [o4 1 (by decide)]; exact t1) t2 (fun j hj => by rw [o4 2 (by decide)]; exact t3 j hj) (fun j => by rw [o4 2 (by decide)]; exact t4 j), ?_⟩
  rintro m6 ⟨g6, f6⟩ m9 e9
  have hg : gaS A.2.1 A.1 (A.1 + 1) 0 g00 = rdG A := rfl
  rw [hg] at g6
  have hP6 : cPk m6 (rdP A) := gR_pk g6 t2
  have h60 := hP6.2.1
  have o9 : ∀ c, c ≠ 1 → m9.1 c = m6.1 c := fun c hc => by rw [e9, ri_n hc]
  have l9 : m9.2.1 = m6.2.1 := by rw [e9]; rfl
  have hP9 : cPk m9 (rdP A) := hP6.fr (fun c h1 h2 => o9 c (by omega))
  refine ⟨_, c_learnSetup hP9, ?_⟩
  rintro r12 m11 ⟨f11, e12, h12⟩
  have hsb := rdS_b A h60
  -- cells that only the packets and the tape tell
  have g11 : ∀ c, c ≤ 6 → c ≠ 0 → c ≠ 1 → m11.1 c = m6.1 c ∧ m11.2.1 c = m6.2.1 c := fun c h1 h2 h3 => by
    have hn : c ∉ lsS := fun hm => by
      have : ∀ c ∈ lsS, 7 ≤ c := by decide
      have := this c hm
      omega
    exact ⟨(f11 c hn).1.trans (o9 c h3), (f11 c hn).2.trans (by rw [l9])⟩
  have g11t : m11.1 1 1 = nI 0 := by rw [(f11 1 (by decide)).1, e9, ri_e, upd_e]
  have g110 : m11.1 0 = m4.1 0 := by rw [(f11 0 (by decide)).1, o9 0 (by decide), (f6 0 (by decide)).1]
  have hi11 : ∀ c, 56 ≤ c → m11.1 c = μ.1 c ∧ m11.2.1 c = μ.2.1 c := fun c hc => by
    have hn : c ∉ lsS := fun hm => by
      have : ∀ c ∈ lsS, c < 56 := by decide
      have := this c hm
      omega
    refine ⟨?_, ?_⟩
    · rw [(f11 c hn).1, o9 c (by omega), (f6 c (by simp; omega)).1, o4 c (by omega)]
    · rw [(f11 c hn).2, l9, (f6 c (by simp; omega)).2, l4]
  have hT11 : tabC m11 := ⟨fun k hk => by rw [(hi11 62 (by decide)).1]; exact hT.1 k hk, fun j hj => by rw [(hi11 63 (by decide)).1]; exact hT.2 j hj⟩
  obtain ⟨⟨a1, a2, a3, a4, a5, a6, a7, a8, a9, a10, a11, a12, a13, a14, a15⟩, b1, b2, b3, b4, b5⟩ := g6
  -- what stays the same from here on
  have fin : ∀ m : xm_M, (∀ c, c ≤ 6 → c ≠ 0 → m.1 c = m11.1 c) → (m.1 0 7 = nI (rdC A) ∧ m.1 0 8 = nI (rdN A) ∧ m.1 0 9 = nI (rdS A).1 ∧ m.1 0 10 = nI (rdS A).2.1) → (∀ c, c < rdC A → ∀ i, i < rdN A → m.1 (65 + 5 * c + 4) i = (rdS A).2.2.2 c i) → tabC m → cA m (rdA A) := by
    intro m h1 h2 h3 h4
    have hC2 : rdC A ≤ 2 := by
      unfold rdC
      split
      · exact (sC_b _).2
      · exact Nat.zero_le _
    have hN : rdN A ≤ 928 := by
      have : rdN A ≤ 16 * ((rdS A).1 - 1) := cutW_le (by omega)
      omega
    refine ⟨⟨by rw [h1 1 (by decide) (by decide)]; exact g11t, Nat.zero_le _, fun j hj => absurd hj (Nat.not_lt_zero j), fun j => by rw [h1 2 (by decide) (by decide), (g11 2 (by decide) (by decide) (by decide)).1]; exact a14 j⟩, ⟨h2.1, hC2, h2.2.1, hN, h3⟩, ⟨?_, ?_, ?_, h2.2.2.1, h2.2.2.2, h2.1, ?_, ?_⟩, h4⟩
    · rw [h1 3 (by decide) (by decide), (g11 3 (by decide) (by decide) (by decide)).1]; exact b1
    · rw [h1 3 (by decide) (by decide), (g11 3 (by decide) (by decide) (by decide)).1]; exact b2
    · rw [h1 3 (by decide) (by decide), (g11 3 (by decide) (by decide) (by decide)).1]; exact a1
    · rw [h1 3 (by decide) (by decide), (g11 3 (by decide) (by decide) (by decide)).1]; exact a3
    · rw [h1 3 (by decide) (by decide), (g11 3 (by decide) (by decide) (by decide)).1]; exact a4
  have hF8 := pkF_8 (rdP A)
  rw [e12]
  refine ⟨fun c m15 e15 => ?_, fun c => ?_⟩
  · have hz : pkF (rdP A) = 0 := (neq0 (by omega)).mp c
    obtain ⟨hS, hl⟩ := h12 hz
    have hok : sOK ((rdP A).getD 0 []) := by
      refine sF_0 ?_
      have : pkF (rdP A) = sF ((rdP A).getD 0 []) := by unfold pkF; rw [if_neg (by omega)]
      rw [← this]
      exact hz
    have hcd : rdC A = sC ((rdP A).getD 0 []) := by unfold rdC; rw [if_pos hz]
    have hsd : rdS A = sSt (rdP A) ((rdP A).length - 1) := by unfold rdS; rw [if_pos hz]
    rw [hS.1] at e15
    have o15 : ∀ c, c ≠ 0 → m15.1 c = m11.1 c := fun c hc => by rw [e15, ri_n hc]
    have l15 : m15.2.1 = m11.2.1 := by rw [e15]; rfl
    have d15 : m15.1 0 = upd (m4.1 0) 7 (nI (sC ((rdP A).getD 0 []))) := by rw [e15, ri_e, g110]
    have hP15 : cPk m15 (rdP A) := hP6.fr (fun c h1 h2 => by rw [o15 c (by omega)]; exact (g11 c (by omega) (by omega) (by omega)).1)
    have hS15 : cS m15 ((rdP A).getD 0 []) := hS.fr (fun c h1 h2 => o15 c (by omega))
    have hT15 : tabC m15 := ⟨fun k hk => by rw [o15 62 (by decide)]; exact hT11.1 k hk, fun j hj => by rw [o15 63 (by decide)]; exact hT11.2 j hj⟩
    refine ⟨_, c_playSounds rfl hl hP15 hok hS15 hT15 (by rw [d15, upd_e]) (by rw [d15, upd_n (by decide), d4, upd_n (by decide), upd_e]) (by rw [d15, upd_n (by decide), d4, upd_e]), ?_⟩
    rintro m17 ⟨f17, k17, s17⟩
    rw [← hsd] at s17
    have g17 : ∀ c, c ≤ 6 → c ≠ 0 → m17.1 c = m11.1 c ∧ m17.2.1 c = m11.2.1 c := fun c h1 h2 => by
      have hn : c ∉ plC := fun hm => by
        have : ∀ c ∈ plC, c = 0 ∨ 7 ≤ c := by decide
        have := this c hm
        omega
      exact ⟨(f17 c hn).1.trans (o15 c h2), (f17 c hn).2.trans (by rw [l15])⟩
    have hi17 : ∀ c, 75 ≤ c → m17.1 c = μ.1 c ∧ m17.2.1 c = μ.2.1 c := fun c hc => by
      have hn : c ∉ plC := fun hm => by
        have : ∀ c ∈ plC, c < 75 := by decide
        have := this c hm
        omega
      refine ⟨?_, ?_⟩
      · rw [(f17 c hn).1, o15 c (by omega)]; exact (hi11 c (by omega)).1
      · rw [(f17 c hn).2, l15]; exact (hi11 c (by omega)).2
    have hT17 : tabC m17 := ⟨fun k hk => by rw [(f17 62 (by decide)).1]; exact hT15.1 k hk, fun j hj => by rw [(f17 63 (by decide)).1]; exact hT15.2 j hj⟩
    have h5 : m17.1 3 5 = nI (if (rdG A).2.2.2.1 = true then 1 else 0) := by rw [(g17 3 (by decide) (by decide)).1, (g11 3 (by decide) (by decide) (by decide)).1]; exact b3
    have h6 : m17.2.1 3 6 = lN (rdG A).2.2.2.2.1 := by rw [(g17 3 (by decide) (by decide)).2, (g11 3 (by decide) (by decide) (by decide)).2]; exact b4
    refine ⟨_, by rw [s17.1, max16 (by omega)]; exact c_cut (by omega) h5 h6, ?_⟩
    rintro r22 m21 ⟨e22, rfl⟩ m24 e24
    have hrn : r22 = nI (rdN A) := e22
    have o24 : ∀ c, c ≠ 0 → m24.1 c = m21.1 c := fun c hc => by rw [e24, ri_n hc]
    refine ⟨?_, fin m24 (fun c h1 h2 => by rw [o24 c h2]; exact (g17 c h1 h2).1) ⟨?_, ?_, ?_, ?_⟩ (fun c hc i hi => ?_) ⟨fun k hk => by rw [o24 62 (by decide)]; exact hT17.1 k hk, fun j hj => by rw [o24 63 (by decide)]; exact hT17.2 j hj⟩, fun c hc => ⟨by rw [o24 c (by omega)]; exact (hi17 c hc).1, by rw [e24, ri_l]; exact (hi17 c hc).2⟩⟩
    · rw [e24, ri_e, upd_e, hrn]
      unfold rdR
      rw [if_pos hz]
    · rw [e24, ri_e, upd_n (by decide), k17 7 (by decide) (by decide), d15, upd_e, hcd]
    · rw [e24, ri_e, upd_e, hrn]
    · rw [e24, ri_e, upd_n (by decide)]; exact s17.1
    · rw [e24, ri_e, upd_n (by decide)]; exact s17.2.1
    · rw [o24 _ (by omega)]
      have hN : rdN A ≤ 16 * ((rdS A).1 - 1) := cutW_le (by omega)
      exact s17.2.2.2 c (by rw [← hcd]; exact hc) i (by omega)
  · have hz : ¬ pkF (rdP A) = 0 := fun h => c (by rw [h]; exact nI_0)
    have hcd : rdC A = 0 := by unfold rdC; rw [if_neg hz]
    have hsd : rdS A = (0, 0, fun _ _ => 0, fun _ _ => 0) := by unfold rdS; rw [if_neg hz]
    have hnd : rdN A = 0 := by
      have : rdN A ≤ 16 * ((rdS A).1 - 1) := cutW_le (by omega)
      rw [hsd] at this
      omega
    refine ⟨?_, fin m11 (fun c _ _ => rfl) ⟨?_, ?_, ?_, ?_⟩ (fun c hc => by omega) hT11, fun c hc => hi11 c (by omega)⟩
    · unfold rdR
      rw [if_neg hz]
    · rw [g110, d4, upd_n (by decide), upd_n (by decide), upd_n (by decide), upd_e, hcd]
    · rw [g110, d4, upd_n (by decide), upd_n (by decide), upd_e, hnd]
    · rw [g110, d4, upd_n (by decide), upd_e, hsd]
    · rw [g110, d4, upd_e, hsd]
