/-! ===== a right page at a place ===== -/
theorem nIq {a b : Nat} (ha : a < 2 ^ 31) (hb : b < 2 ^ 31) (h : ¬ nI a = nI b) : a ≠ b := fun e => h (by rw [e])
def lsum (t : Nat → Int32) (a : Nat) : Nat → Nat
  | 0 => 0
  | i + 1 => lsum t a i + bn (t (a + 27 + i))
theorem lsum_le (t : Nat → Int32) (a : Nat) : ∀ i, lsum t a i ≤ 255 * i
  | 0 => Nat.le_refl _
  | i + 1 => by
    have h := lsum_le t a i
    have h2 := bn_lt (t (a + 27 + i))
    unfold lsum
    omega
def pgL (t : Nat → Int32) (a : Nat) : Nat := bn (t (a + 26))
def pgW0 (t : Nat → Int32) (a : Nat) : Nat := 27 + pgL t a + lsum t a (pgL t a)
abbrev pgM (f : Nat → Int32) (n a : Nat) : Prop := tb f n a = 79 ∧ tb f n (a + 1) = 103 ∧ tb f n (a + 2) = 103 ∧ tb f n (a + 3) = 83 ∧ tb f n (a + 4) = 0
abbrev pgOK (t : Nat → Int32) (n a : Nat) : Prop := pgM t n a ∧ a + 27 ≤ n ∧ a + (27 + pgL t a) ≤ n ∧ a + pgW0 t a ≤ n ∧ crcF t a (pgW0 t a) = nI (f4 t n (a + 22))
def pgW (t : Nat → Int32) (n a : Nat) : Nat := if pgOK t n a then pgW0 t a else 0
theorem tb_congr {f t : Nat → Int32} {n a : Nat} (h : a < n → f a = t a) : tb f n a = tb t n a := by
  unfold tb
  split
  · rename_i h1
    rw [h h1]
  · rfl
theorem c_hasMarkAt {b : Bool} {μ : xm_M} {n : Nat} (a : Nat) (hn : μ.1 1 1 = nI n) (h6 : n ≤ 6000) (ha : a + 5 < 2 ^ 31) : xCi b b k_X6_hasMarkAt μ [.ref 1, .int (nI a)] (fun r μ' => (r = if pgM (μ.1 2) n a then nI 1 else nI 0) ∧ μ' = μ) := by
  have l := fun j => tb_lt (μ.1 2) n j
  have l0 := l a
  have l1 := l (a + 1)
  have l2 := l (a + 2)
  have l3 := l (a + 3)
  have l4 := l (a + 4)
  apply g_X6_hasMarkAt
  refine ⟨_, c_byteAt a hn h6 (by omega), ?_⟩
  intro r m e
  obtain ⟨q1, q2⟩ := e
  subst q2
  rw [q1]
  refine ⟨fun c => ⟨?_, rfl⟩, fun c => ?_⟩
  · rw [if_neg (fun h => c (by rw [h.1]))]
  have c := nI_inj (by omega) (by decide) c
  refine ⟨_, by rw [nI_add]; exact c_byteAt (a + 1) hn h6 (by omega), ?_⟩
  intro r1 m e
  obtain ⟨q1, q2⟩ := e
  subst q2
  rw [q1]
  refine ⟨fun c => ⟨?_, rfl⟩, fun c1 => ?_⟩
  · rw [if_neg (fun h => c (by rw [h.2.1]))]
  have c1 := nI_inj (by omega) (by decide) c1
  refine ⟨_, by rw [nI_add]; exact c_byteAt (a + 2) hn h6 (by omega), ?_⟩
  intro r2 m e
  obtain ⟨q1, q2⟩ := e
  subst q2
  rw [q1]
  refine ⟨fun c => ⟨?_, rfl⟩, fun c2 => ?_⟩
  · rw [if_neg (fun h => c (by rw [h.2.2.1]))]
  have c2 := nI_inj (by omega) (by decide) c2
  refine ⟨_, by rw [nI_add]; exact c_byteAt (a + 3) hn h6 (by omega), ?_⟩
  intro r3 m e
  obtain ⟨q1, q2⟩ := e
  subst q2
  rw [q1]
  refine ⟨fun c => ⟨?_, rfl⟩, fun c3 => ?_⟩
  · rw [if_neg (fun h => c (by rw [h.2.2.2.1]))]
  have c3 := nI_inj (by omega) (by decide) c3
  refine ⟨_, by rw [nI_add]; exact c_byteAt (a + 4) hn h6 (by omega), ?_⟩
  intro r4 m e
  obtain ⟨q1, q2⟩ := e
  subst q2
  rw [q1]
  refine ⟨fun c => ⟨?_, rfl⟩, fun c4 => ⟨?_, rfl⟩⟩
  · rw [if_neg (fun h => c (by rw [h.2.2.2.2]; exact nI_0))]
  · rw [neq0 (by omega)] at c4
    rw [if_pos ⟨c, c1, c2, c3, c4⟩]
/-- the class's look for a right page: its bytes, or 0 -/
theorem c_rightPageAt {b : Bool} {μ : xm_M} {n : Nat} {t : Nat → Int32} (a : Nat) (hn : μ.1 1 1 = nI n) (h6 : n ≤ 6000) (ha : a < n) (hT : ∀ j, a ≤ j → j < n → μ.1 2 j = t j) : xCi b b k_X6_rightPageAt μ [.ref 1, .int (nI a)] (fun r μ' => r = nI (pgW t n a) ∧ μ' = μ) := by
  have hm : ∀ j, a ≤ j → tb (μ.1 2) n j = tb t n j := fun j hj => tb_congr (fun h => hT j hj h)
  have hM : pgM (μ.1 2) n a ↔ pgM t n a := by
    unfold pgM
    rw [hm a (by omega), hm (a + 1) (by omega), hm (a + 2) (by omega), hm (a + 3) (by omega), hm (a + 4) (by omega)]
  have h4 : f4 (μ.1 2) n (a + 22) = f4 t n (a + 22) := by
    unfold f4
    rw [hm _ (by omega), hm _ (by omega), hm _ (by omega), hm _ (by omega)]
  have no : ¬ pgOK t n a → pgW t n a = 0 := fun h => if_neg h
  apply g_X6_rightPageAt
  refine ⟨_, c_hasMarkAt a hn h6 (by omega), ?_⟩
  intro r m e
  obtain ⟨q1, q2⟩ := e
  subst q2
  rw [q1]
  refine ⟨fun c => ⟨?_, rfl⟩, fun c => ?_⟩
  · have hk : ¬ pgM (m.1 2) n a := fun h => by rw [if_pos h] at c; revert c; decide
    rw [no (fun h => hk (hM.mpr h.1))]
  have hk : pgM (m.1 2) n a := by
    by_cases h : pgM (m.1 2) n a
    · exact h
    · rw [if_neg h] at c
      exact absurd rfl c
  refine ⟨fun c1 => ?_, fun c1 => ⟨?_, rfl⟩⟩
  rotate_left
  · rw [hn, nI_add, nI_leI (by omega) (by omega)] at c1
    rw [no (fun h => c1 h.2.1)]
  rw [hn, nI_add, nI_leI (by omega) (by omega)] at c1
  refine ⟨_, by rw [nI_add]; exact c_byteAt (a + 26) hn h6 (by omega), ?_⟩
  intro r9 m e
  obtain ⟨q1, q2⟩ := e
  subst q2
  have hL : tb (m.1 2) n (a + 26) = pgL t a := by
    rw [hm _ (by omega), tb, if_pos (by omega)]
    rfl
  have hLl : pgL t a < 256 := bn_lt _
  rw [hL] at q1
  intro x e
  have hx : x = nI (27 + pgL t a) := by rw [e, q1, nI_add]
  rw [hx, q1, nI_add, hn]
  refine ⟨fun c2 => ?_, fun c2 => ⟨?_, rfl⟩⟩
  rotate_left
  · rw [nI_leI (by omega) (by omega)] at c2
    rw [no (fun h => c2 h.2.2.1)]
  rw [nI_leI (by omega) (by omega)] at c2
  have loop : ∀ (d i : Nat), i + d = pgL t a → hd_X6_rightPageAt_50 b (fun r μ' => r = nI (pgW t n a) ∧ μ' = m) (nI a) (nI (pgL t a)) (nI (27 + pgL t a + lsum t a i)) (nI i) m := by
    intro d
    induction d with
    | zero =>
      intro i hi
      have : i = pgL t a := by omega
      subst this
      have hW : 27 + pgL t a + lsum t a (pgL t a) = pgW0 t a := rfl
      have hsl := lsum_le t a (pgL t a)
      rw [hW]
      have hW2 : pgW0 t a ≤ 70000 := by rw [← hW]; omega
      apply l_X6_rightPageAt_50
      refine ⟨fun _ => ?_, fun c => absurd (nI_le (Nat.le_refl _) (by omega)) c⟩
      rw [hn, nI_add]
      refine ⟨fun c3 => ⟨?_, rfl⟩, fun c3 => ?_⟩
      · rw [nI_ltI (by omega) (by omega)] at c3
        rw [no (fun h => absurd h.2.2.2.1 (by omega))]
      rw [nI_ltI (by omega) (by omega)] at c3
      refine ⟨_, c_crc (t := t) a (pgW0 t a) (by rw [← hW]; omega) (by omega) (fun j h1 h2 => hT j h1 (by omega)), ?_⟩
      intro r5 m e
      obtain ⟨q5, q2⟩ := e
      subst q2
      refine ⟨_, by rw [nI_add]; exact c_fourAt (a + 22) hn h6 (by omega), ?_⟩
      intro r9 m e
      obtain ⟨q3, q2⟩ := e
      subst q2
      rw [q5, q3, h4]
      refine ⟨fun c4 => ⟨?_, rfl⟩, fun c4 => ⟨?_, rfl⟩⟩
      · rw [pgW, if_pos ⟨hM.mp hk, by omega, by omega, by omega, c4⟩]
      · rw [no (fun h => c4 h.2.2.2.2)]
    | succ d ih =>
      intro i hi
      have hsl := lsum_le t a i
      apply l_X6_rightPageAt_50
      refine ⟨fun c => ?_, fun _ => ?_⟩
      · rw [nI_leI (by omega) (by omega)] at c
        omega
      refine ⟨_, by rw [nI_add, nI_add]; exact c_byteAt (a + 27 + i) hn h6 (by omega), ?_⟩
      intro r14 m e
      obtain ⟨q1, q2⟩ := e
      subst q2
      intro x16 e16 x17 e17
      rw [e16, e17, q1, nI_add, nI_add, hm _ (by omega), tb, if_pos (by omega), Nat.add_assoc (27 + pgL t a)]
      exact ih (i + 1) (by omega)
  exact loop (pgL t a) 0 (by omega)
def e8 (f : Nat → Int32) (n a : Nat) : Nat := f4 f n (a + 4) * 2 ^ 32 + f4 f n a
theorem e8_lt (f : Nat → Int32) (n a : Nat) : e8 f n a < 2 ^ 64 := by
  have h0 := f4_lt f n a
  have h1 := f4_lt f n (a + 4)
  unfold e8
  omega
theorem lN_toNat {n : Nat} (h : n < 2 ^ 64) : (lN n).toBitVec.toNat = n := by
  show (BitVec.ofNat 64 n).toNat = n
  rw [BitVec.toNat_ofNat, Nat.mod_eq_of_lt h]
theorem sx32 (x : Int32) : x.toInt64.toBitVec.toNat % 2 ^ 32 = x.toBitVec.toNat := by
  rw [Int32.toBitVec_toInt64]
  have h2 : ∀ w : BitVec 32, (BitVec.signExtend 64 w).toNat % 2 ^ 32 = w.toNat := by
    intro w
    rw [← BitVec.toNat_setWidth]
    congr 1
    apply BitVec.eq_of_getLsbD_eq
    intro i hi
    have h64 : i < 64 := by omega
    simp only [BitVec.getLsbD_setWidth, BitVec.getLsbD_signExtend, hi, h64, decide_true, Bool.true_and, if_true]
  exact h2 _
theorem lm32 {x : Nat} (h : x < 2 ^ 32) : (nI x).toInt64 &&& (4294967295 : Int64) = lN x := by
  apply Int64.toBitVec_inj.mp
  apply BitVec.eq_of_toNat_eq
  rw [Int64.toBitVec_and, BitVec.toNat_and, lN_toNat (by omega), show (4294967295 : Int64).toBitVec.toNat = 2 ^ 32 - 1 by decide +kernel, Nat.and_two_pow_sub_one_eq_mod, sx32, nI_toNat h]
theorem or32 {x y : Nat} (hx : x < 2 ^ 32) (hy : y < 2 ^ 32) : ((nI x).toInt64 <<< ((nI 32).toInt64 &&& 63)) ||| lN y = lN (x * 2 ^ 32 + y) := by
  apply Int64.toBitVec_inj.mp
  apply BitVec.eq_of_toNat_eq
  have h3 := sx32 (nI x)
  rw [nI_toNat hx] at h3
  rw [Int64.toBitVec_or, Int64.toBitVec_shiftLeft, show (((nI 32).toInt64 &&& 63).toBitVec.smod 64) = 32#64 by decide +kernel, BitVec.toNat_or, lN_toNat (by omega), lN_toNat (by omega)]
  show ((nI x).toInt64.toBitVec <<< 32).toNat ||| y = _
  rw [BitVec.toNat_shiftLeft, Nat.shiftLeft_eq]
  have h4 : (nI x).toInt64.toBitVec.toNat * 2 ^ 32 % 2 ^ 64 = 2 ^ 32 * x := by omega
  rw [h4, ← Nat.two_pow_add_eq_or_of_lt hy]
  omega
theorem c_eightAt {b : Bool} {μ : xm_M} {n : Nat} (a : Nat) (hn : μ.1 1 1 = nI n) (h6 : n ≤ 6000) (ha : a + 8 < 2 ^ 31) : xCl b b k_X6_eightAt μ [.ref 1, .int (nI a)] (fun r μ' => r = lN (e8 (μ.1 2) n a) ∧ μ' = μ) := by
  apply g_X6_eightAt
  refine ⟨_, c_fourAt a hn h6 (by omega), ?_⟩
  intro r m e x ex
  obtain ⟨q1, q2⟩ := e
  subst q2
  refine ⟨_, by rw [nI_add]; exact c_fourAt (a + 4) hn h6 (by omega), ?_⟩
  intro r8 m e
  obtain ⟨q3, q2⟩ := e
  subst q2
  refine ⟨?_, rfl⟩
  rw [ex, q1, q3, lm32 (f4_lt _ _ _), or32 (f4_lt _ _ _) (f4_lt _ _ _)]
  rfl
