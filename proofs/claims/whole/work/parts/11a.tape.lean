/-! ===== the class's tape: reading and writing bytes ===== -/
def su (x : Int32) (s : Nat) : Int32 := (x.toUInt32 >>> ((nI s).toUInt32 &&& Int32.toUInt32 31)).toInt32
def tb (f : Nat → Int32) (n a : Nat) : Nat := if a < n then bn (f a) else 0
theorem tb_lt (f : Nat → Int32) (n a : Nat) : tb f n a < 256 := by
  unfold tb
  split
  · exact bn_lt _
  · decide
theorem c_byteAt {b : Bool} {μ : xm_M} {n : Nat} (a : Nat) (hn : μ.1 1 1 = nI n) (h6 : n ≤ 6000) (ha : a < 2 ^ 31) : xCi b b k_X6_byteAt μ [.ref 1, .int (nI a)] (fun r μ' => r = nI (tb (μ.1 2) n a) ∧ μ' = μ) := by
  apply g_X6_byteAt
  refine ⟨fun c => absurd c (n0 ha), fun _ => ⟨fun c => ⟨?_, rfl⟩, fun c => ⟨fun c2 => ⟨?_, rfl⟩, fun c2 => ⟨?_, ?_, rfl⟩⟩⟩⟩
  · rw [hn, nI_leI (by omega) ha] at c
    rw [tb, if_neg (by omega)]
  · rw [hn, nI_leI (by omega) ha] at c
    rw [nI_leI (by decide) ha] at c2
    omega
  · rw [nI_leI (by decide) ha] at c2
    exact vin (by omega) (by decide)
  · rw [hn, nI_leI (by omega) ha] at c
    rw [tb, if_pos (by omega), bn_and, cl ha]
theorem c_setByte {b : Bool} {μ : xm_M} (a : Nat) (v : Int32) (ha : a < 6000) : xCv b b k_X6_setByte μ [.ref 1, .int (nI a), .int v] (fun μ' => μ' = xu_I μ 2 (upd (μ.1 2) a (by8 v))) := by
  apply g_X6_setByte
  refine ⟨fun c => absurd c (n0 (by omega)), fun _ => ⟨fun c => ?_, fun c => ⟨vin ha (by decide), ?_⟩⟩⟩
  · rw [nI_leI (by decide) (by omega)] at c
    omega
  · intro m e
    rw [e, cl (by omega), vn8]
theorem phf_step {b : Bool} {Q : xm_M → Prop} {μ : xm_M} {n : Nat} (v : Int32) (s : Nat) (hs : s ≤ 24) (hn : μ.1 1 1 = nI n) (hn2 : n < 6000)
    (k : hd_X6_putHighestFirst_3 b Q v (nI s + (-8)) (xu_I (xu_I μ 2 (upd (μ.1 2) n (by8 (su v s)))) 1 (upd (μ.1 1) 1 (nI (n + 1))))) : hd_X6_putHighestFirst_3 b Q v (nI s) μ := by
  apply l_X6_putHighestFirst_3
  refine ⟨fun c => absurd c (n0 (by omega)), fun _ => ⟨_, by rw [hn]; exact c_setByte n _ hn2, ?_⟩⟩
  intro m3 e3 m6 e6 x7 e7
  subst e3
  subst e6
  subst e7
  rw [ri_n (by decide), hn, nI_add]
  exact k
theorem c_putHighestFirst {b : Bool} {μ : xm_M} {n : Nat} (v : Int32) (hn : μ.1 1 1 = nI n) (h6 : n + 4 ≤ 6000) : xCv b b k_X6_putHighestFirst μ [.ref 1, .int v] (fun μ' => fm [1, 2] μ μ' ∧ μ'.1 1 1 = nI (n + 4) ∧ ∀ j, μ'.1 2 j = if n ≤ j ∧ j < n + 4 then by8 (su v (24 - 8 * (j - n))) else μ.1 2 j) := by
  apply g_X6_putHighestFirst
  refine phf_step v 24 (by decide) hn (by omega) ?_
  rw [show nI 24 + (-8) = nI 16 by decide +kernel]
  refine phf_step v 16 (by decide) (n := n + 1) (by simp [ri_e, upd_e]) (by omega) ?_
  rw [show nI 16 + (-8) = nI 8 by decide +kernel]
  refine phf_step v 8 (by decide) (n := n + 1 + 1) (by simp [ri_e, upd_e]) (by omega) ?_
  rw [show nI 8 + (-8) = nI 0 by decide +kernel]
  refine phf_step v 0 (by decide) (n := n + 1 + 1 + 1) (by simp [ri_e, upd_e]) (by omega) ?_
  rw [show nI 0 + (-8) = (-8 : Int32) by decide +kernel]
  apply l_X6_putHighestFirst_3
  refine ⟨fun _ => ⟨?_, ?_, ?_⟩, fun c => absurd (by decide +kernel) c⟩
  · exact (((((((fm.rf.I (by decide)).I (by decide)).I (by decide)).I (by decide)).I (by decide)).I (by decide)).I (by decide)).I (by decide)
  · simp [ri_e, upd_e]
  · intro j
    rw [ri_n (by decide), ri_e, ri_n (by decide), ri_e, ri_n (by decide), ri_e, ri_n (by decide), ri_e]
    by_cases h0 : j = n
    · subst h0
      rw [upd_n (by omega), upd_n (by omega), upd_n (by omega), upd_e, if_pos (by omega), Nat.sub_self]
    · by_cases h1 : j = n + 1
      · subst h1
        rw [upd_n (by omega), upd_n (by omega), upd_e, if_pos (by omega), show n + 1 - n = 1 by omega]
      · by_cases h2 : j = n + 1 + 1
        · subst h2
          rw [upd_n (by omega), upd_e, if_pos (by omega), show n + 1 + 1 - n = 2 by omega]
        · by_cases h3 : j = n + 1 + 1 + 1
          · subst h3
            rw [upd_e, if_pos (by omega), show n + 1 + 1 + 1 - n = 3 by omega]
          · rw [upd_n h3, upd_n h2, upd_n h1, upd_n h0, if_neg (by omega)]
theorem wf_step {b : Bool} {Q : xm_M → Prop} {μ : xm_M} (a i : Nat) (v : Int32) (hi : i < 4) (ha : a + i < 6000)
    (k : hd_X6_writeFour_2 b Q (nI a) v (nI (i + 1)) (xu_I μ 2 (upd (μ.1 2) (a + i) (by8 (su v (8 * i)))))) : hd_X6_writeFour_2 b Q (nI a) v (nI i) μ := by
  apply l_X6_writeFour_2
  refine ⟨fun c => ?_, fun _ => ⟨_, by rw [nI_add, pk_mul]; exact c_setByte (a + i) _ ha, ?_⟩⟩
  · rw [nI_leI (by decide) (by omega)] at c
    omega
  intro m3 e3 x6 e6
  subst e3
  subst e6
  rw [nI_add]
  exact k
/-- four bytes, the lowest first -/
theorem c_writeFour {b : Bool} {μ : xm_M} (a : Nat) (v : Int32) (ha : a + 4 ≤ 6000) : xCv b b k_X6_writeFour μ [.ref 1, .int (nI a), .int v] (fun μ' => ∃ f, μ' = xu_I μ 2 f ∧ ∀ j, f j = if a ≤ j ∧ j < a + 4 then by8 (su v (8 * (j - a))) else μ.1 2 j) := by
  apply g_X6_writeFour
  refine wf_step a 0 v (by decide) (by omega) ?_
  refine wf_step a 1 v (by decide) (by omega) ?_
  refine wf_step a 2 v (by decide) (by omega) ?_
  refine wf_step a 3 v (by decide) (by omega) ?_
  apply l_X6_writeFour_2
  refine ⟨fun _ => ?_, fun c => absurd (nI_le (by decide) (by decide)) c⟩
  refine ⟨_, by rw [xu_II, xu_II, xu_II], ?_⟩
  intro j
  simp only [ri_e]
  by_cases h0 : j = a
  · subst h0
    rw [upd_n (by omega), upd_n (by omega), upd_n (by omega), Nat.add_zero, upd_e, if_pos (by omega), Nat.sub_self]
  · by_cases h1 : j = a + 1
    · subst h1
      rw [upd_n (by omega), upd_n (by omega), upd_e, if_pos (by omega), show a + 1 - a = 1 by omega]
    · by_cases h2 : j = a + 2
      · subst h2
        rw [upd_n (by omega), upd_e, if_pos (by omega), show a + 2 - a = 2 by omega]
      · by_cases h3 : j = a + 3
        · subst h3
          rw [upd_e, if_pos (by omega), show a + 3 - a = 3 by omega]
        · rw [upd_n h3, upd_n h2, upd_n h1, Nat.add_zero, upd_n h0, if_neg (by omega)]
def f4 (f : Nat → Int32) (n a : Nat) : Nat := ((tb f n (a + 3) * 256 + tb f n (a + 2)) * 256 + tb f n (a + 1)) * 256 + tb f n a
theorem f4_lt (f : Nat → Int32) (n a : Nat) : f4 f n a < 2 ^ 32 := by
  have h0 := tb_lt f n a
  have h1 := tb_lt f n (a + 1)
  have h2 := tb_lt f n (a + 2)
  have h3 := tb_lt f n (a + 3)
  unfold f4
  omega
/-- shifting by eight and setting the low byte -/
theorem or8 {x y : Nat} (hx : x < 2 ^ 24) (hy : y < 256) : (nI x <<< (nI 8 &&& 31)) ||| nI y = nI (x * 256 + y) := by
  rw [pk_shlN (nI 8 &&& 31) 8 (by decide +kernel) (by omega)]
  apply Int32.toBitVec_inj.mp
  rw [Int32.toBitVec_or]
  apply BitVec.eq_of_toNat_eq
  rw [BitVec.toNat_or, nI_toNat (by omega), nI_toNat (by omega), nI_toNat (by omega)]
  rw [show x * 2 ^ 8 = 2 ^ 8 * x by omega, ← Nat.two_pow_add_eq_or_of_lt (show y < 2 ^ 8 from hy)]
theorem fa_step {b : Bool} {Q : Int32 → xm_M → Prop} {μ : xm_M} {n : Nat} (a i x : Nat) (hn : μ.1 1 1 = nI n) (h6 : n ≤ 6000) (ha : a + i < 2 ^ 31) (hi : i < 4) (hx : x < 2 ^ 24)
    (k : hd_X6_fourAt_4 b Q (nI a) (nI (x * 256 + tb (μ.1 2) n (a + i))) (nI i + (-1)) μ) : hd_X6_fourAt_4 b Q (nI a) (nI x) (nI i) μ := by
  apply l_X6_fourAt_4
  refine ⟨fun c => absurd c (n0 (by omega)), fun _ => ⟨_, by rw [nI_add]; exact c_byteAt (a + i) hn h6 ha, ?_⟩⟩
  intro r4 m3 e3 x6 e6 x7 e7
  obtain ⟨rfl, rfl⟩ := e3
  subst e6
  subst e7
  rw [or8 hx (tb_lt _ _ _)]
  exact k
theorem c_fourAt {b : Bool} {μ : xm_M} {n : Nat} (a : Nat) (hn : μ.1 1 1 = nI n) (h6 : n ≤ 6000) (ha : a + 4 < 2 ^ 31) : xCi b b k_X6_fourAt μ [.ref 1, .int (nI a)] (fun r μ' => r = nI (f4 (μ.1 2) n a) ∧ μ' = μ) := by
  have h1 := tb_lt (μ.1 2) n (a + 1)
  have h2 := tb_lt (μ.1 2) n (a + 2)
  have h3 := tb_lt (μ.1 2) n (a + 3)
  apply g_X6_fourAt
  refine fa_step a 3 0 hn h6 (by omega) (by decide) (by decide) ?_
  rw [pk_m1, Nat.zero_mul, Nat.zero_add]
  refine fa_step a 2 _ hn h6 (by omega) (by decide) (by omega) ?_
  rw [pk_m1]
  refine fa_step a 1 _ hn h6 (by omega) (by decide) (by omega) ?_
  rw [pk_m1]
  refine fa_step a 0 _ hn h6 (by omega) (by decide) (by omega) ?_
  apply l_X6_fourAt_4
  exact ⟨fun _ => ⟨rfl, rfl⟩, fun c => absurd (by decide +kernel) c⟩
