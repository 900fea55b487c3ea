/-! ===== the check of a page ===== -/
def d1 (c : Int32) : Int32 := if 0 ≤ c then c <<< (nI 1 &&& 31) else (c <<< (nI 1 &&& 31)) ^^^ nI 79764919
def d8 (c : Int32) : Int32 := d1 (d1 (d1 (d1 (d1 (d1 (d1 (d1 c)))))))
def e1 (c : BitVec 32) : BitVec 32 := (c <<< 1) ^^^ (if c.msb then 79764919#32 else 0#32)
theorem d1_e1 (c : Int32) : (d1 c).toBitVec = e1 c.toBitVec := by
  have hm : (0 ≤ c) ↔ c.toBitVec.msb = false := by
    rw [Int32.le_iff_toInt_le, Int32.toInt_zero, BitVec.msb_eq_false_iff_two_mul_lt]
    have h := BitVec.toInt_eq_toNat_cond c.toBitVec
    have hl := c.toBitVec.isLt
    rw [show c.toInt = c.toBitVec.toInt from rfl, h]
    split <;> omega
  have hs : (c <<< (nI 1 &&& 31)).toBitVec = c.toBitVec <<< 1 := by
    rw [Int32.toBitVec_shiftLeft]
    rw [show ((nI 1 &&& 31).toBitVec.smod 32) = 1#32 by decide +kernel]
    rfl
  unfold d1 e1
  by_cases h : 0 ≤ c
  · rw [if_pos h, hm.mp h, hs]
    simp
  · have hb : c.toBitVec.msb = true := by
      cases hh : c.toBitVec.msb with
      | false => exact absurd (hm.mpr hh) h
      | true => rfl
    rw [if_neg h, hb, Int32.toBitVec_xor, hs]
    rfl
theorem e1_xor (x y : BitVec 32) : e1 (x ^^^ y) = e1 x ^^^ e1 y := by
  unfold e1
  rw [BitVec.msb_xor, BitVec.shiftLeft_xor_distrib]
  generalize x <<< 1 = p
  generalize y <<< 1 = q
  generalize 79764919#32 = z
  cases x.msb <;> cases y.msb <;> apply BitVec.eq_of_getLsbD_eq <;> intro i hi <;> simp <;> cases p.getLsbD i <;> cases q.getLsbD i <;> cases z.getLsbD i <;> rfl
def e4 (c : BitVec 32) : BitVec 32 := e1 (e1 (e1 (e1 c)))
theorem e4_xor (x y : BitVec 32) : e4 (x ^^^ y) = e4 x ^^^ e4 y := by
  unfold e4
  rw [e1_xor, e1_xor, e1_xor, e1_xor]
theorem e1_lo (x : BitVec 32) (h : x.msb = false) : e1 x = x <<< 1 := by
  unfold e1
  rw [h]
  simp
def tv (k : Nat) : BitVec 32 := ((xs_tab 2).getD k 0).toBitVec
theorem e4_hi : ∀ k : Fin 16, e4 (BitVec.ofNat 32 k.val <<< 28) = tv k.val := by decide +kernel
theorem e4_lo (x : BitVec 32) (h : x.toNat < 2 ^ 28) : e4 x = x <<< 4 := by
  have m : ∀ i, i ≤ 3 → (x <<< i).msb = false := by
    intro i hi
    rw [BitVec.msb_eq_false_iff_two_mul_lt, BitVec.toNat_shiftLeft, Nat.shiftLeft_eq]
    have h1 : x.toNat * 2 ^ i ≤ x.toNat * 2 ^ 3 := Nat.mul_le_mul_left _ (Nat.pow_le_pow_right (by decide) hi)
    have h2 := Nat.mod_le (x.toNat * 2 ^ i) (2 ^ 32)
    omega
  unfold e4
  have m0 := m 0 (by decide)
  rw [BitVec.shiftLeft_zero] at m0
  rw [e1_lo x m0, e1_lo _ (m 1 (by decide)), ← BitVec.shiftLeft_add, e1_lo _ (m 2 (by decide)), ← BitVec.shiftLeft_add, e1_lo _ (m 3 (by decide)), ← BitVec.shiftLeft_add]
theorem e4_tv (c : BitVec 32) : e4 c = (c <<< 4) ^^^ tv (c.toNat / 2 ^ 28) := by
  have hl := c.isLt
  have hk : c.toNat / 2 ^ 28 < 16 := by omega
  have hc : c = (BitVec.ofNat 32 (c.toNat / 2 ^ 28) <<< 28) ^^^ BitVec.ofNat 32 (c.toNat % 2 ^ 28) := by
    apply BitVec.eq_of_toNat_eq
    rw [show ((BitVec.ofNat 32 (c.toNat / 2 ^ 28) <<< 28) ^^^ BitVec.ofNat 32 (c.toNat % 2 ^ 28)) = ((BitVec.ofNat 32 (c.toNat / 2 ^ 28) <<< 28) ||| BitVec.ofNat 32 (c.toNat % 2 ^ 28)) from ?_]
    · rw [BitVec.toNat_or, BitVec.toNat_shiftLeft, BitVec.toNat_ofNat, BitVec.toNat_ofNat, Nat.shiftLeft_eq]
      rw [Nat.mod_eq_of_lt (show c.toNat / 2 ^ 28 < 2 ^ 32 by omega), Nat.mod_eq_of_lt (show c.toNat % 2 ^ 28 < 2 ^ 32 by omega), Nat.mod_eq_of_lt (show c.toNat / 2 ^ 28 * 2 ^ 28 < 2 ^ 32 by omega)]
      have h1 : c.toNat / 2 ^ 28 * 2 ^ 28 = 2 ^ 28 * (c.toNat / 2 ^ 28) := Nat.mul_comm _ _
      rw [h1, ← Nat.two_pow_add_eq_or_of_lt (Nat.mod_lt _ (by decide))]
      omega
    · apply BitVec.eq_of_getLsbD_eq
      intro i hi
      by_cases h28 : i < 28
      · simp [h28]
      · have : (c.toNat % 2 ^ 28).testBit i = false := Nat.testBit_lt_two_pow (Nat.lt_of_lt_of_le (Nat.mod_lt _ (by decide)) (Nat.pow_le_pow_right (by decide) (by omega)))
        simp only [BitVec.getLsbD_xor, BitVec.getLsbD_or, BitVec.getLsbD_ofNat, this, Bool.and_false, Bool.xor_false, Bool.or_false]
  have hz : (BitVec.ofNat 32 (c.toNat / 2 ^ 28) <<< 28) <<< 4 = 0#32 := by
    rw [← BitVec.shiftLeft_add]
    apply BitVec.eq_of_toNat_eq
    rw [BitVec.toNat_shiftLeft, Nat.shiftLeft_eq]
    simp
  have h1 := e4_hi ⟨_, hk⟩
  have h2 := e4_lo (BitVec.ofNat 32 (c.toNat % 2 ^ 28)) (by rw [BitVec.toNat_ofNat]; omega)
  have h3 : c <<< 4 = BitVec.ofNat 32 (c.toNat % 2 ^ 28) <<< 4 := by
    conv => lhs; rw [hc]
    rw [BitVec.shiftLeft_xor_distrib, hz]
    simp
  conv => lhs; rw [hc]
  rw [e4_xor, h1, h2, h3, BitVec.xor_comm]
def tn (c : Int32) : Int32 := (c <<< (nI 4 &&& 31)) ^^^ ((xs_tab 2).getD (su c 28).toNatClampNeg 0)
theorem su28 (c : Int32) : su c 28 = nI (c.toBitVec.toNat / 2 ^ 28) := by
  have h := pk_ushr c (nI 28) 28 (by decide +kernel)
  have hl := c.toBitVec.isLt
  apply Int32.toBitVec_inj.mp
  apply BitVec.eq_of_toNat_eq
  rw [nI_toNat (by omega)]
  exact h
theorem tn_d1 (c : Int32) : tn c = d1 (d1 (d1 (d1 c))) := by
  have hl := c.toBitVec.isLt
  apply Int32.toBitVec_inj.mp
  rw [d1_e1, d1_e1, d1_e1, d1_e1]
  show _ = e4 c.toBitVec
  rw [e4_tv]
  unfold tn
  rw [Int32.toBitVec_xor, su28, cl (by omega), Int32.toBitVec_shiftLeft, show ((nI 4 &&& 31).toBitVec.smod 32) = 4#32 by decide +kernel]
  rfl
theorem c_turned {b : Bool} {μ : xm_M} (c : Int32) : xCi b b k_X6_turned μ [.int c] (fun r μ' => r = d8 c ∧ μ' = μ) := by
  have hv : ∀ c : Int32, vp_in (su c 28) 16 := by
    intro c
    rw [su28]
    have hl := c.toBitVec.isLt
    exact vin (by omega) (by decide)
  apply g_X6_turned
  refine ⟨hv c, fun x e => ⟨hv x, ?_, rfl⟩⟩
  subst e
  show tn (tn c) = d8 c
  rw [tn_d1, tn_d1]
  rfl
theorem sh24 (x : Int32) : x <<< (nI 24 &&& 31) = nI (bn x) <<< (nI 24 &&& 31) := by
  apply Int32.toBitVec_inj.mp
  apply BitVec.eq_of_toNat_eq
  rw [pk_shl _ _ 24 (by decide +kernel), pk_shl _ _ 24 (by decide +kernel), nI_toNat (by have := bn_lt x; omega)]
  unfold bn
  have hl := x.toBitVec.isLt
  omega
/-- the check behind k bytes of the page at a -/
def crcF (t : Nat → Int32) (a : Nat) : Nat → Int32
  | 0 => 0
  | k + 1 => d8 (crcF t a k ^^^ (nI (if 22 ≤ k ∧ k < 26 then 0 else bn (t (a + k))) <<< (nI 24 &&& 31)))
theorem crcF_s (t : Nat → Int32) (a k : Nat) : crcF t a (k + 1) = d8 (crcF t a k ^^^ (nI (if 22 ≤ k ∧ k < 26 then 0 else bn (t (a + k))) <<< (nI 24 &&& 31))) := rfl
theorem crcF_congr {t u : Nat → Int32} {a n : Nat} (h : ∀ j, j < n → t (a + j) = u (a + j)) : ∀ k, k ≤ n → crcF t a k = crcF u a k
  | 0, _ => rfl
  | k + 1, hk => by
    rw [crcF_s, crcF_s, crcF_congr h k (by omega), h k (by omega)]
theorem co_loop {b : Bool} {Q : Int32 → xm_M → Prop} {μ : xm_M} {t : Nat → Int32} (a k1 : Nat) (h6 : a + k1 ≤ 6000) (hT : ∀ j, a ≤ j → j < a + k1 → μ.1 2 j = t j) (hQ : Q (crcF t a k1) μ) : ∀ (d k : Nat), k + d = k1 → (∀ j, k ≤ j → j < k1 → ¬ (22 ≤ j ∧ j < 26)) → hd_X6_crcOn_10 b Q (nI (a + k1)) (crcF t a k) (nI (a + k)) μ := by
  intro d
  induction d with
  | zero =>
    intro k hk _
    have : k = k1 := by omega
    subst this
    apply l_X6_crcOn_10
    exact ⟨fun _ => hQ, fun c => absurd (nI_le (Nat.le_refl _) (by omega)) c⟩
  | succ d ih =>
    intro k hk hs
    apply l_X6_crcOn_10
    refine ⟨fun c => ?_, fun _ => ⟨fun c => ?_, fun _ => ⟨vin (by omega) (by decide), ⟨_, c_turned _, ?_⟩⟩⟩⟩
    · rw [nI_leI (by omega) (by omega)] at c
      omega
    · rw [nI_leI (by decide) (by omega)] at c
      omega
    · intro r m e x8 e8
      obtain ⟨q1, q2⟩ := e
      subst q2
      subst e8
      have h1 : d8 (crcF t a k ^^^ m.1 2 (nI (a + k)).toNatClampNeg <<< (nI 24 &&& 31)) = crcF t a (k + 1) := by
        rw [crcF_s, cl (by omega), hT _ (by omega) (by omega), sh24, if_neg (hs k (Nat.le_refl _) (by omega))]
      rw [q1, h1, nI_add]
      exact ih (k + 1) (by omega) (fun j hj => hs j (by omega))
theorem c_crcOn {b : Bool} {μ : xm_M} {t : Nat → Int32} (a k0 k1 : Nat) (hk : k0 ≤ k1) (h6 : a + k1 ≤ 6000) (hT : ∀ j, a ≤ j → j < a + k1 → μ.1 2 j = t j) (hs : ∀ j, k0 ≤ j → j < k1 → ¬ (22 ≤ j ∧ j < 26)) : xCi b b k_X6_crcOn μ [.ref 1, .int (crcF t a k0), .int (nI (a + k0)), .int (nI (a + k1))] (fun r μ' => r = crcF t a k1 ∧ μ' = μ) := by
  apply g_X6_crcOn
  intro x e
  have hx : x = nI (a + k0) := by
    rw [e]
    split
    · rfl
    · rename_i h
      rw [nI_ltI (by decide) (by omega)] at h
      rw [show a + k0 = 0 by omega]
  subst hx
  exact co_loop a k1 h6 hT ⟨rfl, rfl⟩ (k1 - k0) k0 (by omega) hs
theorem c_crc {b : Bool} {μ : xm_M} {t : Nat → Int32} (a w : Nat) (hw : 26 ≤ w) (h6 : a + w ≤ 6000) (hT : ∀ j, a ≤ j → j < a + w → μ.1 2 j = t j) : xCi b b k_X6_crc μ [.ref 1, .int (nI a), .int (nI (a + w))] (fun r μ' => r = crcF t a w ∧ μ' = μ) := by
  apply g_X6_crc
  refine ⟨_, by rw [nI_add]; exact c_crcOn (t := t) a 0 22 (by decide) (by omega) (fun j h1 h2 => hT j h1 (by omega)) (fun j _ h => by omega), ?_⟩
  intro r m e
  obtain ⟨q1, q2⟩ := e
  subst q2
  rw [q1]
  have step : ∀ i, i < 4 → hd_X6_crc_14 b (fun r μ' => r = crcF t a w ∧ μ' = m) (nI a) (nI (a + w)) (crcF t a (22 + i + 1)) (nI (i + 1)) m → hd_X6_crc_14 b (fun r μ' => r = crcF t a w ∧ μ' = m) (nI a) (nI (a + w)) (crcF t a (22 + i)) (nI i) m := by
    intro i hi k
    apply l_X6_crc_14
    refine ⟨fun c => ?_, fun _ => ⟨_, c_turned _, ?_⟩⟩
    · rw [nI_leI (by decide) (by omega)] at c
      omega
    · intro r m e x ex
      obtain ⟨q1, q2⟩ := e
      subst q2
      subst ex
      have h1 : d8 (crcF t a (22 + i)) = crcF t a (22 + i + 1) := by
        rw [crcF_s, if_pos (by omega), show nI 0 <<< (nI 24 &&& 31) = (0 : Int32) by decide +kernel, Int32.xor_zero]
      rw [q1, h1, nI_add]
      exact k
  refine step 0 (by decide) (step 1 (by decide) (step 2 (by decide) (step 3 (by decide) ?_)))
  apply l_X6_crc_14
  refine ⟨fun _ => ⟨_, by rw [nI_add, nI_add]; exact c_crcOn (t := t) a 26 w hw h6 hT (fun j h _ => by omega), ?_⟩, fun c => absurd (nI_le (by decide) (by decide)) c⟩
  intro r m e
  exact e
