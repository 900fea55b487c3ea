/-! ===== the reference: bytes, check, right pages ===== -/
theorem by_in {x : Int32} (h : fits .byte (.int x) = true) : -128 ≤ x.toInt ∧ x.toInt ≤ 127 := by
  simp only [fits, Bool.and_eq_true, decide_eq_true_eq] at h
  obtain ⟨h1, h2⟩ := h
  rw [Int32.le_iff_toInt_le] at h1 h2
  exact ⟨h1, h2⟩
theorem by_nar {x : Int32} (h : fits .byte (.int x) = true) : vp_nar .byte x = x := by
  obtain ⟨h1, h2⟩ := by_in h
  show x.toInt8.toInt32 = x
  apply Int32.toInt_inj.mp
  rw [Int8.toInt_toInt32, Int32.toInt_toInt8]
  rw [Int.bmod_eq_of_le (by omega) (by omega)]
theorem by_eq {x : Int32} (h : fits .byte (.int x) = true) {k : Nat} (hk : k < 128) : bn x = k ↔ x = nI k := by
  obtain ⟨h1, h2⟩ := by_in h
  constructor
  · intro e
    apply Int32.toInt_inj.mp
    rw [nI_toInt (by omega)]
    unfold bn at e
    have h3 := BitVec.toInt_eq_toNat_cond x.toBitVec
    have h4 := x.toBitVec.isLt
    rw [show x.toBitVec.toInt = x.toInt from rfl] at h3
    split at h3 <;> omega
  · intro e
    rw [e]
    unfold bn
    rw [nI_toNat (by omega)]
    omega
theorem or8L {x y : Nat} (hx : x < 2 ^ 56) (hy : y < 256) : (lN x <<< ((nI 8).toInt64 &&& 63)) ||| (nI y).toInt64 = lN (x * 256 + y) := by
  rw [nI_l (n := y) (by omega)]
  apply Int64.toBitVec_inj.mp
  apply BitVec.eq_of_toNat_eq
  rw [Int64.toBitVec_or, Int64.toBitVec_shiftLeft, show (((nI 8).toInt64 &&& 63).toBitVec.smod 64) = 8#64 by decide +kernel, BitVec.toNat_or, lN_toNat (by omega), lN_toNat (by omega)]
  show ((lN x).toBitVec <<< 8).toNat ||| y = _
  rw [BitVec.toNat_shiftLeft, Nat.shiftLeft_eq, lN_toNat (by omega), Nat.mod_eq_of_lt (by omega), show x * 2 ^ 8 = 2 ^ 8 * x by omega, ← Nat.two_pow_add_eq_or_of_lt (show y < 2 ^ 8 from hy)]
def lo8 (t : Nat → Int32) (a : Nat) : Nat → Nat
  | 0 => 0
  | m + 1 => bn (t a) + 256 * lo8 t (a + 1) m
theorem lo8_lt (t : Nat → Int32) : ∀ (m a : Nat), lo8 t a m < 256 ^ m
  | 0, _ => Nat.lt_succ_self 0
  | m + 1, a => by
    have h1 := lo8_lt t m (a + 1)
    have h2 := bn_lt (t a)
    unfold lo8
    rw [Nat.pow_succ]
    omega
theorem c_mlow {b : Bool} {μ : xm_M} {n : Nat} {t : Nat → Int32} (a m : Nat) (hm : 0 < m ∧ m ≤ 8) (h6 : n ≤ 6000) (ha : a + m ≤ n) (hT : ∀ j, j < n → μ.1 76 j = t j) : xCl b b k_X9_low μ [.ref 76, .int (nI a), .int (nI m)] (fun r μ' => r = lN (lo8 t a m) ∧ μ' = μ) := by
  have loop : ∀ k, k < m → hd_X9_low_7 b (fun r μ' => r = lN (lo8 t a m) ∧ μ' = μ) (nI a) (lN (lo8 t (a + k + 1) (m - k - 1))) (nI k) μ := by
    intro k
    induction k with
    | zero =>
      intro hk
      have hl := lo8_lt t (m - 0 - 1) (a + 0 + 1)
      have hp : 256 ^ (m - 0 - 1) ≤ 256 ^ 7 := Nat.pow_le_pow_right (by decide) (by omega)
      apply l_X9_low_7
      refine ⟨fun c => absurd c (n0 (by decide)), fun _ => ?_⟩
      rw [nI_add, cl (by omega), hT _ (by omega), bn_and, or8L (by omega) (bn_lt _)]
      refine ⟨vin (by omega) (by decide), ?_⟩
      intro x3 e3 x4 e4
      apply l_X9_low_7
      refine ⟨fun _ => ⟨?_, rfl⟩, fun c => absurd (by rw [e4]; decide +kernel) c⟩
      rw [e3]
      congr 1
      obtain ⟨m, rfl⟩ : ∃ m', m = m' + 1 := ⟨m - 1, by omega⟩
      show _ = bn (t a) + 256 * lo8 t (a + 1) m
      simp only [Nat.add_zero, Nat.sub_zero, Nat.add_sub_cancel]
      omega
    | succ k ih =>
      intro hk
      have hl := lo8_lt t (m - (k + 1) - 1) (a + (k + 1) + 1)
      have hp : 256 ^ (m - (k + 1) - 1) ≤ 256 ^ 7 := Nat.pow_le_pow_right (by decide) (by omega)
      apply l_X9_low_7
      refine ⟨fun c => absurd c (n0 (by omega)), fun _ => ?_⟩
      rw [nI_add, cl (by omega), hT _ (by omega), bn_and, or8L (by omega) (bn_lt _)]
      refine ⟨vin (by omega) (by decide), ?_⟩
      intro x3 e3 x4 e4
      rw [e4, pk_m1, e3]
      have h := ih (by omega)
      have he : lo8 t (a + k + 1) (m - k - 1) = lo8 t (a + (k + 1) + 1) (m - (k + 1) - 1) * 256 + bn (t (a + (k + 1))) := by
        rw [show m - k - 1 = (m - (k + 1) - 1) + 1 by omega]
        show bn (t (a + k + 1)) + 256 * lo8 t (a + k + 1 + 1) _ = _
        rw [show a + (k + 1) = a + k + 1 by omega]
        omega
      rw [he] at h
      exact h
  apply g_X9_low
  intro x e
  rw [pk_sub (by omega)] at e
  rw [e]
  have h := loop (m - 1) (by omega)
  rw [show m - (m - 1) - 1 = 0 by omega] at h
  exact h
theorem lo8_4 {t : Nat → Int32} {n a : Nat} (h : a + 4 ≤ n) : lo8 t a 4 = f4 t n a := by
  unfold f4 tb
  rw [if_pos (by omega), if_pos (by omega), if_pos (by omega), if_pos (by omega)]
  show bn (t a) + 256 * (bn (t (a + 1)) + 256 * (bn (t (a + 1 + 1)) + 256 * (bn (t (a + 1 + 1 + 1)) + 256 * 0))) = _
  rw [show a + 1 + 1 = a + 2 from rfl, show a + 2 + 1 = a + 3 from rfl]
  omega
theorem lo8_8 {t : Nat → Int32} {n a : Nat} (h : a + 8 ≤ n) : lo8 t a 8 = e8 t n a := by
  unfold e8
  rw [← lo8_4 (show a + 4 ≤ n by omega), ← lo8_4 (show a + 4 + 4 ≤ n by omega)]
  show bn (t a) + 256 * (bn (t (a + 1)) + 256 * (bn (t (a + 2)) + 256 * (bn (t (a + 3)) + 256 * lo8 t (a + 4) 4))) = _ + (bn (t a) + 256 * (bn (t (a + 1)) + 256 * (bn (t (a + 2)) + 256 * (bn (t (a + 3)) + 256 * 0))))
  omega
theorem mc_in {b : Bool} {Q : Int32 → xm_M → Prop} {μ : xm_M} (v1 v2 v3 v5 : Int32) (c : Int32) (i : Nat) (hi : i < 8) (k : hd_X9_crc_51 b Q v1 v2 v3 (d1 c) v5 (nI (i + 1)) μ) : hd_X9_crc_51 b Q v1 v2 v3 c v5 (nI i) μ := by
  apply l_X9_crc_51
  refine ⟨fun h => ?_, fun _ => ⟨fun h x4 e4 x5 e5 => ?_, fun h x6 e6 x7 e7 => ?_⟩⟩
  · rw [nI_leI (by decide) (by omega)] at h
    omega
  · rw [e5, nI_add, e4]
    unfold d1 at k
    rw [if_pos h] at k
    exact k
  · rw [e7, nI_add, e6]
    unfold d1 at k
    rw [if_neg h] at k
    exact k
theorem mc_8 {b : Bool} {Q : Int32 → xm_M → Prop} {μ : xm_M} (v1 v2 v3 : Int32) (c : Int32) (j : Nat) (k : hd_X9_crc_6 b Q v1 v2 v3 (d8 c) (nI (j + 1)) μ) : hd_X9_crc_51 b Q v1 v2 v3 c (nI j) (nI 0) μ := by
  refine mc_in _ _ _ _ _ 0 (by decide) (mc_in _ _ _ _ _ 1 (by decide) (mc_in _ _ _ _ _ 2 (by decide) (mc_in _ _ _ _ _ 3 (by decide) (mc_in _ _ _ _ _ 4 (by decide) (mc_in _ _ _ _ _ 5 (by decide) (mc_in _ _ _ _ _ 6 (by decide) (mc_in _ _ _ _ _ 7 (by decide) ?_)))))))
  apply l_X9_crc_51
  refine ⟨fun _ x2 e2 => ?_, fun c => absurd (nI_le (by decide) (by decide)) c⟩
  rw [e2, nI_add]
  exact k
theorem c_mcrc {b : Bool} {μ : xm_M} {n : Nat} {t : Nat → Int32} (a w : Nat) (h6 : n ≤ 6000) (ha : a + w ≤ n) (hT : ∀ j, j < n → μ.1 76 j = t j) : xCi b b k_X9_crc μ [.ref 76, .int (nI a), .int (nI w), .int (nI 22)] (fun r μ' => r = crcF t a w ∧ μ' = μ) := by
  have loop : ∀ (d k : Nat), k + d = w → hd_X9_crc_6 b (fun r μ' => r = crcF t a w ∧ μ' = μ) (nI a) (nI w) (nI 22) (crcF t a k) (nI k) μ := by
    intro d
    induction d with
    | zero =>
      intro k hk
      have : k = w := by omega
      subst this
      apply l_X9_crc_6
      exact ⟨fun _ => ⟨rfl, rfl⟩, fun c => absurd (nI_le (Nat.le_refl _) (by omega)) c⟩
    | succ d ih =>
      intro k hk
      have nxt := ih (k + 1) (by omega)
      rw [crcF_s] at nxt
      have hby : (a + k) < n := by omega
      apply l_X9_crc_6
      rw [nI_add, nI_add, cl (by omega), hT _ hby, bn_and]
      refine ⟨fun c => ?_, fun _ => ⟨fun c => ⟨vin (by omega) (by decide), fun x4 e4 => ?_⟩, fun c => ⟨fun c2 => ⟨vin (by omega) (by decide), fun x7 e7 => ?_⟩, fun c2 x8 e8' => ?_⟩⟩⟩
      · rw [nI_leI (by omega) (by omega)] at c
        omega
      · rw [nI_ltI (by omega) (by decide)] at c
        rw [if_neg (by omega)] at nxt
        rw [e4]
        exact mc_8 _ _ _ _ _ nxt
      · rw [nI_leI (by decide) (by omega)] at c2
        rw [if_neg (by omega)] at nxt
        rw [e7]
        exact mc_8 _ _ _ _ _ nxt
      · rw [nI_ltI (by omega) (by decide)] at c
        rw [nI_leI (by decide) (by omega)] at c2
        rw [if_pos (by omega)] at nxt
        rw [e8']
        exact mc_8 _ _ _ _ _ nxt
  apply g_X9_crc
  exact loop w 0 (by omega)
theorem lN_i32 {n : Nat} : (lN n).toInt32 = nI n := lN_i n
/-- the reference's look for a right page: its end, or - 1 -/
theorem c_pageEnd {b : Bool} {μ : xm_M} {n : Nat} {t : Nat → Int32} (a : Nat) (h6 : n ≤ 6000) (ha : a < n) (hT : ∀ j, j < n → μ.1 76 j = t j) (hF : ∀ j, j < n → fits .byte (.int (t j)) = true) : xCi b b k_X9_pageEnd μ [.ref 75, .int (nI a), .int (nI n)] (fun r μ' => (r = if pgW t n a = 0 then -1 else nI (a + pgW t n a)) ∧ μ' = μ) := by
  have no : ¬ pgOK t n a → (-1 : Int32) = if pgW t n a = 0 then -1 else nI (a + pgW t n a) := by
    intro h
    rw [pgW, if_neg h, if_pos rfl]
  have tbe : ∀ j, j < n → tb t n j = bn (t j) := fun j hj => by rw [tb, if_pos hj]
  apply g_X9_pageEnd
  rw [nI_add, nI_add, nI_add, nI_add, nI_add, nI_add]
  refine ⟨fun c => ⟨no (fun h => ?_), rfl⟩, fun c => ⟨vin (by omega) (by decide), ?_⟩⟩
  · rw [nI_ltI (by omega) (by omega)] at c
    have := h.2.1
    omega
  rw [nI_ltI (by omega) (by omega)] at c
  have hm : ∀ k, k < 27 → a + k < n := fun k hk => by omega
  rw [cl (by omega), cl (by omega), cl (by omega), cl (by omega), cl (by omega), cl (by omega), hT a ha, hT _ (hm 1 (by decide)), hT _ (hm 2 (by decide)), hT _ (hm 3 (by decide)), hT _ (hm 4 (by decide)), hT _ (hm 26 (by decide)), bn_and]
  have b0 := tbe a ha
  have b1 := tbe _ (hm 1 (by decide))
  have b2 := tbe _ (hm 2 (by decide))
  have b3 := tbe _ (hm 3 (by decide))
  have b4 := tbe _ (hm 4 (by decide))
  refine ⟨fun c0 => ⟨no (fun h => c0 ((by_eq (hF _ ha) (by decide)).mp (b0 ▸ h.1.1))), rfl⟩, fun c0 => ⟨vin (by omega) (by decide), ?_⟩⟩
  refine ⟨fun c1 => ⟨no (fun h => c1 ((by_eq (hF _ (hm 1 (by decide))) (by decide)).mp (b1 ▸ h.1.2.1))), rfl⟩, fun c1 => ⟨vin (by omega) (by decide), ?_⟩⟩
  refine ⟨fun c2 => ⟨no (fun h => c2 ((by_eq (hF _ (hm 2 (by decide))) (by decide)).mp (b2 ▸ h.1.2.2.1))), rfl⟩, fun c2 => ⟨vin (by omega) (by decide), ?_⟩⟩
  refine ⟨fun c3 => ⟨no (fun h => c3 ((by_eq (hF _ (hm 3 (by decide))) (by decide)).mp (b3 ▸ h.1.2.2.2.1))), rfl⟩, fun c3 => ⟨vin (by omega) (by decide), ?_⟩⟩
  refine ⟨fun c4 => ⟨vin (by omega) (by decide), ?_⟩, fun c4 => ⟨no (fun h => c4 ((by_eq (hF _ (hm 4 (by decide))) (by decide)).mp (b4 ▸ h.1.2.2.2.2))), rfl⟩⟩
  have hM : pgM t n a := ⟨b0.trans ((by_eq (hF _ ha) (by decide)).mpr c0), b1.trans ((by_eq (hF _ (hm 1 (by decide))) (by decide)).mpr c1), b2.trans ((by_eq (hF _ (hm 2 (by decide))) (by decide)).mpr c2), b3.trans ((by_eq (hF _ (hm 3 (by decide))) (by decide)).mpr c3), b4.trans ((by_eq (hF _ (hm 4 (by decide))) (by decide)).mpr c4)⟩
  have hL : pgL t a < 256 := bn_lt _
  intro x13 e13 x14 e14
  have e13 : x13 = nI (pgL t a) := e13
  rw [e13, nI_add] at e14
  rw [e13, e14]
  refine ⟨fun c5 => ?_, fun c5 => ⟨no (fun h => ?_), rfl⟩⟩
  rotate_left
  · rw [nI_leI (by omega) (by omega)] at c5
    have := h.2.2.1
    omega
  rw [nI_leI (by omega) (by omega)] at c5
  have loop : ∀ (d i : Nat), i + d = pgL t a → hd_X9_pageEnd_104 b (fun r μ' => (r = if pgW t n a = 0 then -1 else nI (a + pgW t n a)) ∧ μ' = μ) (nI a) (nI n) (nI (pgL t a)) (nI (a + 27 + pgL t a + lsum t a i)) (nI i) μ := by
    intro d
    induction d with
    | zero =>
      intro i hi
      have : i = pgL t a := by omega
      subst this
      have hW : 27 + pgL t a + lsum t a (pgL t a) = pgW0 t a := rfl
      have hsl := lsum_le t a (pgL t a)
      have hW3 : a + 27 + pgL t a + lsum t a (pgL t a) = a + pgW0 t a := by omega
      rw [hW3]
      have hW2 : pgW0 t a ≤ 70000 := by rw [← hW]; omega
      apply l_X9_pageEnd_104
      refine ⟨fun _ => ⟨fun c6 => ⟨no (fun h => ?_), rfl⟩, fun c6 => ?_⟩, fun c => absurd (nI_le (Nat.le_refl _) (by omega)) c⟩
      · rw [nI_ltI (by omega) (by omega)] at c6
        have := h.2.2.2.1
        omega
      rw [nI_ltI (by omega) (by omega)] at c6
      refine ⟨_, by rw [pk_sub (by omega), show a + pgW0 t a - a = pgW0 t a by omega]; exact c_mcrc (t := t) a (pgW0 t a) h6 (by omega) hT, ?_⟩
      intro r5 m e
      obtain ⟨q5, q2⟩ := e
      subst q2
      refine ⟨_, by rw [nI_add]; exact c_mlow (t := t) (a + 22) 4 (by decide) h6 (by omega) hT, ?_⟩
      intro r9 m e
      obtain ⟨q9, q2⟩ := e
      subst q2
      rw [q5, q9, lN_i, lo8_4 (n := n) (by omega)]
      refine ⟨fun c7 => ⟨no (fun h => c7 h.2.2.2.2), rfl⟩, fun c7 => ⟨?_, rfl⟩⟩
      have hok : pgW t n a = pgW0 t a := by rw [pgW, if_pos ⟨hM, by omega, by omega, by omega, c7⟩]
      rw [hok, if_neg (by omega)]
    | succ d ih =>
      intro i hi
      have hsl := lsum_le t a i
      have hb := bn_lt (t (a + 27 + i))
      apply l_X9_pageEnd_104
      refine ⟨fun c => ?_, fun _ => ?_⟩
      · rw [nI_leI (by omega) (by omega)] at c
        omega
      rw [nI_add, nI_add, cl (by omega), hT _ (by omega), bn_and, nI_add]
      refine ⟨vin (by omega) (by decide), fun x13 e13 x14 e14 => ?_⟩
      rw [e13, e14, nI_add, Nat.add_assoc (a + 27 + pgL t a)]
      exact ih (i + 1) (by omega)
  exact loop (pgL t a) 0 (by omega)
