/-! ===== the bits of a packet ===== -/
def bb (pk : List Int32) (i : Nat) : Nat := bn (pk.getD (i / 8) 0) / 2 ^ (i % 8) % 2
theorem bb_lt (pk : List Int32) (i : Nat) : bb pk i < 2 := Nat.mod_lt _ (by decide)
def nv (pk : List Int32) (a : Nat) : Nat → Nat
  | 0 => 0
  | k + 1 => nv pk a k + bb pk (a + k) * 2 ^ k
theorem nv_lt (pk : List Int32) (a : Nat) : ∀ k, nv pk a k < 2 ^ k
  | 0 => Nat.lt_succ_self 0
  | k + 1 => by
    have h1 := nv_lt pk a k
    have h2 := bb_lt pk (a + k)
    unfold nv
    rw [Nat.pow_succ]
    have : bb pk (a + k) * 2 ^ k ≤ 1 * 2 ^ k := Nat.mul_le_mul_right _ (by omega)
    omega
theorem bit8 (v : Int32) {k : Nat} (hk : k < 8) : (v >>> (nI k &&& 31)) &&& nI 1 = nI (bn v / 2 ^ k % 2) := by
  have hs : ∀ k, k < 8 → ((nI k &&& 31).toBitVec.smod 32).toNat = k := by decide +kernel
  have h1 := pk_shr v (nI k &&& 31) k (hs k hk)
  generalize v >>> (nI k &&& 31) = w at h1
  rw [and_bn _ (show 1 < 256 by decide)]
  congr 1
  rw [Nat.and_one_is_mod]
  unfold bn
  have a1 := BitVec.toInt_eq_toNat_cond v.toBitVec
  have a2 := v.toBitVec.isLt
  have a3 := BitVec.toInt_eq_toNat_cond w.toBitVec
  have a4 := w.toBitVec.isLt
  rw [show v.toBitVec.toInt = v.toInt from rfl] at a1
  rw [show w.toBitVec.toInt = w.toInt from rfl, h1, Int.shiftRight_eq_div_pow] at a3
  have key : ∀ (x : Int) (X : Nat), x = (if 2 * X < 2 ^ 32 then (X : Int) else (X : Int) - 2 ^ 32) → ∀ (W : Nat), (x / (2 ^ k : Nat) : Int) = (if 2 * W < 2 ^ 32 then (W : Int) else (W : Int) - 2 ^ 32) → X < 2 ^ 32 → W < 2 ^ 32 → W % 256 % 2 = X % 256 / 2 ^ k % 2 := by
    intro x X e1 W e2 l1 l2
    rcases (by omega : k = 0 ∨ k = 1 ∨ k = 2 ∨ k = 3 ∨ k = 4 ∨ k = 5 ∨ k = 6 ∨ k = 7) with rfl | rfl | rfl | rfl | rfl | rfl | rfl | rfl <;> split at e1 <;> split at e2 <;> omega
  exact key _ _ a1 _ a3 a2 a4
/-- the class's place in the bits of a packet -/
def bR (μ : xm_M) (pk : List Int32) (a : Nat) : Prop := ∃ st, st + pk.length ≤ 6000 ∧ μ.1 7 1 = nI (8 * st + a) ∧ μ.1 7 2 = nI (8 * (st + pk.length)) ∧ a ≤ 8 * pk.length ∧ ∀ i v, pk[i]? = some v → μ.1 2 (st + i) = v
theorem bR.fr {μ μ' : xm_M} {pk : List Int32} {a : Nat} (h : bR μ pk a) (h7 : μ'.1 7 = μ.1 7) (h2 : μ'.1 2 = μ.1 2) : bR μ' pk a := by
  obtain ⟨st, b1, b2, b3, b4, b5⟩ := h
  exact ⟨st, b1, by rw [h7]; exact b2, by rw [h7]; exact b3, b4, fun i v hi => by rw [h2]; exact b5 i v hi⟩
theorem c_bit {μ : xm_M} {pk : List Int32} {a : Nat} (hI : bR μ pk a) : xCi true true k_X0_bit μ [.ref 7] (fun r μ' => fm [7] μ μ' ∧ ((a < 8 * pk.length ∧ r = nI (bb pk a) ∧ bR μ' pk (a + 1)) ∨ (a = 8 * pk.length ∧ r = -1 ∧ bR μ' pk a))) := by
  obtain ⟨st, b1, b2, b3, b4, b5⟩ := id hI
  apply g_X0_bit
  rw [b2, b3, pk_shrN (by omega) (nI 3 &&& 31) 3 (by decide +kernel)]
  intro x1 e1
  refine ⟨fun c => ⟨fm.rf, Or.inr ⟨?_, rfl, hI⟩⟩, fun c => ?_⟩
  · rw [nI_leI (by omega) (by omega)] at c
    omega
  rw [nI_leI (by omega) (by omega)] at c
  have ha : a < 8 * pk.length := by omega
  have e1 : x1 = nI (st + a / 8) := by
    rw [e1]
    congr 1
    show (8 * st + a) / 8 = _
    omega
  rw [e1]
  refine ⟨fun c2 => absurd c2 (n0 (by omega)), fun _ => ⟨fun _ => ⟨vin (by omega) (by decide), ?_⟩, fun c2 => absurd (nI_lt (by omega) (by decide)) c2⟩⟩
  intro x6 e6 m7 e7
  rw [nI_add] at e7
  have hl : a / 8 < pk.length := by omega
  have hv := b5 (a / 8) pk[a / 8] (List.getElem?_eq_getElem hl)
  refine ⟨by rw [e7]; exact fm.rf.I (by decide), Or.inl ⟨ha, ?_, st, b1, ?_, ?_, by omega, ?_⟩⟩
  · rw [e6, cl (by omega), pk_andN (by omega) 3 (by decide +kernel), show (8 * st + a) % 2 ^ 3 = a % 8 by omega, bit8 _ (by omega), hv]
    unfold bb
    rw [show pk.getD (a / 8) 0 = pk[a / 8] by simp [List.getD, List.getElem?_eq_getElem hl]]
  · rw [e7, ri_e, upd_e]; rfl
  · rw [e7, ri_e, upd_n (by decide)]; exact b3
  · intro i v hi; rw [e7, ri_n (by decide)]; exact b5 i v hi
theorem or_sh {x y k : Nat} (hk : k < 31) (hx : x < 2 ^ k) (hy : y < 2) : nI x ||| (nI y <<< (nI k &&& 31)) = nI (x + y * 2 ^ k) := by
  have hs : ∀ k, k < 31 → ((nI k &&& 31).toBitVec.smod 32).toNat = k := by decide +kernel
  have hp : 2 ^ k ≤ 2 ^ 30 := Nat.pow_le_pow_right (by decide) (by omega)
  have hyk : y * 2 ^ k ≤ 1 * 2 ^ k := Nat.mul_le_mul_right _ (by omega)
  rw [pk_shlN (nI k &&& 31) k (hs k hk) (by omega)]
  apply Int32.toBitVec_inj.mp
  rw [Int32.toBitVec_or]
  apply BitVec.eq_of_toNat_eq
  rw [BitVec.toNat_or, nI_toNat (by omega), nI_toNat (by omega), nI_toNat (by omega), Nat.or_comm, Nat.mul_comm, ← Nat.two_pow_add_eq_or_of_lt hx]
  omega
theorem c_number {μ : xm_M} {pk : List Int32} {a : Nat} (k : Nat) (hk : k ≤ 8) (hk1 : 0 < k) (hI : bR μ pk a) : xCi true true k_X0_number μ [.ref 7, .int (nI k)] (fun r μ' => fm [7] μ μ' ∧ ((a + k ≤ 8 * pk.length ∧ r = nI (nv pk a k) ∧ bR μ' pk (a + k)) ∨ (8 * pk.length < a + k ∧ r = -1 ∧ bR μ' pk (8 * pk.length)))) := by
  have loop : ∀ (d i : Nat) (m : xm_M), i + d = k → a + i ≤ 8 * pk.length → bR m pk (a + i) → fm [7] μ m → hd_X0_number_4 (fun r μ' => fm [7] μ μ' ∧ ((a + k ≤ 8 * pk.length ∧ r = nI (nv pk a k) ∧ bR μ' pk (a + k)) ∨ (8 * pk.length < a + k ∧ r = -1 ∧ bR μ' pk (8 * pk.length)))) (nI k) (nI (nv pk a i)) (nI i) m := by
    intro d
    induction d with
    | zero =>
      intro i m hi ha hm hf
      have : i = k := by omega
      subst this
      apply l_X0_number_4
      exact ⟨fun _ => ⟨hf, Or.inl ⟨ha, rfl, hm⟩⟩, fun c => absurd (nI_le (Nat.le_refl _) (by omega)) c⟩
    | succ d ih =>
      intro i m hi ha hm hf
      apply l_X0_number_4
      refine ⟨fun c => ?_, fun _ => ⟨_, c_bit hm, ?_⟩⟩
      · rw [nI_leI (by omega) (by omega)] at c
        omega
      intro r4 m3 e
      obtain ⟨f1, e⟩ := e
      have hb := bb_lt pk (a + i)
      refine ⟨fun c x7 e7 x8 e8' => ?_, fun c => ?_⟩
      · rcases e with ⟨g1, g2, g3⟩ | ⟨g1, g2, g3⟩
        · rw [g2, or_sh (by omega) (nv_lt _ _ _) hb] at e7
          rw [e7, e8', nI_add]
          exact ih (i + 1) m3 (by omega) (by omega) g3 (hf.tr f1)
        · rw [g2] at c
          exact absurd c (by decide)
      · rcases e with ⟨g1, g2, g3⟩ | ⟨g1, g2, g3⟩
        · rw [g2] at c
          exact absurd (n0' (by omega)) c
        · exact ⟨hf.tr f1, Or.inr ⟨by omega, rfl, by rw [← g1]; exact g3⟩⟩
  apply g_X0_number
  exact loop k 0 μ (by omega) (by obtain ⟨st, b1, b2, b3, b4, b5⟩ := hI; omega) hI fm.rf
theorem c_close {μ : xm_M} {pk : List Int32} {a : Nat} (hI : bR μ pk a) : xCv true true k_X0_close μ [.ref 7] (fun μ' => fm [7] μ μ' ∧ bR μ' pk (8 * pk.length)) := by
  obtain ⟨st, b1, b2, b3, b4, b5⟩ := hI
  apply g_X0_close
  intro m e
  refine ⟨by rw [e]; exact fm.rf.I (by decide), st, b1, ?_, ?_, Nat.le_refl _, ?_⟩
  · rw [e, ri_e, upd_e, b3, Nat.mul_add]
  · rw [e, ri_e, upd_n (by decide)]; exact b3
  · intro i v hi; rw [e, ri_n (by decide)]; exact b5 i v hi
/-- the reference's place in the bits -/
def mR (μ : xm_M) (pk : List Int32) (a : Nat) (ov : Bool) : Prop := ∃ K, K < 60 ∧ pk.length ≤ 2000 ∧ μ.1 75 14 = nI (2000 * K) ∧ μ.1 75 15 = nI a ∧ μ.1 75 16 = nI (8 * pk.length) ∧ μ.1 75 17 = nI (if ov = true then 1 else 0) ∧ a ≤ 8 * pk.length ∧ ∀ i v, pk[i]? = some v → μ.1 79 (2000 * K + i) = v
def fb (μ μ' : xm_M) : Prop := (∀ c, c ≠ 75 → μ'.1 c = μ.1 c) ∧ μ'.2.1 = μ.2.1 ∧ ∀ k, k ≠ 15 → k ≠ 17 → μ'.1 75 k = μ.1 75 k
theorem fb.rf {μ : xm_M} : fb μ μ := ⟨fun _ _ => rfl, rfl, fun _ _ _ => rfl⟩
theorem fb.tr {μ μ1 μ2 : xm_M} (h1 : fb μ μ1) (h2 : fb μ1 μ2) : fb μ μ2 := ⟨fun c hc => (h2.1 c hc).trans (h1.1 c hc), h2.2.1.trans h1.2.1, fun k a b => (h2.2.2 k a b).trans (h1.2.2 k a b)⟩
theorem mR.fr {μ μ' : xm_M} {pk : List Int32} {a : Nat} {ov : Bool} (h : mR μ pk a ov) (h14 : μ'.1 75 14 = μ.1 75 14) (h15 : μ'.1 75 15 = μ.1 75 15) (h16 : μ'.1 75 16 = μ.1 75 16) (h17 : μ'.1 75 17 = μ.1 75 17) (h79 : μ'.1 79 = μ.1 79) : mR μ' pk a ov := by
  obtain ⟨K, b1, b2, b3, b4, b5, b6, b7, b8⟩ := h
  exact ⟨K, b1, b2, h14.trans b3, h15.trans b4, h16.trans b5, h17.trans b6, b7, fun i v hi => by rw [h79]; exact b8 i v hi⟩
theorem c_mbit {b : Bool} {μ : xm_M} {pk : List Int32} {a : Nat} {ov : Bool} (hI : mR μ pk a ov) : xCi b b k_X9_bit μ [.ref 75] (fun r μ' => fb μ μ' ∧ ((ov = false ∧ a < 8 * pk.length ∧ r = nI (bb pk a) ∧ mR μ' pk (a + 1) false) ∨ ((ov = true ∨ a = 8 * pk.length) ∧ r = nI 0 ∧ mR μ' pk a true))) := by
  obtain ⟨K, b1, b2, b3, b4, b5, b6, b7, b8⟩ := hI
  have over : ∀ m2 : xm_M, m2 = xu_I μ 75 (upd (μ.1 75) 17 (nI 1)) → fb μ m2 ∧ mR m2 pk a true := by
    intro m2 e2
    refine ⟨⟨fun c hc => by rw [e2, ri_n hc], by rw [e2]; rfl, fun k _ k17 => by rw [e2, ri_e, upd_n k17]⟩, K, b1, b2, ?_, ?_, ?_, ?_, b7, ?_⟩
    · rw [e2, ri_e, upd_n (by decide)]; exact b3
    · rw [e2, ri_e, upd_n (by decide)]; exact b4
    · rw [e2, ri_e, upd_n (by decide)]; exact b5
    · rw [e2, ri_e, upd_e]; rfl
    · intro i v hi; rw [e2, ri_n (by decide)]; exact b8 i v hi
  apply g_X9_bit
  rw [b6, b4, b5, nI_add]
  refine ⟨fun c m2 e2 => ?_, fun c => ⟨fun c2 m4 e4 => ?_, fun c2 m6 e6 => ?_⟩⟩
  · obtain ⟨o1, o2⟩ := over m2 e2
    refine ⟨o1, Or.inr ⟨Or.inl ?_, rfl, o2⟩⟩
    cases ov with
    | true => rfl
    | false => exact absurd rfl c
  · have hov : ov = false := by
      cases ov with
      | false => rfl
      | true => exact absurd c (by decide)
    have hne := nIq (by omega) (by omega) c2
    have ha : a < 8 * pk.length := by omega
    have h14 : m4.1 75 14 = nI (2000 * K) := by rw [e4, ri_e, upd_n (by decide)]; exact b3
    have h15 : m4.1 75 15 = nI (a + 1) := by rw [e4, ri_e, upd_e]
    have h79 : m4.1 79 = μ.1 79 := by rw [e4, ri_n (by decide)]
    rw [h14, h15, h79, pk_sub (by omega), Nat.add_sub_cancel, pk_rem (by omega) (by decide) (by decide), pk_div (by omega) (by decide) (by decide), nI_add, cl (by omega)]
    have hl : a / 8 < pk.length := by omega
    have hv := b8 (a / 8) pk[a / 8] (List.getElem?_eq_getElem hl)
    refine ⟨vin (by omega) (by decide), ⟨fun c hc => by rw [e4, ri_n hc], by rw [e4]; rfl, fun k k15 _ => by rw [e4, ri_e, upd_n k15]⟩, Or.inl ⟨hov, ha, ?_, K, b1, b2, h14, h15, ?_, ?_, by omega, ?_⟩⟩
    · rw [hv, bit8 _ (by omega)]
      unfold bb
      rw [show pk.getD (a / 8) 0 = pk[a / 8] by simp [List.getD, List.getElem?_eq_getElem hl]]
    · rw [e4, ri_e, upd_n (by decide)]; exact b5
    · rw [e4, ri_e, upd_n (by decide), b6, hov]
    · intro i v hi; rw [h79]; exact b8 i v hi
  · obtain ⟨o1, o2⟩ := over m6 e6
    exact ⟨o1, Or.inr ⟨Or.inr (nI_inj (by omega) (by omega) c2), rfl, o2⟩⟩
theorem c_mbits {b : Bool} {μ : xm_M} {pk : List Int32} {a : Nat} {ov : Bool} (k : Nat) (hk : k ≤ 8) (hI : mR μ pk a ov) : xCi b b k_X9_bits μ [.ref 75, .int (nI k)] (fun r μ' => fb μ μ' ∧ ((ov = false ∧ a + k ≤ 8 * pk.length ∧ r = nI (nv pk a k) ∧ mR μ' pk (a + k) false) ∨ (((ov = true ∧ 0 < k) ∨ 8 * pk.length < a + k) ∧ (∃ v, v < 2 ^ k ∧ r = nI v) ∧ ∃ a', mR μ' pk a' true) ∨ (ov = true ∧ k = 0))) := by
  have loop : ∀ (d i : Nat) (m : xm_M) (x : Nat), i + d = k → x < 2 ^ i → ((ov = false ∧ a + i ≤ 8 * pk.length ∧ x = nv pk a i ∧ mR m pk (a + i) false) ∨ (((ov = true ∧ 0 < i) ∨ 8 * pk.length < a + i) ∧ ∃ a', mR m pk a' true) ∨ (ov = true ∧ i = 0 ∧ mR m pk a true)) → fb μ m → hd_X9_bits_4 b (fun r μ' => fb μ μ' ∧ ((ov = false ∧ a + k ≤ 8 * pk.length ∧ r = nI (nv pk a k) ∧ mR μ' pk (a + k) false) ∨ (((ov = true ∧ 0 < k) ∨ 8 * pk.length < a + k) ∧ (∃ v, v < 2 ^ k ∧ r = nI v) ∧ ∃ a', mR μ' pk a' true) ∨ (ov = true ∧ k = 0))) (nI k) (nI x) (nI i) m := by
    intro d
    induction d with
    | zero =>
      intro i m x hi hx hm hf
      have : i = k := by omega
      subst this
      apply l_X9_bits_4
      refine ⟨fun _ => ⟨hf, ?_⟩, fun c => absurd (nI_le (Nat.le_refl _) (by omega)) c⟩
      rcases hm with ⟨g1, g2, g3, g4⟩ | ⟨g1, g2⟩ | ⟨g1, g2, g3⟩
      · exact Or.inl ⟨g1, g2, by rw [g3], g4⟩
      · exact Or.inr (Or.inl ⟨g1, ⟨x, hx, rfl⟩, g2⟩)
      · exact Or.inr (Or.inr ⟨g1, g2⟩)
    | succ d ih =>
      intro i m x hi hx hm hf
      have step : ∀ (a2 : Nat) (o2 : Bool), mR m pk a2 o2 → (∀ (r : Int32) (m3 : xm_M), fb m m3 → ((o2 = false ∧ a2 < 8 * pk.length ∧ r = nI (bb pk a2) ∧ mR m3 pk (a2 + 1) false) ∨ ((o2 = true ∨ a2 = 8 * pk.length) ∧ r = nI 0 ∧ mR m3 pk a2 true)) → ∃ y, y < 2 ∧ r = nI y ∧ ((ov = false ∧ a + (i + 1) ≤ 8 * pk.length ∧ x + y * 2 ^ i = nv pk a (i + 1) ∧ mR m3 pk (a + (i + 1)) false) ∨ (((ov = true ∧ 0 < i + 1) ∨ 8 * pk.length < a + (i + 1)) ∧ ∃ a', mR m3 pk a' true) ∨ (ov = true ∧ i + 1 = 0 ∧ mR m3 pk a true))) → hd_X9_bits_4 b (fun r μ' => fb μ μ' ∧ ((ov = false ∧ a + k ≤ 8 * pk.length ∧ r = nI (nv pk a k) ∧ mR μ' pk (a + k) false) ∨ (((ov = true ∧ 0 < k) ∨ 8 * pk.length < a + k) ∧ (∃ v, v < 2 ^ k ∧ r = nI v) ∧ ∃ a', mR μ' pk a' true) ∨ (ov = true ∧ k = 0))) (nI k) (nI x) (nI i) m := by
        intro a2 o2 hm2 hstep
        apply l_X9_bits_4
        refine ⟨fun c => ?_, fun _ => ⟨_, c_mbit hm2, ?_⟩⟩
        · rw [nI_leI (by omega) (by omega)] at c
          omega
        intro r4 m3 e x6 e6 x7 e7
        obtain ⟨y, hy, hr, hn⟩ := hstep r4 m3 e.1 e.2
        rw [hr, or_sh (by omega) hx hy] at e6
        rw [e6, e7, nI_add]
        have hyk : y * 2 ^ i ≤ 1 * 2 ^ i := Nat.mul_le_mul_right _ (by omega)
        exact ih (i + 1) m3 _ (by omega) (by rw [Nat.pow_succ]; omega) hn (hf.tr e.1)
      rcases hm with ⟨g1, g2, g3, g4⟩ | ⟨g1, a', g2⟩ | ⟨g1, g2, g3⟩
      · refine step _ _ g4 (fun r m3 _ h => ?_)
        rcases h with ⟨j1, j2, j3, j4⟩ | ⟨j1, j2, j3⟩
        · exact ⟨_, bb_lt _ _, j3, Or.inl ⟨g1, by omega, by rw [g3]; rfl, j4⟩⟩
        · refine ⟨0, by decide, j2, Or.inr (Or.inl ⟨Or.inr ?_, _, j3⟩)⟩
          rcases j1 with j1 | j1
          · cases j1
          · omega
      · refine step _ _ g2 (fun r m3 _ h => ?_)
        rcases h with ⟨j1, j2, j3, j4⟩ | ⟨j1, j2, j3⟩
        · cases j1
        · refine ⟨0, by decide, j2, Or.inr (Or.inl ⟨?_, _, j3⟩)⟩
          rcases g1 with g1 | g1
          · exact Or.inl ⟨g1.1, by omega⟩
          · exact Or.inr (by omega)
      · refine step _ _ g3 (fun r m3 _ h => ?_)
        rcases h with ⟨j1, j2, j3, j4⟩ | ⟨j1, j2, j3⟩
        · cases j1
        · exact ⟨0, by decide, j2, Or.inr (Or.inl ⟨Or.inl ⟨g1, by omega⟩, _, j3⟩)⟩
  apply g_X9_bits
  refine loop k 0 μ 0 (by omega) (by decide) ?_ fb.rf
  cases ov with
  | false => exact Or.inl ⟨rfl, by obtain ⟨K, b1, b2, b3, b4, b5, b6, b7, b8⟩ := hI; omega, rfl, hI⟩
  | true => exact Or.inr (Or.inr ⟨rfl, rfl, hI⟩)
