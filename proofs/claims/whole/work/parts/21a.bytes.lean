/-! ===== bytes out of numbers ===== -/
theorem by8_ext {x y : Int32} (h : ∀ i, i < 8 → x.toBitVec.getLsbD i = y.toBitVec.getLsbD i) : by8 x = by8 y := by
  unfold by8
  congr 1
  apply Int8.toBitVec_inj.mp
  rw [Int32.toBitVec_toInt8, Int32.toBitVec_toInt8]
  apply BitVec.eq_of_getLsbD_eq
  intro i hi
  have h32 : i < 32 := by omega
  simp only [BitVec.getLsbD_signExtend, hi, h32, decide_true, Bool.true_and, if_true]
  exact h i hi
theorem by8_bit (x : Int32) {i : Nat} (hi : i < 8) : (by8 x).toBitVec.getLsbD i = x.toBitVec.getLsbD i := by
  unfold by8
  rw [Int8.toBitVec_toInt32, Int32.toBitVec_toInt8]
  have h32 : i < 32 := by omega
  simp only [BitVec.getLsbD_signExtend, hi, h32, decide_true, Bool.true_and, if_true]
theorem by8_by8 (x : Int32) : by8 (by8 x) = by8 x := by8_ext (fun i hi => by8_bit x hi)
theorem su_bit (x : Int32) {s i : Nat} (hs : s < 32) : (su x s).toBitVec.getLsbD i = x.toBitVec.getLsbD (s + i) := by
  have hk : ∀ s, s < 32 → (((nI s).toUInt32 &&& Int32.toUInt32 31).toBitVec % 32).toNat = s := by decide +kernel
  have e : (su x s).toBitVec = x.toBitVec >>> s := by
    conv => rhs; rw [← hk s hs]
    exact UInt32.toBitVec_shiftRight _ _
  rw [e, BitVec.getLsbD_ushiftRight]
theorem sr_bit (x : Int32) {s i : Nat} (h : s + i < 32) : (x >>> (nI s &&& 31)).toBitVec.getLsbD i = x.toBitVec.getLsbD (s + i) := by
  have hk : ∀ s, s < 32 → ((nI s &&& 31).toBitVec.smod 32).toNat = s := by decide +kernel
  have e : (x >>> (nI s &&& 31)).toBitVec = x.toBitVec.sshiftRight s := by
    conv => rhs; rw [← hk s (by omega)]
    rfl
  rw [e, BitVec.getLsbD_sshiftRight]
  have h1 : ¬ 32 ≤ i := by omega
  simp [h1, h]
theorem sr64_bit (x : Int64) {s i : Nat} (h : s + i < 64) (hs : s < 64) : (x >>> ((nI s).toInt64 &&& 63)).toBitVec.getLsbD i = x.toBitVec.getLsbD (s + i) := by
  have hk : ∀ s, s < 64 → (((nI s).toInt64 &&& 63).toBitVec.smod 64).toNat = s := by decide +kernel
  have e : (x >>> ((nI s).toInt64 &&& 63)).toBitVec = x.toBitVec.sshiftRight s := by
    conv => rhs; rw [← hk s hs]
    rfl
  rw [e, BitVec.getLsbD_sshiftRight]
  have h1 : ¬ 64 ≤ i := by omega
  simp [h1, h]
theorem t32_bit (x : Int64) {i : Nat} (hi : i < 32) : x.toInt32.toBitVec.getLsbD i = x.toBitVec.getLsbD i := by
  rw [Int64.toBitVec_toInt32]
  have h64 : i < 64 := by omega
  simp only [BitVec.getLsbD_signExtend, hi, h64, decide_true, Bool.true_and, if_true]
theorem t64_bit (x : Int32) {i : Nat} (hi : i < 32) : x.toInt64.toBitVec.getLsbD i = x.toBitVec.getLsbD i := by
  rw [Int32.toBitVec_toInt64]
  have h64 : i < 64 := by omega
  simp only [BitVec.getLsbD_signExtend, hi, h64, decide_true, Bool.true_and, if_true]
def hi32 (G : Int64) : Int32 := ((G.toUInt64 >>> (((nI 32)).toInt64.toUInt64 &&& Int64.toUInt64 63)).toInt64).toInt32
theorem hi_bit (G : Int64) {i : Nat} (hi : i < 32) : (hi32 G).toBitVec.getLsbD i = G.toBitVec.getLsbD (32 + i) := by
  unfold hi32
  rw [t32_bit _ hi]
  have hk : ((((nI 32)).toInt64.toUInt64 &&& Int64.toUInt64 63).toBitVec % 64).toNat = 32 := by decide +kernel
  have e : ((G.toUInt64 >>> (((nI 32)).toInt64.toUInt64 &&& Int64.toUInt64 63)).toInt64).toBitVec = G.toBitVec >>> 32 := by
    conv => rhs; rw [← hk]
    exact UInt64.toBitVec_shiftRight _ _
  rw [e, BitVec.getLsbD_ushiftRight]
/-- a byte of an int, shifted either way -/
theorem by8_sr (x : Int32) {s : Nat} (hs : s + 8 ≤ 32) : by8 (x >>> (nI s &&& 31)) = by8 (su x s) := by8_ext (fun i hi => by rw [sr_bit x (by omega), su_bit x (by omega)])
theorem by8_lo (G : Int64) {s : Nat} (hs : s + 8 ≤ 32) : by8 (G >>> ((nI s).toInt64 &&& 63)).toInt32 = by8 (su G.toInt32 s) := by8_ext (fun i hi => by rw [t32_bit _ (by omega), sr64_bit G (by omega) (by omega), su_bit _ (by omega), t32_bit _ (by omega)])
theorem by8_hi (G : Int64) {s : Nat} (hs : s + 8 ≤ 32) : by8 (G >>> ((nI (32 + s)).toInt64 &&& 63)).toInt32 = by8 (su (hi32 G) s) := by8_ext (fun i hi => by rw [t32_bit _ (by omega), sr64_bit G (by omega) (by omega), su_bit _ (by omega), hi_bit G (by omega), Nat.add_assoc])
theorem by8_in (x : Int32) {s : Nat} (hs : s + 8 ≤ 32) : by8 (x.toInt64 >>> ((nI s).toInt64 &&& 63)).toInt32 = by8 (su x s) := by8_ext (fun i hi => by rw [t32_bit _ (by omega), sr64_bit _ (by omega) (by omega), su_bit _ (by omega), t64_bit x (by omega)])
theorem by8_xc (x y : Int32) : by8 (nI (bn x) ^^^ y) = by8 (x ^^^ y) := by
  rw [← bn_and]
  apply by8_ext
  intro i hi
  have h1 : ∀ i, i < 8 → (nI 255).toBitVec.getLsbD i = true := by decide +kernel
  rw [Int32.toBitVec_xor, Int32.toBitVec_xor, Int32.toBitVec_and, BitVec.getLsbD_xor, BitVec.getLsbD_xor, BitVec.getLsbD_and, h1 i hi, Bool.and_true]
theorem by8_xm (x y : Int32) : by8 (x ^^^ by8 y) = by8 (x ^^^ y) := by
  apply by8_ext
  intro i hi
  rw [Int32.toBitVec_xor, Int32.toBitVec_xor, BitVec.getLsbD_xor, BitVec.getLsbD_xor, by8_bit y hi]
/-! ===== the short calls ===== -/
/-- cells of the class, cells of the reference -/
def upK (μ m : xm_M) : Prop := ∀ c, 75 ≤ c → m.1 c = μ.1 c ∧ m.2.1 c = μ.2.1 c
def loK (μ m : xm_M) : Prop := ∀ c, c < 75 → m.1 c = μ.1 c ∧ m.2.1 c = μ.2.1 c
theorem fm.up {l : List Nat} {μ m : xm_M} (h : fm l μ m) (hl : ∀ c ∈ l, c < 75) : upK μ m := fun c hc => h c (fun hm => by have := hl c hm; omega)
theorem cA.tape {μ m : xm_M} {A : AS} {n : Nat} {t : Nat → Int32} (h : cA μ A) (hf : fm [1, 2] μ m) (h1 : m.1 1 1 = nI n) (h6 : n ≤ 6000) (ht : ∀ j, j < n → m.1 2 j = t j) (hb : ∀ j, fits .byte (.int (m.1 2 j)) = true) : cA m (n, t, A.2.2) := by
  obtain ⟨-, ⟨b1, b2, b3, b4, b5⟩, ⟨l0, l1, l2, l3, l4, l5, l6, l7⟩, hT⟩ := h
  have g0 := (hf 0 (by decide)).1
  have g3 := (hf 3 (by decide)).1
  refine ⟨⟨h1, h6, ht, hb⟩, ⟨by rw [g0]; exact b1, b2, by rw [g0]; exact b3, b4, fun c hc i hi => ?_⟩, ⟨by rw [g3]; exact l0, by rw [g3]; exact l1, by rw [g3]; exact l2, by rw [g0]; exact l3, by rw [g0]; exact l4, by rw [g0]; exact l5, by rw [g3]; exact l6, by rw [g3]; exact l7⟩, ⟨fun k hk => by rw [(hf 62 (by decide)).1]; exact hT.1 k hk, fun j hj => by rw [(hf 63 (by decide)).1]; exact hT.2 j hj⟩⟩
  rw [(hf _ (by simp <;> omega)).1]
  exact b5 c hc i hi
theorem mA.tape {μ m : xm_M} {A : AS} {n : Nat} {t : Nat → Int32} (h : mA μ A) (hc : ∀ c, c ≠ 75 → c ≠ 76 → c ≠ 78 → m.1 c = μ.1 c) (hl : m.2.1 = μ.2.1) (hf : ∀ k, k ≠ 0 → k ≠ 2 → m.1 75 k = μ.1 75 k) (h1 : m.1 75 2 = nI n) (h6 : n ≤ 6000) (ht : ∀ j, j < n → m.1 76 j = t j) (hb : ∀ j, j < n → fits .byte (.int (t j)) = true) : mA m (n, t, A.2.2) ∧ loK μ m := by
  obtain ⟨-, ⟨b1, b2, b3, b4, b5⟩, hL, hT⟩ := h
  refine ⟨⟨⟨h1, h6, ht, hb⟩, ⟨by rw [hf 31 (by decide) (by decide)]; exact b1, b2, by rw [hf 51 (by decide) (by decide)]; exact b3, b4, fun c hc2 i hi => by rw [hc 105 (by decide) (by decide) (by decide)]; exact b5 c hc2 i hi⟩, fun k hk => by rw [hc 82 (by decide) (by decide) (by decide)]; exact hL k hk, fun k hk => by rw [hl]; exact hT k hk⟩, fun c hc2 => ⟨hc c (by omega) (by omega) (by omega), by rw [hl]⟩⟩
theorem mA.thr {μ m : xm_M} {A : AS} (h : mA μ A) (e : m = xu_I μ 75 (upd (μ.1 75) 0 (nI 0))) : mA m A ∧ loK μ m := by
  have := h.tape (m := m) (n := A.1) (t := A.2.1) (fun c a _ _ => by rw [e, ri_n a]) (by rw [e]; rfl) (fun k a _ => by rw [e, ri_e, upd_n a]) (by rw [e, ri_e, upd_n (by decide)]; exact h.1.1) h.1.2.1 (fun j hj => by rw [e, ri_n (by decide)]; exact h.1.2.2.1 j hj) h.1.2.2.2
  exact this
-- taped
theorem c_taped {b : Bool} {μ : xm_M} {A : AS} (h : cA μ A) : xCi b b k_X8_taped μ [.ref 0] (fun r m => r = nI A.1 ∧ cA m A ∧ upK μ m) := by
  apply g_X8_taped
  exact ⟨h.1.1, h, fun c hc => ⟨rfl, rfl⟩⟩
theorem c_mtaped {b : Bool} {μ : xm_M} {A : AS} (h : mA μ A) : xCi b b k_X9_taped μ [.ref 75] (fun r m => r = nI A.1 ∧ mA m A ∧ loK μ m) := by
  apply g_X9_taped
  intro m1 e1
  obtain ⟨g1, g2⟩ := h.thr e1
  exact ⟨g1.1.1, g1, g2⟩
-- end
def enR (A : AS) (v : Int32) : Int32 := if v < 0 then nI 0 else if v ≤ nI A.1 then nI 1 else nI 0
def enA (A : AS) (v : Int32) : AS := if v < 0 then A else if v ≤ nI A.1 then (v.toNatClampNeg, A.2) else A
theorem c_end {b : Bool} {μ : xm_M} {A : AS} (v : Int32) (h : cA μ A) : xCi b b k_X8_end μ [.ref 0, .int v] (fun r m => r = enR A v ∧ cA m (enA A v) ∧ upK μ m) := by
  apply g_X8_end
  rw [h.1.1]
  unfold enR enA
  refine ⟨fun c => ?_, fun c => ⟨fun c2 m3 e3 => ?_, fun c2 => ?_⟩⟩
  · rw [if_pos c, if_pos c]
    exact ⟨rfl, h, fun c hc => ⟨rfl, rfl⟩⟩
  · rw [if_neg c, if_neg c, if_pos c2, if_pos c2]
    obtain ⟨j, hj, rfl⟩ := nI_of c
    have hn := h.1.2.1
    rw [nI_leI hj (by omega)] at c2
    rw [cl hj]
    have hf : fm [1, 2] μ m3 := by rw [e3]; exact fm.rf.I (by decide)
    refine ⟨rfl, h.tape hf (by rw [e3, ri_e, upd_e]) (by omega) (fun i hi => by rw [e3, ri_n (by decide)]; exact h.1.2.2.1 i (by omega)) (fun i => by rw [e3, ri_n (by decide)]; exact h.1.2.2.2 i), hf.up (by decide)⟩
  · rw [if_neg c, if_neg c, if_neg c2, if_neg c2]
    exact ⟨rfl, h, fun c hc => ⟨rfl, rfl⟩⟩
theorem loK.tr {μ m m' : xm_M} (h1 : loK μ m) (h2 : loK m m') : loK μ m' := fun c hc => ⟨(h2 c hc).1.trans (h1 c hc).1, (h2 c hc).2.trans (h1 c hc).2⟩
theorem c_mend {b : Bool} {μ : xm_M} {A : AS} (v : Int32) (h : mA μ A) : xCi b b k_X9_end μ [.ref 75, .int v] (fun r m => r = enR A v ∧ mA m (enA A v) ∧ loK μ m) := by
  apply g_X9_end
  intro m1 e1
  obtain ⟨g1, g2⟩ := h.thr e1
  rw [g1.1.1]
  unfold enR enA
  refine ⟨fun c => ?_, fun c => ⟨fun c2 m3 e3 => ?_, fun c2 => ?_⟩⟩
  · rw [if_pos c, if_pos c]
    exact ⟨rfl, g1, g2⟩
  · rw [if_neg c, if_neg c, if_pos c2, if_pos c2]
    obtain ⟨j, hj, rfl⟩ := nI_of c
    have hn := h.1.2.1
    rw [nI_leI hj (by omega)] at c2
    rw [cl hj]
    have := g1.tape (m := m3) (n := j) (t := A.2.1) (fun c a _ _ => by rw [e3, ri_n a]) (by rw [e3]; rfl) (fun k _ a => by rw [e3, ri_e, upd_n a]) (by rw [e3, ri_e, upd_e]) (by omega) (fun i hi => by rw [e3, ri_n (by decide)]; exact g1.1.2.2.1 i (by omega)) (fun i hi => h.1.2.2.2 i (by omega))
    exact ⟨rfl, this.1, g2.tr this.2⟩
  · rw [if_neg c, if_neg c, if_neg c2, if_neg c2]
    exact ⟨rfl, g1, g2⟩
-- harm
def haR (A : AS) (v : Int32) : Int32 := if v < 0 then nI 0 else if v < nI A.1 then nI 1 else nI 0
def haA (A : AS) (v w : Int32) : AS := if v < 0 then A else if v < nI A.1 then (A.1, (fun j => if j = v.toNatClampNeg then by8 (A.2.1 j ^^^ w) else A.2.1 j), A.2.2) else A
theorem c_harm {b : Bool} {μ : xm_M} {A : AS} (v w : Int32) (h : cA μ A) : xCi b b k_X8_harm μ [.ref 0, .int v, .int w] (fun r m => r = haR A v ∧ cA m (haA A v w) ∧ upK μ m) := by
  apply g_X8_harm
  rw [h.1.1]
  unfold haR haA
  refine ⟨fun c => ?_, fun c => ⟨fun c2 => ?_, fun c2 => ?_⟩⟩
  · rw [if_pos c, if_pos c]
    exact ⟨rfl, h, fun c hc => ⟨rfl, rfl⟩⟩
  · rw [if_neg c, if_neg c, if_pos c2, if_pos c2]
    obtain ⟨i, hi, rfl⟩ := nI_of c
    have hn := h.1.2.1
    rw [nI_ltI hi (by omega)] at c2
    rw [cl hi]
    refine ⟨_, c_byteAt i h.1.1 hn hi, ?_⟩
    rintro r5 m4 ⟨e5, rfl⟩
    refine ⟨_, c_setByte i _ (by omega), ?_⟩
    intro m8 e8
    have ht : tb (m4.1 2) A.1 i = bn (m4.1 2 i) := by unfold tb; rw [if_pos c2]
    rw [e5, ht, by8_xc, h.1.2.2.1 i c2] at e8
    have hf : fm [1, 2] m4 m8 := by rw [e8]; exact fm.rf.I (by decide)
    refine ⟨rfl, h.tape hf (by rw [e8, ri_n (by decide)]; exact h.1.1) hn (fun j hj => ?_) (fun j => ?_), hf.up (by decide)⟩
    · rw [e8, ri_e]
      by_cases hji : j = i
      · rw [hji, upd_e, if_pos rfl]
      · rw [upd_n hji, if_neg hji]
        exact h.1.2.2.1 j hj
    · rw [e8, ri_e]
      by_cases hji : j = i
      · rw [hji, upd_e]
        exact by8_fit _
      · rw [upd_n hji]
        exact h.1.2.2.2 j
  · rw [if_neg c, if_neg c, if_neg c2, if_neg c2]
    exact ⟨rfl, h, fun c hc => ⟨rfl, rfl⟩⟩
theorem c_mharm {b : Bool} {μ : xm_M} {A : AS} (v w : Int32) (h : mA μ A) : xCi b b k_X9_harm μ [.ref 75, .int v, .int w] (fun r m => r = haR A v ∧ mA m (haA A v w) ∧ loK μ m) := by
  apply g_X9_harm
  intro m1 e1
  obtain ⟨g1, g2⟩ := h.thr e1
  rw [g1.1.1]
  unfold haR haA
  refine ⟨fun c => ?_, fun c => ⟨fun c2 => ?_, fun c2 => ?_⟩⟩
  · rw [if_pos c, if_pos c]
    exact ⟨rfl, g1, g2⟩
  · rw [if_neg c, if_neg c, if_pos c2, if_pos c2]
    obtain ⟨i, hi, rfl⟩ := nI_of c
    have hn := h.1.2.1
    rw [nI_ltI hi (by omega)] at c2
    rw [cl hi, vn8, show w.toInt8.toInt32 = by8 w from rfl, by8_xm, g1.1.2.2.1 i c2]
    refine ⟨vin (by omega) (by decide), vin (by omega) (by decide), fun m6 e6 => ?_⟩
    have := g1.tape (m := m6) (n := A.1) (t := fun j => if j = i then by8 (A.2.1 j ^^^ w) else A.2.1 j) (fun c _ a _ => by rw [e6, ri_n a]) (by rw [e6]; rfl) (fun k _ _ => by rw [e6, ri_n (by decide)]) (by rw [e6, ri_n (by decide)]; exact g1.1.1) hn (fun j hj => ?_) (fun j hj => ?_)
    · exact ⟨rfl, this.1, g2.tr this.2⟩
    · rw [e6, ri_e]
      by_cases hji : j = i
      · rw [hji, upd_e, if_pos rfl]
      · rw [upd_n hji, if_neg hji]
        exact g1.1.2.2.1 j hj
    · by_cases hji : j = i
      · rw [if_pos hji]
        exact by8_fit _
      · rw [if_neg hji]
        exact h.1.2.2.2 j hj
  · rw [if_neg c, if_neg c, if_neg c2, if_neg c2]
    exact ⟨rfl, g1, g2⟩
-- look
def loR (A : AS) (v : Int32) : Int32 := if v < 0 then -1 else if v ≤ nI 7 then A.2.2.2.2.1 v.toNatClampNeg else -1
theorem c_look {b : Bool} {μ : xm_M} {A : AS} (v : Int32) (h : cA μ A) : xCi b b k_X8_look μ [.ref 0, .int v] (fun r m => r = loR A v ∧ cA m A ∧ upK μ m) := by
  obtain ⟨l0, l1, l2, l3, l4, l5, l6, l7⟩ := h.2.2.1
  have fin : ∀ r, r = loR A v → r = loR A v ∧ cA μ A ∧ upK μ μ := fun r hr => ⟨hr, h, fun c hc => ⟨rfl, rfl⟩⟩
  have val : ∀ k, k < 8 → v = nI k → loR A v = A.2.2.2.2.1 k := by
    intro k hk e
    unfold loR
    rw [e, if_neg (n0 (by omega)), if_pos (nI_le (by omega) (by decide)), cl (by omega)]
  apply g_X8_look
  refine ⟨fun c => fin _ ?_, fun c => fin _ ?_, fun c => fin _ ?_, fun c => fin _ ?_, fun c => fin _ ?_, fun c => fin _ ?_, fun c => fin _ ?_, fun c => fin _ ?_, fun c => fin _ ?_⟩
  · rw [val 0 (by decide) (c.trans nI_0.symm)]; exact l0
  · rw [val 1 (by decide) c]; exact l1
  · rw [val 2 (by decide) c]; exact l2
  · rw [val 3 (by decide) c]; exact l3
  · rw [val 4 (by decide) c]; exact l4
  · rw [val 5 (by decide) c]; exact l5
  · rw [val 6 (by decide) c]; exact l6
  · rw [val 7 (by decide) c]; exact l7
  · unfold loR
    by_cases c0 : v < 0
    · rw [if_pos c0]
    · rw [if_neg c0, if_neg]
      rw [Int32.le_iff_toInt_le, nI_toInt (by decide)]
      rw [Int32.lt_iff_toInt_lt, show (0 : Int32).toInt = 0 by decide] at c0
      omega
theorem c_mlook {b : Bool} {μ : xm_M} {A : AS} (v : Int32) (h : mA μ A) : xCi b b k_X9_look μ [.ref 75, .int v] (fun r m => r = loR A v ∧ mA m A ∧ loK μ m) := by
  apply g_X9_look
  intro m1 e1
  obtain ⟨g1, g2⟩ := h.thr e1
  unfold loR
  refine ⟨fun c => ?_, fun c => ⟨fun c2 => ?_, fun c2 => ?_⟩⟩
  · rw [if_pos c]
    exact ⟨rfl, g1, g2⟩
  · rw [if_neg c, if_pos c2]
    obtain ⟨i, hi, rfl⟩ := nI_of c
    rw [nI_leI hi (by decide)] at c2
    rw [cl hi]
    exact ⟨vin (by omega) (by decide), g1.2.2.1 i (by omega), g1, g2⟩
  · rw [if_neg c, if_neg c2]
    exact ⟨rfl, g1, g2⟩
-- sample
def saR (A : AS) (v w : Int32) : Int32 := if v < 0 then nI 0 else if nI A.2.2.1 ≤ v then nI 0 else if w < 0 then nI 0 else if w < nI A.2.2.2.1 then A.2.2.2.2.2 v.toNatClampNeg w.toNatClampNeg else nI 0
theorem c_hasVoice {b : Bool} {μ : xm_M} {n : Nat} (v : Int32) (h : μ.1 0 7 = nI n) (hn : n ≤ 2) : xCi b b k_X8_hasVoice μ [.ref 0, .int v] (fun r m => m = μ ∧ ((r = nI 0 ∧ (v < 0 ∨ nI n ≤ v)) ∨ (r = nI 1 ∧ ∃ c, c < n ∧ v = nI c))) := by
  apply g_X8_hasVoice
  rw [h]
  refine ⟨fun c => ⟨rfl, Or.inl ⟨rfl, Or.inl c⟩⟩, fun c => ⟨fun c2 => ⟨rfl, Or.inl ⟨rfl, Or.inr c2⟩⟩, fun c2 => ?_⟩⟩
  obtain ⟨i, hi, rfl⟩ := nI_of c
  rw [nI_leI (by omega) hi] at c2
  exact pk_le 2 i (fun c3 => by omega) (fun _ => ⟨rfl, Or.inr ⟨rfl, i, by omega, rfl⟩⟩)
theorem c_sampleAt {b : Bool} {μ : xm_M} {V i : Nat} (hV : xs_vo V) (hi : i < 928) : xCi b b k_X7_sampleAt μ [.ref V, .int (nI i)] (fun r m => r = μ.1 (V + 4) i ∧ m = μ) := by
  refine g_X7_sampleAt _ hV ?_
  rw [cl (show i < 2 ^ 31 by omega)]
  exact ⟨fun c => absurd c (n0 (by omega)), fun _ => pk_le 928 i (fun c => by omega) (fun _ => ⟨vin hi (by decide), rfl, rfl⟩)⟩
theorem c_sample {b : Bool} {μ : xm_M} {A : AS} (v w : Int32) (h : cA μ A) : xCi b b k_X8_sample μ [.ref 0, .int v, .int w] (fun r m => r = saR A v w ∧ cA m A ∧ upK μ m) := by
  obtain ⟨b1, b2, b3, b4, b5⟩ := h.2.1
  have fin : ∀ r, r = saR A v w → r = saR A v w ∧ cA μ A ∧ upK μ μ := fun r hr => ⟨hr, h, fun c hc => ⟨rfl, rfl⟩⟩
  refine g_X8_sample _ _ ⟨_, c_hasVoice v b1 b2, ?_⟩
  rintro r3 m2 ⟨rfl, ⟨e3, hv⟩ | ⟨e3, c, hc, rfl⟩⟩
  · rw [e3]
    refine ⟨fun _ => fin _ ?_, fun c => absurd nI_0 c⟩
    unfold saR
    rcases hv with hv | hv
    · rw [if_pos hv]
    · by_cases c0 : v < 0
      · rw [if_pos c0]
      · rw [if_neg c0, if_pos hv]
  · rw [e3, b3]
    have s1 : saR A (nI c) w = if w < 0 then nI 0 else if w < nI A.2.2.2.1 then A.2.2.2.2.2 c w.toNatClampNeg else nI 0 := by
      unfold saR
      rw [if_neg (n0 (by omega)), if_neg (by rw [nI_leI (by omega) (by omega)]; omega), cl (by omega)]
    refine ⟨fun c0 => absurd c0 (by decide), fun _ => ⟨fun c1 => fin _ (by rw [s1, if_pos c1]), fun c1 => ⟨fun c2 => ⟨vin (by omega) (by decide), fun V hV eV => ?_⟩, fun c2 => fin _ (by rw [s1, if_neg c1, if_neg c2])⟩⟩⟩
    rw [cl (by omega)] at eV
    obtain ⟨i, hi, rfl⟩ := nI_of c1
    have c2' := c2
    rw [nI_ltI hi (by omega)] at c2'
    refine ⟨_, c_sampleAt hV (by omega), ?_⟩
    rintro r12 m11 ⟨e12, rfl⟩
    refine fin _ ?_
    rw [s1, if_neg c1, if_pos c2, cl hi, e12, eV]
    exact b5 c hc i c2'
theorem c_msample {b : Bool} {μ : xm_M} {A : AS} (v w : Int32) (h : mA μ A) : xCi b b k_X9_sample μ [.ref 75, .int v, .int w] (fun r m => r = saR A v w ∧ mA m A ∧ loK μ m) := by
  apply g_X9_sample
  intro m1 e1
  obtain ⟨g1, g2⟩ := h.thr e1
  obtain ⟨b1, b2, b3, b4, b5⟩ := g1.2.1
  rw [b1, b3]
  unfold saR
  refine ⟨fun c => ⟨by rw [if_pos c], g1, g2⟩, fun c => ⟨fun c2 => ⟨by rw [if_neg c, if_pos c2], g1, g2⟩, fun c2 => ⟨fun c3 => ⟨by rw [if_neg c, if_neg c2, if_pos c3], g1, g2⟩, fun c3 => ⟨fun c4 => ?_, fun c4 => ⟨by rw [if_neg c, if_neg c2, if_neg c3, if_neg c4], g1, g2⟩⟩⟩⟩⟩
  rw [if_neg c, if_neg c2, if_neg c3, if_pos c4]
  obtain ⟨i, hi, rfl⟩ := nI_of c
  obtain ⟨j, hj, rfl⟩ := nI_of c3
  rw [nI_leI (by omega) hi] at c2
  rw [nI_ltI hj (by omega)] at c4
  rw [pk_mul, nI_add, cl (by omega), cl hi, cl hj]
  exact ⟨vin (by omega) (by decide), b5 i (by omega) j c4, g1, g2⟩
-- sum
def suS (f : Nat → Int32) : Nat → Int32
  | 0 => nI 0
  | i + 1 => suS f i + f i * (nI 1 + nI i)
def suR (A : AS) (v : Int32) : Int32 := if v < 0 then nI 0 else if nI A.2.2.1 ≤ v then nI 0 else suS (A.2.2.2.2.2 v.toNatClampNeg) A.2.2.2.1
theorem c_sum {b : Bool} {μ : xm_M} {A : AS} (v : Int32) (h : cA μ A) : xCi b b k_X8_sum μ [.ref 0, .int v] (fun r m => r = suR A v ∧ cA m A ∧ upK μ m) := by
  obtain ⟨b1, b2, b3, b4, b5⟩ := h.2.1
  have fin : ∀ r, r = suR A v → r = suR A v ∧ cA μ A ∧ upK μ μ := fun r hr => ⟨hr, h, fun c hc => ⟨rfl, rfl⟩⟩
  refine g_X8_sum _ ⟨_, c_hasVoice v b1 b2, ?_⟩
  rintro r3 m2 ⟨rfl, ⟨e3, hv⟩ | ⟨e3, c, hc, rfl⟩⟩
  · rw [e3]
    refine ⟨fun c => absurd nI_0 c, fun _ => fin _ ?_⟩
    unfold suR
    rcases hv with hv | hv
    · rw [if_pos hv]
    · by_cases c0 : v < 0
      · rw [if_pos c0]
      · rw [if_neg c0, if_pos hv]
  · rw [e3]
    have s1 : suR A (nI c) = suS (A.2.2.2.2.2 c) A.2.2.2.1 := by
      unfold suR
      rw [if_neg (n0 (by omega)), if_neg (by rw [nI_leI (by omega) (by omega)]; omega), cl (by omega)]
    refine ⟨fun _ => ?_, fun c0 => absurd c0 (by decide)⟩
    have loop : ∀ (d i : Nat), i + d = A.2.2.2.1 → hd_X8_sum_14 b (fun r m => r = suR A (nI c) ∧ cA m A ∧ upK m2 m) (nI c) (suS (A.2.2.2.2.2 c) i) (nI i) m2 := by
      intro d
      induction d with
      | zero =>
        intro i hi
        apply l_X8_sum_14
        refine pk_le A.2.2.2.1 i (fun _ => fin _ ?_) (fun c => by omega) b3
        rw [s1, show A.2.2.2.1 = i by omega]
      | succ d ih =>
        intro i hi
        apply l_X8_sum_14
        refine pk_le A.2.2.2.1 i (fun c => by omega) (fun _ => ⟨vin (by omega) (by decide), fun V hV eV => ?_⟩) b3
        rw [cl (by omega)] at eV
        refine ⟨_, c_sampleAt hV (by omega), ?_⟩
        rintro r6 m5 ⟨e6, rfl⟩ x8 e8 x9 e9
        rw [e6, eV, b5 c hc i (by omega)] at e8
        rw [e9, nI_add, e8]
        exact ih (i + 1) (by omega)
    exact loop A.2.2.2.1 0 (by omega)
theorem c_msum {b : Bool} {μ : xm_M} {A : AS} (v : Int32) (h : mA μ A) : xCi b b k_X9_sum μ [.ref 75, .int v] (fun r m => r = suR A v ∧ mA m A ∧ loK μ m) := by
  apply g_X9_sum
  intro m1 e1
  obtain ⟨g1, g2⟩ := h.thr e1
  obtain ⟨b1, b2, b3, b4, b5⟩ := g1.2.1
  have fin : ∀ r, r = suR A v → r = suR A v ∧ mA m1 A ∧ loK μ m1 := fun r hr => ⟨hr, g1, g2⟩
  by_cases c0 : v < 0
  · apply l_X9_sum_9
    have hz : suR A v = nI 0 := by unfold suR; rw [if_pos c0]
    exact ⟨fun _ => fin _ hz.symm, fun _ => ⟨fun _ => fin _ hz.symm, fun c => absurd c0 c⟩⟩
  · by_cases c1 : nI A.2.2.1 ≤ v
    · apply l_X9_sum_9
      have hz : suR A v = nI 0 := by unfold suR; rw [if_neg c0, if_pos c1]
      rw [b1]
      exact ⟨fun _ => fin _ hz.symm, fun _ => ⟨fun c => absurd c c0, fun _ => ⟨fun _ => fin _ hz.symm, fun c => absurd c1 c⟩⟩⟩
    · obtain ⟨c, hc, rfl⟩ := nI_of c0
      have c1' := c1
      rw [nI_leI (by omega) hc] at c1'
      have s1 : suR A (nI c) = suS (A.2.2.2.2.2 c) A.2.2.2.1 := by
        unfold suR
        rw [if_neg c0, if_neg c1, cl hc]
      have loop : ∀ (d i : Nat), i + d = A.2.2.2.1 → hd_X9_sum_9 b (fun r m => r = suR A (nI c) ∧ mA m A ∧ loK μ m) (nI c) (suS (A.2.2.2.2.2 c) i) (nI i) m1 := by
        intro d
        induction d with
        | zero =>
          intro i hi
          apply l_X9_sum_9
          refine pk_le A.2.2.2.1 i (fun _ => fin _ ?_) (fun c => by omega) b3
          rw [s1, show A.2.2.2.1 = i by omega]
        | succ d ih =>
          intro i hi
          apply l_X9_sum_9
          rw [b1, pk_mul, nI_add, cl (show 960 * c + i < 2 ^ 31 by omega), b5 c (by omega) i (by omega)]
          refine pk_le A.2.2.2.1 i (fun c => by omega) (fun _ => ⟨fun c => absurd c c0, fun _ => ⟨fun c => absurd c c1, fun _ => ⟨vin (by omega) (by decide), fun x5 e5 x6 e6 => ?_⟩⟩⟩) b3
          rw [e6, nI_add, e5]
          exact ih (i + 1) (by omega)
      exact loop A.2.2.2.1 0 (by omega)
