/-! ===== pure rows: memory, bytes, numbers ===== -/
theorem ri_e {μ : xm_M} {c : Nat} {f : Nat → Int32} : (xu_I μ c f).1 c = f := by simp [xu_I, va_up]
theorem ri_n {μ : xm_M} {c c' : Nat} {f : Nat → Int32} (h : c' ≠ c) : (xu_I μ c f).1 c' = μ.1 c' := by simp [xu_I, va_up, h]
theorem ri_l {μ : xm_M} {c : Nat} {f : Nat → Int32} : (xu_I μ c f).2.1 = μ.2.1 := rfl
theorem rl_e {μ : xm_M} {c : Nat} {f : Nat → Int64} : (xu_L μ c f).2.1 c = f := by simp [xu_L, va_up]
theorem rl_n {μ : xm_M} {c c' : Nat} {f : Nat → Int64} (h : c' ≠ c) : (xu_L μ c f).2.1 c' = μ.2.1 c' := by simp [xu_L, va_up, h]
theorem rl_i {μ : xm_M} {c : Nat} {f : Nat → Int64} : (xu_L μ c f).1 = μ.1 := rfl
theorem xu_II {μ : xm_M} {c : Nat} {f g : Nat → Int32} : xu_I (xu_I μ c f) c g = xu_I μ c g := by
  unfold xu_I
  simp only
  rw [bx_uu]
theorem xu_LL {μ : xm_M} {c : Nat} {f g : Nat → Int64} : xu_L (xu_L μ c f) c g = xu_L μ c g := by
  unfold xu_L
  simp only
  rw [bx_uu]
theorem xu_IIc {μ : xm_M} {c d : Nat} {f g : Nat → Int32} (h : c ≠ d) : xu_I (xu_I μ c f) d g = xu_I (xu_I μ d g) c f := by
  unfold xu_I
  simp only [Prod.mk.injEq, and_true]
  funext j
  by_cases h1 : j = c
  · subst h1
    simp [va_up, h]
  · by_cases h2 : j = d
    · subst h2
      simp [va_up, h1]
    · simp [va_up, h1, h2]
theorem upd_e {f : Nat → Int32} {k : Nat} {x : Int32} : upd f k x k = x := by simp [upd]
theorem upd_n {f : Nat → Int32} {k j : Nat} {x : Int32} (h : j ≠ k) : upd f k x j = f j := by simp [upd, h]
theorem updL_e {f : Nat → Int64} {k : Nat} {x : Int64} : vp_updL f k x k = x := by simp [vp_updL]
theorem updL_n {f : Nat → Int64} {k j : Nat} {x : Int64} (h : j ≠ k) : vp_updL f k x j = f j := by simp [vp_updL, h]
/-- nothing but these cells has changed -/
def fm (l : List Nat) (μ μ' : xm_M) : Prop := ∀ c, c ∉ l → μ'.1 c = μ.1 c ∧ μ'.2.1 c = μ.2.1 c
theorem fm.rf {l : List Nat} {μ : xm_M} : fm l μ μ := fun _ _ => ⟨rfl, rfl⟩
theorem fm.tr {l : List Nat} {μ μ1 μ2 : xm_M} (h1 : fm l μ μ1) (h2 : fm l μ1 μ2) : fm l μ μ2 := fun c hc => ⟨(h2 c hc).1.trans (h1 c hc).1, (h2 c hc).2.trans (h1 c hc).2⟩
theorem fm.mono {l l' : List Nat} {μ μ' : xm_M} (h : fm l μ μ') (hs : ∀ c, c ∈ l → c ∈ l') : fm l' μ μ' := fun c hc => h c (fun z => hc (hs c z))
theorem fm.I {l : List Nat} {μ μ' : xm_M} {c : Nat} {f : Nat → Int32} (h : fm l μ μ') (hc : c ∈ l) : fm l μ (xu_I μ' c f) := fun d hd => ⟨by rw [ri_n (fun z => hd (by rw [z]; exact hc))]; exact (h d hd).1, (h d hd).2⟩
theorem fm.L {l : List Nat} {μ μ' : xm_M} {c : Nat} {f : Nat → Int64} (h : fm l μ μ') (hc : c ∈ l) : fm l μ (xu_L μ' c f) := fun d hd => ⟨(h d hd).1, by rw [rl_n (fun z => hd (by rw [z]; exact hc))]; exact (h d hd).2⟩
-- bytes
def by8 (x : Int32) : Int32 := x.toInt8.toInt32
theorem by8_fit (x : Int32) : fits .byte (.int (by8 x)) = true := pk_fb x
theorem vn8 (x : Int32) : vp_nar .byte x.toInt8.toInt32 = by8 x := pk_vb x
def bn (x : Int32) : Nat := x.toBitVec.toNat % 256
theorem bn_lt (x : Int32) : bn x < 256 := Nat.mod_lt _ (by decide)
theorem bn_and (x : Int32) : x &&& nI 255 = nI (bn x) := pk_and x 8 (by decide +kernel)
theorem nI_toNat {n : Nat} (h : n < 2 ^ 32) : (nI n).toBitVec.toNat = n := pk_tn h
theorem nI_inj {a b : Nat} (ha : a < 2 ^ 32) (hb : b < 2 ^ 32) (h : nI a = nI b) : a = b := by
  rw [← nI_toNat ha, ← nI_toNat hb, h]
theorem bn_by8 (x : Int32) : bn (by8 x) = bn x := by
  unfold bn by8
  rw [Int8.toBitVec_toInt32, Int32.toBitVec_toInt8]
  have h2 : ∀ w : BitVec 32, (BitVec.signExtend 32 (BitVec.signExtend 8 w)).toNat % 256 = w.toNat % 256 := by
    intro w
    rw [show (256 : Nat) = 2 ^ 8 from rfl, ← BitVec.toNat_setWidth, ← BitVec.toNat_setWidth]
    congr 1
    apply BitVec.eq_of_getLsbD_eq
    intro i hi
    have h32 : i < 32 := by omega
    simp only [BitVec.getLsbD_setWidth, BitVec.getLsbD_signExtend, hi, h32, decide_true, Bool.true_and, if_true]
  first | exact h2 _ | simpa using h2 x.toBitVec
theorem n0 {n : Nat} (h : n < 2 ^ 31) : ¬ nI n < 0 := nI_pos h
theorem n0' {n : Nat} (h : n < 2 ^ 31) : 0 ≤ nI n := nI_pos' h
theorem neq0 {n : Nat} (h : n < 2 ^ 32) : nI n = 0 ↔ n = 0 := ⟨fun e => nI_inj h (by decide) (e.trans nI_0.symm), fun e => by rw [e]; exact nI_0⟩
theorem vin {a N : Nat} (h : a < N) (hN : N < 2 ^ 31) : vp_in (nI a) N := vp_in_nI h hN
theorem cl {a : Nat} (h : a < 2 ^ 31) : (nI a).toNatClampNeg = a := nI_clamp h
