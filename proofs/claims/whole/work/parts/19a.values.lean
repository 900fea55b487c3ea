/-! ===== rests: values ===== -/
def iI (z : Int) : Int32 := Int32.ofInt z
def lI (z : Int) : Int64 := Int64.ofInt z
theorem iI_n (n : Nat) : iI (n : Int) = nI n := by
  apply Int32.toBitVec_inj.mp
  show BitVec.ofInt 32 (n : Int) = BitVec.ofNat 32 n
  exact BitVec.ofInt_natCast 32 n
theorem lI_n (n : Nat) : lI (n : Int) = lN n := by
  apply Int64.toBitVec_inj.mp
  show BitVec.ofInt 64 (n : Int) = BitVec.ofNat 64 n
  exact BitVec.ofInt_natCast 64 n
theorem iI_add (a b : Int) : iI (a + b) = iI a + iI b := Int32.ofInt_add a b
theorem iI_sub (a b : Int) : iI (a - b) = iI a - iI b := Int32.ofInt_sub a b
theorem iI_mul (a b : Int) : iI (a * b) = iI a * iI b := Int32.ofInt_mul a b
theorem lI_add (a b : Int) : lI (a + b) = lI a + lI b := Int64.ofInt_add a b
theorem lI_sub (a b : Int) : lI (a - b) = lI a - lI b := Int64.ofInt_sub a b
theorem lI_mul (a b : Int) : lI (a * b) = lI a * lI b := Int64.ofInt_mul a b
theorem iI_0 : iI 0 = nI 0 := iI_n 0
theorem lI_0 : lI 0 = 0 := lI_n 0
theorem iI_t {z : Int} (h1 : -2147483648 ≤ z) (h2 : z < 2147483648) : (iI z).toInt = z := by
  show (BitVec.ofInt 32 z).toInt = z
  rw [BitVec.toInt_ofInt]
  exact Int.bmod_eq_of_le (by omega) (by omega)
theorem lI_t {z : Int} (h1 : -2147483648 ≤ z) (h2 : z < 2147483648) : (lI z).toInt = z := by
  show (BitVec.ofInt 64 z).toInt = z
  rw [BitVec.toInt_ofInt]
  exact Int.bmod_eq_of_le (by omega) (by omega)
theorem iI_l {z : Int} (h1 : -2147483648 ≤ z) (h2 : z < 2147483648) : (iI z).toInt64 = lI z := by
  apply Int64.toInt_inj.mp
  rw [Int32.toInt_toInt64, iI_t h1 h2, lI_t h1 h2]
def bkLe (sp : List Int32) (p : Nat) : Int := if nv sp (bkP sp p + 1) 8 < 128 then (nv sp (bkP sp p + 1) 8 : Int) else (nv sp (bkP sp p + 1) 8 : Int) - 256
theorem bkLe_i (sp : List Int32) (p : Nat) : sgn8 (nv sp (bkP sp p + 1) 8) = iI (bkLe sp p) := by
  unfold sgn8 bkLe
  split
  · rw [iI_n]
  · rw [iI_sub, iI_n]
    rfl
theorem bkLe_b (sp : List Int32) (p : Nat) : -128 ≤ bkLe sp p ∧ bkLe sp p ≤ 127 := by
  have := nv_lt sp (bkP sp p + 1) 8
  unfold bkLe
  split <;> omega
def bM (sp : List Int32) (p e i : Nat) : Int := (bkM sp p (e / bkQ sp p ^ i % bkQ sp p) : Int) * (nv sp (bkP sp p + 9) 8 : Int) + bkLe sp p
def vv (sp : List Int32) (p e : Nat) : Nat → Int
  | 0 => bM sp p e 0
  | i + 1 => bM sp p e (i + 1) + (if bb sp (bkP sp p + 17) = 0 then 0 else vv sp p e i)
def pv (sp : List Int32) (p e i : Nat) : Int := if i = 0 then 0 else vv sp p e (i - 1)
theorem vv_eq (sp : List Int32) (p e i : Nat) : vv sp p e i = bM sp p e i + (if bb sp (bkP sp p + 17) = 0 then 0 else pv sp p e i) := by
  match i with
  | 0 =>
    show bM sp p e 0 = _
    rw [show pv sp p e 0 = 0 from rfl]
    split <;> omega
  | i + 1 => rfl
theorem bM_b (sp : List Int32) (p e i : Nat) : -70000 ≤ bM sp p e i ∧ bM sp p e i ≤ 70000 := by
  have h1 : bkM sp p (e / bkQ sp p ^ i % bkQ sp p) < 256 := nv_31 sp _ (bkB_b sp p).2
  have h2 := nv_lt sp (bkP sp p + 9) 8
  have h3 := bkLe_b sp p
  have h4 : bkM sp p (e / bkQ sp p ^ i % bkQ sp p) * nv sp (bkP sp p + 9) 8 ≤ 255 * 255 := Nat.mul_le_mul (by omega) (by omega)
  unfold bM
  rw [← Int.natCast_mul]
  omega
theorem vv_b (sp : List Int32) (p e : Nat) : ∀ (i : Nat), -70000 * ((i : Int) + 1) ≤ vv sp p e i ∧ vv sp p e i ≤ 70000 * ((i : Int) + 1)
  | 0 => by
    have := bM_b sp p e 0
    show _ ≤ bM sp p e 0 ∧ bM sp p e 0 ≤ _
    omega
  | i + 1 => by
    have h1 := bM_b sp p e (i + 1)
    have h2 := vv_b sp p e i
    show _ ≤ bM sp p e (i + 1) + _ ∧ bM sp p e (i + 1) + _ ≤ _
    split <;> omega
theorem mod_q {q e i : Nat} (h : 1 ≤ q) : e / q ^ i / q = e / q ^ (i + 1) := by
  rw [Nat.div_div_eq_div_mul, Nat.pow_succ]
theorem c_putValues {b : Bool} {μ : xm_M} {sp : List Int32} {j e at' N : Nat} (hj : j < 8) (hB : cB μ (16 + 5 * j) sp (bp sp j)) (hH : bkH sp (bp sp j) = 1) (he : e < 64) (hat : at' + bkW sp (bp sp j) ≤ 16) (hN : xs_sh[N]? = some (.inr (.int, 16))) (hN9 : 58 < N) : xCv b b k_X1_putValues μ [.ref (16 + 5 * j), .int (nI e), .ref N, .int (nI at')] (fun m => fm [N] μ m ∧ ∀ x, m.1 N x = if at' ≤ x ∧ x < at' + bkW sp (bp sp j) then iI (vv sp (bp sp j) e (x - at')) else μ.1 N x) := by
  obtain ⟨b1, b2, b3, b4, b5⟩ := hB
  obtain ⟨v1, v2, v3, v4, v5⟩ := b5 hH
  generalize hp : bp sp j = p at *
  have hw := bkW_b sp p
  have hq := bkQ_b sp p
  have loop : ∀ (d i : Nat) (m : xm_M), i + d = bkW sp p → fm [N] μ m → (∀ x, m.1 N x = if at' ≤ x ∧ x < at' + i then iI (vv sp p e (x - at')) else μ.1 N x) → hd_X1_putValues_9 b (fun m => fm [N] μ m ∧ ∀ x, m.1 N x = if at' ≤ x ∧ x < at' + bkW sp p then iI (vv sp p e (x - at')) else μ.1 N x) (16 + 5 * j) N (nI at') (nI (e / bkQ sp p ^ i)) (iI (pv sp p e i)) (nI i) m := by
    intro d
    induction d with
    | zero =>
      intro i m hi hf hx
      have hiw : i = bkW sp p := by omega
      have g0 : m.1 (16 + 5 * j) = μ.1 (16 + 5 * j) := (hf _ (by simp; omega)).1
      refine l_X1_putValues_9 _ _ _ _ (bk_j hj) hN ?_
      refine pk_le (bkW sp p) i (fun _ => ⟨hf, ?_⟩) (fun c => by omega) (by rw [g0]; exact b3)
      rw [← hiw]
      exact hx
    | succ d ih =>
      intro i m hi hf hx
      have g0 : m.1 (16 + 5 * j) = μ.1 (16 + 5 * j) := (hf _ (by simp; omega)).1
      have g1 : m.1 (16 + 5 * j + 1) = μ.1 (16 + 5 * j + 1) := (hf _ (by simp; omega)).1
      have hdv : e / bkQ sp p ^ i ≤ e := Nat.div_le_self _ _
      have hmd : e / bkQ sp p ^ i % bkQ sp p < bkQ sp p := Nat.mod_lt _ (by omega)
      refine l_X1_putValues_9 _ _ _ _ (bk_j hj) hN ?_
      rw [g0, g1, b3, v1, v2, v3, v4, bkLe_i]
      have hne : ¬ nI (bkQ sp p) = 0 := nI_ne0 (by omega) (by omega)
      refine pk_le (bkW sp p) i (fun c => by omega) (fun _ => ⟨fun c => absurd c (nI_nle (by omega) (by omega)), fun _ => ⟨hne, fun x4 e4 => ⟨hne, fun x6 e6 x7 e7 => ?_⟩⟩⟩)
      rw [pk_rem (by omega) (by omega) (by omega)] at e4
      rw [pk_div (by omega) (by omega) (by omega), mod_q hq.1] at e6
      rw [nI_add] at e7
      rw [e4, e6, e7, cl (by omega), cl (by omega), v5 _ hmd]
      refine ⟨fun c => absurd c (n0 (by omega)), fun _ => pk_le 64 (e / bkQ sp p ^ i % bkQ sp p) (fun c => by omega) (fun _ => ⟨fun c => absurd c (n0 (by omega)), fun _ => pk_le 16 (at' + i) (fun c => by omega) (fun _ => ⟨vin (by omega) (by decide), ?_⟩)⟩)⟩
      have hbb := bb_lt sp (bkP sp p + 17)
      have go : ∀ (val : Int32) (m20 : xm_M), m20 = xu_I m N (upd (m.1 N) (at' + i) val) → val = iI (vv sp p e i) → ∀ x21 : Int32, x21 = nI i + nI 1 → hd_X1_putValues_9 b (fun m => fm [N] μ m ∧ ∀ x, m.1 N x = if at' ≤ x ∧ x < at' + bkW sp p then iI (vv sp p e (x - at')) else μ.1 N x) (16 + 5 * j) N (nI at') (nI (e / bkQ sp p ^ (i + 1))) val x21 m20 := by
        intro val m20 e20 hval x21 e21
        rw [e21, nI_add, hval]
        refine ih (i + 1) m20 (by omega) (by rw [e20]; exact hf.I (by simp)) (fun x => ?_)
        rw [e20, ri_e]
        by_cases hxi : x = at' + i
        · rw [hxi, upd_e, if_pos (by omega), hval, show at' + i - at' = i by omega]
        · rw [upd_n hxi, hx x]
          by_cases h : at' ≤ x ∧ x < at' + i
          · rw [if_pos h, if_pos (by omega)]
          · rw [if_neg h, if_neg (by omega)]
      refine ⟨fun c x18 e18 => ⟨vin (by omega) (by decide), fun m20 e20 => go x18 m20 e20 ?_⟩, fun c x22 e22 => ⟨vin (by omega) (by decide), fun m24 e24 => go x22 m24 e24 ?_⟩⟩
      · have hz : bb sp (bkP sp p + 17) = 0 := (neq0 (by omega)).mp c
        rw [e18, vv_eq, if_pos hz]
        unfold bM
        rw [iI_add, iI_add, iI_mul, iI_n, iI_n, iI_0]
      · have hz : ¬ bb sp (bkP sp p + 17) = 0 := fun h => c (by rw [h]; exact nI_0)
        rw [e22, vv_eq, if_neg hz]
        unfold bM
        rw [iI_add, iI_add, iI_mul, iI_n, iI_n]
  refine g_X1_putValues _ _ (bk_j hj) hN ?_
  have := loop (bkW sp p) 0 μ (by omega) fm.rf (fun x => by rw [if_neg (by omega)])
  rw [Nat.pow_zero, Nat.div_one] at this
  rw [show iI (pv sp p e 0) = nI 0 from iI_0] at this
  exact this
theorem sgn_l (sp : List Int32) (p : Nat) : (iI (bkLe sp p)).toInt64 = lI (bkLe sp p) := by
  have := bkLe_b sp p
  exact iI_l (by omega) (by omega)
theorem c_mvalues {b : Bool} {μ : xm_M} {sp : List Int32} {j e at' : Nat} (hj : j < 8) (hB : mB μ j sp (bp sp j)) (hH : bkH sp (bp sp j) = 1) (he : e < 64) (hat : at' + bkW sp (bp sp j) ≤ 32) : xCv b b k_X9_values μ [.ref 75, .int (nI j), .int (nI e), .int (nI at')] (fun m => ∃ f, m = xu_L μ 101 f ∧ ∀ x, f x = if at' ≤ x ∧ x < at' + bkW sp (bp sp j) then lI (vv sp (bp sp j) e (x - at')) else μ.2.1 101 x) := by
  obtain ⟨b1, b2, b3, b4, b5⟩ := hB
  obtain ⟨v1, v2, v3, v4, v5⟩ := b5 hH
  generalize hp : bp sp j = p at *
  have hw := bkW_b sp p
  have hq := bkQ_b sp p
  have vj : vp_in (nI j) 8 := vin hj (by decide)
  have cj := cl (show j < 2 ^ 31 by omega)
  have loop : ∀ (d i : Nat) (f : Nat → Int64), i + d = bkW sp p → (∀ x, f x = if at' ≤ x ∧ x < at' + i then lI (vv sp p e (x - at')) else μ.2.1 101 x) → hd_X9_values_9 b (fun m => ∃ f, m = xu_L μ 101 f ∧ ∀ x, f x = if at' ≤ x ∧ x < at' + bkW sp p then lI (vv sp p e (x - at')) else μ.2.1 101 x) (nI j) (nI e) (nI at') (nI (bkQ sp p ^ i)) (lI (pv sp p e i)) (nI i) (xu_L μ 101 f) := by
    intro d
    induction d with
    | zero =>
      intro i f hi hx
      have hiw : i = bkW sp p := by omega
      apply l_X9_values_9
      rw [cj, rl_i]
      refine ⟨vj, pk_le (bkW sp p) i (fun _ => ⟨f, rfl, ?_⟩) (fun c => by omega) b3⟩
      rw [← hiw]
      exact hx
    | succ d ih =>
      intro i f hi hx
      have hdv : e / bkQ sp p ^ i ≤ e := Nat.div_le_self _ _
      have hmd : e / bkQ sp p ^ i % bkQ sp p < bkQ sp p := Nat.mod_lt _ (by omega)
      have hpw : bkQ sp p ^ i < 2 ^ 31 := pw_lt (by omega) (by omega)
      have hpp : 0 < bkQ sp p ^ i := Nat.pow_pos (by omega)
      have hM : bkM sp p (e / bkQ sp p ^ i % bkQ sp p) < 256 := nv_31 sp _ (bkB_b sp p).2
      have hst := nv_lt sp (bkP sp p + 9) 8
      apply l_X9_values_9
      rw [cj, rl_i, b3, v1, v2, v3, v4, bkLe_i, pk_div (show e < 2 ^ 31 by omega) hpp hpw, pk_rem (show e / bkQ sp p ^ i < 2 ^ 31 by omega) (by omega) (by omega), pk_mul, nI_add, nI_add, cl (show 64 * j + e / bkQ sp p ^ i % bkQ sp p < 2 ^ 31 by omega), cl (show at' + i < 2 ^ 31 by omega), v5 _ hmd, sgn_l, nI_l (by omega), nI_l (by omega)]
      have hbb := bb_lt sp (bkP sp p + 17)
      refine ⟨vj, pk_le (bkW sp p) i (fun c => by omega) (fun _ => ⟨nI_ne0 hpp hpw, vj, nI_ne0 (by omega) (by omega), vin (by omega) (by decide), vj, vj, vj, ?_⟩)⟩
      have go : ∀ (val : Int64) (m13 : xm_M), m13 = xu_L (xu_L μ 101 f) 101 (vp_updL ((xu_L μ 101 f).2.1 101) (at' + i) val) → val = lI (vv sp p e i) → vp_in (nI j) 8 ∧ ∀ x15 : Int32, x15 = nI (bkQ sp p ^ i) * m13.1 90 j → ∀ x16 : Int32, x16 = nI i + nI 1 → hd_X9_values_9 b (fun m => ∃ f, m = xu_L μ 101 f ∧ ∀ x, f x = if at' ≤ x ∧ x < at' + bkW sp p then lI (vv sp p e (x - at')) else μ.2.1 101 x) (nI j) (nI e) (nI at') x15 val x16 m13 := by
        intro val m13 e13 hval
        refine ⟨vj, fun x15 e15 x16 e16 => ?_⟩
        rw [xu_LL, rl_e] at e13
        rw [e13, rl_i, v4, pk_mul, ← Nat.pow_succ] at e15
        rw [e16, nI_add, e15, hval, e13]
        refine ih (i + 1) _ (by omega) (fun x => ?_)
        by_cases hxi : x = at' + i
        · rw [hxi, updL_e, if_pos (by omega), hval, show at' + i - at' = i by omega]
        · rw [updL_n hxi, hx x]
          by_cases h : at' ≤ x ∧ x < at' + i
          · rw [if_pos h, if_pos (by omega)]
          · rw [if_neg h, if_neg (by omega)]
      refine ⟨fun c x11 e11 => ⟨vin (by omega) (by decide), fun m13 e13 => go x11 m13 e13 ?_⟩, fun c x17 e17 => ⟨vin (by omega) (by decide), fun m19 e19 => go x17 m19 e19 ?_⟩⟩
      · have hz : bb sp (bkP sp p + 17) = 0 := (neq0 (by omega)).mp c
        rw [e11, vv_eq, if_pos hz]
        unfold bM
        rw [lI_add, lI_add, lI_mul, lI_n, lI_n, lI_0]
      · have hz : ¬ bb sp (bkP sp p + 17) = 0 := fun h => c (by rw [h]; exact nI_0)
        rw [e17, vv_eq, if_neg hz]
        unfold bM
        rw [lI_add, lI_add, lI_mul, lI_n, lI_n]
  apply g_X9_values
  have hid : xu_L μ 101 (μ.2.1 101) = μ := by
    unfold xu_L
    have : va_up μ.2.1 101 (μ.2.1 101) = μ.2.1 := by
      funext k
      by_cases h : k = 101
      · rw [h]; simp [va_up]
      · simp [va_up, h]
    rw [this]
  have := loop (bkW sp p) 0 (μ.2.1 101) (by omega) (fun x => by rw [if_neg (by omega)])
  rw [Nat.pow_zero, hid, show lI (pv sp p e 0) = 0 from lI_0] at this
  exact this
