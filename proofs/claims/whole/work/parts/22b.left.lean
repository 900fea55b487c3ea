/-! ===== what the constructors leave (printed by wip/gen/ctor2.py) ===== -/
/-- the refs that stand -/
def KR (rs : List (Nat × Nat × Nat)) (m : xm_M) : Prop := ∀ q ∈ rs, m.2.2 q.1 q.2.1 = some q.2.2
/-- the cells below c are as they were -/
def Fr (c : Nat) (μ m : xm_M) : Prop := ∀ j, j < c → m.1 j = μ.1 j ∧ m.2.1 j = μ.2.1 j ∧ m.2.2 j = μ.2.2 j
theorem KR.nw {rs : List (Nat × Nat × Nat)} {μ m : xm_M} {n : Nat} (h : KR rs μ) (e : m = xm_nw μ n) (hn : ∀ q ∈ rs, q.1 ≠ n) : KR rs m := fun q hq => by
  rw [e]
  have := hn q hq
  simp [xm_nw, va_up, this]
  exact h q hq
theorem KR.I {rs : List (Nat × Nat × Nat)} {μ m : xm_M} {c : Nat} {f : Nat → Int32} (h : KR rs μ) (e : m = xu_I μ c f) : KR rs m := fun q hq => by
  rw [e]
  exact h q hq
theorem KR.L {rs : List (Nat × Nat × Nat)} {μ m : xm_M} {c : Nat} {f : Nat → Int64} (h : KR rs μ) (e : m = xu_L μ c f) : KR rs m := fun q hq => by
  rw [e]
  exact h q hq
theorem KR.R {rs : List (Nat × Nat × Nat)} {μ m : xm_M} {c k r : Nat} (h : KR rs μ) (e : m = xu_R μ c (va_up (μ.2.2 c) k (some r))) (hn : ∀ q ∈ rs, ¬ (q.1 = c ∧ q.2.1 = k)) : KR ((c, k, r) :: rs) m := fun q hq => by
  rcases List.mem_cons.mp hq with rfl | hq
  · rw [e]
    simp [xu_R, va_up]
  · have := hn q hq
    rw [e]
    show va_up μ.2.2 c (va_up (μ.2.2 c) k (some r)) q.1 q.2.1 = some q.2.2
    by_cases h1 : q.1 = c
    · have h2 : q.2.1 ≠ k := fun z => this ⟨h1, z⟩
      simp only [va_up, h1, if_true, h2, if_false]
      rw [← h1]
      exact h q hq
    · simp only [va_up, h1, if_false]
      exact h q hq
theorem KR.fr {rs rs2 : List (Nat × Nat × Nat)} {μ m : xm_M} {c : Nat} (h : KR rs μ) (f : Fr c μ m) (h2 : KR rs2 m) (hn : ∀ q ∈ rs, q.1 < c) : KR (rs2 ++ rs) m := fun q hq => by
  rcases List.mem_append.mp hq with hq | hq
  · exact h2 q hq
  · rw [(f q.1 (hn q hq)).2.2]
    exact h q hq
theorem KR.nil {m : xm_M} : KR [] m := fun q hq => absurd hq List.not_mem_nil
theorem Fr.rf {c : Nat} {μ : xm_M} : Fr c μ μ := fun _ _ => ⟨rfl, rfl, rfl⟩
theorem Fr.tr {c c' : Nat} {μ μ1 m : xm_M} (h : Fr c μ μ1) (h2 : Fr c' μ1 m) (hc : c ≤ c') : Fr c μ m := fun j hj => by
  have a := h j hj
  have b := h2 j (by omega)
  exact ⟨b.1.trans a.1, b.2.1.trans a.2.1, b.2.2.trans a.2.2⟩
theorem Fr.nw {c n : Nat} {μ0 μ m : xm_M} (h : Fr c μ0 μ) (e : m = xm_nw μ n) (hn : c ≤ n) : Fr c μ0 m := fun j hj => by
  have : j ≠ n := by omega
  rw [e]
  simp [xm_nw, va_up, this]
  exact h j hj
theorem Fr.I {c n : Nat} {μ0 μ m : xm_M} {f : Nat → Int32} (h : Fr c μ0 μ) (e : m = xu_I μ n f) (hn : c ≤ n) : Fr c μ0 m := fun j hj => by
  have : j ≠ n := by omega
  rw [e]
  simp [xu_I, va_up, this]
  exact h j hj
theorem Fr.L {c n : Nat} {μ0 μ m : xm_M} {f : Nat → Int64} (h : Fr c μ0 μ) (e : m = xu_L μ n f) (hn : c ≤ n) : Fr c μ0 m := fun j hj => by
  have : j ≠ n := by omega
  rw [e]
  simp [xu_L, va_up, this]
  exact h j hj
theorem Fr.R {c n : Nat} {μ0 μ m : xm_M} {f : Nat → Option Nat} (h : Fr c μ0 μ) (e : m = xu_R μ n f) (hn : c ≤ n) : Fr c μ0 m := fun j hj => by
  have : j ≠ n := by omega
  rw [e]
  simp [xu_R, va_up, this]
  exact h j hj
/-- ints of the cells from 1 on below c are as they were -/
def Gr (c : Nat) (μ m : xm_M) : Prop := ∀ j, 0 < j → j < c → m.1 j = μ.1 j
theorem Gr.rf {c : Nat} {μ : xm_M} : Gr c μ μ := fun _ _ _ => rfl
theorem Gr.fr {c c' : Nat} {μ μ1 m : xm_M} (h : Gr c μ μ1) (f : Fr c' μ1 m) (hc : c ≤ c') : Gr c μ m := fun j h0 hj => (f j (by omega)).1.trans (h j h0 hj)
theorem Gr.nw {c n : Nat} {μ0 μ m : xm_M} (h : Gr c μ0 μ) (e : m = xm_nw μ n) (hn : c ≤ n) : Gr c μ0 m := fun j h0 hj => by
  have : j ≠ n := by omega
  rw [e]
  simp [xm_nw, va_up, this]
  exact h j h0 hj
theorem Gr.R {c n : Nat} {μ0 μ m : xm_M} {f : Nat → Option Nat} (h : Gr c μ0 μ) (e : m = xu_R μ n f) : Gr c μ0 m := fun j h0 hj => by
  rw [e]
  exact h j h0 hj
theorem Gr.I0 {c : Nat} {μ0 μ m : xm_M} {f : Nat → Int32} (h : Gr c μ0 μ) (e : m = xu_I μ 0 f) : Gr c μ0 m := fun j h0 hj => by
  have : j ≠ 0 := by omega
  rw [e]
  simp [xu_I, va_up, this]
  exact h j h0 hj
theorem nw_z {μ : xm_M} {n j : Nat} : (xm_nw μ n).1 n j = 0 := by simp [xm_nw, va_up]
theorem nw_i {μ : xm_M} {n c : Nat} (h : c ≠ n) : (xm_nw μ n).1 c = μ.1 c := by simp [xm_nw, va_up, h]
theorem nw_l {μ : xm_M} {n c : Nat} (h : c ≠ n) : (xm_nw μ n).2.1 c = μ.2.1 c := by simp [xm_nw, va_up, h]
theorem rr_i {μ : xm_M} {c : Nat} {f : Nat → Option Nat} : (xu_R μ c f).1 = μ.1 := rfl
theorem rr_l {μ : xm_M} {c : Nat} {f : Nat → Option Nat} : (xu_R μ c f).2.1 = μ.2.1 := rfl
theorem a_X6 {μ : xm_M} : xN k_X6_init 2 3 μ 1 (fun m => Fr 1 μ m ∧ KR [(1, 0, 2)] m ∧ m.1 1 1 = nI 0 ∧ ∀ j, m.1 2 j = 0) := by
  apply n_X6_init
  intro m1 e1 m2 e2 m3 e3
  refine ⟨((Fr.rf.nw e1 (by decide)).R e2 (by decide)).I e3 (by decide), ((KR.nil.nw e1 (by decide)).R e2 (by decide)).I e3, ?_, fun j => ?_⟩
  · rw [e3, ri_e, upd_e]
  · rw [e3, ri_n (by decide), e2, rr_i, e1, nw_z]
theorem a_X0 {μ : xm_M} : xN k_X0_init 8 9 μ 7 (fun m => Fr 7 μ m ∧ KR [(7, 0, 8)] m) := by
  apply n_X0_init
  intro m1 e1 m2 e2 m3 e3 m4 e4
  exact ⟨(((Fr.rf.nw e1 (by decide)).R e2 (by decide)).I e3 (by decide)).I e4 (by decide), (((KR.nil.nw e1 (by decide)).R e2 (by decide)).I e3).I e4⟩
theorem a_X2 {μ : xm_M} : xN k_X2_init 57 59 μ 56 (fun m => Fr 56 μ m ∧ KR [(56, 1, 58), (56, 0, 57)] m) := by
  apply n_X2_init
  intro m1 e1 m2 e2 m3 e3 m4 e4
  exact ⟨(((Fr.rf.nw e1 (by decide)).R e2 (by decide)).nw e3 (by decide)).R e4 (by decide), (((KR.nil.nw e1 (by decide)).R e2 (by decide)).nw e3 (by decide)).R e4 (by decide)⟩
theorem a_X7 {μ : xm_M} {V : Nat} (hV : xs_vo V) : xN k_X7_init (V + 1) (V + 5) μ V (fun m => Fr V μ m ∧ KR [(V, 4, V + 4), (V, 3, V + 3), (V, 2, V + 2), (V, 1, V + 1)] m) := by
  apply n_X7_init hV
  intro m1 e1 m2 e2 m3 e3 m4 e4 m5 e5 m6 e6 m7 e7 m8 e8 m9 e9
  exact ⟨((((((((Fr.rf.I e1 (by omega)).nw e2 (by omega)).R e3 (by omega)).nw e4 (by omega)).R e5 (by omega)).nw e6 (by omega)).R e7 (by omega)).nw e8 (by omega)).R e9 (by omega), ((((((((KR.nil.I e1).nw e2 (by simp)).R e3 (by simp)).nw e4 (by simp)).R e5 (by simp)).nw e6 (by simp)).R e7 (by simp)).nw e8 (by simp)).R e9 (by simp)⟩
theorem a_X1 {μ : xm_M} {B : Nat} (hB : xs_bk B) : xN k_X1_init (B + 1) (B + 5) μ B (fun m => Fr B μ m ∧ KR [(B, 11, B + 4), (B, 9, B + 3), (B, 8, B + 2), (B, 7, B + 1)] m) := by
  apply n_X1_init hB
  intro m1 e1 m2 e2 m3 e3 m4 e4 m5 e5 m6 e6 m7 e7 m8 e8 m9 e9 m10 e10 m11 e11
  exact ⟨((((((((((Fr.rf.I e1 (by omega)).I e2 (by omega)).I e3 (by omega)).nw e4 (by omega)).R e5 (by omega)).nw e6 (by omega)).R e7 (by omega)).nw e8 (by omega)).R e9 (by omega)).nw e10 (by omega)).R e11 (by omega), ((((((((((KR.nil.I e1).I e2).I e3).nw e4 (by simp)).R e5 (by simp)).nw e6 (by simp)).R e7 (by simp)).nw e8 (by simp)).R e9 (by simp)).nw e10 (by simp)).R e11 (by simp)⟩
theorem a_forget {μ : xm_M} : xC k_X3_forget true (xs_sh.take 7) μ [.ref 3] (fun r _ μ' => r = none ∧ (Fr 3 μ μ' ∧ μ'.2.2 = μ.2.2 ∧ ∀ k, k < 5 → μ'.1 3 k = nI 0)) := by
  apply n_X3_forget
  intro m1 e1 m2 e2 m3 e3 m4 e4 m5 e5 m6 e6 m7 e7 m8 e8 m9 e9 m10 e10 m11 e11
  refine ⟨((((((((((Fr.rf.I e1 (by omega)).I e2 (by omega)).I e3 (by omega)).I e4 (by omega)).I e5 (by omega)).I e6 (by omega)).L e7 (by omega)).I e8 (by omega)).I e9 (by omega)).I e10 (by omega)).I e11 (by omega), by rw [e11, e10, e9, e8, e7, e6, e5, e4, e3, e2, e1]; rfl, fun k hk => ?_⟩
  rw [e11, ri_e, upd_n (by omega), e10, ri_e, upd_n (by omega), e9, ri_e, upd_n (by omega), e8, ri_e, upd_n (by omega), e7, rl_i, e6, ri_e, upd_n (by omega), e5, ri_e, e4, ri_e, e3, ri_e, e2, ri_e, e1, ri_e]
  have : k = 0 ∨ k = 1 ∨ k = 2 ∨ k = 3 ∨ k = 4 := by omega
  rcases this with rfl | rfl | rfl | rfl | rfl <;> rfl
theorem a_X3 {μ : xm_M} : xN k_X3_init 4 7 μ 3 (fun m => Fr 3 μ m ∧ KR [(3, 9, 6), (3, 8, 5), (3, 7, 4)] m ∧ ∀ k, k < 5 → m.1 3 k = nI 0) := by
  apply n_X3_init
  intro m1 e1 m2 e2 m3 e3 m4 e4 m5 e5 m6 e6
  refine ⟨_, a_forget, ?_⟩
  rintro m8 ⟨f8, r8, h8⟩
  refine ⟨((((((Fr.rf.nw e1 (by decide)).R e2 (by decide)).nw e3 (by decide)).R e4 (by decide)).nw e5 (by decide)).R e6 (by decide)).tr f8 (Nat.le_refl _), ?_, h8⟩
  have := (((((KR.nil.nw e1 (by decide)).R e2 (by decide)).nw e3 (by decide)).R e4 (by decide)).nw e5 (by decide)).R e6 (by decide)
  intro q hq
  rw [r8]
  exact this q hq
theorem a_cosine {μ : xm_M} {j : Nat} (hj : j < 128) : xC k_X5_cosine true (xs_sh.take 64) μ [.int (nI j)] (fun r _ μ' => ∃ x : Int32, r = some (.int x) ∧ (fun x m => x = cosI j ∧ m = μ) x μ') := by
  refine n_X5_cosine (Q := fun x m => x = cosI j ∧ m = μ) (nI j) ?_
  intro x1 e1
  have e : x1 = nI (min j (128 - j)) := by
    rw [e1, pk_sub (by omega)]
    by_cases h : 128 - j < j
    · rw [if_pos (nI_lt h (by omega)), Nat.min_eq_right (by omega)]
    · rw [if_neg (nI_nlt (by omega) (by omega)), Nat.min_eq_left (by omega)]
  have hm : min j (128 - j) ≤ 64 := by omega
  have hc : cosI j = if 32 < min j (128 - j) then -((xs_tab 0).getD (64 - min j (128 - j)) 0) else (xs_tab 0).getD (min j (128 - j)) 0 := rfl
  rw [hc, e]
  generalize min j (128 - j) = k at *
  refine ⟨fun h => absurd h (n0 (by omega)), fun _ => pk_le k 64 (fun c => pk_lt 32 k (fun c2 => ?_) (fun c2 => ?_)) (fun c => absurd c (by omega))⟩
  · rw [pk_sub (by omega), cl (by omega)]
    exact ⟨vin (by omega) (by decide), by rw [if_pos c2], rfl⟩
  · rw [cl (by omega)]
    exact ⟨vin (by omega) (by decide), by rw [if_neg (by omega)], rfl⟩

theorem tR_s {d : Nat} (h : d < 255) : tR (255 - d) = (15391 * tR (255 - (d + 1)) + 8192) / 16384 := by
  rw [show 255 - d = (255 - (d + 1)) + 1 from by omega]
  rfl
theorem tR_i {d : Nat} (h : d < 255) : (nI 15391 * nI (tR (255 - (d + 1))) + nI 8192) >>> (nI 14 &&& 31) = nI (tR (255 - d)) := by
  have hb := tR_b (255 - (d + 1))
  rw [pk_mul, nI_add, pk_shrN (by omega) _ 14 (by decide), tR_s h]
theorem sr64_n {a : Nat} (h : a < 2 ^ 62) : lN a >>> ((nI 14).toInt64 &&& 63) = lN (a / 16384) := by
  apply Int64.toBitVec_inj.mp
  rw [Int64.toBitVec_shiftRight]
  have e : (((nI 14).toInt64 &&& 63).toBitVec.smod 64) = 14#64 := by decide
  rw [e]
  show (BitVec.ofNat 64 a).sshiftRight 14 = BitVec.ofNat 64 (a / 16384)
  rw [BitVec.sshiftRight_eq_of_msb_false (by rw [BitVec.msb_eq_decide, BitVec.toNat_ofNat, Nat.mod_eq_of_lt (by omega)]; simp <;> omega)]
  apply BitVec.eq_of_toNat_eq
  rw [BitVec.toNat_ushiftRight, BitVec.toNat_ofNat, BitVec.toNat_ofNat, Nat.shiftRight_eq_div_pow, Nat.mod_eq_of_lt (by omega), Nat.mod_eq_of_lt (by omega)]
theorem tR_l {d : Nat} (h : d < 255) : ((15391 : Int64) * lN (tR (255 - (d + 1))) + (8192 : Int64)) >>> ((nI 14).toInt64 &&& 63) = lN (tR (255 - d)) := by
  have hb := tR_b (255 - (d + 1))
  have e : (15391 : Int64) * lN (tR (255 - (d + 1))) + (8192 : Int64) = lN (15391 * tR (255 - (d + 1)) + 8192) := by
    have h1 : (15391 : Int64) = lN 15391 := rfl
    have h2 : (8192 : Int64) = lN 8192 := rfl
    rw [h1, h2]
    show Int64.ofNat _ * Int64.ofNat _ + Int64.ofNat _ = Int64.ofNat _
    rw [Int64.ofNat_add, Int64.ofNat_mul]
  rw [e, sr64_n (by omega), tR_s h]
theorem nI_m1 (d : Nat) : nI (d + 1) + (-1) = nI d := by
  rw [← nI_sub1, pk_sub (by omega)]
  rfl
abbrev rX5 : List (Nat × Nat × Nat) := [(59, 3, 63), (59, 2, 62), (59, 1, 61), (59, 0, 60)]
theorem a_X5 {μ : xm_M} : xN k_X5_init 60 64 μ 59 (fun m => Fr 59 μ m ∧ KR rX5 m ∧ tabC m) := by
  generalize hQ : (fun m => Fr 59 μ m ∧ KR rX5 m ∧ tabC m) = Q
  have l2 : ∀ (d j : Nat) (m : xm_M), j + d = 128 → Fr 59 μ m → KR rX5 m → (∀ k, k < 256 → m.1 62 k = nI (tR (255 - k))) → (∀ i, i < j → m.1 63 i = cosI i) → hn_X5_init_89 Q (nI j) m := by
    intro d
    induction d with
    | zero =>
      intro j m hj f r t c
      apply ln_X5_init_89
      refine pk_le 128 j (fun _ => ?_) (fun z => absurd z (by omega))
      rw [← hQ]
      exact ⟨f, r, t, fun i hi => c i (by omega)⟩
    | succ d ih =>
      intro j m hj f r t c
      apply ln_X5_init_89
      refine pk_le 128 j (fun z => absurd z (by omega)) (fun _ => ⟨r (59, 3, 63) (by decide), _, a_cosine (by omega), ?_⟩)
      rintro r5 m4 ⟨e5, rfl⟩
      refine ⟨vin (by omega) (by decide), fun m8 e8 x9 e9 => ?_⟩
      rw [cl (by omega), e5] at e8
      rw [e9, nI_add]
      refine ih (j + 1) m8 (by omega) (f.I e8 (by decide)) (r.I e8) (fun k hk => by rw [e8, ri_n (by decide)]; exact t k hk) (fun i hi => ?_)
      rw [e8, ri_e]
      by_cases h : i = j
      · rw [h, upd_e]
      · rw [upd_n h]
        exact c i (by omega)
  have l1 : ∀ (d : Nat) (m : xm_M), d ≤ 255 → Fr 59 μ m → KR [(59, 2, 62), (59, 1, 61), (59, 0, 60)] m → (∀ k, d ≤ k → k < 256 → m.1 62 k = nI (tR (255 - k))) → hn_X5_init_43 Q (nI d + (-1)) m := by
    intro d
    induction d with
    | zero =>
      intro m hd f r t
      apply ln_X5_init_43
      refine ⟨fun _ m2 e2 m3 e3 => ?_, fun z => absurd (by decide) z⟩
      exact l2 128 0 m3 rfl ((f.nw e2 (by decide)).R e3 (by decide)) ((r.nw e2 (by decide)).R e3 (by decide)) (fun k hk => by rw [e3, rr_i, e2, nw_i (by decide)]; exact t k (Nat.zero_le _) hk) (fun i hi => absurd hi (Nat.not_lt_zero i))
    | succ d ih =>
      intro m hd f r t
      rw [nI_m1]
      apply ln_X5_init_43
      refine ⟨fun z => absurd z (n0 (by omega)), fun _ => ?_⟩
      rw [nI_add]
      refine ⟨r (59, 2, 62) (by decide), r (59, 2, 62) (by decide), vin (by omega) (by decide), vin (by omega) (by decide), fun m8 e8 x9 e9 => ?_⟩
      rw [cl (by omega), cl (by omega), t (d + 1) (Nat.le_refl _) (by omega), tR_i (by omega)] at e8
      rw [e9]
      refine ih m8 (by omega) (f.I e8 (by decide)) (r.I e8) (fun k h1 h2 => ?_)
      rw [e8, ri_e]
      by_cases h : k = d
      · rw [h, upd_e]
      · rw [upd_n h]
        exact t k (by omega) h2
  apply n_X5_init
  intro m1 e1 m2 e2 m3 e3 m4 e4 m5 e5 m6 e6
  have hr := (((((KR.nil.nw e1 (by decide)).R e2 (by decide)).nw e3 (by decide)).R e4 (by decide)).nw e5 (by decide)).R e6 (by decide)
  refine ⟨hr (59, 2, 62) (by decide), vin (by decide) (by decide), fun m9 e9 => ?_⟩
  rw [cl (by decide)] at e9
  refine l1 255 m9 (Nat.le_refl _) (((((((Fr.rf.nw e1 (by decide)).R e2 (by decide)).nw e3 (by decide)).R e4 (by decide)).nw e5 (by decide)).R e6 (by decide)).I e9 (by decide)) (hr.I e9) (fun k h1 h2 => ?_)
  have : k = 255 := by omega
  rw [e9, ri_e, this, upd_e]
  rfl
abbrev rX4 : List (Nat × Nat × Nat) := [(15, 7, 51), (51, 11, 55), (51, 9, 54), (51, 8, 53), (51, 7, 52), (15, 6, 46), (46, 11, 50), (46, 9, 49), (46, 8, 48), (46, 7, 47), (15, 5, 41), (41, 11, 45), (41, 9, 44), (41, 8, 43), (41, 7, 42), (15, 4, 36), (36, 11, 40), (36, 9, 39), (36, 8, 38), (36, 7, 37), (15, 3, 31), (31, 11, 35), (31, 9, 34), (31, 8, 33), (31, 7, 32), (15, 2, 26), (26, 11, 30), (26, 9, 29), (26, 8, 28), (26, 7, 27), (15, 1, 21), (21, 11, 25), (21, 9, 24), (21, 8, 23), (21, 7, 22), (15, 0, 16), (16, 11, 20), (16, 9, 19), (16, 8, 18), (16, 7, 17), (9, 8, 15), (9, 14, 14), (9, 7, 13), (9, 6, 12), (9, 5, 11), (9, 4, 10)]
set_option maxRecDepth 100000 in
set_option maxHeartbeats 4000000 in
theorem a_X4 {μ : xm_M} : xN k_X4_init 10 56 μ 9 (fun m => Fr 9 μ m ∧ KR rX4 m) := by
  apply n_X4_init
  have kr : KR [] μ := KR.nil
  have fr : Fr 9 μ μ := Fr.rf
  intro m1 e_m1
  replace kr := kr.nw e_m1 (by decide +kernel)
  replace fr := fr.nw e_m1 (by decide)
  intro m2 e_m2
  replace kr := kr.R e_m2 (by decide +kernel)
  replace fr := fr.R e_m2 (by decide)
  intro m3 e_m3
  replace kr := kr.nw e_m3 (by decide +kernel)
  replace fr := fr.nw e_m3 (by decide)
  intro m4 e_m4
  replace kr := kr.R e_m4 (by decide +kernel)
  replace fr := fr.R e_m4 (by decide)
  intro m5 e_m5
  replace kr := kr.nw e_m5 (by decide +kernel)
  replace fr := fr.nw e_m5 (by decide)
  intro m6 e_m6
  replace kr := kr.R e_m6 (by decide +kernel)
  replace fr := fr.R e_m6 (by decide)
  intro m7 e_m7
  replace kr := kr.nw e_m7 (by decide +kernel)
  replace fr := fr.nw e_m7 (by decide)
  intro m8 e_m8
  replace kr := kr.R e_m8 (by decide +kernel)
  replace fr := fr.R e_m8 (by decide)
  intro m9 e_m9
  replace kr := kr.nw e_m9 (by decide +kernel)
  replace fr := fr.nw e_m9 (by decide)
  intro m10 e_m10
  replace kr := kr.R e_m10 (by decide +kernel)
  replace fr := fr.R e_m10 (by decide)
  intro m11 e_m11
  replace kr := kr.nw e_m11 (by decide +kernel)
  replace fr := fr.nw e_m11 (by decide)
  intro m12 e_m12
  replace kr := kr.R e_m12 (by decide +kernel)
  replace fr := fr.R e_m12 (by decide)
  refine ⟨kr (9, 8, 15) (by decide +kernel), ?_⟩
  refine ⟨kr (9, 8, 15) (by decide +kernel), ?_⟩
  intro m16 e_m16
  replace kr := kr.nw e_m16 (by decide +kernel)
  replace fr := fr.nw e_m16 (by decide)
  refine ⟨_, a_X1 (B := 16) ⟨0, by decide, by decide⟩, ?_⟩
  rintro m18 ⟨f_m18, r_m18⟩
  replace kr := kr.fr f_m18 r_m18 (by decide +kernel)
  replace fr := fr.tr f_m18 (by decide)
  intro m20 e_m20
  rw [cl (by decide)] at e_m20
  replace kr := kr.R e_m20 (by decide +kernel)
  replace fr := fr.R e_m20 (by decide)
  refine ⟨kr (9, 8, 15) (by decide +kernel), ?_⟩
  refine ⟨kr (9, 8, 15) (by decide +kernel), ?_⟩
  intro m24 e_m24
  replace kr := kr.nw e_m24 (by decide +kernel)
  replace fr := fr.nw e_m24 (by decide)
  refine ⟨_, a_X1 (B := 21) ⟨1, by decide, by decide⟩, ?_⟩
  rintro m26 ⟨f_m26, r_m26⟩
  replace kr := kr.fr f_m26 r_m26 (by decide +kernel)
  replace fr := fr.tr f_m26 (by decide)
  intro m28 e_m28
  rw [cl (by decide)] at e_m28
  replace kr := kr.R e_m28 (by decide +kernel)
  replace fr := fr.R e_m28 (by decide)
  refine ⟨kr (9, 8, 15) (by decide +kernel), ?_⟩
  refine ⟨kr (9, 8, 15) (by decide +kernel), ?_⟩
  intro m32 e_m32
  replace kr := kr.nw e_m32 (by decide +kernel)
  replace fr := fr.nw e_m32 (by decide)
  refine ⟨_, a_X1 (B := 26) ⟨2, by decide, by decide⟩, ?_⟩
  rintro m34 ⟨f_m34, r_m34⟩
  replace kr := kr.fr f_m34 r_m34 (by decide +kernel)
  replace fr := fr.tr f_m34 (by decide)
  intro m36 e_m36
  rw [cl (by decide)] at e_m36
  replace kr := kr.R e_m36 (by decide +kernel)
  replace fr := fr.R e_m36 (by decide)
  refine ⟨kr (9, 8, 15) (by decide +kernel), ?_⟩
  refine ⟨kr (9, 8, 15) (by decide +kernel), ?_⟩
  intro m40 e_m40
  replace kr := kr.nw e_m40 (by decide +kernel)
  replace fr := fr.nw e_m40 (by decide)
  refine ⟨_, a_X1 (B := 31) ⟨3, by decide, by decide⟩, ?_⟩
  rintro m42 ⟨f_m42, r_m42⟩
  replace kr := kr.fr f_m42 r_m42 (by decide +kernel)
  replace fr := fr.tr f_m42 (by decide)
  intro m44 e_m44
  rw [cl (by decide)] at e_m44
  replace kr := kr.R e_m44 (by decide +kernel)
  replace fr := fr.R e_m44 (by decide)
  refine ⟨kr (9, 8, 15) (by decide +kernel), ?_⟩
  refine ⟨kr (9, 8, 15) (by decide +kernel), ?_⟩
  intro m48 e_m48
  replace kr := kr.nw e_m48 (by decide +kernel)
  replace fr := fr.nw e_m48 (by decide)
  refine ⟨_, a_X1 (B := 36) ⟨4, by decide, by decide⟩, ?_⟩
  rintro m50 ⟨f_m50, r_m50⟩
  replace kr := kr.fr f_m50 r_m50 (by decide +kernel)
  replace fr := fr.tr f_m50 (by decide)
  intro m52 e_m52
  rw [cl (by decide)] at e_m52
  replace kr := kr.R e_m52 (by decide +kernel)
  replace fr := fr.R e_m52 (by decide)
  refine ⟨kr (9, 8, 15) (by decide +kernel), ?_⟩
  refine ⟨kr (9, 8, 15) (by decide +kernel), ?_⟩
  intro m56 e_m56
  replace kr := kr.nw e_m56 (by decide +kernel)
  replace fr := fr.nw e_m56 (by decide)
  refine ⟨_, a_X1 (B := 41) ⟨5, by decide, by decide⟩, ?_⟩
  rintro m58 ⟨f_m58, r_m58⟩
  replace kr := kr.fr f_m58 r_m58 (by decide +kernel)
  replace fr := fr.tr f_m58 (by decide)
  intro m60 e_m60
  rw [cl (by decide)] at e_m60
  replace kr := kr.R e_m60 (by decide +kernel)
  replace fr := fr.R e_m60 (by decide)
  refine ⟨kr (9, 8, 15) (by decide +kernel), ?_⟩
  refine ⟨kr (9, 8, 15) (by decide +kernel), ?_⟩
  intro m64 e_m64
  replace kr := kr.nw e_m64 (by decide +kernel)
  replace fr := fr.nw e_m64 (by decide)
  refine ⟨_, a_X1 (B := 46) ⟨6, by decide, by decide⟩, ?_⟩
  rintro m66 ⟨f_m66, r_m66⟩
  replace kr := kr.fr f_m66 r_m66 (by decide +kernel)
  replace fr := fr.tr f_m66 (by decide)
  intro m68 e_m68
  rw [cl (by decide)] at e_m68
  replace kr := kr.R e_m68 (by decide +kernel)
  replace fr := fr.R e_m68 (by decide)
  refine ⟨kr (9, 8, 15) (by decide +kernel), ?_⟩
  refine ⟨kr (9, 8, 15) (by decide +kernel), ?_⟩
  intro m72 e_m72
  replace kr := kr.nw e_m72 (by decide +kernel)
  replace fr := fr.nw e_m72 (by decide)
  refine ⟨_, a_X1 (B := 51) ⟨7, by decide, by decide⟩, ?_⟩
  rintro m74 ⟨f_m74, r_m74⟩
  replace kr := kr.fr f_m74 r_m74 (by decide +kernel)
  replace fr := fr.tr f_m74 (by decide)
  intro m76 e_m76
  rw [cl (by decide)] at e_m76
  replace kr := kr.R e_m76 (by decide +kernel)
  replace fr := fr.R e_m76 (by decide)
  refine ⟨kr (9, 8, 15) (by decide +kernel), ?_⟩
  intro m79 e_m79
  replace kr := kr.I e_m79
  replace fr := fr.I e_m79 (by decide)
  intro m80 e_m80
  replace kr := kr.I e_m80
  replace fr := fr.I e_m80 (by decide)
  intro m81 e_m81
  replace kr := kr.I e_m81
  replace fr := fr.I e_m81 (by decide)
  intro m82 e_m82
  replace kr := kr.I e_m82
  replace fr := fr.I e_m82 (by decide)
  exact ⟨fr, kr⟩
abbrev rX8 : List (Nat × Nat × Nat) := [(64, 1, 70), (70, 4, 74), (70, 3, 73), (70, 2, 72), (70, 1, 71), (64, 0, 65), (65, 4, 69), (65, 3, 68), (65, 2, 67), (65, 1, 66), (0, 6, 64), (0, 5, 59), (59, 3, 63), (59, 2, 62), (59, 1, 61), (59, 0, 60), (0, 4, 56), (56, 1, 58), (56, 0, 57), (0, 3, 9), (15, 7, 51), (51, 11, 55), (51, 9, 54), (51, 8, 53), (51, 7, 52), (15, 6, 46), (46, 11, 50), (46, 9, 49), (46, 8, 48), (46, 7, 47), (15, 5, 41), (41, 11, 45), (41, 9, 44), (41, 8, 43), (41, 7, 42), (15, 4, 36), (36, 11, 40), (36, 9, 39), (36, 8, 38), (36, 7, 37), (15, 3, 31), (31, 11, 35), (31, 9, 34), (31, 8, 33), (31, 7, 32), (15, 2, 26), (26, 11, 30), (26, 9, 29), (26, 8, 28), (26, 7, 27), (15, 1, 21), (21, 11, 25), (21, 9, 24), (21, 8, 23), (21, 7, 22), (15, 0, 16), (16, 11, 20), (16, 9, 19), (16, 8, 18), (16, 7, 17), (9, 8, 15), (9, 14, 14), (9, 7, 13), (9, 6, 12), (9, 5, 11), (9, 4, 10), (0, 2, 7), (7, 0, 8), (0, 1, 3), (3, 9, 6), (3, 8, 5), (3, 7, 4), (0, 0, 1), (1, 0, 2)]
def cZ (m : xm_M) : Prop := m.1 1 1 = nI 0 ∧ (∀ j, m.1 2 j = 0) ∧ (∀ k, k < 5 → m.1 3 k = nI 0) ∧ (m.1 0 7 = nI 0 ∧ m.1 0 8 = nI 0 ∧ m.1 0 9 = nI 0 ∧ m.1 0 10 = nI 0) ∧ tabC m
set_option maxRecDepth 100000 in
set_option maxHeartbeats 4000000 in
theorem a_X8 {μ : xm_M} : xN k_X8_init 1 75 μ 0 (fun m => KR rX8 m ∧ cZ m) := by
  apply n_X8_init
  have kr : KR [] μ := KR.nil
  have fr : Fr 0 μ μ := Fr.rf
  intro m1 e_m1
  replace kr := kr.nw e_m1 (by decide +kernel)
  replace fr := fr.nw e_m1 (by decide)
  refine ⟨_, a_X6, ?_⟩
  rintro m3 ⟨f_m3, r_m3, x_m3⟩
  replace kr := kr.fr f_m3 r_m3 (by decide +kernel)
  replace fr := fr.tr f_m3 (by decide)
  have g_m3 : Gr 3 m3 m3 := Gr.rf
  intro m5 e_m5
  replace kr := kr.R e_m5 (by decide +kernel)
  replace fr := fr.R e_m5 (by decide)
  replace g_m3 := g_m3.R e_m5
  intro m6 e_m6
  replace kr := kr.nw e_m6 (by decide +kernel)
  replace fr := fr.nw e_m6 (by decide)
  replace g_m3 := g_m3.nw e_m6 (by decide)
  refine ⟨_, a_X3, ?_⟩
  rintro m8 ⟨f_m8, r_m8, x_m8⟩
  replace kr := kr.fr f_m8 r_m8 (by decide +kernel)
  replace fr := fr.tr f_m8 (by decide)
  replace g_m3 := g_m3.fr f_m8 (by decide)
  have g_m8 : Gr 7 m8 m8 := Gr.rf
  intro m10 e_m10
  replace kr := kr.R e_m10 (by decide +kernel)
  replace fr := fr.R e_m10 (by decide)
  replace g_m3 := g_m3.R e_m10
  replace g_m8 := g_m8.R e_m10
  intro m11 e_m11
  replace kr := kr.nw e_m11 (by decide +kernel)
  replace fr := fr.nw e_m11 (by decide)
  replace g_m3 := g_m3.nw e_m11 (by decide)
  replace g_m8 := g_m8.nw e_m11 (by decide)
  refine ⟨_, a_X0, ?_⟩
  rintro m13 ⟨f_m13, r_m13⟩
  replace kr := kr.fr f_m13 r_m13 (by decide +kernel)
  replace fr := fr.tr f_m13 (by decide)
  replace g_m3 := g_m3.fr f_m13 (by decide)
  replace g_m8 := g_m8.fr f_m13 (by decide)
  intro m15 e_m15
  replace kr := kr.R e_m15 (by decide +kernel)
  replace fr := fr.R e_m15 (by decide)
  replace g_m3 := g_m3.R e_m15
  replace g_m8 := g_m8.R e_m15
  intro m16 e_m16
  replace kr := kr.nw e_m16 (by decide +kernel)
  replace fr := fr.nw e_m16 (by decide)
  replace g_m3 := g_m3.nw e_m16 (by decide)
  replace g_m8 := g_m8.nw e_m16 (by decide)
  refine ⟨_, a_X4, ?_⟩
  rintro m18 ⟨f_m18, r_m18⟩
  replace kr := kr.fr f_m18 r_m18 (by decide +kernel)
  replace fr := fr.tr f_m18 (by decide)
  replace g_m3 := g_m3.fr f_m18 (by decide)
  replace g_m8 := g_m8.fr f_m18 (by decide)
  intro m20 e_m20
  replace kr := kr.R e_m20 (by decide +kernel)
  replace fr := fr.R e_m20 (by decide)
  replace g_m3 := g_m3.R e_m20
  replace g_m8 := g_m8.R e_m20
  intro m21 e_m21
  replace kr := kr.nw e_m21 (by decide +kernel)
  replace fr := fr.nw e_m21 (by decide)
  replace g_m3 := g_m3.nw e_m21 (by decide)
  replace g_m8 := g_m8.nw e_m21 (by decide)
  refine ⟨_, a_X2, ?_⟩
  rintro m23 ⟨f_m23, r_m23⟩
  replace kr := kr.fr f_m23 r_m23 (by decide +kernel)
  replace fr := fr.tr f_m23 (by decide)
  replace g_m3 := g_m3.fr f_m23 (by decide)
  replace g_m8 := g_m8.fr f_m23 (by decide)
  intro m25 e_m25
  replace kr := kr.R e_m25 (by decide +kernel)
  replace fr := fr.R e_m25 (by decide)
  replace g_m3 := g_m3.R e_m25
  replace g_m8 := g_m8.R e_m25
  intro m26 e_m26
  replace kr := kr.nw e_m26 (by decide +kernel)
  replace fr := fr.nw e_m26 (by decide)
  replace g_m3 := g_m3.nw e_m26 (by decide)
  replace g_m8 := g_m8.nw e_m26 (by decide)
  refine ⟨_, a_X5, ?_⟩
  rintro m28 ⟨f_m28, r_m28, x_m28⟩
  replace kr := kr.fr f_m28 r_m28 (by decide +kernel)
  replace fr := fr.tr f_m28 (by decide)
  replace g_m3 := g_m3.fr f_m28 (by decide)
  replace g_m8 := g_m8.fr f_m28 (by decide)
  have g_m28 : Gr 64 m28 m28 := Gr.rf
  intro m30 e_m30
  replace kr := kr.R e_m30 (by decide +kernel)
  replace fr := fr.R e_m30 (by decide)
  replace g_m3 := g_m3.R e_m30
  replace g_m8 := g_m8.R e_m30
  replace g_m28 := g_m28.R e_m30
  intro m31 e_m31
  replace kr := kr.nw e_m31 (by decide +kernel)
  replace fr := fr.nw e_m31 (by decide)
  replace g_m3 := g_m3.nw e_m31 (by decide)
  replace g_m8 := g_m8.nw e_m31 (by decide)
  replace g_m28 := g_m28.nw e_m31 (by decide)
  intro m32 e_m32
  replace kr := kr.R e_m32 (by decide +kernel)
  replace fr := fr.R e_m32 (by decide)
  replace g_m3 := g_m3.R e_m32
  replace g_m8 := g_m8.R e_m32
  replace g_m28 := g_m28.R e_m32
  refine ⟨kr (0, 6, 64) (by decide +kernel), ?_⟩
  refine ⟨kr (0, 6, 64) (by decide +kernel), ?_⟩
  intro m36 e_m36
  replace kr := kr.nw e_m36 (by decide +kernel)
  replace fr := fr.nw e_m36 (by decide)
  replace g_m3 := g_m3.nw e_m36 (by decide)
  replace g_m8 := g_m8.nw e_m36 (by decide)
  replace g_m28 := g_m28.nw e_m36 (by decide)
  refine ⟨_, a_X7 (V := 65) (Or.inl rfl), ?_⟩
  rintro m38 ⟨f_m38, r_m38⟩
  replace kr := kr.fr f_m38 r_m38 (by decide +kernel)
  replace fr := fr.tr f_m38 (by decide)
  replace g_m3 := g_m3.fr f_m38 (by decide)
  replace g_m8 := g_m8.fr f_m38 (by decide)
  replace g_m28 := g_m28.fr f_m38 (by decide)
  intro m40 e_m40
  rw [cl (by decide)] at e_m40
  replace kr := kr.R e_m40 (by decide +kernel)
  replace fr := fr.R e_m40 (by decide)
  replace g_m3 := g_m3.R e_m40
  replace g_m8 := g_m8.R e_m40
  replace g_m28 := g_m28.R e_m40
  refine ⟨kr (0, 6, 64) (by decide +kernel), ?_⟩
  refine ⟨kr (0, 6, 64) (by decide +kernel), ?_⟩
  intro m44 e_m44
  replace kr := kr.nw e_m44 (by decide +kernel)
  replace fr := fr.nw e_m44 (by decide)
  replace g_m3 := g_m3.nw e_m44 (by decide)
  replace g_m8 := g_m8.nw e_m44 (by decide)
  replace g_m28 := g_m28.nw e_m44 (by decide)
  refine ⟨_, a_X7 (V := 70) (Or.inr rfl), ?_⟩
  rintro m46 ⟨f_m46, r_m46⟩
  replace kr := kr.fr f_m46 r_m46 (by decide +kernel)
  replace fr := fr.tr f_m46 (by decide)
  replace g_m3 := g_m3.fr f_m46 (by decide)
  replace g_m8 := g_m8.fr f_m46 (by decide)
  replace g_m28 := g_m28.fr f_m46 (by decide)
  intro m48 e_m48
  rw [cl (by decide)] at e_m48
  replace kr := kr.R e_m48 (by decide +kernel)
  replace fr := fr.R e_m48 (by decide)
  replace g_m3 := g_m3.R e_m48
  replace g_m8 := g_m8.R e_m48
  replace g_m28 := g_m28.R e_m48
  refine ⟨kr (0, 6, 64) (by decide +kernel), ?_⟩
  intro m51 e_m51
  replace kr := kr.I e_m51
  replace fr := fr.I e_m51 (by decide)
  replace g_m3 := g_m3.I0 e_m51
  replace g_m8 := g_m8.I0 e_m51
  replace g_m28 := g_m28.I0 e_m51
  intro m52 e_m52
  replace kr := kr.I e_m52
  replace fr := fr.I e_m52 (by decide)
  replace g_m3 := g_m3.I0 e_m52
  replace g_m8 := g_m8.I0 e_m52
  replace g_m28 := g_m28.I0 e_m52
  intro m53 e_m53
  replace kr := kr.I e_m53
  replace fr := fr.I e_m53 (by decide)
  replace g_m3 := g_m3.I0 e_m53
  replace g_m8 := g_m8.I0 e_m53
  replace g_m28 := g_m28.I0 e_m53
  intro m54 e_m54
  replace kr := kr.I e_m54
  replace fr := fr.I e_m54 (by decide)
  replace g_m3 := g_m3.I0 e_m54
  replace g_m8 := g_m8.I0 e_m54
  replace g_m28 := g_m28.I0 e_m54
  refine ⟨kr, ?_, fun j => ?_, fun k hk => ?_, ⟨?_, ?_, ?_, ?_⟩, fun k hk => ?_, fun j hj => ?_⟩
  · rw [g_m3 1 (by decide) (by decide)]; exact x_m3.1
  · rw [g_m3 2 (by decide) (by decide)]; exact x_m3.2 j
  · rw [g_m8 3 (by decide) (by decide)]; exact x_m8 k hk
  · rw [e_m54, ri_e, upd_n (by decide), e_m53, ri_e, upd_n (by decide), e_m52, ri_e, upd_n (by decide), e_m51, ri_e, upd_e]
  · rw [e_m54, ri_e, upd_n (by decide), e_m53, ri_e, upd_n (by decide), e_m52, ri_e, upd_e]
  · rw [e_m54, ri_e, upd_n (by decide), e_m53, ri_e, upd_e]
  · rw [e_m54, ri_e, upd_e]
  · rw [g_m28 62 (by decide) (by decide)]; exact x_m28.1 k hk
  · rw [g_m28 63 (by decide) (by decide)]; exact x_m28.2 j hj
abbrev rX9 : List (Nat × Nat × Nat) := [(75, 50, 105), (75, 49, 104), (75, 48, 103), (75, 47, 102), (75, 46, 101), (75, 45, 100), (75, 44, 99), (75, 43, 98), (75, 42, 97), (75, 41, 96), (75, 40, 95), (75, 39, 94), (75, 30, 93), (75, 29, 92), (75, 28, 91), (75, 27, 90), (75, 26, 89), (75, 25, 88), (75, 24, 87), (75, 23, 86), (75, 22, 85), (75, 21, 84), (75, 20, 83), (75, 11, 82), (75, 8, 81), (75, 6, 80), (75, 5, 79), (75, 4, 78), (75, 3, 77), (75, 1, 76)]
theorem Ic_nw {c n : Nat} {μ0 μ m : xm_M} (h : μ.1 c = μ0.1 c) (e : m = xm_nw μ n) (hn : c ≠ n) : m.1 c = μ0.1 c := by rw [e, nw_i hn]; exact h
theorem Ic_R {c n : Nat} {μ0 μ m : xm_M} {f : Nat → Option Nat} (h : μ.1 c = μ0.1 c) (e : m = xu_R μ n f) : m.1 c = μ0.1 c := by rw [e]; exact h
theorem Ic_L {c n : Nat} {μ0 μ m : xm_M} {f : Nat → Int64} (h : μ.1 c = μ0.1 c) (e : m = xu_L μ n f) : m.1 c = μ0.1 c := by rw [e]; exact h
def mZ (μ m : xm_M) : Prop := m.1 75 = μ.1 75 ∧ (∀ j, m.1 82 j = 0) ∧ tabM m
set_option maxRecDepth 100000 in
set_option maxHeartbeats 4000000 in
theorem a_X9 {μ : xm_M} : xN k_X9_init 76 106 μ 75 (fun m => Fr 75 μ m ∧ KR rX9 m ∧ mZ μ m) := by
  generalize hQ : (fun m => Fr 75 μ m ∧ KR rX9 m ∧ mZ μ m) = Q
  have l1 : ∀ (d : Nat) (m : xm_M), d ≤ 255 → Fr 75 μ m → KR rX9 m → m.1 75 = μ.1 75 → (∀ j, m.1 82 j = 0) → (∀ k, d ≤ k → k < 256 → m.2.1 77 k = lN (tR (255 - k))) → hn_X9_init_261 Q (nI d + (-1)) m := by
    intro d
    induction d with
    | zero =>
      intro m hd f r i5 z t
      apply ln_X9_init_261
      refine ⟨fun _ => ?_, fun z => absurd (by decide) z⟩
      rw [← hQ]
      exact ⟨f, r, i5, z, fun k hk => t k (Nat.zero_le _) hk⟩
    | succ d ih =>
      intro m hd f r i5 z t
      rw [nI_m1]
      apply ln_X9_init_261
      refine ⟨fun z => absurd z (n0 (by omega)), fun _ => ?_⟩
      rw [nI_add]
      refine ⟨r (75, 3, 77) (by decide), r (75, 3, 77) (by decide), vin (by omega) (by decide), vin (by omega) (by decide), fun m8 e8 x9 e9 => ?_⟩
      rw [cl (by omega), cl (by omega), t (d + 1) (Nat.le_refl _) (by omega), tR_l (by omega)] at e8
      rw [e9]
      refine ih m8 (by omega) (f.L e8 (by decide)) (r.L e8) (Ic_L i5 e8) (fun j => by rw [e8, rl_i]; exact z j) (fun k h1 h2 => ?_)
      rw [e8, rl_e]
      by_cases h : k = d
      · rw [h, updL_e]
      · rw [updL_n h]
        exact t k (by omega) h2
  apply n_X9_init
  have i5 : μ.1 75 = μ.1 75 := rfl
  have kr : KR [] μ := KR.nil
  have fr : Fr 75 μ μ := Fr.rf
  intro m1 e_m1
  replace kr := kr.nw e_m1 (by decide +kernel)
  replace fr := fr.nw e_m1 (by decide)
  replace i5 := Ic_nw i5 e_m1 (by decide)
  intro m2 e_m2
  replace kr := kr.R e_m2 (by decide +kernel)
  replace fr := fr.R e_m2 (by decide)
  replace i5 := Ic_R i5 e_m2
  intro m3 e_m3
  replace kr := kr.nw e_m3 (by decide +kernel)
  replace fr := fr.nw e_m3 (by decide)
  replace i5 := Ic_nw i5 e_m3 (by decide)
  intro m4 e_m4
  replace kr := kr.R e_m4 (by decide +kernel)
  replace fr := fr.R e_m4 (by decide)
  replace i5 := Ic_R i5 e_m4
  intro m5 e_m5
  replace kr := kr.nw e_m5 (by decide +kernel)
  replace fr := fr.nw e_m5 (by decide)
  replace i5 := Ic_nw i5 e_m5 (by decide)
  intro m6 e_m6
  replace kr := kr.R e_m6 (by decide +kernel)
  replace fr := fr.R e_m6 (by decide)
  replace i5 := Ic_R i5 e_m6
  intro m7 e_m7
  replace kr := kr.nw e_m7 (by decide +kernel)
  replace fr := fr.nw e_m7 (by decide)
  replace i5 := Ic_nw i5 e_m7 (by decide)
  intro m8 e_m8
  replace kr := kr.R e_m8 (by decide +kernel)
  replace fr := fr.R e_m8 (by decide)
  replace i5 := Ic_R i5 e_m8
  intro m9 e_m9
  replace kr := kr.nw e_m9 (by decide +kernel)
  replace fr := fr.nw e_m9 (by decide)
  replace i5 := Ic_nw i5 e_m9 (by decide)
  intro m10 e_m10
  replace kr := kr.R e_m10 (by decide +kernel)
  replace fr := fr.R e_m10 (by decide)
  replace i5 := Ic_R i5 e_m10
  intro m11 e_m11
  replace kr := kr.nw e_m11 (by decide +kernel)
  replace fr := fr.nw e_m11 (by decide)
  replace i5 := Ic_nw i5 e_m11 (by decide)
  intro m12 e_m12
  replace kr := kr.R e_m12 (by decide +kernel)
  replace fr := fr.R e_m12 (by decide)
  replace i5 := Ic_R i5 e_m12
  intro m13 e_m13
  replace kr := kr.nw e_m13 (by decide +kernel)
  replace fr := fr.nw e_m13 (by decide)
  replace i5 := Ic_nw i5 e_m13 (by decide)
  have i2 : m13.1 82 = m13.1 82 := rfl
  have z2 : ∀ j, m13.1 82 j = 0 := fun j => by rw [e_m13, nw_z]
  intro m14 e_m14
  replace kr := kr.R e_m14 (by decide +kernel)
  replace fr := fr.R e_m14 (by decide)
  replace i5 := Ic_R i5 e_m14
  replace i2 := Ic_R i2 e_m14
  intro m15 e_m15
  replace kr := kr.nw e_m15 (by decide +kernel)
  replace fr := fr.nw e_m15 (by decide)
  replace i5 := Ic_nw i5 e_m15 (by decide)
  replace i2 := Ic_nw i2 e_m15 (by decide)
  intro m16 e_m16
  replace kr := kr.R e_m16 (by decide +kernel)
  replace fr := fr.R e_m16 (by decide)
  replace i5 := Ic_R i5 e_m16
  replace i2 := Ic_R i2 e_m16
  intro m17 e_m17
  replace kr := kr.nw e_m17 (by decide +kernel)
  replace fr := fr.nw e_m17 (by decide)
  replace i5 := Ic_nw i5 e_m17 (by decide)
  replace i2 := Ic_nw i2 e_m17 (by decide)
  intro m18 e_m18
  replace kr := kr.R e_m18 (by decide +kernel)
  replace fr := fr.R e_m18 (by decide)
  replace i5 := Ic_R i5 e_m18
  replace i2 := Ic_R i2 e_m18
  intro m19 e_m19
  replace kr := kr.nw e_m19 (by decide +kernel)
  replace fr := fr.nw e_m19 (by decide)
  replace i5 := Ic_nw i5 e_m19 (by decide)
  replace i2 := Ic_nw i2 e_m19 (by decide)
  intro m20 e_m20
  replace kr := kr.R e_m20 (by decide +kernel)
  replace fr := fr.R e_m20 (by decide)
  replace i5 := Ic_R i5 e_m20
  replace i2 := Ic_R i2 e_m20
  intro m21 e_m21
  replace kr := kr.nw e_m21 (by decide +kernel)
  replace fr := fr.nw e_m21 (by decide)
  replace i5 := Ic_nw i5 e_m21 (by decide)
  replace i2 := Ic_nw i2 e_m21 (by decide)
  intro m22 e_m22
  replace kr := kr.R e_m22 (by decide +kernel)
  replace fr := fr.R e_m22 (by decide)
  replace i5 := Ic_R i5 e_m22
  replace i2 := Ic_R i2 e_m22
  intro m23 e_m23
  replace kr := kr.nw e_m23 (by decide +kernel)
  replace fr := fr.nw e_m23 (by decide)
  replace i5 := Ic_nw i5 e_m23 (by decide)
  replace i2 := Ic_nw i2 e_m23 (by decide)
  intro m24 e_m24
  replace kr := kr.R e_m24 (by decide +kernel)
  replace fr := fr.R e_m24 (by decide)
  replace i5 := Ic_R i5 e_m24
  replace i2 := Ic_R i2 e_m24
  intro m25 e_m25
  replace kr := kr.nw e_m25 (by decide +kernel)
  replace fr := fr.nw e_m25 (by decide)
  replace i5 := Ic_nw i5 e_m25 (by decide)
  replace i2 := Ic_nw i2 e_m25 (by decide)
  intro m26 e_m26
  replace kr := kr.R e_m26 (by decide +kernel)
  replace fr := fr.R e_m26 (by decide)
  replace i5 := Ic_R i5 e_m26
  replace i2 := Ic_R i2 e_m26
  intro m27 e_m27
  replace kr := kr.nw e_m27 (by decide +kernel)
  replace fr := fr.nw e_m27 (by decide)
  replace i5 := Ic_nw i5 e_m27 (by decide)
  replace i2 := Ic_nw i2 e_m27 (by decide)
  intro m28 e_m28
  replace kr := kr.R e_m28 (by decide +kernel)
  replace fr := fr.R e_m28 (by decide)
  replace i5 := Ic_R i5 e_m28
  replace i2 := Ic_R i2 e_m28
  intro m29 e_m29
  replace kr := kr.nw e_m29 (by decide +kernel)
  replace fr := fr.nw e_m29 (by decide)
  replace i5 := Ic_nw i5 e_m29 (by decide)
  replace i2 := Ic_nw i2 e_m29 (by decide)
  intro m30 e_m30
  replace kr := kr.R e_m30 (by decide +kernel)
  replace fr := fr.R e_m30 (by decide)
  replace i5 := Ic_R i5 e_m30
  replace i2 := Ic_R i2 e_m30
  intro m31 e_m31
  replace kr := kr.nw e_m31 (by decide +kernel)
  replace fr := fr.nw e_m31 (by decide)
  replace i5 := Ic_nw i5 e_m31 (by decide)
  replace i2 := Ic_nw i2 e_m31 (by decide)
  intro m32 e_m32
  replace kr := kr.R e_m32 (by decide +kernel)
  replace fr := fr.R e_m32 (by decide)
  replace i5 := Ic_R i5 e_m32
  replace i2 := Ic_R i2 e_m32
  intro m33 e_m33
  replace kr := kr.nw e_m33 (by decide +kernel)
  replace fr := fr.nw e_m33 (by decide)
  replace i5 := Ic_nw i5 e_m33 (by decide)
  replace i2 := Ic_nw i2 e_m33 (by decide)
  intro m34 e_m34
  replace kr := kr.R e_m34 (by decide +kernel)
  replace fr := fr.R e_m34 (by decide)
  replace i5 := Ic_R i5 e_m34
  replace i2 := Ic_R i2 e_m34
  intro m35 e_m35
  replace kr := kr.nw e_m35 (by decide +kernel)
  replace fr := fr.nw e_m35 (by decide)
  replace i5 := Ic_nw i5 e_m35 (by decide)
  replace i2 := Ic_nw i2 e_m35 (by decide)
  intro m36 e_m36
  replace kr := kr.R e_m36 (by decide +kernel)
  replace fr := fr.R e_m36 (by decide)
  replace i5 := Ic_R i5 e_m36
  replace i2 := Ic_R i2 e_m36
  intro m37 e_m37
  replace kr := kr.nw e_m37 (by decide +kernel)
  replace fr := fr.nw e_m37 (by decide)
  replace i5 := Ic_nw i5 e_m37 (by decide)
  replace i2 := Ic_nw i2 e_m37 (by decide)
  intro m38 e_m38
  replace kr := kr.R e_m38 (by decide +kernel)
  replace fr := fr.R e_m38 (by decide)
  replace i5 := Ic_R i5 e_m38
  replace i2 := Ic_R i2 e_m38
  intro m39 e_m39
  replace kr := kr.nw e_m39 (by decide +kernel)
  replace fr := fr.nw e_m39 (by decide)
  replace i5 := Ic_nw i5 e_m39 (by decide)
  replace i2 := Ic_nw i2 e_m39 (by decide)
  intro m40 e_m40
  replace kr := kr.R e_m40 (by decide +kernel)
  replace fr := fr.R e_m40 (by decide)
  replace i5 := Ic_R i5 e_m40
  replace i2 := Ic_R i2 e_m40
  intro m41 e_m41
  replace kr := kr.nw e_m41 (by decide +kernel)
  replace fr := fr.nw e_m41 (by decide)
  replace i5 := Ic_nw i5 e_m41 (by decide)
  replace i2 := Ic_nw i2 e_m41 (by decide)
  intro m42 e_m42
  replace kr := kr.R e_m42 (by decide +kernel)
  replace fr := fr.R e_m42 (by decide)
  replace i5 := Ic_R i5 e_m42
  replace i2 := Ic_R i2 e_m42
  intro m43 e_m43
  replace kr := kr.nw e_m43 (by decide +kernel)
  replace fr := fr.nw e_m43 (by decide)
  replace i5 := Ic_nw i5 e_m43 (by decide)
  replace i2 := Ic_nw i2 e_m43 (by decide)
  intro m44 e_m44
  replace kr := kr.R e_m44 (by decide +kernel)
  replace fr := fr.R e_m44 (by decide)
  replace i5 := Ic_R i5 e_m44
  replace i2 := Ic_R i2 e_m44
  intro m45 e_m45
  replace kr := kr.nw e_m45 (by decide +kernel)
  replace fr := fr.nw e_m45 (by decide)
  replace i5 := Ic_nw i5 e_m45 (by decide)
  replace i2 := Ic_nw i2 e_m45 (by decide)
  intro m46 e_m46
  replace kr := kr.R e_m46 (by decide +kernel)
  replace fr := fr.R e_m46 (by decide)
  replace i5 := Ic_R i5 e_m46
  replace i2 := Ic_R i2 e_m46
  intro m47 e_m47
  replace kr := kr.nw e_m47 (by decide +kernel)
  replace fr := fr.nw e_m47 (by decide)
  replace i5 := Ic_nw i5 e_m47 (by decide)
  replace i2 := Ic_nw i2 e_m47 (by decide)
  intro m48 e_m48
  replace kr := kr.R e_m48 (by decide +kernel)
  replace fr := fr.R e_m48 (by decide)
  replace i5 := Ic_R i5 e_m48
  replace i2 := Ic_R i2 e_m48
  intro m49 e_m49
  replace kr := kr.nw e_m49 (by decide +kernel)
  replace fr := fr.nw e_m49 (by decide)
  replace i5 := Ic_nw i5 e_m49 (by decide)
  replace i2 := Ic_nw i2 e_m49 (by decide)
  intro m50 e_m50
  replace kr := kr.R e_m50 (by decide +kernel)
  replace fr := fr.R e_m50 (by decide)
  replace i5 := Ic_R i5 e_m50
  replace i2 := Ic_R i2 e_m50
  intro m51 e_m51
  replace kr := kr.nw e_m51 (by decide +kernel)
  replace fr := fr.nw e_m51 (by decide)
  replace i5 := Ic_nw i5 e_m51 (by decide)
  replace i2 := Ic_nw i2 e_m51 (by decide)
  intro m52 e_m52
  replace kr := kr.R e_m52 (by decide +kernel)
  replace fr := fr.R e_m52 (by decide)
  replace i5 := Ic_R i5 e_m52
  replace i2 := Ic_R i2 e_m52
  intro m53 e_m53
  replace kr := kr.nw e_m53 (by decide +kernel)
  replace fr := fr.nw e_m53 (by decide)
  replace i5 := Ic_nw i5 e_m53 (by decide)
  replace i2 := Ic_nw i2 e_m53 (by decide)
  intro m54 e_m54
  replace kr := kr.R e_m54 (by decide +kernel)
  replace fr := fr.R e_m54 (by decide)
  replace i5 := Ic_R i5 e_m54
  replace i2 := Ic_R i2 e_m54
  intro m55 e_m55
  replace kr := kr.nw e_m55 (by decide +kernel)
  replace fr := fr.nw e_m55 (by decide)
  replace i5 := Ic_nw i5 e_m55 (by decide)
  replace i2 := Ic_nw i2 e_m55 (by decide)
  intro m56 e_m56
  replace kr := kr.R e_m56 (by decide +kernel)
  replace fr := fr.R e_m56 (by decide)
  replace i5 := Ic_R i5 e_m56
  replace i2 := Ic_R i2 e_m56
  intro m57 e_m57
  replace kr := kr.nw e_m57 (by decide +kernel)
  replace fr := fr.nw e_m57 (by decide)
  replace i5 := Ic_nw i5 e_m57 (by decide)
  replace i2 := Ic_nw i2 e_m57 (by decide)
  intro m58 e_m58
  replace kr := kr.R e_m58 (by decide +kernel)
  replace fr := fr.R e_m58 (by decide)
  replace i5 := Ic_R i5 e_m58
  replace i2 := Ic_R i2 e_m58
  intro m59 e_m59
  replace kr := kr.nw e_m59 (by decide +kernel)
  replace fr := fr.nw e_m59 (by decide)
  replace i5 := Ic_nw i5 e_m59 (by decide)
  replace i2 := Ic_nw i2 e_m59 (by decide)
  intro m60 e_m60
  replace kr := kr.R e_m60 (by decide +kernel)
  replace fr := fr.R e_m60 (by decide)
  replace i5 := Ic_R i5 e_m60
  replace i2 := Ic_R i2 e_m60
  refine ⟨kr (75, 3, 77) (by decide +kernel), ?_⟩
  refine ⟨vin (by decide) (by decide), ?_⟩
  intro m63 e_m63
  replace kr := kr.L e_m63
  replace fr := fr.L e_m63 (by decide)
  replace i5 := Ic_L i5 e_m63
  replace i2 := Ic_L i2 e_m63
  rw [cl (by decide)] at e_m63
  refine l1 255 m63 (Nat.le_refl _) fr kr i5 (fun j => by rw [i2]; exact z2 j) (fun k h1 h2 => ?_)
  have : k = 255 := by omega
  rw [e_m63, rl_e, this, updL_e]
  rfl
/-- all the refs stand -/
theorem rt_all {m : xm_M} (h1 : KR rX8 m) (h2 : KR rX9 m) : xs_RT false m := by
  refine ⟨fun q hq => ?_, fun h => absurd h (by decide)⟩
  have h : ∀ q ∈ xs_rts, q ∈ rX8 ∨ q ∈ rX9 := by decide +kernel
  rcases h q hq with h | h
  · exact h1 q h
  · exact h2 q h
abbrev A0 : AS := (0, fun _ => 0, 0, 0, fun _ => nI 0, fun _ _ => 0)
theorem cA_0 {m : xm_M} (h : cZ m) : cA m A0 := by
  obtain ⟨h1, h2, h3, ⟨a, b, c, d⟩, hT⟩ := h
  refine ⟨⟨h1, Nat.zero_le _, fun j hj => absurd hj (Nat.not_lt_zero j), fun j => by rw [h2 j]; decide⟩, ⟨a, Nat.zero_le _, b, Nat.zero_le _, fun c hc => absurd hc (Nat.not_lt_zero c)⟩, ?_, hT⟩
  refine ⟨?_, ?_, ?_, ?_, ?_, ?_, ?_, ?_⟩
  all_goals first | exact a | exact c | exact d | exact h3 _ (by decide)
theorem mA_0 {μ m : xm_M} (h : mZ μ m) (h0 : ∀ j, μ.1 75 j = 0) : mA m A0 := by
  obtain ⟨h1, h2, hT⟩ := h
  exact ⟨⟨by rw [h1, h0]; rfl, Nat.zero_le _, fun j hj => absurd hj (Nat.not_lt_zero j), fun j hj => absurd hj (Nat.not_lt_zero j)⟩, ⟨by rw [h1, h0]; rfl, Nat.zero_le _, by rw [h1, h0]; rfl, Nat.zero_le _, fun c hc => absurd hc (Nat.not_lt_zero c)⟩, fun k hk => by rw [h2]; rfl, hT⟩
theorem cZ_fr {μ m : xm_M} (h : cZ μ) (f : Fr 75 μ m) : cZ m := by
  obtain ⟨h1, h2, h3, ⟨a, b, c, d⟩, hT⟩ := h
  have g : ∀ j, j < 75 → m.1 j = μ.1 j := fun j hj => (f j hj).1
  exact ⟨by rw [g 1 (by decide)]; exact h1, fun j => by rw [g 2 (by decide)]; exact h2 j, fun k hk => by rw [g 3 (by decide)]; exact h3 k hk, ⟨by rw [g 0 (by decide)]; exact a, by rw [g 0 (by decide)]; exact b, by rw [g 0 (by decide)]; exact c, by rw [g 0 (by decide)]; exact d⟩, fun k hk => by rw [g 62 (by decide)]; exact hT.1 k hk, fun k hk => by rw [g 63 (by decide)]; exact hT.2 k hk⟩
