/-! ===== feed ===== -/
def arg5 (a b c d e : Int32) (k : Nat) : Int32 := match k with
  | 0 => a
  | 1 => b
  | 2 => c
  | 3 => d
  | _ => e
def feR (A : AS) : Int32 := if 6000 < A.1 + 20 then -1 else nI (A.1 + 20)
def feT (A : AS) (a b c d e : Int32) (j : Nat) : Int32 := if A.1 ≤ j ∧ j < A.1 + 20 then by8 (su (arg5 a b c d e ((j - A.1) / 4)) (24 - 8 * ((j - A.1) % 4))) else A.2.1 j
def feA (A : AS) (a b c d e : Int32) : AS := if 6000 < A.1 + 20 then A else (A.1 + 20, feT A a b c d e, A.2.2)
theorem c_feed {bb' : Bool} {μ : xm_M} {A : AS} (a b c d e : Int32) (h : cA μ A) : xCi bb' bb' k_X8_feed μ [.ref 0, .int a, .int b, .int c, .int d, .int e] (fun r m => r = feR A ∧ cA m (feA A a b c d e) ∧ upK μ m) := by
  obtain ⟨t1, t2, t3, t4⟩ := h.1
  apply g_X8_feed
  rw [t1, nI_add]
  unfold feR feA
  refine pk_le (A.1 + 20) 6000 (fun c0 => ?_) (fun c0 => ?_)
  · rw [if_neg (by omega), if_neg (by omega)]
    refine ⟨_, c_putHighestFirst (n := A.1) a t1 (by omega), ?_⟩
    rintro m3 ⟨f3, n3, b3⟩
    refine ⟨_, c_putHighestFirst (n := A.1 + 4) b n3 (by omega), ?_⟩
    rintro m7 ⟨f7, n7, b7⟩
    refine ⟨_, c_putHighestFirst (n := A.1 + 4 + 4) c n7 (by omega), ?_⟩
    rintro m11 ⟨f11, n11, b11⟩
    refine ⟨_, c_putHighestFirst (n := A.1 + 4 + 4 + 4) d n11 (by omega), ?_⟩
    rintro m15 ⟨f15, n15, b15⟩
    refine ⟨_, c_putHighestFirst (n := A.1 + 4 + 4 + 4 + 4) e n15 (by omega), ?_⟩
    rintro m19 ⟨f19, n19, b19⟩
    have hf : fm [1, 2] μ m19 := (((f3.tr f7).tr f11).tr f15).tr f19
    have key : ∀ j, (m19.1 2 j = feT A a b c d e j ∧ A.1 ≤ j ∧ j < A.1 + 20) ∨ (m19.1 2 j = μ.1 2 j ∧ ¬ (A.1 ≤ j ∧ j < A.1 + 20)) := by
      intro j
      by_cases hj : A.1 ≤ j ∧ j < A.1 + 20
      · left
        refine ⟨?_, hj⟩
        unfold feT
        rw [if_pos hj, b19 j]
        by_cases h5 : A.1 + 4 + 4 + 4 + 4 ≤ j ∧ j < A.1 + 4 + 4 + 4 + 4 + 4
        · rw [if_pos h5, show (j - A.1) / 4 = 4 by omega, show 24 - 8 * ((j - A.1) % 4) = 24 - 8 * (j - (A.1 + 4 + 4 + 4 + 4)) by omega]
          rfl
        · rw [if_neg h5, b15 j]
          by_cases h4 : A.1 + 4 + 4 + 4 ≤ j ∧ j < A.1 + 4 + 4 + 4 + 4
          · rw [if_pos h4, show (j - A.1) / 4 = 3 by omega, show 24 - 8 * ((j - A.1) % 4) = 24 - 8 * (j - (A.1 + 4 + 4 + 4)) by omega]
            rfl
          · rw [if_neg h4, b11 j]
            by_cases h3 : A.1 + 4 + 4 ≤ j ∧ j < A.1 + 4 + 4 + 4
            · rw [if_pos h3, show (j - A.1) / 4 = 2 by omega, show 24 - 8 * ((j - A.1) % 4) = 24 - 8 * (j - (A.1 + 4 + 4)) by omega]
              rfl
            · rw [if_neg h3, b7 j]
              by_cases h2 : A.1 + 4 ≤ j ∧ j < A.1 + 4 + 4
              · rw [if_pos h2, show (j - A.1) / 4 = 1 by omega, show 24 - 8 * ((j - A.1) % 4) = 24 - 8 * (j - (A.1 + 4)) by omega]
                rfl
              · rw [if_neg h2, b3 j, if_pos (by omega), show (j - A.1) / 4 = 0 by omega, show 24 - 8 * ((j - A.1) % 4) = 24 - 8 * (j - A.1) by omega]
                rfl
      · right
        exact ⟨by rw [b19 j, if_neg (by omega), b15 j, if_neg (by omega), b11 j, if_neg (by omega), b7 j, if_neg (by omega), b3 j, if_neg (by omega)], hj⟩
    refine ⟨n19, h.tape hf n19 (by omega) (fun j hj => ?_) (fun j => ?_), hf.up (by decide)⟩
    · rcases key j with ⟨k1, -⟩ | ⟨k1, k2⟩
      · exact k1
      · rw [k1]
        unfold feT
        rw [if_neg k2]
        exact t3 j (by omega)
    · rcases key j with ⟨k1, k2⟩ | ⟨k1, k2⟩
      · rw [k1]
        unfold feT
        rw [if_pos k2]
        exact by8_fit _
      · rw [k1]
        exact t4 j
  · rw [if_pos (by omega), if_pos (by omega)]
    exact ⟨rfl, h, fun c hc => ⟨rfl, rfl⟩⟩
theorem c_mfeed {bb' : Bool} {μ : xm_M} {A : AS} (a b c d e : Int32) (h : mA μ A) : xCi bb' bb' k_X9_feed μ [.ref 75, .int a, .int b, .int c, .int d, .int e] (fun r m => r = feR A ∧ mA m (feA A a b c d e) ∧ loK μ m) := by
  apply g_X9_feed
  intro m1 e1
  obtain ⟨g1, g2⟩ := h.thr e1
  obtain ⟨t1, t2, t3, t4⟩ := g1.1
  rw [t1, nI_add]
  unfold feR feA
  refine pk_le (A.1 + 20) 6000 (fun c0 => ?_) (fun c0 => ?_)
  · rw [if_neg (by omega), if_neg (by omega)]
    refine ⟨vin (by decide) (by decide), fun m4 e4 => ⟨vin (by decide) (by decide), fun m6 e6 => ⟨vin (by decide) (by decide), fun m8 e8 => ⟨vin (by decide) (by decide), fun m10 e10 => ⟨vin (by decide) (by decide), fun m12 e12 => ?_⟩⟩⟩⟩⟩
    rw [cl (by decide)] at e4 e6 e8 e10 e12
    have o12 : ∀ c, c ≠ 78 → m12.1 c = m1.1 c := fun c hc => by rw [e12, ri_n hc, e10, ri_n hc, e8, ri_n hc, e6, ri_n hc, e4, ri_n hc]
    have l12 : m12.2.1 = m1.2.1 := by rw [e12, e10, e8, e6, e4]; rfl
    have d12 : m12.1 78 = upd (upd (upd (upd (upd (m1.1 78) 0 a) 1 b) 2 c) 3 d) 4 e := by rw [e12, ri_e, e10, ri_e, e8, ri_e, e6, ri_e, e4, ri_e]
    have a12 : ∀ k, k < 5 → m12.1 78 k = arg5 a b c d e k := by
      intro k hk
      rw [d12]
      rcases (by omega : k = 0 ∨ k = 1 ∨ k = 2 ∨ k = 3 ∨ k = 4) with rfl | rfl | rfl | rfl | rfl
      · rw [upd_n (by decide), upd_n (by decide), upd_n (by decide), upd_n (by decide), upd_e]; rfl
      · rw [upd_n (by decide), upd_n (by decide), upd_n (by decide), upd_e]; rfl
      · rw [upd_n (by decide), upd_n (by decide), upd_e]; rfl
      · rw [upd_n (by decide), upd_e]; rfl
      · rw [upd_e]; rfl
    have loop : ∀ (dd k : Nat) (f : Nat → Int32), k + dd = 20 → (∀ j, f j = if A.1 ≤ j ∧ j < A.1 + k then feT A a b c d e j else m1.1 76 j) → hd_X9_feed_60 bb' (fun r m => r = nI (A.1 + 20) ∧ mA m (A.1 + 20, feT A a b c d e, A.2.2) ∧ loK μ m) (nI k) (xu_I m12 76 f) := by
      intro dd
      induction dd with
      | zero =>
        intro k f hk hf
        apply l_X9_feed_60
        refine pk_le 20 k (fun _ m2 e2 => ?_) (fun c => by omega)
        rw [ri_n (show 75 ≠ 76 by decide), o12 75 (by decide), t1, nI_add] at e2
        have h2 : m2.1 75 2 = nI (A.1 + 20) := by rw [e2, ri_e, upd_e]
        have := g1.tape (m := m2) (n := A.1 + 20) (t := feT A a b c d e) (fun c q1 q2 q3 => by rw [e2, ri_n q1, ri_n q2]; exact o12 c q3) (by rw [e2, ri_l, ri_l]; exact l12) (fun k _ q => by rw [e2, ri_e, upd_n q]) h2 (by omega) (fun j hj => ?_) (fun j hj => ?_)
        · exact ⟨h2, this.1, g2.tr this.2⟩
        · rw [e2, ri_n (by decide), ri_e, hf j]
          by_cases hj2 : A.1 ≤ j ∧ j < A.1 + k
          · rw [if_pos hj2]
          · rw [if_neg hj2, t3 j (by omega)]
            unfold feT
            rw [if_neg (by omega)]
        · unfold feT
          by_cases hj2 : A.1 ≤ j ∧ j < A.1 + 20
          · rw [if_pos hj2]
            exact by8_fit _
          · rw [if_neg hj2]
            exact t4 j (by omega)
      | succ dd ih =>
        intro k f hk hf
        apply l_X9_feed_60
        rw [ri_n (show 75 ≠ 76 by decide), ri_n (show 78 ≠ 76 by decide), o12 75 (by decide), t1, nI_add A.1 k, pk_rem (show k < 2 ^ 31 by omega) (by decide) (by decide), pk_div (show k < 2 ^ 31 by omega) (by decide) (by decide), pk_mul, pk_sub (show 8 * (k % 4) ≤ 24 by omega), cl (show k / 4 < 2 ^ 31 by omega), cl (show A.1 + k < 2 ^ 31 by omega), a12 _ (by omega), vn8, by8_sr _ (by omega)]
        refine pk_le 20 k (fun c => by omega) (fun _ => ⟨vin (by omega) (by decide), vin (by omega) (by decide), fun m5 e5 x6 e6 => ?_⟩)
        rw [xu_II, ri_e] at e5
        rw [e6, nI_add, e5]
        refine ih (k + 1) _ (by omega) (fun j => ?_)
        by_cases hj : j = A.1 + k
        · rw [hj, upd_e, if_pos (by omega)]
          unfold feT
          rw [if_pos (by omega), show A.1 + k - A.1 = k by omega]
        · rw [upd_n hj, hf j]
          by_cases hj2 : A.1 ≤ j ∧ j < A.1 + k
          · rw [if_pos hj2, if_pos (by omega)]
          · rw [if_neg hj2, if_neg (by omega)]
    have hid : xu_I m12 76 (m12.1 76) = m12 := by
      unfold xu_I
      have : va_up m12.1 76 (m12.1 76) = m12.1 := by
        funext k
        by_cases h : k = 76
        · rw [h]; simp [va_up]
        · simp [va_up, h]
      rw [this]
    have := loop 20 0 (m12.1 76) rfl (fun j => by rw [if_neg (by omega), o12 76 (by decide)])
    rw [hid] at this
    exact this
  · rw [if_pos (by omega), if_pos (by omega)]
    exact ⟨rfl, g1, g2⟩
