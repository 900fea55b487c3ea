/-! ===== rests: parts ===== -/
abbrev RS : Type := Option Nat × (Nat → Int)
def putV (sp : List Int32) (p e at' w : Nat) (f : Nat → Int) : Nat → Int := fun x => if at' ≤ x ∧ x < at' + w then vv sp p e (x - at') else f x
noncomputable def prS (sp pk : List Int32) (j off : Nat) (s : RS) : RS := match s.1 with
  | none => s
  | some p => match nx sp j pk p with
    | none => (none, s.2)
    | some q => (some (p + q.2), putV sp (bp sp j) q.1 off (bkW sp (bp sp j)) s.2)
noncomputable def prF (sp pk : List Int32) (j at' : Nat) (s0 : RS) : Nat → RS
  | 0 => s0
  | t + 1 => prS sp pk j (at' + t * bkW sp (bp sp j)) (prF sp pk j at' s0 t)
noncomputable def rsS (sp pk : List Int32) (k : Nat) (s : RS) : RS := match s.1 with
  | none => s
  | some p => match nx sp (sCb sp) pk p with
    | none => (none, s.2)
    | some q => if 8 ≤ sCl sp (q.1 % sCn sp) then (some (p + q.2), s.2) else prF sp pk (sCl sp (q.1 % sCn sp)) (k * sSz sp) (some (p + q.2), s.2) (sSz sp / bkW sp (bp sp (sCl sp (q.1 % sCn sp))))
noncomputable def rsF (sp pk : List Int32) (s0 : RS) : Nat → RS
  | 0 => s0
  | k + 1 => rsS sp pk k (rsF sp pk s0 k)
theorem prS_n {sp pk : List Int32} {j off : Nat} {s : RS} (h : s.1 = none) : prS sp pk j off s = s := by
  unfold prS
  rw [h]
theorem prS_e {sp pk : List Int32} {j off p : Nat} {s : RS} (h : s.1 = some p) (h2 : nx sp j pk p = none) : prS sp pk j off s = (none, s.2) := by
  unfold prS
  rw [h]
  show (match nx sp j pk p with | none => _ | some q => _) = _
  rw [h2]
theorem prS_s {sp pk : List Int32} {j off p e d : Nat} {s : RS} (h : s.1 = some p) (h2 : nx sp j pk p = some (e, d)) : prS sp pk j off s = (some (p + d), putV sp (bp sp j) e off (bkW sp (bp sp j)) s.2) := by
  unfold prS
  rw [h]
  show (match nx sp j pk p with | none => _ | some q => _) = _
  rw [h2]
theorem prF_n {sp pk : List Int32} {j at' : Nat} {s0 : RS} {t : Nat} (h : (prF sp pk j at' s0 t).1 = none) : ∀ t', t ≤ t' → prF sp pk j at' s0 t' = prF sp pk j at' s0 t := by
  intro t' ht
  induction ht with
  | refl => rfl
  | @step m h2 ih =>
    show prS sp pk j _ (prF sp pk j at' s0 m) = _
    rw [ih, prS_n h]
theorem rsS_n {sp pk : List Int32} {k : Nat} {s : RS} (h : s.1 = none) : rsS sp pk k s = s := by
  unfold rsS
  rw [h]
theorem rsS_e {sp pk : List Int32} {k p : Nat} {s : RS} (h : s.1 = some p) (h2 : nx sp (sCb sp) pk p = none) : rsS sp pk k s = (none, s.2) := by
  unfold rsS
  rw [h]
  show (match nx sp (sCb sp) pk p with | none => _ | some q => _) = _
  rw [h2]
theorem rsS_s {sp pk : List Int32} {k p e d : Nat} {s : RS} (h : s.1 = some p) (h2 : nx sp (sCb sp) pk p = some (e, d)) : rsS sp pk k s = if 8 ≤ sCl sp (e % sCn sp) then (some (p + d), s.2) else prF sp pk (sCl sp (e % sCn sp)) (k * sSz sp) (some (p + d), s.2) (sSz sp / bkW sp (bp sp (sCl sp (e % sCn sp)))) := by
  unfold rsS
  rw [h]
  show (match nx sp (sCb sp) pk p with | none => _ | some q => _) = _
  rw [h2]
theorem rsF_n {sp pk : List Int32} {s0 : RS} {k : Nat} (h : (rsF sp pk s0 k).1 = none) : ∀ k', k ≤ k' → rsF sp pk s0 k' = rsF sp pk s0 k := by
  intro k' hk
  induction hk with
  | refl => rfl
  | @step m h2 ih =>
    show rsS sp pk m (rsF sp pk s0 m) = _
    rw [ih, rsS_n h]
-- bounds
def nB (f : Nat → Int) : Prop := ∀ x, -280000 ≤ f x ∧ f x ≤ 280000
theorem putV_b {sp : List Int32} {p e at' : Nat} {f : Nat → Int} (h : nB f) : nB (putV sp p e at' (bkW sp p) f) := by
  intro x
  unfold putV
  split
  · rename_i hx
    have hw := bkW_b sp p
    have := vv_b sp p e (x - at')
    omega
  · exact h x
theorem prF_b {sp pk : List Int32} {j at' : Nat} {s0 : RS} (h : nB s0.2) : ∀ t, nB (prF sp pk j at' s0 t).2
  | 0 => h
  | t + 1 => by
    have ih := prF_b (sp := sp) (pk := pk) (j := j) (at' := at') h t
    show nB (prS sp pk j _ (prF sp pk j at' s0 t)).2
    cases h1 : (prF sp pk j at' s0 t).1 with
    | none => rw [prS_n h1]; exact ih
    | some p =>
      cases h2 : nx sp j pk p with
      | none => rw [prS_e h1 h2]; exact ih
      | some q =>
        obtain ⟨e, d⟩ := q
        rw [prS_s h1 h2]
        exact putV_b ih
theorem rsF_b {sp pk : List Int32} {s0 : RS} (h : nB s0.2) : ∀ k, nB (rsF sp pk s0 k).2
  | 0 => h
  | k + 1 => by
    have ih := rsF_b (sp := sp) (pk := pk) h k
    show nB (rsS sp pk k (rsF sp pk s0 k)).2
    cases h1 : (rsF sp pk s0 k).1 with
    | none => rw [rsS_n h1]; exact ih
    | some p =>
      cases h2 : nx sp (sCb sp) pk p with
      | none => rw [rsS_e h1 h2]; exact ih
      | some q =>
        obtain ⟨e, d⟩ := q
        rw [rsS_s h1 h2]
        split
        · exact ih
        · exact prF_b (s0 := (some (p + d), (rsF sp pk s0 k).2)) ih _
theorem cl_ok {sp : List Int32} (hok : sOK sp) {k : Nat} (hk : k < sCn sp) (h8 : sCl sp k < 8) : sCl sp k < sBn sp ∧ bkH sp (bp sp (sCl sp k)) = 1 ∧ sSz sp % bkW sp (bp sp (sCl sp k)) = 0 := by
  have h := hok.2.2.2 k hk
  have hb := bkH_b sp (bp sp (sCl sp k))
  unfold clF at h
  rw [if_neg (by omega)] at h
  split at h
  · omega
  · split at h
    · omega
    · split at h
      · rename_i h1 h2 h3
        exact ⟨by omega, by omega, h3⟩
      · omega
-- the class
def cRS (m : xm_M) (N : Nat) (pk : List Int32) (s : RS) : Prop := bR m pk (s.1.getD (8 * pk.length)) ∧ ∀ x, x < 16 → m.1 N x = iI (s.2 x)
theorem nx_end {sp pk : List Int32} {j : Nat} : nx sp j pk (8 * pk.length) = none := by
  cases h : nx sp j pk (8 * pk.length) with
  | none => rfl
  | some q =>
    have := nx_b (e := q.1) (d := q.2) h
    omega
theorem maxI {w : Nat} (h1 : 1 ≤ w) (h2 : w < 2 ^ 31) : (if nI 1 < nI w then nI w else nI 1) = nI w := by
  rcases Nat.lt_or_ge 1 w with h | h
  · rw [if_pos (nI_lt h h2)]
  · rw [show w = 1 by omega, if_neg (by decide)]
theorem c_learnPart {μ : xm_M} {sp pk : List Int32} {j at' N : Nat} {s0 : RS} (hS : cS μ sp) (hj : j < sBn sp) (hH : bkH sp (bp sp j) = 1) (hdv : sSz sp % bkW sp (bp sp j) = 0) (hat : at' + sSz sp ≤ 16) (hN : xs_sh[N]? = some (.inr (.int, 16))) (hN9 : 58 < N) (h0 : cRS μ N pk s0) : xCv true true k_X4_learnPart μ [.ref 9, .ref 7, .ref (16 + 5 * j), .ref N, .int (nI at')] (fun m => fm [7, N] μ m ∧ cRS m N pk (prF sp pk j at' s0 (sSz sp / bkW sp (bp sp j)))) := by
  have hBn := sBn_b sp
  have hw := bkW_b sp (bp sp j)
  have hsz := sSz_b sp
  generalize hW : bkW sp (bp sp j) = w at *
  have hmul : sSz sp / w * w = sSz sp := Nat.div_mul_cancel (Nat.dvd_of_mod_eq_zero hdv)
  generalize hT : sSz sp / w = T at *
  have loop : ∀ (d t : Nat) (m : xm_M), t + d = T → fm [7, N] μ m → cRS m N pk (prF sp pk j at' s0 t) → hd_X4_learnPart_3 (fun m => fm [7, N] μ m ∧ cRS m N pk (prF sp pk j at' s0 T)) (16 + 5 * j) N (nI at') (nI (t * w)) m := by
    intro d
    induction d with
    | zero =>
      intro t m ht hf hr
      have htT : t = T := by omega
      have hSm : cS m sp := hS.fr (fun c h1 h2 => (hf c (by simp; omega)).1)
      refine l_X4_learnPart_3 _ _ (bk_j (by omega)) hN ?_
      rw [htT] at hr ⊢
      exact pk_le (sSz sp) (T * w) (fun _ => ⟨hf, hr⟩) (fun c => by omega) hSm.2.2.2.2.2.1
    | succ d ih =>
      intro t m ht hf hr
      have hSm : cS m sp := hS.fr (fun c h1 h2 => (hf c (by simp; omega)).1)
      have hBm := hSm.2.2.2.2.2.2.2.2.2 j hj
      have htw : t * w + w ≤ T * w := by
        have : (t + 1) * w ≤ T * w := Nat.mul_le_mul_right _ (by omega)
        rw [Nat.add_mul, Nat.one_mul] at this
        exact this
      refine l_X4_learnPart_3 _ _ (bk_j (by omega)) hN ?_
      refine pk_le (sSz sp) (t * w) (fun c => by omega) (fun _ => ⟨_, c_nxt (by omega) hBm hr.1, ?_⟩) hSm.2.2.2.2.2.1
      rintro r4 m3 ⟨f3, hx⟩
      have hf3 : fm [7, N] μ m3 := hf.tr (f3.mono (by simp))
      have hN3 : ∀ x, x < 16 → m3.1 N x = iI ((prF sp pk j at' s0 t).2 x) := fun x hx => by rw [(f3 N (by simp; omega)).1]; exact hr.2 x hx
      cases hs : (prF sp pk j at' s0 t).1 with
      | none =>
        have he : nx sp j pk ((prF sp pk j at' s0 t).1.getD (8 * pk.length)) = none := by rw [hs]; exact nx_end
        rcases hx with ⟨e, d2, h1, h2, h3⟩ | ⟨h1, h2, h3⟩
        · rw [he] at h1; cases h1
        · rw [h2]
          refine ⟨fun c => absurd c (by decide), fun _ => ⟨hf3, ?_⟩⟩
          rw [prF_n hs T (by omega)]
          exact ⟨by rw [hs]; exact h3, hN3⟩
      | some p =>
        rw [hs] at hx
        rcases hx with ⟨e, d2, h1, h2, h3⟩ | ⟨h1, h2, h3⟩
        · have hst : prF sp pk j at' s0 (t + 1) = (some (p + d2), putV sp (bp sp j) e (at' + t * w) w (prF sp pk j at' s0 t).2) := by
            show prS sp pk j _ (prF sp pk j at' s0 t) = _
            rw [prS_s hs h1, hW]
          have hnb := nx_b h1
          have hB3 : cB m3 (16 + 5 * j) sp (bp sp j) := hBm.fr (f3 _ (by simp; omega)).1 (f3 _ (by simp; omega)).1 (f3 _ (by simp; omega)).1
          rw [h2]
          refine ⟨fun _ => ⟨_, by rw [nI_add]; exact c_putValues (by omega) hB3 hH hnb.1 (by omega) hN hN9, ?_⟩, fun c => absurd (n0' (by omega)) c⟩
          rintro m8 ⟨f8, h8⟩ x11 e11
          rw [hW] at h8
          have hf8 : fm [7, N] μ m8 := hf3.tr (f8.mono (by simp))
          have hS8 : cS m8 sp := hS.fr (fun c h1 h2 => (hf8 c (by simp; omega)).1)
          rw [(hS8.2.2.2.2.2.2.2.2.2 j hj).2.2.1, hW, maxI hw.1 (by omega), nI_add, show t * w + w = (t + 1) * w by rw [Nat.add_mul, Nat.one_mul]] at e11
          rw [e11]
          refine ih (t + 1) m8 (by omega) hf8 ?_
          rw [hst]
          refine ⟨h3.fr (f8 7 (by simp; omega)).1 (f8 2 (by simp; omega)).1, fun x hx => ?_⟩
          rw [h8 x]
          show _ = iI (putV sp (bp sp j) e (at' + t * w) w _ x)
          unfold putV
          by_cases hxx : at' + t * w ≤ x ∧ x < at' + t * w + w
          · rw [if_pos hxx, if_pos hxx]
          · rw [if_neg hxx, if_neg hxx]
            exact hN3 x hx
        · have hst : prF sp pk j at' s0 (t + 1) = (none, (prF sp pk j at' s0 t).2) := by
            show prS sp pk j _ (prF sp pk j at' s0 t) = _
            rw [prS_e hs h1]
          rw [h2]
          refine ⟨fun c => absurd c (by decide), fun _ => ⟨hf3, ?_⟩⟩
          rw [prF_n (by rw [hst]) T (show t + 1 ≤ T by omega), hst]
          exact ⟨h3, hN3⟩
  refine g_X4_learnPart _ (bk_j (by omega)) hN ?_
  have := loop T 0 μ (by omega) fm.rf h0
  rw [Nat.zero_mul] at this
  exact this
theorem c_learnNumbers {μ : xm_M} {sp pk : List Int32} {N : Nat} {s0 : RS} (hok : sOK sp) (hS : cS μ sp) (hN : xs_sh[N]? = some (.inr (.int, 16))) (hN9 : 58 < N) (h0 : cRS μ N pk s0) : xCv true true k_X4_learnNumbers μ [.ref 9, .ref 7, .ref N] (fun m => fm [7, N] μ m ∧ cRS m N pk (rsF sp pk s0 (16 / sSz sp))) := by
  have hBn := sBn_b sp
  have hCn := sCn_b sp
  have hsz := sSz_b sp
  have hcb := hok.2.1
  have hmul : 16 / sSz sp * sSz sp = 16 := by rcases hsz with h | h | h | h <;> rw [h]
  generalize hK : 16 / sSz sp = K at *
  have loop : ∀ (d k : Nat) (m : xm_M), k + d = K → fm [7, N] μ m → cRS m N pk (rsF sp pk s0 k) → hd_X4_learnNumbers_2 (fun m => fm [7, N] μ m ∧ cRS m N pk (rsF sp pk s0 K)) N (nI (k * sSz sp)) m := by
    intro d
    induction d with
    | zero =>
      intro k m hk hf hr
      have hkK : k = K := by omega
      refine l_X4_learnNumbers_2 _ hN ?_
      rw [hkK] at hr ⊢
      exact pk_le 16 (K * sSz sp) (fun _ => ⟨hf, hr⟩) (fun c => by omega)
    | succ d ih =>
      intro k m hk hf hr
      have hSm : cS m sp := hS.fr (fun c h1 h2 => (hf c (by simp; omega)).1)
      have hks : k * sSz sp + sSz sp ≤ 16 := by
        have : (k + 1) * sSz sp ≤ K * sSz sp := Nat.mul_le_mul_right _ (by omega)
        rw [Nat.add_mul, Nat.one_mul] at this
        omega
      refine l_X4_learnNumbers_2 _ hN ?_
      rw [hSm.2.2.2.2.2.2.2.1]
      refine pk_le 16 (k * sSz sp) (fun c => by omega) (fun _ => ⟨_, c_bookOf (show sCb sp < 8 by omega), ?_⟩)
      rintro r4 m3 ⟨rfl, rfl⟩
      refine ⟨bk_j (by omega), _, c_nxt (by omega) (hSm.2.2.2.2.2.2.2.2.2 _ hcb) hr.1, ?_⟩
      rintro r8 m7 ⟨f7, hx⟩
      have hf7 : fm [7, N] μ m7 := hf.tr (f7.mono (by simp))
      have hS7 : cS m7 sp := hS.fr (fun c h1 h2 => (hf7 c (by simp; omega)).1)
      have hN7 : ∀ x, x < 16 → m7.1 N x = iI ((rsF sp pk s0 k).2 x) := fun x hx => by rw [(f7 N (by simp; omega)).1]; exact hr.2 x hx
      cases hs : (rsF sp pk s0 k).1 with
      | none =>
        have he : nx sp (sCb sp) pk ((rsF sp pk s0 k).1.getD (8 * pk.length)) = none := by rw [hs]; exact nx_end
        rcases hx with ⟨e, d2, h1, h2, h3⟩ | ⟨h1, h2, h3⟩
        · rw [he] at h1; cases h1
        · rw [h2]
          refine ⟨fun _ => ⟨hf7, ?_⟩, fun c => absurd (by decide) c⟩
          rw [rsF_n hs K (by omega)]
          exact ⟨by rw [hs]; exact h3, hN7⟩
      | some p =>
        rw [hs] at hx
        rcases hx with ⟨e, d2, h1, h2, h3⟩ | ⟨h1, h2, h3⟩
        · have hnb := nx_b h1
          have hme : e % sCn sp < sCn sp := Nat.mod_lt _ (by omega)
          have hst : rsF sp pk s0 (k + 1) = _ := rsS_s hs h1
          have hcl : sCl sp (e % sCn sp) < 16 := nv_lt sp _ 4
          rw [h2, hS7.2.2.2.2.2.2.1, hS7.2.2.2.2.2.1]
          refine ⟨fun c => absurd c (n0 (by omega)), fun _ => pk_le 1 (sCn sp) (fun _ => ⟨nI_ne0 (by omega) (by omega), fun x13 e13 => ?_⟩) (fun c => by omega)⟩
          rw [pk_rem (by omega) (by omega) (by omega)] at e13
          rw [e13, cl (show e % sCn sp < 2 ^ 31 by omega), hS7.2.2.2.2.2.2.2.2.1 _ hme]
          refine pk_le 4 (e % sCn sp) (fun c => by omega) (fun _ => ⟨vin (by omega) (by decide), pk_le 8 (sCl sp (e % sCn sp)) (fun c x19 e19 => ?_) (fun c => ⟨_, c_bookOf c, ?_⟩)⟩)
          · rw [maxI (by omega) (by omega), nI_add, show k * sSz sp + sSz sp = (k + 1) * sSz sp by rw [Nat.add_mul, Nat.one_mul]] at e19
            rw [e19]
            rw [if_pos c] at hst
            exact ih (k + 1) m7 (by omega) hf7 (by rw [hst]; exact ⟨h3, hN7⟩)
          · rintro r22 m21 ⟨rfl, rfl⟩
            obtain ⟨o1, o2, o3⟩ := cl_ok hok hme c
            refine ⟨bk_j c, _, c_learnPart hS7 o1 o2 o3 (by omega) hN hN9 (s0 := (some (p + d2), (rsF sp pk s0 k).2)) ⟨h3, hN7⟩, ?_⟩
            rintro m25 ⟨f25, h25⟩ x28 e28
            have hf25 := hf7.tr f25
            have hS25 : cS m25 sp := hS.fr (fun c h1 h2 => (hf25 c (by simp; omega)).1)
            rw [hS25.2.2.2.2.2.1, maxI (by omega) (by omega), nI_add, show k * sSz sp + sSz sp = (k + 1) * sSz sp by rw [Nat.add_mul, Nat.one_mul]] at e28
            rw [e28]
            rw [if_neg (by omega)] at hst
            exact ih (k + 1) m25 (by omega) hf25 (by rw [hst]; exact h25)
        · have hst : rsF sp pk s0 (k + 1) = (none, (rsF sp pk s0 k).2) := rsS_e hs h1
          rw [h2]
          refine ⟨fun _ => ⟨hf7, ?_⟩, fun c => absurd (by decide) c⟩
          rw [rsF_n (by rw [hst]) K (show k + 1 ≤ K by omega), hst]
          exact ⟨h3, hN7⟩
  refine g_X4_learnNumbers hN ?_
  have := loop K 0 μ (by omega) fm.rf h0
  rw [Nat.zero_mul] at this
  exact this
