/-! ===== the class's curve ===== -/
theorem cS.fr {μ μ' : xm_M} {sp : List Int32} (h : cS μ sp) (hc : ∀ c, 9 ≤ c → c ≤ 55 → μ'.1 c = μ.1 c) : cS μ' sp := by
  obtain ⟨a1, a2, a3, ⟨p1, p2, p3, p4⟩, a5, a6, a7, a8, a9, a10⟩ := h
  have h9 := hc 9 (by decide) (by decide)
  have hBn := sBn_b sp
  refine ⟨by rw [h9]; exact a1, by rw [h9]; exact a2, by rw [h9]; exact a3, ⟨by rw [h9]; exact p1, fun k hk => by rw [hc 10 (by decide) (by decide)]; exact p2 k hk, fun k h2 hk => by rw [hc 11 (by decide) (by decide), hc 12 (by decide) (by decide)]; exact p3 k h2 hk, fun x hx => by rw [hc 13 (by decide) (by decide)]; exact p4 x hx⟩, by rw [h9]; exact a5, by rw [h9]; exact a6, by rw [h9]; exact a7, by rw [h9]; exact a8, fun k hk => by rw [hc 14 (by decide) (by decide)]; exact a9 k hk, fun j hj => (a10 j hj).fr (hc _ (by omega) (by omega)) (hc _ (by omega) (by omega)) (hc _ (by omega) (by omega))⟩
theorem c_nextPost {μ : xm_M} {sp pk : List Int32} {a : Nat} (hok : sOK sp) (hS : cS μ sp) (hI : bR μ pk a) : xCi true true k_X4_nextPost μ [.ref 9, .ref 7] (fun r m => fm [7] μ m ∧ ((∃ e d, nx sp (sPb sp) pk a = some (e, d) ∧ r = nI e ∧ bR m pk (a + d)) ∨ (nx sp (sPb sp) pk a = none ∧ r = -1 ∧ bR m pk (8 * pk.length)))) := by
  have hBn := sBn_b sp
  have hpb := hok.1
  obtain ⟨a1, a2, a3, a4, a5, a6, a7, a8, a9, a10⟩ := hS
  apply g_X4_nextPost
  rw [a5]
  refine ⟨_, c_bookOf (show sPb sp < 8 by omega), ?_⟩
  rintro r3 m2 ⟨rfl, rfl⟩
  exact ⟨bk_j (by omega), _, c_nxt (by omega) (a10 _ hpb) hI, fun r7 m6 h => h⟩
noncomputable def pCh (sp pk : List Int32) (a : Nat) : Nat → Option Nat
  | 0 => some a
  | j + 1 => match pCh sp pk a j with
    | none => none
    | some p => match nx sp (sPb sp) pk p with
      | none => none
      | some q => some (p + q.2)
noncomputable def pVl (sp pk : List Int32) (a j : Nat) : Nat := match pCh sp pk a j with
  | none => 0
  | some p => match nx sp (sPb sp) pk p with
    | none => 0
    | some q => q.1
theorem pCh_s {sp pk : List Int32} {a j p e d : Nat} (h : pCh sp pk a j = some p) (h2 : nx sp (sPb sp) pk p = some (e, d)) : pCh sp pk a (j + 1) = some (p + d) ∧ pVl sp pk a j = e := by
  constructor
  · show (match pCh sp pk a j with | none => none | some p => match nx sp (sPb sp) pk p with | none => none | some q => some (p + q.2)) = _
    rw [h]
    show (match nx sp (sPb sp) pk p with | none => none | some q => some (p + q.2)) = _
    rw [h2]
  · unfold pVl
    rw [h]
    show (match nx sp (sPb sp) pk p with | none => 0 | some q => q.1) = _
    rw [h2]
theorem pCh_n {sp pk : List Int32} {a j p : Nat} (h : pCh sp pk a j = some p) (h2 : nx sp (sPb sp) pk p = none) : pCh sp pk a (j + 1) = none := by
  show (match pCh sp pk a j with | none => none | some p => match nx sp (sPb sp) pk p with | none => none | some q => some (p + q.2)) = _
  rw [h]
  show (match nx sp (sPb sp) pk p with | none => none | some q => some (p + q.2)) = _
  rw [h2]
theorem pCh_up {sp pk : List Int32} {a k : Nat} (h : pCh sp pk a k = none) : ∀ j, k ≤ j → pCh sp pk a j = none := by
  intro j hj
  induction hj with
  | refl => exact h
  | @step m h2 ih =>
    show (match pCh sp pk a m with | none => none | some p => match nx sp (sPb sp) pk p with | none => none | some q => some (p + q.2)) = _
    rw [ih]
theorem pVl_b (sp pk : List Int32) (a j : Nat) : pVl sp pk a j < 64 := by
  unfold pVl
  split
  · decide
  · split
    · decide
    · rename_i q hq
      exact (nx_b (e := q.1) (d := q.2) hq).1
/-- the ends' heights -/
def cy0 (sp pk : List Int32) (a : Nat) : Nat := min (nv pk a (sRb sp)) (sR sp - 1)
noncomputable def cFin (sp pk : List Int32) (a : Nat) : (Nat → Nat) × (Nat → Bool) := cSt sp (cy0 sp pk a) (cy0 sp pk (a + sRb sp)) (pVl sp pk (a + 2 * sRb sp)) (sPn sp)
theorem cy0_lt (sp pk : List Int32) (a : Nat) : cy0 sp pk a < sR sp := by
  have := sR_b sp
  unfold cy0
  omega
theorem tab4 (sp : List Int32) : (xs_tab 4).getD (sMu sp - 1) 0 = nI (sRb sp) := by
  unfold sRb
  rcases sMu_4 sp with h | h | h | h <;> rw [h] <;> decide +kernel
theorem tab3 (sp : List Int32) : (xs_tab 3).getD (sMu sp - 1) 0 = nI (sR sp) := by
  unfold sR
  rcases sMu_4 sp with h | h | h | h <;> rw [h] <;> decide +kernel
theorem c_cvlearn {μ : xm_M} {sp pk : List Int32} {a : Nat} (hok : sOK sp) (hS : cS μ sp) (hI : bP μ pk a) : xCi true true k_X2_learn μ [.ref 56, .ref 9, .ref 7] (fun r m => fm [7, 57, 58] μ m ∧ ((r = nI 0 ∧ (8 * pk.length < a + 2 * sRb sp ∨ pCh sp pk (a + 2 * sRb sp) (sPn sp) = none)) ∨ (r = nI 1 ∧ a + 2 * sRb sp ≤ 8 * pk.length ∧ ∃ p, pCh sp pk (a + 2 * sRb sp) (sPn sp) = some p ∧ bR m pk p ∧ cYD m (sPn sp + 2) (cFin sp pk a)))) := by
  generalize hQ : (fun (r : Int32) (m : xm_M) => fm [7, 57, 58] μ m ∧ ((r = nI 0 ∧ (8 * pk.length < a + 2 * sRb sp ∨ pCh sp pk (a + 2 * sRb sp) (sPn sp) = none)) ∨ (r = nI 1 ∧ a + 2 * sRb sp ≤ 8 * pk.length ∧ ∃ p, pCh sp pk (a + 2 * sRb sp) (sPn sp) = some p ∧ bR m pk p ∧ cYD m (sPn sp + 2) (cFin sp pk a)))) = Q
  have hR := sR_b sp
  have hRb := sRb_b sp
  have hMu := sMu_b sp
  have hPn := sPn_b sp
  have m7 : ∀ {m m' : xm_M}, fm [7] m m' → fm [7, 57, 58] m m' := fun h => h.mono (by decide)
  have mY : ∀ {m m' : xm_M}, fm [57, 58] m m' → fm [7, 57, 58] m m' := fun h => h.mono (by decide)
  have hSf : ∀ {m : xm_M}, fm [7, 57, 58] μ m → cS m sp := fun h => hS.fr (fun c h1 h2 => (h c (by simp; omega)).1)
  apply g_X2_learn
  intro x1 e1
  rw [hS.2.1, pk_sub (by omega), pk_andN (by omega) 2 (by decide +kernel), Nat.mod_eq_of_lt (show sMu sp - 1 < 2 ^ 2 by omega)] at e1
  rw [e1, cl (show sMu sp - 1 < 2 ^ 31 by omega), tab4, tab3]
  refine ⟨vin (by omega) (by decide), _, v_number (sRb sp) hRb.2 (by omega) hI, ?_⟩
  rintro r5 m4 ⟨f4, e4, p4⟩
  refine ⟨vin (by omega) (by decide), _, v_number (sRb sp) hRb.2 (by omega) p4, ?_⟩
  rintro r10 m9 ⟨f9, e9, p9⟩
  have hf9 : fm [7, 57, 58] μ m9 := (m7 f4).tr (m7 f9)
  rw [e9]
  refine rdv_br hRb.2 (fun c => ?_) (fun c => ?_)
  · rw [e4, rdv_ok (show a + sRb sp ≤ 8 * pk.length by omega), rdv_ok c, nb1, cl (show 0 < 2 ^ 31 by decide), cl (show 1 < 2 ^ 31 by decide), pk_sub (by omega)]
    have mn : ∀ w, w < 2 ^ 30 → (if nI (sR sp - 1) < nI w then nI (sR sp - 1) else nI w) = nI (min w (sR sp - 1)) := by
      intro w hw
      rcases Nat.lt_or_ge (sR sp - 1) w with h | h
      · rw [if_pos (nI_lt h (by omega)), Nat.min_eq_right (by omega)]
      · rw [if_neg (nI_nlt h (by omega)), Nat.min_eq_left h]
    have w1 := nv_31 pk a hRb.2
    have w2 := nv_31 pk (a + sRb sp) hRb.2
    rw [mn _ (by omega), mn _ (by omega)]
    refine ⟨vin (by omega) (by decide), vin (by decide) (by decide), fun m15 e15 => ⟨vin (by decide) (by decide), fun m17 e17 => ⟨vin (by decide) (by decide), fun m19 e19 => ⟨vin (by decide) (by decide), fun m21 e21 => ?_⟩⟩⟩⟩
    have hf21 : fm [7, 57, 58] μ m21 := by rw [e21, e19, e17, e15]; exact (((hf9.I (by decide)).I (by decide)).I (by decide)).I (by decide)
    have loop : ∀ (d j : Nat) (m : xm_M) (p : Nat), j + d = sPn sp → pCh sp pk (a + 2 * sRb sp) j = some p → bR m pk p → fm [7, 57, 58] μ m → cYD m (j + 2) (cSt sp (cy0 sp pk a) (cy0 sp pk (a + sRb sp)) (pVl sp pk (a + 2 * sRb sp)) j) → hd_X2_learn_92 Q (nI (sR sp)) (nI (j + 2)) m := by
      intro d
      induction d with
      | zero =>
        intro j m p hj hp hb hf hY
        have hjn : j = sPn sp := by omega
        apply l_X2_learn_92
        refine pk_le (sPn sp + 2) (j + 2) (fun _ => ?_) (fun c => by omega) (hSf hf).2.2.2.1.1
        rw [← hQ]
        rw [hjn] at hp hY
        exact ⟨hf, Or.inr ⟨rfl, by omega, p, hp, hb, hY⟩⟩
      | succ d ih =>
        intro j m p hj hp hb hf hY
        apply l_X2_learn_92
        refine pk_le (sPn sp + 2) (j + 2) (fun c => by omega) (fun _ => pk_le 17 (j + 2) (fun c => by omega) (fun _ => ⟨_, c_nextPost hok (hSf hf) hb, ?_⟩)) (hSf hf).2.2.2.1.1
        rintro r5 m4' ⟨f, ⟨e, d2, h1, h2, h3⟩ | ⟨h1, h2, h3⟩⟩
        · obtain ⟨g1, g2⟩ := pCh_s hp h1
          have hb2 := nx_b h1
          rw [h2]
          refine ⟨fun _ => ?_, fun c => absurd (n0' (by omega)) c⟩
          have hf4 := hf.tr (m7 f)
          have hY4 : cYD m4' (j + 2) (cSt sp (cy0 sp pk a) (cy0 sp pk (a + sRb sp)) (pVl sp pk (a + 2 * sRb sp)) j) := fun k hk => by
            rw [(f 57 (by decide)).1, (f 58 (by decide)).1]
            exact hY k hk
          rw [← g2]
          refine ⟨_, c_placePost hok (hSf hf4).2.2.2.1 (by omega) (cy0_lt _ _ _) (cy0_lt _ _ _) (pVl_b _ _ _ _) hY4, ?_⟩
          rintro m9' ⟨f9', hY9⟩ x12 e12
          rw [e12, nI_add]
          exact ih (j + 1) m9' (p + d2) (by omega) g1 (h3.fr (f9' 7 (by decide)).1 (f9' 2 (by decide)).1) (hf4.tr (mY f9')) hY9
        · rw [h2]
          refine ⟨fun c => absurd c (by decide), fun _ => ?_⟩
          rw [← hQ]
          exact ⟨hf.tr (m7 f), Or.inl ⟨rfl, Or.inr (pCh_up (pCh_n hp h1) _ (by omega))⟩⟩
    have p21 : bR m21 pk (a + 2 * sRb sp) := by
      have := p9.R (by omega)
      rw [show a + sRb sp + sRb sp = a + 2 * sRb sp by omega] at this
      exact this.fr (by rw [e21, ri_n (by decide), e19, ri_n (by decide), e17, ri_n (by decide), e15, ri_n (by decide)]) (by rw [e21, ri_n (by decide), e19, ri_n (by decide), e17, ri_n (by decide), e15, ri_n (by decide)])
    refine loop (sPn sp) 0 m21 _ (by omega) rfl p21 hf21 (fun k hk => ?_)
    have d57 : m21.1 57 = upd (upd (m9.1 57) 0 (nI (cy0 sp pk a))) 1 (nI (cy0 sp pk (a + sRb sp))) := by
      rw [e21, ri_n (by decide), e19, ri_n (by decide), e17, ri_e, e15, ri_e]
      rfl
    have d58 : m21.1 58 = upd (upd (m9.1 58) 0 (nI 1)) 1 (nI 1) := by
      rw [e21, ri_e, e19, ri_e, e17, ri_n (by decide), e15, ri_n (by decide)]
    rw [d57, d58]
    rcases (by omega : k = 0 ∨ k = 1) with rfl | rfl
    · rw [upd_n (by decide), upd_e, upd_n (by decide), upd_e]
      exact ⟨rfl, rfl⟩
    · rw [upd_e, upd_e]
      exact ⟨rfl, rfl⟩
  · rw [← hQ]
    exact ⟨hf9, Or.inl ⟨rfl, Or.inl (by omega)⟩⟩
-- heights
def NB (X : Nat → Nat) (D : Nat → Bool) (P x p q : Nat) : Prop := p < P ∧ q < P ∧ D p = true ∧ D q = true ∧ X p ≤ x ∧ x < X q ∧ (∀ i, i < P → D i = true → X i ≤ x → X i ≤ X p) ∧ ∀ i, i < P → D i = true → x < X i → X q ≤ X i
theorem NB_fn {X : Nat → Nat} {D : Nat → Bool} {P x p q p' q' : Nat} (hinj : ∀ i j, i < P → j < P → X i = X j → i = j) (h : NB X D P x p q) (h' : NB X D P x p' q') : p = p' ∧ q = q' := by
  obtain ⟨a1, a2, a3, a4, a5, a6, a7, a8⟩ := h
  obtain ⟨b1, b2, b3, b4, b5, b6, b7, b8⟩ := h'
  have := a7 p' b1 b3 b5
  have := b7 p a1 a3 a5
  have := a8 q' b2 b4 b6
  have := b8 q a2 a4 a6
  exact ⟨hinj p p' a1 b1 (by omega), hinj q q' a2 b2 (by omega)⟩
def hV (sp : List Int32) (s : (Nat → Nat) × (Nat → Bool)) (x p q : Nat) : Nat := min 255 (lnN (sX sp p) (s.1 p) (sX sp q) (s.1 q) x * sMu sp)
noncomputable def hF (sp : List Int32) (s : (Nat → Nat) × (Nat → Bool)) (x : Nat) : Nat := by
  classical
  exact if h : ∃ r : Nat × Nat, NB (sX sp) s.2 (sPn sp + 2) x r.1 r.2 then hV sp s x h.choose.1 h.choose.2 else 0
theorem hF_eq {sp : List Int32} (hok : sOK sp) {s : (Nat → Nat) × (Nat → Bool)} {x p q : Nat} (h : NB (sX sp) s.2 (sPn sp + 2) x p q) : hF sp s x = hV sp s x p q := by
  have hx : ∃ r : Nat × Nat, NB (sX sp) s.2 (sPn sp + 2) x r.1 r.2 := ⟨(p, q), h⟩
  unfold hF
  simp only [dif_pos hx]
  have := NB_fn (sInj hok) hx.choose_spec h
  rw [this.1, this.2]
theorem hV_le (sp : List Int32) (s : (Nat → Nat) × (Nat → Bool)) (x p q : Nat) : hV sp s x p q ≤ 255 := Nat.min_le_left _ _
theorem hF_le (sp : List Int32) (s : (Nat → Nat) × (Nat → Bool)) (x : Nat) : hF sp s x ≤ 255 := by
  by_cases hx : ∃ r : Nat × Nat, NB (sX sp) s.2 (sPn sp + 2) x r.1 r.2
  · unfold hF
    simp only [dif_pos hx]
    exact hV_le _ _ _ _ _
  · unfold hF
    simp only [dif_neg hx]
    decide
theorem cSt_D {sp : List Int32} {y0 y1 : Nat} {v : Nat → Nat} : ∀ j, (cSt sp y0 y1 v j).2 0 = true ∧ (cSt sp y0 y1 v j).2 1 = true
  | 0 => ⟨rfl, rfl⟩
  | j + 1 => by
    obtain ⟨h1, h2⟩ := cSt_D (sp := sp) (y0 := y0) (y1 := y1) (v := v) j
    by_cases h : v j = 0
    · rw [cSt_0 h]
      constructor
      · show (if 0 = j + 2 then false else _) = true
        rw [if_neg (by omega)]; exact h1
      · show (if 1 = j + 2 then false else _) = true
        rw [if_neg (by omega)]; exact h2
    · rw [cSt_1 h]
      constructor
      · show (if 0 = j + 2 ∨ _ then true else _) = true
        split
        · rfl
        · exact h1
      · show (if 1 = j + 2 ∨ _ then true else _) = true
        split
        · rfl
        · exact h2
theorem minI {w : Nat} (hw : w < 2 ^ 31) : (if nI w < nI 255 then nI w else nI 255) = nI (min 255 w) := by
  rcases Nat.lt_or_ge w 255 with h | h
  · rw [if_pos (nI_lt h (by decide)), Nat.min_eq_right (by omega)]
  · rw [if_neg (nI_nlt h hw), Nat.min_eq_left h]
theorem c_drawLine {b : Bool} {μ : xm_M} {sp : List Int32} {s : (Nat → Nat) × (Nat → Bool)} {N p q : Nat} (hN : xs_sh[N]? = some (.inr (.int, 16))) (hN9 : 58 < N) (hS : cS μ sp) (hY : cYD μ (sPn sp + 2) s) (hs : ∀ i, s.1 i < 256) (hp : p < sPn sp + 2) (hq : q < sPn sp + 2) (hpq : sX sp p < sX sp q) (hq16 : sX sp q ≤ 16) : xCv b b k_X2_drawLine μ [.ref 56, .ref 9, .int (nI p), .int (nI q), .ref N] (fun m => fm [N] μ m ∧ ∀ x, m.1 N x = if sX sp p ≤ x ∧ x < sX sp q then nI (hV sp s x p q) else μ.1 N x) := by
  have hPn := sPn_b sp
  have hMu := sMu_b sp
  have loop : ∀ (d x : Nat) (m : xm_M), x + d = sX sp q → sX sp p ≤ x → fm [N] μ m → (∀ z, m.1 N z = if sX sp p ≤ z ∧ z < x then nI (hV sp s z p q) else μ.1 N z) → hd_X2_drawLine_20 b (fun m => fm [N] μ m ∧ ∀ x, m.1 N x = if sX sp p ≤ x ∧ x < sX sp q then nI (hV sp s x p q) else μ.1 N x) N (nI p) (nI q) (nI (sX sp p)) (nI (sX sp q)) (nI x) m := by
    intro d
    induction d with
    | zero =>
      intro x m hx hpx hf hz
      have : x = sX sp q := by omega
      refine l_X2_drawLine_20 _ _ _ _ _ hN ?_
      refine pk_le (sX sp q) x (fun _ => ⟨hf, ?_⟩) (fun c => by omega)
      rw [← this]
      exact hz
    | succ d ih =>
      intro x m hx hpx hf hz
      refine l_X2_drawLine_20 _ _ _ _ _ hN ?_
      have g57 : m.1 57 = μ.1 57 := (hf 57 (by simp; omega)).1
      have g9 : m.1 9 = μ.1 9 := (hf 9 (by simp; omega)).1
      rw [cl (show p < 2 ^ 31 by omega), cl (show q < 2 ^ 31 by omega), g57, (hY p hp).1, (hY q hq).1]
      refine pk_le (sX sp q) x (fun c => by omega) (fun _ => ⟨fun c => absurd c (n0 (by omega)), fun _ => pk_le 16 x (fun c => by omega) (fun _ => ⟨vin (by omega) (by decide), vin (by omega) (by decide), _, c_line hpq hpx (by omega) (by omega) (hs p) (hs q), ?_⟩)⟩)
      rintro r8 m7 ⟨e8, rfl⟩
      refine ⟨vin (by omega) (by decide), fun m11 e11 x12 e12 => ?_⟩
      have hl : lnN (sX sp p) (s.1 p) (sX sp q) (s.1 q) x < 256 := lnN_lt hpx (by omega) (hs p) (hs q)
      have hw : lnN (sX sp p) (s.1 p) (sX sp q) (s.1 q) x * sMu sp < 2 ^ 31 := Nat.lt_of_le_of_lt (Nat.mul_le_mul (Nat.le_of_lt hl) hMu.2) (by decide)
      rw [cl (show x < 2 ^ 31 by omega), g9, hS.2.1, e8, pk_mul, minI hw] at e11
      rw [e12, nI_add]
      refine ih (x + 1) m11 (by omega) (by omega) (by rw [e11]; exact hf.I (by simp)) (fun z => ?_)
      rw [e11, ri_e]
      by_cases hzx : z = x
      · rw [hzx, upd_e, if_pos (by omega)]
        rfl
      · rw [upd_n hzx, hz z]
        by_cases h : sX sp p ≤ z ∧ z < x
        · rw [if_pos h, if_pos (by omega)]
        · rw [if_neg h, if_neg (by omega)]
  refine g_X2_drawLine _ _ hN ?_
  rw [cl (show p < 2 ^ 31 by omega), cl (show q < 2 ^ 31 by omega), hS.2.2.2.1.2.1 p hp, hS.2.2.2.1.2.1 q hq]
  refine ⟨vin (by omega) (by decide), vin (by omega) (by decide), ?_⟩
  exact loop (sX sp q - sX sp p) (sX sp p) μ (by omega) (Nat.le_refl _) fm.rf (fun z => by rw [if_neg (by omega)])
theorem c_draw {b : Bool} {μ : xm_M} {sp : List Int32} {s : (Nat → Nat) × (Nat → Bool)} {N : Nat} (hok : sOK sp) (hN : xs_sh[N]? = some (.inr (.int, 16))) (hN9 : 58 < N) (hS : cS μ sp) (hY : cYD μ (sPn sp + 2) s) (hs : ∀ i, s.1 i < 256) (hD : s.2 0 = true ∧ s.2 1 = true) : xCv b b k_X2_draw μ [.ref 56, .ref 9, .ref N] (fun m => fm [N] μ m ∧ ∀ x, x < 16 → m.1 N x = nI (hF sp s x)) := by
  have hPn := sPn_b sp
  have hX16 : ∀ k, k < sPn sp + 2 → sX sp k ≤ 16 := by
    intro k hk
    match k, hk with
    | 0, _ => exact Nat.zero_le _
    | 1, _ => exact Nat.le_refl _
    | k + 2, hk => exact Nat.le_of_lt (hok.2.2.1 k (by omega)).2.1
  have loop : ∀ (d x low : Nat) (m : xm_M), x + d = 17 → 1 ≤ x → low < sPn sp + 2 → s.2 low = true → sX sp low < x → (∀ i, i < sPn sp + 2 → s.2 i = true → sX sp i < x → sX sp i ≤ sX sp low) → fm [N] μ m → (∀ z, z < sX sp low → m.1 N z = nI (hF sp s z)) → hd_X2_draw_5 b (fun m => fm [N] μ m ∧ ∀ x, x < 16 → m.1 N x = nI (hF sp s x)) N (nI low) (nI x) m := by
    intro d
    induction d with
    | zero =>
      intro x low m hx h1 hl hDl hxl hmax hf hz
      refine l_X2_draw_5 _ _ hN ?_
      refine pk_le 17 x (fun _ => ⟨hf, fun z hz2 => hz z ?_⟩) (fun c => by omega)
      have : sX sp 1 ≤ sX sp low := hmax 1 (by omega) hD.2 (by rw [show sX sp 1 = 16 from rfl]; omega)
      rw [show sX sp 1 = 16 from rfl] at this
      omega
    | succ d ih =>
      intro x low m hx h1 hl hDl hxl hmax hf hz
      have g13 : m.1 13 = μ.1 13 := (hf 13 (by simp; omega)).1
      have g58 : m.1 58 = μ.1 58 := (hf 58 (by simp; omega)).1
      have hSm : cS m sp := hS.fr (fun c h1 h2 => (hf c (by simp; omega)).1)
      have hYm : cYD m (sPn sp + 2) s := fun k hk => by rw [(hf 57 (by simp; omega)).1, g58]; exact hY k hk
      refine l_X2_draw_5 _ _ hN ?_
      rw [cl (show x < 2 ^ 31 by omega), g13]
      have skip : (∀ i, i < sPn sp + 2 → s.2 i = true → sX sp i ≠ x) → ∀ x4 : Int32, x4 = nI x + nI 1 → hd_X2_draw_5 b (fun m => fm [N] μ m ∧ ∀ x, x < 16 → m.1 N x = nI (hF sp s x)) N (nI low) x4 m := by
        intro hno x4 e4
        rw [e4, nI_add]
        refine ih (x + 1) low m (by omega) (by omega) hl hDl (by omega) (fun i hi hDi hXi => ?_) hf hz
        have := hno i hi hDi
        exact hmax i hi hDi (by omega)
      refine pk_le 17 x (fun c => by omega) (fun _ => ⟨vin (by omega) (by decide), ?_⟩)
      rcases hS.2.2.2.1.2.2.2 x (by omega) with ⟨k, k1, k2, k3⟩ | ⟨k1, k2⟩
      · have hk0 : 0 < k := by
          rcases Nat.eq_zero_or_pos k with h | h
          · rw [h, show sX sp 0 = 0 from rfl] at k2
            omega
          · exact h
        rw [k3, cl (show k < 2 ^ 31 by omega), g58, (hY k k1).2]
        refine ⟨fun c => absurd c (nI_nle hk0 (by omega)), fun _ => pk_le 17 k (fun c => by omega) (fun _ => ⟨vin (by omega) (by decide), fun c => ?_, fun c => ?_⟩)⟩
        · refine skip (fun i hi hDi he => ?_)
          have hik := sInj hok i k hi k1 (by omega)
          rw [← hik, if_pos hDi] at c
          exact absurd c (by decide)
        · have hDk : s.2 k = true := by
            cases hsk : s.2 k with
            | true => rfl
            | false => rw [hsk] at c; exact absurd rfl c
          refine ⟨_, c_drawLine hN hN9 hSm hYm hs hl k1 (by omega) (hX16 k k1), ?_⟩
          rintro m11 ⟨f11, h11⟩ x14 e14
          rw [e14, nI_add]
          refine ih (x + 1) k m11 (by omega) (by omega) k1 hDk (by omega) (fun i hi hDi hXi => by omega) (hf.tr f11) (fun z hz2 => ?_)
          rw [h11 z]
          by_cases hzl : z < sX sp low
          · rw [if_neg (by omega)]
            exact hz z hzl
          · rw [if_pos (by omega), hF_eq hok ⟨hl, k1, hDl, hDk, by omega, by omega, fun i hi hDi hXi => hmax i hi hDi (by omega), fun i hi hDi hXi => ?_⟩]
            rcases Nat.lt_or_ge (sX sp i) x with h | h
            · have := hmax i hi hDi h
              omega
            · omega
      · rw [k2]
        exact ⟨fun _ => skip (fun i hi _ => k1 i hi), fun c => absurd (by decide) c⟩
  refine g_X2_draw hN ?_
  exact loop 16 1 0 μ rfl (by decide) (by omega) hD.1 (by rw [show sX sp 0 = 0 from rfl]; decide) (fun i hi _ hXi => by omega) fm.rf (fun z hz => by rw [show sX sp 0 = 0 from rfl] at hz; omega)
