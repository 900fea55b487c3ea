/-! ===== a sound of the reference ===== -/
def kT (μ m : xm_M) : Prop := (∀ c, c ≠ 75 → (c < 96 ∨ 105 ≤ c) → m.1 c = μ.1 c) ∧ (∀ k, k < 14 ∨ 17 < k → m.1 75 k = μ.1 75 k) ∧ ∀ c, c ≠ 98 → c ≠ 101 → c ≠ 103 → m.2.1 c = μ.2.1 c
theorem kT.tr {μ μ1 μ2 : xm_M} (h1 : kT μ μ1) (h2 : kT μ1 μ2) : kT μ μ2 := ⟨fun c a b => (h2.1 c a b).trans (h1.1 c a b), fun k a => (h2.2.1 k a).trans (h1.2.1 k a), fun c a b d => (h2.2.2 c a b d).trans (h1.2.2 c a b d)⟩
theorem kV.kT {μ m : xm_M} {c : Nat} (h : kV μ m c) : kT μ m := ⟨fun k a b => h.1 k a (by omega) (by omega) (by omega) (by omega), fun k a => h.2.1 k (by omega) (by omega), fun k a _ _ => h.2.2.2.1 k a⟩
theorem kW.kT {μ m : xm_M} {c : Nat} (h : kW μ m c) : kT μ m := ⟨fun k a _ => h.1 k a, fun k a => h.2.1 k (by omega) (by omega), fun k _ a _ => h.2.2.1 k a⟩
theorem kT.l {μ : xm_M} {c : Nat} {f : Nat → Int64} (hc : c = 101 ∨ c = 103) : kT μ (xu_L μ c f) := ⟨fun _ _ _ => rfl, fun _ _ => rfl, fun k _ a b => rl_n (by omega)⟩
theorem kT.i {μ : xm_M} {f : Nat → Int32} : kT μ (xu_I μ 102 f) := ⟨fun c _ b => ri_n (by omega), fun k _ => by rw [ri_n (by decide)], fun _ _ _ _ => rfl⟩
theorem mS.T {μ m : xm_M} {sp : List Int32} (h : mS μ sp) (hk : kT μ m) : mS m sp := h.fr (fun k _ _ => hk.2.1 k (by omega)) (fun c _ _ => hk.1 c (by omega) (by omega))
theorem c_msound {b : Bool} {μ : xm_M} {sp pk : List Int32} {K : Nat} (hok : sOK sp) (hS : mS μ sp) (hT : tabM μ) (hK : K < 60) (hl : pk.length ≤ 2000) (h80 : μ.1 80 K = nI pk.length) (h79 : ∀ j v, pk[j]? = some v → μ.1 79 (2000 * K + j) = v) : xCi b b k_X9_sound μ [.ref 75, .int (nI K)] (fun r m => kT μ m ∧ ((r = nI 0 ∧ cvP sp pk (sC sp) = none) ∨ (r = nI 1 ∧ cvP sp pk (sC sp) ≠ none ∧ ∀ c, c < sC sp → ∀ n, n < 32 → m.2.1 103 (32 * c + n) = hlv (fc sp pk c) n))) := by
  generalize hQ : (fun (r : Int32) (m : xm_M) => kT μ m ∧ ((r = nI 0 ∧ cvP sp pk (sC sp) = none) ∨ (r = nI 1 ∧ cvP sp pk (sC sp) ≠ none ∧ ∀ c, c < sC sp → ∀ n, n < 32 → m.2.1 103 (32 * c + n) = hlv (fc sp pk c) n))) = Q
  have hC := sC_b sp
  have hLe := sLe_b sp
  -- the curves' cells
  let CU : xm_M → Nat → Prop := fun m c => ∀ i, i < c → m.1 99 i = nI (if bb pk (cvA sp pk i) = 0 then 1 else 0) ∧ (¬ bb pk (cvA sp pk i) = 0 → ∀ x, x < 16 → m.2.1 98 (16 * i + x) = μ.2.1 77 (crH sp pk (cvA sp pk i) x))
  have e174 : cvP sp pk (sC sp) ≠ none → ∀ (d c : Nat) (m : xm_M), c + d = sC sp → kT μ m → CU m (sC sp) → (∀ i, i < sC sp → ∀ x, x < 16 → m.2.1 101 (16 * i + x) = lI (nF sp pk i x)) → (∀ i, i < c → ∀ n, n < 32 → m.2.1 103 (32 * i + n) = hlv (fc sp pk i) n) → hd_X9_sound_174 b Q (nI c) m := by
    intro hnn d
    induction d with
    | zero =>
      intro c m hc hk hcu hx hd
      have hcC : c = sC sp := by omega
      apply l_X9_sound_174
      refine pk_le (sC sp) c (fun _ => ?_) (fun c => by omega) (hS.T hk).1
      rw [← hQ]
      rw [hcC] at hd
      exact ⟨hk, Or.inr ⟨rfl, hnn, hd⟩⟩
    | succ d ih =>
      intro c m hc hk hcu hx hd
      have hTm : tabM m := fun k hk2 => by rw [hk.2.2 77 (by decide) (by decide) (by decide)]; exact hT k hk2
      obtain ⟨q1, q2⟩ := hcu c (by omega)
      apply l_X9_sound_174
      refine pk_le (sC sp) c (fun c => by omega) (fun _ => ⟨_, c_msums (by omega) hTm q1 (fun h x hx2 => by rw [hk.2.2 77 (by decide) (by decide) (by decide)]; exact q2 h x hx2) (hx c (by omega)), ?_⟩) (hS.T hk).1
      rintro m3 ⟨F, e3, hF⟩ x6 e6
      rw [e6, nI_add]
      refine ih (c + 1) m3 (by omega) (by rw [e3]; exact hk.tr (kT.l (Or.inr rfl))) (fun i hi => ?_) (fun i hi x hx2 => by rw [e3, rl_n (by decide)]; exact hx i hi x hx2) (lt_s (fun i hi n hn => ?_) (fun n hn => ?_))
      · rw [e3, rl_i, rl_n (by decide)]
        exact hcu i hi
      · rw [e3, rl_e, hF, if_neg (by omega)]
        exact hd i hi n hn
      · rw [e3, rl_e, hF, if_pos (by omega), show 32 * c + n - 32 * c = n by omega]
  have e91 : ∀ (p g : Nat), cvP sp pk (sC sp) = some p → g < 2 → (g = 1 ↔ anyP sp pk) → ∀ (d c : Nat) (m : xm_M), c + d = sC sp → kT μ m → CU m (sC sp) → (∃ a, mR m pk a (decide (rP sp pk c = none)) ∧ ∀ q, rP sp pk c = some q → a = q) → (∀ i, i < c → ∀ x, x < 16 → m.2.1 101 (16 * i + x) = lI (rN sp pk i x)) → (∀ i, c ≤ i → i < 2 → ∀ x, x < 16 → m.2.1 101 (16 * i + x) = lI 0) → hd_X9_sound_91 b Q (nI g) (nI c) m := by
    intro p g hp hg hga d
    have hnn : cvP sp pk (sC sp) ≠ none := by rw [hp]; exact fun h => by cases h
    induction d with
    | zero =>
      intro c m hc hk hcu hr hx hx0
      have hcC : c = sC sp := by omega
      have hSm := hS.T hk
      apply l_X9_sound_91
      rw [hSm.2.2.1]
      refine pk_le (sC sp) c (fun _ => ⟨fun cl0 => ?_, fun cl0 => ⟨fun cg => ?_, fun cg => ?_⟩⟩) (fun c => by omega) hSm.1
      · have hz : sLe sp = 0 := (neq0 (by omega)).mp cl0
        refine e174 hnn (sC sp) 0 m (by omega) hk hcu (fun i hi x hx2 => ?_) (fun i hi => by omega)
        rw [nF_n (by omega)]
        exact hx i (by omega) x hx2
      · have hz : g = 0 := (neq0 (by omega)).mp cg
        refine e174 hnn (sC sp) 0 m (by omega) hk hcu (fun i hi x hx2 => ?_) (fun i hi => by omega)
        rw [nF_n (fun h => by have := hga.mpr h.2; omega)]
        exact hx i (by omega) x hx2
      · have hl : sLe sp = 1 := by
          have : sLe sp ≠ 0 := fun h => cl0 (by rw [h]; exact nI_0)
          omega
        have hg1 : g = 1 := by
          have : g ≠ 0 := fun h => cg (by rw [h]; exact nI_0)
          omega
        have hc2 := hLe.2 hl
        have han := hga.mp hg1
        refine ⟨_, c_mleans (rN_b sp pk 0) (rN_b sp pk 1) (fun x hx2 => ?_) (fun x hx2 => ?_), ?_⟩
        · have := hx 0 (by omega) x hx2
          rw [Nat.mul_zero, Nat.zero_add] at this
          exact this
        · exact hx 1 (by omega) x hx2
        · rintro m5 ⟨F, e5, hF⟩
          refine e174 hnn (sC sp) 0 m5 (by omega) (by rw [e5]; exact hk.tr (kT.l (Or.inl rfl))) (fun i hi => by rw [e5, rl_i, rl_n (by decide)]; exact hcu i hi) (fun i hi x hx2 => ?_) (fun i hi => by omega)
          rw [nF_l ⟨hl, han⟩, e5, rl_e]
          rcases (by omega : i = 0 ∨ i = 1) with rfl | rfl
          · rw [Nat.mul_zero, Nat.zero_add]
            exact (hF x hx2).1
          · exact (hF x hx2).2
    | succ d ih =>
      intro c m hc hk hcu hr hx hx0
      have hSm := hS.T hk
      have vc : vp_in (nI c) 2 := vin (by omega) (by decide)
      have cc := cl (show c < 2 ^ 31 by omega)
      have skip : ¬ hrdP sp pk c → ∀ m12 : xm_M, m12 = xu_I m 102 (upd (m.1 102) c (nI 0)) → hd_X9_sound_151 b Q (nI g) (nI c) m12 := by
        intro hn m12 e12
        obtain ⟨q1, q2⟩ := rP_n hn
        obtain ⟨a, ha1, ha2⟩ := hr
        apply l_X9_sound_151
        intro x1 e1
        rw [e1, nI_add]
        refine ih (c + 1) m12 (by omega) (by rw [e12]; exact hk.tr kT.i) (fun i hi => by rw [e12, ri_l, ri_n (by decide)]; exact hcu i hi) ⟨a, by rw [q1, e12]; exact ha1.u (by decide) (by decide), by rw [q1]; exact ha2⟩ (lt_s (fun i hi x hx2 => by rw [e12, ri_l]; exact hx i hi x hx2) (fun x hx2 => ?_)) (fun i h1 h2 x hx2 => by rw [e12, ri_l]; exact hx0 i (by omega) h2 x hx2)
        rw [e12, ri_l, q2]
        exact hx0 c (Nat.le_refl _) (by omega) x hx2
      have hear : hrdP sp pk c → ∀ m12 : xm_M, m12 = xu_I m 102 (upd (m.1 102) c (nI 1)) → ((¬ (m12.1 75 17) = 0 → hd_X9_sound_151 b Q (nI g) (nI c) m12) ∧ ((m12.1 75 17) = 0 → ∃ Q16 : xm_M → Prop, xCv b b k_X9_rests m12 [.ref 75, .int (nI c)] Q16 ∧ ∀ m17 : xm_M, Q16 m17 → hd_X9_sound_151 b Q (nI g) (nI c) m17)) := by
        intro hh m12 e12
        obtain ⟨q1, q2⟩ := rP_h hh
        obtain ⟨a, ha1, ha2⟩ := hr
        have ha12 : mR m12 pk a (decide (rP sp pk c = none)) := by rw [e12]; exact ha1.u (by decide) (by decide)
        have hk12 : kT μ m12 := by rw [e12]; exact hk.tr kT.i
        rw [ha12.ov17]
        cases hrp : rP sp pk c with
        | none =>
          rw [hrp] at ha12 q1 q2
          have hch : rCh sp pk none = (none, fun _ => 0) := rsF_n (s0 := (none, fun _ => 0)) (k := 0) rfl _ (Nat.zero_le _)
          refine ⟨fun _ => ?_, fun cx => absurd cx (by decide)⟩
          apply l_X9_sound_151
          intro x1 e1
          rw [e1, nI_add]
          refine ih (c + 1) m12 (by omega) hk12 (fun i hi => by rw [e12, ri_l, ri_n (by decide)]; exact hcu i hi) ⟨a, by rw [q1, hch]; exact ha12, fun q hq => by rw [q1, hch] at hq; cases hq⟩ (lt_s (fun i hi x hx2 => by rw [e12, ri_l]; exact hx i hi x hx2) (fun x hx2 => ?_)) (fun i h1 h2 x hx2 => by rw [e12, ri_l]; exact hx0 i (by omega) h2 x hx2)
          rw [e12, ri_l, q2, hch]
          exact hx0 c (Nat.le_refl _) (by omega) x hx2
        | some q0 =>
          have haq := ha2 q0 hrp
          rw [hrp] at ha12 q1 q2
          refine ⟨fun cx => absurd (by exact nI_0) cx, fun _ => ?_⟩
          have h0 : mRS m12 c pk (some q0, fun _ => 0) := ⟨⟨a, ha12, fun q hq => by rw [haq]; exact Option.some.inj hq⟩, fun x hx2 => by rw [e12, ri_l]; exact hx0 c (Nat.le_refl _) (by omega) x hx2⟩
          refine ⟨_, c_mrests hok (hS.T hk12) (by omega) (p0 := q0) rfl h0, ?_⟩
          rintro m17 ⟨k17, h17⟩
          have h17' : mRS m17 c pk (rCh sp pk (some q0)) := h17
          apply l_X9_sound_151
          intro x1 e1
          rw [e1, nI_add]
          refine ih (c + 1) m17 (by omega) (hk12.tr k17.kT) (fun i hi => ?_) ?_ (lt_s (fun i hi x hx2 => ?_) (fun x hx2 => ?_)) (fun i h1 h2 x hx2 => ?_)
          · rw [k17.1 99 (by decide), k17.2.2.1 98 (by decide), e12, ri_l, ri_n (by decide)]
            exact hcu i hi
          · rw [q1]
            exact h17'.1
          · rw [k17.2.2.2 _ (by omega), e12, ri_l]
            exact hx i hi x hx2
          · rw [q2]
            exact h17'.2 x hx2
          · rw [k17.2.2.2 _ (by omega), e12, ri_l]
            exact hx0 i (by omega) h2 x hx2
      have n1 : ¬ nI 1 = 0 := by decide
      apply l_X9_sound_91
      rw [cc, hSm.2.2.1, nb0, nb1, (hcu c (by omega)).1]
      refine pk_le (sC sp) c (fun c => by omega) (fun _ => ⟨fun cl0 => ⟨vc, fun cs => ⟨vc, fun m12 e12 => ⟨vc, ?_⟩⟩, fun cs => ⟨vc, fun m21 e21 => ⟨vc, ?_⟩⟩⟩, fun cl0 => ⟨vc, fun m30 e30 => ⟨vc, ?_⟩⟩⟩) hSm.1
      · have hz : sLe sp = 0 := (neq0 (by omega)).mp cl0
        have hn : ¬ hrdP sp pk c := by
          rintro (⟨h, -⟩ | ⟨-, h⟩)
          · omega
          · have h' : ¬ bb pk (cvA sp pk c) = 0 := h
            exact cs (by rw [if_neg h']; exact nI_0)
        have g12 : m12.1 102 c = nI 0 := by rw [e12, ri_e, upd_e]
        rw [g12]
        exact ⟨fun _ => skip hn m12 e12, fun cx => absurd nI_0 cx⟩
      · have hz : sLe sp = 0 := (neq0 (by omega)).mp cl0
        have hh : hrdP sp pk c := Or.inr ⟨hz, fun h => by
          have h' : bb pk (cvA sp pk c) = 0 := h
          rw [if_pos h'] at cs
          exact absurd cs (by decide)⟩
        have g21 : m21.1 102 c = nI 1 := by rw [e21, ri_e, upd_e]
        rw [g21]
        exact ⟨fun cx => absurd cx n1, fun _ => hear hh m21 e21⟩
      · have hl1 : sLe sp = 1 := by
          have : sLe sp ≠ 0 := fun h => cl0 (by rw [h]; exact nI_0)
          omega
        rcases (by omega : g = 0 ∨ g = 1) with rfl | rfl
        · rw [nb0] at e30
          have hn : ¬ hrdP sp pk c := by
            rintro (⟨-, h⟩ | ⟨h, -⟩)
            · have := hga.mpr h
              omega
            · omega
          have g30 : m30.1 102 c = nI 0 := by rw [e30, ri_e, upd_e]
          rw [g30]
          exact ⟨fun _ => skip hn m30 e30, fun cx => absurd nI_0 cx⟩
        · rw [nb1] at e30
          have hh : hrdP sp pk c := Or.inl ⟨hl1, hga.mp rfl⟩
          have g30 : m30.1 102 c = nI 1 := by rw [e30, ri_e, upd_e]
          rw [g30]
          exact ⟨fun cx => absurd cx n1, fun _ => hear hh m30 e30⟩
  have e70 : ∀ (p g : Nat), cvP sp pk (sC sp) = some p → g < 2 → (g = 1 ↔ anyP sp pk) → ∀ (d k : Nat) (m : xm_M), k + d = 32 → kT μ m → CU m (sC sp) → mR m pk p false → (∀ i, i < k → m.2.1 101 i = 0) → hd_X9_sound_70 b Q (nI g) (nI k) m := by
    intro p g hp hg hga d
    induction d with
    | zero =>
      intro k m hk0 hk hcu hr hx
      apply l_X9_sound_70
      refine pk_le 32 k (fun _ => ?_) (fun c => by omega)
      have hp0 : rP sp pk 0 = some p := hp
      refine e91 p g hp hg hga (sC sp) 0 m (by omega) hk hcu ⟨p, by rw [hp0]; exact hr, fun q hq => by rw [hp0] at hq; exact Option.some.inj hq⟩ (fun i hi => by omega) (fun i _ hi x hx2 => ?_)
      rw [lI_0]
      exact hx _ (by omega)
    | succ d ih =>
      intro k m hk0 hk hcu hr hx
      apply l_X9_sound_70
      rw [cl (show k < 2 ^ 31 by omega)]
      refine pk_le 32 k (fun c => by omega) (fun _ => ⟨vin (by omega) (by decide), fun m3 e3 x4 e4 => ?_⟩)
      rw [e4, nI_add]
      refine ih (k + 1) m3 (by omega) (by rw [e3]; exact hk.tr (kT.l (Or.inl rfl))) (fun i hi => by rw [e3, rl_i, rl_n (by decide)]; exact hcu i hi) (by rw [e3]; exact hr) (lt_s (fun i hi => ?_) (by rw [e3, rl_e, updL_e]))
      rw [e3, rl_e, updL_n (by omega)]
      exact hx i hi
  have e35 : ∀ (p : Nat), cvP sp pk (sC sp) = some p → ∀ (d c g : Nat) (m : xm_M), c + d = sC sp → g < 2 → (g = 1 ↔ ∃ i, i < c ∧ ¬ silP sp pk i) → kT μ m → CU m (sC sp) → mR m pk p false → hd_X9_sound_35 b Q (nI g) (nI c) m := by
    intro p hp d
    induction d with
    | zero =>
      intro c g m hc hg hga hk hcu hr
      have hcC : c = sC sp := by omega
      rw [hcC] at hga
      apply l_X9_sound_35
      exact pk_le (sC sp) c (fun _ => e70 p g hp hg hga 32 0 m rfl hk hcu hr (fun i hi => by omega)) (fun c => by omega) (hS.T hk).1
    | succ d ih =>
      intro c g m hc hg hga hk hcu hr
      apply l_X9_sound_35
      rw [cl (show c < 2 ^ 31 by omega), (hcu c (by omega)).1]
      refine pk_le (sC sp) c (fun c => by omega) (fun _ => ⟨fun cg x3 e3 => ?_, fun cg => ⟨vin (by omega) (by decide), fun cs x6 e6 => ?_, fun cs x7 e7 => ?_⟩⟩) (hS.T hk).1
      · have hg1 : g = 1 := by
          have : g ≠ 0 := fun h => cg (by rw [h]; exact nI_0)
          omega
        obtain ⟨i, hi, hn⟩ := hga.mp hg1
        rw [e3, nI_add]
        exact ih (c + 1) 1 m (by omega) (by decide) ⟨fun _ => ⟨i, by omega, hn⟩, fun _ => rfl⟩ hk hcu hr
      · have hg0 : g = 0 := (neq0 (by omega)).mp cg
        have hs : silP sp pk c := by
          by_cases h : bb pk (cvA sp pk c) = 0
          · exact h
          · rw [if_neg h] at cs
            exact absurd nI_0 cs
        rw [e6, nI_add]
        refine ih (c + 1) 0 m (by omega) (by decide) ⟨fun h => by omega, fun ⟨i, hi, hn⟩ => ?_⟩ hk hcu hr
        exfalso
        by_cases hic : i = c
        · rw [hic] at hn; exact hn hs
        · have := hga.mpr ⟨i, by omega, hn⟩
          omega
      · have hs : ¬ silP sp pk c := fun h => by
          have h' : bb pk (cvA sp pk c) = 0 := h
          rw [if_pos h'] at cs
          exact absurd cs (by decide)
        rw [e7, nI_add]
        exact ih (c + 1) 1 m (by omega) (by decide) ⟨fun _ => ⟨c, by omega, hs⟩, fun _ => rfl⟩ hk hcu hr
  have e7 : ∀ (d c p : Nat) (m : xm_M), c + d = sC sp → cvP sp pk c = some p → kT μ m → CU m c → mR m pk p false → hd_X9_sound_7 b Q (nI c) m := by
    intro d
    induction d with
    | zero =>
      intro c p m hc hp hk hcu hr
      have hcC : c = sC sp := by omega
      rw [hcC] at hp hcu
      apply l_X9_sound_7
      exact pk_le (sC sp) c (fun _ => e35 p hp (sC sp) 0 0 m (by omega) (by decide) ⟨fun h => by omega, fun ⟨i, hi, _⟩ => by omega⟩ hk hcu hr) (fun c => by omega) (hS.T hk).1
    | succ d ih =>
      intro c p m hc hp hk hcu hr
      obtain ⟨hcs, hca⟩ := cvP_s hp
      apply l_X9_sound_7
      refine pk_le (sC sp) c (fun c => by omega) (fun _ => ⟨_, c_mcurve hok (hS.T hk) (by omega) hr, ?_⟩) (hS.T hk).1
      rintro r4 m3 ⟨k3, ⟨g1, g2⟩ | ⟨g1, p', g2, g3, g4, g5⟩⟩
      · rw [g1]
        refine ⟨fun cx => absurd nI_0 cx, fun _ => ?_⟩
        rw [← hQ]
        exact ⟨hk.tr k3.kT, Or.inl ⟨rfl, cvP_n (by rw [hcs]; exact g2) _ (by omega : c + 1 ≤ sC sp)⟩⟩
      · rw [g1]
        refine ⟨fun _ x7 e7 => ?_, fun cx => absurd cx (by decide)⟩
        rw [e7, nI_add]
        refine ih (c + 1) p' m3 (by omega) (by rw [hcs]; exact g2) (hk.tr k3.kT) (lt_s (fun i hi => ?_) ?_) g3
        · rw [k3.2.2.1 i (by omega)]
          exact ⟨(hcu i hi).1, fun h x hx => by rw [k3.2.2.2.2 _ (by omega)]; exact (hcu i hi).2 h x hx⟩
        · rw [hca]
          exact ⟨g4, fun h x hx => by rw [g5 h x hx, hk.2.2 77 (by decide) (by decide) (by decide)]⟩
  refine g_X9_sound _ ⟨_, c_mopens hK hl h80 h79, ?_⟩
  rintro m2 ⟨p2, g2, g2l, g2f⟩
  exact e7 (sC sp) 0 0 m2 (by omega) rfl ⟨fun c a _ => g2 c a, g2f, fun c _ _ _ => by rw [g2l]⟩ (fun i hi => by omega) (p2.R (Nat.zero_le _))
