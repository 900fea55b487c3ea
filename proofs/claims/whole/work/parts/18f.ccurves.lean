/-! ===== the curves of all channels ===== -/
noncomputable def cvP (sp pk : List Int32) : Nat → Option Nat
  | 0 => some 0
  | c + 1 => match cvP sp pk c with
    | none => none
    | some a => crE sp pk a
noncomputable def cvA (sp pk : List Int32) (c : Nat) : Nat := (cvP sp pk c).getD 0
theorem cvP_s {sp pk : List Int32} {c a : Nat} (h : cvP sp pk c = some a) : cvP sp pk (c + 1) = crE sp pk a ∧ cvA sp pk c = a := by
  constructor
  · show (match cvP sp pk c with | none => none | some a => crE sp pk a) = _
    rw [h]
  · unfold cvA
    rw [h]
    rfl
theorem cvP_n {sp pk : List Int32} {c : Nat} (h : cvP sp pk c = none) : ∀ j, c ≤ j → cvP sp pk j = none := by
  intro j hj
  induction hj with
  | refl => exact h
  | @step m h2 ih =>
    show (match cvP sp pk m with | none => none | some a => crE sp pk a) = _
    rw [ih]
/-- what a channel's voice holds of its curve -/
def cVo (m : xm_M) (sp pk : List Int32) (c : Nat) : Prop := m.1 (65 + 5 * c) 0 = nI (if bb pk (cvA sp pk c) = 0 then 1 else 0) ∧ (¬ bb pk (cvA sp pk c) = 0 → ∀ x, x < 16 → m.1 (65 + 5 * c + 1) x = nI (crH sp pk (cvA sp pk c) x))
theorem c_learnCurves {μ : xm_M} {sp pk : List Int32} (hok : sOK sp) (hS : cS μ sp) (h07 : μ.1 0 7 = nI (sC sp)) (hI : bP μ pk 0) : xCi true true k_X8_learnCurves μ [.ref 0] (fun r m => fm [7, 57, 58, 65, 66, 70, 71] μ m ∧ ((r = nI 0 ∧ cvP sp pk (sC sp) = none) ∨ (r = nI 1 ∧ ∃ p, cvP sp pk (sC sp) = some p ∧ bR m pk p ∧ ∀ c, c < sC sp → cVo m sp pk c))) := by
  generalize hQ : (fun (r : Int32) (m : xm_M) => fm [7, 57, 58, 65, 66, 70, 71] μ m ∧ ((r = nI 0 ∧ cvP sp pk (sC sp) = none) ∨ (r = nI 1 ∧ ∃ p, cvP sp pk (sC sp) = some p ∧ bR m pk p ∧ ∀ c, c < sC sp → cVo m sp pk c))) = Q
  have hC := sC_b sp
  have hR := sR_b sp
  have m7 : ∀ {m m' : xm_M}, fm [7] m m' → fm [7, 57, 58, 65, 66, 70, 71] m m' := fun h => h.mono (by decide)
  have mL : ∀ {m m' : xm_M}, fm [7, 57, 58] m m' → fm [7, 57, 58, 65, 66, 70, 71] m m' := fun h => h.mono (by decide)
  have no : ∀ m : xm_M, fm [7, 57, 58, 65, 66, 70, 71] μ m → cvP sp pk (sC sp) = none → Q (nI 0) m := fun m h1 h2 => by rw [← hQ]; exact ⟨h1, Or.inl ⟨rfl, h2⟩⟩
  have loop : ∀ (d c p : Nat) (m : xm_M), c + d = sC sp → cvP sp pk c = some p → bR m pk p → fm [7, 57, 58, 65, 66, 70, 71] μ m → (∀ i, i < c → cVo m sp pk i) → hd_X8_learnCurves_2 Q (nI c) m := by
    intro d
    induction d with
    | zero =>
      intro c p m hc hp hb hf hv
      have hcn : c = sC sp := by omega
      apply l_X8_learnCurves_2
      refine pk_le (sC sp) c (fun _ => ?_) (fun c => by omega) (by rw [(hf 0 (by decide)).1]; exact h07)
      rw [← hQ]
      rw [hcn] at hp hv
      exact ⟨hf, Or.inr ⟨rfl, p, hp, hb, hv⟩⟩
    | succ d ih =>
      intro c p m hc hp hb hf hv
      obtain ⟨hcs, hca⟩ := cvP_s hp
      have hb2 := bb_lt pk p
      apply l_X8_learnCurves_2
      refine pk_le (sC sp) c (fun c => by omega) (fun _ => pk_le 2 c (fun c => by omega) (fun _ => ⟨vin (by omega) (by decide), fun V hV eV => ⟨_, v_bit hb.P, ?_⟩⟩)) (by rw [(hf 0 (by decide)).1]; exact h07)
      rw [cl (show c < 2 ^ 31 by omega)] at eV
      have hVm : V ∈ [7, 57, 58, 65, 66, 70, 71] := by rcases hV with rfl | rfl <;> decide
      have hV1 : V + 1 ∈ [7, 57, 58, 65, 66, 70, 71] := by rcases hV with rfl | rfl <;> decide
      have hVb : 65 ≤ V := by rcases hV with rfl | rfl <;> decide
      rintro r7 m6 ⟨f6, e6, p6⟩
      rw [e6]
      have hf6 := hf.tr (m7 f6)
      have keep : ∀ m' : xm_M, (∀ k, k ≠ V → k ≠ V + 1 → 59 ≤ k → m'.1 k = m.1 k) → ∀ i, i < c → cVo m' sp pk i := by
        intro m' hk i hi
        obtain ⟨g1, g2⟩ := hv i hi
        exact ⟨by rw [hk _ (by omega) (by omega) (by omega)]; exact g1, fun h x hx => by rw [hk _ (by omega) (by omega) (by omega)]; exact g2 h x hx⟩
      refine rdv_br (by decide) (fun c1 => ?_) (fun c1 => no m6 hf6 (cvP_n (by rw [hcs]; unfold crE; rw [if_pos c1]) _ (by omega)))
      rw [rdv_ok c1, nv_1]
      have p6' := p6.R c1
      refine ⟨fun cb m11 e11 => ⟨fun cx => absurd (by rw [e11, ri_e, upd_e]; exact nI_0) cx, fun _ => ?_⟩, fun cb m24 e24 => ⟨fun _ x26 e26 => ?_, fun cx => absurd cx (by rw [e24, ri_e, upd_e]; decide)⟩⟩
      · have hbb : ¬ bb pk p = 0 := fun h => cb (by rw [h]; exact nI_0)
        have hf11 : fm [7, 57, 58, 65, 66, 70, 71] μ m11 := by rw [e11]; exact hf6.I hVm
        have hS11 : cS m11 sp := hS.fr (fun k h1 h2 => (hf11 k (by simp; omega)).1)
        have p11 : bP m11 pk (p + 1) := p6.fr (by rw [e11, ri_n (by omega)]) (by rw [e11, ri_n (by omega)])
        refine ⟨_, c_cvlearn hok hS11 p11, ?_⟩
        rintro r16 m15 ⟨f15, ⟨g1, g2⟩ | ⟨g1, g2, p', g3, g4, g5⟩⟩
        · rw [g1]
          refine ⟨fun cx => absurd nI_0 cx, fun _ => no m15 (hf11.tr (mL f15)) (cvP_n ?_ _ (by omega : c + 1 ≤ sC sp))⟩
          rw [hcs]
          unfold crE
          rw [if_neg (by omega), if_neg hbb]
          rcases g2 with g2 | g2
          · rw [if_pos g2]
          · by_cases ho : 8 * pk.length < p + 1 + 2 * sRb sp
            · rw [if_pos ho]
            · rw [if_neg ho]; exact g2
        · rw [g1]
          refine ⟨fun _ => ?_, fun cx => absurd cx (by decide)⟩
          have hf15 := hf11.tr (mL f15)
          have hS15 : cS m15 sp := hS.fr (fun k h1 h2 => (hf15 k (by simp; omega)).1)
          have hlt := cSt_lt hok (v := pVl sp pk (p + 1 + 2 * sRb sp)) (cy0_lt sp pk (p + 1)) (cy0_lt sp pk (p + 1 + sRb sp)) (sPn sp) (Nat.le_refl _)
          refine ⟨_, c_draw (s := cFin sp pk (p + 1)) hok (sv_1 hV) (by omega) hS15 g5 (fun i => Nat.lt_of_lt_of_le (hlt i) hR.2) (cSt_D (sPn sp)), ?_⟩
          rintro m20 ⟨f20, h20⟩ x23 e23
          rw [e23, nI_add]
          have hf20 : fm [7, 57, 58, 65, 66, 70, 71] μ m20 := hf15.tr (f20.mono (fun k hk => by rw [List.mem_singleton] at hk; rw [hk]; exact hV1))
          have o20 : ∀ k, k ≠ V → k ≠ V + 1 → 59 ≤ k → m20.1 k = m.1 k := fun k h1 h2 h3 => by
            rw [(f20 k (by simpa using h2)).1, (f15 k (by simp; omega)).1, e11, ri_n h1, (f6 k (by simp; omega)).1]
          refine ih (c + 1) p' m20 (by omega) ?_ ?_ hf20 (lt_s (keep m20 o20) ?_)
          · rw [hcs]
            unfold crE
            rw [if_neg (by omega), if_neg hbb, if_neg (by omega)]
            exact g3
          · exact g4.fr (f20 7 (by simp; omega)).1 (f20 2 (by simp; omega)).1
          · unfold cVo
            rw [hca, ← eV]
            refine ⟨?_, fun _ x hx => by rw [h20 x hx]; rfl⟩
            rw [if_neg hbb, (f20 V (by simp)).1, (f15 V (by simp; omega)).1, e11, ri_e, upd_e]
      · have hbb : bb pk p = 0 := (neq0 (by omega)).mp cb
        have hf24 : fm [7, 57, 58, 65, 66, 70, 71] μ m24 := by rw [e24]; exact hf6.I hVm
        rw [e26, nI_add]
        have o24 : ∀ k, k ≠ V → k ≠ V + 1 → 59 ≤ k → m24.1 k = m.1 k := fun k h1 h2 h3 => by
          rw [e24, ri_n h1, (f6 k (by simp; omega)).1]
        refine ih (c + 1) (p + 1) m24 (by omega) ?_ (p6'.fr (by rw [e24, ri_n (by omega)]) (by rw [e24, ri_n (by omega)])) hf24 (lt_s (keep m24 o24) ?_)
        · rw [hcs]
          unfold crE
          rw [if_neg (by omega), if_pos hbb]
        · unfold cVo
          rw [hca, ← eV]
          refine ⟨?_, fun h => absurd hbb h⟩
          rw [if_pos hbb, e24, ri_e, upd_e]
  apply g_X8_learnCurves
  exact loop (sC sp) 0 0 μ (by omega) rfl (hI.R (Nat.zero_le _)) fm.rf (fun i hi => by omega)
