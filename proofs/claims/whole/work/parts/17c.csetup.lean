/-! ===== the class's setup ===== -/
theorem c_bookOf {b : Bool} {μ : xm_M} {j : Nat} (hj : j < 8) : xCr b b k_X4_bookOf μ [.ref 9, .int (nI j)] (fun B m => B = 16 + 5 * j ∧ m = μ) := by
  apply g_X4_bookOf
  rw [pk_andN (show j < 2 ^ 32 by omega) 3 (by decide +kernel), Nat.mod_eq_of_lt (show j < 2 ^ 3 from hj), cl (by omega)]
  exact ⟨vin hj (by decide), fun B2 _ e => ⟨e, rfl⟩⟩
theorem bk_j {j : Nat} (hj : j < 8) : xs_bk (16 + 5 * j) := ⟨j, hj, rfl⟩
theorem bkH_b (pk : List Int32) (a : Nat) : bkH pk a < 2 := bb_lt pk _
theorem c_fcb {b : Bool} {μ : xm_M} {pk : List Int32} {v : Nat} (h9 : μ.1 9 9 = nI (sBn pk)) (hz : μ.1 9 11 = nI (sSz pk)) (hB : ∀ j, j < sBn pk → cB μ (16 + 5 * j) pk (bp pk j)) (hv : v < 16) : xCi b b k_X4_faultOfClassBook μ [.ref 9, .int (nI v)] (fun r m => r = nI (clF pk v) ∧ m = μ) := by
  have hBn := sBn_b pk
  have hsz := sSz_b pk
  apply g_X4_faultOfClassBook
  rw [h9]
  refine ⟨fun _ => pk_lt v 8 (fun c => pk_lt v (sBn pk) (fun c2 => ⟨_, c_bookOf c, ?_⟩) (fun c2 => ⟨?_, rfl⟩)) (fun c => ⟨?_, rfl⟩), fun c => absurd (n0' (by omega)) c⟩
  · rintro r6 m5 ⟨rfl, rfl⟩
    obtain ⟨b1, b2, b3, b4, b5⟩ := hB v c2
    have hw := bkW_b pk (bp pk v)
    have hh := bkH_b pk (bp pk v)
    refine ⟨bk_j c, ?_⟩
    rw [b4, b3, hz, pk_rem (show sSz pk < 2 ^ 31 by omega) (by omega) (by omega)]
    refine ⟨fun c3 => ⟨?_, rfl⟩, fun c3 => pk_lt (bkW pk (bp pk v)) 1 (fun c4 => by omega) (fun c4 => ⟨nI_ne0 (by omega) (by omega), ?_, ?_⟩)⟩
    · have := (neq0 (by omega)).mp c3
      unfold clF
      rw [if_neg (by omega), if_neg (by omega), if_pos this]
    · intro c5
      have h5 := (neq0 (Nat.lt_of_le_of_lt (Nat.mod_le _ _) (by omega))).mp c5
      have h3 : ¬ bkH pk (bp pk v) = 0 := fun h => c3 (by rw [h]; exact nI_0)
      refine ⟨?_, rfl⟩
      unfold clF
      rw [if_neg (by omega), if_neg (by omega), if_neg h3, if_pos h5]
    · intro c5
      have h5 : ¬ sSz pk % bkW pk (bp pk v) = 0 := fun h => c5 (by rw [h]; exact nI_0)
      have h3 : ¬ bkH pk (bp pk v) = 0 := fun h => c3 (by rw [h]; exact nI_0)
      refine ⟨?_, rfl⟩
      unfold clF
      rw [if_neg (by omega), if_neg (by omega), if_neg h3, if_neg h5]
  · unfold clF
    rw [if_neg (by omega), if_pos c2]
  · unfold clF
    rw [if_pos c]
theorem c_fcb1 {b : Bool} {μ : xm_M} : xCi b b k_X4_faultOfClassBook μ [.ref 9, .int (-1)] (fun r m => r = nI 2 ∧ m = μ) := by
  apply g_X4_faultOfClassBook
  exact ⟨fun c => absurd c (by decide), fun _ => ⟨rfl, rfl⟩⟩
theorem sh_1 {k : Nat} (hk : k < 4) : nI 1 <<< (nI k &&& 31) = nI (2 ^ k) := by
  have hs : ∀ k, k < 31 → ((nI k &&& 31).toBitVec.smod 32).toNat = k := by decide +kernel
  have : 2 ^ k ≤ 2 ^ 4 := Nat.pow_le_pow_right (by decide) (by omega)
  rw [pk_shlN (nI k &&& 31) k (hs k (by omega)) (by omega), Nat.one_mul]
theorem c_learnClasses {μ : xm_M} {pk : List Int32} (hI : bP μ pk (s3 pk)) (h9 : μ.1 9 9 = nI (sBn pk)) (hB : ∀ j, j < sBn pk → cB μ (16 + 5 * j) pk (bp pk j)) : xCi true true k_X4_learnClasses μ [.ref 9, .ref 7] (fun r μ' => fm [7, 9, 14] μ μ' ∧ (∀ k, k ≠ 11 → k ≠ 12 → k ≠ 13 → μ'.1 9 k = μ.1 9 k) ∧ r = nI (cF pk) ∧ (cF pk = 0 → bP μ' pk (s4 pk) ∧ μ'.1 9 11 = nI (sSz pk) ∧ μ'.1 9 12 = nI (sCn pk) ∧ μ'.1 9 13 = nI (sCb pk) ∧ ∀ k, k < sCn pk → μ'.1 14 k = nI (sCl pk k))) := by
  generalize hQ : (fun (r : Int32) (μ' : xm_M) => fm [7, 9, 14] μ μ' ∧ (∀ k, k ≠ 11 → k ≠ 12 → k ≠ 13 → μ'.1 9 k = μ.1 9 k) ∧ r = nI (cF pk) ∧ (cF pk = 0 → bP μ' pk (s4 pk) ∧ μ'.1 9 11 = nI (sSz pk) ∧ μ'.1 9 12 = nI (sCn pk) ∧ μ'.1 9 13 = nI (sCb pk) ∧ ∀ k, k < sCn pk → μ'.1 14 k = nI (sCl pk k))) = Q
  have hBn := sBn_b pk
  have hCn := sCn_b pk
  have hcb : sCb pk < 8 := nv_lt pk _ 3
  have mn : ∀ {m m' : xm_M}, fm [7] m m' → fm [7, 9, 14] m m' := fun h => h.mono (fun c hc => by simp at hc; simp [hc])
  have bad : ∀ (f : Nat) (m : xm_M), fm [7, 9, 14] μ m → (∀ k, k ≠ 11 → k ≠ 12 → k ≠ 13 → m.1 9 k = μ.1 9 k) → cF pk = f → f ≠ 0 → Q (nI f) m := by
    intro f m hm h1 h2 h3
    rw [← hQ]
    exact ⟨hm, h1, by rw [h2], fun h => absurd (h2.symm.trans h) h3⟩
  refine g_X4_learnClasses ⟨_, v_number 2 (by decide) (by decide) hI, ?_⟩
  rintro r3 m2 ⟨f2, e2, p2⟩
  refine ⟨_, v_number 2 (by decide) (by decide) p2, ?_⟩
  rintro r7 m6 ⟨f6, e6, p6⟩ m9 e9
  have p9 : bP m9 pk (s3 pk + 4) := p6.fr (by rw [e9, ri_n (by decide)]) (by rw [e9, ri_n (by decide)])
  have f9 : fm [7, 9, 14] μ m9 := by rw [e9]; exact ((mn f2).tr (mn f6)).I (by decide)
  refine ⟨_, v_number 3 (by decide) (by decide) p9, ?_⟩
  rintro r12 m11 ⟨f11, e11, p11⟩ m14 e14
  have f14 : fm [7, 9, 14] μ m14 := by rw [e14]; exact (f9.tr (mn f11)).I (by decide)
  have h14 : m14.1 9 = upd (upd (μ.1 9) 12 (r7 + nI 1)) 13 r12 := by rw [e14, ri_e, (f11 9 (by decide)).1, e9, ri_e, (f6 9 (by decide)).1, (f2 9 (by decide)).1]
  have o14 : ∀ k, k ≠ 11 → k ≠ 12 → k ≠ 13 → m14.1 9 k = μ.1 9 k := fun k a1 a2 a3 => by rw [h14, upd_n a3, upd_n a2]
  have h1413 : m14.1 9 13 = rdv pk (s3 pk + 4) 3 := by rw [h14, upd_e, e11]
  rw [h1413]
  refine rdv_br (by decide) (fun c m16 e16 => ?_) (fun c => bad 2 m14 f14 o14 (by unfold cF; rw [if_pos (by omega)]) (by decide))
  have f16 : fm [7, 9, 14] μ m16 := by rw [e16]; exact f14.I (by decide)
  have h16 : m16.1 9 = upd (m14.1 9) 11 (nI 1 <<< (r3 &&& 31)) := by rw [e16, ri_e]
  have o16 : ∀ k, k ≠ 11 → k ≠ 12 → k ≠ 13 → m16.1 9 k = μ.1 9 k := fun k a1 a2 a3 => by rw [h16, upd_n a1]; exact o14 k a1 a2 a3
  have g13 : m16.1 9 13 = nI (sCb pk) := by rw [h16, upd_n (by decide), h1413, rdv_ok c]; rfl
  have g12 : m16.1 9 12 = nI (sCn pk) := by rw [h16, upd_n (by decide), h14, upd_n (by decide), upd_e, e6, rdv_ok (by omega), nI_add]; rfl
  have g11 : m16.1 9 11 = nI (sSz pk) := by rw [h16, upd_e, e2, rdv_ok (by omega), sh_1 (nv_lt pk _ 2)]; rfl
  rw [g13, o16 9 (by decide) (by decide) (by decide), h9]
  refine pk_lt (sCb pk) (sBn pk) (fun c2 => ?_) (fun c2 => bad 5 m16 f16 o16 (by unfold cF; rw [if_neg (by omega), if_pos c2]) (by decide))
  have hcF : cF pk = cfl pk (sCn pk) := by unfold cF; rw [if_neg (by omega), if_neg (by omega)]
  have p16 : bP m16 pk (s3 pk + 4 + 3) := p11.fr (by rw [e16, ri_n (by decide), e14, ri_n (by decide)]) (by rw [e16, ri_n (by decide), e14, ri_n (by decide)])
  have loop : ∀ (d i : Nat) (m : xm_M), i + d = sCn pk → (cfl pk i = 0 → bP m pk (s3 pk + 7 + 4 * i) ∧ s3 pk + 7 + 4 * i ≤ 8 * pk.length ∧ ∀ k, k < i → m.1 14 k = nI (sCl pk k)) → fm [7, 9, 14] μ m → m.1 9 = m16.1 9 → hd_X4_learnClasses_60 Q (nI (cfl pk i)) (nI i) m := by
    intro d
    induction d with
    | zero =>
      intro i m hi h0 hf hm9
      have hin : i = sCn pk := by omega
      apply l_X4_learnClasses_60
      refine pk_le (sCn pk) i (fun _ => ?_) (fun c => by omega) (by rw [hm9]; exact g12)
      rw [← hQ]
      rw [hin] at h0 ⊢
      exact ⟨hf, fun k a1 a2 a3 => by rw [hm9]; exact o16 k a1 a2 a3, by rw [hcF], fun hz => ⟨(h0 (hcF.symm.trans hz)).1, by rw [hm9]; exact g11, by rw [hm9]; exact g12, by rw [hm9]; exact g13, (h0 (hcF.symm.trans hz)).2.2⟩⟩
    | succ d ih =>
      intro i m hi h0 hf hm9
      apply l_X4_learnClasses_60
      have hlt := cfl_8 pk i
      refine pk_le (sCn pk) i (fun c => by omega) (fun _ => pk_le 4 i (fun c => by omega) (fun _ => ⟨fun c => ?_, fun c => ?_⟩)) (by rw [hm9]; exact g12)
      · have hne : cfl pk i ≠ 0 := fun h => c (by rw [h]; exact nI_0)
        exact bad (cfl pk i) m hf (fun k a1 a2 a3 => by rw [hm9]; exact o16 k a1 a2 a3) (by rw [hcF, cfl_up hne _ (by omega)]) hne
      · have hz : cfl pk i = 0 := (neq0 (by omega)).mp c
        obtain ⟨hb, hl, hk⟩ := h0 hz
        refine ⟨_, v_number 4 (by decide) (by decide) hb, ?_⟩
        rintro r6 m5 ⟨f5, e5, p5⟩
        rw [cl (show i < 2 ^ 31 by omega)]
        refine ⟨vin (by omega) (by decide), fun m9' e9' => ⟨vin (by omega) (by decide), ?_⟩⟩
        have hf9 : fm [7, 9, 14] μ m9' := by rw [e9']; exact (hf.tr (mn f5)).I (by decide)
        have hm9' : m9'.1 9 = m16.1 9 := by rw [e9', ri_n (by decide), (f5 9 (by decide)).1, hm9]
        have h14' : m9'.1 14 i = rdv pk (s3 pk + 7 + 4 * i) 4 := by rw [e9', ri_e, upd_e, e5]
        rw [h14']
        rcases Nat.lt_or_ge (8 * pk.length) (s3 pk + 7 + 4 * (i + 1)) with hl2 | hl2
        · rw [rdv_no (by omega)]
          refine ⟨_, c_fcb1, ?_⟩
          rintro r13 m12 ⟨e13, rfl⟩ x15 e15
          have h2 : cfl pk (i + 1) = 2 := by rw [cfl_s, if_pos hz, if_pos hl2]
          rw [e13, e15, nI_add, ← h2]
          exact ih (i + 1) m12 (by omega) (fun h => by omega) hf9 hm9'
        · have hv : sCl pk i < 16 := nv_lt pk _ 4
          rw [rdv_ok (by omega)]
          have hfm : ∀ j, j < sBn pk → cB m9' (16 + 5 * j) pk (bp pk j) := fun j hj => (hB j hj).fr (hf9 _ (by simp; omega)).1 (hf9 _ (by simp; omega)).1 (hf9 _ (by simp; omega)).1
          refine ⟨_, c_fcb (v := sCl pk i) (by rw [hm9', o16 9 (by decide) (by decide) (by decide)]; exact h9) (by rw [hm9']; exact g11) hfm hv, ?_⟩
          rintro r13 m12 ⟨e13, rfl⟩ x15 e15
          have h2 : cfl pk (i + 1) = clF pk (sCl pk i) := by rw [cfl_s, if_pos hz, if_neg (by omega)]
          rw [e13, e15, nI_add, ← h2]
          refine ih (i + 1) m12 (by omega) (fun h => ⟨?_, by omega, lt_s (fun k hk2 => ?_) ?_⟩) hf9 hm9'
          · rw [show s3 pk + 7 + 4 * (i + 1) = s3 pk + 7 + 4 * i + 4 by omega]
            exact p5.fr (by rw [e9', ri_n (by decide)]) (by rw [e9', ri_n (by decide)])
          · rw [e9', ri_e, upd_n (by omega), (f5 14 (by decide)).1]
            exact hk k hk2
          · rw [h14', rdv_ok (by omega)]
            rfl
  exact loop (sCn pk) 0 m16 (by omega) (fun _ => ⟨by rw [show s3 pk + 7 + 4 * 0 = s3 pk + 4 + 3 by omega]; exact p16, by omega, fun k hk => by omega⟩) f16 rfl
theorem c_learnLeaning {μ : xm_M} {pk : List Int32} (hI : bP μ pk (s4 pk)) (h0 : μ.1 9 0 = nI (sC pk)) : xCi true true k_X4_learnLeaning μ [.ref 9, .ref 7] (fun r μ' => fm [7, 9] μ μ' ∧ (∀ k, k ≠ 2 → μ'.1 9 k = μ.1 9 k) ∧ r = nI (lF pk) ∧ (lF pk = 0 → μ'.1 9 2 = nI (sLe pk))) := by
  have hC := sC_b pk
  have hb := bb_lt pk (s4 pk)
  apply g_X4_learnLeaning
  intro m1 e1
  have f1 : fm [7, 9] μ m1 := by rw [e1]; exact fm.rf.I (by decide)
  have h1 : m1.1 9 0 = nI (sC pk) := by rw [e1, ri_e, upd_n (by decide)]; exact h0
  have o1 : ∀ k, k ≠ 2 → m1.1 9 k = μ.1 9 k := fun k hk => by rw [e1, ri_e, upd_n hk]
  rw [h1]
  refine ⟨fun c => ?_, fun c => ?_⟩
  · have hne : ¬ sC pk = 2 := fun h => c (by rw [h])
    refine ⟨f1, o1, by unfold lF; rw [if_neg hne], fun _ => ?_⟩
    unfold sLe
    rw [if_neg hne, e1, ri_e, upd_e]
  · have he : sC pk = 2 := nI_inj (by omega) (by decide) c
    refine ⟨_, v_number 1 (by decide) (by decide) (hI.fr (by rw [e1, ri_n (by decide)]) (by rw [e1, ri_n (by decide)])), ?_⟩
    rintro r5 m4 ⟨f4, e4, p4⟩
    have f4' : fm [7, 9] μ m4 := f1.tr (f4.mono (fun c hc => by simp at hc; simp [hc]))
    have o4 : ∀ k, k ≠ 2 → m4.1 9 k = μ.1 9 k := fun k hk => by rw [(f4 9 (by decide)).1]; exact o1 k hk
    rw [e4]
    refine rdv_br (by decide) (fun c2 => ?_) (fun c2 => ⟨f4', o4, by unfold lF; rw [if_pos he, if_pos (by omega)], fun h => ?_⟩)
    · have hl : lF pk = 0 := by unfold lF; rw [if_pos he, if_neg (by omega)]
      rw [rdv_ok c2, nv_1, hl]
      have hs : sLe pk = bb pk (s4 pk) := by unfold sLe; rw [if_pos he]
      refine ⟨fun c3 m9 e9 => ⟨by rw [e9]; exact f4'.I (by decide), fun k hk => by rw [e9, ri_e, upd_n hk]; exact o4 k hk, rfl, fun _ => ?_⟩, fun c3 m9 e9 => ⟨by rw [e9]; exact f4'.I (by decide), fun k hk => by rw [e9, ri_e, upd_n hk]; exact o4 k hk, rfl, fun _ => ?_⟩⟩
      · have : ¬ bb pk (s4 pk) = 1 := fun h => c3 (by rw [h])
        rw [e9, ri_e, upd_e, hs, show bb pk (s4 pk) = 0 by omega]
      · have : bb pk (s4 pk) = 1 := nI_inj (by omega) (by decide) c3
        rw [e9, ri_e, upd_e, hs, this]
    · unfold lF at h
      rw [if_pos he, if_pos (by omega)] at h
      omega
def lsS : List Nat := [7, 9, 10, 11, 12, 13, 14] ++ (List.range 40).map (fun i => i + 16)
theorem lsS_bk : ∀ j, j < 8 → ∀ c, c ∈ [7, 16 + 5 * j, 16 + 5 * j + 1, 16 + 5 * j + 2, 16 + 5 * j + 3, 16 + 5 * j + 4] → c ∈ lsS := by decide +kernel
theorem c_slearn {μ : xm_M} {pk : List Int32} (hI : bP μ pk 0) : xCi true true k_X4_learn μ [.ref 9, .ref 7] (fun r μ' => fm lsS μ μ' ∧ r = nI (sF pk) ∧ (sF pk = 0 → cS μ' pk)) := by
  generalize hQ : (fun (r : Int32) (μ' : xm_M) => fm lsS μ μ' ∧ r = nI (sF pk) ∧ (sF pk = 0 → cS μ' pk)) = Q
  have hBn := sBn_b pk
  have bad : ∀ (f : Nat) (m : xm_M), fm lsS μ m → sF pk = f → f ≠ 0 → Q (nI f) m := by
    intro f m hm h2 h3
    rw [← hQ]
    exact ⟨hm, by rw [h2], fun h => absurd (h2.symm.trans h) h3⟩
  have m7 : ∀ {m m' : xm_M}, fm [7] m m' → fm lsS m m' := fun h => h.mono (by decide)
  refine g_X4_learn ⟨_, v_number 8 (by decide) (by decide) hI, ?_⟩
  rintro r3 m2 ⟨f2, e2, p2⟩
  rw [e2]
  refine rdv_br (by decide) (fun c1 => ?_) (fun c1 => bad 2 m2 (m7 f2) (by unfold sF; rw [if_pos (by omega)]) (by decide))
  rw [rdv_ok c1]
  have hv8 := nv_lt pk 0 8
  refine pk_eq (nv pk 0 8) 86 (fun c2 => ?_) (fun c2 => bad 3 m2 (m7 f2) (by unfold sF; rw [if_neg (by omega), if_neg c2]) (by decide))
  refine ⟨_, v_number 1 (by decide) (by decide) p2, ?_⟩
  rintro r9 m8 ⟨f8, e8, p8⟩ m11 e11
  have f11 : fm lsS μ m11 := by rw [e11]; exact ((m7 f2).tr (m7 f8)).I (by decide)
  refine ⟨_, v_number 3 (by decide) (by decide) (p8.fr (by rw [e11, ri_n (by decide)]) (by rw [e11, ri_n (by decide)])), ?_⟩
  rintro r14 m13 ⟨f13, e13, p13⟩
  have f13' : fm lsS μ m13 := f11.tr (m7 f13)
  rw [e13]
  refine rdv_br (by decide) (fun c3 m17 e17 => ?_) (fun c3 => bad 2 m13 f13' (by unfold sF; rw [if_neg (by omega), if_pos c2, if_pos (by omega)]) (by decide))
  rw [rdv_ok c3, nI_add] at e17
  have f17 : fm lsS μ m17 := by rw [e17]; exact f13'.I (by decide)
  have h170 : m17.1 9 0 = nI (sC pk) := by
    rw [e17, ri_e, upd_n (by decide), (f13 9 (by decide)).1, e11, ri_e, upd_e, e8, rdv_ok (by omega), nI_add, nv_1]
    rfl
  have h179 : m17.1 9 9 = nI (sBn pk) := by rw [e17, ri_e, upd_e]; rfl
  have hsF : sF pk = if bfl pk (sBn pk) = 0 then (if pF pk = 0 then (if cF pk = 0 then lF pk else cF pk) else pF pk) else bfl pk (sBn pk) := by
    unfold sF
    rw [if_neg (by omega), if_pos c2, if_neg (by omega)]
  have ff : ∀ {f : Nat}, f < 8 → ¬ nI f = 0 → f ≠ 0 := fun _ h e => h (by rw [e]; exact nI_0)
  have tail : ∀ m : xm_M, bfl pk (sBn pk) = 0 → fm lsS μ m → m.1 9 = m17.1 9 → bP m pk (s2 pk) → (∀ j, j < sBn pk → cB m (16 + 5 * j) pk (bp pk j)) → ∃ Q18 : Int32 → xm_M → Prop, xCi true true k_X4_learnPosts m [.ref 9, .ref 7] Q18 ∧
        ∀ (r20 : Int32) (m19 : xm_M), Q18 r20 m19 →
        ((¬ r20 = 0 →
         ((¬ r20 = 0 →
          Q r20 m19) ∧
         (r20 = 0 →
          ∃ Q24 : Int32 → xm_M → Prop, xCi true true k_X4_learnLeaning m19 [.ref 9, .ref 7] Q24 ∧
          ∀ (r26 : Int32) (m25 : xm_M), Q24 r26 m25 →
          Q r26 m25))) ∧
        (r20 = 0 →
         ∃ Q28 : Int32 → xm_M → Prop, xCi true true k_X4_learnClasses m19 [.ref 9, .ref 7] Q28 ∧
         ∀ (r30 : Int32) (m29 : xm_M), Q28 r30 m29 →
         ((¬ r30 = 0 →
          Q r30 m29) ∧
         (r30 = 0 →
          ∃ Q33 : Int32 → xm_M → Prop, xCi true true k_X4_learnLeaning m29 [.ref 9, .ref 7] Q33 ∧
          ∀ (r35 : Int32) (m34 : xm_M), Q33 r35 m34 →
          Q r35 m34)))) := by
    intro m hb hf hm9 hp hBk
    rw [if_pos hb] at hsF
    refine ⟨_, c_learnPosts hp (by rw [hm9]; exact h179), ?_⟩
    rintro r20 m19 ⟨g1, g2, g3, g4⟩
    have f19 : fm lsS μ m19 := hf.tr (g1.mono (by decide))
    have hpF : pF pk < 8 := by
      unfold pF
      split
      · decide
      · split
        · decide
        · exact pfl_8 pk _
    have hcF : cF pk < 8 := by
      unfold cF
      split
      · decide
      · split
        · decide
        · exact cfl_8 pk _
    rw [g3]
    refine ⟨fun c => ⟨fun c2 => ?_, fun c2 => absurd c2 c⟩, fun c => ?_⟩
    · have hne := ff hpF c
      exact bad _ m19 f19 (by rw [hsF, if_neg hne]) hne
    · have hz : pF pk = 0 := (neq0 (by omega)).mp c
      rw [if_pos hz] at hsF
      obtain ⟨q1, q2, q3, q4⟩ := g4 hz
      have hB19 : ∀ j, j < sBn pk → cB m19 (16 + 5 * j) pk (bp pk j) := fun j hj => (hBk j hj).fr (g1 _ (by simp; omega)).1 (g1 _ (by simp; omega)).1 (g1 _ (by simp; omega)).1
      refine ⟨_, c_learnClasses q1 (by rw [g2 9 (by decide) (by decide) (by decide), hm9]; exact h179) hB19, ?_⟩
      rintro r30 m29 ⟨k1, k2, k3, k4⟩
      have f29 : fm lsS μ m29 := f19.tr (k1.mono (by decide))
      rw [k3]
      refine ⟨fun c2 => ?_, fun c2 => ?_⟩
      · have hne := ff hcF c2
        exact bad _ m29 f29 (by rw [hsF, if_neg hne]) hne
      · have hz2 : cF pk = 0 := (neq0 (by omega)).mp c2
        rw [if_pos hz2] at hsF
        obtain ⟨u1, u2, u3, u4, u5⟩ := k4 hz2
        refine ⟨_, c_learnLeaning u1 (by rw [k2 0 (by decide) (by decide) (by decide), g2 0 (by decide) (by decide) (by decide), hm9]; exact h170), ?_⟩
        rintro r35 m34 ⟨l1, l2, l3, l4⟩
        rw [← hQ]
        refine ⟨f29.tr (l1.mono (by decide)), by rw [l3, hsF], fun hz3 => ⟨?_, ?_, l4 (hsF.symm.trans hz3), ?_, ?_, ?_, ?_, ?_, ?_, ?_⟩⟩
        · rw [l2 0 (by decide), k2 0 (by decide) (by decide) (by decide), g2 0 (by decide) (by decide) (by decide), hm9]; exact h170
        · rw [l2 1 (by decide), k2 1 (by decide) (by decide) (by decide)]; exact q2
        · obtain ⟨t1, t2, t3, t4⟩ := q4
          have w : ∀ c, c = 10 ∨ c = 11 ∨ c = 12 ∨ c = 13 → m34.1 c = m19.1 c := fun c hc => by
            rw [(l1 c (by simp; omega)).1, (k1 c (by simp; omega)).1]
          refine ⟨by rw [l2 3 (by decide), k2 3 (by decide) (by decide) (by decide)]; exact t1, fun k hk => by rw [w 10 (by decide)]; exact t2 k hk, fun k h2 hk => by rw [w 11 (by decide), w 12 (by decide)]; exact t3 k h2 hk, fun x hx => by rw [w 13 (by decide)]; exact t4 x hx⟩
        · rw [l2 10 (by decide), k2 10 (by decide) (by decide) (by decide)]; exact q3
        · rw [l2 11 (by decide)]; exact u2
        · rw [l2 12 (by decide)]; exact u3
        · rw [l2 13 (by decide)]; exact u4
        · intro k hk
          rw [(l1 14 (by decide)).1]
          exact u5 k hk
        · intro j hj
          exact ((hB19 j hj).fr (k1 _ (by simp; omega)).1 (k1 _ (by simp; omega)).1 (k1 _ (by simp; omega)).1).fr (l1 _ (by simp; omega)).1 (l1 _ (by simp; omega)).1 (l1 _ (by simp; omega)).1
  have loop : ∀ (d i : Nat) (m : xm_M), i + d = sBn pk → (bfl pk i = 0 → bP m pk (bp pk i) ∧ ∀ j, j < i → cB m (16 + 5 * j) pk (bp pk j)) → fm lsS μ m → m.1 9 = m17.1 9 → hd_X4_learn_57 Q (nI (bfl pk i)) (nI i) m := by
    intro d
    induction d with
    | zero =>
      intro i m hi h0 hf hm9
      have hin : i = sBn pk := by omega
      have h8 := bfl_8 pk i
      apply l_X4_learn_57
      refine pk_le (sBn pk) i (fun _ => ⟨fun c => ?_, fun c => ?_⟩) (fun c => by omega) (by rw [hm9]; exact h179)
      · have hne := ff h8 c
        refine ⟨fun _ => ⟨fun _ => ?_, fun c2 => absurd c2 c⟩, fun c2 => absurd c2 c⟩
        exact bad _ m hf (by rw [hsF, ← hin, if_neg hne]) hne
      · have hz : bfl pk i = 0 := (neq0 (by omega)).mp c
        obtain ⟨z1, z2⟩ := h0 hz
        rw [hin] at hz z1 z2
        exact tail m hz hf hm9 z1 z2
    | succ d ih =>
      intro i m hi h0 hf hm9
      have h8 := bfl_8 pk i
      apply l_X4_learn_57
      refine pk_le (sBn pk) i (fun c => by omega) (fun _ => ⟨fun c => ?_, fun c => ?_⟩) (by rw [hm9]; exact h179)
      · have hne := ff h8 c
        refine ⟨fun _ => ⟨fun _ => ⟨fun _ => ?_, fun c2 => absurd c2 c⟩, fun c2 => absurd c2 c⟩, fun c2 => absurd c2 c⟩
        have hup := bfl_up hne (sBn pk) (by omega)
        exact bad _ m hf (by rw [hsF, if_neg (by rw [hup]; exact hne), hup]) hne
      · have hz : bfl pk i = 0 := (neq0 (by omega)).mp c
        obtain ⟨z1, z2⟩ := h0 hz
        refine ⟨_, c_bookOf (show i < 8 by omega), ?_⟩
        rintro r75 m74 ⟨rfl, rfl⟩
        refine ⟨bk_j (by omega), _, c_blearn (bk_j (by omega)) z1, ?_⟩
        rintro r79 m78 ⟨g1, g2, g3⟩ x81 e81
        have h2 : bfl pk (i + 1) = bkF pk (bp pk i) := by rw [bfl_s, if_pos hz]
        rw [g2, e81, nI_add, ← h2]
        refine ih (i + 1) m78 (by omega) (fun hz2 => ?_) (hf.tr (g1.mono (lsS_bk i (by omega)))) (by rw [(g1 9 (by simp; omega)).1]; exact hm9)
        obtain ⟨y1, y2⟩ := g3 (h2.symm.trans hz2)
        refine ⟨y1, lt_s (fun j hj => ?_) y2⟩
        exact (z2 j hj).fr (g1 _ (by simp; omega)).1 (g1 _ (by simp; omega)).1 (g1 _ (by simp; omega)).1
  refine loop (sBn pk) 0 m17 (by omega) (fun _ => ⟨?_, fun j hj => by omega⟩) f17 rfl
  exact p13.fr (by rw [e17, ri_n (by decide)]) (by rw [e17, ri_n (by decide)])
