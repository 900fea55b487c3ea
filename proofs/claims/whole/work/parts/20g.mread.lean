def mPk (m : xm_M) (pks : List (List Int32)) : Prop := m.1 75 7 = nI pks.length ∧ pks.length ≤ 60 ∧ ∀ k q, pks[k]? = some q → q.length ≤ 2000 ∧ m.1 80 k = nI q.length ∧ ∀ j v, q[j]? = some v → m.1 79 (2000 * k + j) = v
theorem mPk.fr {m m' : xm_M} {pks : List (List Int32)} (h : mPk m pks) (h7 : m'.1 75 7 = m.1 75 7) (h79 : m'.1 79 = m.1 79) (h80 : m'.1 80 = m.1 80) : mPk m' pks := ⟨h7.trans h.1, h.2.1, fun k q hq => by rw [h79, h80]; exact h.2.2 k q hq⟩
theorem mPk.at {m : xm_M} {pks : List (List Int32)} (h : mPk m pks) {k : Nat} (hk : k < pks.length) : (pks.getD k []).length ≤ 2000 ∧ m.1 80 k = nI (pks.getD k []).length ∧ ∀ j v, (pks.getD k [])[j]? = some v → m.1 79 (2000 * k + j) = v := by
  have : pks[k]? = some (pks.getD k []) := by simp [List.getD, List.getElem?_eq_getElem hk]
  exact h.2.2 k _ this
theorem c_mread {b : Bool} {μ : xm_M} {A : AS} (hA : mA μ A) : xCi b b k_X9_read μ [.ref 75] (fun r m => r = rdR A ∧ mA m (rdA A) ∧ ∀ c, c < 75 → m.1 c = μ.1 c ∧ m.2.1 c = μ.2.1 c) := by
  obtain ⟨⟨t1, t2, t3, t4⟩, -, -, hT⟩ := hA
  generalize hQ : (fun (r : Int32) (m : xm_M) => r = rdR A ∧ mA m (rdA A) ∧ ∀ c, c < 75 → m.1 c = μ.1 c ∧ m.2.1 c = μ.2.1 c) = Q
  have hF8 := pkF_8 (rdP A)
  -- cells of the class and the table stay
  let KP : xm_M → Prop := fun m => (∀ c, c < 75 → m.1 c = μ.1 c ∧ m.2.1 c = μ.2.1 c) ∧ m.2.1 77 = μ.2.1 77
  have tM : ∀ {m : xm_M}, KP m → tabM m := fun h k hk => by rw [h.2]; exact hT k hk
  -- the end
  have fin : ∀ (m : xm_M), KP m → m.1 75 2 = nI 0 → m.1 75 31 = nI (rdC A) → m.1 75 51 = nI (rdN A) → (rdP A).length ≤ 60 → (∀ k, k < 8 → m.1 82 k = rdL A k) → (∀ c, c < rdC A → ∀ i, i < rdN A → m.1 105 (960 * c + i) = (rdS A).2.2.2 c i) → mA m (rdA A) := by
    intro m h1 h2 h3 h4 h60 h5 h6
    have hC2 : rdC A ≤ 2 := by
      unfold rdC
      split
      · exact (sC_b _).2
      · exact Nat.zero_le _
    have hsb := rdS_b A h60
    have hN : rdN A ≤ 928 := by
      have : rdN A ≤ 16 * ((rdS A).1 - 1) := cutW_le (by omega)
      omega
    exact ⟨⟨h2, Nat.zero_le _, fun j hj => absurd hj (Nat.not_lt_zero j), fun j hj => absurd hj (Nat.not_lt_zero j)⟩, ⟨h3, hC2, h4, hN, h6⟩, h5, tM h1⟩
  -- the sounds
  have e129 : pkF (rdP A) = 0 → 1 ≤ (rdP A).length → sOK ((rdP A).getD 0 []) → ∀ (d j : Nat) (m : xm_M), j + 1 + d = (rdP A).length → KP m → mPk m (rdP A) → mS m ((rdP A).getD 0 []) → mSS m ((rdP A).getD 0 []) (sSt (rdP A) j) → m.1 75 2 = nI 0 → m.1 75 12 = nI (if (rdG A).2.2.2.1 = true then 1 else 0) → ((rdG A).2.2.2.1 = true → m.2.1 75 13 = lN (rdG A).2.2.2.2.1) → (∀ k, k < 8 → k ≠ 3 → k ≠ 4 → m.1 82 k = rdL A k) → hd_X9_read_129 b Q (nI (j + 1)) m := by
    intro hz hl hok d
    have hcd : rdC A = sC ((rdP A).getD 0 []) := by unfold rdC; rw [if_pos hz]
    have hsd : rdS A = sSt (rdP A) ((rdP A).length - 1) := by unfold rdS; rw [if_pos hz]
    have hrr : rdR A = nI (rdN A) := by unfold rdR; rw [if_pos hz]
    generalize hsp : (rdP A).getD 0 [] = sp at *
    induction d with
    | zero =>
      intro j m hj hk hP hS hs h2 h12 h13 h82
      have h60 := hP.2.1
      have hjl : (rdP A).length - 1 = j := by omega
      rw [hjl] at hsd
      rw [← hsd] at hs
      have hsb := rdS_b A h60
      have hN : rdN A ≤ 16 * ((rdS A).1 - 1) := cutW_le (by omega)
      have h8 : ∀ k, k < 8 → m.1 82 k = rdL A k := by
        intro k hk2
        by_cases h3 : k = 3
        · rw [h3]; exact hs.1
        · by_cases h4 : k = 4
          · rw [h4]; exact hs.2.1
          · exact h82 k hk2 h3 h4
      -- all of them, or as many as are told
      have whole : rdN A = 16 * ((rdS A).1 - 1) → Q (m.1 75 51) m := by
        intro he
        rw [← hQ]
        refine ⟨by rw [hs.2.2.1, hrr, he], fin m hk h2 (by rw [hcd]; exact hS.1) (by rw [he]; exact hs.2.2.1) h60 h8 (fun c hc i hi => ?_), hk.1⟩
        exact hs.2.2.2.2 c (by rw [← hcd]; exact hc) i (by omega)
      apply l_X9_read_129
      refine pk_le (rdP A).length (j + 1) (fun _ => ?_) (fun c => by omega) hP.1
      rw [h12]
      refine ⟨fun c => whole ?_, fun c => ?_⟩
      · have : ¬ (rdG A).2.2.2.1 = true := fun h => by rw [if_pos h] at c; exact absurd c (by decide)
        unfold rdN cutW
        rw [if_neg (fun h => this h.1)]
      · have hla : (rdG A).2.2.2.1 = true := by
          cases h : (rdG A).2.2.2.1 with
          | true => rfl
          | false => rw [h] at c; exact absurd nI_0 c
        rw [h13 hla, lg_cmp_lt, lg_cmp_ge]
        refine ⟨fun c2 => whole ?_, fun c2 => ?_⟩
        · unfold rdN cutW
          rw [if_neg (fun h => h.2.1 c2)]
        · rw [hs.2.2.1, nI_l (by omega)]
          refine ⟨fun c3 => ?_, fun c3 m5 e5 => ?_⟩
          · have := whole (by
              unfold rdN cutW
              rw [if_neg]
              rintro ⟨-, -, h⟩
              rw [Int64.lt_iff_toInt_lt] at h
              rw [Int64.le_iff_toInt_le] at c3
              omega)
            rw [hs.2.2.1] at this
            exact this
          · have h3 : lN (rdG A).2.2.2.2.1 < lN (16 * ((rdS A).1 - 1)) := by
              rw [Int64.le_iff_toInt_le] at c3
              rw [Int64.lt_iff_toInt_lt]
              omega
            have hne : rdN A = (lN (rdG A).2.2.2.2.1).toInt.toNat := by
              unfold rdN cutW
              rw [if_pos ⟨hla, c2, h3⟩]
            rw [G_32 (by omega) c2 h3, ← hne] at e5
            have o5 : ∀ c, c ≠ 75 → m5.1 c = m.1 c := fun c hc => by rw [e5, ri_n hc]
            have f5 : ∀ k, k ≠ 51 → m5.1 75 k = m.1 75 k := fun k hk => by rw [e5, ri_e, upd_n hk]
            have g5 : m5.1 75 51 = nI (rdN A) := by rw [e5, ri_e, upd_e]
            have hk5 : KP m5 := ⟨fun c hc => ⟨by rw [o5 c (by omega)]; exact (hk.1 c hc).1, by rw [e5, ri_l]; exact (hk.1 c hc).2⟩, by rw [e5, ri_l]; exact hk.2⟩
            rw [← hQ]
            refine ⟨by rw [g5, hrr], fin m5 hk5 (by rw [f5 2 (by decide)]; exact h2) (by rw [f5 31 (by decide), hcd]; exact hS.1) g5 h60 (fun k hk2 => by rw [o5 82 (by decide)]; exact h8 k hk2) (fun c hc i hi => ?_), hk5.1⟩
            rw [o5 105 (by decide)]
            exact hs.2.2.2.2 c (by rw [← hcd]; exact hc) i (by omega)
    | succ d ih =>
      intro j m hj hk hP hS hs h2 h12 h13 h82
      have h60 := hP.2.1
      obtain ⟨p1, p2, p3⟩ := hP.at (show j + 1 < (rdP A).length by omega)
      have hsb := sSt_b (rdP A) j
      have hst : sSt (rdP A) (j + 1) = sStep sp ((rdP A).getD (j + 1) []) (sSt (rdP A) j) := by rw [← hsp]; rfl
      apply l_X9_read_129
      refine pk_le (rdP A).length (j + 1) (fun c => by omega) (fun _ => ⟨_, c_msound hok hS (tM hk) (by omega) p1 p2 p3, ?_⟩) hP.1
      rintro r8 m7 ⟨k7, hr⟩
      generalize (rdP A).getD (j + 1) [] = pk at *
      have hk7 : KP m7 := ⟨fun c hc => ⟨by rw [k7.1 c (by omega) (by omega)]; exact (hk.1 c hc).1, by rw [k7.2.2 c (by omega) (by omega) (by omega)]; exact (hk.1 c hc).2⟩, by rw [k7.2.2 77 (by decide) (by decide) (by decide)]; exact hk.2⟩
      have hP7 : mPk m7 (rdP A) := hP.fr (k7.2.1 7 (by decide)) (k7.1 79 (by decide) (by decide)) (k7.1 80 (by decide) (by decide))
      have hS7 : mS m7 sp := hS.T k7
      have hL7 : mLf m7 sp (sSt (rdP A) j) := ⟨fun h c hc n hn => by rw [k7.2.2 104 (by decide) (by decide) (by decide)]; exact hs.2.2.2.1 h c hc n hn, fun c hc i hi => by rw [k7.1 105 (by decide) (by decide)]; exact hs.2.2.2.2 c hc i hi⟩
      have h827 : m7.1 82 = m.1 82 := k7.1 82 (by decide) (by decide)
      have hs7 : mSS m7 sp (sSt (rdP A) j) := ⟨by rw [h827]; exact hs.1, by rw [h827]; exact hs.2.1, by rw [k7.2.1 51 (by decide)]; exact hs.2.2.1, hL7⟩
      have h137 : (rdG A).2.2.2.1 = true → m7.2.1 75 13 = lN (rdG A).2.2.2.2.1 := fun h => by rw [k7.2.2 75 (by decide) (by decide) (by decide)]; exact h13 h
      rcases hr with ⟨r0, hn⟩ | ⟨r1, hnn, hnow⟩
      · rw [r0, cl (show 4 < 2 ^ 31 by decide), hs7.2.1, nI_add]
        refine ⟨fun _ => ⟨vin (by decide) (by decide), vin (by decide) (by decide), fun m13 e13 => ?_⟩, fun cx => absurd nI_0 cx⟩
        have hst2 : sSt (rdP A) (j + 1) = ((sSt (rdP A) j).1, (sSt (rdP A) j).2.1 + 1, (sSt (rdP A) j).2.2) := by
          rw [hst]; unfold sStep; rw [if_pos hn]
        have o13 : ∀ c, c ≠ 82 → m13.1 c = m7.1 c := fun c hc => by rw [e13, ri_n hc]
        apply l_X9_read_162
        intro x1 e1
        rw [e1, nI_add]
        refine ih (j + 1) m13 (by omega) ⟨fun c hc => ⟨by rw [o13 c (by omega)]; exact (hk7.1 c hc).1, by rw [e13, ri_l]; exact (hk7.1 c hc).2⟩, by rw [e13, ri_l]; exact hk7.2⟩ (hP7.fr (by rw [o13 75 (by decide)]) (o13 79 (by decide)) (o13 80 (by decide))) (hS7.fr (fun k _ _ => by rw [o13 75 (by decide)]) (fun c _ _ => o13 c (by omega))) ?_ (by rw [o13 75 (by decide), k7.2.1 2 (by decide)]; exact h2) (by rw [o13 75 (by decide), k7.2.1 12 (by decide)]; exact h12) (fun h => by rw [e13, ri_l]; exact h137 h) (fun k a1 a2 a3 => by rw [e13, ri_e, upd_n a3, h827]; exact h82 k a1 a2 a3)
        rw [hst2]
        refine ⟨by rw [e13, ri_e, upd_n (by decide)]; exact hs7.1, by rw [e13, ri_e, upd_e], by rw [o13 75 (by decide)]; exact hs7.2.2.1, fun h c hc n hn => by rw [e13, ri_l]; exact hL7.1 h c hc n hn, fun c hc i hi => by rw [o13 105 (by decide)]; exact hL7.2 c hc i hi⟩
      · rw [r1]
        refine ⟨fun cx => absurd cx (by decide), fun _ => ⟨_, c_mputs hS7.1 hs7 (by omega) hnow, ?_⟩⟩
        rintro m15 ⟨k15, s15⟩
        have hst2 : sSt (rdP A) (j + 1) = ((sSt (rdP A) j).1 + 1, (sSt (rdP A) j).2.1, fun c n => hlv (fc sp pk c) (16 + n), sSm sp pk (sSt (rdP A) j)) := by
          rw [hst]; unfold sStep; rw [if_neg hnn]
        apply l_X9_read_162
        intro x1 e1
        rw [e1, nI_add]
        refine ih (j + 1) m15 (by omega) ⟨fun c hc => ⟨by rw [k15.1 c (by omega) (by omega) (by omega)]; exact (hk7.1 c hc).1, by rw [k15.2.2.2 c (by omega)]; exact (hk7.1 c hc).2⟩, by rw [k15.2.2.2 77 (by decide)]; exact hk7.2⟩ (hP7.fr (k15.2.1 7 (by decide)) (k15.1 79 (by decide) (by decide) (by decide)) (k15.1 80 (by decide) (by decide) (by decide))) (hS7.fr (fun k _ _ => k15.2.1 k (by omega)) (fun c _ _ => k15.1 c (by omega) (by omega) (by omega))) (by rw [hst2]; exact s15) (by rw [k15.2.1 2 (by decide), k7.2.1 2 (by decide)]; exact h2) (by rw [k15.2.1 12 (by decide), k7.2.1 12 (by decide)]; exact h12) (fun h => by rw [k15.2.2.2 75 (by decide)]; exact h137 h) (fun k a1 a2 a3 => by rw [k15.2.2.1 k a2, h827]; exact h82 k a1 a2 a3)
  -- behind the setup
  have e99 : ∀ m : xm_M, KP m → mPk m (rdP A) → m.1 75 19 = nI (pkF (rdP A)) → (pkF (rdP A) = 0 → mS m ((rdP A).getD 0 []) ∧ 1 ≤ (rdP A).length) → m.1 75 2 = nI 0 → m.1 75 51 = nI 0 → m.1 75 12 = nI (if (rdG A).2.2.2.1 = true then 1 else 0) → ((rdG A).2.2.2.1 = true → m.2.1 75 13 = lN (rdG A).2.2.2.2.1) → (∀ k, k < 8 → k ≠ 3 → k ≠ 4 → k ≠ 5 → m.1 82 k = rdL A k) → m.1 82 3 = nI 0 → m.1 82 4 = nI 0 → m.1 82 5 = nI 0 → hd_X9_read_99 b Q m := by
    intro m hk hP h19 h0 h2 h51 h12 h13 h82 h3 h4 h5
    have h60 := hP.2.1
    apply l_X9_read_99
    rw [h19]
    refine ⟨fun c => ⟨vin (by decide) (by decide), fun m3 e3 => ?_⟩, fun c m4 e4 => ?_⟩
    · have hz : pkF (rdP A) = 0 := by
        by_cases h : pkF (rdP A) = 0
        · exact h
        · exact absurd c (nI_nle (by omega) (by omega))
      obtain ⟨hS, hl⟩ := h0 hz
      have hok : sOK ((rdP A).getD 0 []) := by
        refine sF_0 ?_
        have : pkF (rdP A) = sF ((rdP A).getD 0 []) := by unfold pkF; rw [if_neg (by omega)]
        rw [← this]
        exact hz
      have hcd : rdC A = sC ((rdP A).getD 0 []) := by unfold rdC; rw [if_pos hz]
      rw [cl (show 5 < 2 ^ 31 by decide), hS.1] at e3
      have o3 : ∀ c, c ≠ 82 → m3.1 c = m.1 c := fun c hc => by rw [e3, ri_n hc]
      refine e129 hz hl hok ((rdP A).length - 1) 0 m3 (by omega) ⟨fun c hc => ⟨by rw [o3 c (by omega)]; exact (hk.1 c hc).1, by rw [e3, ri_l]; exact (hk.1 c hc).2⟩, by rw [e3, ri_l]; exact hk.2⟩ (hP.fr (by rw [o3 75 (by decide)]) (o3 79 (by decide)) (o3 80 (by decide))) (hS.fr (fun k _ _ => by rw [o3 75 (by decide)]) (fun c _ _ => o3 c (by omega))) ⟨by rw [e3, ri_e, upd_n (by decide)]; exact h3, by rw [e3, ri_e, upd_n (by decide)]; exact h4, by rw [o3 75 (by decide)]; exact h51, fun h => absurd h (Nat.lt_irrefl 0), fun c hc i hi => absurd hi (Nat.not_lt_zero i)⟩ (by rw [o3 75 (by decide)]; exact h2) (by rw [o3 75 (by decide)]; exact h12) (fun h => by rw [e3, ri_l]; exact h13 h) (fun k a1 a2 a3 => ?_)
      by_cases hk5 : k = 5
      · rw [hk5, e3, ri_e, upd_e, ← hcd]
        rfl
      · rw [e3, ri_e, upd_n hk5]
        exact h82 k a1 a2 a3 hk5
    · have hz : ¬ pkF (rdP A) = 0 := fun h => c (by rw [h]; decide)
      have hcd : rdC A = 0 := by unfold rdC; rw [if_neg hz]
      have hsd : rdS A = (0, 0, fun _ _ => 0, fun _ _ => 0) := by unfold rdS; rw [if_neg hz]
      have hnd : rdN A = 0 := by
        have hsb := rdS_b A h60
        have : rdN A ≤ 16 * ((rdS A).1 - 1) := cutW_le (by omega)
        rw [hsd] at this
        omega
      have o4 : ∀ c, c ≠ 75 → m4.1 c = m.1 c := fun c hc => by rw [e4, ri_n hc]
      have f4 : ∀ k, k ≠ 31 → m4.1 75 k = m.1 75 k := fun k hk => by rw [e4, ri_e, upd_n hk]
      have hk4 : KP m4 := ⟨fun c hc => ⟨by rw [o4 c (by omega)]; exact (hk.1 c hc).1, by rw [e4, ri_l]; exact (hk.1 c hc).2⟩, by rw [e4, ri_l]; exact hk.2⟩
      rw [← hQ]
      refine ⟨?_, fin m4 hk4 (by rw [f4 2 (by decide)]; exact h2) (by rw [e4, ri_e, upd_e, hcd]) (by rw [f4 51 (by decide), hnd]; exact h51) h60 (fun k hk2 => ?_) (fun c hc => by omega), hk4.1⟩
      · rw [f4 19 (by decide), h19]
        unfold rdR
        rw [if_neg hz]
      · rw [o4 82 (by decide)]
        by_cases a3 : k = 3
        · rw [a3, h3]
          show nI 0 = nI (rdS A).1
          rw [hsd]
        · by_cases a4 : k = 4
          · rw [a4, h4]
            show nI 0 = nI (rdS A).2.1
            rw [hsd]
          · by_cases a5 : k = 5
            · rw [a5, h5]
              show nI 0 = nI (rdC A)
              rw [hcd]
            · exact h82 k hk2 a3 a4 a5
  -- clearing what was seen, then the pages
  have e17 : ∀ (d k : Nat) (m : xm_M), k + d = 8 → (∀ c, c ≠ 75 → c ≠ 82 → m.1 c = μ.1 c) → m.2.1 = μ.2.1 → m.1 75 2 = nI 0 → (∀ i, i < k → m.1 82 i = nI 0) → hd_X9_read_17 b Q (nI A.1) (nI k) m := by
    intro d
    induction d with
    | zero =>
      intro k m hk f1 f2 h2 h82
      have hk8 : k = 8 := by omega
      apply l_X9_read_17
      refine pk_le 8 k (fun _ m2 e2 m3 e3 m4 e4 m5 e5 m6 e6 => ⟨_, c_begins, ?_⟩) (fun c => by omega)
      intro m8 e8
      have d8 : m8.1 75 = upd (upd (upd (upd (upd (upd (upd (m.1 75) 7 (nI 0)) 51 (nI 0)) 19 (nI 0)) 31 (nI 0)) 12 (nI 0)) 9 (nI 0)) 10 (nI 0) := by
        rw [e8, ri_e, e6, ri_e, e5, ri_e, e4, ri_e, e3, ri_e, e2, ri_e]
      have o8 : ∀ c, c ≠ 75 → m8.1 c = m.1 c := fun c hc => by rw [e8, ri_n hc, e6, ri_n hc, e5, ri_n hc, e4, ri_n hc, e3, ri_n hc, e2, ri_n hc]
      have l8 : m8.2.1 = μ.2.1 := by rw [e8, e6, e5, e4, e3, e2]; exact f2
      have z8 : ∀ i, i < 8 → m8.1 82 i = nI 0 := fun i hi => by rw [o8 82 (by decide)]; exact h82 i (by omega)
      have hg0 : gM m8 0 g00 := by
        refine ⟨⟨?_, by decide, z8 6 (by decide), z8 7 (by decide), by decide, ?_, fun k q hq => ?_, fun j v _ hj => ?_⟩, ⟨Nat.le_refl _, fun v hv => ?_⟩, ?_, z8 0 (by decide), z8 1 (by decide), ?_, fun h => ?_, fun _ => rfl, Nat.le_refl _, by decide, by decide⟩
        · rw [d8, upd_n (by decide), upd_n (by decide), upd_n (by decide), upd_n (by decide), upd_n (by decide), upd_n (by decide), upd_e]; rfl
        · rw [d8, upd_n (by decide), upd_e]; rfl
        · exact absurd hq (by simp [g00])
        · exact absurd hj (by simp [g00])
        · exact absurd hv (by simp [g00])
        · rw [d8, upd_e]; rfl
        · rw [d8, upd_n (by decide), upd_n (by decide), upd_e]; rfl
        · exact absurd h (by decide)
      refine ⟨_, c_mpages (n := A.1) (t := A.2.1) t2 (fun j hj => by rw [o8 76 (by decide), f1 76 (by decide) (by decide)]; exact t3 j hj) t4 hg0, ?_⟩
      rintro m12 ⟨g12, f12, k12⟩
      have hg : gaS A.2.1 A.1 (A.1 + 1) 0 g00 = rdG A := rfl
      rw [hg] at g12
      obtain ⟨⟨a1, a2, a3, a4, a5, a6, a7, a8⟩, b1, b2, b3, b4, b5, b6, b7, b8, b9, b10⟩ := g12
      rw [a1, cl (show 2 < 2 ^ 31 by decide)]
      refine ⟨vin (by decide) (by decide), fun m16 e16 => ?_⟩
      have o16 : ∀ c, c ≠ 82 → m16.1 c = m12.1 c := fun c hc => by rw [e16, ri_n hc]
      have l16 : m16.2.1 = m12.2.1 := by rw [e16]; rfl
      have c16 : ∀ c, c < 75 ∨ 83 ≤ c ∨ c = 77 ∨ c = 78 → m16.1 c = μ.1 c ∧ m16.2.1 c = μ.2.1 c := fun c hc => by
        refine ⟨?_, ?_⟩
        · rw [o16 c (by omega), (f12 c (by simp; omega)).1, o8 c (by omega), f1 c (by omega) (by omega)]
        · rw [l16, (f12 c (by simp; omega)).2, l8]
      have hK16 : KP m16 := ⟨fun c hc => c16 c (Or.inl hc), (c16 77 (by decide)).2⟩
      have f16 : ∀ k, k ≠ 7 → k ≠ 9 → k ≠ 10 → k ≠ 12 → m16.1 75 k = m8.1 75 k := fun k q1 q2 q3 q4 => by rw [o16 75 (by decide)]; exact k12.1 k q1 q2 q3 q4
      have hP16 : mPk m16 (rdP A) := ⟨by rw [o16 75 (by decide)]; exact a1, a2, fun k q hq => by rw [o16 79 (by decide), o16 80 (by decide)]; exact a7 k q hq⟩
      have h1619 : m16.1 75 19 = nI 0 := by rw [f16 19 (by decide) (by decide) (by decide) (by decide), d8, upd_n (by decide), upd_n (by decide), upd_n (by decide), upd_n (by decide), upd_e]
      have h162 : m16.1 75 2 = nI 0 := by rw [f16 2 (by decide) (by decide) (by decide) (by decide), d8, upd_n (by decide), upd_n (by decide), upd_n (by decide), upd_n (by decide), upd_n (by decide), upd_n (by decide), upd_n (by decide)]; exact h2
      have h1651 : m16.1 75 51 = nI 0 := by rw [f16 51 (by decide) (by decide) (by decide) (by decide), d8, upd_n (by decide), upd_n (by decide), upd_n (by decide), upd_n (by decide), upd_n (by decide), upd_e]
      have h1612 : m16.1 75 12 = nI (if (rdG A).2.2.2.1 = true then 1 else 0) := by rw [o16 75 (by decide)]; exact b5
      have h1613 : (rdG A).2.2.2.1 = true → m16.2.1 75 13 = lN (rdG A).2.2.2.2.1 := fun h => by rw [l16]; exact b6 h
      have s82 : ∀ k, k ≠ 2 → m16.1 82 k = m12.1 82 k := fun k hk => by rw [e16, ri_e, upd_n hk]
      have s82z : ∀ k, k = 3 ∨ k = 4 ∨ k = 5 → m16.1 82 k = nI 0 := fun k hk => by
        rw [s82 k (by omega), k12.2 k (by omega) (by omega) (by omega) (by omega)]
        exact z8 k (by omega)
      have s82l : ∀ k, k < 8 → k ≠ 3 → k ≠ 4 → k ≠ 5 → m16.1 82 k = rdL A k := by
        intro k hk2 q3 q4 q5
        rcases (by omega : k = 0 ∨ k = 1 ∨ k = 2 ∨ k = 6 ∨ k = 7) with rfl | rfl | rfl | rfl | rfl
        · rw [s82 0 (by decide)]; exact b3
        · rw [s82 1 (by decide)]; exact b4
        · rw [e16, ri_e, upd_e]; rfl
        · rw [s82 6 (by decide)]; exact a3
        · rw [s82 7 (by decide)]; exact a4
      have hlen : (rdG A).1.1 = rdP A := rfl
      rw [hP16.1]
      refine ⟨fun c => ?_, fun c => ⟨_, c_mwrong 1 h1619, fun m23 e23 => ?_⟩⟩
      · have hl : 0 < (rdP A).length := Nat.pos_of_ne_zero (fun h => c (by rw [h]; exact nI_0))
        have hF : pkF (rdP A) = sF ((rdP A).getD 0 []) := by unfold pkF; rw [if_neg (by omega)]
        obtain ⟨p1, p2, p3⟩ := hP16.at hl
        refine ⟨_, c_msetup h1619 p1 p2 (fun j v hj => by have := p3 j v hj; rw [Nat.mul_zero, Nat.zero_add] at this; exact this), ?_⟩
        rintro m19 ⟨k19, e19, h19⟩
        have g19 : ∀ c, c ≠ 75 → c < 83 ∨ 95 < c → m19.1 c = m16.1 c := k19.1
        refine e99 m19 ⟨fun c hc => ⟨by rw [g19 c (by omega) (by omega)]; exact (hK16.1 c hc).1, by rw [k19.2.1]; exact (hK16.1 c hc).2⟩, by rw [k19.2.1]; exact hK16.2⟩ (hP16.fr (k19.2.2 7 (by decide)) (g19 79 (by decide) (by decide)) (g19 80 (by decide) (by decide))) (by rw [hF]; exact e19) (fun hz => ⟨h19 (hF.symm.trans hz), hl⟩) (by rw [k19.2.2 2 (by decide)]; exact h162) (by rw [k19.2.2 51 (by decide)]; exact h1651) (by rw [k19.2.2 12 (by decide)]; exact h1612) (fun h => by rw [k19.2.1]; exact h1613 h) (fun k q1 q2 q3 q4 => by rw [g19 82 (by decide) (by decide)]; exact s82l k q1 q2 q3 q4) ?_ ?_ ?_
        · rw [g19 82 (by decide) (by decide)]; exact s82z 3 (by decide)
        · rw [g19 82 (by decide) (by decide)]; exact s82z 4 (by decide)
        · rw [g19 82 (by decide) (by decide)]; exact s82z 5 (by decide)
      · have h60 := hP16.2.1
        have hz : (rdP A).length = 0 := (neq0 (by omega)).mp c
        have hF : pkF (rdP A) = 1 := by unfold pkF; rw [if_pos hz]
        have o23 : ∀ c, c ≠ 75 → m23.1 c = m16.1 c := fun c hc => by rw [e23, ri_n hc]
        have f23 : ∀ k, k ≠ 19 → m23.1 75 k = m16.1 75 k := fun k hk => by rw [e23, ri_e, upd_n hk]
        have l23 : m23.2.1 = m16.2.1 := by rw [e23]; rfl
        refine e99 m23 ⟨fun c hc => ⟨by rw [o23 c (by omega)]; exact (hK16.1 c hc).1, by rw [l23]; exact (hK16.1 c hc).2⟩, by rw [l23]; exact hK16.2⟩ (hP16.fr (f23 7 (by decide)) (o23 79 (by decide)) (o23 80 (by decide))) (by rw [hF, e23, ri_e, upd_e]) (fun h => by omega) (by rw [f23 2 (by decide)]; exact h162) (by rw [f23 51 (by decide)]; exact h1651) (by rw [f23 12 (by decide)]; exact h1612) (fun h => by rw [l23]; exact h1613 h) (fun k q1 q2 q3 q4 => by rw [o23 82 (by decide)]; exact s82l k q1 q2 q3 q4) ?_ ?_ ?_
        · rw [o23 82 (by decide)]; exact s82z 3 (by decide)
        · rw [o23 82 (by decide)]; exact s82z 4 (by decide)
        · rw [o23 82 (by decide)]; exact s82z 5 (by decide)
    | succ d ih =>
      intro k m hk f1 f2 h2 h82
      apply l_X9_read_17
      rw [cl (show k < 2 ^ 31 by omega)]
      refine pk_le 8 k (fun c => by omega) (fun _ => ⟨vin (by omega) (by decide), fun m27 e27 x28 e28 => ?_⟩)
      rw [e28, nI_add]
      refine ih (k + 1) m27 (by omega) (fun c q1 q2 => by rw [e27, ri_n q2]; exact f1 c q1 q2) (by rw [e27]; exact f2) (by rw [e27, ri_n (by decide)]; exact h2) (lt_s (fun i hi => ?_) (by rw [e27, ri_e, upd_e]))
      rw [e27, ri_e, upd_n (by omega)]
      exact h82 i hi
  apply g_X9_read
  intro m1 e1 m2 e2
  rw [show m1.1 75 2 = nI A.1 by rw [e1, ri_e, upd_n (by decide)]; exact t1]
  exact e17 8 0 m2 rfl (fun c q1 q2 => by rw [e2, ri_n q1, e1, ri_n q1]) (by rw [e2, e1]; rfl) (by rw [e2, ri_e, upd_e]) (fun i hi => by omega)
