/-! ===== the class plays and reads ===== -/
theorem c_open {b : Bool} {μ : xm_M} {pk : List Int32} {st : Nat} (h6 : st + pk.length ≤ 6000) (h2 : ∀ i v, pk[i]? = some v → μ.1 2 (st + i) = v) : xCv b true k_X0_open μ [.ref 7, .ref 2, .int (nI st), .int (nI pk.length)] (fun m => fm [7] μ m ∧ bP m pk 0) := by
  apply g_X0_open
  intro m1 e1 m2 e2 m3 e3
  rw [nI_add, pk_mul] at e3
  rw [pk_mul] at e2
  have c1 : m1.1 = μ.1 ∧ m1.2.1 = μ.2.1 := by rw [e1]; exact ⟨rfl, rfl⟩
  have o3 : ∀ c, c ≠ 7 → m3.1 c = μ.1 c := fun c hc => by rw [e3, ri_n hc, e2, ri_n hc, c1.1]
  have f7 : m3.1 7 = upd (upd (μ.1 7) 1 (nI (8 * st))) 2 (nI (8 * (st + pk.length))) := by rw [e3, ri_e, e2, ri_e, c1.1]
  refine ⟨fun c hc => ⟨o3 c (by simpa using hc), by rw [e3, ri_l, e2, ri_l, c1.2]⟩, bR.P ⟨st, h6, ?_, ?_, Nat.zero_le _, fun i v hi => ?_⟩⟩
  · rw [f7, upd_n (by decide), upd_e]; rfl
  · rw [f7, upd_e]
  · rw [o3 2 (by decide)]; exact h2 i v hi
/-- the class's packets -/
def cPk (m : xm_M) (pks : List (List Int32)) : Prop := m.1 3 0 = nI pks.length ∧ pks.length ≤ 60 ∧ pks.flatten.length ≤ 6000 ∧ (∀ k, k < pks.length → m.1 4 k = nI (pks.take k).flatten.length ∧ m.1 5 k = nI (pks.getD k []).length) ∧ ∀ i v, pks.flatten[i]? = some v → m.1 2 i = v
theorem cPk.fr {m m' : xm_M} {pks : List (List Int32)} (h : cPk m pks) (hc : ∀ c, 2 ≤ c → c ≤ 5 → m'.1 c = m.1 c) : cPk m' pks := by
  obtain ⟨a1, a2, a3, a4, a5⟩ := h
  exact ⟨by rw [hc 3 (by decide) (by decide)]; exact a1, a2, a3, fun k hk => by rw [hc 4 (by decide) (by decide), hc 5 (by decide) (by decide)]; exact a4 k hk, fun i v hi => by rw [hc 2 (by decide) (by decide)]; exact a5 i v hi⟩
theorem flat_at {pks : List (List Int32)} {k : Nat} (hk : k < pks.length) : pks.flatten = (pks.take k).flatten ++ (pks.getD k [] ++ (pks.drop (k + 1)).flatten) := by
  have h1 : pks = pks.take k ++ pks[k] :: pks.drop (k + 1) := by
    rw [← List.drop_eq_getElem_cons hk, List.take_append_drop]
  have h2 : pks.getD k [] = pks[k] := by simp [List.getD, List.getElem?_eq_getElem hk]
  rw [h2]
  conv => lhs; rw [h1]
  rw [List.flatten_append, List.flatten_cons]
theorem cPk.at {m : xm_M} {pks : List (List Int32)} (h : cPk m pks) {k : Nat} (hk : k < pks.length) : (pks.take k).flatten.length + (pks.getD k []).length ≤ 6000 ∧ ∀ i v, (pks.getD k [])[i]? = some v → m.1 2 ((pks.take k).flatten.length + i) = v := by
  obtain ⟨a1, a2, a3, a4, a5⟩ := h
  have hf := flat_at hk
  constructor
  · have : pks.flatten.length = (pks.take k).flatten.length + ((pks.getD k []).length + (pks.drop (k + 1)).flatten.length) := by
      conv => lhs; rw [hf]
      rw [List.length_append, List.length_append]
    omega
  · intro i v hi
    apply a5
    rw [hf, List.getElem?_append_right (by omega), Nat.add_sub_cancel_left]
    have hil : i < (pks.getD k []).length := (List.getElem?_eq_some_iff.mp hi).1
    rw [List.getElem?_append_left hil]
    exact hi
theorem c_startOf {b : Bool} {μ : xm_M} {k : Nat} (hk : k < 60) : xCi b b k_X3_startOf μ [.ref 3, .int (nI k)] (fun r m => r = μ.1 4 k ∧ m = μ) := by
  apply g_X3_startOf
  rw [cl (show k < 2 ^ 31 by omega)]
  exact ⟨fun c => absurd c (n0 (by omega)), fun _ => pk_le 60 k (fun c => by omega) (fun _ => ⟨vin hk (by decide), rfl, rfl⟩)⟩
theorem c_lengthOf {b : Bool} {μ : xm_M} {k : Nat} (hk : k < 60) : xCi b b k_X3_lengthOf μ [.ref 3, .int (nI k)] (fun r m => r = μ.1 5 k ∧ m = μ) := by
  apply g_X3_lengthOf
  rw [cl (show k < 2 ^ 31 by omega)]
  exact ⟨fun c => absurd c (n0 (by omega)), fun _ => pk_le 60 k (fun c => by omega) (fun _ => ⟨vin hk (by decide), rfl, rfl⟩)⟩
def plC : List Nat := [0, 7, 57, 58, 60, 61, 65, 66, 67, 68, 69, 70, 71, 72, 73, 74]
theorem c_playSounds {μ : xm_M} {pks : List (List Int32)} {sp : List Int32} (hsp : pks.getD 0 [] = sp) (hlen : 1 ≤ pks.length) (hP : cPk μ pks) (hok : sOK sp) (hS : cS μ sp) (hT : tabC μ) (h07 : μ.1 0 7 = nI (sC sp)) (h09 : μ.1 0 9 = nI 0) (h010 : μ.1 0 10 = nI 0) : xCv false false k_X8_playSounds μ [.ref 0] (fun m => fm plC μ m ∧ (∀ k, k ≠ 9 → k ≠ 10 → m.1 0 k = μ.1 0 k) ∧ cSS m sp (sSt pks (pks.length - 1))) := by
  generalize hQ : (fun (m : xm_M) => fm plC μ m ∧ (∀ k, k ≠ 9 → k ≠ 10 → m.1 0 k = μ.1 0 k) ∧ cSS m sp (sSt pks (pks.length - 1))) = Q
  have hC := sC_b sp
  have h60 := hP.2.1
  have loop : ∀ (d j : Nat) (m : xm_M), j + 1 + d = pks.length → fm plC μ m → (∀ k, k ≠ 9 → k ≠ 10 → m.1 0 k = μ.1 0 k) → cSS m sp (sSt pks j) → hd_X8_playSounds_2 Q (nI (j + 1)) m := by
    intro d
    induction d with
    | zero =>
      intro j m hj hf h0 hs
      apply l_X8_playSounds_2
      refine pk_le pks.length (j + 1) (fun _ => ?_) (fun c => by omega) (by rw [(hf 3 (by decide)).1]; exact hP.1)
      rw [← hQ]
      rw [show pks.length - 1 = j by omega]
      exact ⟨hf, h0, hs⟩
    | succ d ih =>
      intro j m hj hf h0 hs
      have hPm : cPk m pks := hP.fr (fun c h1 h2 => (hf c (by unfold plC; simp; omega)).1)
      have hSm : cS m sp := hS.fr (fun c h1 h2 => (hf c (by unfold plC; simp; omega)).1)
      have hTm : tabC m := ⟨fun k hk => by rw [(hf 62 (by decide)).1]; exact hT.1 k hk, fun j hj => by rw [(hf 63 (by decide)).1]; exact hT.2 j hj⟩
      have hk : j + 1 < pks.length := by omega
      obtain ⟨a4, a5⟩ := hPm.2.2.2.1 (j + 1) hk
      obtain ⟨b1, b2⟩ := hPm.at hk
      have hsb := sSt_b pks j
      apply l_X8_playSounds_2
      refine pk_le pks.length (j + 1) (fun c => by omega) (fun _ => ⟨_, c_startOf (by omega), ?_⟩) hPm.1
      rintro r4 m3 ⟨e4, rfl⟩
      refine ⟨_, c_lengthOf (by omega), ?_⟩
      rintro r8 m7 ⟨e8, rfl⟩
      rw [e4, e8, a4, a5]
      refine ⟨_, c_open b1 b2, ?_⟩
      rintro m11 ⟨f11, p11⟩
      have hst : sSt pks (j + 1) = sStep sp (pks.getD (j + 1) []) (sSt pks j) := by rw [← hsp]; rfl
      generalize pks.getD (j + 1) [] = pk at *
      have hf11 : fm plC μ m11 := hf.tr (f11.mono (by decide))
      have g11 : ∀ c, c ≠ 7 → m11.1 c = m7.1 c ∧ m11.2.1 c = m7.2.1 c := fun c hc => f11 c (by simpa using hc)
      have hS11 : cS m11 sp := hSm.fr (fun c h1 h2 => (g11 c (by omega)).1)
      have h07' : m11.1 0 7 = nI (sC sp) := by rw [(g11 0 (by decide)).1, h0 7 (by decide) (by decide)]; exact h07
      refine ⟨_, c_learnCurves hok hS11 h07' p11, ?_⟩
      rintro r16 m15 ⟨f15, hr⟩
      have hf15 : fm plC μ m15 := hf11.tr (f15.mono (by decide))
      have g15 : ∀ c, c ∉ [7, 57, 58, 65, 66, 70, 71] → m15.1 c = m7.1 c ∧ m15.2.1 c = m7.2.1 c := fun c hc => by
        have h7 : c ≠ 7 := fun h => hc (by rw [h]; decide)
        exact ⟨(f15 c hc).1.trans (g11 c h7).1, (f15 c hc).2.trans (g11 c h7).2⟩
      have hL15 : cLf m15 sp (sSt pks j) := by
        refine ⟨fun h c hc n hn => ?_, fun c hc i hi => ?_⟩
        · rw [(g15 _ (by simp; omega)).2]; exact hs.2.2.1 h c hc n hn
        · rw [(g15 _ (by simp; omega)).1]; exact hs.2.2.2 c hc i hi
      rcases hr with ⟨r0, hn⟩ | ⟨r1, p, hp, hb, hv⟩
      · rw [r0]
        refine ⟨fun _ m19 e19 x20 e20 => ?_, fun c => absurd nI_0 c⟩
        have h1510 : m15.1 0 10 = nI (sSt pks j).2.1 := by rw [(g15 0 (by decide)).1]; exact hs.2.1
        rw [h1510, nI_add] at e19
        rw [e20, nI_add]
        have o19 : ∀ c, c ≠ 0 → m19.1 c = m15.1 c := fun c hc => by rw [e19, ri_n hc]
        refine ih (j + 1) m19 (by omega) (by rw [e19]; exact hf15.I (by decide)) (fun k h9 h10 => ?_) ?_
        · rw [e19, ri_e, upd_n h10, (g15 0 (by decide)).1]; exact h0 k h9 h10
        · have hst2 : sSt pks (j + 1) = ((sSt pks j).1, (sSt pks j).2.1 + 1, (sSt pks j).2.2) := by
            rw [hst]; unfold sStep; rw [if_pos hn]
          rw [hst2]
          refine ⟨?_, ?_, fun h c hc n hn => ?_, fun c hc i hi => ?_⟩
          · rw [e19, ri_e, upd_n (by decide), (g15 0 (by decide)).1]; exact hs.1
          · rw [e19, ri_e, upd_e]
          · rw [e19, ri_l]; exact hL15.1 h c hc n hn
          · rw [o19 _ (by omega)]; exact hL15.2 c hc i hi
      · rw [r1]
        refine ⟨fun c => absurd c (by decide), fun _ => ?_⟩
        have hS15 : cS m15 sp := hSm.fr (fun c h1 h2 => (g15 c (by simp; omega)).1)
        have h0715 : m15.1 0 7 = nI (sC sp) := by rw [(f15 0 (by decide)).1]; exact h07'
        refine ⟨_, c_learnRests hok hS15 h0715 hp hb hv, ?_⟩
        rintro m22 ⟨f22, h22⟩
        have hf22 : fm plC μ m22 := hf15.tr (f22.mono (by decide))
        have hT22 : tabC m22 := ⟨fun k hk => by rw [(hf22 62 (by decide)).1]; exact hT.1 k hk, fun j hj => by rw [(hf22 63 (by decide)).1]; exact hT.2 j hj⟩
        have h0922 : m22.1 0 9 = nI (sSt pks j).1 := by rw [(f22 0 (by decide)).1, (g15 0 (by decide)).1]; exact hs.1
        have hL22 : cLf m22 sp (sSt pks j) := by
          refine ⟨fun h c hc n hn => ?_, fun c hc i hi => ?_⟩
          · rw [(f22 _ (by simp; omega)).2]; exact hL15.1 h c hc n hn
          · rw [(f22 _ (by simp; omega)).1]; exact hL15.2 c hc i hi
        have hv22 : ∀ c, c < sC sp → cVo m22 sp pk c := fun c hc => by
          obtain ⟨q1, q2⟩ := hv c hc
          exact ⟨by rw [(f22 _ (by simp; omega)).1]; exact q1, fun h x hx => by rw [(f22 _ (by simp; omega)).1]; exact q2 h x hx⟩
        refine ⟨_, c_layHalves (s := sSt pks j) hT22 (by rw [(f22 0 (by decide)).1]; exact h0715) h0922 (by omega) hL22 hv22 h22, ?_⟩
        rintro m26 ⟨f26, h26⟩ m29 e29 x30 e30
        have h0926 : m26.1 0 9 = nI (sSt pks j).1 := by rw [(f26 0 (by decide)).1]; exact h0922
        rw [h0926, nI_add] at e29
        rw [e30, nI_add]
        have h026 : m26.1 0 = m7.1 0 := by rw [(f26 0 (by decide)).1, (f22 0 (by decide)).1, (g15 0 (by decide)).1]
        refine ih (j + 1) m29 (by omega) (by rw [e29]; exact (hf22.tr (f26.mono (by decide))).I (by decide)) (fun k h9 h10 => ?_) ?_
        · rw [e29, ri_e, upd_n h9, h026]; exact h0 k h9 h10
        · have hst2 : sSt pks (j + 1) = ((sSt pks j).1 + 1, (sSt pks j).2.1, fun c n => hlv (fc sp pk c) (16 + n), sSm sp pk (sSt pks j)) := by
            rw [hst]; unfold sStep; rw [if_neg (by rw [hp]; exact fun h => by cases h)]
          rw [hst2]
          refine ⟨?_, ?_, fun h c hc n hn => ?_, fun c hc i hi => ?_⟩
          · rw [e29, ri_e, upd_e]
          · rw [e29, ri_e, upd_n (by decide), h026]; exact hs.2.1
          · rw [e29, ri_l]; exact h26.1 h c hc n hn
          · rw [e29, ri_n (by omega)]; exact h26.2 c hc i hi
  apply g_X8_playSounds
  exact loop (pks.length - 1) 0 μ (by omega) fm.rf (fun k _ _ => rfl) ⟨h09, h010, fun h => absurd h (Nat.lt_irrefl 0), fun c hc i hi => absurd hi (Nat.not_lt_zero i)⟩
/-- the fault of a read -/
noncomputable def pkF (pks : List (List Int32)) : Nat := if pks.length = 0 then 1 else sF (pks.getD 0 [])
theorem pkF_8 (pks : List (List Int32)) : pkF pks < 8 := by
  unfold pkF
  split
  · decide
  · exact sF_8 _
theorem c_learnSetup {μ : xm_M} {pks : List (List Int32)} (hP : cPk μ pks) : xCi false false k_X8_learnSetup μ [.ref 0] (fun r m => fm lsS μ m ∧ r = nI (pkF pks) ∧ (pkF pks = 0 → cS m (pks.getD 0 []) ∧ 1 ≤ pks.length)) := by
  have h60 := hP.2.1
  apply g_X8_learnSetup
  rw [hP.1]
  refine ⟨fun c => ⟨_, c_startOf (by decide), ?_⟩, fun c => ?_⟩
  · have hk : 0 < pks.length := Nat.pos_of_ne_zero (fun h => c (by rw [h]; exact nI_0))
    obtain ⟨a4, a5⟩ := hP.2.2.2.1 0 hk
    obtain ⟨b1, b2⟩ := hP.at hk
    have hF : pkF pks = sF (pks.getD 0 []) := by unfold pkF; rw [if_neg (by omega)]
    rintro r4 m3 ⟨e4, rfl⟩
    refine ⟨_, c_lengthOf (by decide), ?_⟩
    rintro r8 m7 ⟨e8, rfl⟩
    rw [e4, e8, a4, a5]
    refine ⟨_, c_open b1 b2, ?_⟩
    rintro m11 ⟨f11, p11⟩
    refine ⟨_, c_slearn p11, ?_⟩
    rintro r16 m15 ⟨f15, e15, h15⟩
    rw [hF]
    exact ⟨(f11.mono (by decide)).tr f15, e15, fun h => ⟨h15 h, hk⟩⟩
  · have hz : pks.length = 0 := (neq0 (by omega)).mp c
    have hF : pkF pks = 1 := by unfold pkF; rw [if_pos hz]
    rw [hF]
    exact ⟨fm.rf, rfl, fun h => by omega⟩
/-- the end, where it is told -/
def cutW (last : Bool) (G : Int64) (w : Nat) : Nat := if last = true ∧ ¬ G < 0 ∧ G < lN w then G.toInt.toNat else w
theorem cutW_le {last : Bool} {G : Int64} {w : Nat} (hw : w < 2 ^ 31) : cutW last G w ≤ w := by
  unfold cutW
  split
  · rename_i h
    have := h.2.2
    rw [Int64.lt_iff_toInt_lt, lN_toInt hw] at this
    omega
  · exact Nat.le_refl _
theorem G_32 {G : Int64} {w : Nat} (hw : w < 2 ^ 31) (h0 : ¬ G < 0) (h1 : G < lN w) : G.toInt32 = nI G.toInt.toNat := by
  rw [Int64.lt_iff_toInt_lt, lN_toInt hw] at h1
  rw [Int64.lt_iff_toInt_lt, show (0 : Int64).toInt = 0 by decide] at h0
  apply Int32.toInt_inj.mp
  rw [Int64.toInt_toInt32, nI_toInt (by omega)]
  rw [Int.bmod_eq_of_le (by omega) (by omega)]
  omega
theorem c_cut {b : Bool} {μ : xm_M} {last : Bool} {G : Int64} {w : Nat} (hw : w < 2 ^ 31) (h5 : μ.1 3 5 = nI (if last = true then 1 else 0)) (h6 : μ.2.1 3 6 = G) : xCi b b k_X8_cutWhereTold μ [.ref 0, .int (nI w)] (fun r m => r = nI (cutW last G w) ∧ m = μ) := by
  apply g_X8_cutWhereTold
  rw [h5, h6, nI_l hw]
  have hge := lg_cmp_ge G (lN w)
  have hlt := lg_cmp_lt G 0
  unfold cutW
  refine ⟨fun c => ⟨?_, rfl⟩, fun c => ⟨fun c2 => ⟨?_, rfl⟩, fun c2 => ⟨fun c3 => ⟨?_, rfl⟩, fun c3 => ⟨?_, rfl⟩⟩⟩⟩
  · have : ¬ last = true := fun h => by rw [if_pos h] at c; exact absurd c (by decide)
    rw [if_neg (fun h => this h.1)]
  · rw [if_neg (fun h => h.2.1 (hlt.mp c2))]
  · rw [if_neg]
    rintro ⟨-, -, h⟩
    have := hge.mp c3
    rw [Int64.lt_iff_toInt_lt] at h
    rw [Int64.le_iff_toInt_le] at this
    omega
  · have h1 : last = true := by
      cases last with
      | true => rfl
      | false => exact absurd nI_0 c
    have h2 : ¬ G < 0 := fun h => c2 (hlt.mpr h)
    have h3 : G < lN w := by
      rw [hge, Int64.le_iff_toInt_le] at c3
      rw [Int64.lt_iff_toInt_lt]
      omega
    rw [if_pos ⟨h1, h2, h3⟩]
    exact G_32 hw h2 h3
