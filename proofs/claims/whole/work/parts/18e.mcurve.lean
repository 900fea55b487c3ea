theorem c_mcurve {b : Bool} {μ : xm_M} {sp pk : List Int32} {a c : Nat} (hok : sOK sp) (hS : mS μ sp) (hc : c < 2) (hI : mR μ pk a false) : xCi b b k_X9_curve μ [.ref 75, .int (nI c)] (fun r m => kV μ m c ∧ ((r = nI 0 ∧ crE sp pk a = none) ∨ (r = nI 1 ∧ ∃ p, crE sp pk a = some p ∧ mR m pk p false ∧ m.1 99 c = nI (if bb pk a = 0 then 1 else 0) ∧ (¬ bb pk a = 0 → ∀ x, x < 16 → m.2.1 98 (16 * c + x) = μ.2.1 77 (crH sp pk a x))))) := by
  generalize hQ : (fun (r : Int32) (m : xm_M) => kV μ m c ∧ ((r = nI 0 ∧ crE sp pk a = none) ∨ (r = nI 1 ∧ ∃ p, crE sp pk a = some p ∧ mR m pk p false ∧ m.1 99 c = nI (if bb pk a = 0 then 1 else 0) ∧ (¬ bb pk a = 0 → ∀ x, x < 16 → m.2.1 98 (16 * c + x) = μ.2.1 77 (crH sp pk a x))))) = Q
  have hR := sR_b sp
  have hRb := sRb_b sp
  have hMu := sMu_b sp
  have hPn := sPn_b sp
  have hb2 := bb_lt pk a
  have ha : a ≤ 8 * pk.length := by
    obtain ⟨K, b1, b2, b3, b4, b5, b6, b7, b8⟩ := hI
    exact b7
  have vc : vp_in (nI c) 2 := vin hc (by decide)
  have cc := cl (show c < 2 ^ 31 by omega)
  have no : ∀ m : xm_M, kV μ m c → crE sp pk a = none → Q (nI 0) m := fun m h1 h2 => by rw [← hQ]; exact ⟨h1, Or.inl ⟨rfl, h2⟩⟩
  -- the heights
  have hts : ∀ p, crE sp pk a = some p → ¬ bb pk a = 0 → ∀ (d x : Nat) (m : xm_M), x + d = 16 → kV μ m c → mR m pk p false → m.1 99 c = nI 0 → mYD m (sPn sp + 2) (cFin sp pk (a + 1)) → (∀ z, z < x → m.2.1 98 (16 * c + z) = μ.2.1 77 (crH sp pk a z)) → hd_X9_curve_300 b Q (nI c) (nI x) m := by
    intro p hp hbb d
    induction d with
    | zero =>
      intro x m hx hk hm h99 hY hz
      have hx16 : x = 16 := by omega
      apply l_X9_curve_300
      refine pk_le 16 x (fun _ => ?_) (fun c => by omega)
      rw [← hQ]
      exact ⟨hk, Or.inr ⟨rfl, p, hp, hm, by rw [if_neg hbb]; exact h99, fun _ z hz2 => hz z (by omega)⟩⟩
    | succ d ih =>
      intro x m hx hk hm h99 hY hz
      have hSm := hS.V hk
      have hlt := cSt_lt hok (v := pVl sp pk (a + 1 + 2 * sRb sp)) (cy0_lt sp pk (a + 1)) (cy0_lt sp pk (a + 1 + sRb sp)) (sPn sp) (Nat.le_refl _)
      apply l_X9_curve_300
      refine pk_le 16 x (fun c => by omega) (fun _ => ⟨_, c_mheight (s := cFin sp pk (a + 1)) hok hSm.2.2.2.1 hSm.2.1 hSm.2.2.2.2.1 hY (fun i => Nat.lt_of_lt_of_le (hlt i) hR.2) (cSt_D (sPn sp)) (by omega), ?_⟩)
      rintro r4 m3 ⟨e4, rfl⟩
      rw [pk_mul, nI_add, cl (by omega)]
      refine ⟨vin (by omega) (by decide), fun m7 e7 x8 e8 => ?_⟩
      rw [e8, nI_add]
      refine ih (x + 1) m7 (by omega) (by rw [e7]; exact hk.tr (kV.l (by omega))) (by rw [e7]; exact hm) (by rw [e7]; exact h99) (by rw [e7]; exact hY) (lt_s (fun z hz2 => ?_) ?_)
      · rw [e7, rl_e, updL_n (by omega)]
        exact hz z hz2
      · rw [e7, rl_e, updL_e, e4, hk.2.2.2.1 77 (by decide)]
        rfl
  -- the posts
  have psts : ∀ p, crE sp pk a = some p → ¬ bb pk a = 0 → ∀ (d j : Nat) (m : xm_M), j + d = sPn sp → kV μ m c → mR m pk p false → m.1 99 c = nI 0 → (∀ i, i < sPn sp → m.1 100 (i + 2) = nI (pVl sp pk (a + 1 + 2 * sRb sp) i)) → mYD m (j + 2) (cSt sp (cy0 sp pk (a + 1)) (cy0 sp pk (a + 1 + sRb sp)) (pVl sp pk (a + 1 + 2 * sRb sp)) j) → hd_X9_curve_172 b Q (nI c) (nI (j + 2)) m := by
    intro p hp hbb d
    induction d with
    | zero =>
      intro j m hj hk hm h99 hv hY
      have hjn : j = sPn sp := by omega
      have hSm := hS.V hk
      apply l_X9_curve_172
      refine pk_le (sPn sp + 2) (j + 2) (fun _ => ?_) (fun c => by omega) (by rw [hSm.2.2.2.1, nI_add])
      rw [hjn] at hY
      exact hts p hp hbb 16 0 m rfl hk hm h99 hY (fun z hz => by omega)
    | succ d ih =>
      intro j m hj hk hm h99 hv hY
      have hSm := hS.V hk
      have hX := hSm.2.2.2.2.1
      have hlh := sLH_ok hok (show j < sPn sp by omega)
      generalize hv0 : pVl sp pk (a + 1 + 2 * sRb sp) = v at hv hY ih
      have hvb : v j < 64 := by rw [← hv0]; exact pVl_b _ _ _ _
      generalize hsl : sLH sp (j + 2) = sl at hlh
      obtain ⟨lo, hi⟩ := sl
      replace hlh : LH (sX sp) (j + 2) lo hi := hlh
      have hlo : lo < j + 2 := hlh.1
      have hhi : hi < j + 2 := hlh.2.1
      have h0 := cy0_lt sp pk (a + 1)
      have h1 := cy0_lt sp pk (a + 1 + sRb sp)
      generalize cy0 sp pk (a + 1) = y0 at hY h0 ih
      generalize cy0 sp pk (a + 1 + sRb sp) = y1 at hY h1 ih
      have yl := cSt_lt hok (v := v) h0 h1 j (by omega) lo
      have yh := cSt_lt hok (v := v) h0 h1 j (by omega) hi
      have hf := fT_lt hok (v := v) h0 h1 (show j < sPn sp by omega)
      have xb := sX_b sp hi
      have vj : vp_in (nI (j + 2)) 18 := vin (by omega) (by decide)
      have vl : vp_in (nI lo) 18 := vin (by omega) (by decide)
      have vh : vp_in (nI hi) 18 := vin (by omega) (by decide)
      have hinj : ∀ i i', i < j + 2 → i' < j + 2 → sX sp i = sX sp i' → i = i' := fun i i' h h' => sInj hok i i' (by omega) (by omega)
      have hne : ∀ i, i < j + 2 → sX sp i ≠ sX sp (j + 2) := (hok.2.2.1 j (by omega)).2.2
      have hXk : ∀ i, i ≤ j + 2 → m.1 94 i = nI (sX sp i) := fun i hi => hX i (by omega)
      apply l_X9_curve_172
      refine pk_le (sPn sp + 2) (j + 2) (fun c => by omega) (fun _ => ⟨_, c_mbesideL (by omega) hXk (sX_b sp) hinj hne hlh, ?_⟩) (by rw [hSm.2.2.2.1, nI_add])
      rintro r4 m3 ⟨e4, rfl⟩
      refine ⟨_, c_mbesideH (by omega) hXk (sX_b sp) hinj hne hlh, ?_⟩
      rintro r8 m7 ⟨e8, rfl⟩
      rw [cl (show j + 2 < 2 ^ 31 by omega), e4, e8, hX (j + 2) (by omega)]
      refine ⟨vj, _, c_mline (X := sX sp) (Y := (cSt sp y0 y1 v j).1) (by omega) (by omega) ⟨hX lo (by omega), hX hi (by omega)⟩ ⟨(hY lo hlo).1, (hY hi hhi).1⟩ (Nat.lt_trans hlh.2.2.1 hlh.2.2.2.1) (Nat.le_of_lt hlh.2.2.1) (Nat.le_of_lt hlh.2.2.2.1) xb (Nat.lt_of_lt_of_le yl hR.2) (Nat.lt_of_lt_of_le yh hR.2), ?_⟩
      rintro r13 m12 ⟨e13, rfl⟩
      have hft : lnN (sX sp lo) ((cSt sp y0 y1 v j).1 lo) (sX sp hi) ((cSt sp y0 y1 v j).1 hi) (sX sp (j + 2)) = fT sp (cSt sp y0 y1 v j) j := by
        unfold fT
        rw [hsl]
      rw [hft] at e13
      rw [e13, nb0, nb1, hv j (by omega)]
      refine ⟨vj, pk_le (v j) 0 (fun cz => ⟨vj, fun m18 e18 => ⟨vj, ?_⟩⟩) (fun cz => ⟨vj, fun m43 e43 => ⟨vj, ?_⟩⟩) rfl nI_0.symm⟩
      · have hz : v j = 0 := by omega
        have g18 : m18.1 97 (j + 2) = nI 0 := by rw [e18, ri_e, upd_e]
        rw [g18]
        refine ⟨fun _ => ⟨vj, fun m22 e22 => ⟨vj, ?_⟩⟩, fun cx => absurd nI_0 cx⟩
        have g22 : m22.1 97 (j + 2) = nI 0 := by rw [e22, ri_n (by decide)]; exact g18
        rw [g22]
        refine ⟨fun _ => ?_, fun cx => absurd nI_0 cx⟩
        apply l_X9_curve_292
        intro x1 e1
        rw [e1, nI_add]
        refine ih (j + 1) m22 (by omega) (by rw [e22, e18]; exact (hk.tr (kV.s (by decide))).tr (kV.s (by decide))) (by rw [e22, e18]; exact (hm.u (by decide) (by decide)).u (by decide) (by decide)) (by rw [e22, ri_n (by decide), e18, ri_n (by decide)]; exact h99) (fun i hi => by rw [e22, ri_n (by decide), e18, ri_n (by decide)]; exact hv i hi) (fun k hk2 => ?_)
        rw [cSt_0 hz, e22, ri_e, ri_n (by decide), e18, ri_n (by decide), ri_e]
        by_cases hkj : k = j + 2
        · rw [hkj, upd_e, upd_e]
          show _ = nI (if j + 2 = j + 2 then _ else _) ∧ _ = nI (if (if j + 2 = j + 2 then false else _) = true then 1 else 0)
          rw [if_pos rfl, if_pos rfl]
          exact ⟨rfl, rfl⟩
        · rw [upd_n hkj, upd_n hkj]
          show _ = nI (if k = j + 2 then _ else _) ∧ _ = nI (if (if k = j + 2 then false else _) = true then 1 else 0)
          rw [if_neg hkj, if_neg hkj]
          exact hY k (by omega)
      · have hz : ¬ v j = 0 := by omega
        have g43 : m43.1 97 (j + 2) = nI 1 := by rw [e43, ri_e, upd_e]
        have n1 : ¬ nI 1 = 0 := by decide
        rw [g43]
        refine ⟨fun cx => absurd cx n1, fun _ => ⟨vj, ?_⟩⟩
        rw [show m43.1 100 (j + 2) = nI (v j) by rw [e43, ri_n (by decide)]; exact hv j (by omega)]
        refine ⟨_, c_mtold _ (show m43.1 75 32 = nI (sMu sp) by rw [e43, ri_n (by decide)]; exact hSm.2.1) hf hvb, ?_⟩
        rintro r57 m56 ⟨e57, rfl⟩
        refine ⟨vj, fun m60 e60 => ⟨vj, ?_⟩⟩
        have g60 : m60.1 97 (j + 2) = nI 1 := by rw [e60, ri_n (by decide)]; exact g43
        rw [g60, cl (show lo < 2 ^ 31 by omega), cl (show hi < 2 ^ 31 by omega)]
        refine ⟨fun cx => absurd cx n1, fun _ => ⟨vl, fun m64 e64 => ⟨vh, fun m66 e66 => ?_⟩⟩⟩
        apply l_X9_curve_292
        intro x1 e1
        rw [e1, nI_add]
        have o66 : ∀ k, k ≠ 96 → k ≠ 97 → m66.1 k = m12.1 k := fun k q1 q2 => by rw [e66, ri_n q2, e64, ri_n q2, e60, ri_n q1, e43, ri_n q2]
        refine ih (j + 1) m66 (by omega) (by rw [e66, e64, e60, e43]; exact (((hk.tr (kV.s (by decide))).tr (kV.s (by decide))).tr (kV.s (by decide))).tr (kV.s (by decide))) (by rw [e66, e64, e60, e43]; exact (((hm.u (by decide) (by decide)).u (by decide) (by decide)).u (by decide) (by decide)).u (by decide) (by decide)) (by rw [o66 99 (by decide) (by decide)]; exact h99) (fun i hi => by rw [o66 100 (by decide) (by decide)]; exact hv i hi) (fun k hk2 => ?_)
        have d96 : m66.1 96 = upd (m12.1 96) (j + 2) (nI (tolN (sR sp) (fT sp (cSt sp y0 y1 v j) j) (v j))) := by
          rw [e66, ri_n (by decide), e64, ri_n (by decide), e60, ri_e, e43, ri_n (by decide), e57]
        have d97 : m66.1 97 = upd (upd (upd (m12.1 97) (j + 2) (nI 1)) lo (nI 1)) hi (nI 1) := by
          rw [e66, ri_e, e64, ri_e, e60, ri_n (by decide), e43, ri_e]
        rw [cSt_1 hz, d96, d97, hsl]
        show _ = nI (if k = j + 2 then _ else _) ∧ _ = nI (if (if k = j + 2 ∨ k = lo ∨ k = hi then true else _) = true then 1 else 0)
        constructor
        · by_cases hkj : k = j + 2
          · rw [hkj, upd_e, if_pos rfl]
          · rw [upd_n hkj, if_neg hkj]
            exact (hY k (by omega)).1
        · by_cases hkh : k = hi
          · rw [hkh, upd_e, if_pos (Or.inr (Or.inr rfl)), if_pos rfl]
          · rw [upd_n hkh]
            by_cases hkl : k = lo
            · rw [hkl, upd_e, if_pos (Or.inr (Or.inl rfl)), if_pos rfl]
            · rw [upd_n hkl]
              by_cases hkj : k = j + 2
              · rw [hkj, upd_e, if_pos (Or.inl rfl), if_pos rfl]
              · rw [upd_n hkj, if_neg (by omega : ¬ (k = j + 2 ∨ k = lo ∨ k = hi))]
                exact (hY k (by omega)).2
  -- their entries
  have ents : ¬ bb pk a = 0 → a + 1 + 2 * sRb sp ≤ 8 * pk.length → ∀ (d j p : Nat) (m : xm_M), j + d = sPn sp → pCh sp pk (a + 1 + 2 * sRb sp) j = some p → kV μ m c → mR m pk p false → m.1 99 c = nI 0 → (∀ i, i < j → m.1 100 (i + 2) = nI (pVl sp pk (a + 1 + 2 * sRb sp) i)) → mYD m 2 (cSt sp (cy0 sp pk (a + 1)) (cy0 sp pk (a + 1 + sRb sp)) (pVl sp pk (a + 1 + 2 * sRb sp)) 0) → hd_X9_curve_131 b Q (nI c) (nI (j + 2)) m := by
    intro hbb hle d
    have hcr : crE sp pk a = pCh sp pk (a + 1 + 2 * sRb sp) (sPn sp) := by
      unfold crE
      rw [if_neg (by omega), if_neg hbb, if_neg (by omega)]
    induction d with
    | zero =>
      intro j p m hj hp hk hm h99 hv hY
      have hjn : j = sPn sp := by omega
      have hSm := hS.V hk
      apply l_X9_curve_131
      refine pk_le (sPn sp + 2) (j + 2) (fun _ => ?_) (fun c => by omega) (by rw [hSm.2.2.2.1, nI_add])
      rw [hjn] at hp hv
      exact psts p (hcr.trans hp) hbb (sPn sp) 0 m (by omega) hk hm h99 hv hY
    | succ d ih =>
      intro j p m hj hp hk hm h99 hv hY
      have hSm := hS.V hk
      have hpb := hok.1
      have hBn := sBn_b sp
      apply l_X9_curve_131
      rw [hSm.2.2.2.2.2.1]
      refine pk_le (sPn sp + 2) (j + 2) (fun c => by omega) (fun _ => ⟨_, c_mnxt (by omega) (hSm.2.2.2.2.2.2.2.2.2.2 _ hpb) hm, ?_⟩) (by rw [hSm.2.2.2.1, nI_add])
      rintro r4 m3 ⟨f3, hx⟩
      rw [cl (show j + 2 < 2 ^ 31 by omega)]
      refine ⟨vin (by omega) (by decide), fun m7 e7 => ?_⟩
      have k7 : kV μ m7 c := by rw [e7]; exact (hk.tr f3.kV).tr (kV.s (by decide))
      rcases hx with ⟨e, d2, h1, h2, h3⟩ | ⟨h1, h2, a', h3⟩
      · obtain ⟨g1, g2⟩ := pCh_s hp h1
        have h7 : mR m7 pk (p + d2) false := by rw [e7]; exact h3.u (by decide) (by decide)
        have h17 := h7.ov17
        rw [h17]
        refine ⟨fun _ x9 e9 => ?_, fun c2 => absurd rfl c2⟩
        rw [e9, nI_add]
        refine ih (j + 1) (p + d2) m7 (by omega) g1 k7 h7 (by rw [e7, ri_n (by decide), f3.1 99 (by decide)]; exact h99) (lt_s (fun i hi => ?_) ?_) (fun k hk2 => ?_)
        · rw [e7, ri_e, upd_n (by omega), f3.1 100 (by decide)]
          exact hv i hi
        · rw [e7, ri_e, upd_e, h2, g2]
        · rw [e7, ri_n (by decide), ri_n (by decide), f3.1 96 (by decide), f3.1 97 (by decide)]
          exact hY k hk2
      · have h7 : mR m7 pk a' true := by rw [e7]; exact h3.u (by decide) (by decide)
        have h17 := h7.ov17
        rw [h17]
        refine ⟨fun c2 => absurd c2 (by decide), fun _ => ?_⟩
        exact no m7 k7 (by rw [hcr]; exact pCh_up (pCh_n hp h1) _ (by omega))
  -- the ends
  have ends : ¬ bb pk a = 0 → a + 1 ≤ 8 * pk.length → ∀ m : xm_M, kV μ m c → mP m pk (a + 1) → m.1 99 c = nI 0 → hd_X9_curve_69 b Q (nI c) (nI (sRb sp)) (nI 0) m := by
    intro hbb hle m hk hm h99
    have step : ∀ (i p : Nat) (m : xm_M), i < 2 → kV μ m c → mP m pk p → (∀ m15 : xm_M, kV μ m15 c → mP m15 pk (p + sRb sp) → m15.1 96 = upd (m.1 96) i (nI (cy0 sp pk p)) → m15.1 97 = upd (m.1 97) i (nI 1) → m15.1 99 = m.1 99 → hd_X9_curve_69 b Q (nI c) (nI (sRb sp)) (nI (i + 1)) m15) → hd_X9_curve_69 b Q (nI c) (nI (sRb sp)) (nI i) m := by
      intro i p m hi hk hm kk
      have hSm := hS.V hk
      apply l_X9_curve_69
      refine pk_le 2 i (fun c => by omega) (fun _ => ⟨_, v_mbits (sRb sp) hRb.2 hm, ?_⟩)
      rintro r5 m4 ⟨f4, e4, p4⟩
      have k4 : kV μ m4 c := hk.tr f4.kV
      have h32 : m4.1 75 32 = nI (sMu sp) := (hS.V k4).2.1
      have hv := nv_31 pk p hRb.2
      refine ⟨_, c_mrange h32, ?_⟩
      rintro r9 m8 ⟨e9, rfl⟩
      rw [e4, e9, nb1, cl (show i < 2 ^ 31 by omega)]
      have vi : vp_in (nI i) 18 := vin (by omega) (by decide)
      have go : ∀ (v : Int32) (m13 m15 : xm_M), m13 = xu_I m8 96 (upd (m8.1 96) i v) → m15 = xu_I m13 97 (upd (m13.1 97) i (nI 1)) → v = nI (cy0 sp pk p) → ∀ x16 : Int32, x16 = nI i + nI 1 → hd_X9_curve_69 b Q (nI c) (nI (sRb sp)) x16 m15 := by
        intro v m13 m15 e13 e15 hvv x16 e16
        rw [e16, nI_add]
        refine kk m15 (by rw [e15, e13]; exact (k4.tr (kV.s (by decide))).tr (kV.s (by decide))) (by rw [e15, e13]; exact (p4.u (by decide) (by decide)).u (by decide) (by decide)) ?_ ?_ ?_
        · rw [e15, ri_n (by decide), e13, ri_e, hvv, f4.1 96 (by decide)]
        · rw [e15, ri_e, e13, ri_n (by decide), f4.1 97 (by decide)]
        · rw [e15, ri_n (by decide), e13, ri_n (by decide), f4.1 99 (by decide)]
      refine pk_lt (nv pk p (sRb sp)) (sR sp) (fun c1 => ⟨vi, fun m13 e13 => ⟨vi, fun m15 e15 => go _ m13 m15 e13 e15 ?_⟩⟩) (fun c1 => ⟨_, c_mrange h32, ?_⟩)
      · unfold cy0
        rw [Nat.min_eq_left (by omega)]
      · rintro r19 m18 ⟨e19, rfl⟩
        rw [e19, pk_sub (by omega)]
        refine ⟨vi, fun m13 e13 => ⟨vi, fun m15 e15 => go _ m13 m15 e13 e15 ?_⟩⟩
        unfold cy0
        rw [Nat.min_eq_right (by omega)]
    refine step 0 (a + 1) m (by decide) hk hm (fun m1 k1 p1 d96 d97 d99 => ?_)
    refine step 1 (a + 1 + sRb sp) m1 (by decide) k1 p1 (fun m2 k2 p2 g96 g97 g99 => ?_)
    rw [show a + 1 + sRb sp + sRb sp = a + 1 + 2 * sRb sp by omega] at p2
    apply l_X9_curve_69
    rw [p2.ov]
    refine pk_le 2 (1 + 1) (fun _ => ?_) (fun c => by omega)
    by_cases ho : 8 * pk.length < a + 1 + 2 * sRb sp
    · rw [if_pos ho]
      refine ⟨fun c2 => absurd c2 (by decide), fun _ => no m2 k2 ?_⟩
      unfold crE
      rw [if_neg (by omega), if_neg hbb, if_pos ho]
    · rw [if_neg ho]
      refine ⟨fun _ => ?_, fun c2 => absurd nI_0 c2⟩
      refine ents hbb (by omega) (sPn sp) 0 _ m2 (by omega) rfl k2 (p2.R (by omega)) (by rw [g99, d99]; exact h99) (fun i hi => by omega) (fun k hk2 => ?_)
      rw [g96, g97, d96, d97]
      rcases (by omega : k = 0 ∨ k = 1) with rfl | rfl
      · rw [upd_n (by decide), upd_e, upd_n (by decide), upd_e]
        exact ⟨rfl, rfl⟩
      · rw [upd_e, upd_e]
        exact ⟨rfl, rfl⟩
  refine g_X9_curve _ ⟨_, v_mbit hI.P, ?_⟩
  rintro r3 m2 ⟨f2, e2, p2⟩
  rw [cc, e2, nb0, nb1]
  have none1 : 8 * pk.length < a + 1 → crE sp pk a = none := fun h => by unfold crE; rw [if_pos h]
  refine ⟨fun cb => ⟨vc, fun m7 e7 => ?_⟩, fun cb => ⟨vc, fun m14 e14 => ?_⟩⟩
  · have hbb : ¬ bb pk a = 0 := fun h => cb (by rw [h]; exact nI_0)
    have k7 : kV μ m7 c := by rw [e7]; exact f2.kV.tr kV.s99
    have p7 : mP m7 pk (a + 1) := by rw [e7]; exact p2.u (by decide) (by decide)
    have h99 : m7.1 99 c = nI 0 := by rw [e7, ri_e, upd_e]
    rw [p7.ov, h99, (hS.V k7).2.1]
    by_cases ho : 8 * pk.length < a + 1
    · rw [if_pos ho]
      exact ⟨fun c2 => absurd c2 (by decide), fun _ => no m7 k7 (none1 ho)⟩
    · rw [if_neg ho]
      have hen := ends hbb (by omega) m7 k7 p7 h99
      refine ⟨fun _ => ⟨vc, fun _ => ⟨fun c1 => ⟨fun c4 => ?_, fun c4 => ?_⟩, fun c1 => ?_⟩, fun c2 => absurd nI_0 c2⟩, fun c2 => absurd nI_0 c2⟩
      · have h1 : ¬ sMu sp = 1 := fun h => c1 (by rw [h])
        have h4 : ¬ sMu sp = 4 := fun h => c4 (by rw [h])
        have : sRb sp = 7 := by unfold sRb; rw [if_neg h1, if_neg h4]
        rw [this] at hen
        exact hen
      · have h4 : sMu sp = 4 := nI_inj (by omega) (by decide) c4
        have : sRb sp = 6 := by unfold sRb; rw [if_neg (by omega), if_pos h4]
        rw [this] at hen
        exact hen
      · have h1 : sMu sp = 1 := nI_inj (by omega) (by decide) c1
        have : sRb sp = 8 := by unfold sRb; rw [if_pos h1]
        rw [this] at hen
        exact hen
  · have hbb : bb pk a = 0 := (neq0 (by omega)).mp cb
    have k7 : kV μ m14 c := by rw [e14]; exact f2.kV.tr kV.s99
    have p7 : mP m14 pk (a + 1) := by rw [e14]; exact p2.u (by decide) (by decide)
    have h99 : m14.1 99 c = nI 1 := by rw [e14, ri_e, upd_e]
    rw [p7.ov, h99]
    by_cases ho : 8 * pk.length < a + 1
    · rw [if_pos ho]
      exact ⟨fun c2 => absurd c2 (by decide), fun _ => no m14 k7 (none1 ho)⟩
    · rw [if_neg ho]
      refine ⟨fun _ => ⟨vc, fun c2 => absurd c2 (by decide), fun _ => ?_⟩, fun c2 => absurd nI_0 c2⟩
      rw [← hQ]
      exact ⟨k7, Or.inr ⟨rfl, a + 1, by unfold crE; rw [if_neg ho, if_pos hbb], p7.R (by omega), by rw [if_pos hbb]; exact h99, fun h => absurd hbb h⟩⟩
