/-! ===== the reference's curve ===== -/
theorem c_mbesideL {b : Bool} {μ : xm_M} {X : Nat → Nat} {k lo hi : Nat} (hk : k < 18) (hX : ∀ i, i ≤ k → μ.1 94 i = nI (X i)) (hb : ∀ i, X i < 32) (hinj : ∀ i j, i < k → j < k → X i = X j → i = j) (hne : ∀ i, i < k → X i ≠ X k) (h : LH X k lo hi) : xCi b b k_X9_beside μ [.ref 75, .int (nI k), .int (nI 0)] (fun r m => r = nI lo ∧ m = μ) := by
  obtain ⟨l1, l2, l3, l4, l5, l6⟩ := h
  have loop : ∀ (d i : Nat) (f : Int32), i + d = k → ((f = -1 ∧ ∀ j, j < i → X k < X j) ∨ ∃ l, f = nI l ∧ l < i ∧ X l < X k ∧ ∀ j, j < i → X j < X k → X j ≤ X l) → hd_X9_beside_5 b (fun r m => r = nI lo ∧ m = μ) (nI k) (nI 0) f (nI i) μ := by
    intro d
    induction d with
    | zero =>
      intro i f hi hF
      have : i = k := by omega
      subst this
      apply l_X9_beside_5
      refine pk_le i i (fun _ => ⟨?_, rfl⟩) (fun c => by omega)
      rcases hF with ⟨_, g2⟩ | ⟨l, g1, g2, g3, g4⟩
      · have := g2 lo l1
        omega
      · have := g4 lo l1 l3
        have := l5 l g2 g3
        rw [g1, hinj l lo g2 l1 (by omega)]
    | succ d ih =>
      intro i f hi hF
      have bi := hb i
      have bk := hb k
      have hki := hne i (by omega)
      have vi : vp_in (nI i) 18 := vin (by omega) (by decide)
      apply l_X9_beside_5
      rw [cl (show i < 2 ^ 31 by omega), cl (show k < 2 ^ 31 by omega), hX i (by omega), hX k (Nat.le_refl _)]
      refine pk_le k i (fun c => by omega) (fun _ => ⟨fun _ => ⟨vi, vin (by omega) (by decide), ?_⟩, fun c => absurd nI_0 c⟩)
      refine pk_le (X i) (X k) (fun c => ?_) (fun c x19 e19 => ?_)
      · rcases hF with ⟨rfl, g2⟩ | ⟨l, rfl, g2, g3, g4⟩
        · refine ⟨fun _ x7 e7 => ?_, fun c2 => absurd (by decide) c2⟩
          rw [e7, nI_add]
          exact ih (i + 1) _ (by omega) (Or.inr ⟨i, rfl, by omega, by omega, lt_s (fun j hj hlt => by have := g2 j hj; omega) (fun _ => Nat.le_refl _)⟩)
        · have bl := hb l
          refine ⟨fun c2 => absurd c2 (n0 (by omega)), fun _ => ⟨fun _ => ⟨vi, vin (by omega) (by decide), ?_⟩, fun c2 => absurd nI_0 c2⟩⟩
          rw [cl (show l < 2 ^ 31 by omega), hX l (by omega)]
          refine pk_le (X i) (X l) (fun c2 x12 e12 => ?_) (fun c2 x13 e13 => ?_)
          · rw [e12, nI_add]
            exact ih (i + 1) _ (by omega) (Or.inr ⟨l, rfl, by omega, g3, lt_s g4 (fun _ => c2)⟩)
          · rw [e13, nI_add]
            exact ih (i + 1) _ (by omega) (Or.inr ⟨i, rfl, by omega, by omega, lt_s (fun j hj hlt => by have := g4 j hj hlt; omega) (fun _ => Nat.le_refl _)⟩)
      · rw [e19, nI_add]
        refine ih (i + 1) _ (by omega) ?_
        rcases hF with ⟨g1, g2⟩ | ⟨l, g1, g2, g3, g4⟩
        · exact Or.inl ⟨g1, lt_s g2 c⟩
        · exact Or.inr ⟨l, g1, by omega, g3, lt_s g4 (fun h => by omega)⟩
  apply g_X9_beside
  exact loop k 0 _ (by omega) (Or.inl ⟨rfl, fun j hj => by omega⟩)
theorem c_mbesideH {b : Bool} {μ : xm_M} {X : Nat → Nat} {k lo hi : Nat} (hk : k < 18) (hX : ∀ i, i ≤ k → μ.1 94 i = nI (X i)) (hb : ∀ i, X i < 32) (hinj : ∀ i j, i < k → j < k → X i = X j → i = j) (hne : ∀ i, i < k → X i ≠ X k) (h : LH X k lo hi) : xCi b b k_X9_beside μ [.ref 75, .int (nI k), .int (nI 1)] (fun r m => r = nI hi ∧ m = μ) := by
  obtain ⟨l1, l2, l3, l4, l5, l6⟩ := h
  have n1 : ¬ nI 1 = 0 := by decide
  have loop : ∀ (d i : Nat) (f : Int32), i + d = k → ((f = -1 ∧ ∀ j, j < i → X j < X k) ∨ ∃ l, f = nI l ∧ l < i ∧ X k < X l ∧ ∀ j, j < i → X k < X j → X l ≤ X j) → hd_X9_beside_5 b (fun r m => r = nI hi ∧ m = μ) (nI k) (nI 1) f (nI i) μ := by
    intro d
    induction d with
    | zero =>
      intro i f hi0 hF
      have : i = k := by omega
      subst this
      apply l_X9_beside_5
      refine pk_le i i (fun _ => ⟨?_, rfl⟩) (fun c => by omega)
      rcases hF with ⟨_, g2⟩ | ⟨l, g1, g2, g3, g4⟩
      · have := g2 hi l2
        omega
      · have := g4 hi l2 l4
        have := l6 l g2 g3
        rw [g1, hinj l hi g2 l2 (by omega)]
    | succ d ih =>
      intro i f hi0 hF
      have bi := hb i
      have bk := hb k
      have hki := hne i (by omega)
      have vi : vp_in (nI i) 18 := vin (by omega) (by decide)
      apply l_X9_beside_5
      rw [cl (show i < 2 ^ 31 by omega), cl (show k < 2 ^ 31 by omega), hX i (by omega), hX k (Nat.le_refl _)]
      refine pk_le k i (fun c => by omega) (fun _ => ⟨fun c => absurd c n1, fun _ => ⟨vi, vin (by omega) (by decide), ?_⟩⟩)
      refine pk_le (X k) (X i) (fun c => ?_) (fun c x19 e19 => ?_)
      · rcases hF with ⟨rfl, g2⟩ | ⟨l, rfl, g2, g3, g4⟩
        · refine ⟨fun _ x7 e7 => ?_, fun c2 => absurd (by decide) c2⟩
          rw [e7, nI_add]
          exact ih (i + 1) _ (by omega) (Or.inr ⟨i, rfl, by omega, by omega, lt_s (fun j hj hlt => by have := g2 j hj; omega) (fun _ => Nat.le_refl _)⟩)
        · have bl := hb l
          refine ⟨fun c2 => absurd c2 (n0 (by omega)), fun _ => ⟨fun c2 => absurd c2 n1, fun _ => ⟨vi, vin (by omega) (by decide), ?_⟩⟩⟩
          rw [cl (show l < 2 ^ 31 by omega), hX l (by omega)]
          refine pk_le (X l) (X i) (fun c2 x12 e12 => ?_) (fun c2 x13 e13 => ?_)
          · rw [e12, nI_add]
            exact ih (i + 1) _ (by omega) (Or.inr ⟨l, rfl, by omega, g3, lt_s g4 (fun _ => c2)⟩)
          · rw [e13, nI_add]
            exact ih (i + 1) _ (by omega) (Or.inr ⟨i, rfl, by omega, by omega, lt_s (fun j hj hlt => by have := g4 j hj hlt; omega) (fun _ => Nat.le_refl _)⟩)
      · rw [e19, nI_add]
        refine ih (i + 1) _ (by omega) ?_
        rcases hF with ⟨g1, g2⟩ | ⟨l, g1, g2, g3, g4⟩
        · exact Or.inl ⟨g1, lt_s g2 c⟩
        · exact Or.inr ⟨l, g1, by omega, g3, lt_s g4 (fun h => by omega)⟩
  apply g_X9_beside
  exact loop k 0 _ (by omega) (Or.inl ⟨rfl, fun j hj => by omega⟩)
theorem c_mheight {b : Bool} {μ : xm_M} {sp : List Int32} {s : (Nat → Nat) × (Nat → Bool)} {x : Nat} (hok : sOK sp) (h33 : μ.1 75 33 = nI (sPn sp)) (h32 : μ.1 75 32 = nI (sMu sp)) (hX : ∀ k, k < sPn sp + 2 → μ.1 94 k = nI (sX sp k)) (hY : mYD μ (sPn sp + 2) s) (hs : ∀ i, s.1 i < 256) (hD : s.2 0 = true ∧ s.2 1 = true) (hx : x < 16) : xCl b b k_X9_height μ [.ref 75, .int (nI x)] (fun r m => r = μ.2.1 77 (hF sp s x) ∧ m = μ) := by
  have hPn := sPn_b sp
  have hMu := sMu_b sp
  have loop : ∀ (d k p q : Nat), k + d = sPn sp + 2 → p < sPn sp + 2 → q < sPn sp + 2 → s.2 p = true → s.2 q = true → sX sp p ≤ x → x < sX sp q → (∀ i, i < k → s.2 i = true → sX sp i ≤ x → sX sp i ≤ sX sp p) → (∀ i, i < k → s.2 i = true → x < sX sp i → sX sp q ≤ sX sp i) → hd_X9_height_7 b (fun r m => r = μ.2.1 77 (hF sp s x) ∧ m = μ) (nI x) (nI p) (nI q) (nI k) μ := by
    intro d
    induction d with
    | zero =>
      intro k p q hk hp hq hDp hDq hxp hxq g1 g2
      have hkP : k = sPn sp + 2 := by omega
      rw [hkP] at g1 g2
      have hb := sX_b sp q
      have hl : lnN (sX sp p) (s.1 p) (sX sp q) (s.1 q) x < 256 := lnN_lt hxp (by omega) (hs p) (hs q)
      have hw : lnN (sX sp p) (s.1 p) (sX sp q) (s.1 q) x * sMu sp < 2 ^ 31 := Nat.lt_of_le_of_lt (Nat.mul_le_mul (Nat.le_of_lt hl) hMu.2) (by decide)
      have he := hF_eq hok (s := s) ⟨hp, hq, hDp, hDq, hxp, hxq, g1, g2⟩
      apply l_X9_height_7
      refine pk_le (sPn sp + 2) k (fun _ => ⟨_, c_mline (X := sX sp) (Y := s.1) (by omega) (by omega) ⟨hX p hp, hX q hq⟩ ⟨(hY p hp).1, (hY q hq).1⟩ (by omega) hxp (by omega) hb (hs p) (hs q), ?_⟩) (fun c => by omega) (by rw [h33, nI_add])
      rintro r4 m3 ⟨e4, rfl⟩ x6 e6
      rw [e4, h32, pk_mul] at e6
      rw [e6]
      refine pk_le (lnN (sX sp p) (s.1 p) (sX sp q) (s.1 q) x * sMu sp) 255 (fun c => ⟨vin (by omega) (by decide), ?_, rfl⟩) (fun c => ⟨vin (by decide) (by decide), ?_, rfl⟩)
      · rw [cl (by omega), he]
        unfold hV
        rw [Nat.min_eq_right c]
      · rw [cl (by decide), he]
        unfold hV
        rw [Nat.min_eq_left (by omega)]
    | succ d ih =>
      intro k p q hk hp hq hDp hDq hxp hxq g1 g2
      have bk := sX_b sp k
      have bp' := sX_b sp p
      have bq := sX_b sp q
      have vk : vp_in (nI k) 18 := vin (by omega) (by decide)
      have vp : vp_in (nI p) 18 := vin (by omega) (by decide)
      have vq : vp_in (nI q) 18 := vin (by omega) (by decide)
      have nxt : ∀ (p' q' : Nat), p' < sPn sp + 2 → q' < sPn sp + 2 → s.2 p' = true → s.2 q' = true → sX sp p' ≤ x → x < sX sp q' → (∀ i, i < k + 1 → s.2 i = true → sX sp i ≤ x → sX sp i ≤ sX sp p') → (∀ i, i < k + 1 → s.2 i = true → x < sX sp i → sX sp q' ≤ sX sp i) → ∀ x16 : Int32, x16 = nI k + nI 1 → hd_X9_height_7 b (fun r m => r = μ.2.1 77 (hF sp s x) ∧ m = μ) (nI x) (nI p') (nI q') x16 μ := by
        intro p' q' a1 a2 a3 a4 a5 a6 a7 a8 x16 e16
        rw [e16, nI_add]
        exact ih (k + 1) p' q' (by omega) a1 a2 a3 a4 a5 a6 a7 a8
      apply l_X9_height_7
      rw [cl (show k < 2 ^ 31 by omega), cl (show p < 2 ^ 31 by omega), cl (show q < 2 ^ 31 by omega), hX k (by omega), hX p hp, hX q hq, (hY k (by omega)).2]
      refine pk_le (sPn sp + 2) k (fun c => by omega) (fun _ => ⟨vk, fun c => ⟨vk, ?_⟩, fun c => ?_⟩) (by rw [h33, nI_add])
      · have hDk : s.2 k = true := by
          cases hsk : s.2 k with
          | true => rfl
          | false => rw [hsk] at c; exact absurd rfl c
        refine pk_lt x (sX sp k) (fun c1 => ⟨vk, pk_le (sX sp k) x (fun c2 => by omega) (fun _ => ⟨vk, vq, pk_le (sX sp q) (sX sp k) (fun c2 => nxt p q hp hq hDp hDq hxp hxq (lt_s g1 (fun _ h => by omega)) (lt_s g2 (fun _ _ => c2))) (fun c2 => nxt p k hp (by omega) hDp hDk hxp c1 (lt_s g1 (fun _ h => by omega)) (lt_s (fun i hi h1 h2 => by have := g2 i hi h1 h2; omega) (fun _ _ => Nat.le_refl _)))⟩)⟩) (fun c1 => ⟨vk, vp, pk_le (sX sp k) (sX sp p) (fun c2 => ⟨vk, pk_le (sX sp k) x (fun _ => nxt p q hp hq hDp hDq hxp hxq (lt_s g1 (fun _ _ => c2)) (lt_s g2 (fun _ h => by omega))) (fun c3 => by omega)⟩) (fun c2 => ⟨vk, pk_le (sX sp k) x (fun _ => nxt k q (by omega) hq hDk hDq c1 hxq (lt_s (fun i hi h1 h2 => by have := g1 i hi h1 h2; omega) (fun _ _ => Nat.le_refl _)) (lt_s g2 (fun _ h => by omega))) (fun c3 => by omega)⟩)⟩)
      · have hDk : ¬ s.2 k = true := fun h => by rw [if_pos h] at c; exact absurd c (by decide)
        exact nxt p q hp hq hDp hDq hxp hxq (lt_s g1 (fun h => absurd h hDk)) (lt_s g2 (fun h => absurd h hDk))
  apply g_X9_height
  refine loop (sPn sp + 2) 0 0 1 (by omega) (by omega) (by omega) hD.1 hD.2 (Nat.zero_le _) ?_ (fun i hi => by omega) (fun i hi => by omega)
  rw [show sX sp 1 = 16 from rfl]
  exact hx
-- the curves of a packet
noncomputable def crE (sp pk : List Int32) (a : Nat) : Option Nat := if 8 * pk.length < a + 1 then none else if bb pk a = 0 then some (a + 1) else if 8 * pk.length < a + 1 + 2 * sRb sp then none else pCh sp pk (a + 1 + 2 * sRb sp) (sPn sp)
noncomputable def crH (sp pk : List Int32) (a x : Nat) : Nat := hF sp (cFin sp pk (a + 1)) x
/-- what a curve of the reference may touch -/
def kV (μ μ' : xm_M) (c : Nat) : Prop := (∀ k, k ≠ 75 → k ≠ 96 → k ≠ 97 → k ≠ 99 → k ≠ 100 → μ'.1 k = μ.1 k) ∧ (∀ k, k ≠ 15 → k ≠ 17 → μ'.1 75 k = μ.1 75 k) ∧ (∀ i, i ≠ c → μ'.1 99 i = μ.1 99 i) ∧ (∀ k, k ≠ 98 → μ'.2.1 k = μ.2.1 k) ∧ ∀ i, i < 16 * c ∨ 16 * (c + 1) ≤ i → μ'.2.1 98 i = μ.2.1 98 i
theorem kV.rf {μ : xm_M} {c : Nat} : kV μ μ c := ⟨fun _ _ _ _ _ _ => rfl, fun _ _ _ => rfl, fun _ _ => rfl, fun _ _ => rfl, fun _ _ => rfl⟩
theorem kV.tr {μ μ1 μ2 : xm_M} {c : Nat} (h1 : kV μ μ1 c) (h2 : kV μ1 μ2 c) : kV μ μ2 c := ⟨fun k a1 a2 a3 a4 a5 => (h2.1 k a1 a2 a3 a4 a5).trans (h1.1 k a1 a2 a3 a4 a5), fun k a b => (h2.2.1 k a b).trans (h1.2.1 k a b), fun i a => (h2.2.2.1 i a).trans (h1.2.2.1 i a), fun k a => (h2.2.2.2.1 k a).trans (h1.2.2.2.1 k a), fun i a => (h2.2.2.2.2 i a).trans (h1.2.2.2.2 i a)⟩
theorem fb.kV {μ μ' : xm_M} {c : Nat} (h : fb μ μ') : kV μ μ' c := ⟨fun k a _ _ _ _ => h.1 k a, h.2.2, fun i _ => by rw [h.1 99 (by decide)], fun k _ => by rw [h.2.1], fun i _ => by rw [h.2.1]⟩
theorem kV.s {μ : xm_M} {c k : Nat} {f : Nat → Int32} (hk : k = 96 ∨ k = 97 ∨ k = 100) : kV μ (xu_I μ k f) c := ⟨fun d _ a2 a3 _ a5 => ri_n (by omega), fun d _ _ => by rw [ri_n (by omega)], fun i _ => by rw [ri_n (by omega)], fun d _ => rfl, fun i _ => rfl⟩
theorem kV.s99 {μ : xm_M} {c : Nat} {v : Int32} : kV μ (xu_I μ 99 (upd (μ.1 99) c v)) c := ⟨fun d _ _ _ a4 _ => ri_n a4, fun d _ _ => by rw [ri_n (by decide)], fun i h => by rw [ri_e, upd_n h], fun d _ => rfl, fun i _ => rfl⟩
theorem kV.l {μ : xm_M} {c i0 : Nat} {v : Int64} (hi : i0 < 16) : kV μ (xu_L μ 98 (vp_updL (μ.2.1 98) (16 * c + i0) v)) c := ⟨fun _ _ _ _ _ _ => rfl, fun _ _ _ => rfl, fun _ _ => rfl, fun k h => rl_n h, fun i h => by rw [rl_e, updL_n (by omega)]⟩
theorem mS.fr {μ μ' : xm_M} {sp : List Int32} (h : mS μ sp) (h75 : ∀ k, 31 ≤ k → k ≤ 38 → μ'.1 75 k = μ.1 75 k) (hc : ∀ c, 83 ≤ c → c ≤ 95 → μ'.1 c = μ.1 c) : mS μ' sp := by
  obtain ⟨a1, a2, a3, a4, a5, a6, a7, a8, a9, a10, a11⟩ := h
  exact ⟨(h75 31 (by decide) (by decide)).trans a1, (h75 32 (by decide) (by decide)).trans a2, (h75 38 (by decide) (by decide)).trans a3, (h75 33 (by decide) (by decide)).trans a4, fun k hk => by rw [hc 94 (by decide) (by decide)]; exact a5 k hk, (h75 34 (by decide) (by decide)).trans a6, (h75 35 (by decide) (by decide)).trans a7, (h75 36 (by decide) (by decide)).trans a8, (h75 37 (by decide) (by decide)).trans a9, fun k hk => by rw [hc 95 (by decide) (by decide)]; exact a10 k hk, fun j hj => (a11 j hj).cg (fun c h1 h2 => hc c h1 (by omega))⟩
theorem mS.V {μ μ' : xm_M} {sp : List Int32} {c : Nat} (h : mS μ sp) (hk : kV μ μ' c) : mS μ' sp := h.fr (fun k _ _ => hk.2.1 k (by omega) (by omega)) (fun d _ _ => hk.1 d (by omega) (by omega) (by omega) (by omega) (by omega))
theorem mR.u {μ : xm_M} {pk : List Int32} {a c : Nat} {ov : Bool} {f : Nat → Int32} (h : mR μ pk a ov) (h1 : c ≠ 75) (h2 : c ≠ 79) : mR (xu_I μ c f) pk a ov := h.fr (by rw [ri_n (Ne.symm h1)]) (by rw [ri_n (Ne.symm h1)]) (by rw [ri_n (Ne.symm h1)]) (by rw [ri_n (Ne.symm h1)]) (by rw [ri_n (Ne.symm h2)])
