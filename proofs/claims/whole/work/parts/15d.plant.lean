/-! ===== the class's tree of forks ===== -/
/-- a branch: nothing, a fork, or an entry -/
def brn (f : Nat → Int32) (ln W D Pf : Nat → Nat) (k F g c : Nat) : Prop :=
  (f (2 * g + c) = 0 ∧ ∀ e, e < k → ln e ≠ 0 → D g + 1 ≤ ln e → W e / 2 ^ (ln e - (D g + 1)) ≠ 2 * Pf g + c) ∨
  (∃ h, 0 < h ∧ h < F ∧ f (2 * g + c) = nI h ∧ D h = D g + 1 ∧ Pf h = 2 * Pf g + c) ∨
  (∃ e, e < k ∧ ln e = D g + 1 ∧ W e = 2 * Pf g + c ∧ f (2 * g + c) = -1 - nI e)
def TB (f : Nat → Int32) (ln W D Pf : Nat → Nat) (k F : Nat) : Prop :=
  D 0 = 0 ∧ Pf 0 = 0 ∧ 1 ≤ F ∧ (∀ g c, g < F → g < 64 → c < 2 → brn f ln W D Pf k F g c) ∧ (∀ j, 2 * F ≤ j → j < 128 → f j = 0) ∧ (∀ g h, g < F → h < F → D g = D h → Pf g = Pf h → g = h)
def TI (f : Nat → Int32) (ln W : Nat → Nat) (k F : Nat) : Prop := ∃ D Pf, TB f ln W D Pf k F ∧ ∀ g, 0 < g → g < F → ∃ e, e < k ∧ D g < ln e ∧ W e / 2 ^ (ln e - D g) = Pf g
def TM (f : Nat → Int32) (ln W : Nat → Nat) (k F w L d g : Nat) : Prop := ∃ D Pf, TB f ln W D Pf k F ∧
  (∀ h, 0 < h → h < F → (∃ e, e < k ∧ D h < ln e ∧ W e / 2 ^ (ln e - D h) = Pf h) ∨ (D h ≤ d ∧ Pf h = w / 2 ^ (L - D h))) ∧ g < F ∧ D g = d ∧ Pf g = w / 2 ^ (L - d) ∧
  (∀ h, h < F → h < 64 → D h < d → Pf h = w / 2 ^ (L - D h) → f (2 * h + w / 2 ^ (L - D h - 1) % 2) ≠ 0)
def pm (μ μ' : xm_M) (B : Nat) (f : Nat → Int32) (F : Nat) : Prop := μ'.1 (B + 3) = f ∧ μ'.1 B = upd (μ.1 B) 10 (nI F) ∧ (∀ c, c ≠ B → c ≠ B + 3 → μ'.1 c = μ.1 c) ∧ μ'.2.1 = μ.2.1
theorem half (w i : Nat) : 2 * (w / 2 ^ (i + 1)) + w / 2 ^ i % 2 = w / 2 ^ i := by
  rw [Nat.pow_succ, ← Nat.div_div_eq_div_mul]
  omega
theorem half2 {w L d : Nat} (hd : d < L) : 2 * (w / 2 ^ (L - d)) + w / 2 ^ (L - d - 1) % 2 = w / 2 ^ (L - (d + 1)) := by
  obtain ⟨i, rfl⟩ : ∃ i, L = d + i + 1 := ⟨L - d - 1, by omega⟩
  rw [show d + i + 1 - d = i + 1 by omega, show d + i + 1 - (d + 1) = i by omega, show i + 1 - 1 = i by omega]
  exact half w i
theorem lf_int {e : Nat} (h : e < 2 ^ 30) : (-1 - nI e : Int32).toInt = -1 - (e : Int) := by
  rw [Int32.toInt_sub, nI_toInt (by omega), show (-1 : Int32).toInt = -1 by decide]
  exact Int.bmod_eq_of_le (by omega) (by omega)
theorem lf_neg {e : Nat} (h : e < 2 ^ 30) : (-1 - nI e : Int32) < 0 := by
  rw [Int32.lt_iff_toInt_lt, lf_int h, Int32.toInt_zero]
  omega
theorem lf_back {e : Nat} (h : e < 2 ^ 30) : (-1 - (-1 - nI e) : Int32) = nI e := by
  apply Int32.toInt_inj.mp
  rw [Int32.toInt_sub, lf_int h, nI_toInt (by omega), show (-1 : Int32).toInt = -1 by decide, show (-1 - (-1 - (e : Int))) = e by omega]
  exact Int.bmod_eq_of_le (by omega) (by omega)
/-- one step down, the branch being a fork -/
theorem TM.down {f : Nat → Int32} {ln W : Nat → Nat} {k F w L d g : Nat} (h : TM f ln W k F w L d g) (hd : d + 1 < L) (hg : g < 64) (hnp1 : ∀ e, e < k → ln e ≠ 0 → ln e ≤ L → w / 2 ^ (L - ln e) ≠ W e) (hv : f (2 * g + w / 2 ^ (L - d - 1) % 2) ≠ 0) : ∃ h, h < F ∧ f (2 * g + w / 2 ^ (L - d - 1) % 2) = nI h ∧ TM f ln W k F w L (d + 1) h := by
  obtain ⟨D, Pf, hTB, hd', hgF, hDg, hPg, hpth⟩ := h
  have hTB0 := hTB
  obtain ⟨t1, t2, t3, t4, t5, t6⟩ := hTB
  have hq : 2 * Pf g + w / 2 ^ (L - d - 1) % 2 = w / 2 ^ (L - (d + 1)) := by
    rw [hPg]; exact half2 (by omega)
  rcases t4 g (w / 2 ^ (L - d - 1) % 2) hgF hg (Nat.mod_lt _ (by decide)) with ⟨z, -⟩ | ⟨h, h1, h2, h3, h4, h5⟩ | ⟨e, h1, h2, h3, h4⟩
  · exact absurd z hv
  · refine ⟨h, h2, h3, D, Pf, hTB0, ?_, h2, by rw [h4, hDg], by rw [h5, hq], ?_⟩
    · intro x hx1 hx2
      rcases hd' x hx1 hx2 with y | ⟨y1, y2⟩
      · exact Or.inl y
      · exact Or.inr ⟨by omega, y2⟩
    · intro x hx1 hx2 hx3 hx4
      by_cases hxd : D x = d
      · have hxg : x = g := t6 x g hx1 hgF (by rw [hxd, hDg]) (by rw [hx4, hPg, hxd])
        subst hxg
        rw [hDg]
        exact hv
      · exact hpth x hx1 hx2 (by omega) hx4
  · exfalso
    refine hnp1 e h1 (by omega) (by omega) ?_
    rw [h3, hq, h2, hDg]
/-- one step down, a fork being made -/
theorem TM.make {f : Nat → Int32} {ln W : Nat → Nat} {k F w L d g : Nat} (h : TM f ln W k F w L d g) (hd : d + 1 < L) (hg : g < 64) (hF : F < 2 ^ 31) (hk : k ≤ 64) (hv : f (2 * g + w / 2 ^ (L - d - 1) % 2) = 0) : TM (upd f (2 * g + w / 2 ^ (L - d - 1) % 2) (nI F)) ln W k (F + 1) w L (d + 1) F ∧ ∀ e, e < k → ln e ≠ 0 → d + 1 ≤ ln e → W e / 2 ^ (ln e - (d + 1)) ≠ w / 2 ^ (L - (d + 1)) := by
  obtain ⟨D, Pf, ⟨t1, t2, t3, t4, t5, t6⟩, hd', hgF, hDg, hPg, hpth⟩ := h
  have hq : 2 * Pf g + w / 2 ^ (L - d - 1) % 2 = w / 2 ^ (L - (d + 1)) := by
    rw [hPg]; exact half2 (by omega)
  have hc2 : w / 2 ^ (L - d - 1) % 2 < 2 := Nat.mod_lt _ (by decide)
  generalize hc : w / 2 ^ (L - d - 1) % 2 = c at hq hc2 hv ⊢
  have hzero : ∀ e, e < k → ln e ≠ 0 → d + 1 ≤ ln e → W e / 2 ^ (ln e - (d + 1)) ≠ w / 2 ^ (L - (d + 1)) := by
    rcases t4 g c hgF hg hc2 with ⟨-, z⟩ | ⟨h, h1, h2, h3, -⟩ | ⟨e, h1, h2, h3, h4⟩
    · intro e e1 e2 e3
      rw [← hq, ← hDg]
      exact z e e1 e2 (by rw [hDg]; exact e3)
    · rw [h3] at hv
      have := nI_inj (a := h) (b := 0) (by omega) (by decide) (hv.trans nI_0.symm)
      omega
    · rw [h4] at hv
      exact absurd (lf_neg (e := e) (by omega)) (by rw [hv]; decide)
  refine ⟨⟨fun x => if x = F then d + 1 else D x, fun x => if x = F then w / 2 ^ (L - (d + 1)) else Pf x, ⟨?_, ?_, by omega, ?_, ?_, ?_⟩, ?_, by omega, by simp, by simp, ?_⟩, hzero⟩
  · show (if 0 = F then d + 1 else D 0) = 0
    rw [if_neg (by omega)]; exact t1
  · show (if 0 = F then w / 2 ^ (L - (d + 1)) else Pf 0) = 0
    rw [if_neg (by omega)]; exact t2
  · intro x y hx hx64 hy
    by_cases hxF : x = F
    · subst hxF
      left
      refine ⟨?_, ?_⟩
      · rw [upd_n (by omega)]
        exact t5 _ (by omega) (by omega)
      · intro e e1 e2 e3 e4
        simp only [if_true] at e3 e4
        refine hzero e e1 e2 (by omega) ?_
        rw [show ln e - (d + 1) = (ln e - (d + 1 + 1)) + 1 by omega, Nat.pow_succ, ← Nat.div_div_eq_div_mul, e4]
        omega
    · have hxF2 : x < F := by omega
      by_cases hxy : x = g ∧ y = c
      · obtain ⟨rfl, rfl⟩ := hxy
        right; left
        refine ⟨F, by omega, by omega, upd_e, ?_, ?_⟩
        · simp only [if_true]; rw [if_neg hxF, hDg]
        · simp only [if_true]; rw [if_neg hxF, hq]
      · rcases t4 x y hxF2 hx64 hy with ⟨z1, z2⟩ | ⟨h, h1, h2, h3, h4, h5⟩ | ⟨e, h1, h2, h3, h4⟩
        · left
          rw [upd_n (by omega)]
          simp only [if_neg hxF]
          exact ⟨z1, z2⟩
        · right; left
          refine ⟨h, h1, by omega, by rw [upd_n (by omega)]; exact h3, ?_, ?_⟩
          · simp only [if_neg hxF]; rw [if_neg (by omega)]; exact h4
          · simp only [if_neg hxF]; rw [if_neg (by omega)]; exact h5
        · right; right
          refine ⟨e, h1, ?_, ?_, by rw [upd_n (by omega)]; exact h4⟩
          · simp only [if_neg hxF]; exact h2
          · simp only [if_neg hxF]; exact h3
  · intro j hj1 hj2
    rw [upd_n (by omega)]
    exact t5 j (by omega) hj2
  · -- the new fork's place is new
    have hnew : ∀ x, x < F → D x = d + 1 → Pf x = w / 2 ^ (L - (d + 1)) → False := by
      intro x hx hxD hxP
      have hx0 : 0 < x := by
        rcases Nat.eq_zero_or_pos x with h | h
        · subst h; omega
        · exact h
      rcases hd' x hx0 hx with ⟨e, e1, e2, e3⟩ | ⟨y1, -⟩
      · rw [hxD] at e2 e3
        exact hzero e e1 (by omega) (by omega) (by rw [e3, hxP])
      · omega
    intro x y hx hy hxy1 hxy2
    by_cases h1 : x = F
    · by_cases h2 : y = F
      · omega
      · simp only [if_pos h1, if_neg h2] at hxy1 hxy2
        exact absurd hxy2.symm (fun z => hnew y (by omega) hxy1.symm z)
    · by_cases h2 : y = F
      · simp only [if_neg h1, if_pos h2] at hxy1 hxy2
        exact absurd hxy2 (fun z => hnew x (by omega) hxy1 z)
      · simp only [if_neg h1, if_neg h2] at hxy1 hxy2
        exact t6 x y (by omega) (by omega) hxy1 hxy2
  · intro x hx1 hx2
    by_cases h1 : x = F
    · right
      simp only [if_pos h1]
      exact ⟨Nat.le_refl _, trivial⟩
    · simp only [if_neg h1]
      rcases hd' x hx1 (by omega) with y | ⟨y1, y2⟩
      · exact Or.inl y
      · exact Or.inr ⟨by omega, y2⟩
  · intro x hx1 hx2 hx3 hx4
    by_cases h1 : x = F
    · simp only [if_pos h1] at hx3
      omega
    · simp only [if_neg h1] at hx3 hx4 ⊢
      by_cases hxd : D x = d
      · have hxg : x = g := t6 x g (by omega) hgF (by rw [hxd, hDg]) (by rw [hx4, hPg, hxd])
        subst hxg
        rw [hDg, hc, upd_e]
        intro z
        have := nI_inj (a := F) (b := 0) (by omega) (by decide) (z.trans nI_0.symm)
        omega
      · have := hpth x (by omega) hx2 (by omega) hx4
        by_cases hxe : 2 * x + w / 2 ^ (L - D x - 1) % 2 = 2 * g + c
        · rw [hxe, upd_e]
          intro z
          have := nI_inj (a := F) (b := 0) (by omega) (by decide) (z.trans nI_0.symm)
          omega
        · rw [upd_n hxe]
          exact this
/-- the entry itself -/
theorem TM.leaf {f : Nat → Int32} {ln W : Nat → Nat} {k F w L d g : Nat} (h : TM f ln W k F w L d g) (hd : d + 1 = L) (hg : g < 64) (hL : ln k = L) : TI (upd f (2 * g + w % 2) (-1 - nI k)) ln (wup W k w) (k + 1) F := by
  obtain ⟨D, Pf, ⟨t1, t2, t3, t4, t5, t6⟩, hd', hgF, hDg, hPg, hpth⟩ := h
  have hW : ∀ e, e < k → wup W k w e = W e := fun e he => by unfold wup; rw [if_neg (by omega)]
  have hWk : wup W k w k = w := by unfold wup; rw [if_pos rfl]
  have hPg2 : 2 * Pf g + w % 2 = w := by
    rw [hPg, show L - d = 0 + 1 by omega]
    have := half w 0
    simpa using this
  refine ⟨D, Pf, ⟨t1, t2, t3, ?_, ?_, t6⟩, ?_⟩
  · intro x y hx hx64 hy
    by_cases hxy : x = g ∧ y = w % 2
    · obtain ⟨rfl, rfl⟩ := hxy
      right; right
      exact ⟨k, by omega, by omega, by rw [hWk, hPg2], upd_e⟩
    · have hne : 2 * x + y ≠ 2 * g + w % 2 := by omega
      rcases t4 x y hx hx64 hy with ⟨z1, z2⟩ | ⟨h, h1, h2, h3, h4, h5⟩ | ⟨e, h1, h2, h3, h4⟩
      · left
        refine ⟨by rw [upd_n hne]; exact z1, ?_⟩
        intro e e1 e2 e3
        by_cases hek : e = k
        · subst hek
          rw [hWk, hL]
          intro z
          have hDL : D x + 1 ≤ L := by omega
          have hh := half2 (w := w) (L := L) (d := D x) (by omega)
          have hc2 : w / 2 ^ (L - D x - 1) % 2 < 2 := Nat.mod_lt _ (by decide)
          rw [← hh] at z
          have hPx : Pf x = w / 2 ^ (L - D x) := by omega
          have hyx : y = w / 2 ^ (L - D x - 1) % 2 := by omega
          by_cases hdx : D x < d
          · have := hpth x hx hx64 hdx hPx
            rw [← hyx] at this
            exact this z1
          · have hDx : D x = d := by omega
            have hxg : x = g := t6 x g hx hgF (by rw [hDx, hDg]) (by rw [hPx, hPg, hDx])
            refine hxy ⟨hxg, ?_⟩
            rw [hyx, hDx, show L - d - 1 = 0 by omega, Nat.pow_zero, Nat.div_one]
        · rw [hW e (by omega)]
          exact z2 e (by omega) e2 e3
      · right; left
        exact ⟨h, h1, h2, by rw [upd_n hne]; exact h3, h4, h5⟩
      · right; right
        exact ⟨e, by omega, h2, by rw [hW e h1]; exact h3, by rw [upd_n hne]; exact h4⟩
  · intro j hj1 hj2
    rw [upd_n (by omega)]
    exact t5 j hj1 hj2
  · intro x hx1 hx2
    rcases hd' x hx1 hx2 with ⟨e, e1, e2, e3⟩ | ⟨y1, y2⟩
    · exact ⟨e, by omega, e2, by rw [hW e e1]; exact e3⟩
    · exact ⟨k, by omega, by omega, by rw [hWk, hL, y2]⟩
theorem TI.tm {f : Nat → Int32} {ln W : Nat → Nat} {k F w L : Nat} (h : TI f ln W k F) (hw : w < 2 ^ L) : TM f ln W k F w L 0 0 := by
  obtain ⟨D, Pf, hTB, hd⟩ := h
  refine ⟨D, Pf, hTB, fun x h1 h2 => Or.inl (hd x h1 h2), hTB.2.2.1, hTB.1, ?_, fun x _ _ h => by omega⟩
  rw [hTB.2.1, Nat.sub_zero, Nat.div_eq_of_lt hw]
theorem c_plant {b : Bool} {μ : xm_M} {B k w L p F Fs : Nat} {ln W : Nat → Nat} (hB : xs_bk B) (hk : k < 64) (hL1 : 1 ≤ L) (hL : L ≤ 15) (hlk : ln k = L) (hw : w < 2 ^ L) (hp : p ≤ L) (hT : TI (μ.1 (B + 3)) ln W k F) (hF : μ.1 B 10 = nI F) (hFs : F ≤ Fs) (hFs2 : Fs ≤ 1000)
    (hnp1 : ∀ e, e < k → ln e ≠ 0 → ln e ≤ L → w / 2 ^ (L - ln e) ≠ W e) (hpre : ∀ j, 1 ≤ j → j < p → ∃ e, e < k ∧ j < ln e ∧ W e / 2 ^ (ln e - j) = w / 2 ^ (L - j)) :
    xCi b b k_X1_plant μ [.ref B, .int (nI k), .int (nI w), .int (nI L)] (fun r μ' => (r = nI 1 ∧ ∃ f' F', pm μ μ' B f' F' ∧ TI f' ln (wup W k w) (k + 1) F' ∧ F' ≤ Fs + (L - max p 1)) ∨ (r = nI 0 ∧ 65 ≤ Fs + (L - max p 1) ∧ ∃ f' F', pm μ μ' B f' F')) := by
  have hbk : B + 3 ≠ B := by omega
  have hs : ∀ k, k < 16 → ((nI k &&& 31).toBitVec.smod 32).toNat = k := by decide +kernel
  have hw15 : w < 2 ^ 15 := Nat.lt_of_lt_of_le hw (Nat.pow_le_pow_right (by decide) hL)
  have loop : ∀ (i d g F : Nat) (f : Nat → Int32) (m : xm_M), d + i + 1 = L → pm μ m B f F → TM f ln W k F w L d g → F ≤ Fs + (d + 1 - max p 1) → hd_X1_plant_8 b (fun r μ' => (r = nI 1 ∧ ∃ f' F', pm μ μ' B f' F' ∧ TI f' ln (wup W k w) (k + 1) F' ∧ F' ≤ Fs + (L - max p 1)) ∨ (r = nI 0 ∧ 65 ≤ Fs + (L - max p 1) ∧ ∃ f' F', pm μ μ' B f' F')) B (nI k) (nI w) (nI g) (nI i) m := by
    intro i
    induction i with
    | zero =>
      intro d g F f m hd hpm hTM hFb
      have hgF : g < F := by obtain ⟨D, Pf, -, -, h, -⟩ := hTM; exact h
      refine l_X1_plant_8 _ _ _ _ hB ?_
      refine ⟨fun _ x2 e2 => ?_, fun c => absurd (by decide) c⟩
      rw [pk_mul, pk_andN (by omega) 1 (by decide +kernel), nI_add] at e2
      rw [e2]
      refine ⟨fun c => absurd c (n0 (by omega)), fun _ => ⟨fun c => ⟨?_, fun m6 e6 => Or.inl ⟨rfl, ?_⟩⟩, fun c => Or.inr ⟨rfl, ?_, ⟨_, _, hpm⟩⟩⟩⟩
      · rw [nI_ltI (by omega) (by decide)] at c
        exact vin (by omega) (by decide)
      · rw [nI_ltI (by omega) (by decide)] at c
        rw [cl (by omega), hpm.1] at e6
        refine ⟨_, F, ⟨?_, ?_, ?_, ?_⟩, hTM.leaf (by omega) (by omega) hlk, by rw [show L = d + 1 by omega]; exact hFb⟩
        · rw [e6, ri_e]
        · rw [e6, ri_n hbk.symm]; exact hpm.2.1
        · intro c hc1 hc2; rw [e6, ri_n hc2]; exact hpm.2.2.1 c hc1 hc2
        · rw [e6]; exact hpm.2.2.2
      · rw [nI_ltI (by omega) (by decide)] at c
        omega
    | succ i ih =>
      intro d g F f m hd hpm hTM hFb
      have hgF : g < F := by obtain ⟨D, Pf, -, -, h, -⟩ := hTM; exact h
      have hLd : L - d - 1 = i + 1 := by omega
      refine l_X1_plant_8 _ _ _ _ hB ?_
      refine ⟨fun c => absurd c (nI_nle (by omega) (by omega)), fun _ x7 e7 => ?_⟩
      rw [pk_mul, pk_shrN (by omega) (nI (i + 1) &&& 31) (i + 1) (hs _ (by omega)), pk_andN (Nat.lt_of_le_of_lt (Nat.div_le_self _ _) (by omega)) 1 (by decide +kernel), nI_add] at e7
      have hc2 : w / 2 ^ (i + 1) % 2 ^ 1 < 2 := Nat.mod_lt _ (by decide)
      rw [e7]
      refine ⟨fun c => absurd c (n0 (by omega)), fun _ => ⟨fun c => ?_, fun c => Or.inr ⟨rfl, ?_, ⟨_, _, hpm⟩⟩⟩⟩
      rotate_left
      · rw [nI_ltI (by omega) (by decide)] at c
        omega
      rw [nI_ltI (by omega) (by decide)] at c
      have hg : g < 64 := by omega
      rw [cl (by omega), hpm.1]
      refine ⟨vin (by omega) (by decide), fun c3 => ⟨vin (by omega) (by decide), fun x13 e13 => ?_⟩, fun c3 => ⟨vin (by omega) (by decide), fun m15 e15 m16 e16 => ⟨vin (by omega) (by decide), fun x18 e18 => ?_⟩⟩⟩
      · obtain ⟨h, h1, h2, h3⟩ := hTM.down (by omega) hg hnp1 (by rw [hLd]; exact c3)
        rw [hLd] at h2
        have h2 : f (2 * g + w / 2 ^ (i + 1) % 2 ^ 1) = nI h := h2
        rw [h2, e13, pk_m1]
        exact ih (d + 1) h F f m (by omega) hpm h3 (by omega)
      · obtain ⟨h1, h2⟩ := hTM.make (by omega) hg (by omega) (by omega) (by rw [hLd]; exact c3)
        rw [hLd] at h1
        have hFm : m.1 B 10 = nI F := by rw [hpm.2.1, upd_e]
        rw [hFm] at e15
        have hb15 : m15.1 B = m.1 B := by rw [e15, ri_n hbk.symm]
        rw [hb15, hFm, nI_add, hpm.2.1] at e16
        have h16 : m16.1 (B + 3) = upd f (2 * g + w / 2 ^ (i + 1) % 2 ^ 1) (nI F) := by rw [e16, ri_n hbk, e15, ri_e]
        rw [h16, upd_e, e18, pk_m1]
        -- a fork is made from the free part on alone
        have hdp : p ≤ d + 1 := by
          rcases Nat.lt_or_ge (d + 1) p with h | h
          · obtain ⟨e, e1, e2, e3⟩ := hpre (d + 1) (by omega) h
            exact absurd e3 (h2 e e1 (by omega) (by omega))
          · exact h
        refine ih (d + 1) F (F + 1) (upd f (2 * g + w / 2 ^ (i + 1) % 2 ^ 1) (nI F)) m16 (by omega) ⟨h16, ?_, ?_, ?_⟩ h1 (by omega)
        · rw [e16, ri_e]
          funext j
          by_cases hj : j = 10
          · rw [hj, upd_e, upd_e]
          · rw [upd_n hj, upd_n hj, upd_n hj]
        · intro c hc1 hc3; rw [e16, ri_n hc1, e15, ri_n hc3]; exact hpm.2.2.1 c hc1 hc3
        · rw [e16, e15]; exact hpm.2.2.2
  refine g_X1_plant _ _ _ hB ?_
  intro x1 e1
  rw [pk_sub (by omega)] at e1
  rw [e1]
  refine loop (L - 1) 0 0 F (μ.1 (B + 3)) μ (by omega) ⟨rfl, ?_, fun _ _ _ => rfl, rfl⟩ (hT.tm hw) (by omega)
  funext j
  by_cases hj : j = 10
  · rw [hj, upd_e, hF]
  · rw [upd_n hj]
