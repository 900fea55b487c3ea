def leM (m a : Int) : Int := if 0 < a then m else if 0 < m then m + a else m - a
def leA (m a : Int) : Int := if 0 < a then (if 0 < m then m - a else m + a) else m
theorem iI_le0 {z : Int} (h1 : -280000 ≤ z) (h2 : z ≤ 280000) : iI z ≤ 0 ↔ z ≤ 0 := by
  rw [Int32.le_iff_toInt_le, iI_t (by omega) (by omega), show (0 : Int32).toInt = 0 by decide]
theorem lI_le0 {z : Int} (h1 : -280000 ≤ z) (h2 : z ≤ 280000) : lg_cmp (lI z) 0 ≤ 0 ↔ z ≤ 0 := by
  rw [lg_cmp_le, Int64.le_iff_toInt_le, lI_t (by omega) (by omega), show (0 : Int64).toInt = 0 by decide]
theorem lI_gt0 {z : Int} (h1 : -280000 ≤ z) (h2 : z ≤ 280000) : 0 < lg_cmp (lI z) 0 ↔ 0 < z := by
  rw [lg_cmp_gt, Int64.lt_iff_toInt_lt, lI_t (by omega) (by omega), show (0 : Int64).toInt = 0 by decide]
theorem c_straighten {b : Bool} {μ : xm_M} {f g : Nat → Int} (hf : nB f) (hg : nB g) (h67 : ∀ x, x < 16 → μ.1 67 x = iI (f x)) (h72 : ∀ x, x < 16 → μ.1 72 x = iI (g x)) : xCv b b k_X8_straighten μ [.ref 67, .ref 72] (fun m => fm [67, 72] μ m ∧ (∀ x, x < 16 → m.1 67 x = iI (leM (f x) (g x)) ∧ m.1 72 x = iI (leA (f x) (g x)))) := by
  have loop : ∀ (d i : Nat) (m : xm_M), i + d = 16 → fm [67, 72] μ m → (∀ x, x < 16 → m.1 67 x = (if x < i then iI (leM (f x) (g x)) else iI (f x)) ∧ m.1 72 x = (if x < i then iI (leA (f x) (g x)) else iI (g x))) → hd_X8_straighten_2 b (fun m => fm [67, 72] μ m ∧ (∀ x, x < 16 → m.1 67 x = iI (leM (f x) (g x)) ∧ m.1 72 x = iI (leA (f x) (g x)))) (nI i) m := by
    intro d
    induction d with
    | zero =>
      intro i m hi hfm hx
      apply l_X8_straighten_2
      refine pk_le 16 i (fun _ => ⟨hfm, fun x hx2 => ?_⟩) (fun c => by omega)
      have := hx x hx2
      rw [if_pos (by omega), if_pos (by omega)] at this
      exact this
    | succ d ih =>
      intro i m hi hfm hx
      obtain ⟨a1, a2⟩ := hx i (by omega)
      rw [if_neg (by omega)] at a1 a2
      have bf := hf i
      have bg := hg i
      have vi : vp_in (nI i) 16 := vin (by omega) (by decide)
      have go : ∀ (u w : Int32) (m1 m2 : xm_M), m1 = xu_I m 67 (upd (m.1 67) i u) → m2 = xu_I m1 72 (upd (m1.1 72) i w) → u = iI (leM (f i) (g i)) → w = iI (leA (f i) (g i)) → ∀ x12 : Int32, x12 = nI i + nI 1 → hd_X8_straighten_2 b (fun m => fm [67, 72] μ m ∧ (∀ x, x < 16 → m.1 67 x = iI (leM (f x) (g x)) ∧ m.1 72 x = iI (leA (f x) (g x)))) x12 m2 := by
        intro u w m1 m2 e1 e2 hu hw x12 e12
        rw [e12, nI_add]
        refine ih (i + 1) m2 (by omega) (by rw [e2, e1]; exact (hfm.I (by decide)).I (by decide)) (fun x hx2 => ?_)
        have d67 : m2.1 67 = upd (m.1 67) i u := by rw [e2, ri_n (by decide), e1, ri_e]
        have d72 : m2.1 72 = upd (m.1 72) i w := by rw [e2, ri_e, e1, ri_n (by decide)]
        rw [d67, d72]
        by_cases hxi : x = i
        · rw [hxi, upd_e, upd_e, if_pos (by omega), if_pos (by omega)]
          exact ⟨hu, hw⟩
        · rw [upd_n hxi, upd_n hxi]
          have := hx x hx2
          by_cases hlt : x < i
          · rw [if_pos hlt, if_pos hlt] at this
            rw [if_pos (by omega), if_pos (by omega)]
            exact this
          · rw [if_neg hlt, if_neg hlt] at this
            rw [if_neg (by omega), if_neg (by omega)]
            exact this
      apply l_X8_straighten_2
      rw [cl (show i < 2 ^ 31 by omega), a1, a2, iI_le0 bf.1 bf.2, iI_le0 bg.1 bg.2]
      refine pk_le 16 i (fun c => by omega) (fun _ => pk_le 16 i (fun c => by omega) (fun _ => ⟨vi, vi, fun cm => ⟨fun ca => ⟨vi, fun m8 e8 => ⟨fun _ => ⟨vi, fun m11 e11 => go _ _ m8 m11 e8 e11 ?_ ?_⟩, fun c => absurd ca c⟩⟩, fun ca => ⟨vi, fun m17 e17 => ⟨fun c => absurd c ca, fun _ => ⟨vi, fun m23 e23 => go _ _ m17 m23 e17 e23 ?_ ?_⟩⟩⟩⟩, fun cm => ⟨fun ca => ⟨vi, fun m27 e27 => ⟨fun _ => ⟨vi, fun m30 e30 => go _ _ m27 m30 e27 e30 ?_ ?_⟩, fun c => absurd ca c⟩⟩, fun ca => ⟨vi, fun m36 e36 => ⟨fun c => absurd c ca, fun _ => ⟨vi, fun m42 e42 => go _ _ m36 m42 e36 e42 ?_ ?_⟩⟩⟩⟩⟩))
      · unfold leM; rw [if_neg (by omega), if_neg (by omega), iI_sub]
      · unfold leA; rw [if_neg (by omega)]
      · unfold leM; rw [if_pos (by omega)]
      · unfold leA; rw [if_pos (by omega), if_neg (by omega), iI_add]
      · unfold leM; rw [if_neg (by omega), if_pos (by omega), iI_add]
      · unfold leA; rw [if_neg (by omega)]
      · unfold leM; rw [if_pos (by omega)]
      · unfold leA; rw [if_pos (by omega), if_pos (by omega), iI_sub]
  apply g_X8_straighten
  exact loop 16 0 μ rfl fm.rf (fun x hx => by rw [if_neg (by omega), if_neg (by omega)]; exact ⟨h67 x hx, h72 x hx⟩)
theorem c_mleans {b : Bool} {μ : xm_M} {f g : Nat → Int} (hf : nB f) (hg : nB g) (h0 : ∀ x, x < 16 → μ.2.1 101 x = lI (f x)) (h1 : ∀ x, x < 16 → μ.2.1 101 (16 + x) = lI (g x)) : xCv b b k_X9_leans μ [.ref 75] (fun m => ∃ F, m = xu_L μ 101 F ∧ ∀ x, x < 16 → F x = lI (leM (f x) (g x)) ∧ F (16 + x) = lI (leA (f x) (g x))) := by
  have loop : ∀ (d i : Nat) (F : Nat → Int64), i + d = 16 → (∀ x, x < 16 → F x = (if x < i then lI (leM (f x) (g x)) else lI (f x)) ∧ F (16 + x) = (if x < i then lI (leA (f x) (g x)) else lI (g x))) → hd_X9_leans_2 b (fun m => ∃ F, m = xu_L μ 101 F ∧ ∀ x, x < 16 → F x = lI (leM (f x) (g x)) ∧ F (16 + x) = lI (leA (f x) (g x))) (nI i) (xu_L μ 101 F) := by
    intro d
    induction d with
    | zero =>
      intro i F hi hx
      apply l_X9_leans_2
      refine pk_le 16 i (fun _ => ⟨F, rfl, fun x hx2 => ?_⟩) (fun c => by omega)
      have := hx x hx2
      rw [if_pos (by omega), if_pos (by omega)] at this
      exact this
    | succ d ih =>
      intro i F hi hx
      obtain ⟨a1, a2⟩ := hx i (by omega)
      rw [if_neg (by omega)] at a1 a2
      have bf := hf i
      have bg := hg i
      have vi : vp_in (nI i) 32 := vin (by omega) (by decide)
      have vj : vp_in (nI (16 + i)) 32 := vin (by omega) (by decide)
      have go : ∀ (u w : Int64) (m1 m2 : xm_M), m1 = xu_L (xu_L μ 101 F) 101 (vp_updL F i u) → m2 = xu_L m1 101 (vp_updL (m1.2.1 101) (16 + i) w) → u = lI (leM (f i) (g i)) → w = lI (leA (f i) (g i)) → ∀ x12 : Int32, x12 = nI i + nI 1 → hd_X9_leans_2 b (fun m => ∃ F, m = xu_L μ 101 F ∧ ∀ x, x < 16 → F x = lI (leM (f x) (g x)) ∧ F (16 + x) = lI (leA (f x) (g x))) x12 m2 := by
        intro u w m1 m2 e1 e2 hu hw x12 e12
        rw [xu_LL] at e1
        rw [e1, xu_LL, rl_e] at e2
        rw [e12, nI_add, e2]
        refine ih (i + 1) _ (by omega) (fun x hx2 => ?_)
        have := hx x hx2
        by_cases hxi : x = i
        · rw [hxi, updL_n (by omega), updL_e, updL_e, if_pos (by omega), if_pos (by omega)]
          exact ⟨hu, hw⟩
        · rw [updL_n (by omega), updL_n hxi, updL_n (by omega), updL_n (by omega)]
          by_cases hlt : x < i
          · rw [if_pos hlt, if_pos hlt] at this
            rw [if_pos (by omega), if_pos (by omega)]
            exact this
          · rw [if_neg hlt, if_neg hlt] at this
            rw [if_neg (by omega), if_neg (by omega)]
            exact this
      apply l_X9_leans_2
      rw [nI_add, cl (show i < 2 ^ 31 by omega), cl (show 16 + i < 2 ^ 31 by omega), rl_e, a1, a2, lI_le0 bf.1 bf.2, lI_le0 bg.1 bg.2, lI_gt0 bg.1 bg.2]
      refine pk_le 16 i (fun c => by omega) (fun _ => ⟨vi, vj, fun ca => ⟨fun cm => ⟨fun c => by omega, fun _ x17 e17 => ⟨vi, fun m1 e1 => ⟨vj, fun m2 e2 => go _ _ m1 m2 e1 e2 ?_ ?_⟩⟩⟩, fun cm => ⟨fun c => by omega, fun _ x36 e36 => ⟨vi, fun m1 e1 => ⟨vj, fun m2 e2 => go _ _ m1 m2 e1 e2 ?_ ?_⟩⟩⟩⟩, fun ca => ⟨fun cm => ⟨fun _ x47 e47 => ⟨vi, fun m1 e1 => ⟨vj, fun m2 e2 => go _ _ m1 m2 e1 e2 ?_ ?_⟩⟩, fun c => by omega⟩, fun cm => ⟨fun _ x66 e66 => ⟨vi, fun m1 e1 => ⟨vj, fun m2 e2 => go _ _ m1 m2 e1 e2 ?_ ?_⟩⟩, fun c => by omega⟩⟩⟩)
      · unfold leM; rw [if_pos ca]
      · unfold leA; rw [if_pos ca, if_neg (by omega), e17, lI_add]
      · unfold leM; rw [if_pos ca]
      · unfold leA; rw [if_pos ca, if_pos (by omega), e36, lI_sub]
      · unfold leM; rw [if_neg ca, if_neg (by omega), e47, lI_sub]
      · unfold leA; rw [if_neg ca]
      · unfold leM; rw [if_neg ca, if_pos (by omega), e66, lI_add]
      · unfold leA; rw [if_neg ca]
  apply g_X9_leans
  have hid : xu_L μ 101 (μ.2.1 101) = μ := by
    unfold xu_L
    have : va_up μ.2.1 101 (μ.2.1 101) = μ.2.1 := by
      funext k
      by_cases h : k = 101
      · rw [h]; simp [va_up]
      · simp [va_up, h]
    rw [this]
  have := loop 16 0 (μ.2.1 101) rfl (fun x hx => by rw [if_neg (by omega), if_neg (by omega)]; exact ⟨h0 x hx, h1 x hx⟩)
  rw [hid] at this
  exact this
theorem c_clearNumbers {b : Bool} {μ : xm_M} {V : Nat} (hV : xs_vo V) : xCv b b k_X7_clearNumbers μ [.ref V] (fun m => fm [V + 2] μ m ∧ ∀ x, x < 16 → m.1 (V + 2) x = nI 0) := by
  have loop : ∀ (d i : Nat) (m : xm_M), i + d = 16 → fm [V + 2] μ m → (∀ x, x < i → m.1 (V + 2) x = nI 0) → hd_X7_clearNumbers_2 b (fun m => fm [V + 2] μ m ∧ ∀ x, x < 16 → m.1 (V + 2) x = nI 0) V (nI i) m := by
    intro d
    induction d with
    | zero =>
      intro i m hi hf hx
      refine l_X7_clearNumbers_2 _ hV ?_
      exact pk_le 16 i (fun _ => ⟨hf, fun x hx2 => hx x (by omega)⟩) (fun c => by omega)
    | succ d ih =>
      intro i m hi hf hx
      refine l_X7_clearNumbers_2 _ hV ?_
      refine pk_le 16 i (fun c => by omega) (fun _ => ⟨vin (by omega) (by decide), fun m3 e3 x4 e4 => ?_⟩)
      rw [cl (show i < 2 ^ 31 by omega)] at e3
      rw [e4, nI_add]
      refine ih (i + 1) m3 (by omega) (by rw [e3]; exact hf.I (by simp)) (lt_s (fun x hx2 => ?_) (by rw [e3, ri_e, upd_e]))
      rw [e3, ri_e, upd_n (by omega)]
      exact hx x hx2
  refine g_X7_clearNumbers hV ?_
  exact loop 16 0 μ rfl fm.rf (fun x hx => by omega)
-- what is heard
def silP (sp pk : List Int32) (c : Nat) : Prop := bb pk (cvA sp pk c) = 0
def anyP (sp pk : List Int32) : Prop := ∃ c, c < sC sp ∧ ¬ silP sp pk c
def hrdP (sp pk : List Int32) (c : Nat) : Prop := (sLe sp = 1 ∧ anyP sp pk) ∨ (sLe sp = 0 ∧ ¬ silP sp pk c)
noncomputable def rCh (sp pk : List Int32) (o : Option Nat) : RS := rsF sp pk (o, fun _ => 0) (16 / sSz sp)
noncomputable def rP (sp pk : List Int32) : Nat → Option Nat
  | 0 => cvP sp pk (sC sp)
  | c + 1 => by
    classical
    exact if hrdP sp pk c then (rCh sp pk (rP sp pk c)).1 else rP sp pk c
noncomputable def rN (sp pk : List Int32) (c : Nat) : Nat → Int := by
  classical
  exact if hrdP sp pk c then (rCh sp pk (rP sp pk c)).2 else fun _ => 0
noncomputable def nF (sp pk : List Int32) (c k : Nat) : Int := by
  classical
  exact if sLe sp = 1 ∧ anyP sp pk then (if c = 0 then leM (rN sp pk 0 k) (rN sp pk 1 k) else leA (rN sp pk 0 k) (rN sp pk 1 k)) else rN sp pk c k
theorem rP_h {sp pk : List Int32} {c : Nat} (h : hrdP sp pk c) : rP sp pk (c + 1) = (rCh sp pk (rP sp pk c)).1 ∧ rN sp pk c = (rCh sp pk (rP sp pk c)).2 := by
  constructor
  · conv => lhs; unfold rP
    simp only [if_pos h]
  · unfold rN
    simp only [if_pos h]
theorem rP_n {sp pk : List Int32} {c : Nat} (h : ¬ hrdP sp pk c) : rP sp pk (c + 1) = rP sp pk c ∧ rN sp pk c = fun _ => 0 := by
  constructor
  · conv => lhs; unfold rP
    simp only [if_neg h]
  · unfold rN
    simp only [if_neg h]
theorem nF_l {sp pk : List Int32} (h : sLe sp = 1 ∧ anyP sp pk) (c k : Nat) : nF sp pk c k = if c = 0 then leM (rN sp pk 0 k) (rN sp pk 1 k) else leA (rN sp pk 0 k) (rN sp pk 1 k) := by
  unfold nF
  simp only [if_pos h]
theorem nF_n {sp pk : List Int32} (h : ¬ (sLe sp = 1 ∧ anyP sp pk)) (c k : Nat) : nF sp pk c k = rN sp pk c k := by
  unfold nF
  simp only [if_neg h]
theorem nB_0 : nB (fun _ => 0) := fun _ => ⟨(by decide : (-280000 : Int) ≤ 0), (by decide : (0 : Int) ≤ 280000)⟩
theorem rN_b (sp pk : List Int32) (c : Nat) : nB (rN sp pk c) := by
  by_cases h : hrdP sp pk c
  · rw [(rP_h h).2]
    exact rsF_b (s0 := (rP sp pk c, fun _ => 0)) nB_0 _
  · rw [(rP_n h).2]
    exact nB_0
theorem nF_b (sp pk : List Int32) (c k : Nat) : -560000 ≤ nF sp pk c k ∧ nF sp pk c k ≤ 560000 := by
  by_cases h : sLe sp = 1 ∧ anyP sp pk
  · rw [nF_l h]
    have h0 := rN_b sp pk 0 k
    have h1 := rN_b sp pk 1 k
    unfold leM leA
    split
    · split
      · omega
      · split <;> omega
    · split
      · split <;> omega
      · omega
  · rw [nF_n h]
    have := rN_b sp pk c k
    omega
theorem sLe_b (sp : List Int32) : sLe sp < 2 ∧ (sLe sp = 1 → sC sp = 2) := by
  have := bb_lt sp (s4 sp)
  unfold sLe
  split
  · rename_i h
    exact ⟨this, fun _ => h⟩
  · exact ⟨by decide, fun h => by omega⟩
theorem c_learnRests {μ : xm_M} {sp pk : List Int32} {p : Nat} (hok : sOK sp) (hS : cS μ sp) (h07 : μ.1 0 7 = nI (sC sp)) (hp : cvP sp pk (sC sp) = some p) (hI : bR μ pk p) (hv : ∀ c, c < sC sp → cVo μ sp pk c) : xCv true true k_X8_learnRests μ [.ref 0] (fun m => fm [7, 67, 72] μ m ∧ ∀ c, c < sC sp → ∀ x, x < 16 → m.1 (65 + 5 * c + 2) x = iI (nF sp pk c x)) := by
  generalize hQ : (fun (m : xm_M) => fm [7, 67, 72] μ m ∧ ∀ c, c < sC sp → ∀ x, x < 16 → m.1 (65 + 5 * c + 2) x = iI (nF sp pk c x)) = Q
  have hC := sC_b sp
  have hLe := sLe_b sp
  have hSf : ∀ {m : xm_M}, fm [7, 67, 72] μ m → cS m sp := fun h => hS.fr (fun c h1 h2 => (h c (by simp; omega)).1)
  have hanyc : ∀ g, g < 2 → (sC sp = 2 → (g = 1 ↔ anyP sp pk)) → sLe sp = 1 → (g = 1 ↔ anyP sp pk) := fun g _ h hl => h (hLe.2 hl)
  have e149 : ∀ (g : Nat) (m : xm_M), g < 2 → (sC sp = 2 → (g = 1 ↔ anyP sp pk)) → fm [7, 67, 72] μ m → (∀ c, c < sC sp → ∀ x, x < 16 → m.1 (65 + 5 * c + 2) x = iI (rN sp pk c x)) → hd_X8_learnRests_149 Q (nI (sLe sp)) (nI g) m := by
    intro g m hg hga hf hx
    apply l_X8_learnRests_149
    refine ⟨fun c => ?_, fun c => ⟨fun c2 => ?_, fun c2 => ?_⟩⟩
    · have hz : sLe sp = 0 := (neq0 (by omega)).mp c
      rw [← hQ]
      exact ⟨hf, fun c hc x hx2 => by rw [nF_n (by omega)]; exact hx c hc x hx2⟩
    · have hl : sLe sp = 1 := by
        have : sLe sp ≠ 0 := fun h => c (by rw [h]; exact nI_0)
        omega
      have hz : g = 0 := (neq0 (by omega)).mp c2
      have hna : ¬ anyP sp pk := fun h => by have := (hga (hLe.2 hl)).mpr h; omega
      rw [← hQ]
      exact ⟨hf, fun c hc x hx2 => by rw [nF_n (fun h => hna h.2)]; exact hx c hc x hx2⟩
    · have hl : sLe sp = 1 := by
        have : sLe sp ≠ 0 := fun h => c (by rw [h]; exact nI_0)
        omega
      have hg1 : g = 1 := by
        have : g ≠ 0 := fun h => c2 (by rw [h]; exact nI_0)
        omega
      have hc2 := hLe.2 hl
      have han := (hga hc2).mp hg1
      refine ⟨vin (by decide) (by decide), fun V4 hV4 e4 => ⟨vin (by decide) (by decide), fun V6 hV6 e6 => ?_⟩⟩
      rw [cl (by decide)] at e4 e6
      rw [e4, e6]
      refine ⟨_, c_straighten (rN_b sp pk 0) (rN_b sp pk 1) (hx 0 (by omega)) (hx 1 (by omega)), ?_⟩
      rintro m8 ⟨f8, h8⟩
      rw [← hQ]
      refine ⟨hf.tr (f8.mono (by decide)), fun c hc x hx2 => ?_⟩
      rw [nF_l ⟨hl, han⟩]
      rcases (by omega : c = 0 ∨ c = 1) with rfl | rfl
      · exact (h8 x hx2).1
      · exact (h8 x hx2).2
  have e74 : ∀ (g d c : Nat) (m : xm_M), g < 2 → (sC sp = 2 → (g = 1 ↔ anyP sp pk)) → c + d = sC sp → fm [7, 67, 72] μ m → bR m pk ((rP sp pk c).getD (8 * pk.length)) → (∀ i, i < c → ∀ x, x < 16 → m.1 (65 + 5 * i + 2) x = iI (rN sp pk i x)) → (∀ i, c ≤ i → i < sC sp → ∀ x, x < 16 → m.1 (65 + 5 * i + 2) x = nI 0) → hd_X8_learnRests_74 Q (nI (sLe sp)) (nI g) (nI c) m := by
    intro g d
    induction d with
    | zero =>
      intro c m hg hga hc hf hb hx hx0
      have hcC : c = sC sp := by omega
      apply l_X8_learnRests_74
      refine pk_le (sC sp) c (fun _ => ?_) (fun c => by omega) (by rw [(hf 0 (by decide)).1]; exact h07)
      rw [hcC] at hx
      exact e149 g m hg hga hf hx
    | succ d ih =>
      intro c m hg hga hc hf hb hx hx0
      have hSm := hSf hf
      have skip : ¬ hrdP sp pk c → hd_X8_learnRests_143 Q (nI (sLe sp)) (nI g) (nI c) m := by
        intro hn
        obtain ⟨q1, q2⟩ := rP_n hn
        apply l_X8_learnRests_143
        intro x1 e1
        rw [e1, nI_add]
        refine ih (c + 1) m hg hga (by omega) hf (by rw [q1]; exact hb) (lt_s hx (fun x hx2 => ?_)) (fun i h1 h2 => hx0 i (by omega) h2)
        rw [q2]
        exact (hx0 c (Nat.le_refl _) (by omega) x hx2).trans iI_0.symm
      have hear : hrdP sp pk c → ∀ V : Nat, xs_vo V → V = 65 + 5 * (nI c).toNatClampNeg → ∃ Q11 : xm_M → Prop, xCv true true k_X4_learnNumbers m [.ref 9, .ref 7, .ref (V + 2)] Q11 ∧ ∀ m12 : xm_M, Q11 m12 → hd_X8_learnRests_143 Q (nI (sLe sp)) (nI g) (nI c) m12 := by
        intro hh V hV eV
        rw [cl (show c < 2 ^ 31 by omega)] at eV
        obtain ⟨q1, q2⟩ := rP_h hh
        have hVm : V + 2 ∈ [7, 67, 72] := by rcases hV with rfl | rfl <;> decide
        have h0 : cRS m (V + 2) pk (rP sp pk c, fun _ => 0) := ⟨hb, fun x hx2 => by rw [eV]; exact (hx0 c (Nat.le_refl _) (by omega) x hx2).trans iI_0.symm⟩
        refine ⟨_, c_learnNumbers hok hSm (sv_2 hV) (by omega) h0, ?_⟩
        rintro m12 ⟨f12, h12⟩
        have hf12 : fm [7, 67, 72] μ m12 := hf.tr (f12.mono (fun k hk => by
          rcases List.mem_cons.mp hk with rfl | hk
          · decide
          · rw [List.mem_singleton] at hk; rw [hk]; exact hVm))
        have h12' : cRS m12 (V + 2) pk (rCh sp pk (rP sp pk c)) := h12
        apply l_X8_learnRests_143
        intro x1 e1
        rw [e1, nI_add]
        have ok : ∀ i, i ≠ c → i < 2 → m12.1 (65 + 5 * i + 2) = m.1 (65 + 5 * i + 2) := fun i hi h2 => (f12 _ (by simp; omega)).1
        refine ih (c + 1) m12 hg hga (by omega) hf12 (by rw [q1]; exact h12'.1) (lt_s (fun i hi x hx2 => by rw [ok i (by omega) (by omega)]; exact hx i hi x hx2) (fun x hx2 => ?_)) (fun i h1 h2 x hx2 => by rw [ok i (by omega) (by omega)]; exact hx0 i (by omega) h2 x hx2)
        rw [q2, ← eV]
        exact h12'.2 x hx2
      apply l_X8_learnRests_74
      refine pk_le (sC sp) c (fun c => by omega) (fun _ => pk_le 2 c (fun c => by omega) (fun _ => ⟨fun cl0 => ⟨vin (by omega) (by decide), fun V5 hV5 eV5 => ?_⟩, fun cl0 => ⟨fun cg => ?_, fun cg => ⟨vin (by omega) (by decide), ?_⟩⟩⟩)) (by rw [(hf 0 (by decide)).1]; exact h07)
      · have hz : sLe sp = 0 := (neq0 (by omega)).mp cl0
        have eV := eV5
        rw [cl (show c < 2 ^ 31 by omega)] at eV
        have hsil : m.1 V5 0 = nI (if bb pk (cvA sp pk c) = 0 then 1 else 0) := by
          rw [(hf V5 (by rcases hV5 with rfl | rfl <;> decide)).1, eV]
          exact (hv c (by omega)).1
        rw [hsil]
        refine ⟨fun c1 => skip ?_, fun c1 => ⟨vin (by omega) (by decide), hear ?_⟩⟩
        · rintro (⟨h, -⟩ | ⟨-, h⟩)
          · omega
          · have h' : ¬ bb pk (cvA sp pk c) = 0 := h
            exact c1 (by rw [if_neg h']; exact nI_0)
        · refine Or.inr ⟨hz, fun h => ?_⟩
          have : bb pk (cvA sp pk c) = 0 := h
          rw [if_pos this] at c1
          exact absurd c1 (by decide)
      · have hl : sLe sp = 1 := by
          have : sLe sp ≠ 0 := fun h => cl0 (by rw [h]; exact nI_0)
          omega
        have hz : g = 0 := (neq0 (by omega)).mp cg
        refine skip ?_
        rintro (⟨-, h⟩ | ⟨h, -⟩)
        · have := (hga (hLe.2 hl)).mpr h
          omega
        · omega
      · have hl : sLe sp = 1 := by
          have : sLe sp ≠ 0 := fun h => cl0 (by rw [h]; exact nI_0)
          omega
        have hg1 : g = 1 := by
          have : g ≠ 0 := fun h => cg (by rw [h]; exact nI_0)
          omega
        exact hear (Or.inl ⟨hl, (hga (hLe.2 hl)).mp hg1⟩)
  have e40 : ∀ (g d c : Nat) (m : xm_M), g < 2 → (sC sp = 2 → (g = 1 ↔ anyP sp pk)) → c + d = sC sp → fm [7, 67, 72] μ m → bR m pk p → (∀ i, i < c → ∀ x, x < 16 → m.1 (65 + 5 * i + 2) x = nI 0) → hd_X8_learnRests_40 Q (nI (sLe sp)) (nI g) (nI c) m := by
    intro g d
    induction d with
    | zero =>
      intro c m hg hga hc hf hb hx
      have hcC : c = sC sp := by omega
      apply l_X8_learnRests_40
      refine pk_le (sC sp) c (fun _ => ?_) (fun c => by omega) (by rw [(hf 0 (by decide)).1]; exact h07)
      refine e74 g (sC sp) 0 m hg hga (by omega) hf ?_ (fun i hi => by omega) (fun i _ hi => hx i (by omega))
      show bR m pk ((cvP sp pk (sC sp)).getD _)
      rw [hp]
      exact hb
    | succ d ih =>
      intro c m hg hga hc hf hb hx
      apply l_X8_learnRests_40
      refine pk_le (sC sp) c (fun c => by omega) (fun _ => pk_le 2 c (fun c => by omega) (fun _ => ⟨vin (by omega) (by decide), fun V hV eV => ⟨_, c_clearNumbers hV, ?_⟩⟩)) (by rw [(hf 0 (by decide)).1]; exact h07)
      rw [cl (show c < 2 ^ 31 by omega)] at eV
      rintro m6 ⟨f6, h6⟩ x9 e9
      rw [e9, nI_add]
      have hVm : V + 2 ∈ [7, 67, 72] := by rcases hV with rfl | rfl <;> decide
      refine ih (c + 1) m6 hg hga (by omega) (hf.tr (f6.mono (fun k hk => by rw [List.mem_singleton] at hk; rw [hk]; exact hVm))) (hb.fr (f6 7 (by simp; omega)).1 (f6 2 (by simp; omega)).1) (lt_s (fun i hi x hx2 => ?_) (by rw [← eV]; exact h6))
      rw [(f6 _ (by simp; omega)).1]
      exact hx i hi x hx2
  apply g_X8_learnRests
  rw [hS.2.2.1]
  refine ⟨vin (by decide) (by decide), fun V2 hV2 e2 => ?_⟩
  rw [cl (by decide)] at e2
  have s0 : μ.1 V2 0 = nI (if bb pk (cvA sp pk 0) = 0 then 1 else 0) := by rw [e2]; exact (hv 0 (by omega)).1
  rw [s0]
  refine ⟨fun c => ?_, fun c => ⟨vin (by decide) (by decide), fun V5 hV5 e5 => ?_⟩⟩
  · have h0 : ¬ silP sp pk 0 := fun h => by
      have : bb pk (cvA sp pk 0) = 0 := h
      rw [if_pos this] at c
      exact absurd c (by decide)
    exact e40 1 (sC sp) 0 μ (by decide) (fun _ => ⟨fun _ => ⟨0, by omega, h0⟩, fun _ => rfl⟩) (by omega) fm.rf hI (fun i hi => by omega)
  · have h0 : silP sp pk 0 := by
      by_cases h : bb pk (cvA sp pk 0) = 0
      · exact h
      · rw [if_neg h] at c
        exact absurd nI_0 c
    rw [cl (by decide)] at e5
    refine ⟨fun c5 => ?_, fun c5 => ?_⟩
    · refine e40 0 (sC sp) 0 μ (by decide) (fun hC2 => ⟨fun h => by omega, fun ⟨i, hi, hn⟩ => ?_⟩) (by omega) fm.rf hI (fun i hi => by omega)
      exfalso
      rcases (by omega : i = 0 ∨ i = 1) with rfl | rfl
      · exact hn h0
      · have s1 : μ.1 V5 0 = nI (if bb pk (cvA sp pk 1) = 0 then 1 else 0) := by rw [e5]; exact (hv 1 (by omega)).1
        have hn' : ¬ bb pk (cvA sp pk 1) = 0 := hn
        rw [s1, if_neg hn'] at c5
        exact c5 nI_0
    · refine e40 1 (sC sp) 0 μ (by decide) (fun hC2 => ⟨fun _ => ⟨1, by omega, fun hs => ?_⟩, fun _ => rfl⟩) (by omega) fm.rf hI (fun i hi => by omega)
      have s1 : μ.1 V5 0 = nI (if bb pk (cvA sp pk 1) = 0 then 1 else 0) := by rw [e5]; exact (hv 1 (by omega)).1
      have : bb pk (cvA sp pk 1) = 0 := hs
      rw [s1, if_pos this] at c5
      exact absurd c5 (by decide)
