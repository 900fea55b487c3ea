/-! ===== the reference's setup ===== -/
theorem mB.cg {μ μ' : xm_M} {j a : Nat} {pk : List Int32} (h : mB μ j pk a) (hc : ∀ c, 83 ≤ c → c ≤ 93 → μ'.1 c = μ.1 c) : mB μ' j pk a := by
  obtain ⟨g1, ⟨t1, s, t2, t3, t5⟩, g3, g4, g5⟩ := h
  refine ⟨g1, ⟨fun e he => by rw [hc 93 (by decide) (by decide)]; exact t1 e he, s, t2, by rw [hc 92 (by decide) (by decide)]; exact t3, by rw [hc 85 (by decide) (by decide)]; exact t5⟩, by rw [hc 83 (by decide) (by decide)]; exact g3, by rw [hc 86 (by decide) (by decide)]; exact g4, fun hh => ?_⟩
  unfold mV
  rw [hc 87 (by decide) (by decide), hc 88 (by decide) (by decide), hc 89 (by decide) (by decide), hc 90 (by decide) (by decide), hc 91 (by decide) (by decide)]
  exact g5 hh
/-- one place of one cell, and the bits and the fault -/
def kc (c0 k0 : Nat) (μ μ' : xm_M) : Prop := (∀ c, c ≠ 75 → c ≠ c0 → μ'.1 c = μ.1 c) ∧ μ'.2.1 = μ.2.1 ∧ (∀ i, i ≠ 15 → i ≠ 17 → i ≠ 19 → μ'.1 75 i = μ.1 75 i) ∧ ∀ i, i ≠ k0 → μ'.1 c0 i = μ.1 c0 i
theorem kc.tr {c0 k0 : Nat} {μ μ1 μ2 : xm_M} (h1 : kc c0 k0 μ μ1) (h2 : kc c0 k0 μ1 μ2) : kc c0 k0 μ μ2 := ⟨fun c a b => (h2.1 c a b).trans (h1.1 c a b), h2.2.1.trans h1.2.1, fun i a b c => (h2.2.2.1 i a b c).trans (h1.2.2.1 i a b c), fun i a => (h2.2.2.2 i a).trans (h1.2.2.2 i a)⟩
theorem fb.kc {c0 k0 : Nat} {μ μ' : xm_M} (h : fb μ μ') (hc : c0 ≠ 75) : kc c0 k0 μ μ' := ⟨fun c a _ => h.1 c a, h.2.1, fun i a b _ => h.2.2 i a b, fun i _ => by rw [h.1 c0 hc]⟩
theorem kc.s {c0 k0 : Nat} {μ : xm_M} {v : Int32} (hc : c0 ≠ 75) : kc c0 k0 μ (xu_I μ c0 (upd (μ.1 c0) k0 v)) := ⟨fun c _ b => ri_n b, rfl, fun i _ _ _ => by rw [ri_n (Ne.symm hc)], fun i h => by rw [ri_e, upd_n h]⟩
theorem kc.f {c0 k0 : Nat} {μ : xm_M} {v : Int32} (hc : c0 ≠ 75) : kc c0 k0 μ (xu_I μ 75 (upd (μ.1 75) 19 v)) := ⟨fun c a _ => ri_n a, rfl, fun i _ _ h => by rw [ri_e, upd_n h], fun i _ => by rw [ri_n hc]⟩
theorem c_mopens {b : Bool} {μ : xm_M} {pk : List Int32} {K : Nat} (hK : K < 60) (hl : pk.length ≤ 2000) (h80 : μ.1 80 K = nI pk.length) (h79 : ∀ j v, pk[j]? = some v → μ.1 79 (2000 * K + j) = v) : xCv b b k_X9_opens μ [.ref 75, .int (nI K)] (fun m => mP m pk 0 ∧ (∀ c, c ≠ 75 → m.1 c = μ.1 c) ∧ m.2.1 = μ.2.1 ∧ ∀ k, k < 14 ∨ 17 < k → m.1 75 k = μ.1 75 k) := by
  apply g_X9_opens
  intro m1 e1 m2 e2
  have h2 : m2.1 80 = μ.1 80 := by rw [e2, ri_n (by decide), e1, ri_n (by decide)]
  rw [cl (show K < 2 ^ 31 by omega), h2, h80]
  refine ⟨vin (by omega) (by decide), fun m4 e4 m5 e5 => ?_⟩
  rw [pk_mul] at e1 e4
  have f5 : m5.1 75 = upd (upd (upd (upd (μ.1 75) 14 (nI (2000 * K))) 15 (nI 0)) 16 (nI (8 * pk.length))) 17 (nI 0) := by
    rw [e5, ri_e, e4, ri_e, e2, ri_e, e1, ri_e]
  have c5 : ∀ c, c ≠ 75 → m5.1 c = μ.1 c := fun c hc => by rw [e5, ri_n hc, e4, ri_n hc, e2, ri_n hc, e1, ri_n hc]
  refine ⟨mR.P ⟨K, hK, hl, ?_, ?_, ?_, ?_, Nat.zero_le _, fun i v hi => ?_⟩, c5, by rw [e5, e4, e2, e1]; rfl, fun k hk => ?_⟩
  · rw [f5, upd_n (by decide), upd_n (by decide), upd_n (by decide), upd_e]
  · rw [f5, upd_n (by decide), upd_n (by decide), upd_e]
  · rw [f5, upd_n (by decide), upd_e]
  · rw [f5, upd_e]; rfl
  · rw [c5 79 (by decide)]; exact h79 i v hi
  · rw [f5, upd_n (by omega), upd_n (by omega), upd_n (by omega), upd_n (by omega)]
noncomputable def psF (pk : List Int32) (i : Nat) : Nat := by
  classical
  exact if 8 * pk.length < s2 pk + 9 + 5 * (i + 1) then 2 else if okX pk (i + 2) then 0 else 6
theorem pfl_sp {pk : List Int32} {i : Nat} (h : pfl pk i = 0) : pfl pk (i + 1) = psF pk i := by
  conv => lhs; unfold pfl
  simp only [if_pos h]
  rfl
theorem c_mpost {b : Bool} {μ : xm_M} {pk : List Int32} {i : Nat} (hi : i < 15) (hI : mP μ pk (s2 pk + 9 + 5 * i)) (h19 : μ.1 75 19 = nI 0) (hx : ∀ k, k < i + 2 → μ.1 94 k = nI (sX pk k)) : xCv b b k_X9_post μ [.ref 75, .int (nI (i + 2))] (fun m => kc 94 (i + 2) μ m ∧ m.1 94 (i + 2) = nI (sX pk (i + 2)) ∧ mP m pk (s2 pk + 9 + 5 * (i + 1)) ∧ m.1 75 19 = nI (psF pk i)) := by
  generalize hQ : (fun (m : xm_M) => kc 94 (i + 2) μ m ∧ m.1 94 (i + 2) = nI (sX pk (i + 2)) ∧ mP m pk (s2 pk + 9 + 5 * (i + 1)) ∧ m.1 75 19 = nI (psF pk i)) = Q
  have hxb := sX_b pk (i + 2)
  refine g_X9_post _ ⟨_, v_mbits 5 (by decide) hI, ?_⟩
  rintro r3 m2 ⟨f2, e2, p2⟩
  rw [cl (show i + 2 < 2 ^ 31 by omega), e2, show nv pk (s2 pk + 9 + 5 * i) 5 = sX pk (i + 2) from rfl]
  refine ⟨vin (by omega) (by decide), fun m6 e6 => ?_⟩
  have p6 : mP m6 pk (s2 pk + 9 + 5 * (i + 1)) := by
    rw [e6, show s2 pk + 9 + 5 * (i + 1) = s2 pk + 9 + 5 * i + 5 by omega]
    exact p2.u (by decide) (by decide)
  have k6 : kc 94 (i + 2) μ m6 := by rw [e6]; exact (f2.kc (by decide)).tr (kc.s (by decide))
  have h619 : m6.1 75 19 = nI 0 := by rw [e6, ri_n (by decide), f2.2.2 19 (by decide) (by decide)]; exact h19
  have h694 : ∀ k, k < i + 3 → m6.1 94 k = nI (sX pk k) := by
    refine lt_s (fun k hk => ?_) ?_
    · rw [e6, ri_e, upd_n (by omega), f2.1 94 (by decide)]
      exact hx k hk
    · rw [e6, ri_e, upd_e]
  refine ⟨_, c_mended p6 h619, ?_⟩
  intro m8 h8
  have k8 : kc 94 (i + 2) μ m8 := by
    rcases h8 with ⟨-, rfl⟩ | ⟨-, e⟩
    · exact k6
    · rw [e]; exact k6.tr (kc.f (by decide))
  have p8 : mP m8 pk (s2 pk + 9 + 5 * (i + 1)) := by
    rcases h8 with ⟨-, rfl⟩ | ⟨-, e⟩
    · exact p6
    · rw [e]; exact p6.v (by decide)
  have h894 : m8.1 94 = m6.1 94 := by
    rcases h8 with ⟨-, rfl⟩ | ⟨-, e⟩
    · rfl
    · rw [e, ri_n (by decide)]
  have h819 : m8.1 75 19 = nI (if 8 * pk.length < s2 pk + 9 + 5 * (i + 1) then 2 else 0) := by
    rcases h8 with ⟨h, rfl⟩ | ⟨h, e⟩
    · rw [if_neg (by omega)]; exact h619
    · rw [e, ri_e, upd_e, if_pos h]
  have loop : ∀ (d k g : Nat), k + d = i + 2 → 2 ≤ k → g < 2 → (g = 1 ↔ (1 ≤ sX pk (i + 2) ∧ sX pk (i + 2) < 16 ∧ ∀ j, 2 ≤ j → j < k → sX pk j ≠ sX pk (i + 2))) → hd_X9_post_43 b Q (nI (i + 2)) (nI g) (nI k) m8 := by
    intro d
    induction d with
    | zero =>
      intro k g hk h2 hg hiff
      have : k = i + 2 := by omega
      subst this
      have hok : g = 1 ↔ okX pk (i + 2) := by
        rw [hiff]
        constructor
        · rintro ⟨a1, a2, a3⟩
          refine ⟨a1, a2, fun j hj => ?_⟩
          match j, hj with
          | 0, _ => exact fun h => by rw [show sX pk 0 = 0 from rfl] at h; omega
          | 1, _ => exact fun h => by rw [show sX pk 1 = 16 from rfl] at h; omega
          | j + 2, hj => exact a3 (j + 2) (by omega) hj
        · rintro ⟨a1, a2, a3⟩
          exact ⟨a1, a2, fun j _ hj => a3 j hj⟩
      apply l_X9_post_43
      refine pk_le (i + 2) (i + 2) (fun _ => ⟨fun c => ?_, fun c => ?_⟩) (fun c => by omega)
      · have hg1 : g = 1 := by
          have : g ≠ 0 := fun h => c (by rw [h]; exact nI_0)
          omega
        rw [← hQ]
        refine ⟨k8, by rw [h894]; exact h694 _ (by omega), p8, ?_⟩
        rw [h819]
        unfold psF
        simp only [if_pos (hok.mp hg1)]
      · have hg0 : g = 0 := (neq0 (by omega)).mp c
        have hno : ¬ okX pk (i + 2) := fun h => by have := hok.mpr h; omega
        by_cases ho : 8 * pk.length < s2 pk + 9 + 5 * (i + 1)
        · rw [if_pos ho] at h819
          refine ⟨_, c_mwrong1 _ h819 (by decide) (by decide), ?_⟩
          rintro m4 rfl
          rw [← hQ]
          refine ⟨k8, by rw [h894]; exact h694 _ (by omega), p8, ?_⟩
          rw [h819]
          unfold psF
          simp only [if_pos ho]
        · rw [if_neg ho] at h819
          refine ⟨_, c_mwrong 6 h819, fun m4 e4 => ?_⟩
          rw [← hQ]
          refine ⟨by rw [e4]; exact k8.tr (kc.f (by decide)), by rw [e4, ri_n (by decide), h894]; exact h694 _ (by omega), by rw [e4]; exact p8.v (by decide), ?_⟩
          rw [e4, ri_e, upd_e]
          unfold psF
          simp only [if_neg ho, if_neg hno]
    | succ d ih =>
      intro k g hk h2 hg hiff
      have hkb := sX_b pk k
      apply l_X9_post_43
      refine pk_le (i + 2) k (fun c => by omega) (fun _ => ⟨fun c x8 e8 => ?_, fun c => ⟨vin (by omega) (by decide), vin (by omega) (by decide), ?_⟩⟩)
      · have hg0 : g = 0 := (neq0 (by omega)).mp c
        rw [e8, nI_add]
        refine ih (k + 1) 0 (by omega) (by omega) (by decide) ⟨fun h => by omega, fun ⟨a1, a2, a3⟩ => ?_⟩
        have := hiff.mpr ⟨a1, a2, fun j hj hk2 => a3 j hj (by omega)⟩
        omega
      · have hg1 : g = 1 := by
          have : g ≠ 0 := fun h => c (by rw [h]; exact nI_0)
          omega
        obtain ⟨a1, a2, a3⟩ := hiff.mp hg1
        rw [cl (show k < 2 ^ 31 by omega), cl (show i + 2 < 2 ^ 31 by omega), h894, h694 k (by omega), h694 (i + 2) (by omega)]
        refine pk_eq (sX pk k) (sX pk (i + 2)) (fun ce x12 e12 => ?_) (fun ce x13 e13 => ?_)
        · rw [e12, nI_add]
          exact ih (k + 1) 0 (by omega) (by omega) (by decide) ⟨fun h => by omega, fun ⟨_, _, b3⟩ => absurd ce (b3 k h2 (by omega))⟩
        · rw [e13, nI_add]
          refine ih (k + 1) 1 (by omega) (by omega) (by decide) ⟨fun _ => ⟨a1, a2, fun j hj hk2 => ?_⟩, fun _ => rfl⟩
          by_cases hjk : j = k
          · rw [hjk]; exact ce
          · exact a3 j hj (by omega)
  rw [h894, h694 (i + 2) (by omega)]
  refine ⟨vin (by omega) (by decide), fun c => ?_, fun c => ⟨vin (by omega) (by decide), pk_le 16 (sX pk (i + 2)) (fun c2 => ?_) (fun c2 => ?_)⟩⟩
  · rw [show (0 : Int32) = nI 0 from nI_0.symm, nI_leI (by omega) (by decide)] at c
    exact loop i 2 0 (by omega) (by decide) (by decide) ⟨fun h => by omega, fun ⟨a1, _, _⟩ => by omega⟩
  · exact loop i 2 0 (by omega) (by decide) (by decide) ⟨fun h => by omega, fun ⟨_, a2, _⟩ => by omega⟩
  · rw [show (0 : Int32) = nI 0 from nI_0.symm, nI_leI (by omega) (by decide)] at c
    exact loop i 2 1 (by omega) (by decide) (by decide) ⟨fun _ => ⟨by omega, c2, fun j h1 h2 => by omega⟩, fun _ => rfl⟩
