/-! ===== the class's points ===== -/
theorem nI_nm1 {k : Nat} (h : k < 2 ^ 31) : ¬ nI k = -1 := fun e => absurd (n0' h) (by rw [e]; decide)
theorem ap_fin {b : Bool} {Q : xm_M → Prop} {μ : xm_M} {P x : Nat} {v2 v3 : Int32} (hP : P < 17) (hx : x < 17) (h3 : μ.1 9 3 = nI P)
    (k : ∀ m : xm_M, fm [9, 10, 11, 12, 13] μ m → m.1 9 = upd (μ.1 9) 3 (nI (P + 1)) → m.1 10 = upd (μ.1 10) P (nI x) → m.1 11 = upd (μ.1 11) P v2 → m.1 12 = upd (μ.1 12) P v3 → m.1 13 = upd (μ.1 13) x (nI P) → Q m) : hd_X4_addPoint_34 b Q (nI x) v2 v3 (nI P) μ := by
  apply l_X4_addPoint_34
  refine ⟨fun _ => ?_, fun c => absurd (by rw [h3]; exact nI_le (Nat.le_refl _) (by omega)) c⟩
  rw [h3, cl (by omega), cl (show x < 2 ^ 31 by omega)]
  refine ⟨vin hP (by decide), fun m3 e3 => ?_⟩
  have g3 : m3.1 9 3 = nI P := by rw [e3, ri_n (by decide)]; exact h3
  rw [g3, cl (by omega)]
  refine ⟨vin hP (by decide), fun m5 e5 => ?_⟩
  have g5 : m5.1 9 3 = nI P := by rw [e5, ri_n (by decide)]; exact g3
  rw [g5, cl (by omega)]
  refine ⟨vin hP (by decide), fun m7 e7 => ?_⟩
  have g7 : m7.1 9 3 = nI P := by rw [e7, ri_n (by decide)]; exact g5
  rw [g7]
  refine ⟨vin hx (by decide), fun m9 e9 m10 e10 => ?_⟩
  have g9 : m9.1 9 3 = nI P := by rw [e9, ri_n (by decide)]; exact g7
  rw [g9, nI_add] at e10
  refine k m10 ?_ ?_ ?_ ?_ ?_ ?_
  · rw [e10, e9, e7, e5, e3]
    exact ((((fm.rf.I (by decide)).I (by decide)).I (by decide)).I (by decide)).I (by decide)
  · rw [e10, ri_e, e9, ri_n (by decide), e7, ri_n (by decide), e5, ri_n (by decide), e3, ri_n (by decide)]
  · rw [e10, ri_n (by decide), e9, ri_n (by decide), e7, ri_n (by decide), e5, ri_n (by decide), e3, ri_e]
  · rw [e10, ri_n (by decide), e9, ri_n (by decide), e7, ri_n (by decide), e5, ri_e, e3, ri_n (by decide)]
  · rw [e10, ri_n (by decide), e9, ri_n (by decide), e7, ri_e, e5, ri_n (by decide), e3, ri_n (by decide)]
  · rw [e10, ri_n (by decide), e9, ri_e, e7, ri_n (by decide), e5, ri_n (by decide), e3, ri_n (by decide)]
def apQ (μ : xm_M) (P x : Nat) (v2 v3 : Int32) (m : xm_M) : Prop := fm [9, 10, 11, 12, 13] μ m ∧ m.1 9 = upd (μ.1 9) 3 (nI (P + 1)) ∧ m.1 10 = upd (μ.1 10) P (nI x) ∧ m.1 11 = upd (μ.1 11) P v2 ∧ m.1 12 = upd (μ.1 12) P v3 ∧ m.1 13 = upd (μ.1 13) x (nI P)
theorem ap_in {b : Bool} {Q : xm_M → Prop} {μ : xm_M} {P x : Nat} (hP : P < 17) (hx : x < 17) (h3 : μ.1 9 3 = nI P) (k : hd_X4_addPoint_34 b Q (nI x) (nI 0) (nI 1) (nI 0) μ) : xCv b b k_X4_addPoint μ [.ref 9, .int (nI x)] Q := by
  apply g_X4_addPoint
  rw [h3]
  exact ⟨fun c => absurd c (n0 (by omega)), fun _ => pk_lt 16 x (fun c => by omega) (fun _ => ⟨fun c => absurd c (n0 (by omega)), fun _ => pk_lt P 17 (fun _ => k) (fun c => by omega)⟩)⟩
theorem c_addPoint0 {b : Bool} {μ : xm_M} (h3 : μ.1 9 3 = nI 0) : xCv b b k_X4_addPoint μ [.ref 9, .int (nI 0)] (apQ μ 0 0 (nI 0) (nI 1)) :=
  ap_in (by decide) (by decide) h3 (ap_fin (by decide) (by decide) h3 (fun m a1 a2 a3 a4 a5 a6 => ⟨a1, a2, a3, a4, a5, a6⟩))
theorem c_addPoint1 {b : Bool} {μ : xm_M} (h3 : μ.1 9 3 = nI 1) (h10 : μ.1 10 0 = nI 0) : xCv b b k_X4_addPoint μ [.ref 9, .int (nI 16)] (apQ μ 1 16 (nI 0) (nI 1)) := by
  refine ap_in (by decide) (by decide) h3 ?_
  apply l_X4_addPoint_34
  rw [h3, cl (show 0 < 2 ^ 31 by decide), h10]
  refine pk_le 1 0 (fun c => by omega) (fun _ => ⟨vin (by decide) (by decide), pk_le 16 0 (fun c => by omega) (fun _ => ⟨vin (by decide) (by decide), vin (by decide) (by decide), pk_le 0 0 (fun _ => ?_) (fun c => by omega)⟩)⟩)
  apply l_X4_addPoint_73
  rw [cl (show 0 < 2 ^ 31 by decide), h10]
  refine ⟨vin (by decide) (by decide), pk_le 0 16 (fun _ => ?_) (fun c => by omega)⟩
  apply l_X4_addPoint_103
  intro x1 e1
  rw [e1, nI_add]
  exact ap_fin (by decide) (by decide) h3 (fun m a1 a2 a3 a4 a5 a6 => ⟨a1, a2, a3, a4, a5, a6⟩)
theorem c_addPoint {b : Bool} {μ : xm_M} {X : Nat → Nat} {P : Nat} (hP : 2 ≤ P) (hP2 : P < 17) (h3 : μ.1 9 3 = nI P) (hX : ∀ k, k < P → μ.1 10 k = nI (X k)) (hXb : ∀ k, X k < 32) (h0 : X 0 = 0) (h1 : X 1 = 16) (hx0 : 0 < X P) (hx1 : X P < 16) : xCv b b k_X4_addPoint μ [.ref 9, .int (nI (X P))] (fun m => ∃ lo hi, LH X P lo hi ∧ apQ μ P (X P) (nI lo) (nI hi) m) := by
  have loop : ∀ (d i lo hi : Nat), i + d = P → lo < P → hi < P → X lo < X P → X P < X hi → (∀ k, k < i → X k < X P → X k ≤ X lo) → (∀ k, k < i → X P < X k → X hi ≤ X k) → hd_X4_addPoint_34 b (fun m => ∃ lo hi, LH X P lo hi ∧ apQ μ P (X P) (nI lo) (nI hi) m) (nI (X P)) (nI lo) (nI hi) (nI i) μ := by
    intro d
    induction d with
    | zero =>
      intro i lo hi hi0 l1 l2 l3 l4 l5 l6
      have : i = P := by omega
      subst this
      exact ap_fin (by omega) (by omega) h3 (fun m a1 a2 a3 a4 a5 a6 => ⟨lo, hi, ⟨l1, l2, l3, l4, l5, l6⟩, a1, a2, a3, a4, a5, a6⟩)
    | succ d ih =>
      intro i lo hi hi0 l1 l2 l3 l4 l5 l6
      have bi := hXb i
      have bl := hXb lo
      have bh := hXb hi
      have s73 : ∀ lo2, lo2 < P → X lo2 < X P → (∀ k, k < i + 1 → X k < X P → X k ≤ X lo2) → hd_X4_addPoint_73 b (fun m => ∃ lo hi, LH X P lo hi ∧ apQ μ P (X P) (nI lo) (nI hi) m) (nI (X P)) (nI lo2) (nI hi) (nI i) μ := by
        intro lo2 k1 k2 k3
        have s103 : ∀ hi2, hi2 < P → X P < X hi2 → (∀ k, k < i + 1 → X P < X k → X hi2 ≤ X k) → hd_X4_addPoint_103 b (fun m => ∃ lo hi, LH X P lo hi ∧ apQ μ P (X P) (nI lo) (nI hi) m) (nI (X P)) (nI lo2) (nI hi2) (nI i) μ := by
          intro hi2 j1 j2 j3
          apply l_X4_addPoint_103
          intro x1 e1
          rw [e1, nI_add]
          exact ih (i + 1) lo2 hi2 (by omega) k1 j1 k2 j2 k3 j3
        apply l_X4_addPoint_73
        rw [cl (show i < 2 ^ 31 by omega), cl (show hi < 2 ^ 31 by omega), hX i (by omega), hX hi l2]
        refine ⟨vin (by omega) (by decide), pk_le (X i) (X P) (fun c => s103 hi l2 l4 (lt_s l6 (fun h => by omega))) (fun c => ⟨vin (by omega) (by decide), vin (by omega) (by decide), pk_le (X hi) (X i) (fun c2 => s103 hi l2 l4 (lt_s l6 (fun _ => c2))) (fun c2 => s103 i (by omega) c (lt_s (fun k hk h => ?_) (fun _ => Nat.le_refl _)))⟩)⟩
        have := l6 k hk h
        omega
      apply l_X4_addPoint_34
      rw [h3, cl (show i < 2 ^ 31 by omega), cl (show lo < 2 ^ 31 by omega), hX i (by omega), hX lo l1]
      refine pk_le P i (fun c => by omega) (fun _ => ⟨vin (by omega) (by decide), pk_le (X P) (X i) (fun c => s73 lo l1 l3 (lt_s l5 (fun h => by omega))) (fun c => ⟨vin (by omega) (by decide), vin (by omega) (by decide), pk_le (X i) (X lo) (fun c2 => s73 lo l1 l3 (lt_s l5 (fun _ => c2))) (fun c2 => s73 i (by omega) c (lt_s (fun k hk h => ?_) (fun _ => Nat.le_refl _)))⟩)⟩)
      have := l5 k hk h
      omega
  refine ap_in hP2 (by omega) h3 ?_
  exact loop P 0 0 1 (by omega) (by omega) (by omega) (by omega) (by omega) (fun k hk => by omega) (fun k hk => by omega)
theorem cPt.add {μ m : xm_M} {pk : List Int32} {P lo hi : Nat} (h : cPt μ pk P) (hlh : 2 ≤ P → LH (sX pk) P lo hi) (hx : sX pk P ≤ 16) (hne : ∀ k, k < P → sX pk k ≠ sX pk P) (ha : apQ μ P (sX pk P) (nI lo) (nI hi) m) : cPt m pk (P + 1) := by
  obtain ⟨c1, c2, c3, c4⟩ := h
  obtain ⟨-, a9, a10, a11, a12, a13⟩ := ha
  refine ⟨by rw [a9, upd_e], fun k hk => ?_, fun k h2 hk => ?_, fun x hx2 => ?_⟩
  · rw [a10]
    by_cases hkP : k = P
    · rw [hkP, upd_e]
    · rw [upd_n hkP]
      exact c2 k (by omega)
  · rw [a11, a12]
    by_cases hkP : k = P
    · rw [hkP, upd_e, upd_e]
      exact ⟨lo, hi, rfl, rfl, hlh (by omega)⟩
    · rw [upd_n hkP, upd_n hkP]
      exact c3 k h2 (by omega)
  · rw [a13]
    by_cases hxe : x = sX pk P
    · rw [hxe, upd_e]
      exact Or.inl ⟨P, by omega, rfl, rfl⟩
    · rw [upd_n hxe]
      rcases c4 x hx2 with ⟨k, k1, k2, k3⟩ | ⟨k1, k2⟩
      · exact Or.inl ⟨k, by omega, k2, k3⟩
      · refine Or.inr ⟨fun k hk => ?_, k2⟩
        by_cases hkP : k = P
        · rw [hkP]
          exact Ne.symm hxe
        · exact k1 k (by omega)
theorem c_learnPosts {μ : xm_M} {pk : List Int32} (hI : bP μ pk (s2 pk)) (h9 : μ.1 9 9 = nI (sBn pk)) : xCi true true k_X4_learnPosts μ [.ref 9, .ref 7] (fun r μ' => fm [7, 9, 10, 11, 12, 13] μ μ' ∧ (∀ k, k ≠ 1 → k ≠ 3 → k ≠ 10 → μ'.1 9 k = μ.1 9 k) ∧ r = nI (pF pk) ∧ (pF pk = 0 → bP μ' pk (s3 pk) ∧ μ'.1 9 1 = nI (sMu pk) ∧ μ'.1 9 10 = nI (sPb pk) ∧ cPt μ' pk (sPn pk + 2))) := by
  generalize hQ : (fun (r : Int32) (μ' : xm_M) => fm [7, 9, 10, 11, 12, 13] μ μ' ∧ (∀ k, k ≠ 1 → k ≠ 3 → k ≠ 10 → μ'.1 9 k = μ.1 9 k) ∧ r = nI (pF pk) ∧ (pF pk = 0 → bP μ' pk (s3 pk) ∧ μ'.1 9 1 = nI (sMu pk) ∧ μ'.1 9 10 = nI (sPb pk) ∧ cPt μ' pk (sPn pk + 2))) = Q
  have hPn := sPn_b pk
  have hBn := sBn_b pk
  have hpb : sPb pk < 8 := nv_lt pk _ 3
  have mn : ∀ {m m' : xm_M}, fm [7] m m' → fm [7, 9, 10, 11, 12, 13] m m' := fun h => h.mono (fun c hc => by simp at hc; simp [hc])
  have ma : ∀ {m m' : xm_M}, fm [9, 10, 11, 12, 13] m m' → fm [7, 9, 10, 11, 12, 13] m m' := fun h => h.mono (fun c hc => List.mem_cons_of_mem _ hc)
  have bad : ∀ (f : Nat) (m : xm_M), fm [7, 9, 10, 11, 12, 13] μ m → (∀ k, k ≠ 1 → k ≠ 3 → k ≠ 10 → m.1 9 k = μ.1 9 k) → pF pk = f → f ≠ 0 → Q (nI f) m := by
    intro f m hm h1 h2 h3
    rw [← hQ]
    exact ⟨hm, h1, by rw [h2], fun h => absurd (h2.symm.trans h) h3⟩
  refine g_X4_learnPosts ⟨_, v_number 2 (by decide) (by decide) hI, ?_⟩
  rintro r3 m2 ⟨f2, e2, p2⟩ m5 e5
  have p5 : bP m5 pk (s2 pk + 2) := p2.fr (by rw [e5, ri_n (by decide)]) (by rw [e5, ri_n (by decide)])
  refine ⟨_, v_number 4 (by decide) (by decide) p5, ?_⟩
  rintro r8 m7 ⟨f7, e7, p7⟩
  refine ⟨_, v_number 3 (by decide) (by decide) p7, ?_⟩
  rintro r12 m11 ⟨f11, e11, p11⟩ m14 e14
  rw [show s2 pk + 2 + 4 = s2 pk + 6 by omega] at e11 p11
  have h14 : m14.1 9 = upd (upd (μ.1 9) 1 (r3 + nI 1)) 10 r12 := by rw [e14, ri_e, (f11 9 (by decide)).1, (f7 9 (by decide)).1, e5, ri_e, (f2 9 (by decide)).1]
  have f5 : fm [7, 9, 10, 11, 12, 13] μ m5 := by rw [e5]; exact (mn f2).I (by decide)
  have f14 : fm [7, 9, 10, 11, 12, 13] μ m14 := by rw [e14]; exact ((f5.tr (mn f7)).tr (mn f11)).I (by decide)
  have o14 : ∀ k, k ≠ 1 → k ≠ 3 → k ≠ 10 → m14.1 9 k = μ.1 9 k := fun k a1 a2 a3 => by rw [h14, upd_n a3, upd_n a1]
  have h1410 : m14.1 9 10 = rdv pk (s2 pk + 6) 3 := by rw [h14, upd_e, e11]
  rw [h1410]
  refine rdv_br (by decide) (fun c => ?_) (fun c => bad 2 m14 f14 o14 (by unfold pF; rw [if_pos (by omega)]) (by decide))
  rw [rdv_ok c, o14 9 (by decide) (by decide) (by decide), h9]
  refine pk_lt (sPb pk) (sBn pk) (fun c2 m17 e17 => ?_) (fun c2 => bad 5 m14 f14 o14 (by unfold pF; rw [if_neg (by omega), if_pos c2]) (by decide)) rfl
  have hpF : pF pk = pfl pk (sPn pk) := by unfold pF; rw [if_neg (by omega), if_neg (by omega)]
  have r8e : r8 = nI (sPn pk) := by rw [e7, rdv_ok (by omega)]; rfl
  have f17 : fm [7, 9, 10, 11, 12, 13] μ m17 := by rw [e17]; exact f14.I (by decide)
  have p17 : bP m17 pk (s2 pk + 9) := p11.fr (by rw [e17, ri_n (by decide), e14, ri_n (by decide)]) (by rw [e17, ri_n (by decide), e14, ri_n (by decide)])
  have h17 : ∀ k, k ≠ 3 → m17.1 9 k = m14.1 9 k := fun k hk => by rw [e17, ri_e, upd_n hk]
  have h14m : m14.1 9 1 = nI (sMu pk) := by rw [h14, upd_n (by decide), upd_e, e2, rdv_ok (by omega), nI_add]; rfl
  have h14b : m14.1 9 10 = nI (sPb pk) := by rw [h1410, rdv_ok c]; rfl
  have posts : ∀ (d i : Nat) (m : xm_M), i + d = sPn pk → pfl pk i = 0 → cPt m pk (i + 2) → bP m pk (s2 pk + 9 + 5 * i) → s2 pk + 9 + 5 * i ≤ 8 * pk.length → fm [7, 9, 10, 11, 12, 13] μ m → (∀ k, k ≠ 3 → m.1 9 k = m14.1 9 k) → hd_X4_learnPosts_90 Q (nI (sPn pk)) (nI i) m := by
    intro d
    induction d with
    | zero =>
      intro i m hi hp hc hb hl hf h9m
      have hin : i = sPn pk := by omega
      apply l_X4_learnPosts_90
      refine pk_le (sPn pk) i (fun _ => ?_) (fun c => by omega)
      rw [← hQ]
      rw [hin] at hp hc hb
      exact ⟨hf, fun k a1 a2 a3 => by rw [h9m k a2]; exact o14 k a1 a2 a3, by rw [hpF, hp], fun _ => ⟨hb, by rw [h9m 1 (by decide)]; exact h14m, by rw [h9m 10 (by decide)]; exact h14b, hc⟩⟩
    | succ d ih =>
      intro i m hi hp hc hb hl hf h9m
      apply l_X4_learnPosts_90
      refine pk_le (sPn pk) i (fun c => by omega) (fun _ => ⟨_, v_number 5 (by decide) (by decide) hb, ?_⟩)
      rintro r4 m3 ⟨g3, e3, p3⟩
      have gf : fm [7, 9, 10, 11, 12, 13] μ m3 := hf.tr (mn g3)
      have g9 : ∀ k, k ≠ 3 → m3.1 9 k = m14.1 9 k := fun k hk => by rw [(g3 9 (by decide)).1]; exact h9m k hk
      have go : ∀ k, k ≠ 1 → k ≠ 3 → k ≠ 10 → m3.1 9 k = μ.1 9 k := fun k a1 a2 a3 => by rw [g9 k a2]; exact o14 k a1 a2 a3
      have bad6 : (¬ 8 * pk.length < s2 pk + 9 + 5 * (i + 1)) → ¬ okX pk (i + 2) → Q (nI 6) m3 := fun hl2 ho => bad 6 m3 gf go (by rw [hpF, pfl_up (k := i + 1) (by rw [pfl_s6 hp hl2 ho]; decide) _ (by omega), pfl_s6 hp hl2 ho]) (by decide)
      rw [e3]
      refine rdv_br (by decide) (fun c => ?_) (fun c => bad 2 m3 gf go (by rw [hpF, pfl_up (k := i + 1) (by rw [pfl_s2 hp (by omega)]; decide) _ (by omega), pfl_s2 hp (by omega)]) (by decide))
      have hxb := sX_b pk (i + 2)
      rw [rdv_ok c, show nv pk (s2 pk + 9 + 5 * i) 5 = sX pk (i + 2) from rfl]
      refine ⟨fun cz => bad6 (by omega) (fun ho => ?_), fun cz => pk_le 16 (sX pk (i + 2)) (fun c2 => bad6 (by omega) (fun ho => by have := ho.2.1; omega)) (fun c2 => ⟨vin (by omega) (by decide), ?_⟩)⟩
      · have := ho.1
        have := (neq0 (by omega)).mp cz
        omega
      have hx0 : 0 < sX pk (i + 2) := Nat.pos_of_ne_zero (fun h => cz (by rw [h]; exact nI_0))
      have hc3 : cPt m3 pk (i + 2) := by
        obtain ⟨q1, q2, q3, q4⟩ := hc
        exact ⟨by rw [(g3 9 (by decide)).1]; exact q1, fun k hk => by rw [(g3 10 (by decide)).1]; exact q2 k hk, fun k a hk => by rw [(g3 11 (by decide)).1, (g3 12 (by decide)).1]; exact q3 k a hk, fun x hx => by rw [(g3 13 (by decide)).1]; exact q4 x hx⟩
      rw [cl (by omega)]
      rcases hc3.2.2.2 (sX pk (i + 2)) (by omega) with ⟨k, k1, k2, k3⟩ | ⟨k1, k2⟩
      · rw [k3]
        exact ⟨fun c3 => absurd c3 (nI_nm1 (by omega)), fun _ => bad6 (by omega) (fun ho => ho.2.2 k k1 k2)⟩
      · refine ⟨fun _ => ⟨_, c_addPoint (X := sX pk) (by omega) (by omega) hc3.1 hc3.2.1 (sX_b pk) rfl rfl hx0 c2, ?_⟩, fun c3 => absurd k2 c3⟩
        rintro m12 ⟨lo, hi2, hlh, ha⟩ x15 e15
        rw [e15, nI_add]
        have hok : okX pk (i + 2) := ⟨hx0, c2, k1⟩
        refine ih (i + 1) m12 (by omega) (pfl_s0 hp (by omega) hok) (hc3.add (fun _ => hlh) (by omega) k1 ha) ?_ (by omega) (gf.tr (ma ha.1)) (fun k hk => by rw [ha.2.1, upd_n hk]; exact g9 k hk)
        rw [show s2 pk + 9 + 5 * (i + 1) = s2 pk + 9 + 5 * i + 5 by omega]
        exact p3.fr (ha.1 7 (by decide)).1 (ha.1 2 (by decide)).1
  have clear : ∀ (d i : Nat) (m : xm_M), i + d = 17 → (∀ x, x < i → m.1 13 x = -1) → m.1 9 = m17.1 9 → bP m pk (s2 pk + 9) → fm [7, 9, 10, 11, 12, 13] μ m → hd_X4_learnPosts_55 Q (nI (sPn pk)) (nI i) m := by
    intro d
    induction d with
    | zero =>
      intro i m hi h13 h9m hb hf
      apply l_X4_learnPosts_55
      have h93 : m.1 9 3 = nI 0 := by rw [h9m, e17, ri_e, upd_e]
      refine pk_le 17 i (fun _ => ⟨_, c_addPoint0 h93, ?_⟩) (fun c => by omega)
      intro m3 a3
      have c0 : cPt m pk 0 := ⟨h93, fun k hk => by omega, fun k _ hk => by omega, fun x hx => Or.inr ⟨fun k hk => by omega, h13 x (by omega)⟩⟩
      have c1 : cPt m3 pk 1 := c0.add (lo := 0) (hi := 1) (fun h => by omega) (Nat.zero_le _) (fun k hk => by omega) a3
      refine ⟨_, c_addPoint1 c1.1 (c1.2.1 0 (by decide)), ?_⟩
      intro m7 a7
      have c2' : cPt m7 pk 2 := c1.add (lo := 0) (hi := 1) (fun h => by omega) (Nat.le_refl 16) (fun k hk => by
        have : k = 0 := by omega
        rw [this]
        show (0 : Nat) ≠ 16
        decide) a7
      refine posts (sPn pk) 0 m7 (by omega) rfl c2' ?_ (by omega) ((hf.tr (ma a3.1)).tr (ma a7.1)) (fun k hk => ?_)
      · rw [Nat.mul_zero, Nat.add_zero]
        exact hb.fr ((a7.1 7 (by decide)).1.trans (a3.1 7 (by decide)).1) ((a7.1 2 (by decide)).1.trans (a3.1 2 (by decide)).1)
      · rw [a7.2.1, upd_n hk, a3.2.1, upd_n hk, h9m]
        exact h17 k hk
    | succ d ih =>
      intro i m hi h13 h9m hb hf
      apply l_X4_learnPosts_55
      refine pk_le 17 i (fun c => by omega) (fun _ => ⟨vin (by omega) (by decide), fun m11 e11 x12 e12 => ?_⟩)
      rw [cl (by omega)] at e11
      rw [e12, nI_add]
      refine ih (i + 1) m11 (by omega) (lt_s (fun x hx => ?_) (by rw [e11, ri_e, upd_e])) (by rw [e11, ri_n (by decide)]; exact h9m) (hb.fr (by rw [e11, ri_n (by decide)]) (by rw [e11, ri_n (by decide)])) (by rw [e11]; exact hf.I (by decide))
      rw [e11, ri_e, upd_n (by omega)]
      exact h13 x hx
  rw [r8e]
  exact clear 17 0 m17 rfl (fun x hx => by omega) rfl p17 f17
