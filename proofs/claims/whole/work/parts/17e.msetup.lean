theorem c_mofClass {b : Bool} {μ : xm_M} {pk : List Int32} {k : Nat} (hk : k < 4) (hI : mP μ pk (s3 pk + 7 + 4 * k)) (h19 : μ.1 75 19 = nI 0) (h18 : μ.1 75 18 = nI (sBn pk)) (h35 : μ.1 75 35 = nI (sSz pk)) (hB : ∀ j, j < sBn pk → mB μ j pk (bp pk j)) : xCv b b k_X9_ofClass μ [.ref 75, .int (nI k)] (fun m => kc 95 k μ m ∧ m.1 95 k = (if sCl pk k < 8 then nI (sCl pk k) else -1) ∧ mP m pk (s3 pk + 7 + 4 * (k + 1)) ∧ m.1 75 19 = nI (if 8 * pk.length < s3 pk + 7 + 4 * (k + 1) then 2 else clF pk (sCl pk k))) := by
  generalize hQ : (fun (m : xm_M) => kc 95 k μ m ∧ m.1 95 k = (if sCl pk k < 8 then nI (sCl pk k) else -1) ∧ mP m pk (s3 pk + 7 + 4 * (k + 1)) ∧ m.1 75 19 = nI (if 8 * pk.length < s3 pk + 7 + 4 * (k + 1) then 2 else clF pk (sCl pk k))) = Q
  have hBn := sBn_b pk
  have hsz := sSz_b pk
  have hv : sCl pk k < 16 := nv_lt pk _ 4
  refine g_X9_ofClass _ ⟨_, v_mbits 4 (by decide) hI, ?_⟩
  rintro r3 m2 ⟨f2, e2, p2⟩
  rw [cl (show k < 2 ^ 31 by omega), e2, show nv pk (s3 pk + 7 + 4 * k) 4 = sCl pk k from rfl]
  have h219 : m2.1 75 19 = nI 0 := by rw [f2.2.2 19 (by decide) (by decide)]; exact h19
  have p2' : mP m2 pk (s3 pk + 7 + 4 * (k + 1)) := by
    rw [show s3 pk + 7 + 4 * (k + 1) = s3 pk + 7 + 4 * k + 4 by omega]
    exact p2
  refine ⟨_, c_mended p2' h219, fun m6 h6 => ?_⟩
  have k6 : kc 95 k μ m6 := by
    rcases h6 with ⟨-, rfl⟩ | ⟨-, e⟩
    · exact f2.kc (by decide)
    · rw [e]; exact (f2.kc (by decide)).tr (kc.f (by decide))
  have p6 : mP m6 pk (s3 pk + 7 + 4 * (k + 1)) := by
    rcases h6 with ⟨-, rfl⟩ | ⟨-, e⟩
    · exact p2'
    · rw [e]; exact p2'.v (by decide)
  have h619 : m6.1 75 19 = nI (if 8 * pk.length < s3 pk + 7 + 4 * (k + 1) then 2 else 0) := by
    rcases h6 with ⟨h, rfl⟩ | ⟨h, e⟩
    · rw [if_neg (by omega)]; exact h219
    · rw [e, ri_e, upd_e, if_pos h]
  -- what is common to both roads
  have st : ∀ (v : Int32) (m : xm_M), m = xu_I m6 95 (upd (m6.1 95) k v) → kc 95 k μ m ∧ m.1 95 k = v ∧ mP m pk (s3 pk + 7 + 4 * (k + 1)) ∧ m.1 75 19 = nI (if 8 * pk.length < s3 pk + 7 + 4 * (k + 1) then 2 else 0) := by
    intro v m e
    refine ⟨by rw [e]; exact k6.tr (kc.s (by decide)), by rw [e, ri_e, upd_e], by rw [e]; exact p6.u (by decide) (by decide), by rw [e, ri_n (by decide)]; exact h619⟩
  refine pk_le 8 (sCl pk k) (fun c => ⟨vin hk (by decide), fun m11 e11 => ?_⟩) (fun c => ⟨vin hk (by decide), fun m33 e33 => ?_⟩)
  · obtain ⟨s1, s2', s3', s4'⟩ := st _ m11 e11
    have hc : clF pk (sCl pk k) = 0 := by unfold clF; rw [if_pos c]
    have fin : Q m11 := by
      rw [← hQ]
      refine ⟨s1, by rw [if_neg (by omega)]; exact s2', s3', by rw [hc]; exact s4'⟩
    exact ⟨fun _ => fin, fun _ => pk_lt (sCl pk k) 8 (fun c2 => by omega) (fun _ => fin)⟩
  · obtain ⟨s1, s2', s3', s4'⟩ := st _ m33 e33
    rw [s4']
    by_cases ho : 8 * pk.length < s3 pk + 7 + 4 * (k + 1)
    · rw [if_pos ho]
      rw [if_pos ho] at s4'
      refine ⟨fun _ => ?_, fun c2 => absurd (by decide) c2⟩
      rw [← hQ]
      exact ⟨s1, by rw [if_pos c]; exact s2', s3', by rw [if_pos ho]; exact s4'⟩
    · rw [if_neg ho]
      rw [if_neg ho] at s4'
      have h18' : m33.1 75 18 = nI (sBn pk) := by rw [s1.2.2.1 18 (by decide) (by decide) (by decide)]; exact h18
      have h35' : m33.1 75 35 = nI (sSz pk) := by rw [s1.2.2.1 35 (by decide) (by decide) (by decide)]; exact h35
      have wr : ∀ f : Nat, clF pk (sCl pk k) = f → ∃ Q28 : xm_M → Prop, xCv b b k_X9_wrong m33 [.ref 75, .int (nI f)] Q28 ∧ ∀ m29 : xm_M, Q28 m29 → Q m29 := by
        intro f hf
        refine ⟨_, c_mwrong f s4', fun m29 e29 => ?_⟩
        rw [← hQ]
        refine ⟨by rw [e29]; exact s1.tr (kc.f (by decide)), by rw [e29, ri_n (by decide), if_pos c]; exact s2', by rw [e29]; exact s3'.v (by decide), by rw [e29, ri_e, upd_e, if_neg ho, hf]⟩
      rw [h18', h35']
      refine ⟨fun c2 => absurd c2 (by decide), fun _ => pk_lt (sCl pk k) 8 (fun _ => pk_lt (sCl pk k) (sBn pk) (fun c2 => ⟨vin (by omega) (by decide), ?_⟩) (fun c2 => wr 5 (by unfold clF; rw [if_neg (by omega), if_pos c2]))) (fun c2 => by omega)⟩
      obtain ⟨b1, b2, b3, b4, b5⟩ := (hB (sCl pk k) c2).cg (μ' := m33) (fun d h1 h2 => s1.1 d (by omega) (by omega))
      have hw := bkW_b pk (bp pk (sCl pk k))
      have hh := bkH_b pk (bp pk (sCl pk k))
      rw [cl (show sCl pk k < 2 ^ 31 by omega), b4, b3, pk_rem (show sSz pk < 2 ^ 31 by omega) (by omega) (by omega)]
      refine ⟨fun c3 => wr 7 ?_, fun c3 => ⟨vin (by omega) (by decide), nI_ne0 (by omega) (by omega), fun c4 => ?_, fun c4 => wr 7 ?_⟩⟩
      · have := (neq0 (by omega)).mp c3
        unfold clF
        rw [if_neg (by omega), if_neg (by omega), if_pos this]
      · have h3 : ¬ bkH pk (bp pk (sCl pk k)) = 0 := fun h => c3 (by rw [h]; exact nI_0)
        have h4 := (neq0 (Nat.lt_of_le_of_lt (Nat.mod_le _ _) (by omega))).mp c4
        rw [← hQ]
        refine ⟨s1, by rw [if_pos c]; exact s2', s3', ?_⟩
        rw [if_neg ho, s4']
        unfold clF
        rw [if_neg (by omega), if_neg (by omega), if_neg h3, if_pos h4]
      · have h3 : ¬ bkH pk (bp pk (sCl pk k)) = 0 := fun h => c3 (by rw [h]; exact nI_0)
        have h4 : ¬ sSz pk % bkW pk (bp pk (sCl pk k)) = 0 := fun h => c4 (by rw [h]; exact nI_0)
        unfold clF
        rw [if_neg (by omega), if_neg (by omega), if_neg h3, if_neg h4]
/-- fields of the reference alone -/
def fk (K : List Nat) (μ μ' : xm_M) : Prop := (∀ c, c ≠ 75 → μ'.1 c = μ.1 c) ∧ μ'.2.1 = μ.2.1 ∧ ∀ k, k ∉ K → μ'.1 75 k = μ.1 75 k
theorem fk.rf {K : List Nat} {μ : xm_M} : fk K μ μ := ⟨fun _ _ => rfl, rfl, fun _ _ => rfl⟩
theorem fk.tr {K : List Nat} {μ μ1 μ2 : xm_M} (h1 : fk K μ μ1) (h2 : fk K μ1 μ2) : fk K μ μ2 := ⟨fun c a => (h2.1 c a).trans (h1.1 c a), h2.2.1.trans h1.2.1, fun k a => (h2.2.2 k a).trans (h1.2.2 k a)⟩
theorem fk.b {K : List Nat} {μ μ1 μ2 : xm_M} (h1 : fk K μ μ1) (h : fb μ1 μ2) (h15 : 15 ∈ K ∧ 17 ∈ K) : fk K μ μ2 := h1.tr ⟨h.1, h.2.1, fun k hk => h.2.2 k (fun e => hk (e ▸ h15.1)) (fun e => hk (e ▸ h15.2))⟩
theorem fk.s {K : List Nat} {μ m m' : xm_M} {k : Nat} {v : Int32} (h : fk K μ m) (e : m' = xu_I m 75 (upd (m.1 75) k v)) (hk : k ∈ K) : fk K μ m' := h.tr ⟨fun c hc => by rw [e, ri_n hc], by rw [e]; rfl, fun j hj => by
  have hne : j ≠ k := fun q => hj (by rw [q]; exact hk)
  rw [e, ri_e, upd_n hne]⟩
theorem fk.e {K : List Nat} {μ m m' : xm_M} {A B : Prop} (h : fk K μ m) (e : (A ∧ m' = m) ∨ (B ∧ m' = xu_I m 75 (upd (m.1 75) 19 (nI 2)))) (hk : 19 ∈ K) : fk K μ m' := by
  rcases e with ⟨-, rfl⟩ | ⟨-, e⟩
  · exact h
  · exact h.s e hk
def kS (μ μ' : xm_M) : Prop := (∀ c, c ≠ 75 → c < 83 ∨ 95 < c → μ'.1 c = μ.1 c) ∧ μ'.2.1 = μ.2.1 ∧ ∀ k, k < 14 ∨ (19 < k ∧ k < 31) ∨ 38 < k → μ'.1 75 k = μ.1 75 k
theorem kS.tr {μ μ1 μ2 : xm_M} (h1 : kS μ μ1) (h2 : kS μ1 μ2) : kS μ μ2 := ⟨fun c a b => (h2.1 c a b).trans (h1.1 c a b), h2.2.1.trans h1.2.1, fun k a => (h2.2.2 k a).trans (h1.2.2 k a)⟩
theorem fk.kS {K : List Nat} {μ μ' : xm_M} (h : fk K μ μ') (hK : ∀ k ∈ K, (14 ≤ k ∧ k ≤ 19) ∨ (31 ≤ k ∧ k ≤ 38)) : kS μ μ' := ⟨fun c a _ => h.1 c a, h.2.1, fun k hk => h.2.2 k (fun hm => by have := hK k hm; omega)⟩
theorem kb.kS {μ μ' : xm_M} {j : Nat} (h : kb μ μ' j) : kS μ μ' := ⟨fun c a b => h.1 c a (by omega), h.2.1, fun k hk => h.2.2.1 k (by omega) (by omega) (by omega)⟩
theorem kc.kS {μ μ' : xm_M} {c0 k0 : Nat} (h : kc c0 k0 μ μ') (hc : c0 = 94 ∨ c0 = 95) : kS μ μ' := ⟨fun c a b => h.1 c a (by omega), h.2.1, fun k hk => h.2.2.1 k (by omega) (by omega) (by omega)⟩
def mS0 (m : xm_M) (pk : List Int32) : Prop := m.1 75 31 = nI (sC pk) ∧ m.1 75 18 = nI (sBn pk) ∧ ∀ j, j < sBn pk → mB m j pk (bp pk j)
def mS1 (m : xm_M) (pk : List Int32) : Prop := mS0 m pk ∧ m.1 75 32 = nI (sMu pk) ∧ m.1 75 33 = nI (sPn pk) ∧ m.1 75 34 = nI (sPb pk)
def mS2 (m : xm_M) (pk : List Int32) : Prop := m.1 75 35 = nI (sSz pk) ∧ m.1 75 36 = nI (sCn pk) ∧ m.1 75 37 = nI (sCb pk)
theorem mS0.fr {m m' : xm_M} {pk : List Int32} (h : mS0 m pk) (h1 : m'.1 75 31 = m.1 75 31) (h2 : m'.1 75 18 = m.1 75 18) (hc : ∀ c, 83 ≤ c → c ≤ 93 → m'.1 c = m.1 c) : mS0 m' pk := ⟨h1.trans h.1, h2.trans h.2.1, fun j hj => (h.2.2 j hj).cg hc⟩
theorem mS1.fr {m m' : xm_M} {pk : List Int32} (h : mS1 m pk) (h1 : ∀ k, k = 31 ∨ k = 18 ∨ k = 32 ∨ k = 33 ∨ k = 34 → m'.1 75 k = m.1 75 k) (hc : ∀ c, 83 ≤ c → c ≤ 93 → m'.1 c = m.1 c) : mS1 m' pk := ⟨h.1.fr (h1 31 (by decide)) (h1 18 (by decide)) hc, (h1 32 (by decide)).trans h.2.1, (h1 33 (by decide)).trans h.2.2.1, (h1 34 (by decide)).trans h.2.2.2⟩
theorem mS2.fr {m m' : xm_M} {pk : List Int32} (h : mS2 m pk) (h1 : ∀ k, k = 35 ∨ k = 36 ∨ k = 37 → m'.1 75 k = m.1 75 k) : mS2 m' pk := ⟨(h1 35 (by decide)).trans h.1, (h1 36 (by decide)).trans h.2.1, (h1 37 (by decide)).trans h.2.2⟩
theorem c_msetup {b : Bool} {μ : xm_M} {pk : List Int32} (h19 : μ.1 75 19 = nI 0) (hl : pk.length ≤ 2000) (h80 : μ.1 80 0 = nI pk.length) (h79 : ∀ j v, pk[j]? = some v → μ.1 79 j = v) : xCv b b k_X9_setup μ [.ref 75] (fun m => kS μ m ∧ m.1 75 19 = nI (sF pk) ∧ (sF pk = 0 → mS m pk)) := by
  generalize hQ : (fun (m : xm_M) => kS μ m ∧ m.1 75 19 = nI (sF pk) ∧ (sF pk = 0 → mS m pk)) = Q
  have hBn := sBn_b pk
  have hC := sC_b pk
  have hPn := sPn_b pk
  have hCn := sCn_b pk
  have hsF8 := sF_8 pk
  have bad : ∀ (f : Nat) (m : xm_M), kS μ m → m.1 75 19 = nI f → sF pk = f → f ≠ 0 → Q m := by
    intro f m h1 h2 h3 h4
    rw [← hQ]
    exact ⟨h1, by rw [h3]; exact h2, fun h => absurd (h3.symm.trans h) h4⟩
  have nle : ∀ {f : Nat}, f < 8 → f ≠ 0 → ¬ nI f ≤ 0 := fun h1 h2 => nI_nle (by omega) (by omega)
  have n34 : ∀ (f : Nat) (m : xm_M), kS μ m → m.1 75 19 = nI f → sF pk = f → f ≠ 0 → hd_X9_setup_34 b Q m := by
    intro f m h1 h2 h3 h4
    apply l_X9_setup_34
    rw [h2]
    exact ⟨fun c => absurd c (nle (by omega) h4), fun _ => bad f m h1 h2 h3 h4⟩
  have n95 : ∀ (f : Nat) (m : xm_M), kS μ m → m.1 75 19 = nI f → sF pk = f → f ≠ 0 → hd_X9_setup_95 b Q m := by
    intro f m h1 h2 h3 h4
    apply l_X9_setup_95
    rw [h2]
    exact ⟨fun c => absurd c (nle (by omega) h4), fun _ => bad f m h1 h2 h3 h4⟩
  have n204 : ∀ (f : Nat) (m : xm_M), kS μ m → m.1 75 19 = nI f → sF pk = f → f ≠ 0 → hd_X9_setup_204 b Q m := by
    intro f m h1 h2 h3 h4
    apply l_X9_setup_204
    rw [h2]
    exact ⟨fun c => absurd c (nle (by omega) h4), fun _ => bad f m h1 h2 h3 h4⟩
  have ne0 : ∀ {f : Nat}, f < 8 → f ≠ 0 → ¬ nI f = 0 := fun h1 h2 => nI_ne0 (by omega) (by omega)
  have n298 : ∀ (f : Nat) (m : xm_M), kS μ m → m.1 75 19 = nI f → sF pk = f → f ≠ 0 → hd_X9_setup_298 b Q m := by
    intro f m h1 h2 h3 h4
    apply l_X9_setup_298
    rw [h2]
    refine ⟨fun _ m2 e2 => ?_, fun c => absurd c (ne0 (by omega) h4)⟩
    have g2 : m2.1 75 19 = nI f := by rw [e2, ri_e, upd_n (by decide)]; exact h2
    refine ⟨_, c_mended1 g2 (by omega) (by omega), ?_⟩
    rintro m4 rfl
    exact bad f m4 (h1.tr ((fk.rf.s e2 (List.mem_singleton_self 38)).kS (by decide))) g2 h3 h4
  have n272 : ∀ (f : Nat) (m : xm_M) (i : Nat), i < 2 ^ 31 → kS μ m → m.1 75 19 = nI f → sF pk = f → f ≠ 0 → hd_X9_setup_272 b Q (nI i) m := by
    intro f m i hi h1 h2 h3 h4
    apply l_X9_setup_272
    refine ⟨fun _ => n298 f m h1 h2 h3 h4, fun _ => ⟨fun _ => n298 f m h1 h2 h3 h4, fun c => absurd (h2.symm.trans c) (ne0 (by omega) h4)⟩⟩
  have n176 : ∀ (f : Nat) (m : xm_M) (v : Int32), kS μ m → m.1 75 19 = nI f → sF pk = f → f ≠ 0 → hd_X9_setup_176 b Q v m := by
    intro f m v h1 h2 h3 h4
    apply l_X9_setup_176
    refine ⟨fun _ => n204 f m h1 h2 h3 h4, fun _ => ⟨fun _ => n204 f m h1 h2 h3 h4, fun c => absurd (h2.symm.trans c) (ne0 (by omega) h4)⟩⟩
  have n159 : ∀ (f : Nat) (m : xm_M), kS μ m → m.1 75 19 = nI f → sF pk = f → f ≠ 0 → hd_X9_setup_159 b Q m := by
    intro f m h1 h2 h3 h4
    apply l_X9_setup_159
    refine ⟨vin (by decide) (by decide), fun m2 e2 => ⟨vin (by decide) (by decide), fun m4 e4 => ?_⟩⟩
    refine n176 f m4 _ (h1.tr ⟨fun c a b => by rw [e4, ri_n (by omega), e2, ri_n (by omega)], by rw [e4, e2]; rfl, fun k hk => by rw [e4, ri_n (by decide), e2, ri_n (by decide)]⟩) ?_ h3 h4
    rw [e4, ri_n (by decide), e2, ri_n (by decide)]
    exact h2
  have s298 : ∀ m : xm_M, kS μ m → m.1 75 19 = nI 0 → mS1 m pk → (∀ k, k < sPn pk + 2 → m.1 94 k = nI (sX pk k)) → mS2 m pk → (∀ k, k < sCn pk → m.1 95 k = if sCl pk k < 8 then nI (sCl pk k) else -1) → mP m pk (s4 pk) → s4 pk ≤ 8 * pk.length → sF pk = lF pk → hd_X9_setup_298 b Q m := by
    intro m hk hf h1 h94 h2 h95 hp hle hs
    have fin : ∀ (a : Nat) (m8 : xm_M), fk [15, 17, 38] m m8 → m8.1 75 19 = nI 0 → m8.1 75 38 = nI (sLe pk) → mP m8 pk a → (lF pk = if 8 * pk.length < a then 2 else 0) → ∃ Q9 : xm_M → Prop, xCv b b k_X9_ended m8 [.ref 75] Q9 ∧ ∀ m10 : xm_M, Q9 m10 → Q m10 := by
      intro a m8 g1 g2 g3 g4 g5
      have gk : kS μ m8 := hk.tr (g1.kS (by decide))
      refine ⟨_, c_mended g4 g2, ?_⟩
      rintro m10 (⟨w1, rfl⟩ | ⟨w1, w2⟩)
      · rw [if_neg (by omega)] at g5
        have i1 := h1.fr (m' := m10) (fun k hk => g1.2.2 k (by rcases hk with rfl | rfl | rfl | rfl | rfl <;> decide)) (fun c _ _ => g1.1 c (by omega))
        have i2 := h2.fr (m' := m10) (fun k hk => g1.2.2 k (by rcases hk with rfl | rfl | rfl <;> decide))
        rw [← hQ]
        exact ⟨gk, by rw [hs, g5]; exact g2, fun _ => ⟨i1.1.1, i1.2.1, g3, i1.2.2.1, fun k hk => by rw [g1.1 94 (by decide)]; exact h94 k hk, i1.2.2.2, i2.1, i2.2.1, i2.2.2, fun k hk => by rw [g1.1 95 (by decide)]; exact h95 k hk, i1.1.2.2⟩⟩
      · rw [if_pos w1] at g5
        exact bad 2 m10 (gk.tr ((fk.rf.s w2 (List.mem_singleton_self 19)).kS (by decide))) (by rw [w2, ri_e, upd_e]) (by rw [hs, g5]) (by decide)
    apply l_X9_setup_298
    rw [hf, h1.1.1]
    refine ⟨fun c => absurd nI_0 c, fun _ => ⟨fun c m8 e8 => ?_, fun c => ?_⟩⟩
    · have hne : ¬ sC pk = 2 := fun h => c (by rw [h])
      refine fin (s4 pk) m8 (fk.rf.s e8 (by decide)) (by rw [e8, ri_e, upd_n (by decide)]; exact hf) ?_ (by rw [e8]; exact hp.v (by decide)) (by unfold lF; rw [if_neg hne, if_neg (by omega)])
      unfold sLe
      rw [if_neg hne, e8, ri_e, upd_e]
    · have he : sC pk = 2 := nI_inj (by omega) (by decide) c
      have hb2 := bb_lt pk (s4 pk)
      refine ⟨_, v_mbit hp, ?_⟩
      rintro r15 m14 ⟨f14, e14, p14⟩
      have fn : ∀ (x : Nat) (m18 : xm_M), m18 = xu_I m14 75 (upd (m14.1 75) 38 (nI x)) → x = bb pk (s4 pk) → ∃ Q9 : xm_M → Prop, xCv b b k_X9_ended m18 [.ref 75] Q9 ∧ ∀ m10 : xm_M, Q9 m10 → Q m10 := by
        intro x m18 e18 hx
        refine fin (s4 pk + 1) m18 ((fk.rf.b f14 (by decide)).s e18 (by decide)) ?_ ?_ (by rw [e18]; exact p14.v (by decide)) (by unfold lF; rw [if_pos he])
        · rw [e18, ri_e, upd_n (by decide), f14.2.2 19 (by decide) (by decide)]; exact hf
        · rw [e18, ri_e, upd_e, hx]
          unfold sLe
          rw [if_pos he]
      rw [e14]
      refine ⟨fun c2 m18 e18 => fn 0 m18 e18 ?_, fun c2 m18 e18 => fn 1 m18 e18 ?_⟩
      · have : ¬ bb pk (s4 pk) = 1 := fun h => c2 (by rw [h])
        omega
      · exact (nI_inj (by omega) (by decide) c2).symm
  have s272 : ∀ (d i : Nat) (m : xm_M), i + d = sCn pk → kS μ m → m.1 75 19 = nI (cfl pk i) → mS1 m pk → (∀ k, k < sPn pk + 2 → m.1 94 k = nI (sX pk k)) → mS2 m pk → (cfl pk i = 0 → mP m pk (s3 pk + 7 + 4 * i) ∧ s3 pk + 7 + 4 * i ≤ 8 * pk.length ∧ ∀ k, k < i → m.1 95 k = if sCl pk k < 8 then nI (sCl pk k) else -1) → (sF pk = if cfl pk (sCn pk) = 0 then lF pk else cfl pk (sCn pk)) → hd_X9_setup_272 b Q (nI i) m := by
    intro d
    induction d with
    | zero =>
      intro i m hi hk hf h1 h94 h2 h0 hs
      have hin : i = sCn pk := by omega
      by_cases hz : cfl pk i = 0
      · obtain ⟨z1, z2, z3⟩ := h0 hz
        apply l_X9_setup_272
        refine pk_le (sCn pk) i (fun _ => ?_) (fun c => by omega) h2.2.1
        rw [hin] at z1 z2 z3 hz
        rw [if_pos hz] at hs
        exact s298 m hk (by rw [hf, hin, hz]) h1 h94 h2 z3 z1 z2 hs
      · exact n272 (cfl pk i) m i (by omega) hk hf (by rw [hs, ← hin, if_neg hz]) hz
    | succ d ih =>
      intro i m hi hk hf h1 h94 h2 h0 hs
      by_cases hz : cfl pk i = 0
      · obtain ⟨z1, z2, z3⟩ := h0 hz
        have hf0 : m.1 75 19 = nI 0 := by rw [hf, hz]
        apply l_X9_setup_272
        rw [hf0]
        refine pk_le (sCn pk) i (fun c => by omega) (fun _ => ⟨fun c => absurd nI_0 c, fun _ => ⟨_, c_mofClass (by omega) z1 hf0 h1.1.2.1 h2.1 h1.1.2.2, ?_⟩⟩) h2.2.1
        rintro m4 ⟨g1, g2, g3, g4⟩ x7 e7
        rw [e7, nI_add]
        have hcs : cfl pk (i + 1) = if 8 * pk.length < s3 pk + 7 + 4 * (i + 1) then 2 else clF pk (sCl pk i) := by rw [cfl_s, if_pos hz]
        have hfi : ∀ k, k ≠ 15 → k ≠ 17 → k ≠ 19 → m4.1 75 k = m.1 75 k := g1.2.2.1
        refine ih (i + 1) m4 (by omega) (hk.tr (g1.kS (Or.inr rfl))) (by rw [hcs]; exact g4) (h1.fr (fun k hk => hfi k (by omega) (by omega) (by omega)) (fun c _ _ => g1.1 c (by omega) (by omega))) (fun k hk => by rw [g1.1 94 (by decide) (by decide)]; exact h94 k hk) (h2.fr (fun k hk => hfi k (by omega) (by omega) (by omega))) (fun hz2 => ⟨g3, ?_, lt_s (fun k hk2 => by rw [g1.2.2.2 k (by omega)]; exact z3 k hk2) g2⟩) hs
        rw [hcs] at hz2
        split at hz2
        · omega
        · omega
      · have hup := cfl_up hz (sCn pk) (by omega)
        exact n272 (cfl pk i) m i (by omega) hk hf (by rw [hs, hup, if_neg hz]) hz
  have s204 : ∀ m : xm_M, kS μ m → m.1 75 19 = nI 0 → mS1 m pk → (∀ k, k < sPn pk + 2 → m.1 94 k = nI (sX pk k)) → mP m pk (s3 pk) → (sF pk = if cF pk = 0 then lF pk else cF pk) → hd_X9_setup_204 b Q m := by
    intro m hk hf h1 h94 hp hs
    apply l_X9_setup_204
    rw [hf]
    refine ⟨fun _ => ⟨_, v_mbits 2 (by decide) hp, ?_⟩, fun c => absurd (by decide) c⟩
    rintro r4 m3 ⟨f3, e3, p3⟩ m6 e6
    refine ⟨_, v_mbits 2 (by decide) (show mP m6 pk (s3 pk + 2) by rw [e6]; exact p3.v (by decide)), ?_⟩
    rintro r9 m8 ⟨f8, e8, p8⟩ m11 e11
    refine ⟨_, v_mbits 3 (by decide) (show mP m11 pk (s3 pk + 4) by rw [e11]; exact p8.v (by decide)), ?_⟩
    rintro r14 m13 ⟨f13, e13, p13⟩ m16 e16
    have k16 : fk [15, 17, 35, 36, 37] m m16 := ((((((fk.rf.b f3 (by decide)).s e6 (by decide)).b f8 (by decide)).s e11 (by decide)).b f13 (by decide)).s e16 (by decide))
    have p16 : mP m16 pk (s3 pk + 7) := by
      rw [e16, show s3 pk + 7 = s3 pk + 4 + 3 by omega]
      exact p13.v (by decide)
    have h16 : m16.1 75 19 = nI 0 := by rw [k16.2.2 19 (by decide)]; exact hf
    have h16s : mS2 m16 pk := by
      refine ⟨?_, ?_, ?_⟩
      · rw [e16, ri_e, upd_n (by decide), f13.2.2 35 (by decide) (by decide), e11, ri_e, upd_n (by decide), f8.2.2 35 (by decide) (by decide), e6, ri_e, upd_e, e3, sh_1 (nv_lt pk _ 2)]
        rfl
      · rw [e16, ri_e, upd_n (by decide), f13.2.2 36 (by decide) (by decide), e11, ri_e, upd_e, e8, nI_add, Nat.add_comm]
        rfl
      · rw [e16, ri_e, upd_e, e13]
        rfl
    have hS16 : kS μ m16 := hk.tr (k16.kS (by decide))
    have i1 : mS1 m16 pk := h1.fr (fun k hk => k16.2.2 k (by rcases hk with rfl | rfl | rfl | rfl | rfl <;> decide)) (fun c _ _ => k16.1 c (by omega))
    have i94 : ∀ k, k < sPn pk + 2 → m16.1 94 k = nI (sX pk k) := fun k hk => by rw [k16.1 94 (by decide)]; exact h94 k hk
    have hcb : sCb pk < 8 := nv_lt pk _ 3
    refine ⟨_, c_mended p16 h16, ?_⟩
    rintro m18 (⟨w1, rfl⟩ | ⟨w1, w2⟩)
    · rw [h16, h16s.2.2, i1.1.2.1]
      refine ⟨fun c => absurd nI_0 c, fun _ => pk_lt (sCb pk) (sBn pk) (fun c => ?_) (fun c => ⟨_, c_mwrong 5 h16, fun m24 e24 => ?_⟩)⟩
      · apply l_X9_setup_270
        have hcF : cF pk = cfl pk (sCn pk) := by unfold cF; rw [if_neg (by omega), if_neg (by omega)]
        exact s272 (sCn pk) 0 m18 (by omega) hS16 h16 i1 i94 h16s (fun _ => ⟨by rw [Nat.mul_zero, Nat.add_zero]; exact p16, by omega, fun k hk => by omega⟩) (by rw [hs, hcF])
      · apply l_X9_setup_270
        have hcF : cF pk = 5 := by unfold cF; rw [if_neg (by omega), if_pos c]
        exact n272 5 m24 0 (by decide) (hS16.tr ((fk.rf.s e24 (List.mem_singleton_self 19)).kS (by decide))) (by rw [e24, ri_e, upd_e]) (by rw [hs, hcF]; rfl) (by decide)
    · have h18 : m18.1 75 19 = nI 2 := by rw [w2, ri_e, upd_e]
      rw [h18]
      refine ⟨fun _ => ?_, fun c => absurd c (by decide)⟩
      apply l_X9_setup_270
      have hcF : cF pk = 2 := by unfold cF; rw [if_pos w1]
      exact n272 2 m18 0 (by decide) (hS16.tr ((fk.rf.s w2 (List.mem_singleton_self 19)).kS (by decide))) h18 (by rw [hs, hcF]; rfl) (by decide)
  have s176 : ∀ (d i : Nat) (m : xm_M), i + d = sPn pk → kS μ m → m.1 75 19 = nI (pfl pk i) → mS1 m pk → (∀ k, k < i + 2 → m.1 94 k = nI (sX pk k)) → mP m pk (s2 pk + 9 + 5 * i) → (sF pk = if pfl pk (sPn pk) = 0 then (if cF pk = 0 then lF pk else cF pk) else pfl pk (sPn pk)) → hd_X9_setup_176 b Q (nI i) m := by
    intro d
    induction d with
    | zero =>
      intro i m hi hk hf h1 h94 hp hs
      have hin : i = sPn pk := by omega
      by_cases hz : pfl pk i = 0
      · apply l_X9_setup_176
        refine pk_le (sPn pk) i (fun _ => ?_) (fun c => by omega) h1.2.2.1
        rw [hin] at h94 hp hz
        rw [if_pos hz] at hs
        exact s204 m hk (by rw [hf, hin, hz]) h1 h94 hp hs
      · exact n176 (pfl pk i) m _ hk hf (by rw [hs, ← hin, if_neg hz]) hz
    | succ d ih =>
      intro i m hi hk hf h1 h94 hp hs
      by_cases hz : pfl pk i = 0
      · have hf0 : m.1 75 19 = nI 0 := by rw [hf, hz]
        apply l_X9_setup_176
        rw [hf0]
        refine pk_le (sPn pk) i (fun c => by omega) (fun _ => ⟨fun c => absurd nI_0 c, fun _ => ⟨_, by rw [nI_add]; exact c_mpost (by omega) hp hf0 h94, ?_⟩⟩) h1.2.2.1
        rintro m4 ⟨g1, g2, g3, g4⟩ x7 e7
        rw [e7, nI_add]
        have hfi : ∀ k, k ≠ 15 → k ≠ 17 → k ≠ 19 → m4.1 75 k = m.1 75 k := g1.2.2.1
        exact ih (i + 1) m4 (by omega) (hk.tr (g1.kS (Or.inl rfl))) (by rw [pfl_sp hz]; exact g4) (h1.fr (fun k hk => hfi k (by omega) (by omega) (by omega)) (fun c _ _ => g1.1 c (by omega) (by omega))) (lt_s (fun k hk2 => by rw [g1.2.2.2 k (by omega)]; exact h94 k hk2) g2) g3 hs
      · have hup := pfl_up hz (sPn pk) (by omega)
        exact n176 (pfl pk i) m _ hk hf (by rw [hs, hup, if_neg hz]) hz
  have s95 : ∀ m : xm_M, kS μ m → m.1 75 19 = nI 0 → mS0 m pk → mP m pk (s2 pk) → (sF pk = if pF pk = 0 then (if cF pk = 0 then lF pk else cF pk) else pF pk) → hd_X9_setup_95 b Q m := by
    intro m hk hf h1 hp hs
    apply l_X9_setup_95
    rw [hf]
    refine ⟨fun _ => ⟨_, v_mbits 2 (by decide) hp, ?_⟩, fun c => absurd (by decide) c⟩
    rintro r4 m3 ⟨f3, e3, p3⟩ m6 e6
    refine ⟨_, v_mbits 4 (by decide) (show mP m6 pk (s2 pk + 2) by rw [e6]; exact p3.v (by decide)), ?_⟩
    rintro r9 m8 ⟨f8, e8, p8⟩ m11 e11
    refine ⟨_, v_mbits 3 (by decide) (show mP m11 pk (s2 pk + 6) by rw [e11]; exact p8.v (by decide)), ?_⟩
    rintro r14 m13 ⟨f13, e13, p13⟩ m16 e16
    have k16 : fk [15, 17, 32, 33, 34] m m16 := ((((((fk.rf.b f3 (by decide)).s e6 (by decide)).b f8 (by decide)).s e11 (by decide)).b f13 (by decide)).s e16 (by decide))
    have p16 : mP m16 pk (s2 pk + 9) := by
      rw [e16, show s2 pk + 9 = s2 pk + 6 + 3 by omega]
      exact p13.v (by decide)
    have h16 : m16.1 75 19 = nI 0 := by rw [k16.2.2 19 (by decide)]; exact hf
    have h16s : mS1 m16 pk := by
      refine ⟨h1.fr (k16.2.2 31 (by decide)) (k16.2.2 18 (by decide)) (fun c _ _ => k16.1 c (by omega)), ?_, ?_, ?_⟩
      · rw [e16, ri_e, upd_n (by decide), f13.2.2 32 (by decide) (by decide), e11, ri_e, upd_n (by decide), f8.2.2 32 (by decide) (by decide), e6, ri_e, upd_e, e3, nI_add, Nat.add_comm]
        rfl
      · rw [e16, ri_e, upd_n (by decide), f13.2.2 33 (by decide) (by decide), e11, ri_e, upd_e, e8]
        rfl
      · rw [e16, ri_e, upd_e, e13]
        rfl
    have hS16 : kS μ m16 := hk.tr (k16.kS (by decide))
    have hpb : sPb pk < 8 := nv_lt pk _ 3
    refine ⟨_, c_mended p16 h16, ?_⟩
    rintro m18 (⟨w1, rfl⟩ | ⟨w1, w2⟩)
    · rw [h16, h16s.2.2.2, h16s.1.2.1]
      refine ⟨fun c => absurd nI_0 c, fun _ => pk_lt (sPb pk) (sBn pk) (fun c => ?_) (fun c => ⟨_, c_mwrong 5 h16, fun m24 e24 => ?_⟩)⟩
      · apply l_X9_setup_159
        refine ⟨vin (by decide) (by decide), fun m2 e2 => ⟨vin (by decide) (by decide), fun m4 e4 => ?_⟩⟩
        rw [cl (show 0 < 2 ^ 31 by decide)] at e2
        rw [cl (show 1 < 2 ^ 31 by decide)] at e4
        have c4 : ∀ c, c ≠ 94 → m4.1 c = m18.1 c := fun c hc => by rw [e4, ri_n hc, e2, ri_n hc]
        have hpF : pF pk = pfl pk (sPn pk) := by unfold pF; rw [if_neg (by omega), if_neg (by omega)]
        refine s176 (sPn pk) 0 m4 (by omega) (hS16.tr ⟨fun c a b => c4 c (by omega), by rw [e4, e2]; rfl, fun k hk => by rw [c4 75 (by decide)]⟩) (by rw [c4 75 (by decide)]; exact h16) (h16s.fr (fun k hk => by rw [c4 75 (by decide)]) (fun c _ _ => c4 c (by omega))) (fun k hk2 => ?_) ?_ (by rw [hs, hpF])
        · rcases (by omega : k = 0 ∨ k = 1) with rfl | rfl
          · rw [e4, ri_e, upd_n (by decide), e2, ri_e, upd_e]; rfl
          · rw [e4, ri_e, upd_e]; rfl
        · rw [Nat.mul_zero, Nat.add_zero, e4, e2]
          exact (p16.u (by decide) (by decide)).u (by decide) (by decide)
      · have hpF : pF pk = 5 := by unfold pF; rw [if_neg (by omega), if_pos c]
        exact n159 5 m24 (hS16.tr ((fk.rf.s e24 (List.mem_singleton_self 19)).kS (by decide))) (by rw [e24, ri_e, upd_e]) (by rw [hs, hpF]; rfl) (by decide)
    · have h18 : m18.1 75 19 = nI 2 := by rw [w2, ri_e, upd_e]
      rw [h18]
      refine ⟨fun _ => ?_, fun c => absurd c (by decide)⟩
      have hpF : pF pk = 2 := by unfold pF; rw [if_pos w1]
      exact n159 2 m18 (hS16.tr ((fk.rf.s w2 (List.mem_singleton_self 19)).kS (by decide))) h18 (by rw [hs, hpF]; rfl) (by decide)
  have s69 : ∀ (d i : Nat) (m : xm_M), i + d = sBn pk → kS μ m → m.1 75 19 = nI (bfl pk i) → m.1 75 31 = nI (sC pk) → m.1 75 18 = nI (sBn pk) → (bfl pk i = 0 → mP m pk (bp pk i) ∧ ∀ j, j < i → mB m j pk (bp pk j)) → (sF pk = if bfl pk (sBn pk) = 0 then (if pF pk = 0 then (if cF pk = 0 then lF pk else cF pk) else pF pk) else bfl pk (sBn pk)) → hd_X9_setup_69 b Q (nI i) m := by
    intro d
    induction d with
    | zero =>
      intro i m hi hk hf h31 h18 h0 hs
      have hin : i = sBn pk := by omega
      apply l_X9_setup_69
      refine pk_le (sBn pk) i (fun _ => ?_) (fun c => by omega) h18
      by_cases hz : bfl pk i = 0
      · obtain ⟨z1, z2⟩ := h0 hz
        rw [hin] at z1 z2 hz
        rw [if_pos hz] at hs
        exact s95 m hk (by rw [hf, hin, hz]) ⟨h31, h18, z2⟩ z1 hs
      · exact n95 (bfl pk i) m hk hf (by rw [hs, ← hin, if_neg hz]) hz
    | succ d ih =>
      intro i m hi hk hf h31 h18 h0 hs
      have h8 := bfl_8 pk i
      apply l_X9_setup_69
      refine pk_le (sBn pk) i (fun c => by omega) (fun _ => ?_) h18
      by_cases hz : bfl pk i = 0
      · obtain ⟨z1, z2⟩ := h0 hz
        have hf0 : m.1 75 19 = nI 0 := by rw [hf, hz]
        refine ⟨fun c => absurd (hf0.trans nI_0) c, fun _ => ⟨_, c_mbook (show i < 8 by omega) z1 hf0, ?_⟩⟩
        rintro m4 ⟨g1, g2, g3⟩ x7 e7
        rw [e7, nI_add]
        have h2 : bfl pk (i + 1) = bkF pk (bp pk i) := by rw [bfl_s, if_pos hz]
        refine ih (i + 1) m4 (by omega) (hk.tr g1.kS) (by rw [h2]; exact g2) (by rw [g1.2.2.1 31 (by decide) (by decide) (by decide)]; exact h31) (by rw [g1.2.2.1 18 (by decide) (by decide) (by decide)]; exact h18) (fun hz2 => ?_) hs
        obtain ⟨y1, y2⟩ := g3 (h2.symm.trans hz2)
        exact ⟨y1, lt_s (fun j hj => (z2 j hj).fr g1 (by omega)) y2⟩
      · have hup := bfl_up hz (sBn pk) (by omega)
        refine ⟨fun _ => n95 (bfl pk i) m hk hf (by rw [hs, hup, if_neg hz]) hz, fun c => absurd (hf.symm.trans c) (ne0 h8 hz)⟩
  have s34 : ∀ m : xm_M, kS μ m → m.1 75 19 = nI 0 → mP m pk 8 → 8 ≤ 8 * pk.length → nv pk 0 8 = 86 → hd_X9_setup_34 b Q m := by
    intro m hk hf hp hle h86
    apply l_X9_setup_34
    rw [hf]
    refine ⟨fun _ => ⟨_, v_mbit hp, ?_⟩, fun c => absurd (by decide) c⟩
    rintro r4 m3 ⟨f3, e3, p3⟩ m6 e6
    refine ⟨_, v_mbits 3 (by decide) (show mP m6 pk 9 by rw [e6]; exact p3.v (by decide)), ?_⟩
    rintro r9 m8 ⟨f8, e8, p8⟩ m11 e11
    have k11 : fk [15, 17, 31, 18] m m11 := (((fk.rf.b f3 (by decide)).s e6 (by decide)).b f8 (by decide)).s e11 (by decide)
    have h11 : m11.1 75 19 = nI 0 := by rw [k11.2.2 19 (by decide)]; exact hf
    have p11 : mP m11 pk 12 := by rw [e11]; exact p8.v (by decide)
    have h31 : m11.1 75 31 = nI (sC pk) := by
      rw [e11, ri_e, upd_n (by decide), f8.2.2 31 (by decide) (by decide), e6, ri_e, upd_e, e3, nI_add, Nat.add_comm]
      rfl
    have h18 : m11.1 75 18 = nI (sBn pk) := by
      rw [e11, ri_e, upd_e, e8, nI_add, Nat.add_comm]
      rfl
    have hS11 : kS μ m11 := hk.tr (k11.kS (by decide))
    refine ⟨_, c_mended p11 h11, ?_⟩
    rintro m13 (⟨w1, rfl⟩ | ⟨w1, w2⟩)
    · refine s69 (sBn pk) 0 m13 (by omega) hS11 h11 h31 h18 (fun _ => ⟨p11, fun j hj => by omega⟩) ?_
      unfold sF
      rw [if_neg (by omega), if_pos h86, if_neg (by omega)]
    · have hs : sF pk = 2 := by unfold sF; rw [if_neg (by omega), if_pos h86, if_pos w1]
      have h13 : m13.1 75 19 = nI 2 := by rw [w2, ri_e, upd_e]
      have k13 : kS μ m13 := hS11.tr ((fk.rf.s w2 (List.mem_singleton_self 19)).kS (by decide))
      apply l_X9_setup_69
      refine ⟨fun _ => n95 2 m13 k13 h13 hs (by decide), fun _ => ⟨fun _ => n95 2 m13 k13 h13 hs (by decide), fun c => absurd (h13.symm.trans c) (by decide)⟩⟩
  refine g_X9_setup ⟨_, c_mopens (by decide) hl h80 (fun j v hj => by rw [Nat.mul_zero, Nat.zero_add]; exact h79 j v hj), ?_⟩
  rintro m2 ⟨p2, g2, g2l, g2f⟩
  have k2 : kS μ m2 := ⟨fun c a _ => g2 c a, g2l, fun k hk => g2f k (by omega)⟩
  refine ⟨_, v_mbits 8 (by decide) p2, ?_⟩
  rintro r7 m6 ⟨f6, e6, p6⟩
  have k6 : kS μ m6 := k2.tr (((fk.rf (K := [15, 17])).b f6 (by decide)).kS (by decide))
  have h6 : m6.1 75 19 = nI 0 := by rw [f6.2.2 19 (by decide) (by decide), g2f 19 (by decide)]; exact h19
  have hv8 := nv_lt pk 0 8
  refine ⟨_, c_mended p6 h6, ?_⟩
  rintro m10 (⟨w1, rfl⟩ | ⟨w1, w2⟩)
  · rw [h6, e6]
    refine ⟨fun c => absurd nI_0 c, fun _ => pk_eq (nv pk 0 8) 86 (fun c => s34 m10 k6 h6 p6 (by omega) c) (fun c => ⟨_, c_mwrong 3 h6, fun m16 e16 => ?_⟩)⟩
    exact n34 3 m16 (k6.tr ((fk.rf.s e16 (List.mem_singleton_self 19)).kS (by decide))) (by rw [e16, ri_e, upd_e]) (by unfold sF; rw [if_neg (by omega), if_neg c]) (by decide)
  · have h10 : m10.1 75 19 = nI 2 := by rw [w2, ri_e, upd_e]
    rw [h10]
    exact ⟨fun _ => n34 2 m10 (k6.tr ((fk.rf.s w2 (List.mem_singleton_self 19)).kS (by decide))) h10 (by unfold sF; rw [if_pos (by omega)]) (by decide), fun c => absurd c (by decide)⟩
