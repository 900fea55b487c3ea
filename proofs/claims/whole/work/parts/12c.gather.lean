theorem nI_and {x y : Nat} (hx : x < 2 ^ 32) (hy : y < 2 ^ 32) : nI x &&& nI y = nI (x &&& y) := by
  apply Int32.toBitVec_inj.mp
  apply BitVec.eq_of_toNat_eq
  rw [Int32.toBitVec_and, BitVec.toNat_and, nI_toNat hx, nI_toNat hy, nI_toNat (Nat.lt_of_le_of_lt Nat.and_le_left hx)]
theorem nI_mod (n : Nat) : nI (n % 2 ^ 32) = nI n := by
  apply Int32.toBitVec_inj.mp
  apply BitVec.eq_of_toNat_eq
  show (BitVec.ofNat 32 (n % 2 ^ 32)).toNat = (BitVec.ofNat 32 n).toNat
  rw [BitVec.toNat_ofNat, BitVec.toNat_ofNat, Nat.mod_mod]
/-- the packets, pages that count, others, LAST, GRANULE, SERIAL, NUMBER -/
abbrev GSt : Type := PSt × Nat × Nat × Bool × Nat × Nat × Nat
def tkS (t : Nat → Int32) (n a : Nat) (g : GSt) : GSt :=
  if g.2.1 ≠ 0 ∧ f4 t n (a + 14) ≠ g.2.2.2.2.2.1 then (g.1, g.2.1, g.2.2.1 + 1, g.2.2.2.1, g.2.2.2.2.1, g.2.2.2.2.2.1, g.2.2.2.2.2.2)
  else
    let ps : PSt := if bn (t (a + 5)) &&& 1 ≠ 0 ∧ f4 t n (a + 18) = (g.2.2.2.2.2.2 + 1) % 2 ^ 32 then g.1 else (g.1.1, [], g.1.2.2)
    ((lcL t a (decide (bn (t (a + 5)) &&& 1 ≠ 0 ∧ ps.2.1.length = 0)) ps (pgL t a)).2, g.2.1 + 1, g.2.2.1, decide (bn (t (a + 5)) &&& 4 ≠ 0), e8 t n (a + 6), f4 t n (a + 14), f4 t n (a + 18))
def gR (μ : xm_M) (n : Nat) (t : Nat → Int32) (a : Nat) (g : GSt) : Prop :=
  kpR μ n t a g.1 ∧ μ.1 3 1 = nI g.2.1 ∧ μ.1 3 2 = nI g.2.2.1 ∧ μ.1 3 5 = nI (if g.2.2.2.1 = true then 1 else 0) ∧ μ.2.1 3 6 = lN g.2.2.2.2.1 ∧ (g.2.1 ≠ 0 → μ.1 3 10 = nI g.2.2.2.2.2.1) ∧ μ.1 3 11 = nI g.2.2.2.2.2.2 ∧ g.2.2.2.2.2.1 < 2 ^ 32 ∧ g.2.2.2.2.2.2 < 2 ^ 32 ∧ g.2.1 ≤ a
theorem kpR.cut {μ μ' : xm_M} {n p : Nat} {t : Nat → Int32} {s : PSt} (h : kpR μ n t p s) (e : μ' = xu_I μ 3 (upd (μ.1 3) 13 (nI 0))) : kpR μ' n t p (s.1, [], s.2.2) := by
  obtain ⟨a1, a2, a3, a4, a5, a6, a7, a8, a9, a10, a11, a12, a13, a14, a15⟩ := h
  have h2 : μ'.1 2 = μ.1 2 := by rw [e, ri_n (by decide)]
  refine ⟨?_, a2, ?_, ?_, a5, ?_, ?_, by simp only [List.length_nil]; omega, a9, ?_, ?_, ?_, ?_, ?_, a15⟩
  · rw [e, ri_e, upd_n (by decide), a1]
  · rw [e, ri_e, upd_n (by decide), a3]
  · rw [e, ri_e, upd_n (by decide), a4]
  · rw [e, ri_e, upd_n (by decide), a6]
  · rw [e, ri_e, upd_e]; rfl
  · intro k hk; rw [e, ri_n (by decide), ri_n (by decide)]; exact a10 k hk
  · intro i v h; rw [h2]; exact a11 i v h
  · intro _ j v h; simp at h
  · intro j h1 h3; rw [h2]; exact a13 j h1 h3
  · intro j; rw [h2]; exact a14 j
theorem c_takePage {b : Bool} {μ : xm_M} {n a : Nat} {t : Nat → Int32} {g : GSt} (hn : μ.1 1 1 = nI n) (h6 : n ≤ 6000) (hW : a + pgW0 t a ≤ n) (hI : gR μ n t a g) : xCv b b k_X3_takePage μ [.ref 3, .ref 1, .int (nI a)] (fun μ' => gR μ' n t (a + pgW0 t a) (tkS t n a g) ∧ fm [2, 3, 4, 5, 6] μ μ') := by
  have hW1 : 27 + pgL t a + lsum t a (pgL t a) = pgW0 t a := rfl
  obtain ⟨b1, b2, b3, b4, b5, b6, b7, b8, b9, b10⟩ := hI
  have hT := b1.2.2.2.2.2.2.2.2.2.2.2.2.1
  have hb4 : ∀ (m : xm_M), m.1 2 = μ.1 2 → ∀ j, a ≤ j → f4 (m.1 2) n j = f4 t n j := by
    intro m hm j hj
    unfold f4
    rw [hm, tb_congr (fun h => hT _ (by omega) h), tb_congr (fun h => hT _ (by omega) h), tb_congr (fun h => hT _ (by omega) h), tb_congr (fun h => hT _ (by omega) h)]
  have hb1 : ∀ (m : xm_M), m.1 2 = μ.1 2 → ∀ j, a ≤ j → j < n → tb (m.1 2) n j = bn (t j) := by
    intro m hm j h1 h2
    rw [hm, tb, if_pos h2, hT j h1 h2]
  have hf5 : bn (t (a + 5)) < 256 := bn_lt _
  -- the page's own serial is the serial
  have part2 : ∀ (m : xm_M), m.1 1 1 = nI n → kpR m n t a g.1 → m.1 3 1 = nI g.2.1 → m.1 3 2 = nI g.2.2.1 → m.1 3 11 = nI g.2.2.2.2.2.2 → m.1 2 = μ.1 2 → fm [3] μ m → m.1 3 10 = nI (f4 t n (a + 14)) → ¬ (g.2.1 ≠ 0 ∧ f4 t n (a + 14) ≠ g.2.2.2.2.2.1) → hd_X3_takePage_21 b (fun μ' => gR μ' n t (a + pgW0 t a) (tkS t n a g) ∧ fm [2, 3, 4, 5, 6] μ μ') (nI a) (nI (f4 t n (a + 14))) m := by
    intro m hmn hmk hm1 hm2 hm11 hm22 hmf hm10 hno
    apply l_X3_takePage_21
    refine ⟨fun _ => ?_, fun c => absurd hm10.symm c⟩
    refine ⟨_, by rw [nI_add]; exact c_fourAt (a + 18) hmn h6 (by omega), ?_⟩
    intro r4 m3 e3
    obtain ⟨q4, q2⟩ := e3
    subst q2
    rw [hb4 m3 hm22 _ (by omega)] at q4
    refine ⟨_, by rw [nI_add]; exact c_byteAt (a + 5) hmn h6 (by omega), ?_⟩
    intro r8 m7 e7
    obtain ⟨q8, q2⟩ := e7
    subst q2
    rw [hb1 m7 hm22 _ (by omega) (by omega)] at q8
    rw [q4, q8, nI_and (by omega) (by decide), hm11, nI_add]
    have hle := Nat.and_le_left (n := bn (t (a + 5))) (m := 1)
    have hle4 := Nat.and_le_left (n := bn (t (a + 5))) (m := 4)
    have h418 := f4_lt t n (a + 18)
    -- behind the throwing away
    have rest : ∀ (ps : PSt) (m : xm_M), m.1 1 1 = nI n → kpR m n t a ps → m.1 3 1 = nI g.2.1 → m.1 3 2 = nI g.2.2.1 → m.1 2 = μ.1 2 → fm [3] μ m → m.1 3 10 = nI (f4 t n (a + 14)) → tkS t n a g = ((lcL t a (decide (bn (t (a + 5)) &&& 1 ≠ 0 ∧ ps.2.1.length = 0)) ps (pgL t a)).2, g.2.1 + 1, g.2.2.1, decide (bn (t (a + 5)) &&& 4 ≠ 0), e8 t n (a + 6), f4 t n (a + 14), f4 t n (a + 18)) → ∀ v6 : Nat, (v6 = if bn (t (a + 5)) &&& 1 ≠ 0 then 1 else 0) → hd_X3_takePage_94 b (fun μ' => gR μ' n t (a + pgW0 t a) (tkS t n a g) ∧ fm [2, 3, 4, 5, 6] μ μ') (nI a) (nI (f4 t n (a + 18))) (nI (bn (t (a + 5)))) (nI v6) m := by
      intro ps m hmn hmk hm1 hm2 hm22 hmf hm10 htk v6 hv6
      -- the laces, with LAST told
      have laces : ∀ (la : Bool) (m9 : xm_M), m9.1 1 1 = nI n → kpR m9 n t a ps → m9.1 3 1 = nI (g.2.1 + 1) → m9.1 3 2 = nI g.2.2.1 → m9.1 3 5 = nI (if la = true then 1 else 0) → m9.2.1 3 6 = lN (e8 t n (a + 6)) → m9.1 3 10 = nI (f4 t n (a + 14)) → m9.1 3 11 = nI (f4 t n (a + 18)) → fm [3] μ m9 → la = decide (bn (t (a + 5)) &&& 4 ≠ 0) → ∀ k0 : Bool, k0 = decide (bn (t (a + 5)) &&& 1 ≠ 0 ∧ ps.2.1.length = 0) → ∃ Q11 : xm_M → Prop, xCv b b k_X3_takeLaces m9 [.ref 3, .ref 1, .int (nI a), .int (nI (if k0 = true then 1 else 0))] Q11 ∧ ∀ m12 : xm_M, Q11 m12 → (gR m12 n t (a + pgW0 t a) (tkS t n a g) ∧ fm [2, 3, 4, 5, 6] μ m12) := by
        intro la m9 c1 c2 c3 c4 c5 c6 c7 c8 c9 c10 k0 hk0
        refine ⟨_, c_takeLaces k0 c1 h6 hW c2, ?_⟩
        intro m12 e12
        obtain ⟨d1, d2, d3, d4⟩ := e12
        rw [htk, ← hk0, ← c10]
        refine ⟨⟨d1, ?_, ?_, ?_, ?_, ?_, ?_, f4_lt _ _ _, f4_lt _ _ _, ?_⟩, (c9.mono (by intro c hc; revert hc; simp; omega)).tr d2⟩
        · rw [d4 1 (by decide) (by decide) (by decide) (by decide) (by decide)]; exact c3
        · rw [d4 2 (by decide) (by decide) (by decide) (by decide) (by decide)]; exact c4
        · rw [d4 5 (by decide) (by decide) (by decide) (by decide) (by decide)]; exact c5
        · rw [d3]; exact c6
        · intro _; rw [d4 10 (by decide) (by decide) (by decide) (by decide) (by decide)]; exact c7
        · rw [d4 11 (by decide) (by decide) (by decide) (by decide) (by decide)]; exact c8
        · show g.2.1 + 1 ≤ _; omega
      have tail : ∀ (la : Bool) (m4 : xm_M), m4 = xu_I m 3 (upd (upd (upd (m.1 3) 1 (nI (g.2.1 + 1))) 11 (nI (f4 t n (a + 18)))) 5 (nI (if la = true then 1 else 0))) → la = decide (bn (t (a + 5)) &&& 4 ≠ 0) → ∃ Q5 : Int64 → xm_M → Prop, xCl b b k_X6_eightAt m4 [.ref 1, .int (nI a + nI 6)] Q5 ∧ ∀ (r7 : Int64) (m6 : xm_M), Q5 r7 m6 → ∀ m9 : xm_M, m9 = xu_L m6 3 (vp_updL (m6.2.1 3) 6 r7) → ((nI v6 = 0 → ∃ Q11 : xm_M → Prop, xCv b b k_X3_takeLaces m9 [.ref 3, .ref 1, .int (nI a), .int (nI 0)] Q11 ∧ ∀ m12 : xm_M, Q11 m12 → (gR m12 n t (a + pgW0 t a) (tkS t n a g) ∧ fm [2, 3, 4, 5, 6] μ m12)) ∧ (¬ nI v6 = 0 → ((¬ (m9.1 3 13) = 0 → ∃ Q16 : xm_M → Prop, xCv b b k_X3_takeLaces m9 [.ref 3, .ref 1, .int (nI a), .int (nI 0)] Q16 ∧ ∀ m17 : xm_M, Q16 m17 → (gR m17 n t (a + pgW0 t a) (tkS t n a g) ∧ fm [2, 3, 4, 5, 6] μ m17)) ∧ ((m9.1 3 13) = 0 → ∃ Q20 : xm_M → Prop, xCv b b k_X3_takeLaces m9 [.ref 3, .ref 1, .int (nI a), .int (nI 1)] Q20 ∧ ∀ m21 : xm_M, Q20 m21 → (gR m21 n t (a + pgW0 t a) (tkS t n a g) ∧ fm [2, 3, 4, 5, 6] μ m21))))) := by
        intro la m4 e4 hla
        have f1 : m4.1 1 1 = nI n := by rw [e4, ri_n (by decide)]; exact hmn
        have f2 : m4.1 2 = μ.1 2 := by rw [e4, ri_n (by decide)]; exact hm22
        refine ⟨_, by rw [nI_add]; exact c_eightAt (a + 6) f1 h6 (by omega), ?_⟩
        intro r7 m6 e6 m9 e9
        obtain ⟨q7, q2⟩ := e6
        subst q2
        have q7 : r7 = lN (e8 t n (a + 6)) := by
          rw [q7]
          unfold e8
          rw [hb4 m6 f2 _ (by omega), hb4 m6 f2 _ (by omega)]
        have g13 : m9.1 3 13 = nI ps.2.1.length := by rw [e9, rl_i, e4, ri_e, upd_n (by decide), upd_n (by decide), upd_n (by decide)]; exact hmk.2.2.2.2.2.2.1
        have hbl : ps.2.1.length ≤ 6000 := by have := hmk.2.2.2.2.2.2.2.1; have := hmk.2.2.2.2.2.2.2.2.1; omega
        have lc := laces la m9 (by rw [e9, rl_i]; exact f1) (hmk.cong (by rw [e9, rl_i, e4, ri_n (by decide)]) (by rw [e9, rl_i, e4, ri_n (by decide)]) (by rw [e9, rl_i, e4, ri_n (by decide)]) (by rw [e9, rl_i, e4, ri_e, upd_n (by decide), upd_n (by decide), upd_n (by decide)]) (by rw [e9, rl_i, e4, ri_e, upd_n (by decide), upd_n (by decide), upd_n (by decide)]) (by rw [e9, rl_i, e4, ri_e, upd_n (by decide), upd_n (by decide), upd_n (by decide)]) (by rw [e9, rl_i, e4, ri_e, upd_n (by decide), upd_n (by decide), upd_n (by decide)]) (by rw [e9, rl_i, e4, ri_e, upd_n (by decide), upd_n (by decide), upd_n (by decide)]))
          (by rw [e9, rl_i, e4, ri_e, upd_n (by decide), upd_n (by decide), upd_e]) (by rw [e9, rl_i, e4, ri_e, upd_n (by decide), upd_n (by decide), upd_n (by decide)]; exact hm2) (by rw [e9, rl_i, e4, ri_e, upd_e]) (by rw [e9, rl_e, updL_e, q7]) (by rw [e9, rl_i, e4, ri_e, upd_n (by decide), upd_n (by decide), upd_n (by decide)]; exact hm10) (by rw [e9, rl_i, e4, ri_e, upd_n (by decide), upd_e]) (by rw [e9, e4]; exact (hmf.I (by decide)).L (by decide)) hla
        refine ⟨fun c => lc false ?_, fun c => ⟨fun c2 => lc false ?_, fun c2 => lc true ?_⟩⟩
        · rw [neq0 (by rw [hv6]; split <;> decide)] at c
          symm
          apply decide_eq_false
          intro h
          rw [hv6, if_pos h.1] at c
          cases c
        · rw [g13, neq0 (by omega)] at c2
          symm
          exact decide_eq_false (fun h => c2 h.2)
        · rw [g13, neq0 (by omega)] at c2
          rw [neq0 (by rw [hv6]; split <;> decide)] at c
          symm
          apply decide_eq_true
          refine ⟨fun h => c (by rw [hv6, if_neg (by rw [h]; decide)]), c2⟩
      apply l_X3_takePage_94
      intro m1 e1 m2 e2
      rw [hm1, nI_add] at e1
      have e2 : m2 = xu_I m 3 (upd (upd (m.1 3) 1 (nI (g.2.1 + 1))) 11 (nI (f4 t n (a + 18)))) := by rw [e2, e1, xu_II, ri_e]
      rw [nI_and (by omega) (by decide)]
      refine ⟨fun c m4 e4 => ?_, fun c m24 e24 => ?_⟩
      · rw [neq0 (by omega)] at c
        exact tail false m4 (by rw [e4, e2, xu_II, ri_e]; rfl) (by symm; exact decide_eq_false (fun h => h c))
      · rw [neq0 (by omega)] at c
        exact tail true m24 (by rw [e24, e2, xu_II, ri_e]; rfl) (by symm; exact decide_eq_true c)
    refine ⟨fun c m12 e12 => ?_, fun c => ⟨fun c2 => ?_, fun c2 m15 e15 => ?_⟩⟩
    · rw [neq0 (by omega)] at c
      refine rest (g.1.1, [], g.1.2.2) m12 (by rw [e12, ri_n (by decide)]; exact hmn) (hmk.cut e12) (by rw [e12, ri_e, upd_n (by decide)]; exact hm1) (by rw [e12, ri_e, upd_n (by decide)]; exact hm2) (by rw [e12, ri_n (by decide)]; exact hm22) (by rw [e12]; exact hmf.I (by decide)) (by rw [e12, ri_e, upd_n (by decide)]; exact hm10) ?_ 0 (by rw [if_neg (by rw [c]; decide)])
      unfold tkS
      rw [if_neg hno, if_neg (fun h => h.1 c)]
    · rw [neq0 (by omega)] at c
      have c2 : f4 t n (a + 18) = (g.2.2.2.2.2.2 + 1) % 2 ^ 32 := nI_inj (by omega) (Nat.mod_lt _ (by decide)) (by rw [nI_mod]; exact c2)
      refine rest g.1 m7 hmn hmk hm1 hm2 hm22 hmf hm10 ?_ 1 (by rw [if_pos c])
      unfold tkS
      rw [if_neg hno, if_pos ⟨c, c2⟩]
    · rw [neq0 (by omega)] at c
      have c2 : ¬ f4 t n (a + 18) = (g.2.2.2.2.2.2 + 1) % 2 ^ 32 := fun h => c2 (by rw [h, nI_mod])
      refine rest (g.1.1, [], g.1.2.2) m15 (by rw [e15, ri_n (by decide)]; exact hmn) (hmk.cut e15) (by rw [e15, ri_e, upd_n (by decide)]; exact hm1) (by rw [e15, ri_e, upd_n (by decide)]; exact hm2) (by rw [e15, ri_n (by decide)]; exact hm22) (by rw [e15]; exact hmf.I (by decide)) (by rw [e15, ri_e, upd_n (by decide)]; exact hm10) ?_ 1 (by rw [if_pos c])
      unfold tkS
      rw [if_neg hno, if_neg (fun h => c2 h.2)]
  apply g_X3_takePage
  refine ⟨_, by rw [nI_add]; exact c_fourAt (a + 14) hn h6 (by omega), ?_⟩
  intro r m e
  obtain ⟨q1, q2⟩ := e
  subst q2
  rw [hb4 m rfl _ (by omega)] at q1
  rw [q1, b2]
  have h414 := f4_lt t n (a + 14)
  have hgn : g.2.1 ≤ 6000 := by omega
  refine ⟨fun c => ?_, fun c m6 e6 => ?_⟩
  · rw [neq0 (by omega)] at c
    by_cases hs : f4 t n (a + 14) = g.2.2.2.2.2.1
    · exact part2 m hn b1 b2 b3 b7 rfl fm.rf (by rw [b6 c, hs]) (fun h => h.2 hs)
    · apply l_X3_takePage_21
      rw [b6 c]
      refine ⟨fun c2 => absurd (nI_inj (by omega) b8 c2) hs, fun _ m16 e16 => ?_⟩
      rw [b3, nI_add] at e16
      have htk : tkS t n a g = (g.1, g.2.1, g.2.2.1 + 1, g.2.2.2.1, g.2.2.2.2.1, g.2.2.2.2.2.1, g.2.2.2.2.2.2) := by
        unfold tkS
        rw [if_pos ⟨c, hs⟩]
      rw [htk]
      refine ⟨⟨((b1.cong (by rw [e16, ri_n (by decide)]) (by rw [e16, ri_n (by decide)]) (by rw [e16, ri_n (by decide)]) (by rw [e16, ri_e, upd_n (by decide)]) (by rw [e16, ri_e, upd_n (by decide)]) (by rw [e16, ri_e, upd_n (by decide)]) (by rw [e16, ri_e, upd_n (by decide)]) (by rw [e16, ri_e, upd_n (by decide)])).mv (by omega) hW), ?_, ?_, ?_, ?_, ?_, ?_, b8, b9, ?_⟩, by rw [e16]; exact fm.rf.I (by decide)⟩
      · rw [e16, ri_e, upd_n (by decide)]; exact b2
      · rw [e16, ri_e, upd_e]
      · rw [e16, ri_e, upd_n (by decide)]; exact b4
      · rw [e16, ri_l]; exact b5
      · intro _; rw [e16, ri_e, upd_n (by decide)]; exact b6 c
      · rw [e16, ri_e, upd_n (by decide)]; exact b7
      · show g.2.1 ≤ _; omega
  · rw [neq0 (by omega)] at c
    exact part2 m6 (by rw [e6, ri_n (by decide)]; exact hn) (b1.cong (by rw [e6, ri_n (by decide)]) (by rw [e6, ri_n (by decide)]) (by rw [e6, ri_n (by decide)]) (by rw [e6, ri_e, upd_n (by decide)]) (by rw [e6, ri_e, upd_n (by decide)]) (by rw [e6, ri_e, upd_n (by decide)]) (by rw [e6, ri_e, upd_n (by decide)]) (by rw [e6, ri_e, upd_n (by decide)])) (by rw [e6, ri_e, upd_n (by decide)]; exact b2) (by rw [e6, ri_e, upd_n (by decide)]; exact b3) (by rw [e6, ri_e, upd_n (by decide)]; exact b7) (by rw [e6, ri_n (by decide)]) (by rw [e6]; exact fm.rf.I (by decide)) (by rw [e6, ri_e, upd_e]) (fun h => h.1 c)
def gaS (t : Nat → Int32) (n : Nat) : Nat → Nat → GSt → GSt
  | 0, _, g => g
  | f + 1, a, g => if a < n then (if pgW t n a = 0 then gaS t n f (a + 1) g else gaS t n f (a + pgW t n a) (tkS t n a g)) else g
def g00 : GSt := (([], [], 0, 0), 0, 0, false, 0, 0, 0)
theorem c_gather {b : Bool} {μ : xm_M} {n : Nat} {t : Nat → Int32} (hn : μ.1 1 1 = nI n) (h6 : n ≤ 6000) (hT : ∀ j, j < n → μ.1 2 j = t j) (hF : ∀ j, fits .byte (.int (μ.1 2 j)) = true) : xCv b b k_X3_gather μ [.ref 3, .ref 1] (fun μ' => gR μ' n t n (gaS t n (n + 1) 0 g00) ∧ fm [2, 3, 4, 5, 6] μ μ') := by
  have loop : ∀ (f a k : Nat) (m : xm_M) (g : GSt), n < a + f → k ≤ a → a ≤ n → gR m n t a g → m.1 1 1 = nI n → fm [2, 3, 4, 5, 6] μ m → gaS t n (n + 1) 0 g00 = gaS t n f a g → hd_X3_gather_8 b (fun μ' => gR μ' n t n (gaS t n (n + 1) 0 g00) ∧ fm [2, 3, 4, 5, 6] μ μ') (nI a) (nI k) m := by
    intro f
    induction f with
    | zero => intro a k m g h1 h2 h3; omega
    | succ f ih =>
      intro a k m g h1 h2 h3 hg hmn hmf he
      have done : ¬ a < n → gR m n t n (gaS t n (n + 1) 0 g00) := by
        intro ha
        rw [he, gaS, if_neg ha]
        have : a = n := by omega
        subst this
        exact hg
      apply l_X3_gather_8
      rw [hmn]
      refine ⟨fun c => ⟨done ?_, hmf⟩, fun c => ⟨fun c2 => ⟨done ?_, hmf⟩, fun c2 => ?_⟩⟩
      · rw [nI_leI (by decide) (by omega)] at c
        omega
      · rw [nI_leI (by omega) (by omega)] at c2
        omega
      rw [nI_leI (by omega) (by omega)] at c2
      have ha : a < n := by omega
      refine ⟨_, c_rightPageAt (t := t) a hmn h6 ha (hg.1.2.2.2.2.2.2.2.2.2.2.2.2.1), ?_⟩
      intro r m4 e
      obtain ⟨q1, q2⟩ := e
      subst q2
      have hw : pgW t n a ≤ n := by
        unfold pgW
        split
        · rename_i h
          have := h.2.2.2.1
          omega
        · omega
      have hw27 : pgW t n a ≠ 0 → 27 ≤ pgW t n a ∧ pgW t n a = pgW0 t a ∧ a + pgW0 t a ≤ n := by
        unfold pgW
        split
        · rename_i h
          intro _
          refine ⟨?_, rfl, h.2.2.2.1⟩
          unfold pgW0
          omega
        · intro h
          exact absurd rfl h
      rw [q1]
      refine ⟨fun c3 x8 e8' x9 e9 => ?_, fun c3 => ?_⟩
      · have h0 : pgW t n a = 0 := by
          rcases Nat.eq_zero_or_pos (pgW t n a) with h | h
          · exact h
          · exact absurd c3 (nI_nle h (by omega))
        rw [e8', e9, h0, if_neg (by decide), nI_add, nI_add]
        refine ih (a + 1) (k + 1) m4 g (by omega) (by omega) (by omega) ?_ hmn hmf ?_
        · obtain ⟨g1, g2, g3, g4, g5, g6, g7, g8, g9, g10⟩ := hg
          exact ⟨g1.mv (by omega) (by omega), g2, g3, g4, g5, g6, g7, g8, g9, by omega⟩
        · rw [he, gaS, if_pos ha, if_pos h0]
      · have h0 : pgW t n a ≠ 0 := fun h => c3 (by rw [h]; decide)
        obtain ⟨w1, w2, w3⟩ := hw27 h0
        refine ⟨_, c_takePage hmn h6 w3 hg, ?_⟩
        intro m11 e11 x14 e14 x15 e15
        rw [e14, e15, if_pos (nI_lt (by omega) (by omega)), nI_add, nI_add]
        refine ih (a + pgW t n a) (k + 1) m11 (tkS t n a g) (by omega) (by omega) (by omega) (by rw [w2]; exact e11.1) (by rw [(e11.2 1 (by decide)).1]; exact hmn) (hmf.tr e11.2) ?_
        rw [he, gaS, if_pos ha, if_neg h0]
  apply g_X3_gather
  refine ⟨fun μ' => ∃ f : Nat → Int32, μ' = xu_L (xu_I μ 3 f) 3 (vp_updL (μ.2.1 3) 6 0) ∧ f 0 = nI 0 ∧ f 1 = nI 0 ∧ f 2 = nI 0 ∧ f 3 = nI 0 ∧ f 4 = nI 0 ∧ f 5 = nI 0 ∧ f 11 = nI 0 ∧ f 12 = nI 0 ∧ f 13 = nI 0, ?_, ?_⟩
  · apply g_X3_forget
    intro m1 e1 m2 e2 m3 e3 m4 e4 m5 e5 m6 e6 m7 e7 m8 e8' m9 e9 m10 e10 m11 e11
    have e6 : m6 = xu_I μ 3 (upd (upd (upd (upd (upd (upd (μ.1 3) 0 (nI 0)) 1 (nI 0)) 2 (nI 0)) 3 (nI 0)) 4 (nI 0)) 5 (nI 0)) := by
      rw [e6, e5, e4, e3, e2, e1]
      simp only [xu_II, ri_e]
    have hc : ∀ (m : xm_M) (f : Nat → Int32) (h : Nat → Int64), xu_I (xu_L m 3 h) 3 f = xu_L (xu_I m 3 f) 3 h := fun _ _ _ => rfl
    have hr : ∀ (m : xm_M) (h : Nat → Int64), (xu_L m 3 h).1 = m.1 := fun _ _ => rfl
    refine ⟨upd (upd (upd (upd (m6.1 3) 10 (nI 0)) 11 (nI 0)) 12 (nI 0)) 13 (nI 0), ?_, ?_⟩
    · rw [e11, e10, e9, e8', e7]
      simp only [hc, hr, xu_II, ri_e]
      rw [e6, xu_II]
      rfl
    · rw [e6, ri_e]
      refine ⟨rfl, rfl, rfl, rfl, rfl, rfl, rfl, rfl, rfl⟩
  · intro m e
    obtain ⟨f, e, f0, f1, f2, f3, f4', f5, f11, f12, f13⟩ := e
    have h3 : m.1 3 = f := by rw [e, rl_i, ri_e]
    have h2 : m.1 2 = μ.1 2 := by rw [e, rl_i, ri_n (by decide)]
    refine loop (n + 1) 0 0 m g00 (by omega) (Nat.le_refl _) (Nat.zero_le _) ?_ (by rw [e, rl_i, ri_n (by decide)]; exact hn) (by rw [e]; exact (fm.rf.I (by decide)).L (by decide)) rfl
    refine ⟨⟨?_, Nat.zero_le _, ?_, ?_, Nat.zero_le _, ?_, ?_, Nat.le_refl _, Nat.zero_le _, ?_, ?_, ?_, ?_, ?_, ?_⟩, ?_, ?_, ?_, ?_, ?_, ?_, by decide, by decide, Nat.le_refl _⟩
    · rw [h3, f0]; rfl
    · rw [h3, f3]; rfl
    · rw [h3, f4']; rfl
    · rw [h3, f12]; rfl
    · rw [h3, f13]; rfl
    · intro k hk; exact absurd hk (Nat.not_lt_zero _)
    · intro i v h; simp [g00] at h
    · intro _ j v h; simp [g00] at h
    · intro j _ hj; rw [h2]; exact hT j hj
    · intro j; rw [h2]; exact hF j
    · intro q hq; simp [g00] at hq
    · rw [h3, f1]; rfl
    · rw [h3, f2]; rfl
    · rw [h3, f5]; rfl
    · rw [e, rl_e, updL_e]; rfl
    · intro h; exact absurd rfl h
    · rw [h3, f11]; rfl
