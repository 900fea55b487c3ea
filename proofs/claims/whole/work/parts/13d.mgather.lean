theorem lgc_eq (x y : Int64) : lg_cmp x y = 0 ↔ x = y := by
  unfold lg_cmp
  constructor
  · intro h
    split at h
    · exact absurd h (by decide)
    · split at h
      · assumption
      · exact absurd h (by decide)
  · intro h
    subst h
    rw [if_neg (by exact Int64.lt_irrefl), if_pos rfl]
def gM (μ : xm_M) (a : Nat) (g : GSt) : Prop :=
  kmR μ g.1 ∧ bgOK g.1 a ∧ μ.1 75 10 = nI (if g.1.2.1.length = 0 then 0 else 1) ∧ μ.1 82 0 = nI g.2.1 ∧ μ.1 82 1 = nI g.2.2.1 ∧ μ.1 75 12 = nI (if g.2.2.2.1 = true then 1 else 0) ∧ (g.2.2.2.1 = true → μ.2.1 75 13 = lN g.2.2.2.2.1) ∧ (g.2.1 = 0 → g.1.2.1 = []) ∧ g.2.1 ≤ a ∧ g.2.2.2.2.2.1 < 2 ^ 32 ∧ g.2.2.2.2.2.2 < 2 ^ 32
def k75p (μ μ' : xm_M) : Prop := (∀ k, k ≠ 7 → k ≠ 9 → k ≠ 10 → k ≠ 12 → μ'.1 75 k = μ.1 75 k) ∧ (∀ k, k ≠ 0 → k ≠ 1 → k ≠ 6 → k ≠ 7 → μ'.1 82 k = μ.1 82 k)
theorem k75p.tr {μ μ1 μ2 : xm_M} (h1 : k75p μ μ1) (h2 : k75p μ1 μ2) : k75p μ μ2 := ⟨fun k a b c d => (h2.1 k a b c d).trans (h1.1 k a b c d), fun k a b c d => (h2.2 k a b c d).trans (h1.2 k a b c d)⟩
theorem c_mpages {b : Bool} {μ : xm_M} {n : Nat} {t : Nat → Int32} (h6 : n ≤ 6000) (hT : ∀ j, j < n → μ.1 76 j = t j) (hF : ∀ j, j < n → fits .byte (.int (t j)) = true) (h0 : gM μ 0 g00) : xCv b b k_X9_pages μ [.ref 75, .int (nI n)] (fun μ' => gM μ' n (gaS t n (n + 1) 0 g00) ∧ fm [75, 79, 80, 81, 82] μ μ' ∧ k75p μ μ') := by
  have loop : ∀ (f a : Nat) (m : xm_M) (g : GSt), n < a + f → a ≤ n → gM m a g → fm [75, 79, 80, 81, 82] μ m → k75p μ m → gaS t n (n + 1) 0 g00 = gaS t n f a g → hd_X9_pages_10 b (fun μ' => gM μ' n (gaS t n (n + 1) 0 g00) ∧ fm [75, 79, 80, 81, 82] μ μ' ∧ k75p μ μ') (nI n) (if g.2.1 = 0 then (-1 : Int64) else lN g.2.2.2.2.2.1) (nI g.2.2.2.2.2.2) (nI a) m := by
    intro f
    induction f with
    | zero => intro a m g h1 h3; omega
    | succ f ih =>
      intro a m g h1 h3 hg hmf hmk he
      have hg0 := hg
      obtain ⟨b1, b2, b3, b4, b5, b6, b7, b8, b9, b10, b11⟩ := hg
      have hmT : ∀ j, j < n → m.1 76 j = t j := fun j hj => by rw [(hmf 76 (by decide)).1]; exact hT j hj
      apply l_X9_pages_10
      refine ⟨fun c => ?_, fun c => ?_⟩
      · rw [nI_leI (by omega) (by omega)] at c
        have ha : a = n := by omega
        subst ha
        rw [he, gaS, if_neg (by omega)]
        exact ⟨hg0, hmf, hmk⟩
      rw [nI_leI (by omega) (by omega)] at c
      have ha : a < n := by omega
      refine ⟨_, c_pageEnd (t := t) a h6 ha hmT hF, ?_⟩
      intro r4 m3 e
      obtain ⟨q4, q2⟩ := e
      subst q2
      have hw27 : pgW t n a ≠ 0 → 27 ≤ pgW t n a ∧ pgW t n a = pgW0 t a ∧ a + pgW0 t a ≤ n := by
        unfold pgW
        split
        · rename_i h
          intro _
          refine ⟨?_, rfl, h.2.2.2.1⟩
          unfold pgW0
          omega
        · intro h
          exact absurd rfl h
      refine ⟨fun c2 => ?_, fun c2 x12 e12 => ?_⟩
      rotate_left
      · have hz : pgW t n a = 0 := by
          by_cases h : pgW t n a = 0
          · exact h
          · rw [if_neg h] at q4
            obtain ⟨w1, w2, w3⟩ := hw27 h
            rw [q4] at c2
            exact absurd (n0' (by omega)) c2
        rw [e12, nI_add]
        refine ih (a + 1) m3 g (by omega) (by omega) ⟨b1, b2.mv (by omega), b3, b4, b5, b6, b7, b8, by omega, b10, b11⟩ hmf hmk ?_
        rw [he, gaS, if_pos ha, if_pos hz]
      have hz : pgW t n a ≠ 0 := by
        intro h
        rw [if_pos h] at q4
        rw [q4] at c2
        exact absurd c2 (by decide)
      obtain ⟨w1, w2, w3⟩ := hw27 hz
      rw [if_neg hz] at q4
      have hW1 : 27 + pgL t a + lsum t a (pgL t a) = pgW0 t a := rfl
      have h414 := f4_lt t n (a + 14)
      have h418 := f4_lt t n (a + 18)
      refine ⟨_, by rw [nI_add]; exact c_mlow (t := t) (a + 14) 4 (by decide) h6 (by omega) hmT, ?_⟩
      intro r9 m8 e
      obtain ⟨q9, q2⟩ := e
      subst q2
      rw [lo8_4 (n := n) (by omega)] at q9
      -- with the serial told
      have main : ∀ (sr : Nat), sr < 2 ^ 32 → (g.2.1 = 0 → sr = f4 t n (a + 14)) → (g.2.1 ≠ 0 → sr = g.2.2.2.2.2.1) → hd_X9_pages_60 b (fun μ' => gM μ' n (gaS t n (n + 1) 0 g00) ∧ fm [75, 79, 80, 81, 82] μ μ' ∧ k75p μ μ') (nI n) (lN sr) (nI g.2.2.2.2.2.2) (nI a) r4 r9 m8 := by
        intro sr hsr hs0 hs1
        apply l_X9_pages_60
        rw [lgc_eq, q9, pk_lEQ (by omega) (by omega), cl (show 1 < 2 ^ 31 by decide), cl (show 0 < 2 ^ 31 by decide)]
        refine ⟨fun c3 => ⟨vin (by decide) (by decide), vin (by decide) (by decide), fun m4 e4 => ?_⟩, fun c3 => ?_⟩
        · have hp : g.2.1 ≠ 0 := fun h => c3 (hs0 h).symm
          have hsr2 := hs1 hp
          have htk : tkS t n a g = (g.1, g.2.1, g.2.2.1 + 1, g.2.2.2.1, g.2.2.2.2.1, g.2.2.2.2.2.1, g.2.2.2.2.2.2) := by
            unfold tkS
            rw [if_pos ⟨hp, by rw [← hsr2]; exact c3⟩]
          rw [b5, nI_add] at e4
          have h82 : m4.1 82 = upd (m8.1 82) 1 (nI (g.2.2.1 + 1)) := by rw [e4, ri_e]
          have ho : ∀ c, c ≠ 82 → m4.1 c = m8.1 c := fun c hc => by rw [e4, ri_n hc]
          apply l_X9_pages_139
          rw [q4, hsr2]
          have := ih (a + pgW t n a) m4 (tkS t n a g) (by omega) (by omega) ?_ (by rw [e4]; exact hmf.I (by decide)) (hmk.tr ⟨fun k _ _ _ _ => by rw [ho _ (by decide)], fun k _ k1 _ _ => by rw [h82, upd_n k1]⟩) (by rw [he, gaS, if_pos ha, if_neg hz])
          · rw [htk] at this
            simp only at this
            rw [if_neg hp] at this
            exact this
          · rw [htk]
            refine ⟨?_, b2.mv (by omega), by rw [ho _ (by decide)]; exact b3, by rw [h82, upd_n (by decide)]; exact b4, by rw [h82, upd_e], by rw [ho _ (by decide)]; exact b6, fun h => by rw [e4, ri_l]; exact b7 h, b8, by show g.2.1 ≤ _; omega, b10, b11⟩
            obtain ⟨a1, a2, a3, a4, a5, a6, a7, a8⟩ := b1
            refine ⟨by rw [ho _ (by decide)]; exact a1, a2, by rw [h82, upd_n (by decide)]; exact a3, by rw [h82, upd_n (by decide)]; exact a4, a5, by rw [ho _ (by decide)]; exact a6, ?_, ?_⟩
            · intro k q hq; rw [ho _ (by decide), ho _ (by decide)]; exact a7 k q hq
            · intro j v h1 h3; rw [ho _ (by decide)]; exact a8 j v h1 h3
        · have hno : ¬ (g.2.1 ≠ 0 ∧ f4 t n (a + 14) ≠ g.2.2.2.2.2.1) := fun h => h.2 (by rw [← hs1 h.1]; exact c3)
          refine ⟨_, by rw [nI_add]; exact c_mlow (t := t) (a + 18) 4 (by decide) h6 (by omega) hmT, ?_⟩
          intro r7 m6 e x9 e9
          obtain ⟨q7, q2⟩ := e
          subst q2
          rw [q7, lN_i, lo8_4 (n := n) (by omega)] at e9
          refine ⟨vin (by decide) (by decide), ?_⟩
          rw [b4, e9, nI_add]
          -- the page is taken
          have take : ∀ (fo : Bool), (fo = true ↔ (g.2.1 = 0 ∨ f4 t n (a + 18) = (g.2.2.2.2.2.2 + 1) % 2 ^ 32)) → ∃ Q12 : xm_M → Prop, xCv b b k_X9_takesPage m6 [.ref 75, .int (nI a), .int (nI (if fo = true then 1 else 0))] Q12 ∧ ∀ m13 : xm_M, Q12 m13 → vp_in (nI 0) 8 ∧ vp_in (nI 0) 8 ∧ ∀ m18 : xm_M, m18 = xu_I m13 82 (upd (m13.1 82) 0 ((m13.1 82 0) + (nI 1))) → hd_X9_pages_139 b (fun μ' => gM μ' n (gaS t n (n + 1) 0 g00) ∧ fm [75, 79, 80, 81, 82] μ μ' ∧ k75p μ μ') (nI n) (lN sr) (nI (f4 t n (a + 18))) r4 m18 := by
            intro fo hfo
            have hps : ∃ ps : PSt, ps = (if fo = true ∧ bn (t (a + 5)) &&& 1 ≠ 0 then g.1 else (g.1.1, [], g.1.2.2)) ∧ ps = (if bn (t (a + 5)) &&& 1 ≠ 0 ∧ f4 t n (a + 18) = (g.2.2.2.2.2.2 + 1) % 2 ^ 32 then g.1 else (g.1.1, [], g.1.2.2)) := by
              refine ⟨_, rfl, ?_⟩
              have hcut : g.2.1 = 0 → g.1 = (g.1.1, [], g.1.2.2) := fun h => by
                have := b8 h
                obtain ⟨⟨x1, x2, x3⟩, x4⟩ := g
                simp only at this
                subst this
                rfl
              by_cases hgo : bn (t (a + 5)) &&& 1 ≠ 0
              · by_cases hnu : f4 t n (a + 18) = (g.2.2.2.2.2.2 + 1) % 2 ^ 32
                · rw [if_pos ⟨hfo.mpr (Or.inr hnu), hgo⟩, if_pos ⟨hgo, hnu⟩]
                · rw [if_neg (c := bn (t (a + 5)) &&& 1 ≠ 0 ∧ _) (fun h => hnu h.2)]
                  split
                  · rename_i h
                    rcases hfo.mp h.1 with h | h
                    · exact hcut h
                    · exact absurd h hnu
                  · rfl
              · rw [if_neg (fun h => hgo h.2), if_neg (fun h => hgo h.1)]
            obtain ⟨ps, hps1, hps2⟩ := hps
            refine ⟨_, c_takesPage fo h6 w3 hmT hF b1 b2 b3 hps1, ?_⟩
            intro m13 e13
            obtain ⟨d1, d2, d3, d4, d5, d6, d7⟩ := e13
            refine ⟨vin (by decide) (by decide), vin (by decide) (by decide), fun m18 e18 => ?_⟩
            have htk : tkS t n a g = ((lcL t a (decide (bn (t (a + 5)) &&& 1 ≠ 0 ∧ ps.2.1.length = 0)) ps (pgL t a)).2, g.2.1 + 1, g.2.2.1, decide (bn (t (a + 5)) &&& 4 ≠ 0), e8 t n (a + 6), f4 t n (a + 14), f4 t n (a + 18)) := by
              unfold tkS
              rw [if_neg hno, hps2]
            rw [d7 0 (by decide) (by decide), b4, nI_add] at e18
            have h82 : m18.1 82 = upd (m13.1 82) 0 (nI (g.2.1 + 1)) := by rw [e18, ri_e]
            have ho : ∀ c, c ≠ 82 → m18.1 c = m13.1 c := fun c hc => by rw [e18, ri_n hc]
            have hbo : bgOK ps a := by
              rw [hps1]
              split
              · exact b2
              · exact ⟨Nat.zero_le _, fun v hv => by simp at hv⟩
            apply l_X9_pages_139
            rw [q4]
            have := ih (a + pgW t n a) m18 (tkS t n a g) (by omega) (by omega) ?_ (by rw [e18]; exact (hmf.tr d2).I (by decide)) (hmk.tr ⟨fun k k7 k9 k10 k12 => by rw [ho _ (by decide)]; exact d6 k k7 k9 k10 k12, fun k k0 _ k6 k7 => by rw [h82, upd_n k0]; exact d7 k k6 k7⟩) (by rw [he, gaS, if_pos ha, if_neg hz])
            · rw [htk] at this
              simp only at this
              rw [if_neg (by omega)] at this
              rw [← c3]
              exact this
            · rw [htk]
              refine ⟨?_, ?_, by rw [ho _ (by decide)]; exact d5, by rw [h82, upd_e], by rw [h82, upd_n (by decide), d7 1 (by decide) (by decide)]; exact b5, by rw [ho _ (by decide)]; exact d3, fun _ => by rw [e18, ri_l]; exact d4, fun h => by simp at h, by show g.2.1 + 1 ≤ _; omega, h414, h418⟩
              · obtain ⟨a1, a2, a3, a4, a5, a6, a7, a8⟩ := d1
                refine ⟨by rw [ho _ (by decide)]; exact a1, a2, by rw [h82, upd_n (by decide)]; exact a3, by rw [h82, upd_n (by decide)]; exact a4, a5, by rw [ho _ (by decide)]; exact a6, ?_, ?_⟩
                · intro k q hq; rw [ho _ (by decide), ho _ (by decide)]; exact a7 k q hq
                · intro j v h1 h3; rw [ho _ (by decide)]; exact a8 j v h1 h3
              · exact (hbo.lcL w3 hF (pgL t a) (Nat.le_refl _)).mv (by omega)
          have hgn : g.2.1 ≤ 6000 := by omega
          refine ⟨fun c4 => ?_, fun c4 => ⟨fun c5 => ?_, fun c5 => ?_⟩⟩
          · rw [neq0 (by omega)] at c4
            exact take true ⟨fun _ => Or.inl c4, fun _ => rfl⟩
          · rw [neq0 (by omega)] at c4
            refine take false ⟨fun h => Bool.noConfusion h, fun h => ?_⟩
            rcases h with h | h
            · exact absurd h c4
            · exact absurd (by rw [h, nI_mod]) c5
          · refine take true ⟨fun _ => Or.inr ?_, fun _ => rfl⟩
            exact nI_inj (by omega) (Nat.mod_lt _ (by decide)) (by rw [nI_mod]; exact c5)
      rw [lg_cmp_ge]
      refine ⟨fun c3 => ?_, fun c3 => ?_⟩
      · have hp : g.2.1 ≠ 0 := fun h => by rw [if_pos h] at c3; exact absurd c3 (by decide)
        rw [if_neg hp]
        exact main g.2.2.2.2.2.1 b10 (fun h => absurd h hp) (fun _ => rfl)
      · have hp : g.2.1 = 0 := by
          by_cases h : g.2.1 = 0
          · exact h
          · rw [if_neg h] at c3
            exact absurd ((pk_lLE (a := 0) (by decide) (by omega)).mpr (Nat.zero_le _)) c3
        rw [q9]
        have := main (f4 t n (a + 14)) h414 (fun _ => rfl) (fun h => absurd hp h)
        rw [q9] at this
        exact this
  apply g_X9_pages
  exact loop (n + 1) 0 μ g00 (by omega) (Nat.zero_le _) h0 fm.rf ⟨fun _ _ _ _ _ => rfl, fun _ _ _ _ _ => rfl⟩ rfl
