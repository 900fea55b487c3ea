/-! ===== the reference's rests; leaning ===== -/
def kW (μ m : xm_M) (c : Nat) : Prop := (∀ k, k ≠ 75 → m.1 k = μ.1 k) ∧ (∀ k, k ≠ 15 → k ≠ 17 → m.1 75 k = μ.1 75 k) ∧ (∀ k, k ≠ 101 → m.2.1 k = μ.2.1 k) ∧ ∀ i, i < 16 * c ∨ 16 * (c + 1) ≤ i → m.2.1 101 i = μ.2.1 101 i
theorem kW.rf {μ : xm_M} {c : Nat} : kW μ μ c := ⟨fun _ _ => rfl, fun _ _ _ => rfl, fun _ _ => rfl, fun _ _ => rfl⟩
theorem kW.tr {μ μ1 μ2 : xm_M} {c : Nat} (h1 : kW μ μ1 c) (h2 : kW μ1 μ2 c) : kW μ μ2 c := ⟨fun k a => (h2.1 k a).trans (h1.1 k a), fun k a b => (h2.2.1 k a b).trans (h1.2.1 k a b), fun k a => (h2.2.2.1 k a).trans (h1.2.2.1 k a), fun i a => (h2.2.2.2 i a).trans (h1.2.2.2 i a)⟩
theorem fb.kW {μ m : xm_M} {c : Nat} (h : fb μ m) : kW μ m c := ⟨h.1, h.2.2, fun k _ => by rw [h.2.1], fun i _ => by rw [h.2.1]⟩
theorem mS.W {μ μ' : xm_M} {sp : List Int32} {c : Nat} (h : mS μ sp) (hk : kW μ μ' c) : mS μ' sp := h.fr (fun k _ _ => hk.2.1 k (by omega) (by omega)) (fun d _ _ => hk.1 d (by omega))
def mRS (m : xm_M) (c : Nat) (pk : List Int32) (s : RS) : Prop := (∃ a, mR m pk a (decide (s.1 = none)) ∧ ∀ p, s.1 = some p → a = p) ∧ ∀ x, x < 16 → m.2.1 101 (16 * c + x) = lI (s.2 x)
theorem mRS_some {m : xm_M} {c p : Nat} {pk : List Int32} {s : RS} (h : mRS m c pk s) (hs : s.1 = some p) : mR m pk p false := by
  obtain ⟨⟨a, h1, h2⟩, -⟩ := h
  rw [h2 p hs] at h1
  rwa [hs] at h1
theorem c_mrests {b : Bool} {μ : xm_M} {sp pk : List Int32} {c : Nat} {s0 : RS} {p0 : Nat} (hok : sOK sp) (hS : mS μ sp) (hc : c < 2) (hp0 : s0.1 = some p0) (h0 : mRS μ c pk s0) : xCv b b k_X9_rests μ [.ref 75, .int (nI c)] (fun m => kW μ m c ∧ mRS m c pk (rsF sp pk s0 (16 / sSz sp))) := by
  have hBn := sBn_b sp
  have hCn := sCn_b sp
  have hsz := sSz_b sp
  have hcb := hok.2.1
  have hmul : 16 / sSz sp * sSz sp = 16 := by rcases hsz with h | h | h | h <;> rw [h]
  generalize hK : 16 / sSz sp = K at *
  generalize hQ : (fun (m : xm_M) => kW μ m c ∧ mRS m c pk (rsF sp pk s0 K)) = Q
  have stop : ∀ (k a : Nat) (m : xm_M) (f : Nat → Int), k ≤ K → rsF sp pk s0 k = (none, f) → kW μ m c → mR m pk a true → (∀ x, x < 16 → m.2.1 101 (16 * c + x) = lI (f x)) → Q m := by
    intro k a m f hk hs hkw hm hx
    rw [← hQ]
    refine ⟨hkw, ?_⟩
    rw [rsF_n (by rw [hs]) K hk, hs]
    exact ⟨⟨a, hm, fun p h => by cases h⟩, hx⟩
  -- the parts that are left, given what follows one
  have part : ∀ (k j e d0 p : Nat), k < K → (rsF sp pk s0 k).1 = some p → nx sp (sCb sp) pk p = some (e, d0) → j = sCl sp (e % sCn sp) → j < 8 → (∀ m : xm_M, kW μ m c → (∃ p', (rsF sp pk s0 (k + 1)).1 = some p') → mRS m c pk (rsF sp pk s0 (k + 1)) → hd_X9_rests_2 b Q (nI c) (nI ((k + 1) * sSz sp)) m) →
      ∀ (d t : Nat) (m : xm_M), t + d = sSz sp / bkW sp (bp sp j) → kW μ m c → (∃ p', (prF sp pk j (k * sSz sp) (some (p + d0), (rsF sp pk s0 k).2) t).1 = some p') → mRS m c pk (prF sp pk j (k * sSz sp) (some (p + d0), (rsF sp pk s0 k).2) t) → hd_X9_rests_41 b Q (nI c) (nI (k * sSz sp)) (nI j) (nI (t * bkW sp (bp sp j))) m := by
    intro k j e d0 p hkK hs hnx hj hj8 next d
    have hme : e % sCn sp < sCn sp := Nat.mod_lt _ (by omega)
    obtain ⟨o1, o2, o3⟩ := cl_ok hok hme (by omega)
    rw [← hj] at o1 o2 o3
    have hst : rsF sp pk s0 (k + 1) = prF sp pk j (k * sSz sp) (some (p + d0), (rsF sp pk s0 k).2) (sSz sp / bkW sp (bp sp j)) := by
      have : rsF sp pk s0 (k + 1) = _ := rsS_s hs hnx
      rw [this, if_neg (by omega), hj]
    have hw := bkW_b sp (bp sp j)
    have hks : k * sSz sp + sSz sp ≤ 16 := by
      have : (k + 1) * sSz sp ≤ K * sSz sp := Nat.mul_le_mul_right _ (by omega)
      rw [Nat.add_mul, Nat.one_mul] at this
      omega
    generalize hsp : ((some (p + d0), (rsF sp pk s0 k).2) : RS) = sp0 at *
    generalize hW : bkW sp (bp sp j) = w at *
    have hmw : sSz sp / w * w = sSz sp := Nat.div_mul_cancel (Nat.dvd_of_mod_eq_zero o3)
    generalize hT : sSz sp / w = T at *
    induction d with
    | zero =>
      intro t m ht hk hp hr
      have htT : t = T := by omega
      have hSm := hS.W hk
      apply l_X9_rests_41
      rw [hSm.2.2.2.2.2.2.1]
      refine ⟨fun cx => absurd cx (n0 (by omega)), fun _ => pk_le (sSz sp) (t * w) (fun _ x4 e4 => ?_) (fun c => by rw [htT] at c; omega) rfl rfl (by omega) (by rw [htT]; omega)⟩
      rw [e4, nI_add, show k * sSz sp + sSz sp = (k + 1) * sSz sp by rw [Nat.add_mul, Nat.one_mul]]
      rw [htT, ← hst] at hp hr
      exact next m hk hp hr
    | succ d ih =>
      intro t m ht hk hp hr
      obtain ⟨p', hp'⟩ := hp
      have hSm := hS.W hk
      have htw : t * w + w ≤ T * w := by
        have : (t + 1) * w ≤ T * w := Nat.mul_le_mul_right _ (by omega)
        rw [Nat.add_mul, Nat.one_mul] at this
        exact this
      apply l_X9_rests_41
      rw [hSm.2.2.2.2.2.2.1]
      refine ⟨fun cx => absurd cx (n0 (by omega)), fun _ => pk_le (sSz sp) (t * w) (fun c => by omega) (fun _ => ⟨_, c_mnxt (by omega) (hSm.2.2.2.2.2.2.2.2.2.2 _ o1) (mRS_some hr hp'), ?_⟩)⟩
      rintro r7 m6 ⟨f6, hx⟩
      have k6 : kW μ m6 c := hk.tr f6.kW
      have h6x : ∀ x, x < 16 → m6.2.1 101 (16 * c + x) = lI ((prF sp pk j (k * sSz sp) sp0 t).2 x) := fun x hx => by rw [f6.2.1]; exact hr.2 x hx
      rcases hx with ⟨e', d2, h1, h2, h3⟩ | ⟨h1, h2, a', h3⟩
      · have hst2 : prF sp pk j (k * sSz sp) sp0 (t + 1) = (some (p' + d2), putV sp (bp sp j) e' (k * sSz sp + t * w) w (prF sp pk j (k * sSz sp) sp0 t).2) := by
          show prS sp pk j _ (prF sp pk j (k * sSz sp) sp0 t) = _
          rw [prS_s hp' h1, hW]
        have hnb := nx_b h1
        rw [h3.ov17, h2]
        refine ⟨fun _ => ⟨_, by rw [pk_mul, nI_add, nI_add]; exact c_mvalues (sp := sp) (at' := 16 * c + k * sSz sp + t * w) (by omega) ((hS.W k6).2.2.2.2.2.2.2.2.2.2 _ o1) o2 hnb.1 (by omega), ?_⟩, fun cx => absurd rfl cx⟩
        rintro m11 ⟨f, e11, hf⟩
        rw [hW] at hf
        have k11 : kW μ m11 c := k6.tr (by
          rw [e11]
          exact ⟨fun _ _ => rfl, fun _ _ _ => rfl, fun k hk => rl_n hk, fun i hi => by rw [rl_e, hf i, if_neg (by omega)]⟩)
        refine ⟨vin (by omega) (by decide), fun x15 e15 => ?_⟩
        rw [cl (show j < 2 ^ 31 by omega), ((hS.W k11).2.2.2.2.2.2.2.2.2.2 _ o1).2.2.1, hW, nI_add, show t * w + w = (t + 1) * w by rw [Nat.add_mul, Nat.one_mul]] at e15
        rw [e15]
        refine ih (t + 1) m11 (by omega) k11 ⟨p' + d2, by rw [hst2]⟩ ?_
        rw [hst2]
        refine ⟨⟨p' + d2, by rw [e11]; exact h3, fun q hq => Option.some.inj hq⟩, fun x hx => ?_⟩
        rw [e11, rl_e, hf]
        show _ = lI (putV sp (bp sp j) e' (k * sSz sp + t * w) w _ x)
        unfold putV
        by_cases hxx : k * sSz sp + t * w ≤ x ∧ x < k * sSz sp + t * w + w
        · rw [if_pos (by omega), if_pos hxx, show 16 * c + x - (16 * c + k * sSz sp + t * w) = x - (k * sSz sp + t * w) by omega]
        · rw [if_neg (by omega), if_neg hxx]
          exact h6x x hx
      · have hst2 : prF sp pk j (k * sSz sp) sp0 (t + 1) = (none, (prF sp pk j (k * sSz sp) sp0 t).2) := by
          show prS sp pk j _ (prF sp pk j (k * sSz sp) sp0 t) = _
          rw [prS_e hp' h1]
        rw [h3.ov17]
        refine ⟨fun cx => absurd cx (by decide), fun _ => ?_⟩
        exact stop (k + 1) a' m6 _ (by omega) (by rw [hst, prF_n (by rw [hst2]) T (show t + 1 ≤ T by omega), hst2]) k6 h3 h6x
  have loop : ∀ (d k : Nat) (m : xm_M), k + d = K → kW μ m c → (∃ p', (rsF sp pk s0 k).1 = some p') → mRS m c pk (rsF sp pk s0 k) → hd_X9_rests_2 b Q (nI c) (nI (k * sSz sp)) m := by
    intro d
    induction d with
    | zero =>
      intro k m hk hkw hp hr
      have hkK : k = K := by omega
      apply l_X9_rests_2
      rw [hkK] at hr ⊢
      refine pk_le 16 (K * sSz sp) (fun _ => ?_) (fun c => by omega)
      rw [← hQ]
      exact ⟨hkw, hr⟩
    | succ d ih =>
      intro k m hk hkw hp hr
      obtain ⟨p, hp⟩ := hp
      have hSm := hS.W hkw
      have hks : k * sSz sp + sSz sp ≤ 16 := by
        have : (k + 1) * sSz sp ≤ K * sSz sp := Nat.mul_le_mul_right _ (by omega)
        rw [Nat.add_mul, Nat.one_mul] at this
        omega
      apply l_X9_rests_2
      rw [hSm.2.2.2.2.2.2.2.2.1]
      refine pk_le 16 (k * sSz sp) (fun c => by omega) (fun _ => ⟨_, c_mnxt (by omega) (hSm.2.2.2.2.2.2.2.2.2.2 _ hcb) (mRS_some hr hp), ?_⟩)
      rintro r4 m3 ⟨f3, hx⟩
      have k3 : kW μ m3 c := hkw.tr f3.kW
      have hS3 := hS.W k3
      have h3x : ∀ x, x < 16 → m3.2.1 101 (16 * c + x) = lI ((rsF sp pk s0 k).2 x) := fun x hx => by rw [f3.2.1]; exact hr.2 x hx
      rcases hx with ⟨e, d2, h1, h2, h3⟩ | ⟨h1, h2, a', h3⟩
      · have hnb := nx_b h1
        have hme : e % sCn sp < sCn sp := Nat.mod_lt _ (by omega)
        have hst : rsF sp pk s0 (k + 1) = _ := rsS_s hp h1
        rw [h3.ov17, h2, hS3.2.2.2.2.2.2.2.1, pk_rem (by omega) (by omega) (by omega), cl (show e % sCn sp < 2 ^ 31 by omega), hS3.2.2.2.2.2.2.2.2.2.1 _ hme]
        refine ⟨fun _ => ⟨nI_ne0 (by omega) (by omega), vin (by omega) (by decide), ?_⟩, fun cx => absurd rfl cx⟩
        by_cases h8 : sCl sp (e % sCn sp) < 8
        · rw [if_pos h8]
          have := part k (sCl sp (e % sCn sp)) e d2 p (by omega) hp h1 rfl h8 (fun m g1 g2 g3 => ih (k + 1) m (by omega) g1 g2 g3) (sSz sp / bkW sp (bp sp (sCl sp (e % sCn sp)))) 0 m3 (by omega) k3 ⟨p + d2, rfl⟩ ⟨⟨p + d2, h3, fun q hq => Option.some.inj hq⟩, h3x⟩
          rw [Nat.zero_mul] at this
          exact this
        · rw [if_neg h8]
          rw [if_pos (by omega)] at hst
          apply l_X9_rests_41
          refine ⟨fun _ x2 e2 => ?_, fun cx => absurd (by decide) cx⟩
          rw [hS3.2.2.2.2.2.2.1, nI_add, show k * sSz sp + sSz sp = (k + 1) * sSz sp by rw [Nat.add_mul, Nat.one_mul]] at e2
          rw [e2]
          exact ih (k + 1) m3 (by omega) k3 ⟨p + d2, by rw [hst]⟩ (by rw [hst]; exact ⟨⟨p + d2, h3, fun q hq => Option.some.inj hq⟩, h3x⟩)
      · rw [h3.ov17]
        refine ⟨fun cx => absurd cx (by decide), fun _ => ?_⟩
        exact stop (k + 1) a' m3 _ (by omega) (rsS_e hp h1) k3 h3 h3x
  apply g_X9_rests
  have := loop K 0 μ (by omega) kW.rf ⟨p0, hp0⟩ h0
  rw [Nat.zero_mul] at this
  exact this
