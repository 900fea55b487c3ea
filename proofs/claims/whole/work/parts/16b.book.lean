/-! ===== a book: what the bits from a place on say of it ===== -/
def bkW (pk : List Int32) (a : Nat) : Nat := nv pk a 2 + 1
def bkN (pk : List Int32) (a : Nat) : Nat := nv pk (a + 2) 6 + 1
def bkL (pk : List Int32) (a e : Nat) : Nat := nv pk (a + 8 + 4 * e) 4
/-- the place behind the lengths -/
def bkP (pk : List Int32) (a : Nat) : Nat := a + 8 + 4 * bkN pk a
def bkH (pk : List Int32) (a : Nat) : Nat := bb pk (bkP pk a)
def bkB (pk : List Int32) (a : Nat) : Nat := nv pk (bkP pk a + 18) 3 + 1
/-- the greatest q with q to the w not above n, looked for from 1 on -/
def rtF (n w : Nat) : Nat → Nat → Nat
  | 0, r => r
  | d + 1, r => if (r + 1) ^ w ≤ n then rtF n w d (r + 1) else r
def bkQ (pk : List Int32) (a : Nat) : Nat := rtF (bkN pk a) (bkW pk a) 63 1
def bkM (pk : List Int32) (a k : Nat) : Nat := nv pk (bkP pk a + 21 + bkB pk a * k) (bkB pk a)
def bkE (pk : List Int32) (a : Nat) : Nat := if bkH pk a = 1 then bkP pk a + 21 + bkB pk a * bkQ pk a else bkP pk a + 1
def sgn8 (v : Nat) : Int32 := if v < 128 then nI v else nI v - nI 256
noncomputable def bkF (pk : List Int32) (a : Nat) : Nat := by
  classical
  exact if 8 * pk.length < bkP pk a then 2 else if ¬ WH (bkL pk a) (bkN pk a) then 4 else if 8 * pk.length < bkE pk a then 2 else 0
theorem bkL_le (pk : List Int32) (a e : Nat) : bkL pk a e ≤ 15 := by
  have := nv_lt pk (a + 8 + 4 * e) 4
  unfold bkL
  omega
theorem bkW_b (pk : List Int32) (a : Nat) : 1 ≤ bkW pk a ∧ bkW pk a ≤ 4 := by
  have := nv_lt pk a 2
  unfold bkW
  omega
theorem bkN_b (pk : List Int32) (a : Nat) : 1 ≤ bkN pk a ∧ bkN pk a ≤ 64 := by
  have := nv_lt pk (a + 2) 6
  unfold bkN
  omega
theorem bkB_b (pk : List Int32) (a : Nat) : 1 ≤ bkB pk a ∧ bkB pk a ≤ 8 := by
  have := nv_lt pk (bkP pk a + 18) 3
  unfold bkB
  omega
theorem rtF_b {n w : Nat} (hn : n ≤ 64) (hw : 1 ≤ w) : ∀ (d r : Nat), d + r = 64 → 1 ≤ r → (1 ≤ rtF n w d r ∧ rtF n w d r ≤ 64) ∧ (1 ≤ n → r ^ w ≤ n → rtF n w d r ^ w ≤ n) ∧ r ≤ rtF n w d r
  | 0, r, h, h1 => by
    unfold rtF
    exact ⟨by omega, fun _ h => h, Nat.le_refl _⟩
  | d + 1, r, h, h1 => by
    unfold rtF
    split
    · rename_i hc
      obtain ⟨g1, g2, g3⟩ := rtF_b hn hw d (r + 1) (by omega) (by omega)
      exact ⟨g1, fun hn _ => g2 hn hc, by omega⟩
    · exact ⟨by omega, fun _ h => h, Nat.le_refl _⟩
theorem bkQ_b (pk : List Int32) (a : Nat) : 1 ≤ bkQ pk a ∧ bkQ pk a ≤ 64 := (rtF_b (bkN_b pk a).2 (bkW_b pk a).1 63 1 rfl (by decide)).1
theorem bkE_gt (pk : List Int32) (a : Nat) : bkP pk a < bkE pk a := by
  unfold bkE
  split <;> omega
theorem bkP_gt (pk : List Int32) (a : Nat) : a + 12 ≤ bkP pk a := by
  have := bkN_b pk a
  unfold bkP
  omega
theorem bkF_1 {pk : List Int32} {a : Nat} (h : 8 * pk.length < bkP pk a) : bkF pk a = 2 := if_pos h
theorem bkF_2 {pk : List Int32} {a : Nat} (h : ¬ 8 * pk.length < bkP pk a) (hW : ¬ WH (bkL pk a) (bkN pk a)) : bkF pk a = 4 := by
  unfold bkF
  simp only [if_neg h, if_pos hW]
theorem bkF_3 {pk : List Int32} {a : Nat} (h : ¬ 8 * pk.length < bkP pk a) (hW : WH (bkL pk a) (bkN pk a)) (hE : 8 * pk.length < bkE pk a) : bkF pk a = 2 := by
  unfold bkF
  simp only [if_neg h, if_neg (not_not_intro hW), if_pos hE]
theorem bkF_0 {pk : List Int32} {a : Nat} (hW : WH (bkL pk a) (bkN pk a)) (hE : ¬ 8 * pk.length < bkE pk a) : bkF pk a = 0 := by
  have := bkE_gt pk a
  unfold bkF
  simp only [if_neg (show ¬ 8 * pk.length < bkP pk a by omega), if_neg (not_not_intro hW), if_neg hE]
def cV (μ : xm_M) (B : Nat) (pk : List Int32) (a : Nat) : Prop := μ.1 B 3 = sgn8 (nv pk (bkP pk a + 1) 8) ∧ μ.1 B 4 = nI (nv pk (bkP pk a + 9) 8) ∧ μ.1 B 5 = nI (bb pk (bkP pk a + 17)) ∧ μ.1 B 6 = nI (bkQ pk a) ∧ ∀ k, k < bkQ pk a → μ.1 (B + 1) k = nI (bkM pk a k)
def mV (μ : xm_M) (j : Nat) (pk : List Int32) (a : Nat) : Prop := μ.1 87 j = sgn8 (nv pk (bkP pk a + 1) 8) ∧ μ.1 88 j = nI (nv pk (bkP pk a + 9) 8) ∧ μ.1 89 j = nI (bb pk (bkP pk a + 17)) ∧ μ.1 90 j = nI (bkQ pk a) ∧ ∀ k, k < bkQ pk a → μ.1 91 (64 * j + k) = nI (bkM pk a k)
/-- the class's book B is the one at a -/
def cB (μ : xm_M) (B : Nat) (pk : List Int32) (a : Nat) : Prop :=
  WH (bkL pk a) (bkN pk a) ∧ cT μ B (bkL pk a) (bkN pk a) ∧ μ.1 B 0 = nI (bkW pk a) ∧ μ.1 B 1 = nI (bkH pk a) ∧
  (bkH pk a = 1 → cV μ B pk a)
theorem cB.fr {μ μ' : xm_M} {B a : Nat} {pk : List Int32} (h : cB μ B pk a) (h0 : μ'.1 B = μ.1 B) (h1 : μ'.1 (B + 1) = μ.1 (B + 1)) (h3 : μ'.1 (B + 3) = μ.1 (B + 3)) : cB μ' B pk a := by
  obtain ⟨g1, ⟨s, F, t1, t2, t3⟩, g3, g4, g5⟩ := h
  exact ⟨g1, ⟨s, F, t1, by rw [h3]; exact t2, t3⟩, by rw [h0]; exact g3, by rw [h0]; exact g4, fun hh => by unfold cV; rw [h0, h1]; exact g5 hh⟩
def mB (μ : xm_M) (j : Nat) (pk : List Int32) (a : Nat) : Prop :=
  WH (bkL pk a) (bkN pk a) ∧ mT μ j (bkL pk a) (bkN pk a) ∧ μ.1 83 j = nI (bkW pk a) ∧ μ.1 86 j = nI (bkH pk a) ∧
  (bkH pk a = 1 → mV μ j pk a)
/-- what a book of the reference may touch -/
def kb (μ μ' : xm_M) (j : Nat) : Prop :=
  (∀ c, c ≠ 75 → c < 83 ∨ 93 < c → μ'.1 c = μ.1 c) ∧ μ'.2.1 = μ.2.1 ∧ (∀ k, k ≠ 15 → k ≠ 17 → k ≠ 19 → μ'.1 75 k = μ.1 75 k) ∧
  (∀ c i, 83 ≤ c → c ≤ 90 → i ≠ j → μ'.1 c i = μ.1 c i) ∧ (∀ i, i < 64 * j ∨ 64 * (j + 1) ≤ i → μ'.1 91 i = μ.1 91 i ∧ μ'.1 93 i = μ.1 93 i) ∧ ∀ i, i < 32768 * j ∨ 32768 * (j + 1) ≤ i → μ'.1 92 i = μ.1 92 i
theorem kb.rf {μ : xm_M} {j : Nat} : kb μ μ j := ⟨fun _ _ _ => rfl, rfl, fun _ _ _ _ => rfl, fun _ _ _ _ _ => rfl, fun _ _ => ⟨rfl, rfl⟩, fun _ _ => rfl⟩
theorem kb.tr {μ μ1 μ2 : xm_M} {j : Nat} (h1 : kb μ μ1 j) (h2 : kb μ1 μ2 j) : kb μ μ2 j := by
  obtain ⟨a1, a2, a3, a4, a5, a6⟩ := h1
  obtain ⟨b1, b2, b3, b4, b5, b6⟩ := h2
  exact ⟨fun c p q => (b1 c p q).trans (a1 c p q), b2.trans a2, fun k p q r => (b3 k p q r).trans (a3 k p q r), fun c i p q r => (b4 c i p q r).trans (a4 c i p q r), fun i p => ⟨(b5 i p).1.trans (a5 i p).1, (b5 i p).2.trans (a5 i p).2⟩, fun i p => (b6 i p).trans (a6 i p)⟩
theorem fb.kb {μ μ' : xm_M} {j : Nat} (h : fb μ μ') : kb μ μ' j := by
  obtain ⟨h1, h2, h3⟩ := h
  refine ⟨fun c p q => h1 c p, h2, fun k p q _ => h3 k p q, fun c i p q r => by rw [h1 c (by omega)], fun i p => ⟨by rw [h1 91 (by decide)], by rw [h1 93 (by decide)]⟩, fun i p => by rw [h1 92 (by decide)]⟩
theorem kb.s {μ : xm_M} {j c : Nat} {v : Int32} (hc : 83 ≤ c) (hc2 : c ≤ 90) : kb μ (xu_I μ c (upd (μ.1 c) j v)) j := by
  refine ⟨fun d p q => ri_n (by omega), rfl, fun k _ _ _ => by rw [ri_n (by omega)], fun d i p q r => ?_, fun i p => ⟨by rw [ri_n (by omega)], by rw [ri_n (by omega)]⟩, fun i p => by rw [ri_n (by omega)]⟩
  by_cases h : d = c
  · subst h
    rw [ri_e, upd_n r]
  · rw [ri_n h]
theorem kb.s2 {μ : xm_M} {j c i0 : Nat} {v : Int32} (hc : c = 91 ∨ c = 93) (hi : i0 < 64) : kb μ (xu_I μ c (upd (μ.1 c) (64 * j + i0) v)) j := by
  refine ⟨fun d p q => ri_n (by omega), rfl, fun k _ _ _ => by rw [ri_n (by omega)], fun d i p q r => by rw [ri_n (by omega)], fun i p => ?_, fun i p => by rw [ri_n (by omega)]⟩
  rcases hc with rfl | rfl
  · exact ⟨by rw [ri_e, upd_n (by omega)], by rw [ri_n (by decide)]⟩
  · exact ⟨by rw [ri_n (by decide)], by rw [ri_e, upd_n (by omega)]⟩
theorem kb.f {μ : xm_M} {j : Nat} {v : Int32} : kb μ (xu_I μ 75 (upd (μ.1 75) 19 v)) j := by
  refine ⟨fun d p q => ri_n p, rfl, fun k _ _ h => by rw [ri_e, upd_n h], fun d i p q r => by rw [ri_n (by omega)], fun i p => ⟨by rw [ri_n (by decide)], by rw [ri_n (by decide)]⟩, fun i p => by rw [ri_n (by decide)]⟩
theorem kM.kb {μ μ' : xm_M} {j : Nat} (h : kM μ μ' j) : kb μ μ' j := by
  obtain ⟨h1, h2, h3, h4⟩ := h
  refine ⟨fun c p q => h1 c (by omega) (by omega), h2, fun k _ _ _ => by rw [h1 75 (by decide) (by decide)], fun c i p q r => ?_, fun i p => ⟨by rw [h1 91 (by decide) (by decide)], by rw [h1 93 (by decide) (by decide)]⟩, h4⟩
  by_cases h : c = 85
  · subst h
    exact h3 i r
  · rw [h1 c h (by omega)]
theorem mB.fr {μ μ' : xm_M} {i j a : Nat} {pk : List Int32} (h : mB μ i pk a) (hk : kb μ μ' j) (hij : i ≠ j) : mB μ' i pk a := by
  obtain ⟨a1, a2, a3, a4, a5, a6⟩ := hk
  obtain ⟨g1, ⟨t1, s, t2, ⟨t3, t4⟩, t5⟩, g3, g4, g5⟩ := h
  have hn := (bkN_b pk a).2
  have hq := (bkQ_b pk a).2
  refine ⟨g1, ⟨fun e he => ?_, s, t2, ⟨fun x hx hf => ?_, fun x e hx hu => ?_⟩, ?_⟩, ?_, ?_, fun hh => ?_⟩
  · rw [(a5 _ (by omega)).2]; exact t1 e he
  · rw [a6 _ (by omega)]; exact t3 x hx hf
  · rw [a6 _ (by omega)]; exact t4 x e hx hu
  · rw [a4 85 i (by decide) (by decide) hij]; exact t5
  · rw [a4 83 i (by decide) (by decide) hij]; exact g3
  · rw [a4 86 i (by decide) (by decide) hij]; exact g4
  · unfold mV
    rw [a4 87 i (by decide) (by decide) hij, a4 88 i (by decide) (by decide) hij, a4 89 i (by decide) (by decide) hij, a4 90 i (by decide) (by decide) hij]
    obtain ⟨p1, p2, p3, p4, p5⟩ := g5 hh
    exact ⟨p1, p2, p3, p4, fun k hk => by rw [(a5 _ (by omega)).1]; exact p5 k hk⟩
