/-! ===== page ===== -/
theorem crcF_congr2 {t u : Nat → Int32} {a n : Nat} (h : ∀ j, j < n → ¬ (22 ≤ j ∧ j < 26) → t (a + j) = u (a + j)) : ∀ k, k ≤ n → crcF t a k = crcF u a k
  | 0, _ => rfl
  | k + 1, hk => by
    rw [crcF_s, crcF_s, crcF_congr2 h k (by omega)]
    by_cases hc : 22 ≤ k ∧ k < 26
    · rw [if_pos hc, if_pos hc]
    · rw [if_neg hc, if_neg hc, h k (by omega) hc]
def hdB (fl : Int32) (G : Int64) (se nu : Int32) (i : Nat) : Int32 := if i < 5 then by8 (nI ([79, 103, 103, 83, 0].getD i 0)) else if i = 5 then by8 fl else if i < 10 then by8 (su G.toInt32 (8 * (i - 6))) else if i < 14 then by8 (su (hi32 G) (8 * (i - 10))) else if i < 18 then by8 (su se (8 * (i - 14))) else by8 (su nu (8 * (i - 18)))
def laB (size i : Nat) : Int32 := by8 (nI (if 255 * (i + 1) ≤ size then 255 else size % 255))
/-- the tape with its page, the check left out -/
def pgU (t : Nat → Int32) (f size L : Nat) (fl : Int32) (G : Int64) (se nu : Int32) (j : Nat) : Int32 := if j < f then t j else if j < f + 22 then hdB fl G se nu (j - f) else if j < f + 26 then nI 0 else if j < f + 27 then by8 (nI L) else if j < f + 27 + L then laB size (j - f - 27) else t (j - 27 - L)
def pgC (t : Nat → Int32) (f size L : Nat) (fl : Int32) (G : Int64) (se nu : Int32) : Int32 := crcF (pgU t f size L fl G se nu) f (size + 27 + L)
def pgT (t : Nat → Int32) (f size L : Nat) (fl : Int32) (G : Int64) (se nu : Int32) (j : Nat) : Int32 := if f + 22 ≤ j ∧ j < f + 26 then by8 (su (pgC t f size L fl G se nu) (8 * (j - (f + 22)))) else pgU t f size L fl G se nu j
def pgLc (size : Nat) (op : Int32) : Nat := size / 255 + (if op = 0 then 1 else 0)
def pgK (n f : Nat) (op : Int32) : Prop := f ≤ n ∧ (¬ op = 0 → (n - f) % 255 = 0) ∧ pgLc (n - f) op ≤ 255 ∧ n + 27 + pgLc (n - f) op ≤ 6000
noncomputable def pgR (A : AS) (v op : Int32) : Int32 := by
  classical
  exact if ¬ v < 0 ∧ pgK A.1 v.toNatClampNeg op then nI (A.1 + 27 + pgLc (A.1 - v.toNatClampNeg) op) else -1
noncomputable def pgA (A : AS) (v fl : Int32) (G : Int64) (se nu op : Int32) : AS := by
  classical
  exact if ¬ v < 0 ∧ pgK A.1 v.toNatClampNeg op then (A.1 + 27 + pgLc (A.1 - v.toNatClampNeg) op, pgT A.2.1 v.toNatClampNeg (A.1 - v.toNatClampNeg) (pgLc (A.1 - v.toNatClampNeg) op) fl G se nu, A.2.2) else A
theorem pg_n {A : AS} {v fl : Int32} {G : Int64} {se nu op : Int32} (h : ¬ (¬ v < 0 ∧ pgK A.1 v.toNatClampNeg op)) : pgR A v op = -1 ∧ pgA A v fl G se nu op = A := by
  unfold pgR pgA
  simp only [if_neg h, and_self]
theorem pg_y {A : AS} {f : Nat} {fl : Int32} {G : Int64} {se nu op : Int32} (hf : f < 2 ^ 31) (h : pgK A.1 f op) : pgR A (nI f) op = nI (A.1 + 27 + pgLc (A.1 - f) op) ∧ pgA A (nI f) fl G se nu op = (A.1 + 27 + pgLc (A.1 - f) op, pgT A.2.1 f (A.1 - f) (pgLc (A.1 - f) op) fl G se nu, A.2.2) := by
  have h' : ¬ nI f < 0 ∧ pgK A.1 (nI f).toNatClampNeg op := ⟨n0 hf, by rw [cl hf]; exact h⟩
  unfold pgR pgA
  simp only [if_pos h', cl hf, and_self]
theorem pgT_fit {t : Nat → Int32} {f n L : Nat} {fl : Int32} {G : Int64} {se nu : Int32} (ht : ∀ j, j < n → fits .byte (.int (t j)) = true) (hf : f ≤ n) : ∀ j, j < n + 27 + L → fits .byte (.int (pgT t f (n - f) L fl G se nu j)) = true := by
  intro j hj
  unfold pgT pgU
  by_cases h1 : f + 22 ≤ j ∧ j < f + 26
  · rw [if_pos h1]; exact by8_fit _
  · rw [if_neg h1]
    by_cases h2 : j < f
    · rw [if_pos h2]; exact ht j (by omega)
    · rw [if_neg h2]
      by_cases h3 : j < f + 22
      · rw [if_pos h3]
        unfold hdB
        split
        · exact by8_fit _
        · split
          · exact by8_fit _
          · split
            · exact by8_fit _
            · split
              · exact by8_fit _
              · split <;> exact by8_fit _
      · rw [if_neg h3, if_neg (by omega)]
        by_cases h4 : j < f + 27
        · rw [if_pos h4]; exact by8_fit _
        · rw [if_neg h4]
          by_cases h5 : j < f + 27 + L
          · rw [if_pos h5]; exact by8_fit _
          · rw [if_neg h5]; exact ht _ (by omega)
-- the class
theorem c_openGap {b : Bool} {μ : xm_M} {n f g : Nat} (hn : μ.1 1 1 = nI n) (hf : f ≤ n) (hg : n + g ≤ 6000) (hF : ∀ j, fits .byte (.int (μ.1 2 j)) = true) : xCv b b k_X6_openGap μ [.ref 1, .int (nI f), .int (nI g)] (fun m => fm [1, 2] μ m ∧ m.1 1 1 = nI (n + g) ∧ ∀ j, m.1 2 j = if f + g ≤ j ∧ j < n + g then μ.1 2 (j - g) else μ.1 2 j) := by
  apply g_X6_openGap
  rw [hn, pk_sub hf, nI_add, nI_add]
  intro x1 e1
  rw [e1]
  refine ⟨fun c => absurd c (n0 (by omega)), fun _ => ⟨fun c => absurd c (n0 (by omega)), fun _ => ⟨fun c => absurd c (n0 (by omega)), fun _ => pk_le (n + g) 6000 (fun _ => ⟨⟨n0 (by omega), n0 (by omega), n0 (by omega), ?_, ?_, fun i _ => hF _⟩, fun m6 e6 m8 e8 => ?_⟩) (fun c => by omega)⟩⟩⟩
  · rw [cl (by omega), cl (by omega)]; omega
  · rw [cl (by omega), cl (by omega)]; omega
  · rw [cl (by omega), cl (by omega), cl (by omega)] at e6
    have h61 : m6.1 1 1 = nI n := by rw [e6, ri_n (by decide)]; exact hn
    rw [h61, nI_add] at e8
    refine ⟨by rw [e8, e6]; exact (fm.rf.I (by decide)).I (by decide), by rw [e8, ri_e, upd_e], fun j => ?_⟩
    rw [e8, ri_n (by decide), e6, ri_e]
    by_cases hj : f + g ≤ j ∧ j < n + g
    · rw [if_pos hj, pk_cpy_in hj.1 (by omega), show f + (j - (f + g)) = j - g by omega]
    · rw [if_neg hj, pk_cpy_out (by omega)]
theorem c_writeHead {b : Bool} {μ : xm_M} {f : Nat} (fl : Int32) (G : Int64) (se nu : Int32) (h6 : f + 26 ≤ 6000) : xCv b b k_X6_writeHead μ [.ref 1, .int (nI f), .int fl, .long G, .int se, .int nu] (fun m => ∃ F, m = xu_I μ 2 F ∧ ∀ j, F j = if f ≤ j ∧ j < f + 22 then hdB fl G se nu (j - f) else if f + 22 ≤ j ∧ j < f + 26 then by8 (su (nI 0) (8 * (j - (f + 22)))) else μ.1 2 j) := by
  apply g_X6_writeHead
  rw [nI_add f 1, nI_add f 2, nI_add f 3, nI_add f 4, nI_add f 5, nI_add f 6, nI_add (f + 6) 4, nI_add f 14, nI_add f 18, nI_add f 22]
  refine ⟨_, c_setByte f _ (by omega), fun m2 e2 => ⟨_, c_setByte (f + 1) _ (by omega), fun m6 e6 => ⟨_, c_setByte (f + 2) _ (by omega), fun m10 e10 => ⟨_, c_setByte (f + 3) _ (by omega), fun m14 e14 => ⟨_, c_setByte (f + 4) _ (by omega), fun m18 e18 => ⟨_, c_setByte (f + 5) _ (by omega), fun m22 e22 => ?_⟩⟩⟩⟩⟩⟩
  refine ⟨_, c_writeFour (f + 6) _ (by omega), ?_⟩
  rintro m26 ⟨F1, e26, h1⟩
  refine ⟨_, c_writeFour (f + 6 + 4) _ (by omega), ?_⟩
  rintro m30 ⟨F2, e30, h2⟩
  refine ⟨_, c_writeFour (f + 14) _ (by omega), ?_⟩
  rintro m34 ⟨F3, e34, h3⟩
  refine ⟨_, c_writeFour (f + 18) _ (by omega), ?_⟩
  rintro m38 ⟨F4, e38, h4⟩
  refine ⟨_, c_writeFour (f + 22) _ (by omega), ?_⟩
  rintro m42 ⟨F5, e42, h5⟩
  refine ⟨F5, by rw [e42, e38, e34, e30, e26, e22, e18, e14, e10, e6, e2]; simp only [xu_II], fun j => ?_⟩
  have d22 : m22.1 2 = upd (upd (upd (upd (upd (upd (μ.1 2) f (by8 (nI 79))) (f + 1) (by8 (nI 103))) (f + 2) (by8 (nI 103))) (f + 3) (by8 (nI 83))) (f + 4) (by8 (nI 0))) (f + 5) (by8 fl) := by
    rw [e22, ri_e, e18, ri_e, e14, ri_e, e10, ri_e, e6, ri_e, e2, ri_e]
  rw [h5 j]
  by_cases c5 : f + 22 ≤ j ∧ j < f + 22 + 4
  · rw [if_pos c5, if_neg (by omega), if_pos (by omega)]
  · rw [if_neg c5, e38, ri_e, h4 j]
    by_cases c4 : f + 18 ≤ j ∧ j < f + 18 + 4
    · rw [if_pos c4, if_pos (by omega)]
      unfold hdB
      rw [if_neg (by omega), if_neg (by omega), if_neg (by omega), if_neg (by omega), if_neg (by omega), show j - f - 18 = j - (f + 18) by omega]
    · rw [if_neg c4, e34, ri_e, h3 j]
      by_cases c3 : f + 14 ≤ j ∧ j < f + 14 + 4
      · rw [if_pos c3, if_pos (by omega)]
        unfold hdB
        rw [if_neg (by omega), if_neg (by omega), if_neg (by omega), if_neg (by omega), if_pos (by omega), show j - f - 14 = j - (f + 14) by omega]
      · rw [if_neg c3, e30, ri_e, h2 j]
        by_cases c2 : f + 6 + 4 ≤ j ∧ j < f + 6 + 4 + 4
        · rw [if_pos c2, if_pos (by omega)]
          unfold hdB
          rw [if_neg (by omega), if_neg (by omega), if_neg (by omega), if_pos (by omega), show j - f - 10 = j - (f + 6 + 4) by omega]
          rfl
        · rw [if_neg c2, e26, ri_e, h1 j]
          by_cases c1 : f + 6 ≤ j ∧ j < f + 6 + 4
          · rw [if_pos c1, if_pos (by omega)]
            unfold hdB
            rw [if_neg (by omega), if_neg (by omega), if_pos (by omega), show j - f - 6 = j - (f + 6) by omega]
          · rw [if_neg c1, d22]
            by_cases q5 : j = f + 5
            · rw [q5, upd_e, if_pos (by omega), show f + 5 - f = 5 by omega]
              rfl
            · rw [upd_n q5]
              by_cases q4 : j = f + 4
              · rw [q4, upd_e, if_pos (by omega), show f + 4 - f = 4 by omega]
                rfl
              · rw [upd_n q4]
                by_cases q3 : j = f + 3
                · rw [q3, upd_e, if_pos (by omega), show f + 3 - f = 3 by omega]
                  rfl
                · rw [upd_n q3]
                  by_cases q2 : j = f + 2
                  · rw [q2, upd_e, if_pos (by omega), show f + 2 - f = 2 by omega]
                    rfl
                  · rw [upd_n q2]
                    by_cases q1 : j = f + 1
                    · rw [q1, upd_e, if_pos (by omega), show f + 1 - f = 1 by omega]
                      rfl
                    · rw [upd_n q1]
                      by_cases q0 : j = f
                      · rw [q0, upd_e, if_pos (by omega), show f - f = 0 by omega]
                        rfl
                      · rw [upd_n q0, if_neg (by omega), if_neg (by omega)]
theorem c_writeLaces {b : Bool} {μ : xm_M} {f L : Nat} (last : Int32) (hL : L ≤ 255) (h6 : f + 27 + L ≤ 6000) : xCv b b k_X6_writeLaces μ [.ref 1, .int (nI f), .int (nI L), .int last] (fun m => ∃ F, m = xu_I μ 2 F ∧ ∀ j, F j = if j = f + 26 then by8 (nI L) else if f + 27 ≤ j ∧ j < f + 27 + L then by8 (if j - f - 27 + 1 = L then last else nI 255) else μ.1 2 j) := by
  have loop : ∀ (d i : Nat) (F : Nat → Int32), i + d = L → (∀ j, F j = if j = f + 26 then by8 (nI L) else if f + 27 ≤ j ∧ j < f + 27 + i then by8 (if j - f - 27 + 1 = L then last else nI 255) else μ.1 2 j) → hd_X6_writeLaces_12 b (fun m => ∃ F, m = xu_I μ 2 F ∧ ∀ j, F j = if j = f + 26 then by8 (nI L) else if f + 27 ≤ j ∧ j < f + 27 + L then by8 (if j - f - 27 + 1 = L then last else nI 255) else μ.1 2 j) (nI f) (nI L) last (nI i) (xu_I μ 2 F) := by
    intro d
    induction d with
    | zero =>
      intro i F hi hF
      have : i = L := by omega
      subst this
      apply l_X6_writeLaces_12
      exact pk_le i i (fun _ => ⟨F, rfl, hF⟩) (fun c => by omega)
    | succ d ih =>
      intro i F hi hF
      have go : ∀ (v : Int32), v = (if i + 1 = L then last else nI 255) → ∃ Q3 : xm_M → Prop, xCv b b k_X6_setByte (xu_I μ 2 F) [.ref 1, .int ((nI f + nI 27) + nI i), .int v] Q3 ∧ ∀ m4 : xm_M, Q3 m4 → ∀ x7 : Int32, x7 = nI i + nI 1 → hd_X6_writeLaces_12 b (fun m => ∃ F, m = xu_I μ 2 F ∧ ∀ j, F j = if j = f + 26 then by8 (nI L) else if f + 27 ≤ j ∧ j < f + 27 + L then by8 (if j - f - 27 + 1 = L then last else nI 255) else μ.1 2 j) (nI f) (nI L) last x7 m4 := by
        intro v hv
        rw [nI_add, nI_add]
        refine ⟨_, c_setByte (f + 27 + i) v (by omega), fun m4 e4 x7 e7 => ?_⟩
        rw [xu_II, ri_e] at e4
        rw [e7, nI_add, e4]
        refine ih (i + 1) _ (by omega) (fun j => ?_)
        by_cases hj : j = f + 27 + i
        · rw [hj, upd_e, if_neg (by omega), if_pos (by omega), show f + 27 + i - f - 27 + 1 = i + 1 by omega, hv]
        · rw [upd_n hj, hF j]
          by_cases h26 : j = f + 26
          · rw [if_pos h26, if_pos h26]
          · rw [if_neg h26, if_neg h26]
            by_cases h27 : f + 27 ≤ j ∧ j < f + 27 + i
            · rw [if_pos h27, if_pos (show f + 27 ≤ j ∧ j < f + 27 + (i + 1) by omega)]
            · rw [if_neg h27, if_neg (show ¬ (f + 27 ≤ j ∧ j < f + 27 + (i + 1)) by omega)]
      apply l_X6_writeLaces_12
      rw [pk_sub (show 1 ≤ L by omega)]
      refine pk_le L i (fun c => by omega) (fun _ => ⟨fun c => go _ ?_, fun c => go _ ?_⟩)
      · rw [if_neg]
        intro h
        exact c (by rw [show i = L - 1 by omega])
      · rw [if_pos]
        have := nI_inj (by omega) (by omega) c
        omega
  refine g_X6_writeLaces _ _ _ ⟨_, by rw [nI_add]; exact c_setByte (f + 26) _ (by omega), fun m2 e2 => ?_⟩
  rw [e2]
  refine loop L 0 _ (by omega) (fun j => ?_)
  by_cases hj : j = f + 26
  · rw [hj, upd_e, if_pos rfl]
  · rw [upd_n hj, if_neg hj, if_neg (by omega)]
theorem lace_eq {size L i : Nat} {op : Int32} (hL : L = pgLc size op) (hop : ¬ op = 0 → size % 255 = 0) (hi : i < L) : (if i + 1 = L then (if op = 0 then nI (size % 255) else nI 255) else nI 255) = nI (if 255 * (i + 1) ≤ size then 255 else size % 255) := by
  unfold pgLc at hL
  by_cases h0 : op = 0
  · rw [if_pos h0] at hL
    rw [if_pos h0]
    by_cases h1 : i + 1 = L
    · rw [if_pos h1, if_neg (by omega)]
    · rw [if_neg h1, if_pos (by omega)]
  · rw [if_neg h0] at hL
    have := hop h0
    rw [if_neg h0]
    rw [if_pos (show 255 * (i + 1) ≤ size by omega)]
    split <;> rfl
theorem c_page {b : Bool} {μ : xm_M} {A : AS} (v fl : Int32) (G : Int64) (se nu op : Int32) (h : cA μ A) : xCi b b k_X8_page μ [.ref 0, .int v, .int fl, .long G, .int se, .int nu, .int op] (fun r m => r = pgR A v op ∧ cA m (pgA A v fl G se nu op) ∧ upK μ m) := by
  generalize hQ : (fun (r : Int32) (m : xm_M) => r = pgR A v op ∧ cA m (pgA A v fl G se nu op) ∧ upK μ m) = Q
  obtain ⟨t1, t2, t3, t4⟩ := h.1
  have no : ¬ (¬ v < 0 ∧ pgK A.1 v.toNatClampNeg op) → Q (-1) μ := by
    intro hn
    obtain ⟨p1, p2⟩ := pg_n (fl := fl) (G := G) (se := se) (nu := nu) hn
    rw [← hQ]
    exact ⟨p1.symm, by rw [p2]; exact h, fun c hc => ⟨rfl, rfl⟩⟩
  apply g_X8_page
  rw [t1]
  refine ⟨fun c => no (fun hn => hn.1 c), fun c => ?_⟩
  obtain ⟨f, hf, rfl⟩ := nI_of c
  rw [cl hf] at no
  refine pk_le f A.1 (fun c1 => ?_) (fun c1 => no (fun hn => by have := hn.2.1; omega))
  intro x3 e3 x4 e4
  rw [pk_sub c1] at e3
  rw [e3, pk_rem (by omega) (by decide) (by decide)] at e4
  rw [e3, e4]
  generalize hsz : A.1 - f = size at *
  -- the page itself
  have main : ∀ L : Nat, L = pgLc size op → (¬ op = 0 → size % 255 = 0) → ((nI 255 < nI L → Q (-1) μ) ∧ (¬ nI 255 < nI L → (((nI A.1 + nI 27 + nI L) ≤ nI 6000 →
         ∃ Q5 : xm_M → Prop, xCv b b k_X6_openGap μ [.ref 1, .int (nI f), .int ((nI 27) + nI L)] Q5 ∧
         ∀ m6 : xm_M, Q5 m6 →
         ∃ Q9 : xm_M → Prop, xCv b b k_X6_writeHead m6 [.ref 1, .int (nI f), .int fl, .long G, .int se, .int nu] Q9 ∧
         ∀ m10 : xm_M, Q9 m10 →
         ((op = 0 →
          ∃ Q14 : xm_M → Prop, xCv b b k_X6_writeLaces m10 [.ref 1, .int (nI f), .int (nI L), .int (nI (size % 255))] Q14 ∧
          ∀ m15 : xm_M, Q14 m15 →
          ∃ Q18 : Int32 → xm_M → Prop, xCi b b k_X6_crc m15 [.ref 1, .int (nI f), .int (m15.1 1 1)] Q18 ∧
          ∀ (r20 : Int32) (m19 : xm_M), Q18 r20 m19 →
          ∃ Q22 : xm_M → Prop, xCv b b k_X6_writeFour m19 [.ref 1, .int (nI f + (nI 22)), .int r20] Q22 ∧
          ∀ m23 : xm_M, Q22 m23 →
          Q (m23.1 1 1) m23) ∧
         (¬ op = 0 →
          ∃ Q26 : xm_M → Prop, xCv b b k_X6_writeLaces m10 [.ref 1, .int (nI f), .int (nI L), .int (nI 255)] Q26 ∧
          ∀ m27 : xm_M, Q26 m27 →
          ∃ Q30 : Int32 → xm_M → Prop, xCi b b k_X6_crc m27 [.ref 1, .int (nI f), .int (m27.1 1 1)] Q30 ∧
          ∀ (r32 : Int32) (m31 : xm_M), Q30 r32 m31 →
          ∃ Q34 : xm_M → Prop, xCv b b k_X6_writeFour m31 [.ref 1, .int (nI f + (nI 22)), .int r32] Q34 ∧
          ∀ m35 : xm_M, Q34 m35 →
          Q (m35.1 1 1) m35))) ∧
        (¬ (nI A.1 + nI 27 + nI L) ≤ nI 6000 →
         Q (-1) μ)))) := by
    intro L hL hop
    have hLb : L ≤ size / 255 + 1 := by
      rw [hL]; unfold pgLc; split <;> omega
    refine pk_lt 255 L (fun c2 => no (fun hn => by have := hn.2.2.2.1; rw [hsz, ← hL] at this; omega)) (fun c2 => ?_)
    rw [nI_add, nI_add]
    refine pk_le (A.1 + 27 + L) 6000 (fun c3 => ?_) (fun c3 => no (fun hn => by have := hn.2.2.2.2; rw [hsz, ← hL] at this; omega))
    have hok : pgK A.1 f op := ⟨c1, by rw [hsz]; exact hop, by rw [hsz, ← hL]; exact c2, by rw [hsz, ← hL]; exact c3⟩
    obtain ⟨y1, y2⟩ := pg_y (fl := fl) (G := G) (se := se) (nu := nu) hf hok
    rw [hsz, ← hL] at y1 y2
    rw [nI_add]
    refine ⟨_, c_openGap (g := 27 + L) t1 c1 (by omega) t4, ?_⟩
    rintro m6 ⟨f6, n6, b6⟩
    refine ⟨_, c_writeHead fl G se nu (by omega), ?_⟩
    rintro m10 ⟨F10, e10, b10⟩
    have n10 : m10.1 1 1 = nI (A.1 + (27 + L)) := by rw [e10, ri_n (by decide)]; exact n6
    have laces : ∀ last : Int32, last = (if op = 0 then nI (size % 255) else nI 255) → ∃ Q14 : xm_M → Prop, xCv b b k_X6_writeLaces m10 [.ref 1, .int (nI f), .int (nI L), .int last] Q14 ∧
          ∀ m15 : xm_M, Q14 m15 →
          ∃ Q18 : Int32 → xm_M → Prop, xCi b b k_X6_crc m15 [.ref 1, .int (nI f), .int (m15.1 1 1)] Q18 ∧
          ∀ (r20 : Int32) (m19 : xm_M), Q18 r20 m19 →
          ∃ Q22 : xm_M → Prop, xCv b b k_X6_writeFour m19 [.ref 1, .int (nI f + (nI 22)), .int r20] Q22 ∧
          ∀ m23 : xm_M, Q22 m23 →
          Q (m23.1 1 1) m23 := by
      intro last hlast
      refine ⟨_, c_writeLaces last c2 (by omega), ?_⟩
      rintro m15 ⟨F15, e15, b15⟩
      have n15 : m15.1 1 1 = nI (f + (size + 27 + L)) := by
        rw [e15, ri_n (by decide), n10]
        congr 1
        omega
      rw [n15, nI_add]
      refine ⟨_, c_crc (t := m15.1 2) f (size + 27 + L) (by omega) (by omega) (fun j _ _ => rfl), ?_⟩
      rintro r20 m19 ⟨e20, rfl⟩
      refine ⟨_, c_writeFour (f + 22) r20 (by omega), ?_⟩
      rintro m23 ⟨F23, e23, b23⟩
      -- the bytes ahead of the check
      have key : ∀ j, j < A.1 + 27 + L → ¬ (f + 22 ≤ j ∧ j < f + 26) → m19.1 2 j = pgU A.2.1 f size L fl G se nu j := by
        intro j hj hc
        rw [e15, ri_e, b15 j]
        unfold pgU
        by_cases j1 : j < f
        · rw [if_neg (by omega), if_neg (by omega), if_pos j1, e10, ri_e, b10 j, if_neg (by omega), if_neg (by omega), b6 j, if_neg (by omega)]
          exact t3 j (by omega)
        · rw [if_neg j1]
          by_cases j2 : j < f + 22
          · rw [if_neg (by omega), if_neg (by omega), if_pos j2, e10, ri_e, b10 j, if_pos (by omega)]
          · rw [if_neg j2, if_neg (show ¬ j < f + 26 by omega)]
            by_cases j3 : j < f + 27
            · rw [if_pos (show j = f + 26 by omega), if_pos j3]
            · rw [if_neg (show ¬ j = f + 26 by omega), if_neg j3]
              by_cases j4 : j < f + 27 + L
              · rw [if_pos (show f + 27 ≤ j ∧ j < f + 27 + L by omega), if_pos j4]
                unfold laB
                rw [hlast, lace_eq hL hop (by omega)]
              · rw [if_neg (show ¬ (f + 27 ≤ j ∧ j < f + 27 + L) by omega), if_neg j4, e10, ri_e, b10 j, if_neg (by omega), if_neg (by omega), b6 j, if_pos (by omega), show j - (27 + L) = j - 27 - L by omega]
                exact t3 _ (by omega)
      have hcr : r20 = pgC A.2.1 f size L fl G se nu := by
        rw [e20]
        unfold pgC
        exact crcF_congr2 (fun j hj hc => key (f + j) (by omega) (by omega)) _ (Nat.le_refl _)
      have hbyte : ∀ j, j < A.1 + 27 + L → m23.1 2 j = pgT A.2.1 f size L fl G se nu j := by
        intro j hj
        rw [e23, ri_e, b23 j]
        unfold pgT
        by_cases hc : f + 22 ≤ j ∧ j < f + 26
        · rw [if_pos (by omega), if_pos hc, hcr]
        · rw [if_neg (by omega), if_neg hc]
          exact key j hj hc
      have n23 : m23.1 1 1 = nI (A.1 + 27 + L) := by
        rw [e23, ri_n (by decide), n15]
        congr 1
        omega
      have hfit : ∀ j, fits .byte (.int (m23.1 2 j)) = true := by
        intro j
        by_cases hj : j < A.1 + 27 + L
        · rw [hbyte j hj, ← hsz]
          exact pgT_fit (fun i hi => by rw [← t3 i hi]; exact t4 i) c1 j hj
        · rw [e23, ri_e, b23 j, if_neg (by omega), e15, ri_e, b15 j, if_neg (by omega), if_neg (by omega), e10, ri_e, b10 j, if_neg (by omega), if_neg (by omega), b6 j, if_neg (by omega)]
          exact t4 j
      have hfm : fm [1, 2] μ m23 := by
        rw [e23, e15, e10]
        exact ((f6.I (by decide)).I (by decide)).I (by decide)
      rw [← hQ]
      refine ⟨by rw [n23, y1], ?_, hfm.up (by decide)⟩
      rw [y2]
      exact h.tape hfm n23 c3 hbyte hfit
    refine ⟨fun c4 => laces _ (by rw [if_pos c4]), fun c4 => laces _ (by rw [if_neg c4])⟩
  have e48 : (¬ op = 0 → size % 255 = 0) → hd_X8_page_48 b Q (nI f) fl G se nu op (nI size) (nI (size % 255)) μ := by
    intro hop
    apply l_X8_page_48
    rw [t1, pk_div (show size < 2 ^ 31 by omega) (by decide) (by decide), nI_add (size / 255) 1, nI_add (size / 255) 0]
    refine ⟨fun c2 x2 e2 => ?_, fun c2 x38 e38 => ?_⟩
    · rw [e2]
      exact main (size / 255 + 1) (by unfold pgLc; rw [if_pos c2]) hop
    · rw [e38]
      exact main (size / 255 + 0) (by unfold pgLc; rw [if_neg c2]) hop
  refine ⟨fun c2 => e48 (fun h0 => absurd c2 h0), fun c2 => ⟨fun c3 => e48 (fun _ => ?_), fun c3 => no (fun hn => ?_)⟩⟩
  · exact (neq0 (Nat.lt_of_lt_of_le (Nat.mod_lt _ (by decide)) (by decide))).mp c3
  · have := hn.2.2.1 c2
    rw [hsz] at this
    exact c3 (by rw [this]; exact nI_0)
