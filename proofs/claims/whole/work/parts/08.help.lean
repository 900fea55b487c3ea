theorem xs_opened {b : Bool} {μ m : xm_M} (hR : xs_RT b μ) (e : m = xu_R μ 7 (va_up (μ.2.2 7) 0 (some 2))) : xs_RT true m := by
  subst e
  refine ⟨fun q hq => ?_, fun _ => by simp [xu_R, va_up]⟩
  have hne : q.1 ≠ 7 := (by decide : ∀ q ∈ xs_rts, q.1 ≠ 7) q hq
  have h := hR.1 q hq
  simpa [xu_R, va_up, hne] using h
theorem xs_pickbk {b : Bool} {μ : xm_M} {i : Int32} (hR : xs_RT b μ) (h : vp_in i 8) : ∃ B, xs_bk B ∧ B = 16 + 5 * i.toNatClampNeg ∧ μ.2.2 15 i.toNatClampNeg = some B := by
  have hlt : i.toNatClampNeg < 8 := Nat.not_le.mp fun q => h (Or.inr q)
  exact ⟨_, ⟨_, hlt, rfl⟩, rfl, rt_books hR hlt⟩
theorem xs_pickvo {b : Bool} {μ : xm_M} {i : Int32} (hR : xs_RT b μ) (h : vp_in i 2) : ∃ V, xs_vo V ∧ V = 65 + 5 * i.toNatClampNeg ∧ μ.2.2 64 i.toNatClampNeg = some V := by
  have hlt : i.toNatClampNeg < 2 := Nat.not_le.mp fun q => h (Or.inr q)
  refine ⟨_, ?_, rfl, rt_voices hR hlt⟩
  rcases (by omega : i.toNatClampNeg = 0 ∨ i.toNatClampNeg = 1) with e | e <;> rw [e]
  · exact Or.inl rfl
  · exact Or.inr rfl
def xs_tq (k : Nat) : String × String × List Int32 := xm_stat.getD k ("", "", [])
abbrev xs_tab (k : Nat) : List Int32 := (xs_tq k).2.2
theorem xs_sw_eq {x : Int32} (j : Int) (h : x.toInt = j) : x = Int32.ofInt j := by rw [← h]; simp
theorem xs_sw7 {x : Int32} {G : Prop} (h0 : x = 0 → G) (h1 : x = 1 → G) (h2 : x = 2 → G) (h3 : x = 3 → G) (h4 : x = 4 → G) (h5 : x = 5 → G) (h6 : x = 6 → G) (h7 : x = 7 → G) (hd : (x.toInt < 0 ∨ 7 < x.toInt) → G) : G := by
  by_cases hc : x.toInt < 0 ∨ 7 < x.toInt
  · exact hd hc
  · rcases (by omega : x.toInt = 0 ∨ x.toInt = 1 ∨ x.toInt = 2 ∨ x.toInt = 3 ∨ x.toInt = 4 ∨ x.toInt = 5 ∨ x.toInt = 6 ∨ x.toInt = 7) with e | e | e | e | e | e | e | e
    · exact h0 (xs_sw_eq _ e)
    · exact h1 (xs_sw_eq _ e)
    · exact h2 (xs_sw_eq _ e)
    · exact h3 (xs_sw_eq _ e)
    · exact h4 (xs_sw_eq _ e)
    · exact h5 (xs_sw_eq _ e)
    · exact h6 (xs_sw_eq _ e)
    · exact h7 (xs_sw_eq _ e)
theorem xs_mmaxL {κ : xm_Meth} {E : Option (Nat × (Nat → Int32))} {fz : Bool} {P : Option Value → xm_Sh → xm_M → Prop} {pc : Nat} {L : List (Option Value)} {S : List Value} {sh : xm_Sh} {al : Nat × Nat} {μ : xm_M} {idx : Nat} {x y : Int64} (hd : decode κ.2.1 pc = .ok (.invokestatic idx, 3)) (hw : Cond.methodLink κ.1.cls idx yJ9_max_f86c9 ∈ xm_tbl ∧ Cond.static yJ9_max_f86c9 ∈ xm_tbl ∧ Cond.initialized "java/lang/Math" ∈ xm_tbl ∧ Cond.code yJ9_max_f86c9 cJ9_max_f86c9 4 (some .long) ∈ xm_tbl) (hfr : 1 ≤ κ.2.2.2.2.frames) (hlo : (S.map fun v => v.category).sum + 15 ≤ κ.2.2.2.2.locals) (kk : xR κ E fz P (pc + 3) L (.long (if y < x then x else y) :: S) sh al μ) : xR κ E fz P pc L (.long y :: .long x :: S) sh al μ := by
  intro p l e s m args below meth c0 Z A D aC ad H locs ls hc hA hst hl ha hret
  exact va_mmax_long hc.1 hc.2.1 (hc.2.2.1.trans hl.1.symm) hc.2.2.2.1 (hc.2.2.2.2.1 _ hw.1) (hc.2.2.2.2.1 _ hw.2.1) (hc.2.2.2.2.1 _ hw.2.2.1) (hc.2.2.2.2.1 _ hw.2.2.2) hfr (by rw [xv_cats]; exact hlo) ha.1 ha.2 hd (kk p l e s m args below meth c0 Z A D aC ad H locs ls hc hA hst hl ha hret)
theorem xs_mminL {κ : xm_Meth} {E : Option (Nat × (Nat → Int32))} {fz : Bool} {P : Option Value → xm_Sh → xm_M → Prop} {pc : Nat} {L : List (Option Value)} {S : List Value} {sh : xm_Sh} {al : Nat × Nat} {μ : xm_M} {idx : Nat} {x y : Int64} (hd : decode κ.2.1 pc = .ok (.invokestatic idx, 3)) (hw : Cond.methodLink κ.1.cls idx yJ9_min_f86c9 ∈ xm_tbl ∧ Cond.static yJ9_min_f86c9 ∈ xm_tbl ∧ Cond.initialized "java/lang/Math" ∈ xm_tbl ∧ Cond.code yJ9_min_f86c9 cJ9_min_f86c9 4 (some .long) ∈ xm_tbl) (hfr : 1 ≤ κ.2.2.2.2.frames) (hlo : (S.map fun v => v.category).sum + 15 ≤ κ.2.2.2.2.locals) (kk : xR κ E fz P (pc + 3) L (.long (if y < x then y else x) :: S) sh al μ) : xR κ E fz P pc L (.long y :: .long x :: S) sh al μ := by
  intro p l e s m args below meth c0 Z A D aC ad H locs ls hc hA hst hl ha hret
  exact va_mmin_long hc.1 hc.2.1 (hc.2.2.1.trans hl.1.symm) hc.2.2.2.1 (hc.2.2.2.2.1 _ hw.1) (hc.2.2.2.2.1 _ hw.2.1) (hc.2.2.2.2.1 _ hw.2.2.1) (hc.2.2.2.2.1 _ hw.2.2.2) hfr (by rw [xv_cats]; exact hlo) ha.1 ha.2 hd (kk p l e s m args below meth c0 Z A D aC ad H locs ls hc hA hst hl ha hret)
