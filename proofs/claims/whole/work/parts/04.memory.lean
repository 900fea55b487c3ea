
def xm_CK (ci : Nat) (C : String) (T : u_T) (N : Nat) : Prop := vwCl[ci]? = some (C, T, N) ∧ (∀ w ∈ u_ws C T N, w ∈ xm_tbl) ∧ (∀ k, k < N → parseFieldDescriptor (T k).2.2.1 = some (xm_ty ci k)) ∧ (∀ a, a < N → ∀ b, b < N → a ≠ b → (T a).2.1 ≠ (T b).2.1)
def xm_fld (own : String) (idx ci k : Nat) : Prop := ∃ (C : String) (T : u_T) (N : Nat), xm_CK ci C T N ∧ k < N ∧ Cond.fieldLink own idx (T k).1 (T k).2.1 (T k).2.2.1 ∈ xm_tbl
def xm_fldP (own : String) (idx ci k : Nat) : Prop := ∃ (C : String) (T : u_T) (N : Nat), xm_CK ci C T N ∧ k < N ∧ Cond.fieldLink own idx (T k).1 (T k).2.1 (T k).2.2.1 ∈ xm_tbl ∧ (T k).2.2.2 = false
def xm_fldF (own : String) (idx ci k : Nat) : Prop := ∃ (C : String) (T : u_T) (N : Nat), xm_CK ci C T N ∧ k < N ∧ Cond.fieldLink own idx (T k).1 (T k).2.1 (T k).2.2.1 ∈ xm_tbl ∧ (T k).2.2.2 = true ∧ (T k).1 = own
theorem xm_fldP.g {own : String} {idx ci k : Nat} (h : xm_fldP own idx ci k) : xm_fld own idx ci k := by
  obtain ⟨C, T, N, h1, h2, h3, -⟩ := h
  exact ⟨C, T, N, h1, h2, h3⟩
theorem xm_fldF.g {own : String} {idx ci k : Nat} (h : xm_fldF own idx ci k) : xm_fld own idx ci k := by
  obtain ⟨C, T, N, h1, h2, h3, -⟩ := h
  exact ⟨C, T, N, h1, h2, h3⟩
def xm_kd : FieldType → Nat
  | .long => 1
  | .object _ => 2
  | .array _ => 2
  | _ => 0
theorem xm_val_0 {ad : Nat → Nat} {μ : xm_M} {c k : Nat} {ty : FieldType} (h : xm_kd ty = 0) : xm_val ad μ c k ty = .int (μ.1 c k) := by cases ty <;> first | rfl | cases h
theorem xm_val_1 {ad : Nat → Nat} {μ : xm_M} {c k : Nat} {ty : FieldType} (h : xm_kd ty = 1) : xm_val ad μ c k ty = .long (μ.2.1 c k) := by cases ty <;> first | rfl | cases h
theorem xm_val_2 {ad : Nat → Nat} {μ : xm_M} {c k : Nat} {ty : FieldType} (h : xm_kd ty = 2) : xm_val ad μ c k ty = va_rf ((μ.2.2 c k).map ad) := by cases ty <;> first | rfl | cases h
def xm_fs (ad : Nat → Nat) (μ : xm_M) (c ci : Nat) : List Value := (List.range (xm_nf ci)).map (fun k => xm_val ad μ c k (xm_ty ci k))
theorem xm_fs_get {ad : Nat → Nat} {μ : xm_M} {c ci k : Nat} {C : String} {T : u_T} {N : Nat} (h : vwCl[ci]? = some (C, T, N)) (hk : k < N) : (xm_fs ad μ c ci)[k]? = some (xm_val ad μ c k (xm_ty ci k)) := by
  have e : xm_nf ci = N := by unfold xm_nf; rw [h]
  simp [xm_fs, e, hk]
theorem xm_fs_len {ad : Nat → Nat} {μ : xm_M} {c ci k : Nat} {C : String} {T : u_T} {N : Nat} (h : vwCl[ci]? = some (C, T, N)) (hk : k < N) : k < (xm_fs ad μ c ci).length := by
  have e : xm_nf ci = N := by unfold xm_nf; rw [h]
  simp [xm_fs, e, hk]
theorem xm_fs_set {ad : Nat → Nat} {μ μ' : xm_M} {c ci k : Nat} {v : Value} (hv : xm_val ad μ' c k (xm_ty ci k) = v) (hne : ∀ j, j ≠ k → xm_val ad μ' c j (xm_ty ci j) = xm_val ad μ c j (xm_ty ci j)) (hl : k < (xm_fs ad μ c ci).length) : (xm_fs ad μ c ci).set k v = xm_fs ad μ' c ci := by
  apply List.ext_getElem?
  intro i
  by_cases hi : i = k
  · subst hi
    rw [List.getElem?_set_self hl]
    have hl2 : i < xm_nf ci := by simpa [xm_fs] using hl
    simp [xm_fs, hl2, hv]
  · rw [List.getElem?_set_ne (Ne.symm hi)]
    unfold xm_fs
    simp only [List.getElem?_map]
    by_cases h2 : i < xm_nf ci
    · simp [h2, hne i hi]
    · simp [h2]
theorem xm_val_uI {ad : Nat → Nat} {μ : xm_M} {c k j : Nat} {x : Int32} {ty : FieldType} (h : j ≠ k) : xm_val ad (xu_I μ c (upd (μ.1 c) k x)) c j ty = xm_val ad μ c j ty := by
  cases ty <;> simp [xm_val, xu_I, va_up, upd, h]
theorem xm_val_uL {ad : Nat → Nat} {μ : xm_M} {c k j : Nat} {x : Int64} {ty : FieldType} (h : j ≠ k) : xm_val ad (xu_L μ c (vp_updL (μ.2.1 c) k x)) c j ty = xm_val ad μ c j ty := by
  cases ty <;> simp [xm_val, xu_L, va_up, vp_updL, h]
theorem xm_val_uR {ad : Nat → Nat} {μ : xm_M} {c k j : Nat} {x : Option Nat} {ty : FieldType} (h : j ≠ k) : xm_val ad (xu_R μ c (va_up (μ.2.2 c) k x)) c j ty = xm_val ad μ c j ty := by
  cases ty <;> simp [xm_val, xu_R, va_up, h]
/-- the world behind a write to one cell -/
theorem xm_St.up {E : Option (Nat × (Nat → Int32))} {D : va_G} {aC : FieldType → ClassId} {ad : Nat → Nat} {sh : xm_Sh} {μ μ' : xm_M} {A : Nat → Prop} {s : State} {H H1 : Heap} {locs locs1 : List Loc} {c : Nat} {q : Nat ⊕ (FieldType × Nat)} {x : va_E} (h : xm_St E D aC ad sh μ A s H locs) (hs : sh[c]? = some q) (hne : ∀ c' q', c' ≠ c → xm_cell aC ad μ' c' q' = xm_cell aC ad μ c' q') (hx : x = xm_cell aC ad μ' c q)
    (hP : va_P D vwCl ((xm_ws aC ad sh μ).set c (ad c, x)) H1) (hD : va_D A ((xm_ws aC ad sh μ).set c (ad c, x))) (hS : va_S A s.heap H1 locs1) (hw : xm_wf sh μ') : xm_St E D aC ad sh μ' A s H1 locs1 := by
  subst hx
  rw [xm_ws_set hs hne] at hP hD
  exact ⟨hP, hD, hS, h.2.2.2.1, h.2.2.2.2.1, h.2.2.2.2.2.1, hw⟩
theorem xm_wf_R {sh : xm_Sh} {μ : xm_M} {c k : Nat} {x : Option Nat} (h : xm_wf sh μ) (hx : ∀ r, x = some r → r < sh.length) : xm_wf sh (xu_R μ c (va_up (μ.2.2 c) k x)) := by
  intro c' k' r hc hr
  by_cases h1 : c' = c
  · by_cases h2 : k' = k
    · simp [xu_R, va_up, h1, h2] at hr
      exact hx r hr
    · simp [xu_R, va_up, h1, h2] at hr
      exact h c' k' r hc (by rw [h1]; exact hr)
  · simp [xu_R, va_up, h1] at hr
    exact h c' k' r hc hr
section XW
variable {κ : xm_Meth} {E : Option (Nat × (Nat → Int32))} {fz : Bool} {P : Option Value → xm_Sh → xm_M → Prop} {pc : Nat} {L : List (Option Value)} {S : List Value} {sh : xm_Sh} {al : Nat × Nat} {μ : xm_M} {c idx ci k : Nat}

theorem xs_getI  (hd : decode κ.2.1 pc = .ok (.getfield idx, 3)) (hf : xm_fld κ.1.cls idx ci k) (ht : xm_kd (xm_ty ci k) = 0) (hs : sh[c]? = some (.inl ci))  (kk : xR κ E fz P (pc + 3) L (.int (μ.1 c k) :: S) sh al μ) : xR κ E fz P pc L (.ref c :: S) sh al μ := by
  intro p l e s m args below meth c0 Z A D aC ad H locs ls hc hA hst hl ha hret
  obtain ⟨C, T, N, ⟨h1, h2, h3, h4⟩, hk, hw⟩ := hf
  exact va_get hc.1 hc.2.1 hc.2.2.2.2.1 h2 hc.2.2.2.1 hst.2.2.2.1 hst.1 c (xm_ws_get hs) h1 k hk (hc.2.2.2.2.1 _ hw) (fun _ h9 => h9) ((xm_fs_get h1 hk).trans (congrArg some (xm_val_0 ht))) hd (kk p l e s m args below meth c0 Z A D aC ad H locs ls hc hA hst hl ha hret)
theorem xs_getL  (hd : decode κ.2.1 pc = .ok (.getfield idx, 3)) (hf : xm_fld κ.1.cls idx ci k) (ht : xm_kd (xm_ty ci k) = 1) (hs : sh[c]? = some (.inl ci))  (kk : xR κ E fz P (pc + 3) L (.long (μ.2.1 c k) :: S) sh al μ) : xR κ E fz P pc L (.ref c :: S) sh al μ := by
  intro p l e s m args below meth c0 Z A D aC ad H locs ls hc hA hst hl ha hret
  obtain ⟨C, T, N, ⟨h1, h2, h3, h4⟩, hk, hw⟩ := hf
  exact va_get hc.1 hc.2.1 hc.2.2.2.2.1 h2 hc.2.2.2.1 hst.2.2.2.1 hst.1 c (xm_ws_get hs) h1 k hk (hc.2.2.2.2.1 _ hw) (fun _ h9 => h9) ((xm_fs_get h1 hk).trans (congrArg some (xm_val_1 ht))) hd (kk p l e s m args below meth c0 Z A D aC ad H locs ls hc hA hst hl ha hret)
theorem xs_getR {r : Nat} (hd : decode κ.2.1 pc = .ok (.getfield idx, 3)) (hf : xm_fld κ.1.cls idx ci k) (ht : xm_kd (xm_ty ci k) = 2) (hs : sh[c]? = some (.inl ci)) (hr : μ.2.2 c k = some r) (kk : xR κ E fz P (pc + 3) L (.ref r :: S) sh al μ) : xR κ E fz P pc L (.ref c :: S) sh al μ := by
  intro p l e s m args below meth c0 Z A D aC ad H locs ls hc hA hst hl ha hret
  obtain ⟨C, T, N, ⟨h1, h2, h3, h4⟩, hk, hw⟩ := hf
  exact va_get hc.1 hc.2.1 hc.2.2.2.2.1 h2 hc.2.2.2.1 hst.2.2.2.1 hst.1 c (xm_ws_get hs) h1 k hk (hc.2.2.2.2.1 _ hw) (fun _ h9 => h9) ((xm_fs_get h1 hk).trans (congrArg some ((xm_val_2 ht).trans (by rw [hr]; rfl)))) hd (kk p l e s m args below meth c0 Z A D aC ad H locs ls hc hA hst hl ha hret)
theorem xs_putI {x : Int32} (hd : decode κ.2.1 pc = .ok (.putfield idx, 3)) (hf : xm_fldP κ.1.cls idx ci k) (ht : xm_kd (xm_ty ci k) = 0) (hn : narrow (xm_ty ci k) (.int x) = .int x) (hfit : fits (xm_ty ci k) (.int x) = true) (hs : sh[c]? = some (.inl ci)) (kk : xR κ E fz P (pc + 3) L S sh al (xu_I μ c (upd (μ.1 c) k x))) : xR κ E fz P pc L (.int x :: .ref c :: S) sh al μ := by
  intro p l e s m args below meth c0 Z A D aC ad H locs ls hc hA hst hl ha hret
  obtain ⟨C, T, N, ⟨h1, h2, h3, h4⟩, hk, hw, hfin⟩ := hf
  have hl9 := xm_fs_len (ad := ad) (μ := μ) (c := c) h1 hk
  exact va_put (ty := xm_ty ci k) (v := xv ad (.int x)) hc.1 hc.2.1 hc.2.2.2.2.1 h2 (xm_ty ci) h3 h4 hc.2.2.2.1 hst.2.2.2.1 hst.1 hst.2.1 hst.2.2.1 c (xm_ws_get hs) h1 k hk (hc.2.2.2.2.1 _ hw) (fun _ h9 => h9) hfin (h3 k hk) (hn) (hfit) hl9 hd
    (fun H1 locs1 hP hD hS => kk p l e s m args below meth c0 Z A D aC ad H1 locs1 ls hc hA (hst.up hs xm_cell_uI (congrArg (fun z => (Sum.inr (ci, z) : va_E)) (xm_fs_set ((xm_val_0 ht).trans (by simp [xu_I, va_up, upd, xv])) (fun j hj => xm_val_uI hj) hl9)) hP hD hS hst.2.2.2.2.2.2) hl ha hret)
theorem xs_putL {x : Int64} (hd : decode κ.2.1 pc = .ok (.putfield idx, 3)) (hf : xm_fldP κ.1.cls idx ci k) (ht : xm_kd (xm_ty ci k) = 1)  (hs : sh[c]? = some (.inl ci)) (kk : xR κ E fz P (pc + 3) L S sh al (xu_L μ c (vp_updL (μ.2.1 c) k x))) : xR κ E fz P pc L (.long x :: .ref c :: S) sh al μ := by
  intro p l e s m args below meth c0 Z A D aC ad H locs ls hc hA hst hl ha hret
  obtain ⟨C, T, N, ⟨h1, h2, h3, h4⟩, hk, hw, hfin⟩ := hf
  have hl9 := xm_fs_len (ad := ad) (μ := μ) (c := c) h1 hk
  exact va_put (ty := xm_ty ci k) (v := xv ad (.long x)) hc.1 hc.2.1 hc.2.2.2.2.1 h2 (xm_ty ci) h3 h4 hc.2.2.2.1 hst.2.2.2.1 hst.1 hst.2.1 hst.2.2.1 c (xm_ws_get hs) h1 k hk (hc.2.2.2.2.1 _ hw) (fun _ h9 => h9) hfin (h3 k hk) (by generalize xm_ty ci k = ty at ht; cases ty <;> first | rfl | cases ht) (by generalize xm_ty ci k = ty at ht; cases ty <;> first | rfl | cases ht) hl9 hd
    (fun H1 locs1 hP hD hS => kk p l e s m args below meth c0 Z A D aC ad H1 locs1 ls hc hA (hst.up hs xm_cell_uL (congrArg (fun z => (Sum.inr (ci, z) : va_E)) (xm_fs_set ((xm_val_1 ht).trans (by simp [xu_L, va_up, vp_updL, xv])) (fun j hj => xm_val_uL hj) hl9)) hP hD hS hst.2.2.2.2.2.2) hl ha hret)
theorem xs_putR {x : Nat} (hd : decode κ.2.1 pc = .ok (.putfield idx, 3)) (hf : xm_fldP κ.1.cls idx ci k) (ht : xm_kd (xm_ty ci k) = 2) (hx : x < sh.length) (hs : sh[c]? = some (.inl ci)) (kk : xR κ E fz P (pc + 3) L S sh al (xu_R μ c (va_up (μ.2.2 c) k (some x)))) : xR κ E fz P pc L (.ref x :: .ref c :: S) sh al μ := by
  intro p l e s m args below meth c0 Z A D aC ad H locs ls hc hA hst hl ha hret
  obtain ⟨C, T, N, ⟨h1, h2, h3, h4⟩, hk, hw, hfin⟩ := hf
  have hl9 := xm_fs_len (ad := ad) (μ := μ) (c := c) h1 hk
  exact va_put (ty := xm_ty ci k) (v := xv ad (.ref x)) hc.1 hc.2.1 hc.2.2.2.2.1 h2 (xm_ty ci) h3 h4 hc.2.2.2.1 hst.2.2.2.1 hst.1 hst.2.1 hst.2.2.1 c (xm_ws_get hs) h1 k hk (hc.2.2.2.2.1 _ hw) (fun _ h9 => h9) hfin (h3 k hk) (by generalize xm_ty ci k = ty at ht; cases ty <;> first | rfl | cases ht) (by generalize xm_ty ci k = ty at ht; cases ty <;> first | rfl | cases ht) hl9 hd
    (fun H1 locs1 hP hD hS => kk p l e s m args below meth c0 Z A D aC ad H1 locs1 ls hc hA (hst.up hs xm_cell_uR (congrArg (fun z => (Sum.inr (ci, z) : va_E)) (xm_fs_set ((xm_val_2 ht).trans (by simp [xu_R, va_up, xv, va_rf])) (fun j hj => xm_val_uR hj) hl9)) hP hD hS (xm_wf_R hst.2.2.2.2.2.2 (fun r h => by cases h; exact hx))) hl ha hret)
theorem xs_putIF {x : Int32} (hd : decode κ.2.1 pc = .ok (.putfield idx, 3)) (hf : xm_fldF κ.1.cls idx ci k) (ht : xm_kd (xm_ty ci k) = 0) (hn : narrow (xm_ty ci k) (.int x) = .int x) (hfit : fits (xm_ty ci k) (.int x) = true) (hi : κ.1.name = "<init>") (hs : sh[c]? = some (.inl ci)) (kk : xR κ E fz P (pc + 3) L S sh al (xu_I μ c (upd (μ.1 c) k x))) : xR κ E fz P pc L (.int x :: .ref c :: S) sh al μ := by
  intro p l e s m args below meth c0 Z A D aC ad H locs ls hc hA hst hl ha hret
  obtain ⟨C, T, N, ⟨h1, h2, h3, h4⟩, hk, hw, hfin, hown⟩ := hf
  have hl9 := xm_fs_len (ad := ad) (μ := μ) (c := c) h1 hk
  exact va_putF (ty := xm_ty ci k) (v := xv ad (.int x)) hc.1 hc.2.1 hc.2.2.2.2.1 h2 (xm_ty ci) h3 h4 hc.2.2.2.1 hst.2.2.2.1 hst.1 hst.2.1 hst.2.2.1 c (xm_ws_get hs) h1 k hk (hc.2.2.2.2.1 _ hw) (fun _ h9 => h9) hfin (hc.2.2.2.2.2.trans hi) hown (h3 k hk) (hn) (hfit) hl9 hd
    (fun H1 locs1 hP hD hS => kk p l e s m args below meth c0 Z A D aC ad H1 locs1 ls hc hA (hst.up hs xm_cell_uI (congrArg (fun z => (Sum.inr (ci, z) : va_E)) (xm_fs_set ((xm_val_0 ht).trans (by simp [xu_I, va_up, upd, xv])) (fun j hj => xm_val_uI hj) hl9)) hP hD hS hst.2.2.2.2.2.2) hl ha hret)
theorem xs_putLF {x : Int64} (hd : decode κ.2.1 pc = .ok (.putfield idx, 3)) (hf : xm_fldF κ.1.cls idx ci k) (ht : xm_kd (xm_ty ci k) = 1)  (hi : κ.1.name = "<init>") (hs : sh[c]? = some (.inl ci)) (kk : xR κ E fz P (pc + 3) L S sh al (xu_L μ c (vp_updL (μ.2.1 c) k x))) : xR κ E fz P pc L (.long x :: .ref c :: S) sh al μ := by
  intro p l e s m args below meth c0 Z A D aC ad H locs ls hc hA hst hl ha hret
  obtain ⟨C, T, N, ⟨h1, h2, h3, h4⟩, hk, hw, hfin, hown⟩ := hf
  have hl9 := xm_fs_len (ad := ad) (μ := μ) (c := c) h1 hk
  exact va_putF (ty := xm_ty ci k) (v := xv ad (.long x)) hc.1 hc.2.1 hc.2.2.2.2.1 h2 (xm_ty ci) h3 h4 hc.2.2.2.1 hst.2.2.2.1 hst.1 hst.2.1 hst.2.2.1 c (xm_ws_get hs) h1 k hk (hc.2.2.2.2.1 _ hw) (fun _ h9 => h9) hfin (hc.2.2.2.2.2.trans hi) hown (h3 k hk) (by generalize xm_ty ci k = ty at ht; cases ty <;> first | rfl | cases ht) (by generalize xm_ty ci k = ty at ht; cases ty <;> first | rfl | cases ht) hl9 hd
    (fun H1 locs1 hP hD hS => kk p l e s m args below meth c0 Z A D aC ad H1 locs1 ls hc hA (hst.up hs xm_cell_uL (congrArg (fun z => (Sum.inr (ci, z) : va_E)) (xm_fs_set ((xm_val_1 ht).trans (by simp [xu_L, va_up, vp_updL, xv])) (fun j hj => xm_val_uL hj) hl9)) hP hD hS hst.2.2.2.2.2.2) hl ha hret)
theorem xs_putRF {x : Nat} (hd : decode κ.2.1 pc = .ok (.putfield idx, 3)) (hf : xm_fldF κ.1.cls idx ci k) (ht : xm_kd (xm_ty ci k) = 2) (hx : x < sh.length) (hi : κ.1.name = "<init>") (hs : sh[c]? = some (.inl ci)) (kk : xR κ E fz P (pc + 3) L S sh al (xu_R μ c (va_up (μ.2.2 c) k (some x)))) : xR κ E fz P pc L (.ref x :: .ref c :: S) sh al μ := by
  intro p l e s m args below meth c0 Z A D aC ad H locs ls hc hA hst hl ha hret
  obtain ⟨C, T, N, ⟨h1, h2, h3, h4⟩, hk, hw, hfin, hown⟩ := hf
  have hl9 := xm_fs_len (ad := ad) (μ := μ) (c := c) h1 hk
  exact va_putF (ty := xm_ty ci k) (v := xv ad (.ref x)) hc.1 hc.2.1 hc.2.2.2.2.1 h2 (xm_ty ci) h3 h4 hc.2.2.2.1 hst.2.2.2.1 hst.1 hst.2.1 hst.2.2.1 c (xm_ws_get hs) h1 k hk (hc.2.2.2.2.1 _ hw) (fun _ h9 => h9) hfin (hc.2.2.2.2.2.trans hi) hown (h3 k hk) (by generalize xm_ty ci k = ty at ht; cases ty <;> first | rfl | cases ht) (by generalize xm_ty ci k = ty at ht; cases ty <;> first | rfl | cases ht) hl9 hd
    (fun H1 locs1 hP hD hS => kk p l e s m args below meth c0 Z A D aC ad H1 locs1 ls hc hA (hst.up hs xm_cell_uR (congrArg (fun z => (Sum.inr (ci, z) : va_E)) (xm_fs_set ((xm_val_2 ht).trans (by simp [xu_R, va_up, xv, va_rf])) (fun j hj => xm_val_uR hj) hl9)) hP hD hS (xm_wf_R hst.2.2.2.2.2.2 (fun r h => by cases h; exact hx))) hl ha hret)
theorem xs_iald {i : Int32} {n : Nat} (hd : decode κ.2.1 pc = .ok (.iaload, 1)) (hs : sh[c]? = some (.inr (.int, n))) (hin : vp_in i n) (kk : xR κ E fz P (pc + 1) L (.int (μ.1 c i.toNatClampNeg) :: S) sh al μ) : xR κ E fz P pc L (.int i :: .ref c :: S) sh al μ := by
  intro p l e s m args below meth c0 Z A D aC ad H locs ls hc hA hst hl ha hret
  exact va_iald hc.1 hc.2.1 hst.2.2.2.1 hst.1 c 0 (xm_ws_get hs) rfl hin hd (kk p l e s m args below meth c0 Z A D aC ad H locs ls hc hA hst hl ha hret)
theorem xs_bald {i : Int32} {n : Nat} (hd : decode κ.2.1 pc = .ok (.baload, 1)) (hs : sh[c]? = some (.inr (.byte, n))) (hin : vp_in i n) (kk : xR κ E fz P (pc + 1) L (.int (μ.1 c i.toNatClampNeg) :: S) sh al μ) : xR κ E fz P pc L (.int i :: .ref c :: S) sh al μ := by
  intro p l e s m args below meth c0 Z A D aC ad H locs ls hc hA hst hl ha hret
  exact va_bald hc.1 hc.2.1 hst.2.2.2.1 hst.1 c 1 (xm_ws_get hs) rfl hin hd (kk p l e s m args below meth c0 Z A D aC ad H locs ls hc hA hst hl ha hret)
theorem xs_zald {i : Int32} {n : Nat} (hd : decode κ.2.1 pc = .ok (.baload, 1)) (hs : sh[c]? = some (.inr (.boolean, n))) (hin : vp_in i n) (kk : xR κ E fz P (pc + 1) L (.int (μ.1 c i.toNatClampNeg) :: S) sh al μ) : xR κ E fz P pc L (.int i :: .ref c :: S) sh al μ := by
  intro p l e s m args below meth c0 Z A D aC ad H locs ls hc hA hst hl ha hret
  exact va_zald hc.1 hc.2.1 hst.2.2.2.1 hst.1 c 2 (xm_ws_get hs) rfl hin hd (kk p l e s m args below meth c0 Z A D aC ad H locs ls hc hA hst hl ha hret)
theorem xs_lald {i : Int32} {n : Nat} (hd : decode κ.2.1 pc = .ok (.laload, 1)) (hs : sh[c]? = some (.inr (.long, n))) (hin : vp_in i n) (kk : xR κ E fz P (pc + 1) L (.long (μ.2.1 c i.toNatClampNeg) :: S) sh al μ) : xR κ E fz P pc L (.int i :: .ref c :: S) sh al μ := by
  intro p l e s m args below meth c0 Z A D aC ad H locs ls hc hA hst hl ha hret
  exact va_lald hc.1 hc.2.1 hst.2.2.2.1 hst.1 c 3 (xm_ws_get hs) rfl hin hd (kk p l e s m args below meth c0 Z A D aC ad H locs ls hc hA hst hl ha hret)
theorem xs_aldB {i : Int32} {n r : Nat} (hd : decode κ.2.1 pc = .ok (.aaload, 1)) (hs : sh[c]? = some (.inr (.object RX1, n))) (hin : vp_in i n) (hr : μ.2.2 c i.toNatClampNeg = some r) (kk : xR κ E fz P (pc + 1) L (.ref r :: S) sh al μ) : xR κ E fz P pc L (.int i :: .ref c :: S) sh al μ := by
  intro p l e s m args below meth c0 Z A D aC ad H locs ls hc hA hst hl ha hret
  have e9 : va_rf ((μ.2.2 c i.toNatClampNeg).map ad) = .ref (ad r) := by rw [hr]; rfl
  have k2 := kk p l e s m args below meth c0 Z A D aC ad H locs ls hc hA hst hl ha hret
  rw [List.map_cons, show xv ad (.ref r) = .ref (ad r) from rfl, ← e9] at k2
  exact va_aldq hc.1 hc.2.1 hst.2.2.2.1 hst.1 c 4 (xm_ws_get hs) rfl hin hd k2
theorem xs_aldV {i : Int32} {n r : Nat} (hd : decode κ.2.1 pc = .ok (.aaload, 1)) (hs : sh[c]? = some (.inr (.object RX7, n))) (hin : vp_in i n) (hr : μ.2.2 c i.toNatClampNeg = some r) (kk : xR κ E fz P (pc + 1) L (.ref r :: S) sh al μ) : xR κ E fz P pc L (.int i :: .ref c :: S) sh al μ := by
  intro p l e s m args below meth c0 Z A D aC ad H locs ls hc hA hst hl ha hret
  have e9 : va_rf ((μ.2.2 c i.toNatClampNeg).map ad) = .ref (ad r) := by rw [hr]; rfl
  have k2 := kk p l e s m args below meth c0 Z A D aC ad H locs ls hc hA hst hl ha hret
  rw [List.map_cons, show xv ad (.ref r) = .ref (ad r) from rfl, ← e9] at k2
  exact va_aldq hc.1 hc.2.1 hst.2.2.2.1 hst.1 c 5 (xm_ws_get hs) rfl hin hd k2
theorem xs_iast {i : Int32} {x : Int32} {n : Nat} (hd : decode κ.2.1 pc = .ok (.iastore, 1)) (hs : sh[c]? = some (.inr (.int, n))) (hin : vp_in i n) (kk : xR κ E fz P (pc + 1) L S sh al (xu_I μ c (upd (μ.1 c) i.toNatClampNeg x))) : xR κ E fz P pc L (.int x :: .int i :: .ref c :: S) sh al μ := by
  intro p l e s m args below meth c0 Z A D aC ad H locs ls hc hA hst hl ha hret
  exact va_iast hc.1 hc.2.1 hst.2.2.2.1 hst.1 hst.2.1 hst.2.2.1 c 0 (xm_ws_get hs) rfl hin hd
    (fun H1 locs1 hP hD hS => kk p l e s m args below meth c0 Z A D aC ad H1 locs1 ls hc hA (hst.up hs xm_cell_uI (by simp [xm_cell, xm_arr, xu_I, xu_L, va_up]) hP hD hS hst.2.2.2.2.2.2) hl ha hret)
theorem xs_bast {i : Int32} {x : Int32} {n : Nat} (hd : decode κ.2.1 pc = .ok (.bastore, 1)) (hs : sh[c]? = some (.inr (.byte, n))) (hin : vp_in i n) (kk : xR κ E fz P (pc + 1) L S sh al (xu_I μ c (upd (μ.1 c) i.toNatClampNeg (vp_nar .byte x)))) : xR κ E fz P pc L (.int x :: .int i :: .ref c :: S) sh al μ := by
  intro p l e s m args below meth c0 Z A D aC ad H locs ls hc hA hst hl ha hret
  exact va_bast hc.1 hc.2.1 hst.2.2.2.1 hst.1 hst.2.1 hst.2.2.1 c 1 (xm_ws_get hs) rfl hin hd
    (fun H1 locs1 hP hD hS => kk p l e s m args below meth c0 Z A D aC ad H1 locs1 ls hc hA (hst.up hs xm_cell_uI (by simp [xm_cell, xm_arr, xu_I, xu_L, va_up]) hP hD hS hst.2.2.2.2.2.2) hl ha hret)
theorem xs_zast {i : Int32} {x : Int32} {n : Nat} (hd : decode κ.2.1 pc = .ok (.bastore, 1)) (hs : sh[c]? = some (.inr (.boolean, n))) (hin : vp_in i n) (kk : xR κ E fz P (pc + 1) L S sh al (xu_I μ c (upd (μ.1 c) i.toNatClampNeg (vp_nar .boolean x)))) : xR κ E fz P pc L (.int x :: .int i :: .ref c :: S) sh al μ := by
  intro p l e s m args below meth c0 Z A D aC ad H locs ls hc hA hst hl ha hret
  exact va_zast hc.1 hc.2.1 hst.2.2.2.1 hst.1 hst.2.1 hst.2.2.1 c 2 (xm_ws_get hs) rfl hin hd
    (fun H1 locs1 hP hD hS => kk p l e s m args below meth c0 Z A D aC ad H1 locs1 ls hc hA (hst.up hs xm_cell_uI (by simp [xm_cell, xm_arr, xu_I, xu_L, va_up]) hP hD hS hst.2.2.2.2.2.2) hl ha hret)
theorem xs_last {i : Int32} {x : Int64} {n : Nat} (hd : decode κ.2.1 pc = .ok (.lastore, 1)) (hs : sh[c]? = some (.inr (.long, n))) (hin : vp_in i n) (kk : xR κ E fz P (pc + 1) L S sh al (xu_L μ c (vp_updL (μ.2.1 c) i.toNatClampNeg x))) : xR κ E fz P pc L (.long x :: .int i :: .ref c :: S) sh al μ := by
  intro p l e s m args below meth c0 Z A D aC ad H locs ls hc hA hst hl ha hret
  exact va_last hc.1 hc.2.1 hst.2.2.2.1 hst.1 hst.2.1 hst.2.2.1 c 3 (xm_ws_get hs) rfl hin hd
    (fun H1 locs1 hP hD hS => kk p l e s m args below meth c0 Z A D aC ad H1 locs1 ls hc hA (hst.up hs xm_cell_uL (by simp [xm_cell, xm_arr, xu_I, xu_L, va_up]) hP hD hS hst.2.2.2.2.2.2) hl ha hret)
theorem xs_astB {i : Int32} {n r : Nat} (hd : decode κ.2.1 pc = .ok (.aastore, 1)) (hs : sh[c]? = some (.inr (.object RX1, n))) (hr : sh[r]? = some (.inl 1)) (hin : vp_in i n) (kk : xR κ E fz P (pc + 1) L S sh al (xu_R μ c (va_up (μ.2.2 c) i.toNatClampNeg (some r)))) : xR κ E fz P pc L (.ref r :: .int i :: .ref c :: S) sh al μ := by
  intro p l e s m args below meth c0 Z A D aC ad H locs ls hc hA hst hl ha hret
  exact va_astq hc.1 hc.2.1 hst.2.2.2.1 hst.1 hst.2.1 hst.2.2.1 c 4 r 1 (r := (RX1, TX1, xm_nf 1)) (xm_ws_get hs) rfl (xm_ws_get hr) rfl hin hd
    (fun H1 locs1 hP hD hS => kk p l e s m args below meth c0 Z A D aC ad H1 locs1 ls hc hA (hst.up hs xm_cell_uR (by simp only [xm_cell, xm_arr, xu_R, va_up, if_true]; congr 7; funext j; by_cases hj : j = i.toNatClampNeg <;> simp [va_up, hj]) hP hD hS (xm_wf_R hst.2.2.2.2.2.2 (fun r2 h => by cases h; exact (List.getElem?_eq_some_iff.mp hr).1))) hl ha hret)
theorem xs_astV {i : Int32} {n r : Nat} (hd : decode κ.2.1 pc = .ok (.aastore, 1)) (hs : sh[c]? = some (.inr (.object RX7, n))) (hr : sh[r]? = some (.inl 7)) (hin : vp_in i n) (kk : xR κ E fz P (pc + 1) L S sh al (xu_R μ c (va_up (μ.2.2 c) i.toNatClampNeg (some r)))) : xR κ E fz P pc L (.ref r :: .int i :: .ref c :: S) sh al μ := by
  intro p l e s m args below meth c0 Z A D aC ad H locs ls hc hA hst hl ha hret
  exact va_astq hc.1 hc.2.1 hst.2.2.2.1 hst.1 hst.2.1 hst.2.2.1 c 5 r 7 (r := (RX7, TX7, xm_nf 7)) (xm_ws_get hs) rfl (xm_ws_get hr) rfl hin hd
    (fun H1 locs1 hP hD hS => kk p l e s m args below meth c0 Z A D aC ad H1 locs1 ls hc hA (hst.up hs xm_cell_uR (by simp only [xm_cell, xm_arr, xu_R, va_up, if_true]; congr 7; funext j; by_cases hj : j = i.toNatClampNeg <;> simp [va_up, hj]) hP hD hS (xm_wf_R hst.2.2.2.2.2.2 (fun r2 h => by cases h; exact (List.getElem?_eq_some_iff.mp hr).1))) hl ha hret)
theorem xs_alen {n : Nat} {ty : FieldType} (t0 : Nat) (hd : decode κ.2.1 pc = .ok (.arraylength, 1)) (hs : sh[c]? = some (.inr (ty, n))) (ht : ∀ aC, (xm_tys aC)[t0]? = some (aC ty, ty)) (kk : xR κ E fz P (pc + 1) L (.int (nI n) :: S) sh al μ) : xR κ E fz P pc L (.ref c :: S) sh al μ := by
  intro p l e s m args below meth c0 Z A D aC ad H locs ls hc hA hst hl ha hret
  exact va_alen hc.1 hc.2.1 hst.2.2.2.1 hst.1 c t0 (xm_ws_get hs) (ht aC) rfl hd (kk p l e s m args below meth c0 Z A D aC ad H locs ls hc hA hst hl ha hret)
theorem xs_gets {q : String × String × List Int32} (hd : decode κ.2.1 pc = .ok (.getstatic idx, 3)) (hq : xm_stat[k]? = some q) (hw : Cond.fieldLink κ.1.cls idx q.1 q.2.1 "[I" ∈ xm_tbl) (kk : xR κ E fz P (pc + 3) L (.ref (1000 + k) :: S) sh al μ) : xR κ E fz P pc L S sh al μ := by
  intro p l e s m args below meth c0 Z A D aC ad H locs ls hc hA hst hl ha hret
  exact va_gets hc.1 hc.2.1 (hst.2.2.2.2.1.1 k q hq).1 hst.2.2.1 hc.2.2.2.1 (hc.2.2.2.2.1 _ hw) (fun _ h9 => h9) hd (kk p l e s m args below meth c0 Z A D aC ad H locs ls hc hA hst hl ha hret)
theorem xs_tald {q : String × String × List Int32} {i : Int32} (hd : decode κ.2.1 pc = .ok (.iaload, 1)) (hq : xm_stat[k]? = some q) (hin : vp_in i q.2.2.length) (kk : xR κ E fz P (pc + 1) L (.int (q.2.2.getD i.toNatClampNeg 0) :: S) sh al μ) : xR κ E fz P pc L (.int i :: .ref (1000 + k) :: S) sh al μ := by
  intro p l e s m args below meth c0 Z A D aC ad H locs ls hc hA hst hl ha hret
  exact va_ti hc.1 hc.2.1 (hst.2.2.2.2.1.1 k q hq).2 hst.2.2.1 hin rfl hd (kk p l e s m args below meth c0 Z A D aC ad H locs ls hc hA hst hl ha hret)
theorem xs_talen {q : String × String × List Int32} (hd : decode κ.2.1 pc = .ok (.arraylength, 1)) (hq : xm_stat[k]? = some q) (kk : xR κ E fz P (pc + 1) L (.int (nI q.2.2.length) :: S) sh al μ) : xR κ E fz P pc L (.ref (1000 + k) :: S) sh al μ := by
  intro p l e s m args below meth c0 Z A D aC ad H locs ls hc hA hst hl ha hret
  exact va_tlen hc.1 hc.2.1 (hst.2.2.2.2.1.1 k q hq).2 hst.2.2.1 rfl hd (kk p l e s m args below meth c0 Z A D aC ad H locs ls hc hA hst hl ha hret)
theorem xs_xald {q : Nat × (Nat → Int32)} {i : Int32} (hd : decode κ.2.1 pc = .ok (.iaload, 1)) (hq : E = some q) (hin : vp_in i q.1) (kk : xR κ E fz P (pc + 1) L (.int (q.2 i.toNatClampNeg) :: S) sh al μ) : xR κ E fz P pc L (.int i :: .ref 999 :: S) sh al μ := by
  intro p l e s m args below meth c0 Z A D aC ad H locs ls hc hA hst hl ha hret
  exact va_ti hc.1 hc.2.1 (hst.2.2.2.2.2.1 q hq) hst.2.2.1 hin rfl hd (kk p l e s m args below meth c0 Z A D aC ad H locs ls hc hA hst hl ha hret)
theorem xs_xlen {q : Nat × (Nat → Int32)} (hd : decode κ.2.1 pc = .ok (.arraylength, 1)) (hq : E = some q) (kk : xR κ E fz P (pc + 1) L (.int (nI q.1) :: S) sh al μ) : xR κ E fz P pc L (.ref 999 :: S) sh al μ := by
  intro p l e s m args below meth c0 Z A D aC ad H locs ls hc hA hst hl ha hret
  exact va_tlen hc.1 hc.2.1 (hst.2.2.2.2.2.1 q hq) hst.2.2.1 rfl hd (kk p l e s m args below meth c0 Z A D aC ad H locs ls hc hA hst hl ha hret)
theorem xs_ret (r : Option Value) (hd : decode κ.2.1 pc = .ok (xm_ri r, 1)) (hk : xm_rk κ.2.2.2.1 r) (hS : r.toList = S) (hP : P r sh μ) : xR κ E fz P pc L S sh al μ := by
  intro p l e s m args below meth c0 Z A D aC ad H locs ls hc hA hst hl ha hret
  subst hS
  exact hret r sh μ ad H locs al ls pc hP xm_Ext.rf hst ha hk hd
theorem xs_tabOut {dflt lo hi : Int} {offs : Array Int} {len : Nat} {x : Int32} (tgt : Nat) (hd : decode κ.2.1 pc = .ok (.tableswitch dflt lo hi offs, len)) (h : x.toInt < lo ∨ hi < x.toInt) (ht : (pc : Int) + dflt = (tgt : Int)) (kk : xR κ E fz P tgt L S sh al μ) : xR κ E fz P pc L (.int x :: S) sh al μ := by
  intro p l e s m args below meth c0 Z A D aC ad H locs ls hc hA hst hl ha hret
  exact lv_tableOut hc.1 hc.2.1 hd h ht (kk p l e s m args below meth c0 Z A D aC ad H locs ls hc hA hst hl ha hret)
theorem xs_tabIn {dflt lo hi : Int} {offs : Array Int} {len : Nat} {x : Int32} {off : Int} (tgt : Nat) (hd : decode κ.2.1 pc = .ok (.tableswitch dflt lo hi offs, len)) (h1 : ¬ x.toInt < lo) (h2 : ¬ hi < x.toInt) (ho : offs[(x.toInt - lo).toNat]? = some off) (ht : (pc : Int) + off = (tgt : Int)) (kk : xR κ E fz P tgt L S sh al μ) : xR κ E fz P pc L (.int x :: S) sh al μ := by
  intro p l e s m args below meth c0 Z A D aC ad H locs ls hc hA hst hl ha hret
  exact lv_tableIn hc.1 hc.2.1 hd h1 h2 ho ht (kk p l e s m args below meth c0 Z A D aC ad H locs ls hc hA hst hl ha hret)

theorem xv_cats (ad : Nat → Nat) (S : List Value) : ((S.map (xv ad)).map fun v => v.category).sum = (S.map fun v => v.category).sum := by
  rw [List.map_map]
  congr 1
  exact List.map_congr_left (fun v _ => xv_cat ad v)
theorem xs_mmax {x y : Int32} (hd : decode κ.2.1 pc = .ok (.invokestatic idx, 3)) (hw : Cond.methodLink κ.1.cls idx Lib.Math.max.name ∈ xm_tbl ∧ Cond.static Lib.Math.max.name ∈ xm_tbl ∧ Cond.initialized "java/lang/Math" ∈ xm_tbl ∧ Cond.code Lib.Math.max.name Lib.Math.max.code 2 (some .int) ∈ xm_tbl) (hfr : 1 ≤ κ.2.2.2.2.frames) (hlo : (S.map fun v => v.category).sum + 13 ≤ κ.2.2.2.2.locals) (kk : xR κ E fz P (pc + 3) L (.int (if x < y then y else x) :: S) sh al μ) : xR κ E fz P pc L (.int y :: .int x :: S) sh al μ := by
  intro p l e s m args below meth c0 Z A D aC ad H locs ls hc hA hst hl ha hret
  exact va_mmax hc.1 hc.2.1 (hc.2.2.1.trans hl.1.symm) hc.2.2.2.1 (hc.2.2.2.2.1 _ hw.1) (hc.2.2.2.2.1 _ hw.2.1) (hc.2.2.2.2.1 _ hw.2.2.1) (hc.2.2.2.2.1 _ hw.2.2.2) hfr (by rw [xv_cats]; exact hlo) ha.1 ha.2 hd (kk p l e s m args below meth c0 Z A D aC ad H locs ls hc hA hst hl ha hret)
theorem xs_mmin {x y : Int32} (hd : decode κ.2.1 pc = .ok (.invokestatic idx, 3)) (hw : Cond.methodLink κ.1.cls idx Lib.Math.min.name ∈ xm_tbl ∧ Cond.static Lib.Math.min.name ∈ xm_tbl ∧ Cond.initialized "java/lang/Math" ∈ xm_tbl ∧ Cond.code Lib.Math.min.name Lib.Math.min.code 2 (some .int) ∈ xm_tbl) (hfr : 1 ≤ κ.2.2.2.2.frames) (hlo : (S.map fun v => v.category).sum + 13 ≤ κ.2.2.2.2.locals) (kk : xR κ E fz P (pc + 3) L (.int (if y < x then y else x) :: S) sh al μ) : xR κ E fz P pc L (.int y :: .int x :: S) sh al μ := by
  intro p l e s m args below meth c0 Z A D aC ad H locs ls hc hA hst hl ha hret
  exact va_mmin hc.1 hc.2.1 (hc.2.2.1.trans hl.1.symm) hc.2.2.2.1 (hc.2.2.2.2.1 _ hw.1) (hc.2.2.2.2.1 _ hw.2.1) (hc.2.2.2.2.1 _ hw.2.2.1) (hc.2.2.2.2.1 _ hw.2.2.2) hfr (by rw [xv_cats]; exact hlo) ha.1 ha.2 hd (kk p l e s m args below meth c0 Z A D aC ad H locs ls hc hA hst hl ha hret)
theorem xs_mabs {x : Int32} (hd : decode κ.2.1 pc = .ok (.invokestatic idx, 3)) (hw : Cond.methodLink κ.1.cls idx Lib.Math.abs.name ∈ xm_tbl ∧ Cond.static Lib.Math.abs.name ∈ xm_tbl ∧ Cond.initialized "java/lang/Math" ∈ xm_tbl ∧ Cond.code Lib.Math.abs.name Lib.Math.abs.code 1 (some .int) ∈ xm_tbl) (hfr : 1 ≤ κ.2.2.2.2.frames) (hlo : (S.map fun v => v.category).sum + 13 ≤ κ.2.2.2.2.locals) (kk : xR κ E fz P (pc + 3) L (.int (if 0 ≤ x then x else 0 - x) :: S) sh al μ) : xR κ E fz P pc L (.int x :: S) sh al μ := by
  intro p l e s m args below meth c0 Z A D aC ad H locs ls hc hA hst hl ha hret
  exact va_mabs hc.1 hc.2.1 (hc.2.2.1.trans hl.1.symm) hc.2.2.2.1 (hc.2.2.2.2.1 _ hw.1) (hc.2.2.2.2.1 _ hw.2.1) (hc.2.2.2.2.1 _ hw.2.2.1) (hc.2.2.2.2.1 _ hw.2.2.2) hfr (by rw [xv_cats]; exact hlo) ha.1 ha.2 hd (kk p l e s m args below meth c0 Z A D aC ad H locs ls hc hA hst hl ha hret)
theorem xs_copyb {sp dp n : Int32} {c1 n0 n1 : Nat} (hd : decode κ.2.1 pc = .ok (.invokestatic idx, 3)) (hw : Cond.methodLink κ.1.cls idx arraycopyName ∈ xm_tbl ∧ Cond.native arraycopyName ∈ xm_tbl ∧ Cond.static arraycopyName ∈ xm_tbl ∧ Cond.initialized "java/lang/System" ∈ xm_tbl) (hs : sh[c]? = some (.inr (.byte, n0))) (hs1 : sh[c1]? = some (.inr (.byte, n1)))
    (h1 : ¬ sp < 0) (h2 : ¬ dp < 0) (h3 : ¬ n < 0) (h4 : sp.toNatClampNeg + n.toNatClampNeg ≤ n0) (h5 : dp.toNatClampNeg + n.toNatClampNeg ≤ n1) (hfit : ∀ i, i < n.toNatClampNeg → fits .byte (.int (μ.1 c (sp.toNatClampNeg + i))) = true) (hfr : 1 ≤ κ.2.2.2.2.frames) (hlo : (S.map fun v => v.category).sum + (nativeFrameWords "java/lang/System" "arraycopy" 5 + 11) ≤ κ.2.2.2.2.locals)
    (kk : xR κ E fz P (pc + 3) L S sh al (xu_I μ c1 (va_cpy (μ.1 c) (μ.1 c1) sp.toNatClampNeg dp.toNatClampNeg n.toNatClampNeg))) : xR κ E fz P pc L (.int n :: .int dp :: .ref c1 :: .int sp :: .ref c :: S) sh al μ := by
  intro p l e s m args below meth c0 Z A D aC ad H locs ls hc hA hst hl ha hret
  exact va_copyi (ty := .byte) hc.1 hc.2.1 (hc.2.2.1.trans hl.1.symm) hc.2.2.2.1 (hc.2.2.2.2.1 _ hw.1) (hc.2.2.2.2.1 _ hw.2.1) (hc.2.2.2.2.1 _ hw.2.2.1) (hc.2.2.2.2.1 _ hw.2.2.2) hst.2.2.2.1 hst.1 hst.2.1 hst.2.2.1 c c1 1 1 (xm_ws_get hs) (xm_ws_get hs1) rfl rfl rfl h1 h2 h3 h4 h5 hfit hfr (by rw [xv_cats]; exact hlo) hd
    (fun H1 locs1 hP hD hS => kk p l e s m args below meth c0 Z A D aC ad H1 locs1 ls hc hA (hst.up hs1 xm_cell_uI (by simp [xm_cell, xm_arr, xu_I, va_up]) hP hD hS hst.2.2.2.2.2.2) hl ha hret)
theorem xs_oinit (hd : decode κ.2.1 pc = .ok (.invokespecial idx, 3)) (hw : Cond.methodLink κ.1.cls idx Lib.objectInit ∈ xm_tbl ∧ Cond.instanceMethod Lib.objectInit ∈ xm_tbl ∧ Cond.code Lib.objectInit ⟨#[0xb1]⟩ 1 none ∈ xm_tbl) (hfr : 1 ≤ κ.2.2.2.2.frames) (hlo : (S.map fun v => v.category).sum + 12 ≤ κ.2.2.2.2.locals) (kk : xR κ E fz P (pc + 3) L S sh al μ) : xR κ E fz P pc L (.ref c :: S) sh al μ := by
  intro p l e s m args below meth c0 Z A D aC ad H locs ls hc hA hst hl ha hret
  exact W.objInit hc.1 hc.2.1 hc.2.2.2.1 (hc.2.2.2.2.1 _ hw.1) (hc.2.2.2.2.1 _ hw.2.1) (hc.2.2.2.2.1 _ hw.2.2) rfl (hl.1.trans hc.2.2.1.symm) rfl hd hfr (by rw [xv_cats]; show 2 * 0 + _ + 12 ≤ _; omega) (kk p l e s m args below meth c0 Z A D aC ad H locs ls hc hA hst hl ha hret)
end XW
