/-! ===== making: new cells get the next numbers ===== -/
def xm_nw (μ : xm_M) (n : Nat) : xm_M := (va_up μ.1 n (fun _ => 0), va_up μ.2.1 n (fun _ => 0), va_up μ.2.2 n (fun _ => none))
def xm_ad (ad : Nat → Nat) (n q : Nat) : Nat → Nat := fun c => if c = n then q else ad c
theorem xm_cell_old {aC : FieldType → ClassId} {ad ad1 : Nat → Nat} {μ μ1 : xm_M} {n c : Nat} (hI : μ1.1 c = μ.1 c) (hL : μ1.2.1 c = μ.2.1 c) (hR : μ1.2.2 c = μ.2.2 c) (hr : ∀ k r, μ.2.2 c k = some r → ad1 r = ad r) (q : Nat ⊕ (FieldType × Nat)) : xm_cell aC ad1 μ1 c q = xm_cell aC ad μ c q := by
  have e : ∀ k, (μ1.2.2 c k).map ad1 = (μ.2.2 c k).map ad := by
    intro k
    rw [hR]
    cases h : μ.2.2 c k with
    | none => rfl
    | some r => simp [hr k r h]
  have ev : ∀ k ty, xm_val ad1 μ1 c k ty = xm_val ad μ c k ty := by
    intro k ty
    cases ty <;> simp [xm_val, hI, hL, e]
  cases q with
  | inl ci => simp [xm_cell, ev]
  | inr a =>
    obtain ⟨ty, n⟩ := a
    cases ty <;> simp [xm_cell, xm_arr, hI, hL, e]
theorem xm_ws_push {aC : FieldType → ClassId} {ad : Nat → Nat} {sh : xm_Sh} {μ : xm_M} {q : Nat} {x : Nat ⊕ (FieldType × Nat)} (hw : xm_wf sh μ) : xm_ws aC (xm_ad ad sh.length q) (sh ++ [x]) (xm_nw μ sh.length) = xm_ws aC ad sh μ ++ [(q, xm_cell aC (xm_ad ad sh.length q) (xm_nw μ sh.length) sh.length x)] := by
  have hlen : (xm_ws aC ad sh μ).length = sh.length := by simp [xm_ws]
  apply List.ext_getElem?
  intro i
  by_cases hi : i < sh.length
  · rw [List.getElem?_append_left (by rw [hlen]; exact hi)]
    simp only [xm_ws, List.getElem?_mapIdx]
    rw [List.getElem?_append_left hi]
    cases hs : sh[i]? with
    | none => rfl
    | some y =>
      have hne : i ≠ sh.length := by omega
      simp only [Option.map_some, Option.some.injEq, Prod.mk.injEq]
      refine ⟨by simp [xm_ad, hne], xm_cell_old (n := sh.length) (by simp [xm_nw, va_up, hne]) (by simp [xm_nw, va_up, hne]) (by simp [xm_nw, va_up, hne]) (fun k r h => ?_) y⟩
      have := hw i k r hi h
      have hr : r ≠ sh.length := by omega
      simp [xm_ad, hr]
  · rw [List.getElem?_append_right (by rw [hlen]; omega), hlen]
    simp only [xm_ws, List.getElem?_mapIdx]
    rw [List.getElem?_append_right (by omega)]
    by_cases h0 : i = sh.length
    · subst h0
      simp [xm_ad]
    · have h1 : 1 ≤ i - sh.length := by omega
      rw [List.getElem?_eq_none (by simpa using h1), List.getElem?_eq_none (by simpa using h1)]
      rfl
theorem xm_wf_push {sh : xm_Sh} {μ : xm_M} {x : Nat ⊕ (FieldType × Nat)} (hw : xm_wf sh μ) : xm_wf (sh ++ [x]) (xm_nw μ sh.length) := by
  intro c k r hc hr
  simp only [List.length_append, List.length_singleton] at hc ⊢
  by_cases h : c = sh.length
  · simp [xm_nw, va_up, h] at hr
  · simp [xm_nw, va_up, h] at hr
    have := hw c k r (by omega) hr
    omega
def xm_okv (n : Nat) : Value → Bool
  | .ref c => decide (c < n) || decide (900 ≤ c)
  | _ => true
theorem xm_okv_xv {n : Nat} {ad ad1 : Nat → Nat} (h : ∀ c, c < n ∨ 900 ≤ c → ad1 c = ad c) {v : Value} (hv : xm_okv n v = true) : xv ad1 v = xv ad v := by
  cases v with
  | ref c =>
    simp only [xm_okv, Bool.or_eq_true, decide_eq_true_eq] at hv
    simp [xv, h c hv]
  | _ => rfl
def xm_okL (n : Nat) (L : List (Option Value)) (S : List Value) : Prop := S.all (xm_okv n) = true ∧ L.all (fun o => match o with | some v => xm_okv n v | none => true) = true
theorem xm_okL_S {n : Nat} {ad ad1 : Nat → Nat} {L : List (Option Value)} {S : List Value} (h : ∀ c, c < n ∨ 900 ≤ c → ad1 c = ad c) (hk : xm_okL n L S) : S.map (xv ad1) = S.map (xv ad) :=
  List.map_congr_left (fun v hv => xm_okv_xv h (List.all_eq_true.mp hk.1 v hv))
theorem xm_okL_L {n nL : Nat} {ad ad1 : Nat → Nat} {ls : Array Slot} {L : List (Option Value)} {S : List Value} (h : ∀ c, c < n ∨ 900 ≤ c → ad1 c = ad c) (hk : xm_okL n L S) (hl : xl_has ad ls nL L) : xl_has ad1 ls nL L := by
  refine ⟨hl.1, hl.2.1, fun i v hi => ?_⟩
  rw [xm_okv_xv h (List.all_eq_true.mp hk.2 (some v) (List.mem_of_getElem? hi))]
  exact hl.2.2 i v hi
theorem xm_Stat_ad {ad ad1 : Nat → Nat} {A : Nat → Prop} {U : State} {H : Heap} (h : ∀ c, 900 ≤ c → ad1 c = ad c) (hs : xm_Stat ad A U H) : xm_Stat ad1 A U H := by
  refine ⟨fun k q hq => ?_, hs.2⟩
  rw [h (1000 + k) (by omega)]
  exact hs.1 k q hq
theorem xm_Ex_ad {E : Option (Nat × (Nat → Int32))} {ad ad1 : Nat → Nat} {A : Nat → Prop} {U : State} {H : Heap} (h : ∀ c, 900 ≤ c → ad1 c = ad c) (hs : xm_Ex E ad A U H) : xm_Ex E ad1 A U H := by
  intro q hq
  rw [h 999 (by omega)]
  exact hs q hq
theorem xm_ad_old {ad : Nat → Nat} {n q : Nat} (hn : n < 900) : ∀ c, c < n ∨ 900 ≤ c → xm_ad ad n q c = ad c := by
  intro c hc
  have : c ≠ n := by omega
  simp [xm_ad, this]
section XN
variable {κ j : xm_Meth} {E : Option (Nat × (Nat → Int32))} {P : Option Value → xm_Sh → xm_M → Prop} {pc : Nat} {L : List (Option Value)} {S : List Value} {sh : xm_Sh} {al : Nat × Nat} {μ : xm_M} {c idx ci k n : Nat}
theorem xs_new (sh' : xm_Sh) (N : Nat) (hd : decode κ.2.1 pc = .ok (.new idx, 3)) (hw : ∃ (C : String) (T : u_T), xm_CK ci C T N ∧ Cond.classLink κ.1.cls idx C ∈ xm_tbl ∧ Cond.instantiable C N ∈ xm_tbl ∧ Cond.initialized C ∈ xm_tbl) (hnd : ∀ k, k < N → xm_ty ci k ≠ .double ∧ xm_ty ci k ≠ .float) (hn : sh.length = n) (hok : xm_okL n L S) (hbig : n < 900) (hal : al.1 + 1 ≤ κ.2.2.2.2.cells ∧ al.2 + N ≤ κ.2.2.2.2.slots) (hsh : sh ++ [.inl ci] = sh')
    (kk : xR κ E false P (pc + 3) L (.ref n :: S) sh' (al.1 + 1, al.2 + N) (xm_nw μ n)) : xR κ E false P pc L S sh al μ := by
  intro p l e s m args below meth c0 Z A D aC ad H locs ls hc hA hst hl ha hret
  subst hn
  subst hsh
  obtain ⟨C, T, ⟨h1, h2, h3, h4⟩, w1, w2, w3⟩ := hw
  obtain ⟨g1, g2, g3, g4, g5, g6, g7⟩ := hst
  have hts := hc.2.2.2.2.1
  have hnf : xm_nf ci = N := by unfold xm_nf; rw [h1]
  refine va_new (ci := ci) (fs := (List.range (xm_nf ci)).map (fun k => defaultValue (xm_ty ci k))) hc.1 hc.2.1 hts h2 (xm_ty ci) h3 hc.2.2.2.1 (hts _ w1) (hts _ w2) (hts _ w3) g4 g1 g2 g3 hA h1 (fun j hj => by simp [vp_V, hnf, hj]) hal.1 hal.2 hd (fun q H1 hP hD hS => ?_)
  have hold := xm_ad_old (ad := ad) (n := sh.length) (q := q) hbig
  have ecell : xm_cell aC (xm_ad ad sh.length q) (xm_nw μ sh.length) sh.length (.inl ci) = .inr (ci, (List.range (xm_nf ci)).map (fun k => defaultValue (xm_ty ci k))) := by
    simp only [xm_cell]
    congr 2
    apply List.map_congr_left
    intro k hk
    have hnd := hnd k (by rw [← hnf]; exact List.mem_range.mp hk)
    generalize xm_ty ci k = ty at hnd
    cases ty <;> first | (simp [xm_val, xm_nw, va_up, defaultValue, va_rf]; done) | exact absurd rfl hnd.1 | exact absurd rfl hnd.2
  have ews := xm_ws_push (aC := aC) (ad := ad) (sh := sh) (μ := μ) (q := q) (x := .inl ci) g7
  rw [ecell] at ews
  have k2 := kk p l e s m args below meth c0 Z A D aC (xm_ad ad sh.length q) H1 locs ls hc hA ⟨by rw [ews]; exact hP, by rw [ews]; exact hD, hS, g4, xm_Stat_ad (fun c hc => hold c (Or.inr hc)) g5, xm_Ex_ad (fun c hc => hold c (Or.inr hc)) g6, xm_wf_push g7⟩ (xm_okL_L hold hok hl) hal (fun r sh2 μ2 ad2 H2 locs2 al2 ls2 pc2 a1 a2 => hret r sh2 μ2 ad2 H2 locs2 al2 ls2 pc2 a1 (xm_Ext.tr (fz := false) (sh1 := sh ++ [.inl ci]) (ad1 := xm_ad ad sh.length q) ⟨by simp, hold⟩ a2))
  rw [List.map_cons, xm_okL_S hold hok, show xv (xm_ad ad sh.length q) (.ref sh.length) = .ref q by simp [xv, xm_ad]] at k2
  exact k2
theorem xs_newa (sh' : xm_Sh) (N : Nat) {x : Int32} {atype : ArrayType} {ty : FieldType} (t0 : Nat) (hd : decode κ.2.1 pc = .ok (.newarray atype, 2)) (hty : newarray.typeOf atype = ty) (ht : ∀ aC, (xm_tys aC)[t0]? = some (aC ty, ty)) (hpr : ty = .int ∨ ty = .byte ∨ ty = .boolean ∨ ty = .long) (hw : Cond.arrayClass ty ∈ xm_tbl) (hx : ¬ x < 0) (hN : x.toNatClampNeg = N) (hby : N * componentBytes ty ≤ 536870912) (hn : sh.length = n) (hok : xm_okL n L S) (hbig : n < 900) (hal : al.1 + 1 ≤ κ.2.2.2.2.cells ∧ al.2 + N ≤ κ.2.2.2.2.slots) (hsh : sh ++ [.inr (ty, N)] = sh')
    (kk : xR κ E false P (pc + 2) L (.ref n :: S) sh' (al.1 + 1, al.2 + N) (xm_nw μ n)) : xR κ E false P pc L (.int x :: S) sh al μ := by
  intro p l e s m args below meth c0 Z A D aC ad H locs ls hc hA hst hl ha hret
  subst hn
  subst hsh
  subst hty
  obtain ⟨g1, g2, g3, g4, g5, g6, g7⟩ := hst
  have hts := hc.2.2.2.2.1
  have hz : ∀ (ad1 : Nat → Nat) (cA : ClassId), vp_cell cA (N, xm_arr ad1 (xm_nw μ sh.length) sh.length (newarray.typeOf atype)) = arrV cA N (fun _ => defaultValue (newarray.typeOf atype)) := by
    intro ad1 cA
    generalize newarray.typeOf atype = ty at hpr
    rcases hpr with rfl | rfl | rfl | rfl <;> simp [xm_arr, xm_nw, va_up, vp_cell, defaultValue]
  refine va_newa (a0 := (N, xm_arr ad (xm_nw μ sh.length) sh.length (newarray.typeOf atype))) hc.1 hc.2.1 (hts _ hw) rfl g4 g1 g2 g3 hA (hz ad) hx hN hby hal.1 hal.2 hd (fun q cA H1 hK hP hD hS => ?_)
  have hcA : cA = aC (newarray.typeOf atype) := by
    have h1 : va_RA s cA (newarray.typeOf atype) := (hK.2 (xm_tys aC).length (cA, newarray.typeOf atype) (by simp)).2
    have h2 : va_RA s (aC (newarray.typeOf atype)) (newarray.typeOf atype) := (g4.2 t0 _ (ht aC)).2
    generalize newarray.typeOf atype = ty at hpr h1 h2
    rcases hpr with rfl | rfl | rfl | rfl <;> exact Option.some.inj (h1.symm.trans h2)
  subst hcA
  have hold := xm_ad_old (ad := ad) (n := sh.length) (q := q) hbig
  have ecell : xm_cell aC (xm_ad ad sh.length q) (xm_nw μ sh.length) sh.length (.inr (newarray.typeOf atype, N)) = .inl (aC (newarray.typeOf atype), N, xm_arr ad (xm_nw μ sh.length) sh.length (newarray.typeOf atype)) := by
    simp only [xm_cell]
    generalize newarray.typeOf atype = ty at hpr
    rcases hpr with rfl | rfl | rfl | rfl <;> rfl
  have ews := xm_ws_push (aC := aC) (ad := ad) (sh := sh) (μ := μ) (q := q) (x := .inr (newarray.typeOf atype, N)) g7
  rw [ecell] at ews
  have k2 := kk p l e s m args below meth c0 Z A D aC (xm_ad ad sh.length q) H1 locs ls hc hA ⟨by rw [ews]; exact hP, by rw [ews]; exact hD, hS, g4, xm_Stat_ad (fun c hc => hold c (Or.inr hc)) g5, xm_Ex_ad (fun c hc => hold c (Or.inr hc)) g6, xm_wf_push g7⟩ (xm_okL_L hold hok hl) hal (fun r sh2 μ2 ad2 H2 locs2 al2 ls2 pc2 a1 a2 => hret r sh2 μ2 ad2 H2 locs2 al2 ls2 pc2 a1 (xm_Ext.tr (fz := false) (sh1 := sh ++ [.inr (newarray.typeOf atype, N)]) (ad1 := xm_ad ad sh.length q) ⟨by simp, hold⟩ a2))
  rw [List.map_cons, xm_okL_S hold hok, show xv (xm_ad ad sh.length q) (.ref sh.length) = .ref q by simp [xv, xm_ad]] at k2
  exact k2
theorem xs_newq (sh' : xm_Sh) (N : Nat) {x : Int32} {C : String} (t0 : Nat) (hd : decode κ.2.1 pc = .ok (.anewarray idx, 3)) (hC : C = RX1 ∨ C = RX7) (ht : ∀ aC, (xm_tys aC)[t0]? = some (aC (.object C), .object C)) (hw : Cond.classLink κ.1.cls idx C ∈ xm_tbl) (hx : ¬ x < 0) (hN : x.toNatClampNeg = N) (hby : N * 4 ≤ 536870912) (hn : sh.length = n) (hok : xm_okL n L S) (hbig : n < 900) (hal : al.1 + 1 ≤ κ.2.2.2.2.cells ∧ al.2 + N ≤ κ.2.2.2.2.slots) (hsh : sh ++ [.inr (.object C, N)] = sh')
    (kk : xR κ E false P (pc + 3) L (.ref n :: S) sh' (al.1 + 1, al.2 + N) (xm_nw μ n)) : xR κ E false P pc L (.int x :: S) sh al μ := by
  intro p l e s m args below meth c0 Z A D aC ad H locs ls hc hA hst hl ha hret
  subst hn
  subst hsh
  obtain ⟨g1, g2, g3, g4, g5, g6, g7⟩ := hst
  have hts := hc.2.2.2.2.1
  have hover : va_AO C s := by
    rcases hC with rfl | rfl
    · exact g5.2.1
    · exact g5.2.2
  refine va_newq hc.1 hc.2.1 hc.2.2.2.1 (hts _ hw) hover g4 g1 g2 g3 hA hx hN hby hal.1 hal.2 hd (fun q cA H1 hK hP hD hS => ?_)
  have hcA : cA = aC (.object C) := by
    obtain ⟨-, -, -, -, -, h1⟩ := (hK.2 (xm_tys aC).length (cA, .object C) (by simp)).2
    obtain ⟨-, -, -, -, -, h2⟩ := (g4.2 t0 _ (ht aC)).2
    exact Option.some.inj (h1.symm.trans h2)
  subst hcA
  have hold := xm_ad_old (ad := ad) (n := sh.length) (q := q) hbig
  have ecell : xm_cell aC (xm_ad ad sh.length q) (xm_nw μ sh.length) sh.length (.inr (.object C, N)) = .inl (aC (.object C), N, .inr (.inr (.inr (.inr (fun _ => none))))) := by
    simp [xm_cell, xm_arr, xm_nw, va_up]
  have ews := xm_ws_push (aC := aC) (ad := ad) (sh := sh) (μ := μ) (q := q) (x := .inr (.object C, N)) g7
  rw [ecell] at ews
  have k2 := kk p l e s m args below meth c0 Z A D aC (xm_ad ad sh.length q) H1 locs ls hc hA ⟨by rw [ews]; exact hP, by rw [ews]; exact hD, hS, g4, xm_Stat_ad (fun c hc => hold c (Or.inr hc)) g5, xm_Ex_ad (fun c hc => hold c (Or.inr hc)) g6, xm_wf_push g7⟩ (xm_okL_L hold hok hl) hal (fun r sh2 μ2 ad2 H2 locs2 al2 ls2 pc2 a1 a2 => hret r sh2 μ2 ad2 H2 locs2 al2 ls2 pc2 a1 (xm_Ext.tr (fz := false) (sh1 := sh ++ [.inr (.object C, N)]) (ad1 := xm_ad ad sh.length q) ⟨by simp, hold⟩ a2))
  rw [List.map_cons, xm_okL_S hold hok, show xv (xm_ad ad sh.length q) (.ref sh.length) = .ref q by simp [xv, xm_ad]] at k2
  exact k2
/-- a constructor is called: it may make cells -/
theorem xs_callI {P' : Option Value → xm_Sh → xm_M → Prop} (hd : decode κ.2.1 pc = .ok (.invokespecial idx, 3)) (hC : xC j false sh μ [.ref c] P') (hlk : xm_lk κ j idx 0) (hlv : Cond.instanceMethod j.1 ∈ xm_tbl) (hnm : j.1.name = "<init>") (hrt : j.2.2.2.1 = none) (hrm : xm_rm κ j) (hcat : (S.map fun v => v.category).sum ≤ 8) (hn : sh.length = n) (hok : xm_okL n L S) (hal : al.1 + j.2.2.2.2.cells ≤ κ.2.2.2.2.cells ∧ al.2 + j.2.2.2.2.slots ≤ κ.2.2.2.2.slots)
    (kk : ∀ (r : Option Value) (sh' : xm_Sh) (μ' : xm_M), P' r sh' μ' → r = none ∧ xR κ E false P (pc + 3) L S sh' (al.1 + j.2.2.2.2.cells, al.2 + j.2.2.2.2.slots) μ') : xR κ E false P pc L (.ref c :: S) sh al μ := by
  intro p l e s m args below meth c0 Z A D aC ad H locs ls hc hA hst hl ha hret
  subst hn
  have hFA := xm_freeA hA hst
  have hts := hc.2.2.2.2.1
  have hgd := xm_gd hlk
  have cw := cwI (R := κ.2.2.2.2) (s := s) (args := args) (own := κ.1.cls) (index := idx) (y := j.1) (bytes := j.2.1) (maxL := j.2.2.1) (Ts := xm_tbl) (ws := xm_wsM j) (ws' := xm_tbl) (rm := j.2.2.2.2) 0 hts hgd (by unfold xm_wsM; rw [hrt]) rfl rfl (hts _ hlk.2.2.1) (hts _ hlk.1) (hts _ hlv) hnm hlk.2.2.2 hrm
  refine xm_call (va_runI (As := []) (rest := S.map (xv ad)) (b := ad c) ⟨hc.1, hc.2.1, hc.2.2.1, hc.2.2.2.1, hts⟩ (hC l D aC ad H.size) cw ⟨xm_blind, fun U hU hW => xm_pre hA hst U hU hW⟩ rfl rfl hl.1 (by simp [xv]) (lv_room (by rw [xv_cats]; exact hcat)) hd hal) hst.2.2.1 hFA hFA ?_
  intro r sh' μ' ad' H1 locs1 hP' hE hP hD hw hS
  obtain ⟨rfl, k1⟩ := kk r sh' μ' hP'
  have hE2 : sh.length ≤ sh'.length ∧ ∀ c, c < sh.length ∨ 900 ≤ c → ad' c = ad c := hE
  have k2 := k1 p l e s m args below meth c0 Z A D aC ad' H1 locs1 ls hc hA ⟨hP, hD, hS, hst.2.2.2.1, xm_Stat_ad (fun c hc => hE2.2 c (Or.inr hc)) hst.2.2.2.2.1, xm_Ex_ad (fun c hc => hE2.2 c (Or.inr hc)) hst.2.2.2.2.2.1, hw⟩ (xm_okL_L hE2.2 hok hl) hal (fun r sh2 μ2 ad2 H2 locs2 al2 ls2 pc2 a1 a2 => hret r sh2 μ2 ad2 H2 locs2 al2 ls2 pc2 a1 (xm_Ext.tr (fz := false) hE a2))
  rw [xm_okL_S hE2.2 hok] at k2
  simpa using k2
end XN
