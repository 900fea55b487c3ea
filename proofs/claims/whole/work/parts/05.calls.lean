/-! ===== from xR to a contract; calls; making ===== -/
theorem xm_good : ∀ w ∈ xm_tbl, (w.onTables && w.keeps) = true ∨ ∃ ty, w = .arrayClass ty := fun w h => good_of_word (List.mem_filter.mp h).2
def xl_of : List Value → List (Option Value)
  | [] => []
  | v :: vs => if v.category = 2 then some v :: none :: xl_of vs else some v :: xl_of vs
theorem xl_of_get : ∀ (As : List Value) (i0 k : Nat) (v : Value), (xl_of As)[k]? = some (some v) → (i0 + k, v) ∈ lv_args i0 As
  | [], i0, k, v, h => by simp [xl_of] at h
  | a :: as, i0, k, v, h => by
    unfold xl_of at h
    unfold lv_args
    split at h
    · rename_i hc
      rw [if_pos hc]
      match k, h with
      | 0, h =>
        simp at h
        subst h
        exact List.mem_cons_self
      | 1, h => simp at h
      | k + 2, h =>
        have := xl_of_get as (i0 + 2) k v (by simpa using h)
        rw [show i0 + (k + 2) = i0 + 2 + k by omega]
        exact List.mem_cons_of_mem _ this
    · rename_i hc
      rw [if_neg hc]
      match k, h with
      | 0, h =>
        simp at h
        subst h
        exact List.mem_cons_self
      | k + 1, h =>
        have := xl_of_get as (i0 + 1) k v (by simpa using h)
        rw [show i0 + (k + 1) = i0 + 1 + k by omega]
        exact List.mem_cons_of_mem _ this
theorem xl_args_map (ad : Nat → Nat) : ∀ (As : List Value) (i : Nat) (q : Nat × Value), q ∈ lv_args i As → (q.1, xv ad q.2) ∈ lv_args i (As.map (xv ad))
  | [], _, q, h => by simp [lv_args] at h
  | a :: as, i, q, h => by
    simp only [lv_args, List.map_cons, xv_cat] at h ⊢
    rcases List.mem_cons.mp h with rfl | h
    · exact List.mem_cons_self
    · exact List.mem_cons_of_mem _ (xl_args_map ad as _ q h)
theorem xl_sl_len (ad : Nat → Nat) : ∀ (As : List Value), (lg_sl (As.map (xv ad))).length = (lg_sl As).length
  | [] => rfl
  | a :: as => by
    have h := xl_sl_len ad as
    simp only [lg_sl, List.map_cons, List.flatMap_cons, List.length_append, xv_cat] at h ⊢
    rw [h]
    split <;> rfl
theorem xm_met {κ : xm_Meth} {fz : Bool} {sh : xm_Sh} {μ : xm_M} {As : List Value} {P : Option Value → xm_Sh → xm_M → Prop} (L : List (Option Value)) (n : Nat) (hy : plainName κ.1.cls = true) (hlen : (lg_sl As).length ≤ κ.2.2.1) (hL : xl_of As ++ List.replicate n none = L) (h : xR κ none fz P 0 L [] sh (0, 0) μ) : xC κ fz sh μ As P := by
  intro l D aC ad sz
  refine Met.ofW (cc := κ.2.1) (maxL := κ.2.2.1) (ret := κ.2.2.2.1) hy rfl ?_
  intro p e s m args below meth c s₁ B hml hv
  obtain ⟨rfl, hsz, hP, hK, hD0, hSt, hwf⟩ := hv
  have hts0 := atoms_spec (ws := xm_wsM κ) B.pre
  have hts : ∀ w ∈ xm_tbl, w.before (As.map (xv ad)).toArray s = true := fun w hw => hts0 w (List.mem_cons_of_mem _ hw)
  have hown : s.vm.findClass κ.1.cls = some m.cls := findClass_of_methodNamed B.named
  have hlocks := B.notSynchronized
  have hr := B.returns
  have hx := B.exec
  have hb := B.bytes
  subst hsz
  have hl := lv_entry (As.map (xv ad)) (n := κ.2.2.1) (by rw [xl_sl_len]; exact hlen)
  rw [lg_entry_eq]
  generalize (lg_sl (As.map (xv ad)) ++ List.replicate (κ.2.2.1 - (lg_sl (As.map (xv ad))).length) Slot.unset).toArray = ls at hl ⊢
  have hl2 : xl_has ad ls κ.2.2.1 L := by
    refine ⟨hl.1, hl.2.1, fun i v hi => ?_⟩
    rw [← hL] at hi
    have hi2 : (xl_of As)[i]? = some (some v) := by
      by_cases hlt : i < (xl_of As).length
      · rwa [List.getElem?_append_left hlt] at hi
      · rw [List.getElem?_append_right (by omega)] at hi
        have := List.eq_of_mem_replicate (List.mem_of_getElem? hi)
        cases this
    have h3 := xl_args_map ad As 0 (i, v) (by simpa using xl_of_get As 0 i v hi2)
    exact hl.2.2 _ h3
  refine h p l e s m (As.map (xv ad)).toArray below meth c _ (va_A (xm_ws aC ad sh μ) s.heap.size) D aC ad s.heap [] ls ⟨hx, hb, hml, hown, hts, (name_of_methodNamed B.named B.method).1⟩ (fun q hq => Or.inr hq) ⟨hP, hD0.self, va_S.rf, hK, hSt, (fun q hq => by cases hq), hwf⟩ hl2 ⟨Nat.zero_le _, Nat.zero_le _⟩ ?_
  intro r sh' μ' ad' H' locs' al' ls' pc' hPr hE hSt' hal hrk hdec
  obtain ⟨g1, g2, g3, -, -, -, g7⟩ := hSt'
  refine W.widen hal.1 hal.2 ?_
  generalize hret : κ.2.2.2.1 = ret at hrk hr
  match ret, r, hrk with
  | none, none, _ => exact W.vret hx hb hr (fun t ht hW => ⟨⟨none, sh', μ', ad', rfl, hPr, hE, by rw [ht]; exact g1, g2, g7⟩, g3.F ht⟩) g3.2.2 hdec hlocks
  | some .long, some (.long v), _ => exact W.lret hx hb hr (fun t ht hW => ⟨⟨some (.long v), sh', μ', ad', rfl, hPr, hE, by rw [ht]; exact g1, g2, g7⟩, g3.F ht⟩) g3.2.2 hdec hlocks
  | some (.object C), some (.ref a), _ => exact W.aret hx hb hr (Or.inl ⟨C, rfl⟩) (Or.inr ⟨_, rfl⟩) (fun t ht hW => ⟨⟨some (.ref a), sh', μ', ad', rfl, hPr, hE, by rw [ht]; exact g1, g2, g7⟩, g3.F ht⟩) g3.2.2 hdec hlocks
  | some .int, some (.int v), hn => exact W.zret hx hb hr hn (fun t ht hW => ⟨⟨some (.int v), sh', μ', ad', rfl, hPr, hE, by rw [ht]; exact g1, g2, g7⟩, g3.F ht⟩) g3.2.2 hdec hlocks
  | some .boolean, some (.int v), hn => exact W.zret hx hb hr hn (fun t ht hW => ⟨⟨some (.int v), sh', μ', ad', rfl, hPr, hE, by rw [ht]; exact g1, g2, g7⟩, g3.F ht⟩) g3.2.2 hdec hlocks
  | some .byte, some (.int v), hn => exact W.zret hx hb hr hn (fun t ht hW => ⟨⟨some (.int v), sh', μ', ad', rfl, hPr, hE, by rw [ht]; exact g1, g2, g7⟩, g3.F ht⟩) g3.2.2 hdec hlocks
  | some .char, some (.int v), hn => exact W.zret hx hb hr hn (fun t ht hW => ⟨⟨some (.int v), sh', μ', ad', rfl, hPr, hE, by rw [ht]; exact g1, g2, g7⟩, g3.F ht⟩) g3.2.2 hdec hlocks
  | some .short, some (.int v), hn => exact W.zret hx hb hr hn (fun t ht hW => ⟨⟨some (.int v), sh', μ', ad', rfl, hPr, hE, by rw [ht]; exact g1, g2, g7⟩, g3.F ht⟩) g3.2.2 hdec hlocks
  | some .long, some (.int v), hn => exact W.zret hx hb hr hn (fun t ht hW => ⟨⟨some (.int v), sh', μ', ad', rfl, hPr, hE, by rw [ht]; exact g1, g2, g7⟩, g3.F ht⟩) g3.2.2 hdec hlocks
  | some .double, some (.int v), hn => exact W.zret hx hb hr hn (fun t ht hW => ⟨⟨some (.int v), sh', μ', ad', rfl, hPr, hE, by rw [ht]; exact g1, g2, g7⟩, g3.F ht⟩) g3.2.2 hdec hlocks
  | some .float, some (.int v), hn => exact W.zret hx hb hr hn (fun t ht hW => ⟨⟨some (.int v), sh', μ', ad', rfl, hPr, hE, by rw [ht]; exact g1, g2, g7⟩, g3.F ht⟩) g3.2.2 hdec hlocks
  | some (.object C), some (.int v), hn => exact W.zret hx hb hr hn (fun t ht hW => ⟨⟨some (.int v), sh', μ', ad', rfl, hPr, hE, by rw [ht]; exact g1, g2, g7⟩, g3.F ht⟩) g3.2.2 hdec hlocks
  | some (.array C), some (.int v), hn => exact W.zret hx hb hr hn (fun t ht hW => ⟨⟨some (.int v), sh', μ', ad', rfl, hPr, hE, by rw [ht]; exact g1, g2, g7⟩, g3.F ht⟩) g3.2.2 hdec hlocks
theorem xm_blind {D : va_G} {aC : FieldType → ClassId} {ad : Nat → Nat} {sh : xm_Sh} {μ : xm_M} {As : List Value} {sz : Nat} : FrameBlind (xm_Pc D aC ad sh μ As sz) := by
  intro a U g mk h
  obtain ⟨h1, h2, h3, h4, h5, h6, h7⟩ := h
  exact ⟨h1, h2, h3, va_K.moved (u := U) (U := U.calling g mk a) (Vm.Alike.refl U.vm) h4, h5, ⟨fun k q hq => ⟨va_Z.moved (u := U) (U := U.calling g mk a) (Vm.Alike.refl U.vm) (h6.1 k q hq).1, va_T.moved (u := U) (U := U.calling g mk a) (Vm.Alike.refl U.vm) (h6.1 k q hq).2⟩, va_AO.moved (u := U) (U := U.calling g mk a) (Vm.Alike.refl U.vm) h6.2.1, va_AO.moved (u := U) (U := U.calling g mk a) (Vm.Alike.refl U.vm) h6.2.2⟩, h7⟩
theorem xm_freeA {E : Option (Nat × (Nat → Int32))} {D : va_G} {aC : FieldType → ClassId} {ad : Nat → Nat} {sh : xm_Sh} {μ : xm_M} {A : Nat → Prop} {s : State} {H : Heap} {locs : List Loc} (hA : ∀ q, s.heap.size ≤ q → A q) (hst : xm_St E D aC ad sh μ A s H locs) : ∀ q, va_A (xm_ws aC ad sh μ) H.size q → A q := by
  intro q hq
  rcases hq with ⟨k, x, hk⟩ | hq
  · exact hst.2.1.2 k (q, x) hk
  · exact hA q (Nat.le_trans hst.2.2.1.1 hq)
theorem xm_pre {E : Option (Nat × (Nat → Int32))} {D : va_G} {aC : FieldType → ClassId} {ad : Nat → Nat} {sh : xm_Sh} {μ : xm_M} {A : Nat → Prop} {s : State} {H : Heap} {locs : List Loc} {As : List Value} (hA : ∀ q, s.heap.size ≤ q → A q) (hst : xm_St E D aC ad sh μ A s H locs) : ∀ U : State, U.heap = H → s.WarmedH U.vm → xm_Pc D aC ad sh μ As H.size (As.map (xv ad)).toArray U := by
  intro U hU hW
  have hf := xm_freeA hA hst
  obtain ⟨h1, h2, h3, h4, h5, h6, h7⟩ := hst
  refine ⟨rfl, by rw [hU], by rw [hU]; exact h1, va_K.moved hW.alike h4, h2.weaken (fun _ _ _ _ => trivial), ⟨fun k q hq => ?_, va_AO.moved hW.alike h5.2.1, va_AO.moved hW.alike h5.2.2⟩, h7⟩
  rw [hU]
  obtain ⟨z1, z2⟩ := h5.1 k q hq
  exact ⟨va_Z.moved hW.alike ((z1.kept (H1 := H) h3.2.1).narrow hf), va_T.moved hW.alike ((z2.kept (H1 := H) h3.2.1).narrow hf)⟩
theorem xm_call {p : Program} {l : Launch} {e : Env} {R : Room} {s : State} {m : MethodId} {args : Array Value} {below : List Frame} {meth : Method} {c : Code} {H : Heap} {locs : List Loc} {cells slots mc ms pc : Nat} {Q : State → Prop} {ls : Array Slot} {rest st0 : List Value} {A0 free : Nat → Prop} {a : Array Value}
    {D : va_G} {aC : FieldType → ClassId} {ad : Nat → Nat} {fz : Bool} {sh : xm_Sh} {μ : xm_M} {P : Option Value → xm_Sh → xm_M → Prop}
    (hr : va_Run p l e R s m args below meth c H locs cells slots mc ms (F0 m pc ls st0) rest (xm_Qc D aC ad fz sh μ H.size P a) free) (hS : va_S A0 s.heap H locs) (hA : ∀ q, va_A (xm_ws aC ad sh μ) H.size q → A0 q) (hf : ∀ q, free q → A0 q)
    (kk : ∀ (r : Option Value) (sh' : xm_Sh) (μ' : xm_M) (ad' : Nat → Nat) (H1 : Heap) (locs1 : List Loc), P r sh' μ' → xm_Ext fz sh ad sh' ad' → va_P D vwCl (xm_ws aC ad' sh' μ') H1 → va_D A0 (xm_ws aC ad' sh' μ') → xm_wf sh' μ' → va_S A0 s.heap H1 locs1 → W p l e R s m args below meth c H1 locs1 (cells + mc) (slots + ms) Q (F0 m (pc + 3) ls ((r.map (xv ad')).toList ++ rest))) : W p l e R s m args below meth c H locs cells slots Q (F0 m pc ls st0) := by
  intro T hT X
  obtain ⟨v, st₀, t, T', L, h0, X', hL, e1, e2, ⟨⟨r, sh', μ', ad', hv, hp, hE, hP, hD, hw⟩, hz, hk⟩, st⟩ := hr T hT X
  cases hv
  rw [h0] at hz hk
  obtain ⟨t2, a1, b1⟩ := kk r sh' μ' ad' T'.heap (locs ++ L) hp hE (by rw [e1]; exact hP) (hD.weaken (fun k q _ h => hA q.1 h)) hw
    ⟨Nat.le_trans hS.1 (by rw [e1]; exact hz), fun q h1 h2 => by rw [e1, hk q (Nat.lt_of_lt_of_le h1 hS.1) (fun z => h2 (hA q z))]; exact hS.2.1 q h1 h2, fun q hq => by
      rcases List.mem_append.mp hq with h | h
      · exact hS.2.2 q h
      · exact hf _ (hL q h)⟩ T' rfl X'
  exact ⟨t2, st t2 a1, b1⟩
/-- what the tables say of a call -/
def xm_lk (κ j : xm_Meth) (idx n : Nat) : Prop := Cond.methodLink κ.1.cls idx j.1 ∈ xm_tbl ∧ Cond.code j.1 j.2.1 j.2.2.1 j.2.2.2.1 ∈ xm_tbl ∧ Cond.initialized j.1.cls ∈ xm_tbl ∧ (j.1.cls ≠ "java/lang/invoke/MethodHandle" ∧ j.1.cls ≠ "java/lang/invoke/VarHandle" ∧ (parseMethodDescriptor j.1.desc).map (fun d => d.parameters.length) = some n)
def xm_rm (κ j : xm_Meth) : Prop := j.2.2.2.2.frames + 1 ≤ κ.2.2.2.2.frames ∧ 8 + (j.2.2.1 + 11) + j.2.2.2.2.locals ≤ κ.2.2.2.2.locals
theorem xm_gd {κ j : xm_Meth} {idx n : Nat} (h : xm_lk κ j idx n) : GoodIn xm_tbl (xm_wsM j) := by
  intro w hw
  rcases List.mem_cons.mp hw with rfl | hw
  · exact ⟨h.2.1, xm_good _ h.2.1⟩
  · exact ⟨hw, xm_good _ hw⟩
section XK
variable {κ j : xm_Meth} {E : Option (Nat × (Nat → Int32))} {fz : Bool} {P : Option Value → xm_Sh → xm_M → Prop} {pc : Nat} {L : List (Option Value)} {S : List Value} {sh : xm_Sh} {al : Nat × Nat} {μ : xm_M} {c idx ci k n : Nat}
theorem xs_callV {As : List Value} {P' : Option Value → xm_Sh → xm_M → Prop} (hd : decode κ.2.1 pc = .ok (.invokevirtual idx, 3)) (hC : xC j true sh μ (.ref c :: As) P') (hlk : xm_lk κ j idx n) (hlv : Cond.instanceMethod j.1 ∈ xm_tbl ∧ Cond.selects j.1.cls j.1 j.1 ∈ xm_tbl) (hrm : xm_rm κ j) (hn : As.length = n) (hcat : (S.map fun v => v.category).sum ≤ 8) (hs : sh[c]? = some (.inl ci)) (hci : (vwCl[ci]?).map (fun q => q.1) = some j.1.cls) (h0 : j.2.2.2.2.cells = 0 ∧ j.2.2.2.2.slots = 0)
    (kk : ∀ (r : Option Value) (μ' : xm_M), P' r sh μ' → xR κ E fz P (pc + 3) L (r.toList ++ S) sh al μ') : xR κ E fz P pc L (As.reverse ++ .ref c :: S) sh al μ := by
  intro p l e s m args below meth c0 Z A D aC ad H locs ls hc hA hst hl ha hret
  have hFA := xm_freeA hA hst
  have cw := cwV (R := κ.2.2.2.2) (s := s) (args := args) (own := κ.1.cls) (index := idx) (C := j.1.cls) (y := j.1) (Ts := xm_tbl) (ws := xm_wsM j) (rm := j.2.2.2.2) n hc.2.2.2.2.1 (by
    intro w hw
    rcases List.mem_append.mp hw with hw | hw
    · simp only [List.mem_cons, List.not_mem_nil, or_false] at hw
      rcases hw with rfl | rfl | rfl | rfl
      · exact ⟨hlk.1, xm_good _ hlk.1⟩
      · exact ⟨hlv.1, xm_good _ hlv.1⟩
      · exact ⟨hlv.2, xm_good _ hlv.2⟩
      · exact ⟨hlk.2.2.1, xm_good _ hlk.2.2.1⟩
    · exact xm_gd hlk w hw) rfl rfl rfl ⟨rfl, hlk.2.2.2⟩ hrm
  have hrecv : ∃ cell : Cell, H[ad c]? = some cell ∧ cell.vm.isStatics = false ∧ s.vm.findClass j.1.cls = some cell.cls := by
    cases hv : vwCl[ci]? with
    | none => rw [hv] at hci; cases hci
    | some q =>
      rw [hv] at hci
      have hq : q.1 = j.1.cls := Option.some.inj hci
      rw [← hq]
      exact va_recv hst.2.2.2.1 hst.1 hv (xm_ws_get hs)
  refine xm_call (va_runV (As := As.map (xv ad)) (rest := S.map (xv ad)) (b := ad c) ⟨hc.1, hc.2.1, hc.2.2.1, hc.2.2.2.1, hc.2.2.2.2.1⟩ (hC l D aC ad H.size) cw ⟨xm_blind, hrecv, fun U hU hW => xm_pre hA hst U hU hW⟩ rfl (by rw [List.length_map]; exact hn) hl.1 (by simp [xv]) (lv_room (by rw [xv_cats]; exact hcat)) hd (by rw [h0.1, h0.2]; exact ha)) hst.2.2.1 hFA hFA ?_
  intro r sh' μ' ad' H1 locs1 hP' hE hP hD hw hS
  obtain ⟨rfl, rfl⟩ := hE
  rw [h0.1, h0.2]
  have k2 := kk r μ' hP' p l e s m args below meth c0 Z A D aC ad' H1 locs1 ls hc hA ⟨hP, hD, hS, hst.2.2.2.1, hst.2.2.2.2.1, hst.2.2.2.2.2.1, hw⟩ hl ha hret
  rw [List.map_append] at k2
  have e9 : r.toList.map (xv ad') = (r.map (xv ad')).toList := by cases r <;> rfl
  rw [e9] at k2
  exact k2
theorem xs_callS {As : List Value} {P' : Option Value → xm_Sh → xm_M → Prop} (hd : decode κ.2.1 pc = .ok (.invokestatic idx, 3)) (hC : xC j true sh μ As P') (hlk : xm_lk κ j idx n) (hlv : Cond.static j.1 ∈ xm_tbl) (hrm : xm_rm κ j) (hn : As.length = n) (hcat : (S.map fun v => v.category).sum ≤ 8) (h0 : j.2.2.2.2.cells = 0 ∧ j.2.2.2.2.slots = 0)
    (kk : ∀ (r : Option Value) (μ' : xm_M), P' r sh μ' → xR κ E fz P (pc + 3) L (r.toList ++ S) sh al μ') : xR κ E fz P pc L (As.reverse ++ S) sh al μ := by
  intro p l e s m args below meth c0 Z A D aC ad H locs ls hc hA hst hl ha hret
  have hFA := xm_freeA hA hst
  have cw := va_cwS (R := κ.2.2.2.2) (s := s) (args := args) (own := κ.1.cls) (index := idx) (y := j.1) (Ts := xm_tbl) (ws := xm_wsM j) (rm := j.2.2.2.2) n hc.2.2.2.2.1 (by
    intro w hw
    rcases List.mem_append.mp hw with hw | hw
    · simp only [List.mem_cons, List.not_mem_nil, or_false] at hw
      rcases hw with rfl | rfl | rfl
      · exact ⟨hlk.1, xm_good _ hlk.1⟩
      · exact ⟨hlv, xm_good _ hlv⟩
      · exact ⟨hlk.2.2.1, xm_good _ hlk.2.2.1⟩
    · exact xm_gd hlk w hw) rfl rfl rfl hlk.2.2.2 hrm
  refine xm_call (va_runS (As := As.map (xv ad)) (rest := S.map (xv ad)) ⟨hc.1, hc.2.1, hc.2.2.1, hc.2.2.2.1, hc.2.2.2.2.1⟩ (hC l D aC ad H.size) cw ⟨xm_blind, fun U hU hW => xm_pre hA hst U hU hW⟩ rfl (by rw [List.length_map]; exact hn) hl.1 (by simp) (lv_room (by rw [xv_cats]; exact hcat)) hd (by rw [h0.1, h0.2]; exact ha)) hst.2.2.1 hFA hFA ?_
  intro r sh' μ' ad' H1 locs1 hP' hE hP hD hw hS
  obtain ⟨rfl, rfl⟩ := hE
  rw [h0.1, h0.2]
  have k2 := kk r μ' hP' p l e s m args below meth c0 Z A D aC ad' H1 locs1 ls hc hA ⟨hP, hD, hS, hst.2.2.2.1, hst.2.2.2.2.1, hst.2.2.2.2.2.1, hw⟩ hl ha hret
  rw [List.map_append] at k2
  have e9 : r.toList.map (xv ad') = (r.map (xv ad')).toList := by cases r <;> rfl
  rw [e9] at k2
  exact k2
end XK
