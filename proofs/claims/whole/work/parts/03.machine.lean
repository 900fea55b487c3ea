
/-! ===== THE ABSTRACT MACHINE: memory by cell numbers, one world for all methods ===== -/
abbrev xm_M : Type := (Nat → Nat → Int32) × (Nat → Nat → Int64) × (Nat → Nat → Option Nat)
def xm_tbl : List Cond := lw_tbl.filter goodWord
theorem xm_in {w : Cond} (h : w ∈ lw_tbl) (hg : goodWord w = true) : w ∈ xm_tbl := List.mem_filter.mpr ⟨h, hg⟩
theorem xm_tl {w : Cond} (h : w ∈ xm_tbl) : w ∈ lw_tbl := (List.mem_filter.mp h).1
abbrev xm_Sh : Type := List (Nat ⊕ (FieldType × Nat))
/-- a method: its name, code, locals, answer's type, room -/
abbrev xm_Meth : Type := MethodName × ByteArray × Nat × Option FieldType × Room
def xm_ty (ci : Nat) : Nat → FieldType := match ci with
  | 0 => tyX0 | 1 => tyX1 | 2 => tyX2 | 3 => tyX3 | 4 => tyX4 | 5 => tyX5 | 6 => tyX6 | 7 => tyX7 | 8 => tyX8 | _ => tyX9
def xm_nf (ci : Nat) : Nat := match vwCl[ci]? with
  | some q => q.2.2
  | none => 0
def xv (ad : Nat → Nat) : Value → Value
  | .ref c => .ref (ad c)
  | .int x => .int x
  | .long x => .long x
  | v => v
def xm_val (ad : Nat → Nat) (μ : xm_M) (c k : Nat) (ty : FieldType) : Value := match ty with
  | .long => .long (μ.2.1 c k)
  | .object _ => va_rf ((μ.2.2 c k).map ad)
  | .array _ => va_rf ((μ.2.2 c k).map ad)
  | _ => .int (μ.1 c k)
def xm_arr (ad : Nat → Nat) (μ : xm_M) (c : Nat) (ty : FieldType) : ((Nat → Int32) ⊕ (Nat → Int64) ⊕ (Nat → UInt32) ⊕ (Nat → UInt64) ⊕ (Nat → Option Nat)) := match ty with
  | .long => .inr (.inl (μ.2.1 c))
  | .object _ => .inr (.inr (.inr (.inr (fun j => (μ.2.2 c j).map ad))))
  | _ => .inl (μ.1 c)
def xm_cell (aC : FieldType → ClassId) (ad : Nat → Nat) (μ : xm_M) (c : Nat) (q : Nat ⊕ (FieldType × Nat)) : va_E := match q with
  | .inl ci => .inr (ci, (List.range (xm_nf ci)).map (fun k => xm_val ad μ c k (xm_ty ci k)))
  | .inr a => .inl (aC a.1, a.2, xm_arr ad μ c a.1)
def xm_ws (aC : FieldType → ClassId) (ad : Nat → Nat) (sh : xm_Sh) (μ : xm_M) : va_W := sh.mapIdx (fun c q => (ad c, xm_cell aC ad μ c q))
def xm_tys (aC : FieldType → ClassId) : List (ClassId × FieldType) := [(aC .int, .int), (aC .byte, .byte), (aC .boolean, .boolean), (aC .long, .long), (aC (.object RX1), .object RX1), (aC (.object RX7), .object RX7)]
def xm_stat : List (String × String × List Int32) := [
  ("SongReader$Sums", "COSINES", [4096, 4091, 4076, 4052, 4017, 3973, 3920, 3857, 3784, 3703, 3612, 3513, 3406, 3290, 3166, 3035, 2896, 2751, 2598, 2440, 2276, 2106, 1931, 1751, 1567, 1380, 1189, 995, 799, 601, 401, 201, 0]),
  ("SongReader$Sums", "WINDOW", [15, 138, 379, 726, 1160, 1652, 2167, 2665, 3110, 3476, 3748, 3928, 4031, 4078, 4094, 4096]),
  ("SongReader$Tape", "TURNS", [0x00000000, 0x04c11db7, 0x09823b6e, 0x0d4326d9, 0x130476dc, 0x17c56b6b, 0x1a864db2, 0x1e475005, 0x2608edb8, 0x22c9f00f, 0x2f8ad6d6, 0x2b4bcb61, 0x350c9b64, 0x31cd86d3, 0x3c8ea00a, 0x384fbdbd]),
  ("SongReader$Curve", "RANGES", [256, 128, 86, 64]),
  ("SongReader$Curve", "RANGE_BITS", [8, 7, 7, 6]),
  ("SongReaderModel", "COSINES", [4096, 4091, 4076, 4052, 4017, 3973, 3920, 3857, 3784, 3703, 3612, 3513, 3406, 3290, 3166, 3035, 2896, 2751, 2598, 2440, 2276, 2106, 1931, 1751, 1567, 1380, 1189, 995, 799, 601, 401, 201, 0]),
  ("SongReaderModel", "WINDOW", [15, 138, 379, 726, 1160, 1652, 2167, 2665, 3110, 3476, 3748, 3928, 4031, 4078, 4094, 4096])]
def xm_Stat (ad : Nat → Nat) (A : Nat → Prop) (U : State) (H : Heap) : Prop := (∀ (k : Nat) (q : String × String × List Int32), xm_stat[k]? = some q → va_Z q.1 q.2.1 "[I" (.ref (ad (1000 + k))) A U H ∧ va_T .int (ad (1000 + k)) q.2.2.length (fun j => .int (q.2.2.getD j 0)) A U H) ∧ va_AO RX1 U ∧ va_AO RX7 U
def xm_Ex (E : Option (Nat × (Nat → Int32))) (ad : Nat → Nat) (A : Nat → Prop) (U : State) (H : Heap) : Prop := ∀ q, E = some q → va_T .int (ad 999) q.1 (fun j => .int (q.2 j)) A U H
def xm_wf (sh : xm_Sh) (μ : xm_M) : Prop := ∀ (c k r : Nat), c < sh.length → μ.2.2 c k = some r → r < sh.length
def xm_St (E : Option (Nat × (Nat → Int32))) (D : va_G) (aC : FieldType → ClassId) (ad : Nat → Nat) (sh : xm_Sh) (μ : xm_M) (A : Nat → Prop) (s : State) (H : Heap) (locs : List Loc) : Prop :=
  va_P D vwCl (xm_ws aC ad sh μ) H ∧ va_D A (xm_ws aC ad sh μ) ∧ va_S A s.heap H locs ∧ va_K D vwCl (xm_tys aC) s ∧ xm_Stat ad A s s.heap ∧ xm_Ex E ad A s s.heap ∧ xm_wf sh μ
def xl_has (ad : Nat → Nat) (ls : Array Slot) (n : Nat) (L : List (Option Value)) : Prop := ls.size = n ∧ lv_wf ls ∧ ∀ (i : Nat) (v : Value), L[i]? = some (some v) → ls[i]? = some (.val (xv ad v))
def xm_Ext (fz : Bool) (sh : xm_Sh) (ad : Nat → Nat) (sh' : xm_Sh) (ad' : Nat → Nat) : Prop := match fz with
  | true => sh' = sh ∧ ad' = ad
  | false => sh.length ≤ sh'.length ∧ ∀ c, c < sh.length ∨ 900 ≤ c → ad' c = ad c
theorem xm_Ext.rf {fz : Bool} {sh : xm_Sh} {ad : Nat → Nat} : xm_Ext fz sh ad sh ad := by
  cases fz
  · exact ⟨Nat.le_refl _, fun _ _ => rfl⟩
  · exact ⟨rfl, rfl⟩
theorem xm_Ext.tr {fz : Bool} {sh sh1 sh2 : xm_Sh} {ad ad1 ad2 : Nat → Nat} (h1 : xm_Ext fz sh ad sh1 ad1) (h2 : xm_Ext fz sh1 ad1 sh2 ad2) : xm_Ext fz sh ad sh2 ad2 := by
  cases fz
  · obtain ⟨a1, a2⟩ := h1
    obtain ⟨b1, b2⟩ := h2
    exact ⟨Nat.le_trans a1 b1, fun c hc => (b2 c (hc.elim (fun h => Or.inl (Nat.lt_of_lt_of_le h a1)) Or.inr)).trans (a2 c hc)⟩
  · obtain ⟨rfl, rfl⟩ := h1
    exact h2
def xm_rk : Option FieldType → Option Value → Prop
  | none, none => True
  | some .long, some (.long _) => True
  | some (.object _), some (.ref _) => True
  | some ty, some (.int v) => narrow ty (.int v) = .int v
  | _, _ => False
def xm_ri : Option Value → Instr
  | none => .return_
  | some (.int _) => .ireturn
  | some (.long _) => .lreturn
  | _ => .areturn
def xm_ctx (κ : xm_Meth) (p : Program) (s : State) (m : MethodId) (args : Array Value) (meth : Method) (c : Code) : Prop :=
  p.tables.exec = Jvm.exec ∧ c.code = κ.2.1 ∧ c.maxLocals = κ.2.2.1 ∧ s.vm.findClass κ.1.cls = some m.cls ∧ (∀ w ∈ xm_tbl, w.before args s = true) ∧ meth.name = κ.1.name
/-- from this frame and memory the method comes to its end with P -/
def xR (κ : xm_Meth) (E : Option (Nat × (Nat → Int32))) (fz : Bool) (P : Option Value → xm_Sh → xm_M → Prop) (pc : Nat) (L : List (Option Value)) (S : List Value) (sh : xm_Sh) (al : Nat × Nat) (μ : xm_M) : Prop :=
  ∀ (p : Program) (l : Launch) (e : Env) (s : State) (m : MethodId) (args : Array Value) (below : List Frame) (meth : Method) (c : Code) (Z : State → Prop) (A : Nat → Prop) (D : va_G) (aC : FieldType → ClassId) (ad : Nat → Nat) (H : Heap) (locs : List Loc) (ls : Array Slot),
    xm_ctx κ p s m args meth c → (∀ q, s.heap.size ≤ q → A q) → xm_St E D aC ad sh μ A s H locs → xl_has ad ls κ.2.2.1 L → (al.1 ≤ κ.2.2.2.2.cells ∧ al.2 ≤ κ.2.2.2.2.slots) →
    (∀ (r : Option Value) (sh' : xm_Sh) (μ' : xm_M) (ad' : Nat → Nat) (H' : Heap) (locs' : List Loc) (al' : Nat × Nat) (ls' : Array Slot) (pc' : Nat), P r sh' μ' → xm_Ext fz sh ad sh' ad' → xm_St E D aC ad' sh' μ' A s H' locs' → (al'.1 ≤ κ.2.2.2.2.cells ∧ al'.2 ≤ κ.2.2.2.2.slots) → xm_rk κ.2.2.2.1 r → decode κ.2.1 pc' = .ok (xm_ri r, 1) → W p l e κ.2.2.2.2 s m args below meth c H' locs' al'.1 al'.2 Z (F0 m pc' ls' (r.toList.map (xv ad')))) →
    W p l e κ.2.2.2.2 s m args below meth c H locs al.1 al.2 Z (F0 m pc ls (S.map (xv ad)))
def xm_wsM (κ : xm_Meth) : List Cond := Cond.code κ.1 κ.2.1 κ.2.2.1 κ.2.2.2.1 :: xm_tbl
def xm_Pc (D : va_G) (aC : FieldType → ClassId) (ad : Nat → Nat) (sh : xm_Sh) (μ : xm_M) (As : List Value) (sz : Nat) : Array Value → State → Prop := fun v U =>
  v = (As.map (xv ad)).toArray ∧ U.heap.size = sz ∧ va_P D vwCl (xm_ws aC ad sh μ) U.heap ∧ va_K D vwCl (xm_tys aC) U ∧ va_D (fun _ => True) (xm_ws aC ad sh μ) ∧ xm_Stat ad (va_A (xm_ws aC ad sh μ) sz) U U.heap ∧ xm_wf sh μ
def xm_Qc (D : va_G) (aC : FieldType → ClassId) (ad : Nat → Nat) (fz : Bool) (sh : xm_Sh) (μ : xm_M) (sz : Nat) (P : Option Value → xm_Sh → xm_M → Prop) : Array Value → State → Outcome → State → Prop := fun _ st oc t =>
  (∃ (r : Option Value) (sh' : xm_Sh) (μ' : xm_M) (ad' : Nat → Nat), oc = .returned (r.map (xv ad')) ∧ P r sh' μ' ∧ xm_Ext fz sh ad sh' ad' ∧ va_P D vwCl (xm_ws aC ad' sh' μ') t.heap ∧ va_D (va_A (xm_ws aC ad sh μ) sz) (xm_ws aC ad' sh' μ') ∧ xm_wf sh' μ') ∧ va_F (va_A (xm_ws aC ad sh μ) sz) st t
/-- the contract: called with these values over this memory, the method ends with P -/
def xC (κ : xm_Meth) (fz : Bool) (sh : xm_Sh) (μ : xm_M) (As : List Value) (P : Option Value → xm_Sh → xm_M → Prop) : Prop :=
  ∀ (l : Launch) (D : va_G) (aC : FieldType → ClassId) (ad : Nat → Nat) (sz : Nat), Met l κ.1 (xm_wsM κ) κ.2.2.2.2 (xm_Pc D aC ad sh μ As sz) (xm_Qc D aC ad fz sh μ sz P) κ.2.2.2.2.cells κ.2.2.2.2.slots (va_A (xm_ws aC ad sh μ) sz)
-- memory
def xu_I (μ : xm_M) (c : Nat) (f : Nat → Int32) : xm_M := (va_up μ.1 c f, μ.2.1, μ.2.2)
def xu_L (μ : xm_M) (c : Nat) (f : Nat → Int64) : xm_M := (μ.1, va_up μ.2.1 c f, μ.2.2)
def xu_R (μ : xm_M) (c : Nat) (f : Nat → Option Nat) : xm_M := (μ.1, μ.2.1, va_up μ.2.2 c f)
theorem xm_ws_get {aC : FieldType → ClassId} {ad : Nat → Nat} {sh : xm_Sh} {μ : xm_M} {c : Nat} {q : Nat ⊕ (FieldType × Nat)} (h : sh[c]? = some q) : (xm_ws aC ad sh μ)[c]? = some (ad c, xm_cell aC ad μ c q) := by
  simp [xm_ws, List.getElem?_mapIdx, h]
theorem xm_ws_inv {aC : FieldType → ClassId} {ad : Nat → Nat} {sh : xm_Sh} {μ : xm_M} {c : Nat} {x : Nat × va_E} (h : (xm_ws aC ad sh μ)[c]? = some x) : ∃ q, sh[c]? = some q ∧ x = (ad c, xm_cell aC ad μ c q) := by
  simp only [xm_ws, List.getElem?_mapIdx, Option.map_eq_some_iff] at h
  obtain ⟨q, h1, h2⟩ := h
  exact ⟨q, h1, h2.symm⟩
theorem xm_ws_set {aC : FieldType → ClassId} {ad : Nat → Nat} {sh : xm_Sh} {μ μ' : xm_M} {c : Nat} {q : Nat ⊕ (FieldType × Nat)} (h : sh[c]? = some q) (hne : ∀ c' q', c' ≠ c → xm_cell aC ad μ' c' q' = xm_cell aC ad μ c' q') : (xm_ws aC ad sh μ).set c (ad c, xm_cell aC ad μ' c q) = xm_ws aC ad sh μ' := by
  have hl : c < (xm_ws aC ad sh μ).length := (List.getElem?_eq_some_iff.mp (xm_ws_get (aC := aC) (ad := ad) (μ := μ) h)).1
  apply List.ext_getElem?
  intro i
  by_cases hi : i = c
  · subst hi
    rw [List.getElem?_set_self hl, xm_ws_get h]
  · rw [List.getElem?_set_ne (Ne.symm hi)]
    simp only [xm_ws, List.getElem?_mapIdx]
    cases sh[i]? with
    | none => rfl
    | some q' => simp [hne i q' hi]
theorem xm_cell_uI {aC : FieldType → ClassId} {ad : Nat → Nat} {μ : xm_M} {c : Nat} {f : Nat → Int32} (c' : Nat) (q' : Nat ⊕ (FieldType × Nat)) (h : c' ≠ c) : xm_cell aC ad (xu_I μ c f) c' q' = xm_cell aC ad μ c' q' := by
  have e : va_up μ.1 c f c' = μ.1 c' := by simp [va_up, h]
  unfold xm_cell xm_val xm_arr xu_I
  simp only [e]
theorem xm_cell_uL {aC : FieldType → ClassId} {ad : Nat → Nat} {μ : xm_M} {c : Nat} {f : Nat → Int64} (c' : Nat) (q' : Nat ⊕ (FieldType × Nat)) (h : c' ≠ c) : xm_cell aC ad (xu_L μ c f) c' q' = xm_cell aC ad μ c' q' := by
  have e : va_up μ.2.1 c f c' = μ.2.1 c' := by simp [va_up, h]
  unfold xm_cell xm_val xm_arr xu_L
  simp only [e]
theorem xm_cell_uR {aC : FieldType → ClassId} {ad : Nat → Nat} {μ : xm_M} {c : Nat} {f : Nat → Option Nat} (c' : Nat) (q' : Nat ⊕ (FieldType × Nat)) (h : c' ≠ c) : xm_cell aC ad (xu_R μ c f) c' q' = xm_cell aC ad μ c' q' := by
  have e : va_up μ.2.2 c f c' = μ.2.2 c' := by simp [va_up, h]
  unfold xm_cell xm_val xm_arr xu_R
  simp only [e]
-- locals
def xl_lst (ad : Nat → Nat) (L : List (Option Value)) : List (Nat × Value) := L.zipIdx.filterMap (fun q => q.1.map (fun v => (q.2, xv ad v)))
theorem xl_lst_mem {ad : Nat → Nat} {L : List (Option Value)} {q : Nat × Value} : q ∈ xl_lst ad L ↔ ∃ v, L[q.1]? = some (some v) ∧ q.2 = xv ad v := by
  obtain ⟨i, w⟩ := q
  simp only [xl_lst, List.mem_filterMap]
  constructor
  · rintro ⟨⟨o, j⟩, h1, h2⟩
    rw [List.mk_mem_zipIdx_iff_getElem?] at h1
    cases o with
    | none => simp at h2
    | some v =>
      simp only [Option.map_some, Option.some.injEq, Prod.mk.injEq] at h2
      obtain ⟨rfl, rfl⟩ := h2
      exact ⟨v, h1, rfl⟩
  · rintro ⟨v, h1, rfl⟩
    exact ⟨(some v, i), List.mk_mem_zipIdx_iff_getElem?.mpr h1, rfl⟩
theorem xl_has.lv {ad : Nat → Nat} {ls : Array Slot} {n : Nat} {L : List (Option Value)} (h : xl_has ad ls n L) : lv_has ls n (xl_lst ad L) := by
  refine ⟨h.1, h.2.1, fun q hq => ?_⟩
  obtain ⟨v, h1, h2⟩ := xl_lst_mem.mp hq
  rw [h2]
  exact h.2.2 _ _ h1
def xl_killS (L : List (Option Value)) (j : Nat) : List (Option Value) := match L[j]? with
  | some (some (.long _)) => L.set j none
  | some (some (.double _)) => L.set j none
  | _ => L
def xl_kill (L : List (Option Value)) (i : Nat) : List (Option Value) := match i with
  | 0 => L
  | j + 1 => xl_killS L j
def xl_put1 (L : List (Option Value)) (i : Nat) (v : Value) : List (Option Value) := (xl_kill L i).set i (some v)
def xl_put2 (L : List (Option Value)) (i : Nat) (v : Value) : List (Option Value) := ((xl_kill L i).set i (some v)).set (i + 1) none
theorem xl_kill_get {L : List (Option Value)} {i k : Nat} {w : Value} (h : (xl_kill L i)[k]? = some (some w)) : L[k]? = some (some w) ∧ ¬ (k + 1 = i ∧ w.category = 2) := by
  cases i with
  | zero => exact ⟨h, fun q => by omega⟩
  | succ j =>
    replace h : (xl_killS L j)[k]? = some (some w) := h
    unfold xl_killS at h
    have key : ∀ {L' : List (Option Value)}, (L.set j none)[k]? = some (some w) → L[k]? = some (some w) ∧ ¬ (k + 1 = j + 1 ∧ w.category = 2) := by
      intro _ h
      by_cases hk : k = j
      · subst hk
        rw [List.getElem?_set] at h
        simp at h
      · rw [List.getElem?_set_ne (fun q => hk q.symm)] at h
        exact ⟨h, fun q => hk (by omega)⟩
    split at h
    · exact key (L' := L) h
    · exact key (L' := L) h
    · rename_i n1 n2
      refine ⟨h, fun q => ?_⟩
      have hk : k = j := by omega
      subst hk
      cases w with
      | long x => exact n1 x h
      | double x => exact n2 x h
      | _ => simp [Value.category] at q
theorem xv_cat (ad : Nat → Nat) (v : Value) : (xv ad v).category = v.category := by cases v <;> rfl
theorem xl_put1_has {ad : Nat → Nat} {ls' : Array Slot} {n i : Nat} {L : List (Option Value)} {v : Value} (h : lv_has ls' n ((i, xv ad v) :: (xl_lst ad L).filter (fun q => !(q.1 == i) && !(q.1 + 1 == i && q.2.category == 2)))) : xl_has ad ls' n (xl_put1 L i v) := by
  refine ⟨h.1, h.2.1, fun k w hk => ?_⟩
  by_cases hi : k = i
  · subst hi
    unfold xl_put1 at hk
    rw [List.getElem?_set] at hk
    split at hk
    · split at hk
      · cases hk
        exact h.2.2 (k, xv ad v) List.mem_cons_self
      · cases hk
    · rename_i hh; exact absurd rfl hh
  · unfold xl_put1 at hk
    rw [List.getElem?_set_ne (fun q => hi q.symm)] at hk
    obtain ⟨h1, h2⟩ := xl_kill_get hk
    refine h.2.2 (k, xv ad w) (List.mem_cons_of_mem _ (List.mem_filter.mpr ⟨xl_lst_mem.mpr ⟨w, h1, rfl⟩, ?_⟩))
    simp only [Bool.and_eq_true, Bool.not_eq_true', beq_eq_false_iff_ne, ne_eq, Bool.and_eq_false_iff, xv_cat]
    refine ⟨hi, ?_⟩
    by_cases h3 : k + 1 = i
    · exact Or.inr (fun h4 => h2 ⟨h3, h4⟩)
    · exact Or.inl h3
theorem xl_put2_has {ad : Nat → Nat} {ls' : Array Slot} {n i : Nat} {L : List (Option Value)} {v : Value} (h : lv_has ls' n ((i, xv ad v) :: (xl_lst ad L).filter (fun q => !(q.1 == i) && (!(q.1 == i + 1) && !(q.1 + 1 == i && q.2.category == 2))))) : xl_has ad ls' n (xl_put2 L i v) := by
  refine ⟨h.1, h.2.1, fun k w hk => ?_⟩
  unfold xl_put2 at hk
  by_cases hj : k = i + 1
  · subst hj
    rw [List.getElem?_set] at hk
    simp at hk
  · rw [List.getElem?_set_ne (fun q => hj q.symm)] at hk
    by_cases hi : k = i
    · subst hi
      rw [List.getElem?_set] at hk
      split at hk
      · split at hk
        · cases hk
          exact h.2.2 (k, xv ad v) List.mem_cons_self
        · cases hk
      · rename_i hh; exact absurd rfl hh
    · rw [List.getElem?_set_ne (fun q => hi q.symm)] at hk
      obtain ⟨h1, h2⟩ := xl_kill_get hk
      refine h.2.2 (k, xv ad w) (List.mem_cons_of_mem _ (List.mem_filter.mpr ⟨xl_lst_mem.mpr ⟨w, h1, rfl⟩, ?_⟩))
      simp only [Bool.and_eq_true, Bool.not_eq_true', beq_eq_false_iff_ne, ne_eq, Bool.and_eq_false_iff, xv_cat]
      refine ⟨hi, hj, ?_⟩
      by_cases h3 : k + 1 = i
      · exact Or.inr (fun h4 => h2 ⟨h3, h4⟩)
      · exact Or.inl h3
def xl_le : List (Option Value) → List (Option Value) → Prop
  | [], _ => True
  | none :: t, _ :: u => xl_le t u
  | none :: t, [] => xl_le t []
  | some v :: t, o :: u => o = some v ∧ xl_le t u
  | some _ :: _, [] => False
theorem xl_le_get : ∀ (L' L : List (Option Value)), xl_le L' L → ∀ (i : Nat) (v : Value), L'[i]? = some (some v) → L[i]? = some (some v)
  | [], _, _, i, v, h => by simp at h
  | none :: t, o :: u, hl, i, v, h => by
    cases i with
    | zero => simp at h
    | succ i => simpa using xl_le_get t u hl i v (by simpa using h)
  | none :: t, [], hl, i, v, h => by
    cases i with
    | zero => simp at h
    | succ i => have := xl_le_get t [] hl i v (by simpa using h); simp at this
  | some w :: t, o :: u, hl, i, v, h => by
    obtain ⟨rfl, hl⟩ := hl
    cases i with
    | zero => simpa using h
    | succ i => simpa using xl_le_get t u hl i v (by simpa using h)
section XR
variable {κ : xm_Meth} {E : Option (Nat × (Nat → Int32))} {fz : Bool} {P : Option Value → xm_Sh → xm_M → Prop} {pc : Nat} {L : List (Option Value)} {S : List Value} {sh : xm_Sh} {al : Nat × Nat} {μ : xm_M}
theorem xs_loc (L' : List (Option Value)) (h : xl_le L' L) (kk : xR κ E fz P pc L' S sh al μ) : xR κ E fz P pc L S sh al μ := by
  intro p l e s m args below meth c Z A D aC ad H locs ls hc hA hst hl ha hret
  exact kk p l e s m args below meth c Z A D aC ad H locs ls hc hA hst ⟨hl.1, hl.2.1, fun i v hi => hl.2.2 i v (xl_le_get _ _ h i v hi)⟩ ha hret
theorem xs_eqL {L' : List (Option Value)} (h : L = L') (kk : xR κ E fz P pc L' S sh al μ) : xR κ E fz P pc L S sh al μ := h ▸ kk
theorem xs_post {P' : Option Value → xm_Sh → xm_M → Prop} (h : ∀ r sh' μ', P' r sh' μ' → P r sh' μ') (kk : xR κ E fz P' pc L S sh al μ) : xR κ E fz P pc L S sh al μ := by
  intro p l e s m args below meth c Z A D aC ad H locs ls hc hA hst hl ha hret
  exact kk p l e s m args below meth c Z A D aC ad H locs ls hc hA hst hl ha (fun r sh' μ' ad' H' locs' al' ls' pc' hP => hret r sh' μ' ad' H' locs' al' ls' pc' (h _ _ _ hP))
theorem xs_iadd {x y : Int32} (hd : decode κ.2.1 pc = .ok (.iadd, 1))  (kk : xR κ E fz P (pc + 1) L (.int (x + y) :: S) sh al μ) : xR κ E fz P pc L (.int y :: .int x :: S) sh al μ := by
  intro p l e s m args below meth c Z A D aC ad H locs ls hc hA hst hl ha hret
  exact lv_iadd hc.1 hc.2.1 hd (kk p l e s m args below meth c Z A D aC ad H locs ls hc hA hst hl ha hret)
theorem xs_isub {x y : Int32} (hd : decode κ.2.1 pc = .ok (.isub, 1))  (kk : xR κ E fz P (pc + 1) L (.int (x - y) :: S) sh al μ) : xR κ E fz P pc L (.int y :: .int x :: S) sh al μ := by
  intro p l e s m args below meth c Z A D aC ad H locs ls hc hA hst hl ha hret
  exact lv_isub hc.1 hc.2.1 hd (kk p l e s m args below meth c Z A D aC ad H locs ls hc hA hst hl ha hret)
theorem xs_imul {x y : Int32} (hd : decode κ.2.1 pc = .ok (.imul, 1))  (kk : xR κ E fz P (pc + 1) L (.int (x * y) :: S) sh al μ) : xR κ E fz P pc L (.int y :: .int x :: S) sh al μ := by
  intro p l e s m args below meth c Z A D aC ad H locs ls hc hA hst hl ha hret
  exact lv_imul hc.1 hc.2.1 hd (kk p l e s m args below meth c Z A D aC ad H locs ls hc hA hst hl ha hret)
theorem xs_iand {x y : Int32} (hd : decode κ.2.1 pc = .ok (.iand, 1))  (kk : xR κ E fz P (pc + 1) L (.int (x &&& y) :: S) sh al μ) : xR κ E fz P pc L (.int y :: .int x :: S) sh al μ := by
  intro p l e s m args below meth c Z A D aC ad H locs ls hc hA hst hl ha hret
  exact lv_iand hc.1 hc.2.1 hd (kk p l e s m args below meth c Z A D aC ad H locs ls hc hA hst hl ha hret)
theorem xs_ior {x y : Int32} (hd : decode κ.2.1 pc = .ok (.ior, 1))  (kk : xR κ E fz P (pc + 1) L (.int (x ||| y) :: S) sh al μ) : xR κ E fz P pc L (.int y :: .int x :: S) sh al μ := by
  intro p l e s m args below meth c Z A D aC ad H locs ls hc hA hst hl ha hret
  exact lv_ior hc.1 hc.2.1 hd (kk p l e s m args below meth c Z A D aC ad H locs ls hc hA hst hl ha hret)
theorem xs_ixor {x y : Int32} (hd : decode κ.2.1 pc = .ok (.ixor, 1))  (kk : xR κ E fz P (pc + 1) L (.int (x ^^^ y) :: S) sh al μ) : xR κ E fz P pc L (.int y :: .int x :: S) sh al μ := by
  intro p l e s m args below meth c Z A D aC ad H locs ls hc hA hst hl ha hret
  exact lv_ixor hc.1 hc.2.1 hd (kk p l e s m args below meth c Z A D aC ad H locs ls hc hA hst hl ha hret)
theorem xs_ishl {x y : Int32} (hd : decode κ.2.1 pc = .ok (.ishl, 1))  (kk : xR κ E fz P (pc + 1) L (.int (x <<< (y &&& 31)) :: S) sh al μ) : xR κ E fz P pc L (.int y :: .int x :: S) sh al μ := by
  intro p l e s m args below meth c Z A D aC ad H locs ls hc hA hst hl ha hret
  exact lv_ishl hc.1 hc.2.1 hd (kk p l e s m args below meth c Z A D aC ad H locs ls hc hA hst hl ha hret)
theorem xs_ishr {x y : Int32} (hd : decode κ.2.1 pc = .ok (.ishr, 1))  (kk : xR κ E fz P (pc + 1) L (.int (x >>> (y &&& 31)) :: S) sh al μ) : xR κ E fz P pc L (.int y :: .int x :: S) sh al μ := by
  intro p l e s m args below meth c Z A D aC ad H locs ls hc hA hst hl ha hret
  exact lv_ishr hc.1 hc.2.1 hd (kk p l e s m args below meth c Z A D aC ad H locs ls hc hA hst hl ha hret)
theorem xs_idiv {x y : Int32} (hd : decode κ.2.1 pc = .ok (.idiv, 1)) (hne : ¬ y = 0) (kk : xR κ E fz P (pc + 1) L (.int (x / y) :: S) sh al μ) : xR κ E fz P pc L (.int y :: .int x :: S) sh al μ := by
  intro p l e s m args below meth c Z A D aC ad H locs ls hc hA hst hl ha hret
  exact lv_idiv hc.1 hc.2.1 hd hne (kk p l e s m args below meth c Z A D aC ad H locs ls hc hA hst hl ha hret)
theorem xs_irem {x y : Int32} (hd : decode κ.2.1 pc = .ok (.irem, 1)) (hne : ¬ y = 0) (kk : xR κ E fz P (pc + 1) L (.int (x - x / y * y) :: S) sh al μ) : xR κ E fz P pc L (.int y :: .int x :: S) sh al μ := by
  intro p l e s m args below meth c Z A D aC ad H locs ls hc hA hst hl ha hret
  exact lv_irem hc.1 hc.2.1 hd hne (kk p l e s m args below meth c Z A D aC ad H locs ls hc hA hst hl ha hret)
theorem xs_ineg {x : Int32} (hd : decode κ.2.1 pc = .ok (.ineg, 1))  (kk : xR κ E fz P (pc + 1) L (.int (-x) :: S) sh al μ) : xR κ E fz P pc L (.int x :: S) sh al μ := by
  intro p l e s m args below meth c Z A D aC ad H locs ls hc hA hst hl ha hret
  exact lv_ineg hc.1 hc.2.1 hd (kk p l e s m args below meth c Z A D aC ad H locs ls hc hA hst hl ha hret)
theorem xs_ladd {x y : Int64} (hd : decode κ.2.1 pc = .ok (.ladd, 1))  (kk : xR κ E fz P (pc + 1) L (.long (x + y) :: S) sh al μ) : xR κ E fz P pc L (.long y :: .long x :: S) sh al μ := by
  intro p l e s m args below meth c Z A D aC ad H locs ls hc hA hst hl ha hret
  exact lv_ladd hc.1 hc.2.1 hd (kk p l e s m args below meth c Z A D aC ad H locs ls hc hA hst hl ha hret)
theorem xs_lsub {x y : Int64} (hd : decode κ.2.1 pc = .ok (.lsub, 1))  (kk : xR κ E fz P (pc + 1) L (.long (x - y) :: S) sh al μ) : xR κ E fz P pc L (.long y :: .long x :: S) sh al μ := by
  intro p l e s m args below meth c Z A D aC ad H locs ls hc hA hst hl ha hret
  exact lv_lsub hc.1 hc.2.1 hd (kk p l e s m args below meth c Z A D aC ad H locs ls hc hA hst hl ha hret)
theorem xs_lmul {x y : Int64} (hd : decode κ.2.1 pc = .ok (.lmul, 1))  (kk : xR κ E fz P (pc + 1) L (.long (x * y) :: S) sh al μ) : xR κ E fz P pc L (.long y :: .long x :: S) sh al μ := by
  intro p l e s m args below meth c Z A D aC ad H locs ls hc hA hst hl ha hret
  exact lv_lmul hc.1 hc.2.1 hd (kk p l e s m args below meth c Z A D aC ad H locs ls hc hA hst hl ha hret)
theorem xs_land {x y : Int64} (hd : decode κ.2.1 pc = .ok (.land, 1))  (kk : xR κ E fz P (pc + 1) L (.long (x &&& y) :: S) sh al μ) : xR κ E fz P pc L (.long y :: .long x :: S) sh al μ := by
  intro p l e s m args below meth c Z A D aC ad H locs ls hc hA hst hl ha hret
  exact lv_land hc.1 hc.2.1 hd (kk p l e s m args below meth c Z A D aC ad H locs ls hc hA hst hl ha hret)
theorem xs_lor {x y : Int64} (hd : decode κ.2.1 pc = .ok (.lor, 1))  (kk : xR κ E fz P (pc + 1) L (.long (x ||| y) :: S) sh al μ) : xR κ E fz P pc L (.long y :: .long x :: S) sh al μ := by
  intro p l e s m args below meth c Z A D aC ad H locs ls hc hA hst hl ha hret
  exact lv_lor hc.1 hc.2.1 hd (kk p l e s m args below meth c Z A D aC ad H locs ls hc hA hst hl ha hret)
theorem xs_iushr {x y : Int32} (hd : decode κ.2.1 pc = .ok (.iushr, 1))  (kk : xR κ E fz P (pc + 1) L (.int ((x.toUInt32 >>> (y.toUInt32 &&& Int32.toUInt32 31)).toInt32) :: S) sh al μ) : xR κ E fz P pc L (.int y :: .int x :: S) sh al μ := by
  intro p l e s m args below meth c Z A D aC ad H locs ls hc hA hst hl ha hret
  exact lv_iushr hc.1 hc.2.1 hd rfl (kk p l e s m args below meth c Z A D aC ad H locs ls hc hA hst hl ha hret)
theorem xs_lushr {x : Int64} {y : Int32} (hd : decode κ.2.1 pc = .ok (.lushr, 1))  (kk : xR κ E fz P (pc + 1) L (.long ((x.toUInt64 >>> (y.toInt64.toUInt64 &&& Int64.toUInt64 63)).toInt64) :: S) sh al μ) : xR κ E fz P pc L (.int y :: .long x :: S) sh al μ := by
  intro p l e s m args below meth c Z A D aC ad H locs ls hc hA hst hl ha hret
  exact lv_lushr hc.1 hc.2.1 hd rfl (kk p l e s m args below meth c Z A D aC ad H locs ls hc hA hst hl ha hret)
theorem xs_lshl {x : Int64} {y : Int32} (hd : decode κ.2.1 pc = .ok (.lshl, 1))  (kk : xR κ E fz P (pc + 1) L (.long (x <<< (y.toInt64 &&& 63)) :: S) sh al μ) : xR κ E fz P pc L (.int y :: .long x :: S) sh al μ := by
  intro p l e s m args below meth c Z A D aC ad H locs ls hc hA hst hl ha hret
  exact lv_lshl hc.1 hc.2.1 hd rfl (kk p l e s m args below meth c Z A D aC ad H locs ls hc hA hst hl ha hret)
theorem xs_lshr {x : Int64} {y : Int32} (hd : decode κ.2.1 pc = .ok (.lshr, 1))  (kk : xR κ E fz P (pc + 1) L (.long (x >>> (y.toInt64 &&& 63)) :: S) sh al μ) : xR κ E fz P pc L (.int y :: .long x :: S) sh al μ := by
  intro p l e s m args below meth c Z A D aC ad H locs ls hc hA hst hl ha hret
  exact lv_lshr hc.1 hc.2.1 hd rfl (kk p l e s m args below meth c Z A D aC ad H locs ls hc hA hst hl ha hret)
theorem xs_i2l {x : Int32} (hd : decode κ.2.1 pc = .ok (.i2l, 1))  (kk : xR κ E fz P (pc + 1) L (.long x.toInt64 :: S) sh al μ) : xR κ E fz P pc L (.int x :: S) sh al μ := by
  intro p l e s m args below meth c Z A D aC ad H locs ls hc hA hst hl ha hret
  exact lv_i2l hc.1 hc.2.1 hd rfl (kk p l e s m args below meth c Z A D aC ad H locs ls hc hA hst hl ha hret)
theorem xs_l2i {x : Int64} (hd : decode κ.2.1 pc = .ok (.l2i, 1))  (kk : xR κ E fz P (pc + 1) L (.int x.toInt32 :: S) sh al μ) : xR κ E fz P pc L (.long x :: S) sh al μ := by
  intro p l e s m args below meth c Z A D aC ad H locs ls hc hA hst hl ha hret
  exact lv_l2i hc.1 hc.2.1 hd rfl (kk p l e s m args below meth c Z A D aC ad H locs ls hc hA hst hl ha hret)
theorem xs_i2b {x : Int32} (hd : decode κ.2.1 pc = .ok (.i2b, 1))  (kk : xR κ E fz P (pc + 1) L (.int x.toInt8.toInt32 :: S) sh al μ) : xR κ E fz P pc L (.int x :: S) sh al μ := by
  intro p l e s m args below meth c Z A D aC ad H locs ls hc hA hst hl ha hret
  exact lv_i2b hc.1 hc.2.1 hd rfl (kk p l e s m args below meth c Z A D aC ad H locs ls hc hA hst hl ha hret)
theorem xs_lcmp {x y : Int64} (hd : decode κ.2.1 pc = .ok (.lcmp, 1))  (kk : xR κ E fz P (pc + 1) L (.int (lg_cmp x y) :: S) sh al μ) : xR κ E fz P pc L (.long y :: .long x :: S) sh al μ := by
  intro p l e s m args below meth c Z A D aC ad H locs ls hc hA hst hl ha hret
  exact W.lcmp hc.1 hc.2.1 hd (kk p l e s m args below meth c Z A D aC ad H locs ls hc hA hst hl ha hret)
theorem xs_iconst {n : Int} (v : Int32) (hd : decode κ.2.1 pc = .ok (.iconst n, 1)) (hv : Int32.ofInt n = v) (kk : xR κ E fz P (pc + 1) L (.int v :: S) sh al μ) : xR κ E fz P pc L (S) sh al μ := by
  intro p l e s m args below meth c Z A D aC ad H locs ls hc hA hst hl ha hret
  exact lv_iconst hc.1 hc.2.1 hd hv (kk p l e s m args below meth c Z A D aC ad H locs ls hc hA hst hl ha hret)
theorem xs_bipush {n : Int} (v : Int32) (hd : decode κ.2.1 pc = .ok (.bipush n, 2)) (hv : (Int8.ofInt n).toInt32 = v) (kk : xR κ E fz P (pc + 2) L (.int v :: S) sh al μ) : xR κ E fz P pc L (S) sh al μ := by
  intro p l e s m args below meth c Z A D aC ad H locs ls hc hA hst hl ha hret
  exact lv_bipush hc.1 hc.2.1 hd hv (kk p l e s m args below meth c Z A D aC ad H locs ls hc hA hst hl ha hret)
theorem xs_sipush {n : Int} (v : Int32) (hd : decode κ.2.1 pc = .ok (.sipush n, 3)) (hv : (Int16.ofInt n).toInt32 = v) (kk : xR κ E fz P (pc + 3) L (.int v :: S) sh al μ) : xR κ E fz P pc L (S) sh al μ := by
  intro p l e s m args below meth c Z A D aC ad H locs ls hc hA hst hl ha hret
  exact lv_sipush hc.1 hc.2.1 hd hv (kk p l e s m args below meth c Z A D aC ad H locs ls hc hA hst hl ha hret)
theorem xs_lconst {n : Fin 2} (v : Int64) (hd : decode κ.2.1 pc = .ok (.lconst n, 1)) (hv : Int64.ofNat (n : Nat) = v) (kk : xR κ E fz P (pc + 1) L (.long v :: S) sh al μ) : xR κ E fz P pc L (S) sh al μ := by
  intro p l e s m args below meth c Z A D aC ad H locs ls hc hA hst hl ha hret
  exact lv_lconst hc.1 hc.2.1 hd hv (kk p l e s m args below meth c Z A D aC ad H locs ls hc hA hst hl ha hret)
theorem xs_ldc {n : Nat} {v : Int32} (hd : decode κ.2.1 pc = .ok (.ldc n, 2)) (hw : Cond.constant κ.1.cls n v ∈ xm_tbl) (kk : xR κ E fz P (pc + 2) L (.int v :: S) sh al μ) : xR κ E fz P pc L (S) sh al μ := by
  intro p l e s m args below meth c Z A D aC ad H locs ls hc hA hst hl ha hret
  exact lv_ldc hc.1 hc.2.1 hc.2.2.2.1 (hc.2.2.2.2.1 _ hw) hd (kk p l e s m args below meth c Z A D aC ad H locs ls hc hA hst hl ha hret)
theorem xs_ldc2 {n : Nat} {v : Int64} (hd : decode κ.2.1 pc = .ok (.ldc2_w n, 3)) (hw : Cond.constantLong κ.1.cls n v ∈ xm_tbl) (kk : xR κ E fz P (pc + 3) L (.long v :: S) sh al μ) : xR κ E fz P pc L (S) sh al μ := by
  intro p l e s m args below meth c Z A D aC ad H locs ls hc hA hst hl ha hret
  exact lv_ldc2 hc.1 hc.2.1 hc.2.2.2.1 (hc.2.2.2.2.1 _ hw) hd (kk p l e s m args below meth c Z A D aC ad H locs ls hc hA hst hl ha hret)
theorem xs_iload_n {k : Fin 4} {x : Int32} (hd : decode κ.2.1 pc = .ok (.iload_n k, 1)) (hL : L[(k : Nat)]? = some (some (.int x))) (kk : xR κ E fz P (pc + 1) L (.int x :: S) sh al μ) : xR κ E fz P pc L (S) sh al μ := by
  intro p l e s m args below meth c Z A D aC ad H locs ls hc hA hst hl ha hret
  exact lv_iload_n hc.1 hc.2.1 hd rfl (hl.2.2 _ _ hL) (kk p l e s m args below meth c Z A D aC ad H locs ls hc hA hst hl ha hret)
theorem xs_iload {k : Nat} {x : Int32} (hd : decode κ.2.1 pc = .ok (.iload k, 2)) (hL : L[k]? = some (some (.int x))) (kk : xR κ E fz P (pc + 2) L (.int x :: S) sh al μ) : xR κ E fz P pc L (S) sh al μ := by
  intro p l e s m args below meth c Z A D aC ad H locs ls hc hA hst hl ha hret
  exact lv_iload hc.1 hc.2.1 hd (hl.2.2 _ _ hL) (kk p l e s m args below meth c Z A D aC ad H locs ls hc hA hst hl ha hret)
theorem xs_lload_n {k : Fin 4} {x : Int64} (hd : decode κ.2.1 pc = .ok (.lload_n k, 1)) (hL : L[(k : Nat)]? = some (some (.long x))) (kk : xR κ E fz P (pc + 1) L (.long x :: S) sh al μ) : xR κ E fz P pc L (S) sh al μ := by
  intro p l e s m args below meth c Z A D aC ad H locs ls hc hA hst hl ha hret
  exact lv_lload_n hc.1 hc.2.1 hd rfl (hl.2.2 _ _ hL) (kk p l e s m args below meth c Z A D aC ad H locs ls hc hA hst hl ha hret)
theorem xs_lload {k : Nat} {x : Int64} (hd : decode κ.2.1 pc = .ok (.lload k, 2)) (hL : L[k]? = some (some (.long x))) (kk : xR κ E fz P (pc + 2) L (.long x :: S) sh al μ) : xR κ E fz P pc L (S) sh al μ := by
  intro p l e s m args below meth c Z A D aC ad H locs ls hc hA hst hl ha hret
  exact lv_lload hc.1 hc.2.1 hd (hl.2.2 _ _ hL) (kk p l e s m args below meth c Z A D aC ad H locs ls hc hA hst hl ha hret)
theorem xs_aload_n {k : Fin 4} {x : Nat} (hd : decode κ.2.1 pc = .ok (.aload_n k, 1)) (hL : L[(k : Nat)]? = some (some (.ref x))) (kk : xR κ E fz P (pc + 1) L (.ref x :: S) sh al μ) : xR κ E fz P pc L (S) sh al μ := by
  intro p l e s m args below meth c Z A D aC ad H locs ls hc hA hst hl ha hret
  exact lv_aload_n hc.1 hc.2.1 hd rfl (hl.2.2 _ _ hL) (kk p l e s m args below meth c Z A D aC ad H locs ls hc hA hst hl ha hret)
theorem xs_aload {k : Nat} {x : Nat} (hd : decode κ.2.1 pc = .ok (.aload k, 2)) (hL : L[k]? = some (some (.ref x))) (kk : xR κ E fz P (pc + 2) L (.ref x :: S) sh al μ) : xR κ E fz P pc L (S) sh al μ := by
  intro p l e s m args below meth c Z A D aC ad H locs ls hc hA hst hl ha hret
  exact lv_aload hc.1 hc.2.1 hd (hl.2.2 _ _ hL) (kk p l e s m args below meth c Z A D aC ad H locs ls hc hA hst hl ha hret)
theorem xs_istore_n {k : Fin 4} {x : Int32} (L' : List (Option Value)) (hd : decode κ.2.1 pc = .ok (.istore_n k, 1)) (hn : (k : Nat) < κ.2.2.1) (hL : xl_put1 L (k : Nat) (.int x) = L') (kk : xR κ E fz P (pc + 1) L' S sh al μ) : xR κ E fz P pc L (.int x :: S) sh al μ := by
  intro p l e s m args below meth c Z A D aC ad H locs ls hc hA hst hl ha hret
  subst hL
  exact lv_istore_n hc.1 hc.2.1 hd rfl hl.lv hn rfl (fun ls2 hl2 => kk p l e s m args below meth c Z A D aC ad H locs ls2 hc hA hst (xl_put1_has hl2) ha hret)
theorem xs_istore {k : Nat} {x : Int32} (L' : List (Option Value)) (hd : decode κ.2.1 pc = .ok (.istore k, 2)) (hn : (k : Nat) < κ.2.2.1) (hL : xl_put1 L k (.int x) = L') (kk : xR κ E fz P (pc + 2) L' S sh al μ) : xR κ E fz P pc L (.int x :: S) sh al μ := by
  intro p l e s m args below meth c Z A D aC ad H locs ls hc hA hst hl ha hret
  subst hL
  exact lv_istore hc.1 hc.2.1 hd hl.lv hn rfl (fun ls2 hl2 => kk p l e s m args below meth c Z A D aC ad H locs ls2 hc hA hst (xl_put1_has hl2) ha hret)
theorem xs_lstore_n {k : Fin 4} {x : Int64} (L' : List (Option Value)) (hd : decode κ.2.1 pc = .ok (.lstore_n k, 1)) (hn : (k : Nat) + 1 < κ.2.2.1) (hL : xl_put2 L (k : Nat) (.long x) = L') (kk : xR κ E fz P (pc + 1) L' S sh al μ) : xR κ E fz P pc L (.long x :: S) sh al μ := by
  intro p l e s m args below meth c Z A D aC ad H locs ls hc hA hst hl ha hret
  subst hL
  exact lv_lstore_n hc.1 hc.2.1 hd rfl hl.lv hn rfl (fun ls2 hl2 => kk p l e s m args below meth c Z A D aC ad H locs ls2 hc hA hst (xl_put2_has hl2) ha hret)
theorem xs_lstore {k : Nat} {x : Int64} (L' : List (Option Value)) (hd : decode κ.2.1 pc = .ok (.lstore k, 2)) (hn : (k : Nat) + 1 < κ.2.2.1) (hL : xl_put2 L k (.long x) = L') (kk : xR κ E fz P (pc + 2) L' S sh al μ) : xR κ E fz P pc L (.long x :: S) sh al μ := by
  intro p l e s m args below meth c Z A D aC ad H locs ls hc hA hst hl ha hret
  subst hL
  exact lv_lstore hc.1 hc.2.1 hd hl.lv hn rfl (fun ls2 hl2 => kk p l e s m args below meth c Z A D aC ad H locs ls2 hc hA hst (xl_put2_has hl2) ha hret)
theorem xs_astore_n {k : Fin 4} {x : Nat} (L' : List (Option Value)) (hd : decode κ.2.1 pc = .ok (.astore_n k, 1)) (hn : (k : Nat) < κ.2.2.1) (hL : xl_put1 L (k : Nat) (.ref x) = L') (kk : xR κ E fz P (pc + 1) L' S sh al μ) : xR κ E fz P pc L (.ref x :: S) sh al μ := by
  intro p l e s m args below meth c Z A D aC ad H locs ls hc hA hst hl ha hret
  subst hL
  exact lv_astore_n hc.1 hc.2.1 hd rfl hl.lv hn rfl (fun ls2 hl2 => kk p l e s m args below meth c Z A D aC ad H locs ls2 hc hA hst (xl_put1_has hl2) ha hret)
theorem xs_astore {k : Nat} {x : Nat} (L' : List (Option Value)) (hd : decode κ.2.1 pc = .ok (.astore k, 2)) (hn : (k : Nat) < κ.2.2.1) (hL : xl_put1 L k (.ref x) = L') (kk : xR κ E fz P (pc + 2) L' S sh al μ) : xR κ E fz P pc L (.ref x :: S) sh al μ := by
  intro p l e s m args below meth c Z A D aC ad H locs ls hc hA hst hl ha hret
  subst hL
  exact lv_astore hc.1 hc.2.1 hd hl.lv hn rfl (fun ls2 hl2 => kk p l e s m args below meth c Z A D aC ad H locs ls2 hc hA hst (xl_put1_has hl2) ha hret)
theorem xs_iinc {k : Nat} {n : Int} {x : Int32} (v : Int32) (L' : List (Option Value)) (hd : decode κ.2.1 pc = .ok (.iinc k n, 3)) (hn : k < κ.2.2.1) (hx : L[k]? = some (some (.int x))) (hv : x + Int32.ofInt n = v) (hL : xl_put1 L k (.int v) = L') (kk : xR κ E fz P (pc + 3) L' S sh al μ) : xR κ E fz P pc L S sh al μ := by
  intro p l e s m args below meth c Z A D aC ad H locs ls hc hA hst hl ha hret
  subst hL
  obtain ⟨i, hi⟩ := List.getElem?_of_mem (xl_lst_mem (ad := ad) (L := L) (q := (k, .int x)) |>.mpr ⟨.int x, hx, rfl⟩)
  exact lv_iinc hc.1 hc.2.1 hd hl.lv hi hv hn rfl (fun ls2 hl2 => kk p l e s m args below meth c Z A D aC ad H locs ls2 hc hA hst (xl_put1_has (v := .int v) hl2) ha hret)
theorem xs_if_eq {x : Int32} {off : Int} (tgt : Nat) (hd : decode κ.2.1 pc = .ok (.ifCond .eq off, 3)) (ht : (pc : Int) + off = (tgt : Int)) (kt : x = 0 → xR κ E fz P tgt L S sh al μ) (kf : ¬ x = 0 → xR κ E fz P (pc + 3) L S sh al μ) : xR κ E fz P pc L (.int x :: S) sh al μ := by
  intro p l e s m args below meth c Z A D aC ad H locs ls hc hA hst hl ha hret
  exact lv_if_eq hc.1 hc.2.1 hd ht (fun h => kt h p l e s m args below meth c Z A D aC ad H locs ls hc hA hst hl ha hret) (fun h => kf h p l e s m args below meth c Z A D aC ad H locs ls hc hA hst hl ha hret)
theorem xs_if_ne {x : Int32} {off : Int} (tgt : Nat) (hd : decode κ.2.1 pc = .ok (.ifCond .ne off, 3)) (ht : (pc : Int) + off = (tgt : Int)) (kt : ¬ x = 0 → xR κ E fz P tgt L S sh al μ) (kf : x = 0 → xR κ E fz P (pc + 3) L S sh al μ) : xR κ E fz P pc L (.int x :: S) sh al μ := by
  intro p l e s m args below meth c Z A D aC ad H locs ls hc hA hst hl ha hret
  exact lv_if_ne hc.1 hc.2.1 hd ht (fun h => kt h p l e s m args below meth c Z A D aC ad H locs ls hc hA hst hl ha hret) (fun h => kf h p l e s m args below meth c Z A D aC ad H locs ls hc hA hst hl ha hret)
theorem xs_if_lt {x : Int32} {off : Int} (tgt : Nat) (hd : decode κ.2.1 pc = .ok (.ifCond .lt off, 3)) (ht : (pc : Int) + off = (tgt : Int)) (kt : x < 0 → xR κ E fz P tgt L S sh al μ) (kf : ¬ x < 0 → xR κ E fz P (pc + 3) L S sh al μ) : xR κ E fz P pc L (.int x :: S) sh al μ := by
  intro p l e s m args below meth c Z A D aC ad H locs ls hc hA hst hl ha hret
  exact lv_if_lt hc.1 hc.2.1 hd ht (fun h => kt h p l e s m args below meth c Z A D aC ad H locs ls hc hA hst hl ha hret) (fun h => kf h p l e s m args below meth c Z A D aC ad H locs ls hc hA hst hl ha hret)
theorem xs_if_ge {x : Int32} {off : Int} (tgt : Nat) (hd : decode κ.2.1 pc = .ok (.ifCond .ge off, 3)) (ht : (pc : Int) + off = (tgt : Int)) (kt : 0 ≤ x → xR κ E fz P tgt L S sh al μ) (kf : ¬ 0 ≤ x → xR κ E fz P (pc + 3) L S sh al μ) : xR κ E fz P pc L (.int x :: S) sh al μ := by
  intro p l e s m args below meth c Z A D aC ad H locs ls hc hA hst hl ha hret
  exact lv_if_ge hc.1 hc.2.1 hd ht (fun h => kt h p l e s m args below meth c Z A D aC ad H locs ls hc hA hst hl ha hret) (fun h => kf h p l e s m args below meth c Z A D aC ad H locs ls hc hA hst hl ha hret)
theorem xs_if_gt {x : Int32} {off : Int} (tgt : Nat) (hd : decode κ.2.1 pc = .ok (.ifCond .gt off, 3)) (ht : (pc : Int) + off = (tgt : Int)) (kt : 0 < x → xR κ E fz P tgt L S sh al μ) (kf : ¬ 0 < x → xR κ E fz P (pc + 3) L S sh al μ) : xR κ E fz P pc L (.int x :: S) sh al μ := by
  intro p l e s m args below meth c Z A D aC ad H locs ls hc hA hst hl ha hret
  exact lv_if_gt hc.1 hc.2.1 hd ht (fun h => kt h p l e s m args below meth c Z A D aC ad H locs ls hc hA hst hl ha hret) (fun h => kf h p l e s m args below meth c Z A D aC ad H locs ls hc hA hst hl ha hret)
theorem xs_if_le {x : Int32} {off : Int} (tgt : Nat) (hd : decode κ.2.1 pc = .ok (.ifCond .le off, 3)) (ht : (pc : Int) + off = (tgt : Int)) (kt : x ≤ 0 → xR κ E fz P tgt L S sh al μ) (kf : ¬ x ≤ 0 → xR κ E fz P (pc + 3) L S sh al μ) : xR κ E fz P pc L (.int x :: S) sh al μ := by
  intro p l e s m args below meth c Z A D aC ad H locs ls hc hA hst hl ha hret
  exact lv_if_le hc.1 hc.2.1 hd ht (fun h => kt h p l e s m args below meth c Z A D aC ad H locs ls hc hA hst hl ha hret) (fun h => kf h p l e s m args below meth c Z A D aC ad H locs ls hc hA hst hl ha hret)
theorem xs_icmp_eq {x y : Int32} {off : Int} (tgt : Nat) (hd : decode κ.2.1 pc = .ok (.if_icmp .eq off, 3)) (ht : (pc : Int) + off = (tgt : Int)) (kt : x = y → xR κ E fz P tgt L S sh al μ) (kf : ¬ x = y → xR κ E fz P (pc + 3) L S sh al μ) : xR κ E fz P pc L (.int y :: .int x :: S) sh al μ := by
  intro p l e s m args below meth c Z A D aC ad H locs ls hc hA hst hl ha hret
  exact lv_icmp_eq hc.1 hc.2.1 hd ht (fun h => kt h p l e s m args below meth c Z A D aC ad H locs ls hc hA hst hl ha hret) (fun h => kf h p l e s m args below meth c Z A D aC ad H locs ls hc hA hst hl ha hret)
theorem xs_icmp_ne {x y : Int32} {off : Int} (tgt : Nat) (hd : decode κ.2.1 pc = .ok (.if_icmp .ne off, 3)) (ht : (pc : Int) + off = (tgt : Int)) (kt : ¬ x = y → xR κ E fz P tgt L S sh al μ) (kf : x = y → xR κ E fz P (pc + 3) L S sh al μ) : xR κ E fz P pc L (.int y :: .int x :: S) sh al μ := by
  intro p l e s m args below meth c Z A D aC ad H locs ls hc hA hst hl ha hret
  exact lv_icmp_ne hc.1 hc.2.1 hd ht (fun h => kt h p l e s m args below meth c Z A D aC ad H locs ls hc hA hst hl ha hret) (fun h => kf h p l e s m args below meth c Z A D aC ad H locs ls hc hA hst hl ha hret)
theorem xs_icmp_lt {x y : Int32} {off : Int} (tgt : Nat) (hd : decode κ.2.1 pc = .ok (.if_icmp .lt off, 3)) (ht : (pc : Int) + off = (tgt : Int)) (kt : x < y → xR κ E fz P tgt L S sh al μ) (kf : ¬ x < y → xR κ E fz P (pc + 3) L S sh al μ) : xR κ E fz P pc L (.int y :: .int x :: S) sh al μ := by
  intro p l e s m args below meth c Z A D aC ad H locs ls hc hA hst hl ha hret
  exact lv_icmp_lt hc.1 hc.2.1 hd ht (fun h => kt h p l e s m args below meth c Z A D aC ad H locs ls hc hA hst hl ha hret) (fun h => kf h p l e s m args below meth c Z A D aC ad H locs ls hc hA hst hl ha hret)
theorem xs_icmp_ge {x y : Int32} {off : Int} (tgt : Nat) (hd : decode κ.2.1 pc = .ok (.if_icmp .ge off, 3)) (ht : (pc : Int) + off = (tgt : Int)) (kt : y ≤ x → xR κ E fz P tgt L S sh al μ) (kf : ¬ y ≤ x → xR κ E fz P (pc + 3) L S sh al μ) : xR κ E fz P pc L (.int y :: .int x :: S) sh al μ := by
  intro p l e s m args below meth c Z A D aC ad H locs ls hc hA hst hl ha hret
  exact lv_icmp_ge hc.1 hc.2.1 hd ht (fun h => kt h p l e s m args below meth c Z A D aC ad H locs ls hc hA hst hl ha hret) (fun h => kf h p l e s m args below meth c Z A D aC ad H locs ls hc hA hst hl ha hret)
theorem xs_icmp_gt {x y : Int32} {off : Int} (tgt : Nat) (hd : decode κ.2.1 pc = .ok (.if_icmp .gt off, 3)) (ht : (pc : Int) + off = (tgt : Int)) (kt : y < x → xR κ E fz P tgt L S sh al μ) (kf : ¬ y < x → xR κ E fz P (pc + 3) L S sh al μ) : xR κ E fz P pc L (.int y :: .int x :: S) sh al μ := by
  intro p l e s m args below meth c Z A D aC ad H locs ls hc hA hst hl ha hret
  exact lv_icmp_gt hc.1 hc.2.1 hd ht (fun h => kt h p l e s m args below meth c Z A D aC ad H locs ls hc hA hst hl ha hret) (fun h => kf h p l e s m args below meth c Z A D aC ad H locs ls hc hA hst hl ha hret)
theorem xs_icmp_le {x y : Int32} {off : Int} (tgt : Nat) (hd : decode κ.2.1 pc = .ok (.if_icmp .le off, 3)) (ht : (pc : Int) + off = (tgt : Int)) (kt : x ≤ y → xR κ E fz P tgt L S sh al μ) (kf : ¬ x ≤ y → xR κ E fz P (pc + 3) L S sh al μ) : xR κ E fz P pc L (.int y :: .int x :: S) sh al μ := by
  intro p l e s m args below meth c Z A D aC ad H locs ls hc hA hst hl ha hret
  exact lv_icmp_le hc.1 hc.2.1 hd ht (fun h => kt h p l e s m args below meth c Z A D aC ad H locs ls hc hA hst hl ha hret) (fun h => kf h p l e s m args below meth c Z A D aC ad H locs ls hc hA hst hl ha hret)
theorem xs_goto {off : Int} (tgt : Nat) (hd : decode κ.2.1 pc = .ok (.goto off, 3)) (ht : (pc : Int) + off = (tgt : Int)) (kk : xR κ E fz P tgt L S sh al μ) : xR κ E fz P pc L S sh al μ := by
  intro p l e s m args below meth c Z A D aC ad H locs ls hc hA hst hl ha hret
  exact lv_goto hc.1 hc.2.1 hd ht (kk p l e s m args below meth c Z A D aC ad H locs ls hc hA hst hl ha hret)
theorem xs_dup {v : Value} (hd : decode κ.2.1 pc = .ok (.dup, 1)) (hv : v.category = 1) (kk : xR κ E fz P (pc + 1) L (v :: v :: S) sh al μ) : xR κ E fz P pc L (v :: S) sh al μ := by
  intro p l e s m args below meth c Z A D aC ad H locs ls hc hA hst hl ha hret
  exact lv_dup hc.1 hc.2.1 hd ((xv_cat ad v).trans hv) (kk p l e s m args below meth c Z A D aC ad H locs ls hc hA hst hl ha hret)
theorem xs_dup2 {v w : Value} (hd : decode κ.2.1 pc = .ok (.dup2, 1)) (hv : v.category = 1) (hw : w.category = 1) (kk : xR κ E fz P (pc + 1) L (v :: w :: v :: w :: S) sh al μ) : xR κ E fz P pc L (v :: w :: S) sh al μ := by
  intro p l e s m args below meth c Z A D aC ad H locs ls hc hA hst hl ha hret
  exact lv_dup2_11 hc.1 hc.2.1 hd ((xv_cat ad v).trans hv) ((xv_cat ad w).trans hw) (kk p l e s m args below meth c Z A D aC ad H locs ls hc hA hst hl ha hret)
end XR
