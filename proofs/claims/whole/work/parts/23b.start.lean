/-! THE CLAIM OUT OF ONE WALK OF THE LAW'S BODY. Your part is whole_start (and what it stands on); all else here is the same for every law, but numbers. -/
def R_law : String := "SongReaderLaw"
def lw_P (b : Addr) (xs : List Int32) (args : Array Value) (s : State) : Prop := args = #[.ref b] ∧ s.IntsAt b xs ∧ xs.length ≤ 4096 ∧ (Jvm.Cond.and given_1 narrow_1).before args s = true
def lw_Q (_ : Array Value) (s : State) (o : Outcome) (t : State) : Prop := o = .returned (some (.int 1)) ∧ Framed s o t [] 600000 7302250
def lw_Z (below : List Frame) (a : Array Value) (s : State) : State → Prop := fun t => ∃ o, t.status = .running ∧ Ended t below o ∧ lw_Q a s o t
/-- the law's own end, with 1 on the stack, nothing written that was there before, its room as the claim has it -/
theorem lw_ret {p : Program} {l : Launch} {e : Env} {s : State} {m : MethodId} {below : List Frame} {meth : Method} {c : Code} {b : Nat} (hx : p.tables.exec = Jvm.exec) (hb : c.code = code) (hr : meth.sig.returnType = ret) (hlocks : meth.locks = false) {pc : Nat} {H : Heap} {ls : Array Slot} (hdg : decode code pc = .ok (.ireturn, 1)) : W p l e room_1 s m #[Value.ref b] below meth c H [] 600000 7302250 (lw_Z below #[Value.ref b] s) (F0 m pc ls [.int 1]) := by
  intro T hT X
  obtain ⟨fs, hret, hrun, hended, hW, hframe⟩ := X.leave (v := some (.int 1)) (hlocks := hlocks) (fun h => by rw [hr] at h; cases h)
  have hmeth' : T.vm.method? m = some meth := X.method'
  refine ⟨T.setFrames fs, ?_, .returned (some (.int 1)), hrun, hended, rfl, ⟨_, rfl⟩, hW, hframe⟩
  jvm_step X.here [X.here.top, hx, hb, hdg, hmeth', hr, ret, narrow_b1]
  (try refine ⟨rfl, ?_⟩); (try refine ⟨rfl, ?_⟩)
  first | (intro acts; rw [hret _ acts rfl rfl rfl]) | rw [hret _ _ rfl rfl rfl]
  exact Steps.refl _
/-- what holds at the law's entry: the machine, the code, the tables' words (any of lw_tbl by 'hts w (by decide +kernel)'), the script of L ints xs at the cell b, what the Statement gives of the start (any of its parts by flat_of_before) -/
def lw_At (p : Program) (s : State) (m : MethodId) (meth : Method) (c : Code) (b L : Nat) (xs : Nat → Int32) : Prop :=
  p.tables.exec = Jvm.exec ∧ c.code = code ∧ meth.sig.returnType = ret ∧ c.maxLocals = 4 ∧ s.vm.findClass R_law = some m.cls ∧ (∀ w ∈ lw_tbl, w.before #[Value.ref b] s = true) ∧ va_X b L xs s s.heap ∧ b < s.heap.size ∧ meth.locks = false ∧ (Jvm.Cond.and given_1 narrow_1).before #[Value.ref b] s = true ∧ meth.name = yL_law.name
theorem sl_0 : Cond.laysStatic "SongReader$Sums" "COSINES" "[I" ∈ lw_tbl := (xm_tb (List.mem_append_right _ (List.mem_append_left _ (List.mem_of_getElem? (i := 9) rfl))))
theorem si_0 : Cond.initialized "SongReader$Sums" ∈ lw_tbl := (xm_tb (List.mem_append_left _ (List.mem_of_getElem? (i := 8) rfl)))
theorem sl_1 : Cond.laysStatic "SongReader$Sums" "WINDOW" "[I" ∈ lw_tbl := (xm_tb (List.mem_append_right _ (List.mem_append_right _ (List.mem_append_left _ (List.mem_of_getElem? (i := 136) rfl)))))
theorem si_1 : Cond.initialized "SongReader$Sums" ∈ lw_tbl := (xm_tb (List.mem_append_left _ (List.mem_of_getElem? (i := 8) rfl)))
theorem sl_2 : Cond.laysStatic "SongReader$Tape" "TURNS" "[I" ∈ lw_tbl := (xm_tb (List.mem_append_right _ (List.mem_append_left _ (List.mem_of_getElem? (i := 151) rfl))))
theorem si_2 : Cond.initialized "SongReader$Tape" ∈ lw_tbl := (xm_tb (List.mem_append_left _ (List.mem_of_getElem? (i := 2) rfl)))
theorem sl_3 : Cond.laysStatic "SongReader$Curve" "RANGES" "[I" ∈ lw_tbl := (xm_tb (List.mem_append_right _ (List.mem_append_right _ (List.mem_append_left _ (List.mem_of_getElem? (i := 66) rfl)))))
theorem si_3 : Cond.initialized "SongReader$Curve" ∈ lw_tbl := (xm_tb (List.mem_append_left _ (List.mem_of_getElem? (i := 7) rfl)))
theorem sl_4 : Cond.laysStatic "SongReader$Curve" "RANGE_BITS" "[I" ∈ lw_tbl := (xm_tb (List.mem_append_right _ (List.mem_append_right _ (List.mem_append_left _ (List.mem_of_getElem? (i := 63) rfl)))))
theorem si_4 : Cond.initialized "SongReader$Curve" ∈ lw_tbl := (xm_tb (List.mem_append_left _ (List.mem_of_getElem? (i := 7) rfl)))
theorem sl_5 : Cond.laysStatic "SongReaderModel" "COSINES" "[I" ∈ lw_tbl := (xm_tb (List.mem_append_right _ (List.mem_append_right _ (List.mem_append_right _ (List.mem_append_right _ (List.mem_of_getElem? (i := 32) rfl))))))
theorem si_5 : Cond.initialized "SongReaderModel" ∈ lw_tbl := (xm_tb (List.mem_append_left _ (List.mem_of_getElem? (i := 11) rfl)))
theorem sl_6 : Cond.laysStatic "SongReaderModel" "WINDOW" "[I" ∈ lw_tbl := (xm_tb (List.mem_append_right _ (List.mem_append_right _ (List.mem_append_right _ (List.mem_append_right _ (List.mem_of_getElem? (i := 37) rfl))))))
theorem si_6 : Cond.initialized "SongReaderModel" ∈ lw_tbl := (xm_tb (List.mem_append_left _ (List.mem_of_getElem? (i := 11) rfl)))
theorem ao_1 : Cond.arrayOver (.object RX1) ∈ lw_tbl := (xm_tb (List.mem_append_left _ (List.mem_of_getElem? (i := 122) rfl)))
theorem ao_7 : Cond.arrayOver (.object RX7) ∈ lw_tbl := (xm_tb (List.mem_append_right _ (List.mem_append_left _ (List.mem_of_getElem? (i := 26) rfl))))
theorem ci_0 : Cond.instantiable RX0 3 ∈ lw_tbl := (xm_tb (List.mem_append_left _ (List.mem_of_getElem? (i := 100) rfl)))
theorem ci_1 : Cond.instantiable RX1 12 ∈ lw_tbl := (xm_tb (List.mem_append_left _ (List.mem_of_getElem? (i := 123) rfl)))
theorem ci_2 : Cond.instantiable RX2 2 ∈ lw_tbl := (xm_tb (List.mem_append_left _ (List.mem_of_getElem? (i := 222) rfl)))
theorem ci_3 : Cond.instantiable RX3 14 ∈ lw_tbl := (xm_tb (List.mem_append_left _ (List.mem_of_getElem? (i := 39) rfl)))
theorem ci_4 : Cond.instantiable RX4 15 ∈ lw_tbl := (xm_tb (List.mem_append_left _ (List.mem_of_getElem? (i := 116) rfl)))
theorem ci_5 : Cond.instantiable RX5 4 ∈ lw_tbl := (xm_tb (List.mem_append_left _ (List.mem_of_getElem? (i := 236) rfl)))
theorem ci_6 : Cond.instantiable RX6 2 ∈ lw_tbl := (xm_tb (List.mem_append_left _ (List.mem_of_getElem? (i := 22) rfl)))
theorem ci_7 : Cond.instantiable RX7 5 ∈ lw_tbl := (xm_tb (List.mem_append_right _ (List.mem_append_left _ (List.mem_of_getElem? (i := 27) rfl))))
theorem ci_8 : Cond.instantiable RX8 11 ∈ lw_tbl := (xm_tb (List.mem_append_left _ (List.mem_of_getElem? (i := 14) rfl)))
theorem ci_9 : Cond.instantiable RX9 52 ∈ lw_tbl := (xm_tb (List.mem_append_right _ (List.mem_append_right _ (List.mem_append_left _ (List.mem_of_getElem? (i := 188) rfl)))))
theorem st_flat : ∀ q ∈ xm_stat, (Cond.arrayOf (.static q.1 q.2.1 "[I") .int ∈ flatC (Jvm.Cond.and given_1 narrow_1) ∧ Cond.eq (.length (.static q.1 q.2.1 "[I")) (.int (Int32.ofNat q.2.2.length)) ∈ flatC (Jvm.Cond.and given_1 narrow_1)) ∧ ∀ j, j < q.2.2.length → Cond.eq (.elem (.static q.1 q.2.1 "[I") (.int (Int32.ofNat j))) (.int (q.2.2.getD j 0)) ∈ flatC (Jvm.Cond.and given_1 narrow_1) := by decide +kernel
theorem st_lay : ∀ (k : Nat) (q : String × String × List Int32), xm_stat[k]? = some q → Cond.laysStatic q.1 q.2.1 "[I" ∈ lw_tbl ∧ Cond.initialized q.1 ∈ lw_tbl ∧ q.2.2.length < 2 ^ 31 := by
  intro k q hq
  match k, hq with
  | 0, hq => cases hq; exact ⟨sl_0, si_0, by decide⟩
  | 1, hq => cases hq; exact ⟨sl_1, si_1, by decide⟩
  | 2, hq => cases hq; exact ⟨sl_2, si_2, by decide⟩
  | 3, hq => cases hq; exact ⟨sl_3, si_3, by decide⟩
  | 4, hq => cases hq; exact ⟨sl_4, si_4, by decide⟩
  | 5, hq => cases hq; exact ⟨sl_5, si_5, by decide⟩
  | 6, hq => cases hq; exact ⟨sl_6, si_6, by decide⟩
  | k + 7, hq => cases hq
theorem w_start {p : Program} {e : Env} {s : State} {m : MethodId} {below : List Frame} {meth : Method} {c : Code} (l : Launch) {b L : Nat} {xs : Nat → Int32} (hL : L ≤ 4096) (C0 : lw_At p s m meth c b L xs) : W p l e room_1 s m #[Value.ref b] below meth c s.heap [] 0 0 (lw_Z below #[Value.ref b] s) (entryFrame m ([Value.ref b] : List Value).toArray 4) := by
  obtain ⟨hx, hb, hr, hml, hown, hts, hX, hbl, hlocks, hgv, hnm⟩ := C0
  have hfl := flat_of_before _ hgv
  have hA : ∀ q : Nat, s.heap.size ≤ q → (fun q : Nat => s.heap.size ≤ q) q := fun _ h => h
  have hA' : ∀ a : Nat, a < s.heap.size → ¬ (fun q : Nat => s.heap.size ≤ q) a := fun a h => Nat.not_le.mpr h
  -- the classes
  have hk : ∀ (C : String) (T : u_T) (N : Nat), (∀ w ∈ u_ws C T N, w ∈ xm_tbl) → (Cond.instantiable C N).before #[Value.ref b] s = true → ∃ d : ClassId × (Nat → Nat), u_Kn s C T N d.1 d.2 := fun C T N h1 h2 => by
    obtain ⟨cC, iS, h⟩ := u_known (ws := lw_tbl) hts (fun w hw => xm_tl (h1 w hw)) h2
    exact ⟨(cC, iS), h⟩
  have hcl : ∀ k : Nat, ∃ d : ClassId × (Nat → Nat), ∀ q : vw_C, vwCl[k]? = some q → u_Kn s q.1 q.2.1 q.2.2 d.1 d.2 := by
    intro k
    cases hv : vwCl[k]? with
    | none => exact ⟨(0, fun _ => 0), fun q hq => by cases hq⟩
    | some q0 =>
      have : ∃ d : ClassId × (Nat → Nat), u_Kn s q0.1 q0.2.1 q0.2.2 d.1 d.2 := by
        match k, hv with
        | 0, hq => cases hq; exact hk _ _ _ xk_0.2.1 (hts _ ci_0)
        | 1, hq => cases hq; exact hk _ _ _ xk_1.2.1 (hts _ ci_1)
        | 2, hq => cases hq; exact hk _ _ _ xk_2.2.1 (hts _ ci_2)
        | 3, hq => cases hq; exact hk _ _ _ xk_3.2.1 (hts _ ci_3)
        | 4, hq => cases hq; exact hk _ _ _ xk_4.2.1 (hts _ ci_4)
        | 5, hq => cases hq; exact hk _ _ _ xk_5.2.1 (hts _ ci_5)
        | 6, hq => cases hq; exact hk _ _ _ xk_6.2.1 (hts _ ci_6)
        | 7, hq => cases hq; exact hk _ _ _ xk_7.2.1 (hts _ ci_7)
        | 8, hq => cases hq; exact hk _ _ _ xk_8.2.1 (hts _ ci_8)
        | 9, hq => cases hq; exact hk _ _ _ xk_9.2.1 (hts _ ci_9)
        | k + 10, hq => cases hq
      obtain ⟨d, hd⟩ := this
      exact ⟨d, fun q hq => by cases hq; exact hd⟩
  obtain ⟨fD, hD⟩ := Classical.axiomOfChoice hcl
  -- the arrays' classes
  have hap : ∀ ty : FieldType, Cond.arrayClass ty ∈ xm_tbl → (ty = .int ∨ ty = .byte ∨ ty = .boolean ∨ ty = .long) → ∃ cA : ClassId, ArrOfT s cA ty ∧ va_RA s cA ty := by
    intro ty hw hp
    obtain ⟨cA, kA, comp, h1, h2, h3⟩ := Cond.arrayClass_spec (hts _ (xm_tl hw))
    refine ⟨cA, fun n z => ⟨fun k h => (by cases h), kA, h2, comp, h3⟩, ?_⟩
    rcases hp with rfl | rfl | rfl | rfl <;> exact h1
  have hao : ∀ C : String, va_AO C s → ∃ cA : ClassId, ArrOfT s cA (.object C) ∧ va_RA s cA (.object C) := by
    intro C h
    obtain ⟨comp, cA, kA, h1, h2, h3, h4, h5⟩ := Cond.arrayOver_spec h
    exact ⟨cA, fun n z => ⟨fun k h => (by cases h), kA, h3, comp, h4⟩, kA, comp, h3, h4, h1, h5⟩
  have hty : ∀ ty : FieldType, ∃ cA : ClassId, ty ∈ [FieldType.int, .byte, .boolean, .long, .object RX1, .object RX7] → ArrOfT s cA ty ∧ va_RA s cA ty := by
    intro ty
    by_cases hm : ty ∈ [FieldType.int, .byte, .boolean, .long, .object RX1, .object RX7]
    · have : ∃ cA : ClassId, ArrOfT s cA ty ∧ va_RA s cA ty := by
        simp only [List.mem_cons, List.not_mem_nil, or_false] at hm
        rcases hm with rfl | rfl | rfl | rfl | rfl | rfl
        · exact hap _ ac_int (Or.inl rfl)
        · exact hap _ ac_byte (Or.inr (Or.inl rfl))
        · exact hap _ ac_boolean (Or.inr (Or.inr (Or.inl rfl)))
        · exact hap _ ac_long (Or.inr (Or.inr (Or.inr rfl)))
        · exact hao _ (va_AO.of (hts _ ao_1))
        · exact hao _ (va_AO.of (hts _ ao_7))
      obtain ⟨cA, h⟩ := this
      exact ⟨cA, fun _ => h⟩
    · exact ⟨0, fun h => absurd h hm⟩
  obtain ⟨aC, haC⟩ := Classical.axiomOfChoice hty
  have hK : va_K (fun k => (fD k).1, fun k => (fD k).2) vwCl (xm_tys aC) s := by
    refine ⟨fun k q hq => hD k q hq, fun k q hq => ?_⟩
    match k, hq with
    | 0, hq => cases hq; exact haC _ (by simp)
    | 1, hq => cases hq; exact haC _ (by simp)
    | 2, hq => cases hq; exact haC _ (by simp)
    | 3, hq => cases hq; exact haC _ (by simp)
    | 4, hq => cases hq; exact haC _ (by simp)
    | 5, hq => cases hq; exact haC _ (by simp)
    | k + 6, hq => cases hq
  -- the statics
  have hst : ∀ k : Nat, ∃ t : Nat, ∀ q, xm_stat[k]? = some q → va_Z q.1 q.2.1 "[I" (.ref t) (fun q : Nat => s.heap.size ≤ q) s s.heap ∧ va_T .int t q.2.2.length (fun j => .int (q.2.2.getD j 0)) (fun q : Nat => s.heap.size ≤ q) s s.heap := by
    intro k
    cases hv : xm_stat[k]? with
    | none => exact ⟨0, fun q hq => by cases hq⟩
    | some q0 =>
      obtain ⟨w1, w2, w3⟩ := st_lay k q0 hv
      obtain ⟨⟨f1, f2⟩, f3⟩ := st_flat q0 (List.mem_of_getElem? hv)
      obtain ⟨t, ht, hT⟩ := va_Tof (A := fun q : Nat => s.heap.size ≤ q) (f := fun j => .int (q0.2.2.getD j 0)) w3 (hfl _ f1) (va_eqt (hfl _ f2)) (fun j hj => va_eqt (hfl _ (f3 j hj))) hA'
      exact ⟨t, fun q hq => by cases hq; exact ⟨va_Zof (hts _ w1) (hts _ w2) ht hA', hT⟩⟩
  obtain ⟨tt, htt⟩ := Classical.axiomOfChoice hst
  -- the names of the cells
  obtain ⟨ad, had, had9⟩ : ∃ ad : Nat → Nat, (∀ k, ad (1000 + k) = tt k) ∧ ad 999 = b := ⟨fun n => if n < 1000 then b else tt (n - 1000), fun k => by show (if 1000 + k < 1000 then b else tt (1000 + k - 1000)) = tt k; rw [if_neg (by omega), Nat.add_sub_cancel_left], if_pos (by decide)⟩
  have hX' : va_T .int b L (fun j => .int (xs j)) (fun q : Nat => s.heap.size ≤ q) s s.heap := by
    obtain ⟨scr, h1, h2, h3, h4, h5⟩ := hX
    exact ⟨scr, h1, h2, h3, Nat.le_of_eq h4.symm, by rw [h4] <;> rfl, h5, hA' b hbl⟩
  have hl := lv_entry ([.ref b]) (n := 4) (Nat.le_of_ble_eq_true rfl)
  rw [lg_entry_eq]
  generalize (lg_sl ([.ref b]) ++ List.replicate (4 - (lg_sl ([.ref b])).length) Slot.unset).toArray = ls at hl ⊢
  have hl2 : xl_has ad ls 4 [some (.ref 999), none, none, none] := by
    refine ⟨hl.1, hl.2.1, fun i v hi => ?_⟩
    match i, hi with
    | 0, hi =>
      cases hi
      show ls[0]? = some (.val (.ref (ad 999)))
      rw [had9]
      exact hl.2.2 (0, .ref b) (by simp [lv_args])
    | 1, hi => cases hi
    | 2, hi => cases hi
    | 3, hi => cases hi
    | i + 4, hi => cases hi
  have key := law_all (L := L) (xs := xs) (μ := (fun _ _ => 0, fun _ _ => 0, fun _ _ => none)) hL p l e s m #[Value.ref b] below meth c (lw_Z below #[Value.ref b] s) (fun q : Nat => s.heap.size ≤ q) (fun k => (fD k).1, fun k => (fD k).2) aC ad s.heap [] ls
    ⟨hx, hb, hml, hown, fun w hw => hts w (xm_tl hw), hnm⟩ hA
    ⟨fun k q h => by simp [xm_ws] at h, ⟨fun i j p q h => by simp [xm_ws] at h, fun k q h => by simp [xm_ws] at h⟩, va_S.rf, hK, ⟨fun k q hq => by rw [had k]; exact htt k q hq, va_AO.of (hts _ ao_1), va_AO.of (hts _ ao_7)⟩, fun q hq => by cases hq; rw [had9]; exact hX', fun c k r hc => absurd hc (Nat.not_lt_zero c)⟩
    hl2 ⟨Nat.zero_le _, Nat.zero_le _⟩
  refine key ?_
  intro r sh' μ' ad' H' locs' al' ls' pc' hPr hE hSt hal hrk hdec
  subst hPr
  refine W.widen (k := 600000) (n := 7302250) hal.1 hal.2 ?_
  refine va_forget (fun q hq => hSt.2.2.1.2.2 q hq) ?_
  exact lw_ret hx hb hr hlocks hdec
