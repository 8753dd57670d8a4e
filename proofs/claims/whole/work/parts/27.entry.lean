/-! THE CLAIM OUT OF ONE WALK OF THE LAW'S BODY. Your part is whole_start (and what it stands on); all else here is the same for every law, but numbers. -/
def R_law : String := "TermOfficeLaw"
def lw_P (b : Addr) (xs : List Int32) (args : Array Value) (s : State) : Prop := args = #[.ref b] ∧ s.IntsAt b xs ∧ xs.length ≤ 2560 ∧ (Jvm.Cond.and given_1 narrow_1).before args s = true
def lw_Q (_ : Array Value) (s : State) (o : Outcome) (t : State) : Prop := o = .returned (some (.int 1)) ∧ Framed s o t [] 600000 7302250
def lw_Z (below : List Frame) (a : Array Value) (s : State) : State → Prop := fun t => ∃ o, t.status = .running ∧ Ended t below o ∧ lw_Q a s o t
/-- the law's own end, with 1 on the stack, nothing written that was there before, its room as the claim has it -/
theorem lw_ret {p : Program} {l : Launch} {e : Env} {s : State} {m : MethodId} {below : List Frame} {meth : Method} {c : Code} {b : Nat} (hx : p.tables.exec = Jvm.exec) (hb : c.code = code) (hr : meth.sig.returnType = ret) (hlocks : meth.locks = false) {pc : Nat} {H : Heap} {ls : Array Slot} (hdg : decode code pc = .ok (.ireturn, 1)) : W p l e room_1 s m #[Value.ref b] below meth c H [] 600000 7302250 (lw_Z below #[Value.ref b] s) (F0 m pc ls [.int 1]) := by
  intro T hT X
  obtain ⟨fs, hret, hrun, hended, hW, hframe⟩ := X.leave (v := some (.int 1)) (hlocks := hlocks) (fun h => by rw [hr] at h; cases h)
  have hmeth' : T.vm.method? m = some meth := X.method'
  refine ⟨T.setFrames fs, ?_, .returned (some (.int 1)), hrun, hended, rfl, ⟨_, rfl⟩, hW, hframe⟩
  jvm_step X.here [X.here.top, hx, hb, hdg, hmeth', hr, ret, narrow_b1]
  (try refine ⟨rfl, ?_⟩); (try refine ⟨rfl, ?_⟩)
  first | (intro acts; rw [hret _ acts rfl rfl rfl]) | rw [hret _ _ rfl rfl rfl]
  exact Steps.refl _
/-- what holds at the law's entry: the machine, the code, the tables' words (any of lw_tbl by 'hts w (by decide +kernel)'), the script of L ints xs at the cell b, what the Statement gives of the start (any of its parts by flat_of_before) -/
def lw_At (p : Program) (s : State) (m : MethodId) (meth : Method) (c : Code) (b L : Nat) (xs : Nat → Int32) : Prop :=
  p.tables.exec = Jvm.exec ∧ c.code = code ∧ meth.sig.returnType = ret ∧ c.maxLocals = 4 ∧ s.vm.findClass R_law = some m.cls ∧ (∀ w ∈ lw_tbl, w.before #[Value.ref b] s = true) ∧ va_X b L xs s s.heap ∧ b < s.heap.size ∧ meth.locks = false ∧ (Jvm.Cond.and given_1 narrow_1).before #[Value.ref b] s = true
theorem st_arr {args : Array Value} {s : State} {tm : Term} {N : Nat} {f : Nat → Int32} (hN : N < 2 ^ 31) (harr : (Cond.arrayOf tm .int).before args s = true) (hlen : (Term.length tm).eval args s none [] s = some (.int (Int32.ofNat N))) (hel : ∀ j : Nat, j < N → (Term.elem tm (.int (Int32.ofNat j))).eval args s none [] s = some (.int (f j))) : ∃ t : Nat, tm.eval args s none [] s = some (.ref t) ∧ va_X t N f s s.heap ∧ t < s.heap.size := by
  obtain ⟨t0, e0, cell, h1, h2, h3, h4, h5, h6, h7⟩ := va_Tof (A := fun q => s.heap.size ≤ q) (f := fun j => .int (f j)) hN harr hlen hel (fun a ha => Nat.not_le.mpr ha)
  obtain ⟨t, cell2, ht, hat, hv⟩ := Term.length_spec hlen
  have hsz : cell2.slots.size < 2 ^ 31 := by
    simp only [Term.eval, ht, hat, Option.bind_eq_bind, Option.bind_some] at hlen
    by_cases hlt : cell2.slots.size < 2147483648
    · exact hlt
    · simp [hlt] at hlen
  obtain ⟨hcell, -, -, -⟩ := State.arrayAt?_spec hat
  have et : t0 = t := by
    have := e0.symm.trans ht
    cases this
    rfl
  subst et
  have ec : cell2 = cell := by
    have := hcell.symm.trans h1
    cases this
    rfl
  subst ec
  have es : cell2.slots.size = N := (nI_eq hsz hN).mp h5
  exact ⟨t0, e0, ⟨cell2, h1, h2, h3, es, h6⟩, (Array.getElem?_eq_some_iff.mp h1).1⟩
theorem whole_start {p : Program} {e : Env} {s : State} {m : MethodId} {below : List Frame} {meth : Method} {c : Code} (l : Launch) (hflags : l.flags = flags0) {b L : Nat} {xs : Nat → Int32} (hL : L ≤ 2560) (C0 : lw_At p s m meth c b L xs) : W p l e room_1 s m #[Value.ref b] below meth c s.heap [] 0 0 (lw_Z below #[Value.ref b] s) (entryFrame m ([Value.ref b] : List Value).toArray 4) := by
  obtain ⟨hx, hb, hr, hml, hown, hts, hX, hbl, hlocks, hgv⟩ := id C0
  have hg := flat_of_before _ hgv
  obtain ⟨c0, iS0, hKn0⟩ := u_known (C := RX0) (T := TX0) (N := 2) (n := 2) hts in_X0 (hts (.instantiable RX0 2) (List.mem_of_getElem? (i := 61) (by decide +kernel)))
  obtain ⟨c1, iS1, hKn1⟩ := u_known (C := RX1) (T := TX1) (N := 4) (n := 4) hts in_X1 (hts (.instantiable RX1 4) (List.mem_of_getElem? (i := 154) (by decide +kernel)))
  obtain ⟨c2, iS2, hKn2⟩ := u_known (C := RX2) (T := TX2) (N := 3) (n := 3) hts in_X2 (hts (.instantiable RX2 3) (List.mem_of_getElem? (i := 82) (by decide +kernel)))
  obtain ⟨c3, iS3, hKn3⟩ := u_known (C := RX3) (T := TX3) (N := 3) (n := 3) hts in_X3 (hts (.instantiable RX3 3) (List.mem_of_getElem? (i := 228) (by decide +kernel)))
  obtain ⟨c4, iS4, hKn4⟩ := u_known (C := RX4) (T := TX4) (N := 2) (n := 2) hts in_X4 (hts (.instantiable RX4 2) (List.mem_of_getElem? (i := 104) (by decide +kernel)))
  obtain ⟨c5, iS5, hKn5⟩ := u_known (C := RX5) (T := TX5) (N := 12) (n := 12) hts in_X5 (hts (.instantiable RX5 12) (List.mem_of_getElem? (i := 76) (by decide +kernel)))
  obtain ⟨c6, iS6, hKn6⟩ := u_known (C := RX6) (T := TX6) (N := 9) (n := 9) hts in_X6 (hts (.instantiable RX6 9) (List.mem_of_getElem? (i := 119) (by decide +kernel)))
  obtain ⟨c7, iS7, hKn7⟩ := u_known (C := RX7) (T := TX7) (N := 3) (n := 3) hts in_X7 (hts (.instantiable RX7 3) (List.mem_of_getElem? (i := 53) (by decide +kernel)))
  obtain ⟨c8, iS8, hKn8⟩ := u_known (C := RX8) (T := TX8) (N := 6) (n := 6) hts in_X8 (hts (.instantiable RX8 6) (List.mem_of_getElem? (i := 650) (by decide +kernel)))
  obtain ⟨dC, dI, hKc⟩ : ∃ (dC : Nat → ClassId) (dI : Nat → Nat → Nat), ∀ (k : Nat) (q : vw_C), vwCl[k]? = some q → u_Kn s q.1 q.2.1 q.2.2 (dC k) (dI k) := by
    refine ⟨fun k => if k = 0 then c0 else if k = 1 then c1 else if k = 2 then c2 else if k = 3 then c3 else if k = 4 then c4 else if k = 5 then c5 else if k = 6 then c6 else if k = 7 then c7 else c8, fun k => if k = 0 then iS0 else if k = 1 then iS1 else if k = 2 then iS2 else if k = 3 then iS3 else if k = 4 then iS4 else if k = 5 then iS5 else if k = 6 then iS6 else if k = 7 then iS7 else iS8, ?_⟩
    intro k q hq
    match k, hq with
    | 0, hq => cases hq; exact hKn0
    | 1, hq => cases hq; exact hKn1
    | 2, hq => cases hq; exact hKn2
    | 3, hq => cases hq; exact hKn3
    | 4, hq => cases hq; exact hKn4
    | 5, hq => cases hq; exact hKn5
    | 6, hq => cases hq; exact hKn6
    | 7, hq => cases hq; exact hKn7
    | 8, hq => cases hq; exact hKn8
    | k + 9, hq => simp [vwCl] at hq
  obtain ⟨cI, kI, pI, i1, i2, i3⟩ := Cond.arrayClass_spec (type := .int) (hts (.arrayClass .int) (List.mem_of_getElem? (i := 74) (by decide +kernel)))
  obtain ⟨pS, cS, kS, j1, j2, j3, j4, j5⟩ := Cond.arrayOver_spec (n := RX5) (hts (.arrayOver (.object RX5)) (List.mem_of_getElem? (i := 234) (by decide +kernel)))
  obtain ⟨t1, e1, x1, b1⟩ := st_arr (tm := (Term.static "TermOffice" "LEAST_VALUES" "[I")) (N := 6) (f := tv_least) (by omega) (hg (Cond.arrayOf (Term.static "TermOffice" "LEAST_VALUES" "[I") .int) (by decide +kernel)) (va_eqt (z := 6) (hg (Cond.eq (.length (Term.static "TermOffice" "LEAST_VALUES" "[I")) (.int 6)) (by decide +kernel))) (fun j hj => by
    rcases (show j = 0 ∨ j = 1 ∨ j = 2 ∨ j = 3 ∨ j = 4 ∨ j = 5 by omega) with rfl | rfl | rfl | rfl | rfl | rfl
    · exact va_eqt (t := .elem (Term.static "TermOffice" "LEAST_VALUES" "[I") (.int 0)) (z := 10) (hg (Cond.eq (.elem (Term.static "TermOffice" "LEAST_VALUES" "[I") (.int 0)) (.int 10)) (by decide +kernel))
    · exact va_eqt (t := .elem (Term.static "TermOffice" "LEAST_VALUES" "[I") (.int 1)) (z := 1) (hg (Cond.eq (.elem (Term.static "TermOffice" "LEAST_VALUES" "[I") (.int 1)) (.int 1)) (by decide +kernel))
    · exact va_eqt (t := .elem (Term.static "TermOffice" "LEAST_VALUES" "[I") (.int 2)) (z := 1) (hg (Cond.eq (.elem (Term.static "TermOffice" "LEAST_VALUES" "[I") (.int 2)) (.int 1)) (by decide +kernel))
    · exact va_eqt (t := .elem (Term.static "TermOffice" "LEAST_VALUES" "[I") (.int 3)) (z := 1) (hg (Cond.eq (.elem (Term.static "TermOffice" "LEAST_VALUES" "[I") (.int 3)) (.int 1)) (by decide +kernel))
    · exact va_eqt (t := .elem (Term.static "TermOffice" "LEAST_VALUES" "[I") (.int 4)) (z := 0) (hg (Cond.eq (.elem (Term.static "TermOffice" "LEAST_VALUES" "[I") (.int 4)) (.int 0)) (by decide +kernel))
    · exact va_eqt (t := .elem (Term.static "TermOffice" "LEAST_VALUES" "[I") (.int 5)) (z := 1) (hg (Cond.eq (.elem (Term.static "TermOffice" "LEAST_VALUES" "[I") (.int 5)) (.int 1)) (by decide +kernel)))
  obtain ⟨t2, e2, x2, b2⟩ := st_arr (tm := (Term.static "TermOffice" "GREATEST_VALUES" "[I")) (N := 6) (f := tv_great) (by omega) (hg (Cond.arrayOf (Term.static "TermOffice" "GREATEST_VALUES" "[I") .int) (by decide +kernel)) (va_eqt (z := 6) (hg (Cond.eq (.length (Term.static "TermOffice" "GREATEST_VALUES" "[I")) (.int 6)) (by decide +kernel))) (fun j hj => by
    rcases (show j = 0 ∨ j = 1 ∨ j = 2 ∨ j = 3 ∨ j = 4 ∨ j = 5 by omega) with rfl | rfl | rfl | rfl | rfl | rfl
    · exact va_eqt (t := .elem (Term.static "TermOffice" "GREATEST_VALUES" "[I") (.int 0)) (z := 1000) (hg (Cond.eq (.elem (Term.static "TermOffice" "GREATEST_VALUES" "[I") (.int 0)) (.int 1000)) (by decide +kernel))
    · exact va_eqt (t := .elem (Term.static "TermOffice" "GREATEST_VALUES" "[I") (.int 1)) (z := 9) (hg (Cond.eq (.elem (Term.static "TermOffice" "GREATEST_VALUES" "[I") (.int 1)) (.int 9)) (by decide +kernel))
    · exact va_eqt (t := .elem (Term.static "TermOffice" "GREATEST_VALUES" "[I") (.int 2)) (z := 9) (hg (Cond.eq (.elem (Term.static "TermOffice" "GREATEST_VALUES" "[I") (.int 2)) (.int 9)) (by decide +kernel))
    · exact va_eqt (t := .elem (Term.static "TermOffice" "GREATEST_VALUES" "[I") (.int 3)) (z := 100) (hg (Cond.eq (.elem (Term.static "TermOffice" "GREATEST_VALUES" "[I") (.int 3)) (.int 100)) (by decide +kernel))
    · exact va_eqt (t := .elem (Term.static "TermOffice" "GREATEST_VALUES" "[I") (.int 4)) (z := 100) (hg (Cond.eq (.elem (Term.static "TermOffice" "GREATEST_VALUES" "[I") (.int 4)) (.int 100)) (by decide +kernel))
    · exact va_eqt (t := .elem (Term.static "TermOffice" "GREATEST_VALUES" "[I") (.int 5)) (z := 10) (hg (Cond.eq (.elem (Term.static "TermOffice" "GREATEST_VALUES" "[I") (.int 5)) (.int 10)) (by decide +kernel)))
  obtain ⟨t3, e3, x3, b3⟩ := st_arr (tm := (Term.static "TermOffice" "INITIAL_VALUES" "[I")) (N := 6) (f := tv_initv) (by omega) (hg (Cond.arrayOf (Term.static "TermOffice" "INITIAL_VALUES" "[I") .int) (by decide +kernel)) (va_eqt (z := 6) (hg (Cond.eq (.length (Term.static "TermOffice" "INITIAL_VALUES" "[I")) (.int 6)) (by decide +kernel))) (fun j hj => by
    rcases (show j = 0 ∨ j = 1 ∨ j = 2 ∨ j = 3 ∨ j = 4 ∨ j = 5 by omega) with rfl | rfl | rfl | rfl | rfl | rfl
    · exact va_eqt (t := .elem (Term.static "TermOffice" "INITIAL_VALUES" "[I") (.int 0)) (z := 100) (hg (Cond.eq (.elem (Term.static "TermOffice" "INITIAL_VALUES" "[I") (.int 0)) (.int 100)) (by decide +kernel))
    · exact va_eqt (t := .elem (Term.static "TermOffice" "INITIAL_VALUES" "[I") (.int 1)) (z := 2) (hg (Cond.eq (.elem (Term.static "TermOffice" "INITIAL_VALUES" "[I") (.int 1)) (.int 2)) (by decide +kernel))
    · exact va_eqt (t := .elem (Term.static "TermOffice" "INITIAL_VALUES" "[I") (.int 2)) (z := 1) (hg (Cond.eq (.elem (Term.static "TermOffice" "INITIAL_VALUES" "[I") (.int 2)) (.int 1)) (by decide +kernel))
    · exact va_eqt (t := .elem (Term.static "TermOffice" "INITIAL_VALUES" "[I") (.int 3)) (z := 50) (hg (Cond.eq (.elem (Term.static "TermOffice" "INITIAL_VALUES" "[I") (.int 3)) (.int 50)) (by decide +kernel))
    · exact va_eqt (t := .elem (Term.static "TermOffice" "INITIAL_VALUES" "[I") (.int 4)) (z := 50) (hg (Cond.eq (.elem (Term.static "TermOffice" "INITIAL_VALUES" "[I") (.int 4)) (.int 50)) (by decide +kernel))
    · exact va_eqt (t := .elem (Term.static "TermOffice" "INITIAL_VALUES" "[I") (.int 5)) (z := 3) (hg (Cond.eq (.elem (Term.static "TermOffice" "INITIAL_VALUES" "[I") (.int 5)) (.int 3)) (by decide +kernel)))
  obtain ⟨g, hgd⟩ : ∃ g : tv_G, g = ((dC, dI), cI, cS, s.heap.size, (fun i => if i = 0 then b else if i = 1 then t1 else if i = 2 then t2 else t3), (fun i => if i = 0 then L else 6), (fun i => if i = 0 then xs else if i = 1 then tv_least else if i = 2 then tv_great else tv_initv)) := ⟨_, rfl⟩
  have gN : tv_N g = s.heap.size := by rw [hgd]
  have gX2 : tv_XL g 1 = 6 ∧ tv_X g 1 = tv_least ∧ tv_XL g 2 = 6 ∧ tv_X g 2 = tv_great := by rw [hgd]; exact ⟨rfl, rfl, rfl, rfl⟩
  have gX : tv_XL g 0 = L ∧ tv_X g 0 = xs := by rw [hgd]; exact ⟨rfl, rfl⟩
  have gX3 : tv_XL g 3 = 6 := by rw [hgd]; rfl
  have gX4 : tv_X g 3 = tv_initv := by rw [hgd]; rfl
  have gb : tv_xa g 0 = b := by rw [hgd]; rfl
  have hA : ∀ a : Nat, a < s.heap.size → ¬ tv_A g a := fun a ha => by unfold tv_A; rw [gN]; exact Nat.not_le.mpr ha
  have hWd : tv_Wd g s := by
    refine ⟨fun w hw hgw a => tv_gw_move hgw (State.WarmedH.refl s) (hts w hw), va_AO.of (hts (.arrayOver (.object RX5)) (List.mem_of_getElem? (i := 234) (by decide +kernel))), ?_, by rw [gN]; exact Nat.le_refl _, fun i hi => ?_, fun i hi h1 => ?_⟩
    · rw [hgd]
      refine ⟨hKc, fun k q hk => ?_⟩
      match k, hk with
      | 0, hk => cases hk; exact ⟨fun n z => ⟨fun k h => (by cases h), kI, i2, pI, i3⟩, i1⟩
      | 1, hk => cases hk; exact ⟨fun n z => ⟨fun k h => (by cases h), kS, j3, pS, j4⟩, ⟨kS, pS, j3, j4, j1, j5⟩⟩
      | k + 2, hk => simp at hk
    · rw [hgd]
      rcases (show i = 0 ∨ i = 1 ∨ i = 2 ∨ i = 3 by omega) with rfl | rfl | rfl | rfl
      · exact ⟨hX, hbl⟩
      · exact ⟨x1, b1⟩
      · exact ⟨x2, b2⟩
      · exact ⟨x3, b3⟩
    · rcases (show i = 1 ∨ i = 2 ∨ i = 3 by omega) with rfl | rfl | rfl
      · have z := va_Zof (A := tv_A g) (hts (.laysStatic "TermOffice" "LEAST_VALUES" "[I" ) (List.mem_of_getElem? (i := 262) (by decide +kernel))) (hts (.initialized "TermOffice" ) (List.mem_of_getElem? (i := 39) (by decide +kernel))) e1 hA
        rw [show tv_xa g 1 = t1 from by rw [hgd]; rfl]
        exact z
      · have z := va_Zof (A := tv_A g) (hts (.laysStatic "TermOffice" "GREATEST_VALUES" "[I" ) (List.mem_of_getElem? (i := 264) (by decide +kernel))) (hts (.initialized "TermOffice" ) (List.mem_of_getElem? (i := 39) (by decide +kernel))) e2 hA
        rw [show tv_xa g 2 = t2 from by rw [hgd]; rfl]
        exact z
      · have z := va_Zof (A := tv_A g) (hts (.laysStatic "TermOffice" "INITIAL_VALUES" "[I" ) (List.mem_of_getElem? (i := 174) (by decide +kernel))) (hts (.initialized "TermOffice" ) (List.mem_of_getElem? (i := 39) (by decide +kernel))) e3 hA
        rw [show tv_xa g 3 = t3 from by rw [hgd]; rfl]
        exact z
  obtain ⟨hf, E⟩ := R_L_start (g := g) (l := l) gX2 gX gX3 gX4 hL
  have hl := lv_entry ([.ref b]) (n := 4) (Nat.le_of_ble_eq_true rfl)
  rw [lg_entry_eq]
  generalize (lg_sl ([.ref b]) ++ List.replicate (4 - (lg_sl ([.ref b])).length) Slot.unset).toArray = ls at hl ⊢
  have hl : lv_has ls 4 [(0, .ref b)] := hl
  refine E p e room_1 s m #[Value.ref b] below meth c _ s.heap [] 0 0 ls ⟨hx, hb, hml, hown, hWd, (Nat.le_of_ble_eq_true rfl), (Nat.le_of_ble_eq_true rfl), fun z => absurd z (by decide)⟩ (fun k q h => by simp [tv_cc] at h) (by rw [gN]; rfl) va_S.rf ⟨hl.1, hl.2.1, fun i v h1 h2 => ?_⟩ (Nat.le_of_ble_eq_true rfl) (Nat.le_of_ble_eq_true rfl) (fun pc' ls' H' locs' hrp hP' hz' hS' => ?_)
  · match i, h1 with
    | 0, h1 =>
      cases h1
      rw [show tv_cv g (.ref 1000) = .ref b from by rw [← gb]; exact congrArg Value.ref (tv_adx g 0)]
      exact hl.2.2 (0, .ref b) List.mem_cons_self
    | 1, h1 => cases h1; exact absurd rfl h2
    | 2, h1 => cases h1; exact absurd rfl h2
    | 3, h1 => cases h1; exact absurd rfl h2
    | i + 4, h1 => simp at h1
  · refine va_forget (fun q hq => ?_) (W.widen (k := 600000) (n := 7302250) (by omega) (by omega) (lw_ret hx hb hr hlocks hrp.1))
    have := hS'.2.2 q hq
    unfold tv_A at this
    rw [gN] at this
    exact this
