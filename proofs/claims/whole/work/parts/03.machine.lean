/-! ===== THE ABSTRACT MACHINE: cells by their places, refs are places (from 1000 on: arrays that were there before) ===== -/
abbrev tv_TE : Type := (Nat × (Nat → Int32)) ⊕ ((Nat × (Nat → Option Nat)) ⊕ (Nat × List Value))
abbrev tv_Hp : Type := List tv_TE
abbrev tv_G : Type := va_G × ClassId × ClassId × Nat × (Nat → Nat) × (Nat → Nat) × (Nat → Nat → Int32)
abbrev tv_D (g : tv_G) : va_G := g.1
abbrev tv_cI (g : tv_G) : ClassId := g.2.1
abbrev tv_cS (g : tv_G) : ClassId := g.2.2.1
abbrev tv_N (g : tv_G) : Nat := g.2.2.2.1
abbrev tv_xa (g : tv_G) : Nat → Nat := g.2.2.2.2.1
abbrev tv_XL (g : tv_G) : Nat → Nat := g.2.2.2.2.2.1
abbrev tv_X (g : tv_G) : Nat → Nat → Int32 := g.2.2.2.2.2.2
def tv_A (g : tv_G) : Nat → Prop := fun q => tv_N g ≤ q
def tv_ad (g : tv_G) (i : Nat) : Nat := if i < 1000 then tv_N g + i else tv_xa g (i - 1000)
def tv_cv (g : tv_G) : Value → Value
  | .ref i => .ref (tv_ad g i)
  | v => v
theorem tv_adx (g : tv_G) (i : Nat) : tv_ad g (1000 + i) = tv_xa g i := by
  unfold tv_ad
  rw [if_neg (by omega), Nat.add_sub_cancel_left]
theorem tv_cat (g : tv_G) (v : Value) : (tv_cv g v).category = v.category := by cases v <;> rfl
theorem tv_cvnull {g : tv_G} {v : Value} (h : tv_cv g v = .null) : v = .null := by cases v <;> first | rfl | cases h
def tv_ce (g : tv_G) : tv_TE → va_E
  | .inl a => .inl (tv_cI g, a.1, .inl a.2)
  | .inr (.inl a) => .inl (tv_cS g, a.1, .inr (.inr (.inr (.inr (fun i => (a.2 i).map (tv_ad g))))))
  | .inr (.inr o) => .inr (o.1, o.2.map (tv_cv g))
def tv_cc (g : tv_G) (h : tv_Hp) : va_W := h.mapIdx (fun i e => (tv_N g + i, tv_ce g e))
theorem tv_cc_get {g : tv_G} {h : tv_Hp} {i : Nat} {e : tv_TE} (hi : h[i]? = some e) : (tv_cc g h)[i]? = some (tv_N g + i, tv_ce g e) := by
  unfold tv_cc
  rw [List.getElem?_mapIdx, hi]
  rfl
theorem tv_cc_inv {g : tv_G} {h : tv_Hp} {i : Nat} {q : Nat × va_E} (hi : (tv_cc g h)[i]? = some q) : q.1 = tv_N g + i := by
  unfold tv_cc at hi
  rw [List.getElem?_mapIdx] at hi
  cases he : h[i]? with
  | none => rw [he] at hi; cases hi
  | some e => rw [he] at hi; cases hi; rfl
theorem tv_cc_set {g : tv_G} {h : tv_Hp} {i : Nat} {e : tv_TE} : tv_cc g (h.set i e) = (tv_cc g h).set i (tv_N g + i, tv_ce g e) := by
  apply List.ext_getElem?
  intro j
  unfold tv_cc
  rw [List.getElem?_mapIdx, List.getElem?_set, List.getElem?_set, List.getElem?_mapIdx, List.length_mapIdx]
  by_cases hj : i = j
  · subst hj
    simp only [if_true]
    split <;> rfl
  · simp only [hj, if_false]
theorem tv_cc_app {g : tv_G} {h : tv_Hp} {e : tv_TE} : tv_cc g (h ++ [e]) = tv_cc g h ++ [(tv_N g + h.length, tv_ce g e)] := by
  unfold tv_cc
  rw [List.mapIdx_concat]
theorem tv_DD (g : tv_G) (h : tv_Hp) : va_D (tv_A g) (tv_cc g h) := by
  refine ⟨fun i j p q hi hj hpq => ?_, fun k q hk => ?_⟩
  · have h1 := tv_cc_inv hi
    have h2 := tv_cc_inv hj
    omega
  · have h1 := tv_cc_inv hk
    show tv_N g ≤ q.1
    omega
/-! the words -/
def tv_gw : Cond → Bool
  | .methodLinkNest .. => true
  | .fieldLinkNest .. => true
  | w => goodWord w
theorem tv_gw_move {w : Cond} (hw : tv_gw w = true) {s U : State} (hW : s.WarmedH U.vm) {a a' : Array Value} (h : w.before a s = true) : w.before a' U = true := by
  cases w with
  | methodLinkNest x i y z => exact va_Nw.use rfl (va_Nw.warmM hW (va_Nw.of rfl h))
  | fieldLinkNest x i y z w v => exact va_Nw.use rfl (va_Nw.warmF hW (va_Nw.of rfl h))
  | _ => exact word_at hW (good_of_word hw) h
def tv_sn (i : Nat) : String := match i with
  | 1 => "LEAST_VALUES"
  | 2 => "GREATEST_VALUES"
  | _ => "INITIAL_VALUES"
/-- what holds of the world outside our cells, at every state -/
def tv_Wd (g : tv_G) (U : State) : Prop :=
  (∀ w ∈ lw_tbl, tv_gw w = true → ∀ a, w.before a U = true) ∧ va_AO RX5 U ∧ va_K (tv_D g) vwCl [(tv_cI g, .int), (tv_cS g, .object RX5)] U ∧ tv_N g ≤ U.heap.size ∧
  (∀ i, i < 4 → va_X (tv_xa g i) (tv_XL g i) (tv_X g i) U U.heap ∧ tv_xa g i < tv_N g) ∧
  (∀ i, i < 4 → 1 ≤ i → va_Z RX7 (tv_sn i) "[I" (.ref (tv_xa g i)) (tv_A g) U U.heap)
theorem tv_Wd.move {g : tv_G} {s U : State} {H : Heap} {locs : List Loc} (h : tv_Wd g s) (hS : va_S (tv_A g) s.heap H locs) (hH : U.heap = H) (hW : s.WarmedH U.vm) : tv_Wd g U := by
  obtain ⟨h1, h2, h3, h4, h5, h6⟩ := h
  refine ⟨fun w hw hg a => tv_gw_move hg hW (h1 w hw hg #[]), h2.moved hW.alike, h3.moved hW.alike, by rw [hH]; exact Nat.le_trans h4 hS.1, fun i hi => ⟨?_, (h5 i hi).2⟩, fun i hi h0 => ?_⟩
  · refine ((h5 i hi).1.moved hW.alike).kept ?_
    rw [hH]
    exact hS.2.1 _ (Nat.lt_of_lt_of_le (h5 i hi).2 h4) (Nat.not_le.mpr (h5 i hi).2)
  · refine ((h6 i hi h0).moved hW.alike).kept (fun a ha hA => ?_)
    rw [hH]
    exact hS.2.1 a ha hA
theorem tv_Wd.blind {g : tv_G} {U : State} (h : tv_Wd g U) (f : JFrame) (mk : MethodId) (a : Array Value) : tv_Wd g (U.calling f mk a) :=
  h.move (locs := []) va_S.rf rfl (State.WarmedH.refl U)
/-! the locals: a list; null stands where nothing is known -/
def tv_L (g : tv_G) (nL : Nat) (L : List Value) (ls : Array Slot) : Prop := ls.size = nL ∧ lv_wf ls ∧ ∀ (i : Nat) (v : Value), L[i]? = some v → v ≠ .null → ls[i]? = some (.val (tv_cv g v))
def tv_lv (g : tv_G) (L : List Value) : List (Nat × Value) := (List.range L.length).filterMap (fun i => match L[i]? with
  | some Value.null => none
  | some v => some (i, tv_cv g v)
  | none => none)
theorem tv_lv_mem {g : tv_G} {L : List Value} {i : Nat} {v : Value} (h : L[i]? = some v) (hv : v ≠ .null) : (i, tv_cv g v) ∈ tv_lv g L := by
  unfold tv_lv
  refine List.mem_filterMap.mpr ⟨i, List.mem_range.mpr (List.getElem?_eq_some_iff.mp h).1, ?_⟩
  rw [h]
  cases v <;> first | rfl | exact absurd rfl hv
theorem tv_lv_inv {g : tv_G} {L : List Value} {q : Nat × Value} (h : q ∈ tv_lv g L) : ∃ v, L[q.1]? = some v ∧ v ≠ .null ∧ q.2 = tv_cv g v := by
  unfold tv_lv at h
  obtain ⟨i, -, hi⟩ := List.mem_filterMap.mp h
  cases hL : L[i]? with
  | none => rw [hL] at hi; cases hi
  | some v =>
    rw [hL] at hi
    cases v <;> first | (cases hi; exact ⟨_, hL, (fun z => by cases z), rfl⟩) | cases hi
theorem tv_L.has {g : tv_G} {nL : Nat} {L : List Value} {ls : Array Slot} (h : tv_L g nL L ls) : lv_has ls nL (tv_lv g L) := by
  refine ⟨h.1, h.2.1, fun q hq => ?_⟩
  obtain ⟨v, h1, h2, h3⟩ := tv_lv_inv hq
  rw [h3]
  exact h.2.2 q.1 v h1 h2
theorem tv_L.get {g : tv_G} {nL : Nat} {L : List Value} {ls : Array Slot} (h : tv_L g nL L ls) {i : Nat} {v : Value} (hi : L[i]? = some v) (hv : v ≠ .null) : ls[i]? = some (.val (tv_cv g v)) := h.2.2 i v hi hv
def tv_set : List Value → Nat → Value → List Value
  | [], _, _ => []
  | _ :: t, 0, v => v :: t
  | w :: t, 1, v => (if w.category = 2 then .null else w) :: tv_set t 0 v
  | w :: t, i + 2, v => w :: tv_set t (i + 1) v
def tv_set2 : List Value → Nat → Value → List Value
  | [], _, _ => []
  | _ :: [], 0, v => [v]
  | _ :: _ :: t, 0, v => v :: .null :: t
  | w :: t, 1, v => (if w.category = 2 then .null else w) :: tv_set2 t 0 v
  | w :: t, i + 2, v => w :: tv_set2 t (i + 1) v
theorem tv_set_get : ∀ (L : List Value) (i : Nat) (v : Value) (j : Nat) (w : Value), (tv_set L i v)[j]? = some w → w ≠ .null → (j = i ∧ w = v) ∨ (j ≠ i ∧ L[j]? = some w ∧ ¬ (j + 1 = i ∧ w.category = 2))
  | [], i, v, j, w, h, _ => by simp [tv_set] at h
  | x :: t, 0, v, j, w, h, hw => by
    cases j with
    | zero => simp [tv_set] at h; exact Or.inl ⟨rfl, h.symm⟩
    | succ j => simp [tv_set] at h; exact Or.inr ⟨by omega, by simpa using h, by omega⟩
  | x :: t, 1, v, j, w, h, hw => by
    cases j with
    | zero =>
      simp only [tv_set, List.getElem?_cons_zero, Option.some.injEq] at h
      split at h
      · exact absurd h.symm hw
      next hc => subst h; exact Or.inr ⟨by omega, rfl, fun z => hc z.2⟩
    | succ j =>
      simp only [tv_set, List.getElem?_cons_succ] at h
      rcases tv_set_get t 0 v j w h hw with ⟨h1, h2⟩ | ⟨h1, h2, h3⟩
      · exact Or.inl ⟨by omega, h2⟩
      · exact Or.inr ⟨by omega, by simpa using h2, by omega⟩
  | x :: t, i + 2, v, j, w, h, hw => by
    cases j with
    | zero =>
      simp only [tv_set, List.getElem?_cons_zero, Option.some.injEq] at h
      exact Or.inr ⟨by omega, by simpa using h, by omega⟩
    | succ j =>
      simp only [tv_set, List.getElem?_cons_succ] at h
      rcases tv_set_get t (i + 1) v j w h hw with ⟨h1, h2⟩ | ⟨h1, h2, h3⟩
      · exact Or.inl ⟨by omega, h2⟩
      · exact Or.inr ⟨by omega, by simpa using h2, fun z => h3 ⟨by omega, z.2⟩⟩
theorem tv_set2_get : ∀ (L : List Value) (i : Nat) (v : Value) (j : Nat) (w : Value), (tv_set2 L i v)[j]? = some w → w ≠ .null → (j = i ∧ w = v) ∨ (j ≠ i ∧ j ≠ i + 1 ∧ L[j]? = some w ∧ ¬ (j + 1 = i ∧ w.category = 2))
  | [], i, v, j, w, h, _ => by simp [tv_set2] at h
  | [x], 0, v, j, w, h, hw => by
    cases j with
    | zero => simp [tv_set2] at h; exact Or.inl ⟨rfl, h.symm⟩
    | succ j => simp [tv_set2] at h
  | x :: z :: t, 0, v, j, w, h, hw => by
    match j with
    | 0 => simp [tv_set2] at h; exact Or.inl ⟨rfl, h.symm⟩
    | 1 => simp [tv_set2] at h; exact absurd h.symm hw
    | j + 2 => simp [tv_set2] at h; exact Or.inr ⟨by omega, by omega, by simpa using h, by omega⟩
  | x :: t, 1, v, j, w, h, hw => by
    cases j with
    | zero =>
      simp only [tv_set2, List.getElem?_cons_zero, Option.some.injEq] at h
      split at h
      · exact absurd h.symm hw
      next hc => subst h; exact Or.inr ⟨by omega, by omega, rfl, fun z => hc z.2⟩
    | succ j =>
      simp only [tv_set2, List.getElem?_cons_succ] at h
      rcases tv_set2_get t 0 v j w h hw with ⟨h1, h2⟩ | ⟨h1, h2, h3, h4⟩
      · exact Or.inl ⟨by omega, h2⟩
      · exact Or.inr ⟨by omega, by omega, by simpa using h3, by omega⟩
  | x :: t, i + 2, v, j, w, h, hw => by
    cases j with
    | zero =>
      simp only [tv_set2, List.getElem?_cons_zero, Option.some.injEq] at h
      exact Or.inr ⟨by omega, by omega, by simpa using h, by omega⟩
    | succ j =>
      simp only [tv_set2, List.getElem?_cons_succ] at h
      rcases tv_set2_get t (i + 1) v j w h hw with ⟨h1, h2⟩ | ⟨h1, h2, h3, h4⟩
      · exact Or.inl ⟨by omega, h2⟩
      · exact Or.inr ⟨by omega, by omega, by simpa using h3, fun z => h4 ⟨by omega, z.2⟩⟩
theorem tv_L.set {g : tv_G} {nL : Nat} {L : List Value} {ls' : Array Slot} {i : Nat} {v : Value} (h : lv_has ls' nL ((i, tv_cv g v) :: (tv_lv g L).filter (fun q => !(q.1 == i) && !(q.1 + 1 == i && q.2.category == 2)))) : tv_L g nL (tv_set L i v) ls' := by
  refine ⟨h.1, h.2.1, fun j w hj hw => ?_⟩
  rcases tv_set_get L i v j w hj hw with ⟨h1, h2⟩ | ⟨h1, h2, h3⟩
  · subst h1; subst h2
    exact h.2.2 _ List.mem_cons_self
  · refine h.2.2 (j, tv_cv g w) (List.mem_cons_of_mem _ (List.mem_filter.mpr ⟨tv_lv_mem h2 hw, ?_⟩))
    simp only [tv_cat, Bool.and_eq_true, Bool.not_eq_true', beq_eq_false_iff_ne, ne_eq, Bool.and_eq_false_imp, beq_iff_eq]
    exact ⟨h1, fun z => fun z2 => h3 ⟨z, z2⟩⟩
theorem tv_L.set2 {g : tv_G} {nL : Nat} {L : List Value} {ls' : Array Slot} {i : Nat} {v : Value} (h : lv_has ls' nL ((i, tv_cv g v) :: (tv_lv g L).filter (fun q => !(q.1 == i) && (!(q.1 == i + 1) && !(q.1 + 1 == i && q.2.category == 2))))) : tv_L g nL (tv_set2 L i v) ls' := by
  refine ⟨h.1, h.2.1, fun j w hj hw => ?_⟩
  rcases tv_set2_get L i v j w hj hw with ⟨h1, h2⟩ | ⟨h1, h2, h3, h4⟩
  · subst h1; subst h2
    exact h.2.2 _ List.mem_cons_self
  · refine h.2.2 (j, tv_cv g w) (List.mem_cons_of_mem _ (List.mem_filter.mpr ⟨tv_lv_mem h3 hw, ?_⟩))
    simp only [tv_cat, Bool.and_eq_true, Bool.not_eq_true', beq_eq_false_iff_ne, ne_eq, Bool.and_eq_false_imp, beq_iff_eq]
    exact ⟨h1, h2, fun z => fun z2 => h4 ⟨z, z2⟩⟩
/-! the locals at a method's entry -/
def tv_ex : List Value → List Value
  | [] => []
  | v :: vs => if v.category = 2 then v :: .null :: tv_ex vs else v :: tv_ex vs
def tv_in (nL : Nat) (vs : List Value) : List Value := tv_ex vs ++ List.replicate (nL - (tv_ex vs).length) .null
theorem tv_ex_len (g : tv_G) : ∀ vs : List Value, (lg_sl (vs.map (tv_cv g))).length = (tv_ex vs).length
  | [] => rfl
  | v :: vs => by
    have ih := tv_ex_len g vs
    by_cases hc : v.category = 2
    · simp only [List.map_cons, lg_sl, List.flatMap_cons, tv_cat, hc, if_true, tv_ex, List.length_append, List.length_cons, List.length_nil] at ih ⊢
      omega
    · simp only [List.map_cons, lg_sl, List.flatMap_cons, tv_cat, hc, if_false, tv_ex, List.length_append, List.length_cons, List.length_nil] at ih ⊢
      omega
theorem tv_ex_args (g : tv_G) : ∀ (vs : List Value) (k i : Nat) (v : Value), (tv_ex vs)[i]? = some v → v ≠ .null → (k + i, tv_cv g v) ∈ lv_args k (vs.map (tv_cv g))
  | [], k, i, v, h, _ => by simp [tv_ex] at h
  | x :: vs, k, i, v, h, hv => by
    by_cases hc : x.category = 2
    · simp only [tv_ex, hc, if_true] at h
      simp only [List.map_cons, lv_args, tv_cat, hc, if_true]
      match i with
      | 0 => simp only [List.getElem?_cons_zero, Option.some.injEq] at h; subst h; exact List.mem_cons_self
      | 1 => simp only [List.getElem?_cons_succ, List.getElem?_cons_zero, Option.some.injEq] at h; exact absurd h.symm hv
      | i + 2 =>
        simp only [List.getElem?_cons_succ] at h
        have := tv_ex_args g vs (k + 2) i v h hv
        refine List.mem_cons_of_mem _ ?_
        rw [show k + (i + 2) = k + 2 + i by omega]
        exact this
    · simp only [tv_ex, hc, if_false] at h
      simp only [List.map_cons, lv_args, tv_cat, hc, if_false]
      match i with
      | 0 => simp only [List.getElem?_cons_zero, Option.some.injEq] at h; subst h; exact List.mem_cons_self
      | i + 1 =>
        simp only [List.getElem?_cons_succ] at h
        have := tv_ex_args g vs (k + 1) i v h hv
        refine List.mem_cons_of_mem _ ?_
        rw [show k + (i + 1) = k + 1 + i by omega]
        exact this
theorem tv_entry {g : tv_G} {nL : Nat} {vs : List Value} {ls : Array Slot} (h : lv_has ls nL (lv_args 0 (vs.map (tv_cv g)))) : tv_L g nL (tv_in nL vs) ls := by
  refine ⟨h.1, h.2.1, fun i v hi hv => ?_⟩
  unfold tv_in at hi
  by_cases hl : i < (tv_ex vs).length
  · rw [List.getElem?_append_left hl] at hi
    have := tv_ex_args g vs 0 i v hi hv
    rw [Nat.zero_add] at this
    exact h.2.2 _ this
  · rw [List.getElem?_append_right (by omega)] at hi
    have := List.mem_of_getElem? hi
    exact absurd (List.eq_of_mem_replicate this) hv
/-! ===== THE JUDGEMENT: from the frame at pc, with locals L, stack st and cells h, the method comes to a return with r and the cells h'; it makes kc cells of ks slots; it needs d frames ===== -/
def tv_Cx (g : tv_G) (y : MethodName) (cc : ByteArray) (nL d : Nat) (p : Program) (R : Room) (s : State) (m : MethodId) (meth : Method) (c : Code) : Prop :=
  p.tables.exec = Jvm.exec ∧ c.code = cc ∧ c.maxLocals = nL ∧ s.vm.findClass y.cls = some m.cls ∧ tv_Wd g s ∧ d ≤ R.frames ∧ 40 * d ≤ R.locals ∧ (y.name = "<init>" → meth.name = "<init>")
def tv_rp (cc : ByteArray) (ret : Option FieldType) (pc : Nat) (r : Option Value) : Prop := match r with
  | none => decode cc pc = .ok (.return_, 1) ∧ ret = none
  | some (.int v) => decode cc pc = .ok (.ireturn, 1) ∧ ∃ ty, ret = some ty ∧ narrow ty (.int v) = .int v
  | some (.long _) => decode cc pc = .ok (.lreturn, 1) ∧ ret = some .long
  | _ => False
def tv_E (g : tv_G) (l : Launch) (y : MethodName) (cc : ByteArray) (nL : Nat) (ret : Option FieldType) (d kc ks pc : Nat) (L st : List Value) (h : tv_Hp) (r : Option Value) (h' : tv_Hp) : Prop :=
  ∀ (p : Program) (e : Env) (R : Room) (s : State) (m : MethodId) (args : Array Value) (below : List Frame) (meth : Method) (c : Code) (Q : State → Prop) (H : Heap) (locs : List Loc) (cells slots : Nat) (ls : Array Slot),
    tv_Cx g y cc nL d p R s m meth c → va_P (tv_D g) vwCl (tv_cc g h) H → s.heap.size + cells = tv_N g + h.length → va_S (tv_A g) s.heap H locs → tv_L g nL L ls → cells + kc ≤ R.cells → slots + ks ≤ R.slots →
    (∀ (pc' : Nat) (ls' : Array Slot) (H' : Heap) (locs' : List Loc), tv_rp cc ret pc' r → va_P (tv_D g) vwCl (tv_cc g h') H' → s.heap.size + (cells + kc) = tv_N g + h'.length → va_S (tv_A g) s.heap H' locs' → W p l e R s m args below meth c H' locs' (cells + kc) (slots + ks) Q (F0 m pc' ls' r.toList)) →
    W p l e R s m args below meth c H locs cells slots Q (F0 m pc ls (st.map (tv_cv g)))
section TVR
variable {g : tv_G} {l : Launch} {y : MethodName} {cc : ByteArray} {nL : Nat} {ret : Option FieldType} {d kc ks pc : Nat} {L st : List Value} {h : tv_Hp} {r : Option Value} {h' : tv_Hp}
theorem tv_Wd.in {g : tv_G} {U : State} (h : tv_Wd g U) {w : Cond} (hw : w ∈ lw_tbl) (hg : tv_gw w = true) {a : Array Value} : w.before a U = true := h.1 w hw hg a
theorem ev_iconst {n : Int} {v : Int32} (q : Nat) (hd : decode cc pc = .ok (.iconst n, 1)) (hq : pc + 1 = q) (hv : Int32.ofInt n = v) (k : tv_E g l y cc nL ret d kc ks q L (.int v :: st) h r h') : tv_E g l y cc nL ret d kc ks pc L (st) h r h' := by
  subst hq
  intro p e R s m args below meth c Q H locs cells slots ls C hP hz hS hl h1 h2 K
  exact lv_iconst C.1 C.2.1 hd hv (k p e R s m args below meth c Q H locs cells slots ls C hP hz hS hl h1 h2 K)
theorem ev_bipush {n : Int} {v : Int32} (q : Nat) (hd : decode cc pc = .ok (.bipush n, 2)) (hq : pc + 2 = q) (hv : (Int8.ofInt n).toInt32 = v) (k : tv_E g l y cc nL ret d kc ks q L (.int v :: st) h r h') : tv_E g l y cc nL ret d kc ks pc L (st) h r h' := by
  subst hq
  intro p e R s m args below meth c Q H locs cells slots ls C hP hz hS hl h1 h2 K
  exact lv_bipush C.1 C.2.1 hd hv (k p e R s m args below meth c Q H locs cells slots ls C hP hz hS hl h1 h2 K)
theorem ev_sipush {n : Int} {v : Int32} (q : Nat) (hd : decode cc pc = .ok (.sipush n, 3)) (hq : pc + 3 = q) (hv : (Int16.ofInt n).toInt32 = v) (k : tv_E g l y cc nL ret d kc ks q L (.int v :: st) h r h') : tv_E g l y cc nL ret d kc ks pc L (st) h r h' := by
  subst hq
  intro p e R s m args below meth c Q H locs cells slots ls C hP hz hS hl h1 h2 K
  exact lv_sipush C.1 C.2.1 hd hv (k p e R s m args below meth c Q H locs cells slots ls C hP hz hS hl h1 h2 K)
theorem ev_ldc {i : Nat} {v : Int32} (q : Nat) (hd : decode cc pc = .ok (.ldc i, 2)) (hq : pc + 2 = q) (hw : Cond.constant y.cls i v ∈ lw_tbl) (k : tv_E g l y cc nL ret d kc ks q L (.int v :: st) h r h') : tv_E g l y cc nL ret d kc ks pc L (st) h r h' := by
  subst hq
  intro p e R s m args below meth c Q H locs cells slots ls C hP hz hS hl h1 h2 K
  exact lv_ldc C.1 C.2.1 C.2.2.2.1 (C.2.2.2.2.1.in hw rfl) hd (k p e R s m args below meth c Q H locs cells slots ls C hP hz hS hl h1 h2 K)
theorem ev_ldcw {i : Nat} {v : Int32} (q : Nat) (hd : decode cc pc = .ok (.ldc_w i, 3)) (hq : pc + 3 = q) (hw : Cond.constant y.cls i v ∈ lw_tbl) (k : tv_E g l y cc nL ret d kc ks q L (.int v :: st) h r h') : tv_E g l y cc nL ret d kc ks pc L (st) h r h' := by
  subst hq
  intro p e R s m args below meth c Q H locs cells slots ls C hP hz hS hl h1 h2 K
  exact lv_ldcw C.1 C.2.1 C.2.2.2.1 (C.2.2.2.2.1.in hw rfl) hd (k p e R s m args below meth c Q H locs cells slots ls C hP hz hS hl h1 h2 K)
theorem ev_ldc2 {i : Nat} {v : Int64} (q : Nat) (hd : decode cc pc = .ok (.ldc2_w i, 3)) (hq : pc + 3 = q) (hw : Cond.constantLong y.cls i v ∈ lw_tbl) (k : tv_E g l y cc nL ret d kc ks q L (.long v :: st) h r h') : tv_E g l y cc nL ret d kc ks pc L (st) h r h' := by
  subst hq
  intro p e R s m args below meth c Q H locs cells slots ls C hP hz hS hl h1 h2 K
  exact lv_ldc2 C.1 C.2.1 C.2.2.2.1 (C.2.2.2.2.1.in hw rfl) hd (k p e R s m args below meth c Q H locs cells slots ls C hP hz hS hl h1 h2 K)
theorem ev_iload_n {j : Fin 4} {i : Nat} {x : Int32} (q : Nat) (hd : decode cc pc = .ok (.iload_n j, 1)) (hq : pc + 1 = q) (hi : (j : Nat) = i) (hx : L[i]? = some (.int x)) (k : tv_E g l y cc nL ret d kc ks q L (.int x :: st) h r h') : tv_E g l y cc nL ret d kc ks pc L (st) h r h' := by
  subst hq
  intro p e R s m args below meth c Q H locs cells slots ls C hP hz hS hl h1 h2 K
  exact lv_iload_n C.1 C.2.1 hd hi (hl.get hx (fun z => by cases z)) (k p e R s m args below meth c Q H locs cells slots ls C hP hz hS hl h1 h2 K)
theorem ev_iload {i : Nat} {x : Int32} (q : Nat) (hd : decode cc pc = .ok (.iload i, 2)) (hq : pc + 2 = q) (hx : L[i]? = some (.int x)) (k : tv_E g l y cc nL ret d kc ks q L (.int x :: st) h r h') : tv_E g l y cc nL ret d kc ks pc L (st) h r h' := by
  subst hq
  intro p e R s m args below meth c Q H locs cells slots ls C hP hz hS hl h1 h2 K
  exact lv_iload C.1 C.2.1 hd (hl.get hx (fun z => by cases z)) (k p e R s m args below meth c Q H locs cells slots ls C hP hz hS hl h1 h2 K)
theorem ev_lload_n {j : Fin 4} {i : Nat} {x : Int64} (q : Nat) (hd : decode cc pc = .ok (.lload_n j, 1)) (hq : pc + 1 = q) (hi : (j : Nat) = i) (hx : L[i]? = some (.long x)) (k : tv_E g l y cc nL ret d kc ks q L (.long x :: st) h r h') : tv_E g l y cc nL ret d kc ks pc L (st) h r h' := by
  subst hq
  intro p e R s m args below meth c Q H locs cells slots ls C hP hz hS hl h1 h2 K
  exact lv_lload_n C.1 C.2.1 hd hi (hl.get hx (fun z => by cases z)) (k p e R s m args below meth c Q H locs cells slots ls C hP hz hS hl h1 h2 K)
theorem ev_aload_n {j : Fin 4} {i : Nat} {x : Nat} (q : Nat) (hd : decode cc pc = .ok (.aload_n j, 1)) (hq : pc + 1 = q) (hi : (j : Nat) = i) (hx : L[i]? = some (.ref x)) (k : tv_E g l y cc nL ret d kc ks q L (.ref x :: st) h r h') : tv_E g l y cc nL ret d kc ks pc L (st) h r h' := by
  subst hq
  intro p e R s m args below meth c Q H locs cells slots ls C hP hz hS hl h1 h2 K
  exact lv_aload_n C.1 C.2.1 hd hi (hl.get hx (fun z => by cases z)) (k p e R s m args below meth c Q H locs cells slots ls C hP hz hS hl h1 h2 K)
theorem ev_istore_n {j : Fin 4} {i : Nat} {x : Int32} {L2 : List Value} (q : Nat) (hd : decode cc pc = .ok (.istore_n j, 1)) (hq : pc + 1 = q) (hi : (j : Nat) = i) (hn : i < nL) (hL : tv_set L i (.int x) = L2) (k : tv_E g l y cc nL ret d kc ks q L2 (st) h r h') : tv_E g l y cc nL ret d kc ks pc L (.int x :: st) h r h' := by
  subst hq
  intro p e R s m args below meth c Q H locs cells slots ls C hP hz hS hl h1 h2 K
  exact lv_istore_n C.1 C.2.1 hd hi hl.has hn rfl (fun ls hl => k p e R s m args below meth c Q H locs cells slots ls C hP hz hS (by subst hL; exact tv_L.set hl) h1 h2 K)
theorem ev_istore {i : Nat} {x : Int32} {L2 : List Value} (q : Nat) (hd : decode cc pc = .ok (.istore i, 2)) (hq : pc + 2 = q) (hn : i < nL) (hL : tv_set L i (.int x) = L2) (k : tv_E g l y cc nL ret d kc ks q L2 (st) h r h') : tv_E g l y cc nL ret d kc ks pc L (.int x :: st) h r h' := by
  subst hq
  intro p e R s m args below meth c Q H locs cells slots ls C hP hz hS hl h1 h2 K
  exact lv_istore C.1 C.2.1 hd hl.has hn rfl (fun ls hl => k p e R s m args below meth c Q H locs cells slots ls C hP hz hS (by subst hL; exact tv_L.set hl) h1 h2 K)
theorem ev_lstore_n {j : Fin 4} {i : Nat} {x : Int64} {L2 : List Value} (q : Nat) (hd : decode cc pc = .ok (.lstore_n j, 1)) (hq : pc + 1 = q) (hi : (j : Nat) = i) (hn : i + 1 < nL) (hL : tv_set2 L i (.long x) = L2) (k : tv_E g l y cc nL ret d kc ks q L2 (st) h r h') : tv_E g l y cc nL ret d kc ks pc L (.long x :: st) h r h' := by
  subst hq
  intro p e R s m args below meth c Q H locs cells slots ls C hP hz hS hl h1 h2 K
  exact lv_lstore_n C.1 C.2.1 hd hi hl.has hn rfl (fun ls hl => k p e R s m args below meth c Q H locs cells slots ls C hP hz hS (by subst hL; exact tv_L.set2 hl) h1 h2 K)
theorem ev_astore_n {j : Fin 4} {i : Nat} {x : Nat} {L2 : List Value} (q : Nat) (hd : decode cc pc = .ok (.astore_n j, 1)) (hq : pc + 1 = q) (hi : (j : Nat) = i) (hn : i < nL) (hL : tv_set L i (.ref x) = L2) (k : tv_E g l y cc nL ret d kc ks q L2 (st) h r h') : tv_E g l y cc nL ret d kc ks pc L (.ref x :: st) h r h' := by
  subst hq
  intro p e R s m args below meth c Q H locs cells slots ls C hP hz hS hl h1 h2 K
  exact lv_astore_n C.1 C.2.1 hd hi hl.has hn rfl (fun ls hl => k p e R s m args below meth c Q H locs cells slots ls C hP hz hS (by subst hL; exact tv_L.set hl) h1 h2 K)
theorem ev_iinc {i : Nat} {n : Int} {x v : Int32} {L2 : List Value} (q : Nat) (hd : decode cc pc = .ok (.iinc i n, 3)) (hq : pc + 3 = q) (hx : L[i]? = some (.int x)) (hv : x + Int32.ofInt n = v) (hn : i < nL) (hL : tv_set L i (.int v) = L2) (k : tv_E g l y cc nL ret d kc ks q L2 st h r h') : tv_E g l y cc nL ret d kc ks pc L st h r h' := by
  subst hq
  intro p e R s m args below meth c Q H locs cells slots ls C hP hz hS hl h1 h2 K
  obtain ⟨j, hj⟩ := List.getElem?_of_mem (tv_lv_mem (g := g) hx (fun z => by cases z))
  exact lv_iinc C.1 C.2.1 hd hl.has (k := j) hj hv hn rfl (fun ls hl => k p e R s m args below meth c Q H locs cells slots ls C hP hz hS (by subst hL; exact tv_L.set hl) h1 h2 K)
theorem ev_iadd {a b : Int32} (q : Nat) (hd : decode cc pc = .ok (.iadd, 1)) (hq : pc + 1 = q) (k : tv_E g l y cc nL ret d kc ks q L (.int (a + b) :: st) h r h') : tv_E g l y cc nL ret d kc ks pc L (.int b :: .int a :: st) h r h' := by
  subst hq
  intro p e R s m args below meth c Q H locs cells slots ls C hP hz hS hl h1 h2 K
  exact lv_iadd C.1 C.2.1 hd (k p e R s m args below meth c Q H locs cells slots ls C hP hz hS hl h1 h2 K)
theorem ev_isub {a b : Int32} (q : Nat) (hd : decode cc pc = .ok (.isub, 1)) (hq : pc + 1 = q) (k : tv_E g l y cc nL ret d kc ks q L (.int (a - b) :: st) h r h') : tv_E g l y cc nL ret d kc ks pc L (.int b :: .int a :: st) h r h' := by
  subst hq
  intro p e R s m args below meth c Q H locs cells slots ls C hP hz hS hl h1 h2 K
  exact lv_isub C.1 C.2.1 hd (k p e R s m args below meth c Q H locs cells slots ls C hP hz hS hl h1 h2 K)
theorem ev_imul {a b : Int32} (q : Nat) (hd : decode cc pc = .ok (.imul, 1)) (hq : pc + 1 = q) (k : tv_E g l y cc nL ret d kc ks q L (.int (a * b) :: st) h r h') : tv_E g l y cc nL ret d kc ks pc L (.int b :: .int a :: st) h r h' := by
  subst hq
  intro p e R s m args below meth c Q H locs cells slots ls C hP hz hS hl h1 h2 K
  exact lv_imul C.1 C.2.1 hd (k p e R s m args below meth c Q H locs cells slots ls C hP hz hS hl h1 h2 K)
theorem ev_iand {a b : Int32} (q : Nat) (hd : decode cc pc = .ok (.iand, 1)) (hq : pc + 1 = q) (k : tv_E g l y cc nL ret d kc ks q L (.int (a &&& b) :: st) h r h') : tv_E g l y cc nL ret d kc ks pc L (.int b :: .int a :: st) h r h' := by
  subst hq
  intro p e R s m args below meth c Q H locs cells slots ls C hP hz hS hl h1 h2 K
  exact lv_iand C.1 C.2.1 hd (k p e R s m args below meth c Q H locs cells slots ls C hP hz hS hl h1 h2 K)
theorem ev_ior {a b : Int32} (q : Nat) (hd : decode cc pc = .ok (.ior, 1)) (hq : pc + 1 = q) (k : tv_E g l y cc nL ret d kc ks q L (.int (a ||| b) :: st) h r h') : tv_E g l y cc nL ret d kc ks pc L (.int b :: .int a :: st) h r h' := by
  subst hq
  intro p e R s m args below meth c Q H locs cells slots ls C hP hz hS hl h1 h2 K
  exact lv_ior C.1 C.2.1 hd (k p e R s m args below meth c Q H locs cells slots ls C hP hz hS hl h1 h2 K)
theorem ev_ixor {a b : Int32} (q : Nat) (hd : decode cc pc = .ok (.ixor, 1)) (hq : pc + 1 = q) (k : tv_E g l y cc nL ret d kc ks q L (.int (a ^^^ b) :: st) h r h') : tv_E g l y cc nL ret d kc ks pc L (.int b :: .int a :: st) h r h' := by
  subst hq
  intro p e R s m args below meth c Q H locs cells slots ls C hP hz hS hl h1 h2 K
  exact lv_ixor C.1 C.2.1 hd (k p e R s m args below meth c Q H locs cells slots ls C hP hz hS hl h1 h2 K)
theorem ev_ishl {a b : Int32} (q : Nat) (hd : decode cc pc = .ok (.ishl, 1)) (hq : pc + 1 = q) (k : tv_E g l y cc nL ret d kc ks q L (.int (a <<< (b &&& 31)) :: st) h r h') : tv_E g l y cc nL ret d kc ks pc L (.int b :: .int a :: st) h r h' := by
  subst hq
  intro p e R s m args below meth c Q H locs cells slots ls C hP hz hS hl h1 h2 K
  exact lv_ishl C.1 C.2.1 hd (k p e R s m args below meth c Q H locs cells slots ls C hP hz hS hl h1 h2 K)
theorem ev_ishr {a b : Int32} (q : Nat) (hd : decode cc pc = .ok (.ishr, 1)) (hq : pc + 1 = q) (k : tv_E g l y cc nL ret d kc ks q L (.int (a >>> (b &&& 31)) :: st) h r h') : tv_E g l y cc nL ret d kc ks pc L (.int b :: .int a :: st) h r h' := by
  subst hq
  intro p e R s m args below meth c Q H locs cells slots ls C hP hz hS hl h1 h2 K
  exact lv_ishr C.1 C.2.1 hd (k p e R s m args below meth c Q H locs cells slots ls C hP hz hS hl h1 h2 K)
theorem ev_iushr {a b : Int32} (q : Nat) (hd : decode cc pc = .ok (.iushr, 1)) (hq : pc + 1 = q) (k : tv_E g l y cc nL ret d kc ks q L (.int ((a.toUInt32 >>> (b.toUInt32 &&& Int32.toUInt32 31)).toInt32) :: st) h r h') : tv_E g l y cc nL ret d kc ks pc L (.int b :: .int a :: st) h r h' := by
  subst hq
  intro p e R s m args below meth c Q H locs cells slots ls C hP hz hS hl h1 h2 K
  exact lv_iushr C.1 C.2.1 hd rfl (k p e R s m args below meth c Q H locs cells slots ls C hP hz hS hl h1 h2 K)
theorem ev_idiv {a b : Int32} (q : Nat) (hd : decode cc pc = .ok (.idiv, 1)) (hq : pc + 1 = q) (hne : ¬ b = 0) (k : tv_E g l y cc nL ret d kc ks q L (.int (a / b) :: st) h r h') : tv_E g l y cc nL ret d kc ks pc L (.int b :: .int a :: st) h r h' := by
  subst hq
  intro p e R s m args below meth c Q H locs cells slots ls C hP hz hS hl h1 h2 K
  exact lv_idiv C.1 C.2.1 hd hne (k p e R s m args below meth c Q H locs cells slots ls C hP hz hS hl h1 h2 K)
theorem ev_irem {a b : Int32} (q : Nat) (hd : decode cc pc = .ok (.irem, 1)) (hq : pc + 1 = q) (hne : ¬ b = 0) (k : tv_E g l y cc nL ret d kc ks q L (.int (a - a / b * b) :: st) h r h') : tv_E g l y cc nL ret d kc ks pc L (.int b :: .int a :: st) h r h' := by
  subst hq
  intro p e R s m args below meth c Q H locs cells slots ls C hP hz hS hl h1 h2 K
  exact lv_irem C.1 C.2.1 hd hne (k p e R s m args below meth c Q H locs cells slots ls C hP hz hS hl h1 h2 K)
theorem ev_ladd {a b : Int64} (q : Nat) (hd : decode cc pc = .ok (.ladd, 1)) (hq : pc + 1 = q) (k : tv_E g l y cc nL ret d kc ks q L (.long (a + b) :: st) h r h') : tv_E g l y cc nL ret d kc ks pc L (.long b :: .long a :: st) h r h' := by
  subst hq
  intro p e R s m args below meth c Q H locs cells slots ls C hP hz hS hl h1 h2 K
  exact lv_ladd C.1 C.2.1 hd (k p e R s m args below meth c Q H locs cells slots ls C hP hz hS hl h1 h2 K)
theorem ev_lmul {a b : Int64} (q : Nat) (hd : decode cc pc = .ok (.lmul, 1)) (hq : pc + 1 = q) (k : tv_E g l y cc nL ret d kc ks q L (.long (a * b) :: st) h r h') : tv_E g l y cc nL ret d kc ks pc L (.long b :: .long a :: st) h r h' := by
  subst hq
  intro p e R s m args below meth c Q H locs cells slots ls C hP hz hS hl h1 h2 K
  exact lv_lmul C.1 C.2.1 hd (k p e R s m args below meth c Q H locs cells slots ls C hP hz hS hl h1 h2 K)
theorem ev_i2l {a : Int32} (q : Nat) (hd : decode cc pc = .ok (.i2l, 1)) (hq : pc + 1 = q) (k : tv_E g l y cc nL ret d kc ks q L (.long a.toInt64 :: st) h r h') : tv_E g l y cc nL ret d kc ks pc L (.int a :: st) h r h' := by
  subst hq
  intro p e R s m args below meth c Q H locs cells slots ls C hP hz hS hl h1 h2 K
  exact lv_i2l C.1 C.2.1 hd rfl (k p e R s m args below meth c Q H locs cells slots ls C hP hz hS hl h1 h2 K)
theorem ev_lcmp {a b : Int64} (q : Nat) (hd : decode cc pc = .ok (.lcmp, 1)) (hq : pc + 1 = q) (k : tv_E g l y cc nL ret d kc ks q L (.int (lg_cmp a b) :: st) h r h') : tv_E g l y cc nL ret d kc ks pc L (.long b :: .long a :: st) h r h' := by
  subst hq
  intro p e R s m args below meth c Q H locs cells slots ls C hP hz hS hl h1 h2 K
  exact W.lcmp C.1 C.2.1 hd (k p e R s m args below meth c Q H locs cells slots ls C hP hz hS hl h1 h2 K)
theorem ev_dup {v : Value} (q : Nat) (hd : decode cc pc = .ok (.dup, 1)) (hq : pc + 1 = q) (hc : v.category = 1) (k : tv_E g l y cc nL ret d kc ks q L (v :: v :: st) h r h') : tv_E g l y cc nL ret d kc ks pc L (v :: st) h r h' := by
  subst hq
  intro p e R s m args below meth c Q H locs cells slots ls C hP hz hS hl h1 h2 K
  exact lv_dup C.1 C.2.1 hd (by rw [tv_cat]; exact hc) (k p e R s m args below meth c Q H locs cells slots ls C hP hz hS hl h1 h2 K)
theorem ev_dup2 {v w : Value} (q : Nat) (hd : decode cc pc = .ok (.dup2, 1)) (hq : pc + 1 = q) (hc : v.category = 1) (hc2 : w.category = 1) (k : tv_E g l y cc nL ret d kc ks q L (v :: w :: v :: w :: st) h r h') : tv_E g l y cc nL ret d kc ks pc L (v :: w :: st) h r h' := by
  subst hq
  intro p e R s m args below meth c Q H locs cells slots ls C hP hz hS hl h1 h2 K
  exact lv_dup2_11 C.1 C.2.1 hd (by rw [tv_cat]; exact hc) (by rw [tv_cat]; exact hc2) (k p e R s m args below meth c Q H locs cells slots ls C hP hz hS hl h1 h2 K)
theorem ev_if_eq {x : Int32} {off : Int} (tgt q : Nat) (hd : decode cc pc = .ok (.ifCond .eq off, 3)) (ht : (pc : Int) + off = (tgt : Int)) (hq : pc + 3 = q) (kt : x = 0 → tv_E g l y cc nL ret d kc ks tgt L st h r h') (kf : ¬ x = 0 → tv_E g l y cc nL ret d kc ks q L st h r h') : tv_E g l y cc nL ret d kc ks pc L (.int x :: st) h r h' := by
  subst hq
  intro p e R s m args below meth c Q H locs cells slots ls C hP hz hS hl h1 h2 K
  exact lv_if_eq C.1 C.2.1 hd ht (fun hc => kt hc p e R s m args below meth c Q H locs cells slots ls C hP hz hS hl h1 h2 K) (fun hc => kf hc p e R s m args below meth c Q H locs cells slots ls C hP hz hS hl h1 h2 K)
theorem ev_if_ne {x : Int32} {off : Int} (tgt q : Nat) (hd : decode cc pc = .ok (.ifCond .ne off, 3)) (ht : (pc : Int) + off = (tgt : Int)) (hq : pc + 3 = q) (kt : ¬ x = 0 → tv_E g l y cc nL ret d kc ks tgt L st h r h') (kf : x = 0 → tv_E g l y cc nL ret d kc ks q L st h r h') : tv_E g l y cc nL ret d kc ks pc L (.int x :: st) h r h' := by
  subst hq
  intro p e R s m args below meth c Q H locs cells slots ls C hP hz hS hl h1 h2 K
  exact lv_if_ne C.1 C.2.1 hd ht (fun hc => kt hc p e R s m args below meth c Q H locs cells slots ls C hP hz hS hl h1 h2 K) (fun hc => kf hc p e R s m args below meth c Q H locs cells slots ls C hP hz hS hl h1 h2 K)
theorem ev_if_lt {x : Int32} {off : Int} (tgt q : Nat) (hd : decode cc pc = .ok (.ifCond .lt off, 3)) (ht : (pc : Int) + off = (tgt : Int)) (hq : pc + 3 = q) (kt : x < 0 → tv_E g l y cc nL ret d kc ks tgt L st h r h') (kf : ¬ x < 0 → tv_E g l y cc nL ret d kc ks q L st h r h') : tv_E g l y cc nL ret d kc ks pc L (.int x :: st) h r h' := by
  subst hq
  intro p e R s m args below meth c Q H locs cells slots ls C hP hz hS hl h1 h2 K
  exact lv_if_lt C.1 C.2.1 hd ht (fun hc => kt hc p e R s m args below meth c Q H locs cells slots ls C hP hz hS hl h1 h2 K) (fun hc => kf hc p e R s m args below meth c Q H locs cells slots ls C hP hz hS hl h1 h2 K)
theorem ev_if_ge {x : Int32} {off : Int} (tgt q : Nat) (hd : decode cc pc = .ok (.ifCond .ge off, 3)) (ht : (pc : Int) + off = (tgt : Int)) (hq : pc + 3 = q) (kt : 0 ≤ x → tv_E g l y cc nL ret d kc ks tgt L st h r h') (kf : ¬ 0 ≤ x → tv_E g l y cc nL ret d kc ks q L st h r h') : tv_E g l y cc nL ret d kc ks pc L (.int x :: st) h r h' := by
  subst hq
  intro p e R s m args below meth c Q H locs cells slots ls C hP hz hS hl h1 h2 K
  exact lv_if_ge C.1 C.2.1 hd ht (fun hc => kt hc p e R s m args below meth c Q H locs cells slots ls C hP hz hS hl h1 h2 K) (fun hc => kf hc p e R s m args below meth c Q H locs cells slots ls C hP hz hS hl h1 h2 K)
theorem ev_if_gt {x : Int32} {off : Int} (tgt q : Nat) (hd : decode cc pc = .ok (.ifCond .gt off, 3)) (ht : (pc : Int) + off = (tgt : Int)) (hq : pc + 3 = q) (kt : 0 < x → tv_E g l y cc nL ret d kc ks tgt L st h r h') (kf : ¬ 0 < x → tv_E g l y cc nL ret d kc ks q L st h r h') : tv_E g l y cc nL ret d kc ks pc L (.int x :: st) h r h' := by
  subst hq
  intro p e R s m args below meth c Q H locs cells slots ls C hP hz hS hl h1 h2 K
  exact lv_if_gt C.1 C.2.1 hd ht (fun hc => kt hc p e R s m args below meth c Q H locs cells slots ls C hP hz hS hl h1 h2 K) (fun hc => kf hc p e R s m args below meth c Q H locs cells slots ls C hP hz hS hl h1 h2 K)
theorem ev_if_le {x : Int32} {off : Int} (tgt q : Nat) (hd : decode cc pc = .ok (.ifCond .le off, 3)) (ht : (pc : Int) + off = (tgt : Int)) (hq : pc + 3 = q) (kt : x ≤ 0 → tv_E g l y cc nL ret d kc ks tgt L st h r h') (kf : ¬ x ≤ 0 → tv_E g l y cc nL ret d kc ks q L st h r h') : tv_E g l y cc nL ret d kc ks pc L (.int x :: st) h r h' := by
  subst hq
  intro p e R s m args below meth c Q H locs cells slots ls C hP hz hS hl h1 h2 K
  exact lv_if_le C.1 C.2.1 hd ht (fun hc => kt hc p e R s m args below meth c Q H locs cells slots ls C hP hz hS hl h1 h2 K) (fun hc => kf hc p e R s m args below meth c Q H locs cells slots ls C hP hz hS hl h1 h2 K)
theorem ev_icmp_eq {x z : Int32} {off : Int} (tgt q : Nat) (hd : decode cc pc = .ok (.if_icmp .eq off, 3)) (ht : (pc : Int) + off = (tgt : Int)) (hq : pc + 3 = q) (kt : x = z → tv_E g l y cc nL ret d kc ks tgt L st h r h') (kf : ¬ x = z → tv_E g l y cc nL ret d kc ks q L st h r h') : tv_E g l y cc nL ret d kc ks pc L (.int z :: .int x :: st) h r h' := by
  subst hq
  intro p e R s m args below meth c Q H locs cells slots ls C hP hz hS hl h1 h2 K
  exact lv_icmp_eq C.1 C.2.1 hd ht (fun hc => kt hc p e R s m args below meth c Q H locs cells slots ls C hP hz hS hl h1 h2 K) (fun hc => kf hc p e R s m args below meth c Q H locs cells slots ls C hP hz hS hl h1 h2 K)
theorem ev_icmp_ne {x z : Int32} {off : Int} (tgt q : Nat) (hd : decode cc pc = .ok (.if_icmp .ne off, 3)) (ht : (pc : Int) + off = (tgt : Int)) (hq : pc + 3 = q) (kt : ¬ x = z → tv_E g l y cc nL ret d kc ks tgt L st h r h') (kf : x = z → tv_E g l y cc nL ret d kc ks q L st h r h') : tv_E g l y cc nL ret d kc ks pc L (.int z :: .int x :: st) h r h' := by
  subst hq
  intro p e R s m args below meth c Q H locs cells slots ls C hP hz hS hl h1 h2 K
  exact lv_icmp_ne C.1 C.2.1 hd ht (fun hc => kt hc p e R s m args below meth c Q H locs cells slots ls C hP hz hS hl h1 h2 K) (fun hc => kf hc p e R s m args below meth c Q H locs cells slots ls C hP hz hS hl h1 h2 K)
theorem ev_icmp_lt {x z : Int32} {off : Int} (tgt q : Nat) (hd : decode cc pc = .ok (.if_icmp .lt off, 3)) (ht : (pc : Int) + off = (tgt : Int)) (hq : pc + 3 = q) (kt : x < z → tv_E g l y cc nL ret d kc ks tgt L st h r h') (kf : ¬ x < z → tv_E g l y cc nL ret d kc ks q L st h r h') : tv_E g l y cc nL ret d kc ks pc L (.int z :: .int x :: st) h r h' := by
  subst hq
  intro p e R s m args below meth c Q H locs cells slots ls C hP hz hS hl h1 h2 K
  exact lv_icmp_lt C.1 C.2.1 hd ht (fun hc => kt hc p e R s m args below meth c Q H locs cells slots ls C hP hz hS hl h1 h2 K) (fun hc => kf hc p e R s m args below meth c Q H locs cells slots ls C hP hz hS hl h1 h2 K)
theorem ev_icmp_ge {x z : Int32} {off : Int} (tgt q : Nat) (hd : decode cc pc = .ok (.if_icmp .ge off, 3)) (ht : (pc : Int) + off = (tgt : Int)) (hq : pc + 3 = q) (kt : z ≤ x → tv_E g l y cc nL ret d kc ks tgt L st h r h') (kf : ¬ z ≤ x → tv_E g l y cc nL ret d kc ks q L st h r h') : tv_E g l y cc nL ret d kc ks pc L (.int z :: .int x :: st) h r h' := by
  subst hq
  intro p e R s m args below meth c Q H locs cells slots ls C hP hz hS hl h1 h2 K
  exact lv_icmp_ge C.1 C.2.1 hd ht (fun hc => kt hc p e R s m args below meth c Q H locs cells slots ls C hP hz hS hl h1 h2 K) (fun hc => kf hc p e R s m args below meth c Q H locs cells slots ls C hP hz hS hl h1 h2 K)
theorem ev_icmp_gt {x z : Int32} {off : Int} (tgt q : Nat) (hd : decode cc pc = .ok (.if_icmp .gt off, 3)) (ht : (pc : Int) + off = (tgt : Int)) (hq : pc + 3 = q) (kt : z < x → tv_E g l y cc nL ret d kc ks tgt L st h r h') (kf : ¬ z < x → tv_E g l y cc nL ret d kc ks q L st h r h') : tv_E g l y cc nL ret d kc ks pc L (.int z :: .int x :: st) h r h' := by
  subst hq
  intro p e R s m args below meth c Q H locs cells slots ls C hP hz hS hl h1 h2 K
  exact lv_icmp_gt C.1 C.2.1 hd ht (fun hc => kt hc p e R s m args below meth c Q H locs cells slots ls C hP hz hS hl h1 h2 K) (fun hc => kf hc p e R s m args below meth c Q H locs cells slots ls C hP hz hS hl h1 h2 K)
theorem ev_icmp_le {x z : Int32} {off : Int} (tgt q : Nat) (hd : decode cc pc = .ok (.if_icmp .le off, 3)) (ht : (pc : Int) + off = (tgt : Int)) (hq : pc + 3 = q) (kt : x ≤ z → tv_E g l y cc nL ret d kc ks tgt L st h r h') (kf : ¬ x ≤ z → tv_E g l y cc nL ret d kc ks q L st h r h') : tv_E g l y cc nL ret d kc ks pc L (.int z :: .int x :: st) h r h' := by
  subst hq
  intro p e R s m args below meth c Q H locs cells slots ls C hP hz hS hl h1 h2 K
  exact lv_icmp_le C.1 C.2.1 hd ht (fun hc => kt hc p e R s m args below meth c Q H locs cells slots ls C hP hz hS hl h1 h2 K) (fun hc => kf hc p e R s m args below meth c Q H locs cells slots ls C hP hz hS hl h1 h2 K)
theorem ev_goto {off : Int} (tgt : Nat) (hd : decode cc pc = .ok (.goto off, 3)) (ht : (pc : Int) + off = (tgt : Int)) (k : tv_E g l y cc nL ret d kc ks tgt L st h r h') : tv_E g l y cc nL ret d kc ks pc L st h r h' := by
  intro p e R s m args below meth c Q H locs cells slots ls C hP hz hS hl h1 h2 K
  exact lv_goto C.1 C.2.1 hd ht (k p e R s m args below meth c Q H locs cells slots ls C hP hz hS hl h1 h2 K)
theorem ev_tableIn {dflt lo hi : Int} {offs : Array Int} {len : Nat} {x : Int32} {off : Int} (tgt : Nat) (hd : decode cc pc = .ok (.tableswitch dflt lo hi offs, len)) (n1 : ¬ x.toInt < lo) (n2 : ¬ hi < x.toInt) (ho : offs[(x.toInt - lo).toNat]? = some off) (ht : (pc : Int) + off = (tgt : Int)) (k : tv_E g l y cc nL ret d kc ks tgt L st h r h') : tv_E g l y cc nL ret d kc ks pc L (.int x :: st) h r h' := by
  intro p e R s m args below meth c Q H locs cells slots ls C hP hz hS hl h1 h2 K
  exact lv_tableIn C.1 C.2.1 hd n1 n2 ho ht (k p e R s m args below meth c Q H locs cells slots ls C hP hz hS hl h1 h2 K)
theorem ev_tableOut {dflt lo hi : Int} {offs : Array Int} {len : Nat} {x : Int32} (tgt : Nat) (hd : decode cc pc = .ok (.tableswitch dflt lo hi offs, len)) (n1 : x.toInt < lo ∨ hi < x.toInt) (ht : (pc : Int) + dflt = (tgt : Int)) (k : tv_E g l y cc nL ret d kc ks tgt L st h r h') : tv_E g l y cc nL ret d kc ks pc L (.int x :: st) h r h' := by
  intro p e R s m args below meth c Q H locs cells slots ls C hP hz hS hl h1 h2 K
  exact lv_tableOut C.1 C.2.1 hd n1 ht (k p e R s m args below meth c Q H locs cells slots ls C hP hz hS hl h1 h2 K)
theorem ev_lookup {dflt : Int} {ps : Array (Int × Int)} {len : Nat} {x : Int32} {off : Int} (tgt : Nat) (hd : decode cc pc = .ok (.lookupswitch dflt ps, len)) (hp : (ps.toList.zip (ps.toList.drop 1)).all (fun (a, next) => a.1 < next.1) = true) (ho : Op.lookupswitch.offset ps.toList dflt x.toInt = off) (ht : (pc : Int) + off = (tgt : Int)) (k : tv_E g l y cc nL ret d kc ks tgt L st h r h') : tv_E g l y cc nL ret d kc ks pc L (.int x :: st) h r h' := by
  intro p e R s m args below meth c Q H locs cells slots ls C hP hz hS hl h1 h2 K
  exact lv_lookup C.1 C.2.1 hd hp ho ht (k p e R s m args below meth c Q H locs cells slots ls C hP hz hS hl h1 h2 K)
/-! returns -/
theorem ev_return (hd : decode cc pc = .ok (.return_, 1)) (hr : ret = none) : tv_E g l y cc nL ret d 0 0 pc L [] h none h := by
  intro p e R s m args below meth c Q H locs cells slots ls C hP hz hS hl h1 h2 K
  exact K pc ls H locs ⟨hd, hr⟩ hP hz hS
theorem ev_ireturn {v : Int32} {ty : FieldType} (hd : decode cc pc = .ok (.ireturn, 1)) (hr : ret = some ty) (hn : narrow ty (.int v) = .int v) : tv_E g l y cc nL ret d 0 0 pc L [.int v] h (some (.int v)) h := by
  intro p e R s m args below meth c Q H locs cells slots ls C hP hz hS hl h1 h2 K
  exact K pc ls H locs ⟨hd, ty, hr, hn⟩ hP hz hS
theorem ev_lreturn {v : Int64} (hd : decode cc pc = .ok (.lreturn, 1)) (hr : ret = some .long) : tv_E g l y cc nL ret d 0 0 pc L [.long v] h (some (.long v)) h := by
  intro p e R s m args below meth c Q H locs cells slots ls C hP hz hS hl h1 h2 K
  exact K pc ls H locs ⟨hd, hr⟩ hP hz hS
/-! fields -/
theorem tv_lay_gw {C : String} {T : u_T} {N : Nat} {w : Cond} (hw : w ∈ u_ws C T N) : tv_gw w = true := by
  obtain ⟨k, -, rfl⟩ := List.mem_map.mp hw
  unfold u_lay
  split <;> rfl
def tv_okf (own : String) (idx ci k : Nat) (fin : Bool) (ty : FieldType) : Prop := ∃ (C : String) (T : u_T) (N : Nat) (ty0 : Nat → FieldType), vwCl[ci]? = some (C, T, N) ∧ k < N ∧ (∀ w ∈ u_ws C T N, w ∈ lw_tbl) ∧ Cond.fieldLink own idx C (T k).2.1 (T k).2.2.1 ∈ lw_tbl ∧ (T k).1 = C ∧ (∀ j, j < N → parseFieldDescriptor (T j).2.2.1 = some (ty0 j)) ∧ (∀ a, a < N → ∀ b, b < N → a ≠ b → (T a).2.1 ≠ (T b).2.1) ∧ ty0 k = ty ∧ (T k).2.2.2 = fin
theorem ev_getfield {idx ci k0 i : Nat} {fin : Bool} {ty : FieldType} {fs : List Value} {v : Value} (q : Nat) (hd : decode cc pc = .ok (.getfield idx, 3)) (hq : pc + 3 = q) (hf : tv_okf y.cls idx ci k0 fin ty) (hi : i < 1000) (hc : h[i]? = some (.inr (.inr (ci, fs)))) (hv : fs[k0]? = some v) (k : tv_E g l y cc nL ret d kc ks q L (v :: st) h r h') : tv_E g l y cc nL ret d kc ks pc L (.ref i :: st) h r h' := by
  subst hq
  intro p e R s m args below meth c Q H locs cells slots ls C hP hz hS hl h1 h2 K
  obtain ⟨C0, T, N, ty0, f1, f2, f3, f4, f5, f6, f7, f8, f9⟩ := hf
  have hts : ∀ w ∈ u_ws C0 T N, w.before args s = true := fun w hw => C.2.2.2.2.1.in (f3 w hw) (tv_lay_gw hw)
  have ha : tv_cv g (.ref i) = .ref (tv_N g + i) := by simp [tv_cv, tv_ad, hi]
  show W p l e R s m args below meth c H locs cells slots Q (F0 m pc ls (tv_cv g (.ref i) :: st.map (tv_cv g)))
  rw [ha]
  exact va_get C.1 C.2.1 hts (fun w hw => hw) C.2.2.2.1 C.2.2.2.2.1.2.2.1 hP i (tv_cc_get hc) f1 k0 f2 (C.2.2.2.2.1.in f4 rfl) (fun x hx => by rw [f5] at hx; exact hx) (v := tv_cv g v) (by rw [List.getElem?_map, hv]; rfl) hd (k p e R s m args below meth c Q H locs cells slots ls C hP hz hS hl h1 h2 K)
theorem ev_putfield {idx ci k0 i : Nat} {ty : FieldType} {fs : List Value} {v : Value} {hh : tv_Hp} (q : Nat) (hd : decode cc pc = .ok (.putfield idx, 3)) (hq : pc + 3 = q) (hf : tv_okf y.cls idx ci k0 false ty) (hi : i < 1000) (hc : h[i]? = some (.inr (.inr (ci, fs)))) (hlt : k0 < fs.length) (hn : narrow ty (tv_cv g v) = tv_cv g v) (hfit : fits ty (tv_cv g v) = true) (hs : h.set i (.inr (.inr (ci, fs.set k0 v))) = hh) (k : tv_E g l y cc nL ret d kc ks q L st hh r h') : tv_E g l y cc nL ret d kc ks pc L (v :: .ref i :: st) h r h' := by
  subst hq
  intro p e R s m args below meth c Q H locs cells slots ls C hP hz hS hl h1 h2 K
  obtain ⟨C0, T, N, ty0, f1, f2, f3, f4, f5, f6, f7, f8, f9⟩ := hf
  have hts : ∀ w ∈ u_ws C0 T N, w.before args s = true := fun w hw => C.2.2.2.2.1.in (f3 w hw) (tv_lay_gw hw)
  have ha : tv_cv g (.ref i) = .ref (tv_N g + i) := by simp [tv_cv, tv_ad, hi]
  show W p l e R s m args below meth c H locs cells slots Q (F0 m pc ls (tv_cv g v :: tv_cv g (.ref i) :: st.map (tv_cv g)))
  rw [ha]
  refine va_put C.1 C.2.1 hts (fun w hw => hw) ty0 f6 f7 C.2.2.2.1 C.2.2.2.2.1.2.2.1 hP (tv_DD g h) hS i (tv_cc_get hc) f1 k0 f2 (C.2.2.2.2.1.in f4 rfl) (fun x hx => by rw [f5] at hx; exact hx) f9 (ty := ty) (by rw [← f8]; exact f6 k0 f2) hn hfit (by rw [List.length_map]; exact hlt) hd (fun H1 locs1 hP1 hD1 hS1 => ?_)
  have e1 : tv_cc g hh = (tv_cc g h).set i (tv_N g + i, .inr (ci, (fs.map (tv_cv g)).set k0 (tv_cv g v))) := by
    rw [← hs, tv_cc_set]
    show (tv_cc g h).set i (tv_N g + i, .inr (ci, (fs.set k0 v).map (tv_cv g))) = _
    rw [List.map_set]
  rw [← e1] at hP1
  exact k p e R s m args below meth c Q H1 locs1 cells slots ls C hP1 (by rw [← hs, List.length_set]; exact hz) hS1 hl h1 h2 K
theorem ev_putfinal {idx ci k0 i : Nat} {ty : FieldType} {fs : List Value} {v : Value} {hh : tv_Hp} (q : Nat) (hd : decode cc pc = .ok (.putfield idx, 3)) (hq : pc + 3 = q) (hf : tv_okf y.cls idx ci k0 true ty) (hini : y.name = "<init>") (hown : ∃ T N, vwCl[ci]? = some (y.cls, T, N)) (hi : i < 1000) (hc : h[i]? = some (.inr (.inr (ci, fs)))) (hlt : k0 < fs.length) (hn : narrow ty (tv_cv g v) = tv_cv g v) (hfit : fits ty (tv_cv g v) = true) (hs : h.set i (.inr (.inr (ci, fs.set k0 v))) = hh) (k : tv_E g l y cc nL ret d kc ks q L st hh r h') : tv_E g l y cc nL ret d kc ks pc L (v :: .ref i :: st) h r h' := by
  subst hq
  intro p e R s m args below meth c Q H locs cells slots ls C hP hz hS hl h1 h2 K
  obtain ⟨C0, T, N, ty0, f1, f2, f3, f4, f5, f6, f7, f8, f9⟩ := hf
  have hts : ∀ w ∈ u_ws C0 T N, w.before args s = true := fun w hw => C.2.2.2.2.1.in (f3 w hw) (tv_lay_gw hw)
  have ha : tv_cv g (.ref i) = .ref (tv_N g + i) := by simp [tv_cv, tv_ad, hi]
  show W p l e R s m args below meth c H locs cells slots Q (F0 m pc ls (tv_cv g v :: tv_cv g (.ref i) :: st.map (tv_cv g)))
  rw [ha]
  refine va_putF C.1 C.2.1 hts (fun w hw => hw) ty0 f6 f7 C.2.2.2.1 C.2.2.2.2.1.2.2.1 hP (tv_DD g h) hS i (tv_cc_get hc) f1 k0 f2 (C.2.2.2.2.1.in f4 rfl) (fun x hx => by rw [f5] at hx; exact hx) f9 (C.2.2.2.2.2.2.2 hini) (by rw [f5]; obtain ⟨T2, N2, hT2⟩ := hown; exact (Prod.mk.inj (Option.some.inj (f1.symm.trans hT2))).1) (ty := ty) (by rw [← f8]; exact f6 k0 f2) hn hfit (by rw [List.length_map]; exact hlt) hd (fun H1 locs1 hP1 hD1 hS1 => ?_)
  have e1 : tv_cc g hh = (tv_cc g h).set i (tv_N g + i, .inr (ci, (fs.map (tv_cv g)).set k0 (tv_cv g v))) := by
    rw [← hs, tv_cc_set]
    show (tv_cc g h).set i (tv_N g + i, .inr (ci, (fs.set k0 v).map (tv_cv g))) = _
    rw [List.map_set]
  rw [← e1] at hP1
  exact k p e R s m args below meth c Q H1 locs1 cells slots ls C hP1 (by rw [← hs, List.length_set]; exact hz) hS1 hl h1 h2 K
/-! static arrays -/
theorem ev_getstatic {idx i : Nat} (q : Nat) (hd : decode cc pc = .ok (.getstatic idx, 3)) (hq : pc + 3 = q) (hw : Cond.fieldLink y.cls idx RX7 (tv_sn i) "[I" ∈ lw_tbl ∨ ∃ host, Cond.fieldLinkNest y.cls idx RX7 (tv_sn i) "[I" host ∈ lw_tbl) (hi : i < 4) (hi1 : 1 ≤ i) (k : tv_E g l y cc nL ret d kc ks q L (.ref (1000 + i) :: st) h r h') : tv_E g l y cc nL ret d kc ks pc L st h r h' := by
  subst hq
  intro p e R s m args below meth c Q H locs cells slots ls C hP hz hS hl h1 h2 K
  have hZ := C.2.2.2.2.1.2.2.2.2.2 i hi hi1
  have ha : tv_cv g (.ref (1000 + i)) = .ref (tv_xa g i) := by rw [← tv_adx g i]; rfl
  have k1 := k p e R s m args below meth c Q H locs cells slots ls C hP hz hS hl h1 h2 K
  rw [List.map_cons, ha] at k1
  rcases hw with hw | ⟨host, hw⟩
  · exact va_gets C.1 C.2.1 hZ hS C.2.2.2.1 (C.2.2.2.2.1.in hw rfl) (fun x hx => hx) hd k1
  · exact va_getsN C.1 C.2.1 hZ hS C.2.2.2.1 (C.2.2.2.2.1.in hw rfl) (fun x hx => hx) hd k1
/-! arrays of ints -/
def tv_rd (n : Nat) (f : Nat → Int32) (i : Int32) : Option Int32 := if i < 0 ∨ n ≤ i.toNatClampNeg then none else some (f i.toNatClampNeg)
def tv_wr (n : Nat) (f : Nat → Int32) (i x : Int32) : Option (Nat → Int32) := if i < 0 ∨ n ≤ i.toNatClampNeg then none else some (upd f i.toNatClampNeg x)
theorem tv_rd_some {n : Nat} {f : Nat → Int32} {i v : Int32} (h : tv_rd n f i = some v) : vp_in i n ∧ f i.toNatClampNeg = v := by
  unfold tv_rd at h
  split at h
  · cases h
  next hc => exact ⟨hc, Option.some.inj h⟩
theorem tv_wr_some {n : Nat} {f f2 : Nat → Int32} {i v : Int32} (h : tv_wr n f i v = some f2) : vp_in i n ∧ upd f i.toNatClampNeg v = f2 := by
  unfold tv_wr at h
  split at h
  · cases h
  next hc => exact ⟨hc, Option.some.inj h⟩
theorem ev_iaload {i n : Nat} {f : Nat → Int32} {x v : Int32} (q : Nat) (hd : decode cc pc = .ok (.iaload, 1)) (hq : pc + 1 = q) (hi : i < 1000) (hc : h[i]? = some (.inl (n, f))) (hr : tv_rd n f x = some v) (k : tv_E g l y cc nL ret d kc ks q L (.int v :: st) h r h') : tv_E g l y cc nL ret d kc ks pc L (.int x :: .ref i :: st) h r h' := by
  subst hq
  intro p e R s m args below meth c Q H locs cells slots ls C hP hz hS hl h1 h2 K
  obtain ⟨hin, hv⟩ := tv_rd_some hr
  subst hv
  have ha : tv_cv g (.ref i) = .ref (tv_N g + i) := by simp [tv_cv, tv_ad, hi]
  show W p l e R s m args below meth c H locs cells slots Q (F0 m pc ls (.int x :: tv_cv g (.ref i) :: st.map (tv_cv g)))
  rw [ha]
  exact va_iald C.1 C.2.1 C.2.2.2.2.1.2.2.1 hP i 0 (tv_cc_get hc) rfl hin hd (k p e R s m args below meth c Q H locs cells slots ls C hP hz hS hl h1 h2 K)
theorem ev_xaload {i : Nat} {x v : Int32} (q : Nat) (hd : decode cc pc = .ok (.iaload, 1)) (hq : pc + 1 = q) (hi : i < 4) (hr : tv_rd (tv_XL g i) (tv_X g i) x = some v) (k : tv_E g l y cc nL ret d kc ks q L (.int v :: st) h r h') : tv_E g l y cc nL ret d kc ks pc L (.int x :: .ref (1000 + i) :: st) h r h' := by
  subst hq
  intro p e R s m args below meth c Q H locs cells slots ls C hP hz hS hl h1 h2 K
  obtain ⟨hin, hv⟩ := tv_rd_some hr
  subst hv
  have ha : tv_cv g (.ref (1000 + i)) = .ref (tv_xa g i) := by rw [← tv_adx g i]; rfl
  show W p l e R s m args below meth c H locs cells slots Q (F0 m pc ls (.int x :: tv_cv g (.ref (1000 + i)) :: st.map (tv_cv g)))
  rw [ha]
  obtain ⟨hX, hlt⟩ := C.2.2.2.2.1.2.2.2.2.1 i hi
  exact va_sld C.1 C.2.1 hX (Nat.lt_of_lt_of_le hlt C.2.2.2.2.1.2.2.2.1) (A := tv_A g) (Nat.not_le.mpr hlt) hS hin hd (k p e R s m args below meth c Q H locs cells slots ls C hP hz hS hl h1 h2 K)
theorem ev_xlen {i : Nat} (q : Nat) (hd : decode cc pc = .ok (.arraylength, 1)) (hq : pc + 1 = q) (hi : i < 4) (k : tv_E g l y cc nL ret d kc ks q L (.int (Int32.ofNat (tv_XL g i)) :: st) h r h') : tv_E g l y cc nL ret d kc ks pc L (.ref (1000 + i) :: st) h r h' := by
  subst hq
  intro p e R s m args below meth c Q H locs cells slots ls C hP hz hS hl h1 h2 K
  have ha : tv_cv g (.ref (1000 + i)) = .ref (tv_xa g i) := by rw [← tv_adx g i]; rfl
  show W p l e R s m args below meth c H locs cells slots Q (F0 m pc ls (tv_cv g (.ref (1000 + i)) :: st.map (tv_cv g)))
  rw [ha]
  obtain ⟨hX, hlt⟩ := C.2.2.2.2.1.2.2.2.2.1 i hi
  exact va_slen C.1 C.2.1 hX (Nat.lt_of_lt_of_le hlt C.2.2.2.2.1.2.2.2.1) (A := tv_A g) (Nat.not_le.mpr hlt) hS hd (k p e R s m args below meth c Q H locs cells slots ls C hP hz hS hl h1 h2 K)
theorem ev_arraylength {i n : Nat} {f : Nat → Int32} {v : Int32} (q : Nat) (hd : decode cc pc = .ok (.arraylength, 1)) (hq : pc + 1 = q) (hi : i < 1000) (hc : h[i]? = some (.inl (n, f))) (hv : Int32.ofNat n = v) (k : tv_E g l y cc nL ret d kc ks q L (.int v :: st) h r h') : tv_E g l y cc nL ret d kc ks pc L (.ref i :: st) h r h' := by
  subst hq
  intro p e R s m args below meth c Q H locs cells slots ls C hP hz hS hl h1 h2 K
  have ha : tv_cv g (.ref i) = .ref (tv_N g + i) := by simp [tv_cv, tv_ad, hi]
  show W p l e R s m args below meth c H locs cells slots Q (F0 m pc ls (tv_cv g (.ref i) :: st.map (tv_cv g)))
  rw [ha]
  exact va_alen C.1 C.2.1 C.2.2.2.2.1.2.2.1 hP i 0 (tv_cc_get hc) (ty := .int) rfl hv hd (k p e R s m args below meth c Q H locs cells slots ls C hP hz hS hl h1 h2 K)
theorem ev_iastore {i n : Nat} {f f2 : Nat → Int32} {x v : Int32} {hh : tv_Hp} (q : Nat) (hd : decode cc pc = .ok (.iastore, 1)) (hq : pc + 1 = q) (hi : i < 1000) (hc : h[i]? = some (.inl (n, f))) (hr : tv_wr n f x v = some f2) (hs : h.set i (.inl (n, f2)) = hh) (k : tv_E g l y cc nL ret d kc ks q L st hh r h') : tv_E g l y cc nL ret d kc ks pc L (.int v :: .int x :: .ref i :: st) h r h' := by
  subst hq
  intro p e R s m args below meth c Q H locs cells slots ls C hP hz hS hl h1 h2 K
  obtain ⟨hin, hv⟩ := tv_wr_some hr
  subst hv
  have ha : tv_cv g (.ref i) = .ref (tv_N g + i) := by simp [tv_cv, tv_ad, hi]
  show W p l e R s m args below meth c H locs cells slots Q (F0 m pc ls (.int v :: .int x :: tv_cv g (.ref i) :: st.map (tv_cv g)))
  rw [ha]
  refine va_iast C.1 C.2.1 C.2.2.2.2.1.2.2.1 hP (tv_DD g h) hS i 0 (tv_cc_get hc) rfl hin hd (fun H1 locs1 hP1 hD1 hS1 => ?_)
  have e1 : tv_cc g hh = (tv_cc g h).set i (tv_N g + i, .inl (tv_cI g, n, .inl (upd f x.toNatClampNeg v))) := by
    rw [← hs, tv_cc_set]
    rfl
  rw [← e1] at hP1
  exact k p e R s m args below meth c Q H1 locs1 cells slots ls C hP1 (by rw [← hs, List.length_set]; exact hz) hS1 hl h1 h2 K
theorem ev_aaload {i n a : Nat} {f : Nat → Option Nat} {x : Int32} (q : Nat) (hd : decode cc pc = .ok (.aaload, 1)) (hq : pc + 1 = q) (hi : i < 1000) (hc : h[i]? = some (.inr (.inl (n, f)))) (hin : vp_in x n) (hv : f x.toNatClampNeg = some a) (k : tv_E g l y cc nL ret d kc ks q L (.ref a :: st) h r h') : tv_E g l y cc nL ret d kc ks pc L (.int x :: .ref i :: st) h r h' := by
  subst hq
  intro p e R s m args below meth c Q H locs cells slots ls C hP hz hS hl h1 h2 K
  have ha : tv_cv g (.ref i) = .ref (tv_N g + i) := by simp [tv_cv, tv_ad, hi]
  show W p l e R s m args below meth c H locs cells slots Q (F0 m pc ls (.int x :: tv_cv g (.ref i) :: st.map (tv_cv g)))
  rw [ha]
  refine va_aldq C.1 C.2.1 C.2.2.2.2.1.2.2.1 hP i 1 (tv_cc_get hc) rfl hin hd ?_
  show W p l e R s m args below meth c H locs cells slots Q (F0 m (pc + 1) ls (va_rf ((f x.toNatClampNeg).map (tv_ad g)) :: st.map (tv_cv g)))
  rw [hv]
  exact k p e R s m args below meth c Q H locs cells slots ls C hP hz hS hl h1 h2 K
theorem ev_aastore {i n a ci : Nat} {f : Nat → Option Nat} {x : Int32} {vs : List Value} {hh : tv_Hp} (q : Nat) (hd : decode cc pc = .ok (.aastore, 1)) (hq : pc + 1 = q) (hi : i < 1000) (hc : h[i]? = some (.inr (.inl (n, f)))) (hin : vp_in x n) (ha1 : a < 1000) (hca : h[a]? = some (.inr (.inr (5, vs)))) (hs : h.set i (.inr (.inl (n, va_up f x.toNatClampNeg (some a)))) = hh) (k : tv_E g l y cc nL ret d kc ks q L st hh r h') : tv_E g l y cc nL ret d kc ks pc L (.ref a :: .int x :: .ref i :: st) h r h' := by
  subst hq
  intro p e R s m args below meth c Q H locs cells slots ls C hP hz hS hl h1 h2 K
  have ha : tv_cv g (.ref i) = .ref (tv_N g + i) := by simp [tv_cv, tv_ad, hi]
  have haa : tv_cv g (.ref a) = .ref (tv_N g + a) := by simp [tv_cv, tv_ad, ha1]
  show W p l e R s m args below meth c H locs cells slots Q (F0 m pc ls (tv_cv g (.ref a) :: .int x :: tv_cv g (.ref i) :: st.map (tv_cv g)))
  rw [ha, haa]
  refine va_astq C.1 C.2.1 C.2.2.2.2.1.2.2.1 hP (tv_DD g h) hS i 1 a 5 (r := (RX5, TX5, 12)) (tv_cc_get hc) rfl (tv_cc_get hca) rfl hin hd (fun H1 locs1 hP1 hD1 hS1 => ?_)
  have e1 : tv_cc g hh = (tv_cc g h).set i (tv_N g + i, .inl (tv_cS g, n, .inr (.inr (.inr (.inr (va_up (fun i => (f i).map (tv_ad g)) x.toNatClampNeg (some (tv_N g + a)))))))) := by
    rw [← hs, tv_cc_set]
    congr 2
    show (Sum.inl (tv_cS g, n, .inr (.inr (.inr (.inr (fun i => (va_up f x.toNatClampNeg (some a) i).map (tv_ad g)))))) : va_E) = _
    congr 7
    funext j
    unfold va_up
    split
    · simp [tv_ad, ha1]
    · rfl
  rw [← e1] at hP1
  exact k p e R s m args below meth c Q H1 locs1 cells slots ls C hP1 (by rw [← hs, List.length_set]; exact hz) hS1 hl h1 h2 K
end TVR
