/-! ===== calls ===== -/
def tv_lnk (own : String) (idx : Nat) (y : MethodName) : Prop := Cond.methodLink own idx y ∈ lw_tbl ∨ ∃ host, Cond.methodLinkNest own idx y host ∈ lw_tbl
def tv_okm (own : String) (idx : Nat) (y : MethodName) (cc : ByteArray) (nL : Nat) (ret : Option FieldType) (n : Nat) : Prop :=
  tv_lnk own idx y ∧ Cond.initialized y.cls ∈ lw_tbl ∧ Cond.code y cc nL ret ∈ lw_tbl ∧ plainName y.cls = true ∧ (y.cls ≠ "java/lang/invoke/MethodHandle" ∧ y.cls ≠ "java/lang/invoke/VarHandle" ∧ (parseMethodDescriptor y.desc).map (fun d => d.parameters.length) = some n) ∧ nL ≤ 21
abbrev tv_rm (d kc ks : Nat) : Room := { frames := d, cells := kc, slots := ks, locals := 40 * d }
def tv_Pc (g : tv_G) (h : tv_Hp) (vs : List Value) : Array Value → State → Prop := fun v U => v = (vs.map (tv_cv g)).toArray ∧ tv_Wd g U ∧ va_P (tv_D g) vwCl (tv_cc g h) U.heap ∧ U.heap.size = tv_N g + h.length
def tv_Qc (g : tv_G) (h' : tv_Hp) (r : Option Value) (kc : Nat) : Array Value → State → Outcome → State → Prop := fun _ st o t => o = .returned r ∧ va_P (tv_D g) vwCl (tv_cc g h') t.heap ∧ st.heap.size + kc = tv_N g + h'.length ∧ va_F (tv_A g) st t
theorem tv_Met {g : tv_G} {l : Launch} {y : MethodName} {cc : ByteArray} {nL : Nat} {ret : Option FieldType} {d kc ks : Nat} {vs : List Value} {h : tv_Hp} {r : Option Value} {h' : tv_Hp} (E : tv_E g l y cc nL ret d kc ks 0 (tv_in nL vs) [] h r h') (hp : plainName y.cls = true) (hlen : (tv_ex vs).length ≤ nL) :
    Met l y [Cond.code y cc nL ret] (tv_rm d kc ks) (tv_Pc g h vs) (tv_Qc g h' r kc) kc ks (tv_A g) := by
  refine Met.ofW (cc := cc) (maxL := nL) (ret := ret) hp rfl ?_
  intro p e s m args below meth c s₁ B hml hv
  obtain ⟨rfl, hW, hP, hz⟩ := hv
  have hown : s.vm.findClass y.cls = some m.cls := findClass_of_methodNamed B.named
  have hlocks := B.notSynchronized
  have hr := B.returns
  have hC : tv_Cx g y cc nL d p (tv_rm d kc ks) s m meth c := ⟨B.exec, B.bytes, hml, hown, hW, Nat.le_refl _, Nat.le_refl _, fun q => (name_of_methodNamed B.named B.method).1.trans q⟩
  have hl := lv_entry (vs.map (tv_cv g)) (n := nL) (by rw [tv_ex_len]; exact hlen)
  rw [lg_entry_eq]
  generalize (lg_sl (vs.map (tv_cv g)) ++ List.replicate (nL - (lg_sl (vs.map (tv_cv g))).length) Slot.unset).toArray = ls at hl ⊢
  have hfin : ∀ (locs : List Loc) (H : Heap), va_S (tv_A g) s.heap H locs → ∀ q ∈ locs, tv_A g q.base := fun locs H hS => hS.2.2
  refine E p e _ s m _ below meth c _ s.heap [] 0 0 ls hC hP (by rw [Nat.add_zero]; exact hz) va_S.rf (tv_entry hl) (by rw [Nat.zero_add]; exact Nat.le_refl _) (by rw [Nat.zero_add]; exact Nat.le_refl _) ?_
  intro pc' ls' H' locs' hrp hP' hz' hS'
  rw [Nat.zero_add, Nat.zero_add]
  rw [Nat.zero_add] at hz'
  match r, hrp with
  | none, hrp =>
    refine W.vret B.exec B.bytes (by rw [hr]; exact hrp.2) (fun t ht hw => ?_) (hfin locs' H' hS') hrp.1
    exact ⟨rfl, by rw [ht]; exact hP', hz', hS'.F ht⟩
  | some (.int v), ⟨h1, ty, h2, h3⟩ =>
    refine W.zret (ty := ty) B.exec B.bytes (by rw [hr]; exact h2) h3 (fun t ht hw => ?_) (hfin locs' H' hS') h1
    exact ⟨rfl, by rw [ht]; exact hP', hz', hS'.F ht⟩
  | some (.long v), hrp =>
    refine W.lret B.exec B.bytes (by rw [hr]; exact hrp.2) (fun t ht hw => ?_) (hfin locs' H' hS') hrp.1
    exact ⟨rfl, by rw [ht]; exact hP', hz', hS'.F ht⟩
theorem tv_sized {p : Program} {l : Launch} {e : Env} {R : Room} {s : State} {m : MethodId} {args : Array Value} {below : List Frame} {meth : Method} {c : Code} {H : Heap} {locs : List Loc} {cells slots : Nat} {Q : State → Prop} {f : JFrame} (k : H.size ≤ s.heap.size + cells → W p l e R s m args below meth c H locs cells slots Q f) : W p l e R s m args below meth c H locs cells slots Q f := by
  intro T hT X
  exact k (by rw [← hT]; exact X.heapSize) T hT X
theorem tv_size {g : tv_G} {h : tv_Hp} {H H0 : Heap} {locs : List Loc} {cells : Nat} (hP : va_P (tv_D g) vwCl (tv_cc g h) H) (hz : H0.size + cells = tv_N g + h.length) (hN : tv_N g ≤ H0.size) (hS : va_S (tv_A g) H0 H locs) (hu : H.size ≤ H0.size + cells) : H.size = tv_N g + h.length := by
  have h1 := hS.1
  cases hh : h.length with
  | zero => omega
  | succ n =>
    obtain ⟨e, he⟩ : ∃ e, h[n]? = some e := ⟨h[n]'(by omega), List.getElem?_eq_getElem (by omega)⟩
    have := (hP n _ (tv_cc_get he)).lt
    simp only at this
    omega
/-- behind a call -/
theorem tv_back {p : Program} {l : Launch} {e : Env} {R : Room} {s : State} {m : MethodId} {args : Array Value} {below : List Frame} {meth : Method} {c : Code} {H : Heap} {locs : List Loc} {cells slots : Nat} {Q : State → Prop} {pc : Nat} {ls : Array Slot} {st0 rest : List Value} {g : tv_G} {h1 : tv_Hp} {r1 : Option Value} {mc ms : Nat} {a : Array Value}
    (hr : va_Run p l e R s m args below meth c H locs cells slots mc ms (F0 m pc ls st0) rest (tv_Qc g h1 r1 mc a) (tv_A g)) (hS : va_S (tv_A g) s.heap H locs)
    (kk : ∀ (H1 : Heap) (locs1 : List Loc), va_P (tv_D g) vwCl (tv_cc g h1) H1 → H.size + mc = tv_N g + h1.length → va_S (tv_A g) s.heap H1 locs1 → W p l e R s m args below meth c H1 locs1 (cells + mc) (slots + ms) Q (F0 m (pc + 3) ls (r1.toList ++ rest))) : W p l e R s m args below meth c H locs cells slots Q (F0 m pc ls st0) := by
  intro T hT X
  obtain ⟨v, st₀, t, T', L, h0, X', hL, e1, e2, ⟨hv, hP, hz, hF1, hF2⟩, st⟩ := hr T hT X
  cases hv
  rw [h0] at hz hF1 hF2
  obtain ⟨t2, a1, b1⟩ := kk T'.heap (locs ++ L) (by rw [e1]; exact hP) hz
    ⟨Nat.le_trans hS.1 (by rw [e1]; exact hF1), fun q q1 q2 => by rw [e1, hF2 q (Nat.lt_of_lt_of_le q1 hS.1) q2]; exact hS.2.1 q q1 q2, fun q hq => by
      rcases List.mem_append.mp hq with z | z
      · exact hS.2.2 q z
      · exact hL q z⟩ T' rfl X'
  exact ⟨t2, st t2 a1, b1⟩
section TVC
variable {g : tv_G} {l : Launch} {y : MethodName} {cc : ByteArray} {nL : Nat} {ret : Option FieldType} {d kc ks pc : Nat} {L st : List Value} {h : tv_Hp} {r : Option Value} {h' : tv_Hp}
variable {y1 : MethodName} {cc1 : ByteArray} {nL1 : Nat} {ret1 : Option FieldType} {d1 kc1 ks1 idx n i : Nat} {L1 stk : List Value} {h1 : tv_Hp} {r1 : Option Value}
theorem tv_blind (g : tv_G) (h : tv_Hp) (vs : List Value) : FrameBlind (tv_Pc g h vs) := fun a U f mk q => ⟨q.1, q.2.1.blind f mk a, q.2.2⟩
theorem tv_goodc {w : Cond} {y : MethodName} {cc : ByteArray} {nL : Nat} {ret : Option FieldType} {ws : List Cond} (h : Cond.code y cc nL ret ∈ ws) : GoodIn ws [Cond.code y cc nL ret] := fun w hw => by
  rw [List.mem_singleton.mp hw]
  exact ⟨h, Or.inl rfl⟩
theorem ev_callVg (q : Nat) (As rest : List Value) (hd : decode cc pc = .ok (.invokevirtual idx, 3)) (hq : pc + 3 = q) (ho : tv_okm y.cls idx y1 cc1 nL1 ret1 n) (hv : Cond.instanceMethod y1 ∈ lw_tbl ∧ Cond.selects y1.cls y1 y1 ∈ lw_tbl) (hst : stk = As.reverse ++ .ref i :: rest) (hn : As.length = n) (hroom : (rest.map fun v => v.category).sum ≤ 8)
    (ci : Nat) (fs : List Value) (T : u_T) (N : Nat) (hci : vwCl[ci]? = some (y1.cls, T, N)) (hi : i < 1000) (hc : h[i]? = some (.inr (.inr (ci, fs)))) (hL1 : tv_in nL1 (.ref i :: As) = L1) (hlen : (tv_ex (.ref i :: As)).length ≤ nL1) (hdd : d1 + 1 ≤ d)
    (M : tv_E g l y1 cc1 nL1 ret1 d1 kc1 ks1 0 L1 [] h r1 h1) (k : tv_E g l y cc nL ret d kc ks q L (r1.toList ++ rest) h1 r h') (hr1 : ∀ v, r1 = some v → tv_cv g v = v) : tv_E g l y cc nL ret d (kc1 + kc) (ks1 + ks) pc L stk h r h' := by
  subst hq; subst hst; subst hL1
  intro p e R s m args below meth c Q H locs cells slots ls C hP hz hS hl g1 g2 K
  refine tv_sized (fun hu => ?_)
  have hsz := tv_size hP hz C.2.2.2.2.1.2.2.2.1 hS hu
  obtain ⟨o1, o2, o3, o4, o5, o6⟩ := ho
  have hts : ∀ w ∈ ([Cond.code y1 cc1 nL1 ret1] : List Cond), w.before args s = true := fun w hw => by rw [List.mem_singleton.mp hw]; exact C.2.2.2.2.1.in o3 rfl
  have hM := tv_Met M o4 hlen
  have ha : tv_cv g (.ref i) = .ref (tv_N g + i) := by simp [tv_cv, tv_ad, hi]
  have hst2 : (As.reverse ++ Value.ref i :: rest).map (tv_cv g) = (As.map (tv_cv g)).reverse ++ .ref (tv_N g + i) :: rest.map (tv_cv g) := by
    rw [List.map_append, List.map_reverse, List.map_cons, ha]
  rw [hst2]
  have hd1 := C.2.2.2.2.2.1
  have hd2 := C.2.2.2.2.2.2.1
  have hR : (tv_rm d1 kc1 ks1).frames + 1 ≤ R.frames ∧ 8 + (nL1 + 11) + (tv_rm d1 kc1 ks1).locals ≤ R.locals := by
    simp only [tv_rm]
    omega
  have hp : PreV s H y1.cls (tv_N g + i) (tv_Pc g h (.ref i :: As)) (As.map (tv_cv g)) := by
    refine ⟨tv_blind g h _, va_recv C.2.2.2.2.1.2.2.1 hP hci (tv_cc_get hc), fun U hU hW => ⟨?_, C.2.2.2.2.1.move hS hU hW, by rw [hU]; exact hP, by rw [hU]; exact hsz⟩⟩
    rw [List.map_cons, ha]
  have hin := C.2.2.2.2.1.in (a := args) hv.1 rfl
  have hse := C.2.2.2.2.1.in (a := args) hv.2 rfl
  have hini := C.2.2.2.2.1.in (a := args) o2 rfl
  have hrm : 2 * (F0 m pc ls ((As.map (tv_cv g)).reverse ++ .ref (tv_N g + i) :: rest.map (tv_cv g))).monitorRoom + ((rest.map (tv_cv g)).map fun v => v.category).sum ≤ 8 := by
    refine lv_room ?_
    rw [List.map_map]
    have : ((fun v : Value => v.category) ∘ tv_cv g) = fun v => v.category := funext (fun v => tv_cat g v)
    rw [this]
    exact hroom
  have hcells : cells + kc1 ≤ R.cells ∧ slots + ks1 ≤ R.slots := by omega
  have hrun : va_Run p l e R s m args below meth c H locs cells slots kc1 ks1 (F0 m pc ls ((As.map (tv_cv g)).reverse ++ .ref (tv_N g + i) :: rest.map (tv_cv g))) (rest.map (tv_cv g)) (tv_Qc g h1 r1 kc1 (Value.ref (tv_N g + i) :: As.map (tv_cv g)).toArray) (tv_A g) := by
    rcases o1 with o1 | ⟨host, o1⟩
    · exact va_runV ⟨C.1, C.2.1, C.2.2.1, C.2.2.2.1, hts⟩ hM ⟨callB_of (bytes := cc1) (maxL := nL1) (ret := ret1) n hts (tv_goodc (w := .tt) (List.mem_singleton.mpr rfl)) rfl rfl rfl hini (C.2.2.2.2.1.in o1 rfl) o5 hR, hin, hse⟩ hp rfl (by rw [List.length_map]; exact hn) hl.1 rfl hrm hd hcells
    · exact va_runVN ⟨C.1, C.2.1, C.2.2.1, C.2.2.2.1, hts⟩ hM ⟨va_cnB (host := host) (bytes := cc1) (maxL := nL1) (ret := ret1) n hts (tv_goodc (w := .tt) (List.mem_singleton.mpr rfl)) rfl rfl rfl (C.2.2.2.2.1.in o1 rfl) hini o5 hR, hin, hse⟩ hp rfl (by rw [List.length_map]; exact hn) hl.1 rfl hrm hd hcells
  refine tv_back hrun hS (fun H1 locs1 hP1 hz1 hS1 => ?_)
  have hst3 : r1.toList ++ rest.map (tv_cv g) = (r1.toList ++ rest).map (tv_cv g) := by
    rw [List.map_append]
    congr 1
    cases r1 with
    | none => rfl
    | some v => simp [hr1 v rfl]
  rw [hst3]
  refine k p e R s m args below meth c Q H1 locs1 (cells + kc1) (slots + ks1) ls C hP1 (by omega) hS1 hl (by omega) (by omega) ?_
  rw [Nat.add_assoc, Nat.add_assoc]
  exact K
theorem ev_callSg (q : Nat) (As rest : List Value) (hd : decode cc pc = .ok (.invokestatic idx, 3)) (hq : pc + 3 = q) (ho : tv_okm y.cls idx y1 cc1 nL1 ret1 n) (hv : Cond.static y1 ∈ lw_tbl) (hst : stk = As.reverse ++ rest) (hn : As.length = n) (hroom : (rest.map fun v => v.category).sum ≤ 8)
    (hL1 : tv_in nL1 As = L1) (hlen : (tv_ex As).length ≤ nL1) (hdd : d1 + 1 ≤ d)
    (M : tv_E g l y1 cc1 nL1 ret1 d1 kc1 ks1 0 L1 [] h r1 h1) (k : tv_E g l y cc nL ret d kc ks q L (r1.toList ++ rest) h1 r h') (hr1 : ∀ v, r1 = some v → tv_cv g v = v) : tv_E g l y cc nL ret d (kc1 + kc) (ks1 + ks) pc L stk h r h' := by
  subst hq; subst hst; subst hL1
  intro p e R s m args below meth c Q H locs cells slots ls C hP hz hS hl g1 g2 K
  refine tv_sized (fun hu => ?_)
  have hsz := tv_size hP hz C.2.2.2.2.1.2.2.2.1 hS hu
  obtain ⟨o1, o2, o3, o4, o5, o6⟩ := ho
  have hts : ∀ w ∈ ([Cond.code y1 cc1 nL1 ret1] : List Cond), w.before args s = true := fun w hw => by rw [List.mem_singleton.mp hw]; exact C.2.2.2.2.1.in o3 rfl
  have hM := tv_Met M o4 hlen
  have hst2 : (As.reverse ++ rest).map (tv_cv g) = (As.map (tv_cv g)).reverse ++ rest.map (tv_cv g) := by
    rw [List.map_append, List.map_reverse]
  rw [hst2]
  have hd1 := C.2.2.2.2.2.1
  have hd2 := C.2.2.2.2.2.2.1
  have hR : (tv_rm d1 kc1 ks1).frames + 1 ≤ R.frames ∧ 8 + (nL1 + 11) + (tv_rm d1 kc1 ks1).locals ≤ R.locals := by
    simp only [tv_rm]
    omega
  have hp : PreS s H (tv_Pc g h As) (As.map (tv_cv g)) :=
    ⟨tv_blind g h _, fun U hU hW => ⟨rfl, C.2.2.2.2.1.move hS hU hW, by rw [hU]; exact hP, by rw [hU]; exact hsz⟩⟩
  have hin := C.2.2.2.2.1.in (a := args) hv rfl
  have hini := C.2.2.2.2.1.in (a := args) o2 rfl
  have hrm : 2 * (F0 m pc ls ((As.map (tv_cv g)).reverse ++ rest.map (tv_cv g))).monitorRoom + ((rest.map (tv_cv g)).map fun v => v.category).sum ≤ 8 := by
    refine lv_room ?_
    rw [List.map_map]
    have : ((fun v : Value => v.category) ∘ tv_cv g) = fun v => v.category := funext (fun v => tv_cat g v)
    rw [this]
    exact hroom
  have hcells : cells + kc1 ≤ R.cells ∧ slots + ks1 ≤ R.slots := by omega
  have hrun : va_Run p l e R s m args below meth c H locs cells slots kc1 ks1 (F0 m pc ls ((As.map (tv_cv g)).reverse ++ rest.map (tv_cv g))) (rest.map (tv_cv g)) (tv_Qc g h1 r1 kc1 (As.map (tv_cv g)).toArray) (tv_A g) := by
    rcases o1 with o1 | ⟨host, o1⟩
    · exact va_runS ⟨C.1, C.2.1, C.2.2.1, C.2.2.2.1, hts⟩ hM ⟨callB_of (bytes := cc1) (maxL := nL1) (ret := ret1) n hts (tv_goodc (w := .tt) (List.mem_singleton.mpr rfl)) rfl rfl rfl hini (C.2.2.2.2.1.in o1 rfl) o5 hR, hin⟩ hp rfl (by rw [List.length_map]; exact hn) hl.1 rfl hrm hd hcells
    · exact va_runSN ⟨C.1, C.2.1, C.2.2.1, C.2.2.2.1, hts⟩ hM ⟨va_cnB (host := host) (bytes := cc1) (maxL := nL1) (ret := ret1) n hts (tv_goodc (w := .tt) (List.mem_singleton.mpr rfl)) rfl rfl rfl (C.2.2.2.2.1.in o1 rfl) hini o5 hR, hin, trivial⟩ hp rfl (by rw [List.length_map]; exact hn) hl.1 rfl hrm hd hcells
  refine tv_back hrun hS (fun H1 locs1 hP1 hz1 hS1 => ?_)
  have hst3 : r1.toList ++ rest.map (tv_cv g) = (r1.toList ++ rest).map (tv_cv g) := by
    rw [List.map_append]
    congr 1
    cases r1 with
    | none => rfl
    | some v => simp [hr1 v rfl]
  rw [hst3]
  refine k p e R s m args below meth c Q H1 locs1 (cells + kc1) (slots + ks1) ls C hP1 (by omega) hS1 hl (by omega) (by omega) ?_
  rw [Nat.add_assoc, Nat.add_assoc]
  exact K
theorem ev_callIg (q : Nat) (As rest : List Value) (hd : decode cc pc = .ok (.invokespecial idx, 3)) (hq : pc + 3 = q) (ho : tv_okm y.cls idx y1 cc1 nL1 none n) (hv : Cond.instanceMethod y1 ∈ lw_tbl ∧ y1.name = "<init>") (hst : stk = As.reverse ++ .ref i :: rest) (hn : As.length = n) (hroom : (rest.map fun v => v.category).sum ≤ 8)
    (hi : i < 1000) (hL1 : tv_in nL1 (.ref i :: As) = L1) (hlen : (tv_ex (.ref i :: As)).length ≤ nL1) (hdd : d1 + 1 ≤ d)
    (M : tv_E g l y1 cc1 nL1 none d1 kc1 ks1 0 L1 [] h none h1) (k : tv_E g l y cc nL ret d kc ks q L rest h1 r h') : tv_E g l y cc nL ret d (kc1 + kc) (ks1 + ks) pc L stk h r h' := by
  subst hq; subst hst; subst hL1
  intro p e R s m args below meth c Q H locs cells slots ls C hP hz hS hl g1 g2 K
  refine tv_sized (fun hu => ?_)
  have hsz := tv_size hP hz C.2.2.2.2.1.2.2.2.1 hS hu
  obtain ⟨o1, o2, o3, o4, o5, o6⟩ := ho
  have hts : ∀ w ∈ ([Cond.code y1 cc1 nL1 none] : List Cond), w.before args s = true := fun w hw => by rw [List.mem_singleton.mp hw]; exact C.2.2.2.2.1.in o3 rfl
  have hM := tv_Met M o4 hlen
  have ha : tv_cv g (.ref i) = .ref (tv_N g + i) := by simp [tv_cv, tv_ad, hi]
  have hst2 : (As.reverse ++ Value.ref i :: rest).map (tv_cv g) = (As.map (tv_cv g)).reverse ++ .ref (tv_N g + i) :: rest.map (tv_cv g) := by
    rw [List.map_append, List.map_reverse, List.map_cons, ha]
  rw [hst2]
  have hd1 := C.2.2.2.2.2.1
  have hd2 := C.2.2.2.2.2.2.1
  have hR : (tv_rm d1 kc1 ks1).frames + 1 ≤ R.frames ∧ 8 + (nL1 + 11) + (tv_rm d1 kc1 ks1).locals ≤ R.locals := by
    simp only [tv_rm]
    omega
  have hp : PreS s H (tv_Pc g h (.ref i :: As)) (.ref (tv_N g + i) :: As.map (tv_cv g)) := by
    refine ⟨tv_blind g h _, fun U hU hW => ⟨?_, C.2.2.2.2.1.move hS hU hW, by rw [hU]; exact hP, by rw [hU]; exact hsz⟩⟩
    rw [List.map_cons, ha]
  have hin := C.2.2.2.2.1.in (a := args) hv.1 rfl
  have hini := C.2.2.2.2.1.in (a := args) o2 rfl
  have hrm : 2 * (F0 m pc ls ((As.map (tv_cv g)).reverse ++ .ref (tv_N g + i) :: rest.map (tv_cv g))).monitorRoom + ((rest.map (tv_cv g)).map fun v => v.category).sum ≤ 8 := by
    refine lv_room ?_
    rw [List.map_map]
    have : ((fun v : Value => v.category) ∘ tv_cv g) = fun v => v.category := funext (fun v => tv_cat g v)
    rw [this]
    exact hroom
  have hcells : cells + kc1 ≤ R.cells ∧ slots + ks1 ≤ R.slots := by omega
  have hrun : va_Run p l e R s m args below meth c H locs cells slots kc1 ks1 (F0 m pc ls ((As.map (tv_cv g)).reverse ++ .ref (tv_N g + i) :: rest.map (tv_cv g))) (rest.map (tv_cv g)) (tv_Qc g h1 none kc1 (Value.ref (tv_N g + i) :: As.map (tv_cv g)).toArray) (tv_A g) := by
    rcases o1 with o1 | ⟨host, o1⟩
    · exact va_runI ⟨C.1, C.2.1, C.2.2.1, C.2.2.2.1, hts⟩ hM ⟨callB_of (bytes := cc1) (maxL := nL1) (ret := none) n hts (tv_goodc (w := .tt) (List.mem_singleton.mpr rfl)) rfl rfl rfl hini (C.2.2.2.2.1.in o1 rfl) o5 hR, hv.2, hin⟩ hp rfl (by rw [List.length_map]; exact hn) hl.1 rfl hrm hd hcells
    · exact va_runIN ⟨C.1, C.2.1, C.2.2.1, C.2.2.2.1, hts⟩ hM ⟨va_cnB (host := host) (bytes := cc1) (maxL := nL1) (ret := none) n hts (tv_goodc (w := .tt) (List.mem_singleton.mpr rfl)) rfl rfl rfl (C.2.2.2.2.1.in o1 rfl) hini o5 hR, hv.2, hin⟩ hp rfl (by rw [List.length_map]; exact hn) hl.1 rfl hrm hd hcells
  refine tv_back hrun hS (fun H1 locs1 hP1 hz1 hS1 => ?_)
  refine k p e R s m args below meth c Q H1 locs1 (cells + kc1) (slots + ks1) ls C hP1 (by omega) hS1 hl (by omega) (by omega) ?_
  rw [Nat.add_assoc, Nat.add_assoc]
  exact K
end TVC
