/-! ===== what makes cells; the JDK's own ===== -/
section TVA
variable {g : tv_G} {l : Launch} {y : MethodName} {cc : ByteArray} {nL : Nat} {ret : Option FieldType} {d kc ks pc : Nat} {L st : List Value} {h : tv_Hp} {r : Option Value} {h' : tv_Hp}
theorem tv_roomc {g : tv_G} {st : List Value} (h : (st.map fun v => v.category).sum ≤ 8) : ((st.map (tv_cv g)).map fun v => v.category).sum ≤ 8 := by
  rw [List.map_map]
  have : ((fun v : Value => v.category) ∘ tv_cv g) = fun v => v.category := funext (fun v => tv_cat g v)
  rw [this]
  exact h
theorem ev_objInit {idx i : Nat} (q : Nat) (hd : decode cc pc = .ok (.invokespecial idx, 3)) (hq : pc + 3 = q) (hw : Cond.methodLink y.cls idx Lib.objectInit ∈ lw_tbl) (hw2 : Cond.instanceMethod Lib.objectInit ∈ lw_tbl) (hw3 : Cond.code Lib.objectInit ⟨#[0xb1]⟩ 1 none ∈ lw_tbl) (hdd : 1 ≤ d) (hroom : (st.map fun v => v.category).sum ≤ 8) (k : tv_E g l y cc nL ret d kc ks q L st h r h') : tv_E g l y cc nL ret d kc ks pc L (.ref i :: st) h r h' := by
  subst hq
  intro p e R s m args below meth c Q H locs cells slots ls C hP hz hS hl h1 h2 K
  have hd1 := C.2.2.2.2.2.1
  have hd2 := C.2.2.2.2.2.2.1
  have hr := tv_roomc (g := g) hroom
  refine W.objInit C.1 C.2.1 C.2.2.2.1 (C.2.2.2.2.1.in hw rfl) (C.2.2.2.2.1.in hw2 rfl) (C.2.2.2.2.1.in hw3 rfl) rfl (by rw [C.2.2.1]; exact hl.1) rfl hd (by omega) ?_ (k p e R s m args below meth c Q H locs cells slots ls C hP hz hS hl h1 h2 K)
  show 2 * 0 + _ + 12 ≤ _
  omega
def tv_okn (own : String) (idx ci N : Nat) (fs : List Value) : Prop := ∃ (C : String) (T : u_T) (ty0 : Nat → FieldType), vwCl[ci]? = some (C, T, N) ∧ (∀ w ∈ u_ws C T N, w ∈ lw_tbl) ∧ (∀ j, j < N → parseFieldDescriptor (T j).2.2.1 = some (ty0 j)) ∧ Cond.classLink own idx C ∈ lw_tbl ∧ Cond.instantiable C N ∈ lw_tbl ∧ Cond.initialized C ∈ lw_tbl ∧ (∀ j, j < N → defaultValue (ty0 j) = vp_V fs j)
theorem tv_new1 {D : va_G} {cl : List vw_C} {ws : va_W} {a : Nat} {e : va_E} {H H1 : Heap} (hP : va_P D cl ws H) (ho : ∀ q, q < H.size → H1[q]? = H[q]?) (he : va_at D cl (a, e) H1) : va_P D cl (ws ++ [(a, e)]) H1 := by
  refine (hP.kept (fun k x hx => ho x.1 ((hP k x hx).lt))).app (fun k x hx => ?_)
  have hz : k < 1 := (List.getElem?_eq_some_iff.mp hx).1
  rw [show k = 0 by omega] at hx
  cases hx
  exact he
theorem tv_newS {A : Nat → Prop} {H0 H H1 : Heap} {locs : List Loc} (hS : va_S A H0 H locs) (hz : H1.size = H.size + 1) (ho : ∀ q, q < H.size → H1[q]? = H[q]?) : va_S A H0 H1 locs :=
  ⟨Nat.le_trans hS.1 (by omega), fun x h1 h2 => (ho x (Nat.lt_of_lt_of_le h1 hS.1)).trans (hS.2.1 x h1 h2), hS.2.2⟩
theorem ev_new {idx ci N i : Nat} {fs : List Value} (q : Nat) (hd : decode cc pc = .ok (.new idx, 3)) (hq : pc + 3 = q) (ho : tv_okn y.cls idx ci N fs) (hfs : ∀ g : tv_G, fs.map (tv_cv g) = fs) (hlen : h.length = i) (hi : i < 1000) (k : tv_E g l y cc nL ret d kc ks q L (.ref i :: st) (h ++ [.inr (.inr (ci, fs))]) r h') : tv_E g l y cc nL ret d (1 + kc) (N + ks) pc L st h r h' := by
  subst hq; subst hlen
  intro p e R s m args below meth c Q H locs cells slots ls C hP hz hS hl h1 h2 K
  refine tv_sized (fun hu => ?_)
  have hsz := tv_size hP hz C.2.2.2.2.1.2.2.2.1 hS hu
  obtain ⟨C0, T, ty0, f1, f2, f3, f4, f5, f6, f7⟩ := ho
  have hts : ∀ w ∈ u_ws C0 T N, w.before args s = true := fun w hw => C.2.2.2.2.1.in (f2 w hw) (tv_lay_gw hw)
  have hKn := C.2.2.2.2.1.2.2.1.1 ci _ f1
  refine W.newcK C.1 C.2.1 C.2.2.2.1 (C.2.2.2.2.1.in f4 rfl) (C.2.2.2.2.1.in f5 rfl) (C.2.2.2.2.1.in f6 rfl) rfl hd (by omega) (by omega) hKn.2.1 hsz fun H1 kC hkC e1 z1 o1 => ?_
  have ha : tv_cv g (.ref h.length) = .ref (tv_N g + h.length) := by simp [tv_cv, tv_ad, hi]
  have hP1 : va_P (tv_D g) vwCl (tv_cc g (h ++ [.inr (.inr (ci, fs))])) H1 := by
    rw [tv_cc_app]
    refine tv_new1 hP (fun q hq => o1 q (by omega)) ⟨_, f1, ?_⟩
    refine (u_born ty0 hts (fun w hw => hw) hKn hkC e1 f3).to (fun j hj => ?_)
    show _ = vp_V (fs.map (tv_cv g)) j
    rw [hfs g]
    exact f7 j hj
  have k1 := k p e R s m args below meth c Q H1 locs (cells + 1) (slots + N) ls C hP1 (by rw [List.length_append]; simp only [List.length_cons, List.length_nil]; omega) (tv_newS hS (by omega) (fun q hq => o1 q (by omega))) hl (by omega) (by omega) (by rw [Nat.add_assoc, Nat.add_assoc]; exact K)
  rw [List.map_cons, ha] at k1
  exact k1
theorem ev_newarray {n : Int32} {N i : Nat} (q : Nat) (hd : decode cc pc = .ok (.newarray .int, 2)) (hq : pc + 2 = q) (hw : Cond.arrayClass .int ∈ lw_tbl) (hn : ¬ n < 0) (hN : n.toNatClampNeg = N) (hb : N ≤ 100000) (hlen : h.length = i) (hi : i < 1000) (k : tv_E g l y cc nL ret d kc ks q L (.ref i :: st) (h ++ [.inl (N, fun _ => 0)]) r h') : tv_E g l y cc nL ret d (1 + kc) (N + ks) pc L (.int n :: st) h r h' := by
  subst hq; subst hlen
  intro p e R s m args below meth c Q H locs cells slots ls C hP hz hS hl h1 h2 K
  refine tv_sized (fun hu => ?_)
  have hsz := tv_size hP hz C.2.2.2.2.1.2.2.2.1 hS hu
  refine va_newaK (atype := .int) C.1 C.2.1 (C.2.2.2.2.1.in hw rfl) rfl hd rfl hn hN (by show N * 4 ≤ 536870912; omega) (by omega) (by omega) hsz fun H1 cA e1 z1 o1 hAr hNm => ?_
  have hcI : cA = tv_cI g := by
    have := (C.2.2.2.2.1.2.2.1.2 0 _ rfl).2
    exact Option.some.inj (hNm.symm.trans this)
  subst hcI
  have ha : tv_cv g (.ref h.length) = .ref (tv_N g + h.length) := by simp [tv_cv, tv_ad, hi]
  have hP1 : va_P (tv_D g) vwCl (tv_cc g (h ++ [.inl (N, fun _ => 0)])) H1 := by
    rw [tv_cc_app]
    exact tv_new1 hP (fun q hq => o1 q (by omega)) e1
  have k1 := k p e R s m args below meth c Q H1 locs (cells + 1) (slots + N) ls C hP1 (by rw [List.length_append]; simp only [List.length_cons, List.length_nil]; omega) (tv_newS hS (by omega) (fun q hq => o1 q (by omega))) hl (by omega) (by omega) (by rw [Nat.add_assoc, Nat.add_assoc]; exact K)
  rw [List.map_cons, ha] at k1
  exact k1
theorem ev_anewarray {n : Int32} {N i idx : Nat} (q : Nat) (hd : decode cc pc = .ok (.anewarray idx, 3)) (hq : pc + 3 = q) (hw : Cond.classLink y.cls idx RX5 ∈ lw_tbl) (hn : ¬ n < 0) (hN : n.toNatClampNeg = N) (hb : N ≤ 100000) (hlen : h.length = i) (hi : i < 1000) (k : tv_E g l y cc nL ret d kc ks q L (.ref i :: st) (h ++ [.inr (.inl (N, fun _ => none))]) r h') : tv_E g l y cc nL ret d (1 + kc) (N + ks) pc L (.int n :: st) h r h' := by
  subst hq; subst hlen; subst hN
  intro p e R s m args below meth c Q H locs cells slots ls C hP hz hS hl h1 h2 K
  refine tv_sized (fun hu => ?_)
  have hsz := tv_size hP hz C.2.2.2.2.1.2.2.2.1 hS hu
  refine W.anew C.1 C.2.1 C.2.2.2.1 (C.2.2.2.2.1.in hw rfl) (va_AO.use C.2.2.2.2.1.2.1) rfl hd rfl hn (by omega) (by omega) (by omega) fun cA kA comp f1 f2 f3 f4 => ?_
  generalize hH1 : H.push ({ cls := cA, slots := Array.replicate n.toNatClampNeg .null, vm := .none } : Cell) = H1
  have z1 : H1.size = H.size + 1 := by rw [← hH1, Array.size_push]
  have e1 : H1[H.size]? = some (arrV cA n.toNatClampNeg (fun _ => .null)) := by rw [← hH1, Array.getElem?_push_size, ← arrV_new]
  have o1 : ∀ q : Nat, q < H.size → H1[q]? = H[q]? := fun q hq => by rw [← hH1, Array.getElem?_push, if_neg (Nat.ne_of_lt hq)]
  have hcS : cA = tv_cS g := by
    obtain ⟨k2, c2, u1, u2, u3, u4⟩ := (C.2.2.2.2.1.2.2.1.2 1 _ rfl).2
    exact Option.some.inj (f1.symm.trans u4)
  subst hcS
  rw [hsz] at e1
  have ha : tv_cv g (.ref h.length) = .ref H.size := by rw [hsz]; simp [tv_cv, tv_ad, hi]
  have hP1 : va_P (tv_D g) vwCl (tv_cc g (h ++ [.inr (.inl (n.toNatClampNeg, fun _ => none))])) H1 := by
    rw [tv_cc_app]
    exact tv_new1 hP o1 e1
  have k1 := k p e R s m args below meth c Q H1 locs (cells + 1) (slots + n.toNatClampNeg) ls C hP1 (by rw [List.length_append]; simp only [List.length_cons, List.length_nil]; omega) (tv_newS hS z1 o1) hl (by omega) (by omega) (by rw [Nat.add_assoc, Nat.add_assoc]; exact K)
  rw [List.map_cons, ha] at k1
  exact k1
/-! System.arraycopy of ints, Math.min -/
def tv_cp (n0 : Nat) (f : Nat → Int32) (n1 : Nat) (f1 : Nat → Int32) (sp dp n : Int32) : Option (Nat → Int32) := if sp < 0 ∨ dp < 0 ∨ n < 0 ∨ n0 < sp.toNatClampNeg + n.toNatClampNeg ∨ n1 < dp.toNatClampNeg + n.toNatClampNeg then none else some (va_cpy f f1 sp.toNatClampNeg dp.toNatClampNeg n.toNatClampNeg)
theorem tv_cp_some {n0 n1 : Nat} {f f1 f2 : Nat → Int32} {sp dp n : Int32} (h : tv_cp n0 f n1 f1 sp dp n = some f2) : ¬ sp < 0 ∧ ¬ dp < 0 ∧ ¬ n < 0 ∧ sp.toNatClampNeg + n.toNatClampNeg ≤ n0 ∧ dp.toNatClampNeg + n.toNatClampNeg ≤ n1 ∧ va_cpy f f1 sp.toNatClampNeg dp.toNatClampNeg n.toNatClampNeg = f2 := by
  unfold tv_cp at h
  split at h
  · cases h
  next hc =>
    refine ⟨fun z => hc (Or.inl z), fun z => hc (Or.inr (Or.inl z)), fun z => hc (Or.inr (Or.inr (Or.inl z))), ?_, ?_, Option.some.inj h⟩
    · exact Nat.not_lt.mp (fun z => hc (Or.inr (Or.inr (Or.inr (Or.inl z)))))
    · exact Nat.not_lt.mp (fun z => hc (Or.inr (Or.inr (Or.inr (Or.inr z)))))
theorem ev_arraycopy {idx i j n0 n1 : Nat} {f f1 f2 : Nat → Int32} {sp dp n : Int32} {hh : tv_Hp} (q : Nat) (hd : decode cc pc = .ok (.invokestatic idx, 3)) (hq : pc + 3 = q) (hw : Cond.methodLink y.cls idx arraycopyName ∈ lw_tbl) (hw1 : Cond.native arraycopyName ∈ lw_tbl) (hw2 : Cond.static arraycopyName ∈ lw_tbl) (hw3 : Cond.initialized "java/lang/System" ∈ lw_tbl) (hdd : 1 ≤ d) (hroom : (st.map fun v => v.category).sum ≤ 8) (hi : i < 1000) (hj : j < 1000) (hci : h[i]? = some (.inl (n0, f))) (hcj : h[j]? = some (.inl (n1, f1))) (hr : tv_cp n0 f n1 f1 sp dp n = some f2) (hs : h.set j (.inl (n1, f2)) = hh) (k : tv_E g l y cc nL ret d kc ks q L st hh r h') : tv_E g l y cc nL ret d kc ks pc L (.int n :: .int dp :: .ref j :: .int sp :: .ref i :: st) h r h' := by
  subst hq
  intro p e R s m args below meth c Q H locs cells slots ls C hP hz hS hl h1 h2 K
  obtain ⟨a1, a2, a3, a4, a5, a6⟩ := tv_cp_some hr
  subst a6
  have hd1 := C.2.2.2.2.2.1
  have hd2 := C.2.2.2.2.2.2.1
  have hrm := tv_roomc (g := g) hroom
  have ha : tv_cv g (.ref i) = .ref (tv_N g + i) := by simp [tv_cv, tv_ad, hi]
  have hb : tv_cv g (.ref j) = .ref (tv_N g + j) := by simp [tv_cv, tv_ad, hj]
  show W p l e R s m args below meth c H locs cells slots Q (F0 m pc ls (.int n :: .int dp :: tv_cv g (.ref j) :: .int sp :: tv_cv g (.ref i) :: st.map (tv_cv g)))
  rw [ha, hb]
  have hnw : nativeFrameWords "java/lang/System" "arraycopy" 5 = 7 := by decide +kernel
  refine va_copyi C.1 C.2.1 (by rw [C.2.2.1]; exact hl.1.symm) C.2.2.2.1 (C.2.2.2.2.1.in hw rfl) (C.2.2.2.2.1.in hw1 rfl) (C.2.2.2.2.1.in hw2 rfl) (C.2.2.2.2.1.in hw3 rfl) C.2.2.2.2.1.2.2.1 hP (tv_DD g h) hS i j 0 0 (ty := .int) (tv_cc_get hci) (tv_cc_get hcj) rfl rfl rfl a1 a2 a3 a4 a5 (fun _ _ => rfl) (by omega) (by rw [hnw]; omega) hd (fun H1 locs1 hP1 hD1 hS1 => ?_)
  have e1 : tv_cc g hh = (tv_cc g h).set j (tv_N g + j, .inl (tv_cI g, n1, .inl (va_cpy f f1 sp.toNatClampNeg dp.toNatClampNeg n.toNatClampNeg))) := by
    rw [← hs, tv_cc_set]
    rfl
  rw [← e1] at hP1
  exact k p e R s m args below meth c Q H1 locs1 cells slots ls C hP1 (by rw [← hs, List.length_set]; exact hz) hS1 hl h1 h2 K
theorem ev_min {idx : Nat} {a b : Int32} (q : Nat) (hd : decode cc pc = .ok (.invokestatic idx, 3)) (hq : pc + 3 = q) (hw : Cond.methodLink y.cls idx Lib.Math.min.name ∈ lw_tbl) (hw1 : Cond.static Lib.Math.min.name ∈ lw_tbl) (hw2 : Cond.initialized "java/lang/Math" ∈ lw_tbl) (hw3 : Cond.code Lib.Math.min.name Lib.Math.min.code 2 (some .int) ∈ lw_tbl) (hdd : 1 ≤ d) (hroom : (st.map fun v => v.category).sum ≤ 8) (k : tv_E g l y cc nL ret d kc ks q L (.int (if b < a then b else a) :: st) h r h') : tv_E g l y cc nL ret d kc ks pc L (.int b :: .int a :: st) h r h' := by
  subst hq
  intro p e R s m args below meth c Q H locs cells slots ls C hP hz hS hl h1 h2 K
  have hd1 := C.2.2.2.2.2.1
  have hd2 := C.2.2.2.2.2.2.1
  have hrm := tv_roomc (g := g) hroom
  exact va_mmin C.1 C.2.1 (by rw [C.2.2.1]; exact hl.1.symm) C.2.2.2.1 (C.2.2.2.2.1.in hw rfl) (C.2.2.2.2.1.in hw1 rfl) (C.2.2.2.2.1.in hw2 rfl) (C.2.2.2.2.1.in hw3 rfl) (by omega) (by omega) (by omega) (by omega) hd (k p e R s m args below meth c Q H locs cells slots ls C hP hz hS hl h1 h2 K)
theorem tv_copied {n : Int32} {sp dp : Int32} {scr : Cell} {cc1 c0 : ClassId} {L0 n1 : Nat} {xs f1 : Nat → Int32} (hsz : scr.slots.size = L0) (hv : ∀ j : Nat, j < L0 → scr.slots[j]? = some (.int (xs j))) (hs : sp.toNatClampNeg + n.toNatClampNeg ≤ L0) : copied scr (vp_cell cc1 (n1, .inl f1)) sp dp n = vp_cell cc1 (n1, .inl (va_cpy xs f1 sp.toNatClampNeg dp.toNatClampNeg n.toNatClampNeg)) := by
  have e : scr.stretch sp.toNatClampNeg n.toNatClampNeg = (arrV c0 L0 (fun j => Value.int (xs j))).stretch sp.toNatClampNeg n.toNatClampNeg := by
    unfold Cell.stretch
    apply List.map_congr_left
    intro i hi
    have hi' := List.mem_range.mp hi
    rw [Array.getD_eq_getD_getElem?, Array.getD_eq_getD_getElem?, arrV_read _ _ (by omega), hv _ (by omega)]
  have e2 := va_copied (fun z => Value.int z) c0 cc1 (n0 := L0) (n1 := n1) (sp := sp.toNatClampNeg) (dp := dp.toNatClampNeg) (n := n.toNatClampNeg) xs f1 hs
  rw [← e] at e2
  exact e2
theorem ev_arraycopyX {idx i j n1 : Nat} {f1 f2 : Nat → Int32} {sp dp n : Int32} {hh : tv_Hp} (q : Nat) (hd : decode cc pc = .ok (.invokestatic idx, 3)) (hq : pc + 3 = q) (hw : Cond.methodLink y.cls idx arraycopyName ∈ lw_tbl) (hw1 : Cond.native arraycopyName ∈ lw_tbl) (hw2 : Cond.static arraycopyName ∈ lw_tbl) (hw3 : Cond.initialized "java/lang/System" ∈ lw_tbl) (hdd : 1 ≤ d) (hroom : (st.map fun v => v.category).sum ≤ 8) (hi : i < 4) (hj : j < 1000) (hcj : h[j]? = some (.inl (n1, f1))) (hr : tv_cp (tv_XL g i) (tv_X g i) n1 f1 sp dp n = some f2) (hs : h.set j (.inl (n1, f2)) = hh) (k : tv_E g l y cc nL ret d kc ks q L st hh r h') : tv_E g l y cc nL ret d kc ks pc L (.int n :: .int dp :: .ref j :: .int sp :: .ref (1000 + i) :: st) h r h' := by
  subst hq
  intro p e R s m args below meth c Q H locs cells slots ls C hP hz hS hl h1 h2 K
  obtain ⟨a1, a2, a3, a4, a5, a6⟩ := tv_cp_some hr
  subst a6
  have hd1 := C.2.2.2.2.2.1
  have hd2 := C.2.2.2.2.2.2.1
  have hrm := tv_roomc (g := g) hroom
  have ha : tv_cv g (.ref (1000 + i)) = .ref (tv_xa g i) := by rw [← tv_adx g i]; rfl
  have hb : tv_cv g (.ref j) = .ref (tv_N g + j) := by simp [tv_cv, tv_ad, hj]
  show W p l e R s m args below meth c H locs cells slots Q (F0 m pc ls (.int n :: .int dp :: tv_cv g (.ref j) :: .int sp :: tv_cv g (.ref (1000 + i)) :: st.map (tv_cv g)))
  rw [ha, hb]
  have hnw : nativeFrameWords "java/lang/System" "arraycopy" 5 = 7 := by decide +kernel
  have nn : ∀ z : Int32, ¬ z < 0 → z.toInt = (z.toNatClampNeg : Int) := by
    intro z hz
    have hz0 : (0 : Int) ≤ z.toInt := by
      have := Int32.not_lt.mp hz
      simpa using Int32.le_iff_toInt_le.mp this
    show z.toInt = ((z.toInt.toNat : Nat) : Int)
    omega
  obtain ⟨hX, hxl⟩ := C.2.2.2.2.1.2.2.2.2.1 i hi
  have hN := C.2.2.2.2.1.2.2.2.1
  have hX := hX.kept (hS.2.1 _ (Nat.lt_of_lt_of_le hxl hN) (Nat.not_le.mpr hxl))
  obtain ⟨scr, x1, ⟨x2, k0, hk0, cm0, hkk0⟩, x3, x4, x5⟩ := hX
  have hc1 : H[tv_N g + j]? = some (vp_cell (tv_cI g) (n1, .inl f1)) := hP j _ (tv_cc_get hcj)
  obtain ⟨-, k1, hk1, cm1, hkk1⟩ := (C.2.2.2.2.1.2.2.1.2 0 _ rfl).1 n1 (fun j => .int (f1 j))
  have hD := tv_DD g h
  intro T hT X
  obtain ⟨vm', X', step⟩ := X.arraycopy C.1 C.2.2.2.1 (C.2.2.2.2.1.in hw rfl) (C.2.2.2.2.1.in hw1 rfl) (C.2.2.2.2.1.in hw2 rfl) (C.2.2.2.2.1.in hw3 rfl) (src := tv_xa g i) (dst := tv_N g + j) (cs := scr) (cd := vp_cell (tv_cI g) (n1, .inl f1)) (srcPos := sp) (destPos := dp) (n := n) (by rw [hT]; exact x1) (by rw [hT]; exact hc1)
    x2 (fun _ h => by cases h) x3 (fun h => by cases h) hk0 hk1 hkk0 hkk1 rfl a1 a2 a3
    (by rw [nn sp a1, nn n a3, x4]; omega)
    (by rw [nn dp a2, nn n a3]; show ¬ _ > ((arrV (tv_cI g) n1 (fun j => .int (f1 j))).slots.size : Int); rw [arrV_size]; omega)
    (fun vm₁ _ t ht => by
      have e : scr.slots.getD (sp.toNatClampNeg + t) .null = .int (tv_X g i (sp.toNatClampNeg + t)) := by
        rw [Array.getD_eq_getD_getElem?, x5 _ (by omega)]
        rfl
      rw [e]
      exact ⟨rfl, trivial⟩)
    (g := F0 m pc ls (.int n :: .int dp :: .ref (tv_N g + j) :: .int sp :: .ref (tv_xa g i) :: st.map (tv_cv g))) rfl (by rw [C.2.2.1]; exact hl.1) (rest := st.map (tv_cv g)) rfl (by rw [C.2.1]; exact hd) (by omega) (by show 2 * 0 + _ + _ ≤ _; rw [hnw]; omega)
  rw [tv_copied (c0 := 0) x4 x5 a4] at X' step
  have hlt : tv_N g + j < H.size := (Array.getElem?_eq_some_iff.mp hc1).1
  have e1 : tv_cc g hh = (tv_cc g h).set j (tv_N g + j, .inl (tv_cI g, n1, .inl (va_cpy (tv_X g i) f1 sp.toNatClampNeg dp.toNatClampNeg n.toNatClampNeg))) := by
    rw [← hs, tv_cc_set]
    rfl
  generalize hce : vp_cell (tv_cI g) (n1, .inl (va_cpy (tv_X g i) f1 sp.toNatClampNeg dp.toNatClampNeg n.toNatClampNeg)) = ce at X' step
  have hheap : ((T.setVm vm').setCell (tv_N g + j) ce).heap = H.setIfInBounds (tv_N g + j) ce := by rw [← hT]; rfl
  have oq : ∀ q : Nat, q ≠ tv_N g + j → (H.setIfInBounds (tv_N g + j) ce)[q]? = H[q]? := fun q hq => by simp [Array.getElem?_setIfInBounds, Ne.symm hq]
  have hP1 : va_P (tv_D g) vwCl (tv_cc g hh) (H.setIfInBounds (tv_N g + j) ce) := by
    rw [e1]
    refine hP.set hD (tv_cc_get hcj) (show (H.setIfInBounds _ _)[_]? = some _ from ?_) oq
    rw [hce]
    simp [Array.getElem?_setIfInBounds, hlt]
  obtain ⟨t, b1, b2⟩ := k p e R s m args below meth c Q _ _ cells slots ls C hP1 (by rw [← hs, List.length_set]; exact hz) ⟨by simp; exact hS.1, fun q q1 q2 => by
      rw [oq q (fun e => q2 (by rw [e]; exact hD.2 j _ (tv_cc_get hcj)))]
      exact hS.2.1 q q1 q2, fun q hq => by
      rcases List.mem_append.mp hq with z | z
      · exact hS.2.2 q z
      · obtain ⟨w, -, hw⟩ := List.mem_map.mp z
        rw [← hw]
        exact hD.2 j _ (tv_cc_get hcj)⟩ hl h1 h2 K _ hheap X'
  exact ⟨t, step t b1, b2⟩
end TVA
